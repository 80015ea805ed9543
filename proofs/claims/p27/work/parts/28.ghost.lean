/-! THE REFERENCE'S FUNCTIONS, as a ghost: pure text, no contract of it is used; laid by wip/whole/walk.py, taken by wip/p27/mkcopy.py -/
noncomputable def F8_thrown (z : MS)  : Option (Int32) :=
  some (z 43 7)
noncomputable def F8_refused (z : MS) (p0 : Int32) : Option (MS × Int32) :=
  bd (up2 z 43 7 p0) fun z1 =>
  jp (fun (x4 : Int32) => bz x4 (some (z1, x4))) fun k2 =>
  if p0 ≤ 0 then
  k2 0
  else
  k2 1
noncomputable def F8_in (p0 p1 p2 : Int32) : Option (Int32) :=
  jp (fun (x5 : Int32) => bz x5 (some x5)) fun k1 =>
  jp (fun (_ : Unit) => k1 0) fun k2 =>
  if p0 < p1 then
  k2 ()
  else
  if p2 < p0 then
  k2 ()
  else
  k1 1
noncomputable def F8_isLetter (p0 : Int32) : Option (Int32) :=
  bn (F8_in p0 0 25) fun x1 =>
  bz x1 (some x1)
noncomputable def F8_isDefined (z : MS) (p0 : Int32) : Option (Int32) :=
  rd (z 0) 2153 p0 fun x1 =>
  jp (fun (x4 : Int32) => bz x4 (some x4)) fun k2 =>
  if x1 < 0 then
  k2 0
  else
  k2 1
noncomputable def F8_longOf (z : MS) (p0 : Int32) : Option (Int32) :=
  jp (fun (x5 : Int32) => some x5) fun k1 =>
  if ¬ p0 = 27 then
  if ¬ p0 = 26 then
  rd (z 0) 2153 p0 fun x4 =>
  k1 x4
  else
  k1 (z 43 6)
  else
  k1 0
noncomputable def F8_signOf (z : MS) (p0 p1 : Int32) : Option (Int32) :=
  jp (fun (x5 : Int32) => some x5) fun k1 =>
  if ¬ p0 = 26 then
  rd (z 0) 2153 ((26 + (60 * p0)) + p1) fun x3 =>
  k1 x3
  else
  rd (z 5) 60 p1 fun x4 =>
  k1 x4
noncomputable def F8_isCall (p0 : Int32) : Option (Int32) :=
  bn (F8_in p0 65 90) fun x1 =>
  bz x1 (some x1)
noncomputable def F8_isPlain (p0 : Int32) : Option (Int32) :=
  bn (F8_in p0 97 122) fun x1 =>
  jp (fun (x6 : Int32) => bz x6 (some x6)) fun k2 =>
  jp (fun (_ : Unit) => k2 1) fun k3 =>
  if ¬ x1 = 0 then
  k3 ()
  else
  if ¬ p0 = 95 then
  k2 0
  else
  k3 ()
noncomputable def F8_saves (z : MS)  : Option (MS) :=
  jp (fun (z10 : MS) => Loop (fun (q : Int32 × MS) => (fun (x11 : Int32) (z12 : MS) =>
  if 2153 ≤ x11 then
  bd (up2 z12 43 2 ((z12 43 2) + 1)) fun z14 =>
  some (.inr z14)
  else
  rd (z12 0) 2153 x11 fun x15 =>
  wr z12 1 12918 ((2153 * (z12 43 2)) + x11) x15 fun z16 =>
  bd (x11 + 1) fun x17 =>
  some (.inl (x17, z16))) q.1 q.2) (0, z10)) fun k1 =>
  if ¬ (z 43 2) = 6 then
  k1 z
  else
  Loop (fun (q : Int32 × MS) => (fun (x3 : Int32) (z4 : MS) =>
  if 10765 ≤ x3 then
  bd (up2 z4 43 2 ((z4 43 2) - 1)) fun z6 =>
  li (k1 z6)
  else
  rd (z4 1) 12918 (2153 + x3) fun x7 =>
  wr z4 1 12918 x3 x7 fun z8 =>
  bd (x3 + 1) fun x9 =>
  some (.inl (x9, z8))) q.1 q.2) (0, z)
noncomputable def F8_defined (z : MS)  : Option (Int32) :=
  Loop (fun (q : Int32 × Int32) => (fun (x1 : Int32) (x2 : Int32) =>
  if 26 ≤ x2 then
  some (.inr x1)
  else
  bn (F8_isDefined z x2) fun x4 =>
  jp (fun (x7 : Int32) => bd (x1 + x7) fun x8 =>
  bd (x2 + 1) fun x9 =>
  some (.inl (x8, x9))) fun k5 =>
  if x4 = 0 then
  k5 0
  else
  k5 1) q.1 q.2) (0, 0)
noncomputable def F8_append (z : MS) (p0 : Int32) : Option (MS × Int32) :=
  bn (F8_in p0 33 126) fun x1 =>
  jp (fun (x5 : Int32) => bn2 (F8_refused z x5) fun z7 x6 =>
  if x6 = 0 then
  wr z7 5 60 (z7 43 6) p0 fun z9 =>
  bd (up2 z9 43 6 ((z9 43 6) + 1)) fun z10 =>
  some (z10, z10 43 6)
  else
  some (z7, 0)) fun k2 =>
  if ¬ x1 = 0 then
  if ¬ (z 43 6) = 60 then
  k2 0
  else
  k2 2
  else
  k2 1
noncomputable def F8_clearBuffer (z : MS)  : Option (MS × Int32) :=
  bd (up2 z 43 7 0) fun z1 =>
  bd (z1 43 6) fun x2 =>
  bd (up2 z1 43 6 0) fun z3 =>
  some (z3, x2)
noncomputable def F8_error (z : MS)  : Option (MS × Int32) :=
  bd (up2 z 43 9 0) fun z1 =>
  Loop (fun (q : Int32 × Int32 × MS) => (fun (x2 : Int32) (x3 : Int32) (z4 : MS) =>
  if (z4 43 6) ≤ x3 then
  some (.inr (z4, z4 43 6))
  else
  rd (z4 5) 60 x3 fun x6 =>
  bn (F8_isPlain x6) fun x7 =>
  jp (fun (x25 : Int32) => if ¬ x25 = 0 then
  jp (fun (z31 : MS) => jp (fun (z35 : MS) => jp (fun (z40 : MS) => bn (F8_isCall x6) fun x41 =>
  bd (x3 + 1) fun x42 =>
  some (.inl (x41, x42, z40))) fun k36 =>
  if ¬ x6 = 44 then
  k36 z35
  else
  rd (z35 8) 60 ((z35 43 9) - 1) fun x38 =>
  wr z35 8 60 ((z35 43 9) - 1) (x38 + 1) fun z39 =>
  k36 z39) fun k32 =>
  if ¬ x6 = 41 then
  k32 z31
  else
  bd (up2 z31 43 9 ((z31 43 9) - 1)) fun z34 =>
  k32 z34) fun k27 =>
  if ¬ x6 = 40 then
  k27 z4
  else
  wr z4 8 60 (z4 43 9) 1 fun z29 =>
  bd (up2 z29 43 9 ((z29 43 9) + 1)) fun z30 =>
  k27 z30
  else
  some (.inr (z4, x3))) fun k8 =>
  jp (fun (_ : Unit) => k8 1) fun k9 =>
  if ¬ x7 = 0 then
  k9 ()
  else
  if x6 = 63 then
  k9 ()
  else
  bn (F8_isCall x6) fun x12 =>
  if ¬ x12 = 0 then
  k9 ()
  else
  jp (fun (_ : Unit) => jp (fun (_ : Unit) => jp (fun (_ : Unit) => k8 0) fun k20 =>
  if ¬ x6 = 44 then
  k20 ()
  else
  if (z4 43 9) ≤ 0 then
  k20 ()
  else
  rd (z4 8) 60 ((z4 43 9) - 1) fun x23 =>
  if 6 ≤ x23 then
  k20 ()
  else
  k9 ()) fun k17 =>
  if ¬ x6 = 41 then
  k17 ()
  else
  if (0 : Int32) < (z4 43 9) then
  k9 ()
  else
  k17 ()) fun k14 =>
  if ¬ x6 = 40 then
  k14 ()
  else
  if ¬ x2 = 0 then
  k9 ()
  else
  k14 ()) q.1 q.2.1 q.2.2) (0, 0, z1)
noncomputable def F8_isWhole (z : MS)  : Option (MS × Int32) :=
  bn2 (F8_error z) fun z2 x1 =>
  jp (fun (x7 : Int32) => bz x7 (some (z2, x7))) fun k3 =>
  jp (fun (_ : Unit) => k3 0) fun k4 =>
  if ¬ x1 = (z2 43 6) then
  k4 ()
  else
  if ¬ (z2 43 9) = 0 then
  k4 ()
  else
  k3 1
noncomputable def F8_firstError (z : MS)  : Option (MS × Int32) :=
  bd (up2 z 43 7 0) fun z1 =>
  bn2 (F8_error z1) fun z3 x2 =>
  some (z3, x2)
noncomputable def F8_load (z : MS) (p0 : Int32) : Option (MS × Int32) :=
  bn (F8_isLetter p0) fun x1 =>
  jp (fun (x6 : Int32) => bn2 (F8_refused z x6) fun z8 x7 =>
  if x7 = 0 then
  rd (z8 0) 2153 p0 fun x10 =>
  bd (up2 z8 43 6 x10) fun z11 =>
  Loop (fun (q : Int32 × MS) => (fun (x12 : Int32) (z13 : MS) =>
  if (z13 43 6) ≤ x12 then
  some (.inr (z13, z13 43 6))
  else
  rd (z13 0) 2153 ((26 + (60 * p0)) + x12) fun x15 =>
  wr z13 5 60 x12 x15 fun z16 =>
  bd (x12 + 1) fun x17 =>
  some (.inl (x17, z16))) q.1 q.2) (0, z11)
  else
  some (z8, 0)) fun k2 =>
  if ¬ x1 = 0 then
  bn (F8_isDefined z p0) fun x4 =>
  if x4 = 0 then
  k2 2
  else
  k2 0
  else
  k2 1
noncomputable def F8_holesOf (z : MS) (p0 p1 : Int32) : Option (Int32) :=
  Loop (fun (q : Int32 × Int32) => (fun (x1 : Int32) (x2 : Int32) =>
  if p1 ≤ x2 then
  some (.inr x1)
  else
  bn (F8_signOf z p0 x2) fun x4 =>
  jp (fun (x7 : Int32) => bd (x1 + x7) fun x8 =>
  bd (x2 + 1) fun x9 =>
  some (.inl (x8, x9))) fun k5 =>
  if ¬ x4 = 63 then
  k5 0
  else
  k5 1) q.1 q.2) (0, 0)
noncomputable def F8_lays (z : MS) (p0 : Int32) : Option (MS) :=
  wr z 0 2153 p0 (z 43 6) fun z1 =>
  Loop (fun (q : Int32 × MS) => (fun (x2 : Int32) (z3 : MS) =>
  if 60 ≤ x2 then
  some (.inr z3)
  else
  jp (fun (x8 : Int32) => wr z3 0 2153 ((26 + (60 * p0)) + x2) x8 fun z9 =>
  bd (x2 + 1) fun x10 =>
  some (.inl (x10, z9))) fun k5 =>
  if (z3 43 6) ≤ x2 then
  k5 0
  else
  rd (z3 5) 60 x2 fun x7 =>
  k5 x7) q.1 q.2) (0, z1)
noncomputable def F8_define (z : MS) (p0 : Int32) : Option (MS × Int32) :=
  bn (F8_isLetter p0) fun x1 =>
  jp (fun (x7 : Int32) (z8 : MS) => bn2 (F8_refused z8 x7) fun z10 x9 =>
  if x9 = 0 then
  bn (F8_saves z10) fun z12 =>
  bn (F8_lays z12 p0) fun z13 =>
  bd (up2 z13 43 6 0) fun z14 =>
  rd (z14 0) 2153 p0 fun x15 =>
  bn (F8_holesOf z14 p0 x15) fun x16 =>
  some (z14, x16)
  else
  some (z10, 0)) fun k2 =>
  if ¬ x1 = 0 then
  bn2 (F8_isWhole z) fun z5 x4 =>
  if x4 = 0 then
  k2 2 z5
  else
  k2 0 z5
  else
  k2 1 z
noncomputable def F8_remove (z : MS) (p0 : Int32) : Option (MS × Int32) :=
  bn (F8_isLetter p0) fun x1 =>
  jp (fun (x6 : Int32) => bn2 (F8_refused z x6) fun z8 x7 =>
  if x7 = 0 then
  bn (F8_saves z8) fun z10 =>
  wr z10 0 2153 p0 (-1) fun z11 =>
  bn (F8_defined z11) fun x12 =>
  some (z11, x12)
  else
  some (z8, 0)) fun k2 =>
  if ¬ x1 = 0 then
  bn (F8_isDefined z p0) fun x4 =>
  if x4 = 0 then
  k2 2
  else
  k2 0
  else
  k2 1
noncomputable def F8_exchange (z : MS) (p0 p1 : Int32) : Option (MS × Int32) :=
  bn (F8_isLetter p0) fun x1 =>
  jp (fun (x7 : Int32) => bn2 (F8_refused z x7) fun z9 x8 =>
  if x8 = 0 then
  bn (F8_saves z9) fun z11 =>
  rd (z11 0) 2153 p0 fun x12 =>
  rd (z11 0) 2153 p1 fun x13 =>
  wr z11 0 2153 p0 x13 fun z14 =>
  wr z14 0 2153 p1 x12 fun z15 =>
  Loop (fun (q : Int32 × MS) => (fun (x16 : Int32) (z17 : MS) =>
  if 60 ≤ x16 then
  bn (F8_isDefined z17 p0) fun x19 =>
  jp (fun (x22 : Int32) => bn (F8_isDefined z17 p1) fun x23 =>
  jp (fun (x26 : Int32) => some (.inr (z17, x22 + x26))) fun k24 =>
  if x23 = 0 then
  k24 0
  else
  k24 1) fun k20 =>
  if x19 = 0 then
  k20 0
  else
  k20 1
  else
  rd (z17 0) 2153 ((26 + (60 * p0)) + x16) fun x27 =>
  rd (z17 0) 2153 ((26 + (60 * p1)) + x16) fun x28 =>
  wr z17 0 2153 ((26 + (60 * p0)) + x16) x28 fun z29 =>
  wr z29 0 2153 ((26 + (60 * p1)) + x16) x27 fun z30 =>
  bd (x16 + 1) fun x31 =>
  some (.inl (x31, z30))) q.1 q.2) (0, z15)
  else
  some (z9, 0)) fun k2 =>
  jp (fun (_ : Unit) => k2 1) fun k3 =>
  if x1 = 0 then
  k3 ()
  else
  bn (F8_isLetter p1) fun x5 =>
  if x5 = 0 then
  k3 ()
  else
  k2 0
noncomputable def F8_set (z : MS) (p0 : Int32) : Option (MS × Int32) :=
  bn (F8_in p0 1 12) fun x1 =>
  jp (fun (x4 : Int32) => bn2 (F8_refused z x4) fun z6 x5 =>
  if x5 = 0 then
  bn (F8_saves z6) fun z8 =>
  rd (z8 0) 2153 (1586 : Int32) fun x9 =>
  wr z8 0 2153 1586 p0 fun z10 =>
  some (z10, x9)
  else
  some (z6, 0)) fun k2 =>
  if x1 = 0 then
  k2 1
  else
  k2 0
noncomputable def F8_writes (z : MS) (p0 : Int32) : Option (MS) :=
  rd (z 23) 401 (z 43 22) fun x1 =>
  wr z 23 401 (z 43 22) (x1 + p0) fun z2 =>
  jp (fun (x8 : Int32) => bz x8 <|
  bd (up2 z2 43 24 x8) fun z9 =>
  some z9) fun k3 =>
  jp (fun (_ : Unit) => k3 1) fun k4 =>
  if ¬ (z2 43 24) = 0 then
  k4 ()
  else
  rd (z2 23) 401 (z2 43 22) fun x6 =>
  if x6 ≤ 200 then
  k3 0
  else
  k4 ()
noncomputable def F8_notes (z : MS) (p0 p1 p2 p3 p4 p5 : Int32) : Option (MS) :=
  if ¬ (z 43 28) = 60 then
  wr z 27 360 (6 * (z 43 28)) p0 fun z2 =>
  wr z2 27 360 ((6 * (z2 43 28)) + 1) p1 fun z3 =>
  wr z3 27 360 ((6 * (z3 43 28)) + 2) p2 fun z4 =>
  wr z4 27 360 ((6 * (z4 43 28)) + 3) p3 fun z5 =>
  wr z5 27 360 ((6 * (z5 43 28)) + 4) p4 fun z6 =>
  wr z6 27 360 ((6 * (z6 43 28)) + 5) p5 fun z7 =>
  bd (up2 z7 43 28 ((z7 43 28) + 1)) fun z8 =>
  some z8
  else
  some z
noncomputable def F8_isOpen (z : MS) (p0 : Int32) : Option (Int32) :=
  Loop (fun (q : Int32 × Int32) => (fun (x1 : Int32) (x2 : Int32) =>
  if (z 43 18) < x2 then
  bz x1 (some (.inr x1))
  else
  jp (fun (x9 : Int32) => bd (x2 + 1) fun x10 =>
  some (.inl (x9, x10))) fun k4 =>
  jp (fun (_ : Unit) => k4 1) fun k5 =>
  if ¬ x1 = 0 then
  k5 ()
  else
  rd (z 10) 14 x2 fun x7 =>
  if ¬ x7 = p0 then
  k4 0
  else
  k5 ()) q.1 q.2) (0, 1)
noncomputable def F8_opens (z : MS) (p0 : Int32) : Option (MS) :=
  bd (up2 z 43 18 ((z 43 18) + 1)) fun z1 =>
  wr z1 10 14 (z1 43 18) p0 fun z2 =>
  wr z2 11 14 (z2 43 18) 0 fun z3 =>
  wr z3 12 14 (z3 43 18) 0 fun z4 =>
  rd (z4 23) 401 (z4 43 22) fun x5 =>
  wr z4 15 14 (z4 43 18) x5 fun z6 =>
  wr z6 13 14 (z6 43 18) 0 fun z7 =>
  wr z7 14 14 (z7 43 18) 0 fun z8 =>
  bd (up2 z8 43 25 ((z8 43 25) + 1)) fun z9 =>
  jp (fun (x12 : Int32) => bd (up2 z9 43 26 x12) fun z13 =>
  jp (fun (x18 : Int32) => bz x18 <|
  bd (up2 z13 43 24 x18) fun z19 =>
  some z19) fun k14 =>
  jp (fun (_ : Unit) => k14 1) fun k15 =>
  if ¬ (z13 43 24) = 0 then
  k15 ()
  else
  if (z13 43 25) ≤ 60 then
  k14 0
  else
  k15 ()) fun k10 =>
  if (z9 43 18) ≤ (z9 43 26) then
  k10 (z9 43 26)
  else
  k10 (z9 43 18)
noncomputable def F8_goesOn (z : MS) (p0 p1 : Int32) : Option (MS) :=
  Loop (fun (q : Int32 × Int32) => (fun (x1 : Int32) (x2 : Int32) =>
  if p1 ≤ x2 then
  bn (F8_isDefined z p0) fun x4 =>
  jp (fun (x11 : Int32) => if x11 ≤ 0 then
  bn (F8_opens z p0) fun z13 =>
  wr z13 13 14 (z13 43 18) p1 fun z14 =>
  wr z14 14 14 (z14 43 18) x1 fun z15 =>
  Loop (fun (q : Int32 × MS) => (fun (x16 : Int32) (z17 : MS) =>
  if p1 ≤ x16 then
  some (.inr (.inr z17))
  else
  rd (z17 21) 2400 ((6 * (z17 43 22)) + x16) fun x19 =>
  wr z17 16 84 ((6 * (z17 43 18)) + x16) x19 fun z20 =>
  bd (x16 + 1) fun x21 =>
  some (.inl (x21, z20))) q.1 q.2) (0, z15)
  else
  bn (F8_writes z 1) fun z22 =>
  bn (F8_notes z22 p0 x11 (z22 43 18) p1 1 x1) fun z23 =>
  some (.inr z23)) fun k5 =>
  if ¬ x4 = 0 then
  bn (F8_isOpen z p0) fun x7 =>
  if x7 = 0 then
  rd (z 0) 2153 (1586 : Int32) fun x9 =>
  if ¬ (z 43 18) = x9 then
  k5 0
  else
  k5 3
  else
  k5 2
  else
  k5 1
  else
  rd (z 21) 2400 ((6 * (z 43 22)) + x2) fun x24 =>
  bd (x1 + x24) fun x25 =>
  bd (x2 + 1) fun x26 =>
  some (.inl (x25, x26))) q.1 q.2) (0, 0)
noncomputable def F8_filling (z : MS)  : Option (MS × Int32) :=
  rd (z 12) 14 (z 43 18) fun x1 =>
  rd (z 12) 14 (z 43 18) fun x2 =>
  wr z 12 14 (z 43 18) (x2 + 1) fun z3 =>
  jp (fun (_ : Unit) => jp (fun (x12 : Int32) => some (z3, x12)) fun k7 =>
  if ¬ (z3 43 18) = 0 then
  rd (z3 13) 14 (z3 43 18) fun x9 =>
  if x9 ≤ x1 then
  k7 0
  else
  rd (z3 16) 84 ((6 * (z3 43 18)) + x1) fun x11 =>
  k7 x11
  else
  k7 1) fun k4 =>
  if ¬ (z3 43 18) = 1 then
  k4 ()
  else
  if (z3 43 17) = (-1) then
  k4 ()
  else
  some (z3, z3 43 17)
noncomputable def F8_reads (z : MS)  : Option (MS) :=
  rd (z 10) 14 (z 43 18) fun x1 =>
  rd (z 11) 14 (z 43 18) fun x2 =>
  bn (F8_signOf z x1 x2) fun x3 =>
  rd (z 11) 14 (z 43 18) fun x4 =>
  wr z 11 14 (z 43 18) (x4 + 1) fun z5 =>
  bn (F8_isCall x3) fun x6 =>
  jp (fun (z51 : MS) => some z51) fun k7 =>
  if x6 = 0 then
  jp (fun (_ : Unit) => rd (z5 20) 400 ((z5 43 22) - 1) fun x19 =>
  rd (z5 23) 401 (z5 43 22) fun x20 =>
  wr z5 21 2400 ((6 * ((z5 43 22) - 1)) + x19) x20 fun z21 =>
  rd (z21 20) 400 ((z21 43 22) - 1) fun x22 =>
  wr z21 20 400 ((z21 43 22) - 1) (x22 + 1) fun z23 =>
  wr z23 23 401 (z23 43 22) 0 fun z24 =>
  if ¬ x3 = 41 then
  k7 z24
  else
  bd (up2 z24 43 22 ((z24 43 22) - 1)) fun z26 =>
  rd (z26 19) 400 (z26 43 22) fun x27 =>
  rd (z26 20) 400 (z26 43 22) fun x28 =>
  bn (F8_goesOn z26 x27 x28) fun z29 =>
  k7 z29) fun k9 =>
  if x3 = 44 then
  k9 ()
  else
  if ¬ x3 = 41 then
  jp (fun (x16 : Int32) (z17 : MS) => bn (F8_writes z17 x16) fun z18 =>
  k7 z18) fun k12 =>
  if ¬ x3 = 63 then
  k12 1 z5
  else
  bn2 (F8_filling z5) fun z15 x14 =>
  k12 x14 z15
  else
  k9 ()
  else
  rd (z5 11) 14 (z5 43 18) fun x30 =>
  rd (z5 10) 14 (z5 43 18) fun x31 =>
  bn (F8_longOf z5 x31) fun x32 =>
  jp (fun (x40 : Int32) => jp (fun (z50 : MS) => k7 z50) fun k41 =>
  if x40 = 0 then
  bn (F8_goesOn z5 (x3 - 65) 0) fun z43 =>
  k41 z43
  else
  rd (z5 11) 14 (z5 43 18) fun x44 =>
  wr z5 11 14 (z5 43 18) (x44 + 1) fun z45 =>
  wr z45 19 400 (z45 43 22) (x3 - 65) fun z46 =>
  wr z46 20 400 (z46 43 22) 0 fun z47 =>
  bd (up2 z47 43 22 ((z47 43 22) + 1)) fun z48 =>
  wr z48 23 401 (z48 43 22) 0 fun z49 =>
  k41 z49) fun k33 =>
  jp (fun (_ : Unit) => k33 0) fun k34 =>
  if x32 ≤ x30 then
  k34 ()
  else
  rd (z5 10) 14 (z5 43 18) fun x36 =>
  rd (z5 11) 14 (z5 43 18) fun x37 =>
  bn (F8_signOf z5 x36 x37) fun x38 =>
  if ¬ x38 = 40 then
  k34 ()
  else
  k33 1
noncomputable def F8_measures (z : MS)  : Option (MS × Int32) :=
  jp (fun (_ : Unit) => jp (fun (x71 : Int32) => bz x71 (some (z, x71))) fun k69 =>
  if ¬ (z 43 24) = 0 then
  k69 0
  else
  k69 1) fun k1 =>
  if ¬ (z 43 24) = 0 then
  k1 ()
  else
  jp (fun (_ : Unit) => rd (z 11) 14 (z 43 18) fun x9 =>
  rd (z 10) 14 (z 43 18) fun x10 =>
  bn (F8_longOf z x10) fun x11 =>
  if x11 ≤ x9 then
  rd (z 10) 14 (z 43 18) fun x13 =>
  rd (z 13) 14 (z 43 18) fun x14 =>
  rd (z 23) 401 (z 43 22) fun x15 =>
  rd (z 15) 14 (z 43 18) fun x16 =>
  rd (z 14) 14 (z 43 18) fun x17 =>
  bn (F8_notes z x13 0 ((z 43 18) - 1) x14 (x15 - x16) x17) fun z18 =>
  bd (up2 z18 43 18 ((z18 43 18) - 1)) fun z19 =>
  Loop (fun (q : MS) => (fun (z20 : MS) =>
  jp (fun (_ : Unit) => jp (fun (x43 : Int32) => bz x43 (some (.inr (z20, x43)))) fun k41 =>
  if ¬ (z20 43 24) = 0 then
  k41 0
  else
  k41 1) fun k21 =>
  if ¬ (z20 43 24) = 0 then
  k21 ()
  else
  jp (fun (_ : Unit) => rd (z20 11) 14 (z20 43 18) fun x29 =>
  rd (z20 10) 14 (z20 43 18) fun x30 =>
  bn (F8_longOf z20 x30) fun x31 =>
  if x31 ≤ x29 then
  rd (z20 10) 14 (z20 43 18) fun x33 =>
  rd (z20 13) 14 (z20 43 18) fun x34 =>
  rd (z20 23) 401 (z20 43 22) fun x35 =>
  rd (z20 15) 14 (z20 43 18) fun x36 =>
  rd (z20 14) 14 (z20 43 18) fun x37 =>
  bn (F8_notes z20 x33 0 ((z20 43 18) - 1) x34 (x35 - x36) x37) fun z38 =>
  bd (up2 z38 43 18 ((z38 43 18) - 1)) fun z39 =>
  some (.inl (z39))
  else
  bn (F8_reads z20) fun z40 =>
  some (.inl (z40))) fun k23 =>
  if (0 : Int32) < (z20 43 18) then
  k23 ()
  else
  rd (z20 11) 14 (0 : Int32) fun x25 =>
  rd (z20 10) 14 (0 : Int32) fun x26 =>
  bn (F8_longOf z20 x26) fun x27 =>
  if x27 ≤ x25 then
  k21 ()
  else
  k23 ()) q) (z19)
  else
  bn (F8_reads z) fun z44 =>
  Loop (fun (q : MS) => (fun (z45 : MS) =>
  jp (fun (_ : Unit) => jp (fun (x68 : Int32) => bz x68 (some (.inr (z45, x68)))) fun k66 =>
  if ¬ (z45 43 24) = 0 then
  k66 0
  else
  k66 1) fun k46 =>
  if ¬ (z45 43 24) = 0 then
  k46 ()
  else
  jp (fun (_ : Unit) => rd (z45 11) 14 (z45 43 18) fun x54 =>
  rd (z45 10) 14 (z45 43 18) fun x55 =>
  bn (F8_longOf z45 x55) fun x56 =>
  if x56 ≤ x54 then
  rd (z45 10) 14 (z45 43 18) fun x58 =>
  rd (z45 13) 14 (z45 43 18) fun x59 =>
  rd (z45 23) 401 (z45 43 22) fun x60 =>
  rd (z45 15) 14 (z45 43 18) fun x61 =>
  rd (z45 14) 14 (z45 43 18) fun x62 =>
  bn (F8_notes z45 x58 0 ((z45 43 18) - 1) x59 (x60 - x61) x62) fun z63 =>
  bd (up2 z63 43 18 ((z63 43 18) - 1)) fun z64 =>
  some (.inl (z64))
  else
  bn (F8_reads z45) fun z65 =>
  some (.inl (z65))) fun k48 =>
  if (0 : Int32) < (z45 43 18) then
  k48 ()
  else
  rd (z45 11) 14 (0 : Int32) fun x50 =>
  rd (z45 10) 14 (0 : Int32) fun x51 =>
  bn (F8_longOf z45 x51) fun x52 =>
  if x52 ≤ x50 then
  k46 ()
  else
  k48 ()) q) (z44)) fun k3 =>
  if (0 : Int32) < (z 43 18) then
  k3 ()
  else
  rd (z 11) 14 (0 : Int32) fun x5 =>
  rd (z 10) 14 (0 : Int32) fun x6 =>
  bn (F8_longOf z x6) fun x7 =>
  if x7 ≤ x5 then
  k1 ()
  else
  k3 ()
noncomputable def F8_begins (z : MS) (p0 : Int32) : Option (MS) :=
  bd (up2 z 43 18 0) fun z1 =>
  wr z1 10 14 0 p0 fun z2 =>
  wr z2 11 14 0 0 fun z3 =>
  wr z3 12 14 0 0 fun z4 =>
  bd (up2 z4 43 22 0) fun z5 =>
  wr z5 23 401 0 0 fun z6 =>
  bz 0 <|
  bd (up2 z6 43 24 0) fun z7 =>
  bd (up2 z7 43 25 0) fun z8 =>
  bd (up2 z8 43 26 0) fun z9 =>
  bd (up2 z9 43 28 0) fun z10 =>
  bd (up2 z10 43 17 (-1)) fun z11 =>
  some z11
noncomputable def F8_puts (z : MS) (p0 : Int32) : Option (MS) :=
  wr z 0 2153 (1588 + (z 43 39)) p0 fun z1 =>
  bd (up2 z1 43 39 ((z1 43 39) + 1)) fun z2 =>
  some z2
noncomputable def F8_enters (z : MS) (p0 p1 p2 : Int32) : Option (MS) :=
  bd (up2 z 43 32 ((z 43 32) + 1)) fun z1 =>
  wr z1 29 430 (z1 43 32) p0 fun z2 =>
  wr z2 30 430 (z2 43 32) p1 fun z3 =>
  wr z3 31 430 (z3 43 32) p2 fun z4 =>
  some z4
noncomputable def F8_skips (z : MS)  : Option (MS) :=
  rd (z 29) 430 (z 43 32) fun x1 =>
  wr z 36 62 (z 43 38) 0 fun z2 =>
  rd (z2 30) 430 (z2 43 32) fun x3 =>
  bn (F8_longOf z2 x1) fun x4 =>
  jp (fun (_ : Unit) => some z2) fun k5 =>
  if x4 ≤ x3 then
  k5 ()
  else
  rd (z2 30) 430 (z2 43 32) fun x7 =>
  bn (F8_signOf z2 x1 x7) fun x8 =>
  if x8 = 40 then
  Loop (fun (q : Int32 × MS) => (fun (x10 : Int32) (z11 : MS) =>
  rd (z11 30) 430 (z11 43 32) fun x12 =>
  bn (F8_signOf z11 x1 x12) fun x13 =>
  rd (z11 30) 430 (z11 43 32) fun x14 =>
  wr z11 30 430 (z11 43 32) (x14 + 1) fun z15 =>
  jp (fun (x19 : Int32) => bd (x10 + x19) fun x20 =>
  jp (fun (z31 : MS) => if (0 : Int32) < x20 then
  some (.inl (x20, z31))
  else
  some (.inr z31)) fun k21 =>
  if ¬ x20 = 1 then
  k21 z15
  else
  jp (fun (_ : Unit) => rd (z15 36) 62 (z15 43 38) fun x26 =>
  rd (z15 30) 430 (z15 43 32) fun x27 =>
  wr z15 37 372 ((6 * (z15 43 38)) + x26) x27 fun z28 =>
  rd (z28 36) 62 (z28 43 38) fun x29 =>
  wr z28 36 62 (z28 43 38) (x29 + 1) fun z30 =>
  k21 z30) fun k23 =>
  if x13 = 44 then
  k23 ()
  else
  if ¬ x13 = 40 then
  k21 z15
  else
  k23 ()) fun k16 =>
  if ¬ x13 = 40 then
  if ¬ x13 = 41 then
  k16 0
  else
  k16 (-1)
  else
  k16 1) q.1 q.2) (0, z2)
  else
  k5 ()
noncomputable def F8_calls (z : MS) (p0 : Int32) : Option (MS) :=
  rd (z 31) 430 (z 43 32) fun x1 =>
  rd (z 29) 430 (z 43 32) fun x2 =>
  bn (F8_skips z) fun z3 =>
  Loop (fun (q : Int32 × Int32 × Int32) => (fun (x4 : Int32) (x5 : Int32) (x6 : Int32) =>
  if x6 < 0 then
  bn (F8_isDefined z3 p0) fun x8 =>
  jp (fun (_ : Unit) => bn (F8_isDefined z3 p0) fun x19 =>
  jp (fun (x23 : Int32) => bn (F8_puts z3 x23) fun z24 =>
  some (.inr z24)) fun k20 =>
  if ¬ x19 = 0 then
  if x4 = 0 then
  k20 37
  else
  k20 35
  else
  k20 36) fun k9 =>
  if x8 = 0 then
  k9 ()
  else
  if ¬ x4 = 0 then
  k9 ()
  else
  rd (z3 0) 2153 (1586 : Int32) fun x12 =>
  if ¬ x5 = x12 then
  wr z3 33 62 (z3 43 38) p0 fun z14 =>
  wr z14 34 62 (z14 43 38) x2 fun z15 =>
  wr z15 35 62 (z15 43 38) x1 fun z16 =>
  bn (F8_enters z16 p0 0 (z16 43 38)) fun z17 =>
  bd (up2 z17 43 38 ((z17 43 38) + 1)) fun z18 =>
  some (.inr z18)
  else
  k9 ()
  else
  jp (fun (x30 : Int32) => bd (x5 + 1) fun x31 =>
  rd (z3 35) 62 x6 fun x32 =>
  some (.inl (x30, x31, x32))) fun k25 =>
  jp (fun (_ : Unit) => k25 1) fun k26 =>
  if ¬ x4 = 0 then
  k26 ()
  else
  rd (z3 33) 62 x6 fun x28 =>
  if ¬ x28 = p0 then
  k25 0
  else
  k26 ()) q.1 q.2.1 q.2.2) (0, 0, x1)
noncomputable def F8_fills (z : MS)  : Option (MS) :=
  rd (z 31) 430 (z 43 32) fun x1 =>
  rd (z 29) 430 (z 43 32) fun x2 =>
  rd (z 30) 430 (z 43 32) fun x3 =>
  bn (F8_holesOf z x2 (x3 - 1)) fun x4 =>
  jp (fun (z14 : MS) => some z14) fun k5 =>
  if (0 : Int32) ≤ x1 then
  rd (z 36) 62 x1 fun x7 =>
  if x7 ≤ x4 then
  k5 z
  else
  rd (z 34) 62 x1 fun x9 =>
  rd (z 37) 372 ((6 * x1) + x4) fun x10 =>
  rd (z 35) 62 x1 fun x11 =>
  bn (F8_enters z x9 x10 x11) fun z12 =>
  k5 z12
  else
  bn (F8_puts z 63) fun z13 =>
  k5 z13
noncomputable def F8_spells (z : MS)  : Option (MS) :=
  bd (up2 z 43 39 0) fun z1 =>
  bd (up2 z1 43 38 0) fun z2 =>
  bd (up2 z2 43 32 (-1)) fun z3 =>
  bn (F8_enters z3 26 0 (-1)) fun z4 =>
  Loop (fun (q : MS) => (fun (z5 : MS) =>
  if (z5 43 32) < 0 then
  some (.inr z5)
  else
  rd (z5 30) 430 (z5 43 32) fun x7 =>
  rd (z5 29) 430 (z5 43 32) fun x8 =>
  bn (F8_longOf z5 x8) fun x9 =>
  jp (fun (x15 : Int32) => jp (fun (z29 : MS) => some (.inl (z29))) fun k16 =>
  jp (fun (_ : Unit) => bd (up2 z5 43 32 ((z5 43 32) - 1)) fun z28 =>
  k16 z28) fun k17 =>
  if x15 = 44 then
  k17 ()
  else
  if ¬ x15 = 41 then
  rd (z5 30) 430 (z5 43 32) fun x20 =>
  wr z5 30 430 (z5 43 32) (x20 + 1) fun z21 =>
  bn (F8_isCall x15) fun x22 =>
  if x22 = 0 then
  if ¬ x15 = 63 then
  bn (F8_puts z21 x15) fun z25 =>
  k16 z25
  else
  bn (F8_fills z21) fun z26 =>
  k16 z26
  else
  bn (F8_calls z21 (x15 - 65)) fun z27 =>
  k16 z27
  else
  k17 ()) fun k10 =>
  if x9 ≤ x7 then
  k10 41
  else
  rd (z5 29) 430 (z5 43 32) fun x12 =>
  rd (z5 30) 430 (z5 43 32) fun x13 =>
  bn (F8_signOf z5 x12 x13) fun x14 =>
  k10 x14) q) (z4)
noncomputable def F8_expand (z : MS)  : Option (MS × Int32) :=
  bn2 (F8_isWhole z) fun z2 x1 =>
  jp (fun (x5 : Int32) => bn2 (F8_refused z2 x5) fun z7 x6 =>
  if x6 = 0 then
  bn (F8_saves z7) fun z9 =>
  bn (F8_begins z9 26) fun z10 =>
  bn2 (F8_measures z10) fun z12 x11 =>
  if ¬ x11 = 0 then
  Loop (fun (q : Int32 × MS) => (fun (x14 : Int32) (z15 : MS) =>
  if 360 ≤ x14 then
  wr z15 0 2153 1792 (z15 43 28) fun z17 =>
  wr z17 0 2153 1788 (z17 43 25) fun z18 =>
  wr z18 0 2153 1789 (z18 43 26) fun z19 =>
  rd (z19 0) 2153 (1790 : Int32) fun x20 =>
  wr z19 0 2153 1790 (x20 + 1) fun z21 =>
  bn (F8_spells z21) fun z22 =>
  wr z22 0 2153 1587 (z22 43 39) fun z23 =>
  some (.inr (z23, z23 43 39))
  else
  jp (fun (x27 : Int32) => wr z15 0 2153 (1793 + x14) x27 fun z28 =>
  bd (x14 + 1) fun x29 =>
  some (.inl (x29, z28))) fun k24 =>
  if (6 * (z15 43 28)) ≤ x14 then
  k24 0
  else
  rd (z15 27) 360 x14 fun x26 =>
  k24 x26) q.1 q.2) (0, z12)
  else
  rd (z12 0) 2153 (1791 : Int32) fun x30 =>
  wr z12 0 2153 1791 (x30 + 1) fun z31 =>
  some (z31, (-1))
  else
  some (z7, 0)) fun k3 =>
  if x1 = 0 then
  k3 1
  else
  k3 0
noncomputable def F8_undo (z : MS)  : Option (MS × Int32) :=
  jp (fun (x3 : Int32) => bn2 (F8_refused z x3) fun z5 x4 =>
  if x4 = 0 then
  bd (up2 z5 43 2 ((z5 43 2) - 1)) fun z7 =>
  Loop (fun (q : Int32 × MS) => (fun (x8 : Int32) (z9 : MS) =>
  if 2153 ≤ x8 then
  some (.inr (z9, z9 43 2))
  else
  rd (z9 1) 12918 ((2153 * (z9 43 2)) + x8) fun x11 =>
  wr z9 0 2153 x8 x11 fun z12 =>
  bd (x8 + 1) fun x13 =>
  some (.inl (x13, z12))) q.1 q.2) (0, z7)
  else
  some (z5, 0)) fun k1 =>
  if ¬ (z 43 2) = 0 then
  k1 0
  else
  k1 1
noncomputable def F8_keep (z : MS) (p0 : Int32) : Option (MS × Int32) :=
  bn (F8_in p0 0 1) fun x1 =>
  jp (fun (x4 : Int32) => bn2 (F8_refused z x4) fun z6 x5 =>
  if x5 = 0 then
  Loop (fun (q : Int32 × MS) => (fun (x8 : Int32) (z9 : MS) =>
  if 2153 ≤ x8 then
  bz 1 <|
  wr z9 4 2 p0 1 fun z11 =>
  bn (F8_defined z11) fun x12 =>
  some (.inr (z11, x12))
  else
  rd (z9 0) 2153 x8 fun x13 =>
  wr z9 3 4306 ((2153 * p0) + x8) x13 fun z14 =>
  bd (x8 + 1) fun x15 =>
  some (.inl (x15, z14))) q.1 q.2) (0, z6)
  else
  some (z6, 0)) fun k2 =>
  if x1 = 0 then
  k2 1
  else
  k2 0
noncomputable def F8_goBack (z : MS) (p0 : Int32) : Option (MS × Int32) :=
  bn (F8_in p0 0 1) fun x1 =>
  jp (fun (x6 : Int32) => bn2 (F8_refused z x6) fun z8 x7 =>
  if x7 = 0 then
  bn (F8_saves z8) fun z10 =>
  Loop (fun (q : Int32 × MS) => (fun (x11 : Int32) (z12 : MS) =>
  if 2153 ≤ x11 then
  bn (F8_defined z12) fun x14 =>
  some (.inr (z12, x14))
  else
  rd (z12 3) 4306 ((2153 * p0) + x11) fun x15 =>
  wr z12 0 2153 x11 x15 fun z16 =>
  bd (x11 + 1) fun x17 =>
  some (.inl (x17, z16))) q.1 q.2) (0, z10)
  else
  some (z8, 0)) fun k2 =>
  if ¬ x1 = 0 then
  rd (z 4) 2 p0 fun x4 =>
  if x4 = 0 then
  k2 2
  else
  k2 0
  else
  k2 1
noncomputable def F8_callsOf (z : MS) (p0 : Int32) : Option (Int32) :=
  Loop (fun (q : Int32 × Int32) => (fun (x1 : Int32) (x2 : Int32) =>
  rd (z 0) 2153 p0 fun x3 =>
  if x3 ≤ x2 then
  some (.inr x1)
  else
  bn (F8_signOf z p0 x2) fun x5 =>
  bn (F8_isCall x5) fun x6 =>
  jp (fun (x9 : Int32) => bd (x1 + x9) fun x10 =>
  bd (x2 + 1) fun x11 =>
  some (.inl (x10, x11))) fun k7 =>
  if x6 = 0 then
  k7 0
  else
  k7 1) q.1 q.2) (0, 0)
noncomputable def F8_plainOf (z : MS) (p0 : Int32) : Option (Int32) :=
  Loop (fun (q : Int32 × Int32) => (fun (x1 : Int32) (x2 : Int32) =>
  rd (z 0) 2153 p0 fun x3 =>
  if x3 ≤ x2 then
  some (.inr x1)
  else
  bn (F8_signOf z p0 x2) fun x5 =>
  bn (F8_isPlain x5) fun x6 =>
  jp (fun (x9 : Int32) => bd (x1 + x9) fun x10 =>
  bd (x2 + 1) fun x11 =>
  some (.inl (x10, x11))) fun k7 =>
  if x6 = 0 then
  k7 0
  else
  k7 1) q.1 q.2) (0, 0)
noncomputable def F8_mostOf (z : MS) (p0 p1 : Int32) : Option (MS × Int32) :=
  Loop (fun (q : Int32 × Int32 × Int32 × Int32 × MS) => (fun (x1 : Int32) (x2 : Int32) (x3 : Int32) (x4 : Int32) (z5 : MS) =>
  rd (z5 0) 2153 p0 fun x6 =>
  if x6 ≤ x4 then
  jp (fun (x10 : Int32) => some (.inr (z5, x10))) fun k8 =>
  if p1 = 0 then
  k8 x2
  else
  k8 x1
  else
  bn (F8_signOf z5 p0 x4) fun x11 =>
  bn (F8_isCall x11) fun x12 =>
  jp (fun (x18 : Int32) => jp (fun (x23 : Int32) (z24 : MS) => jp (fun (z29 : MS) => jp (fun (x38 : Int32) (x39 : Int32) => bd (x4 + 1) fun x40 =>
  some (.inl (x38, x18, x39, x40, z29))) fun k30 =>
  if ¬ x11 = 41 then
  k30 x1 x23
  else
  bd (x23 + (-1)) fun x32 =>
  rd (z29 8) 60 x32 fun x33 =>
  jp (fun (x37 : Int32) => k30 x37 x32) fun k34 =>
  if x33 ≤ x1 then
  k34 x1
  else
  rd (z29 8) 60 x32 fun x36 =>
  k34 x36) fun k25 =>
  if ¬ x11 = 44 then
  k25 z24
  else
  rd (z24 8) 60 (x23 - 1) fun x27 =>
  wr z24 8 60 (x23 - 1) (x27 + 1) fun z28 =>
  k25 z28) fun k19 =>
  if ¬ x11 = 40 then
  k19 x3 z5
  else
  wr z5 8 60 x3 1 fun z21 =>
  bd (x3 + 1) fun x22 =>
  k19 x22 z21) fun k13 =>
  if x12 = 0 then
  k13 x2
  else
  jp (fun (x17 : Int32) => k13 x17) fun k15 =>
  if (x3 + 1) ≤ x2 then
  k15 x2
  else
  k15 (x3 + 1)) q.1 q.2.1 q.2.2.1 q.2.2.2.1 q.2.2.2.2) (0, 0, 0, 0, z)
noncomputable def F8_body (z : MS) (p0 p1 : Int32) : Option (MS × Int32) :=
  bn (F8_isLetter p0) fun x1 =>
  jp (fun (x6 : Int32) => bn2 (F8_refused z x6) fun z8 x7 =>
  if x7 = 0 then
  bn (F8_isDefined z8 p0) fun x10 =>
  if ¬ x10 = 0 then
  if p1 = 0 then
  rd (z8 0) 2153 p0 fun x12 =>
  some (z8, x12)
  else if p1 = 1 then
  rd (z8 0) 2153 p0 fun x13 =>
  bn (F8_holesOf z8 p0 x13) fun x14 =>
  some (z8, x14)
  else if p1 = 2 then
  bn (F8_callsOf z8 p0) fun x15 =>
  some (z8, x15)
  else if p1 = 3 then
  bn2 (F8_mostOf z8 p0 1) fun z17 x16 =>
  some (z17, x16)
  else if p1 = 4 then
  bn2 (F8_mostOf z8 p0 0) fun z19 x18 =>
  some (z19, x18)
  else bn (F8_plainOf z8 p0) fun x20 =>
  some (z8, x20)
  else
  some (z8, (-1))
  else
  some (z8, 0)) fun k2 =>
  if ¬ x1 = 0 then
  bn (F8_in p1 0 5) fun x4 =>
  if x4 = 0 then
  k2 2
  else
  k2 0
  else
  k2 1
noncomputable def F8_called (z : MS) (p0 : Int32) : Option (Int32) :=
  Loop (fun (q : Int32 × Int32) => (fun (x1 : Int32) (x2 : Int32) =>
  rd (z 0) 2153 p0 fun x3 =>
  if x3 ≤ x2 then
  some (.inr x1)
  else
  bn (F8_signOf z p0 x2) fun x5 =>
  bn (F8_isCall x5) fun x6 =>
  jp (fun (x9 : Int32) => bd (x1 ||| x9) fun x10 =>
  bd (x2 + 1) fun x11 =>
  some (.inl (x10, x11))) fun k7 =>
  if x6 = 0 then
  k7 0
  else
  k7 ((1 : Int32) <<< ((x5 - 65) &&& 31))) q.1 q.2) (0, 0)
noncomputable def F8_laysSets (z : MS)  : Option (MS) :=
  Loop (fun (q : Int32 × MS) => (fun (x1 : Int32) (z2 : MS) =>
  if 26 ≤ x1 then
  some (.inr z2)
  else
  bn (F8_called z2 x1) fun x4 =>
  wr z2 40 26 x1 x4 fun z5 =>
  bd (x1 + 1) fun x6 =>
  some (.inl (x6, z5))) q.1 q.2) (0, z)
noncomputable def F8_reached (z : MS) (p0 : Int32) : Option (Int32) :=
  rd (z 40) 26 p0 fun x1 =>
  Loop (fun (q : Int32 × Int32) => (fun (x2 : Int32) (x3 : Int32) =>
  if x2 = x3 then
  some (.inr x2)
  else
  Loop (fun (q : Int32 × Int32) => (fun (x5 : Int32) (x6 : Int32) =>
  if 26 ≤ x6 then
  some (.inr (.inl (x5, x2)))
  else
  jp (fun (x11 : Int32) => bd (x5 ||| x11) fun x12 =>
  bd (x6 + 1) fun x13 =>
  some (.inl (x12, x13))) fun k8 =>
  if ¬ ((x5 >>> (x6 &&& 31)) &&& 1) = 1 then
  k8 0
  else
  rd (z 40) 26 x6 fun x10 =>
  k8 x10) q.1 q.2) (x2, 0)) q.1 q.2) (x1, 0)
noncomputable def F8_callers (z : MS) (p0 p1 : Int32) : Option (Int32) :=
  Loop (fun (q : Int32 × Int32) => (fun (x1 : Int32) (x2 : Int32) =>
  if 26 ≤ x2 then
  some (.inr x1)
  else
  jp (fun (x8 : Int32) => jp (fun (x11 : Int32) => bd (x1 ||| x11) fun x12 =>
  bd (x2 + 1) fun x13 =>
  some (.inl (x12, x13))) fun k9 =>
  if ¬ ((x8 >>> (p0 &&& 31)) &&& 1) = 1 then
  k9 0
  else
  k9 ((1 : Int32) <<< (x2 &&& 31))) fun k4 =>
  if p1 = 0 then
  rd (z 40) 26 x2 fun x6 =>
  k4 x6
  else
  bn (F8_reached z x2) fun x7 =>
  k4 x7) q.1 q.2) (0, 0)
noncomputable def F8_uses (z : MS) (p0 p1 : Int32) : Option (MS × Int32) :=
  bn (F8_isLetter p0) fun x1 =>
  jp (fun (x6 : Int32) => bn2 (F8_refused z x6) fun z8 x7 =>
  if x7 = 0 then
  bn (F8_laysSets z8) fun z10 =>
  jp (fun (x20 : Int32) => some (z10, x20)) fun k11 =>
  if ¬ p1 = 0 then
  if ¬ p1 = 1 then
  jp (fun (x16 : Int32) => bn (F8_callers z10 p0 x16) fun x17 =>
  k11 x17) fun k14 =>
  if ¬ p1 = 3 then
  k14 0
  else
  k14 1
  else
  bn (F8_reached z10 p0) fun x18 =>
  k11 x18
  else
  rd (z10 40) 26 p0 fun x19 =>
  k11 x19
  else
  some (z8, 0)) fun k2 =>
  if ¬ x1 = 0 then
  bn (F8_in p1 0 3) fun x4 =>
  if x4 = 0 then
  k2 2
  else
  k2 0
  else
  k2 1
noncomputable def F8_inRings (z : MS)  : Option (MS × Int32) :=
  bn (F8_laysSets z) fun z1 =>
  Loop (fun (q : Int32 × Int32) => (fun (x2 : Int32) (x3 : Int32) =>
  if 26 ≤ x3 then
  some (.inr (z1, x2))
  else
  bn (F8_reached z1 x3) fun x5 =>
  jp (fun (x8 : Int32) => bd (x2 ||| x8) fun x9 =>
  bd (x3 + 1) fun x10 =>
  some (.inl (x9, x10))) fun k6 =>
  if ¬ ((x5 >>> (x3 &&& 31)) &&& 1) = 1 then
  k6 0
  else
  k6 ((1 : Int32) <<< (x3 &&& 31))) q.1 q.2) (0, 0)
noncomputable def F8_rings (z : MS)  : Option (MS × Int32) :=
  bd (up2 z 43 7 0) fun z1 =>
  bn2 (F8_inRings z1) fun z3 x2 =>
  some (z3, x2)
noncomputable def F8_all (z : MS)  : Option (Int32) :=
  Loop (fun (q : Int32 × Int32) => (fun (x1 : Int32) (x2 : Int32) =>
  if 26 ≤ x2 then
  some (.inr x1)
  else
  bn (F8_isDefined z x2) fun x4 =>
  jp (fun (x7 : Int32) => bd (x1 ||| x7) fun x8 =>
  bd (x2 + 1) fun x9 =>
  some (.inl (x8, x9))) fun k5 =>
  if x4 = 0 then
  k5 0
  else
  k5 ((1 : Int32) <<< (x2 &&& 31))) q.1 q.2) (0, 0)
noncomputable def F8_missing (z : MS)  : Option (MS × Int32) :=
  bd (up2 z 43 7 0) fun z1 =>
  Loop (fun (q : Int32 × Int32) => (fun (x2 : Int32) (x3 : Int32) =>
  if 26 ≤ x3 then
  bn (F8_all z1) fun x5 =>
  some (.inr (z1, x2 &&& (x5 ^^^ (-1))))
  else
  bn (F8_called z1 x3) fun x6 =>
  bd (x2 ||| x6) fun x7 =>
  bd (x3 + 1) fun x8 =>
  some (.inl (x7, x8))) q.1 q.2) (0, 0)
noncomputable def F8_chain (z : MS) (p0 : Int32) : Option (MS × Int32) :=
  bn (F8_isLetter p0) fun x1 =>
  jp (fun (x4 : Int32) => bn2 (F8_refused z x4) fun z6 x5 =>
  if x5 = 0 then
  bn (F8_isDefined z6 p0) fun x8 =>
  if ¬ x8 = 0 then
  bn2 (F8_inRings z6) fun z11 x10 =>
  bn (F8_reached z11 p0) fun x12 =>
  if ((x12 ||| ((1 : Int32) <<< (p0 &&& 31))) &&& x10) = 0 then
  Loop (fun (q : Int32 × MS) => (fun (x14 : Int32) (z15 : MS) =>
  if 26 ≤ x14 then
  Loop (fun (q : Int32 × MS) => (fun (x17 : Int32) (z18 : MS) =>
  if 26 ≤ x17 then
  rd (z18 41) 26 p0 fun x20 =>
  some (.inr (.inr (z18, x20)))
  else
  Loop (fun (q : Int32 × MS) => (fun (x21 : Int32) (z22 : MS) =>
  if 26 ≤ x21 then
  bd (x17 + 1) fun x24 =>
  some (.inr (.inl (x24, z22)))
  else
  Loop (fun (q : Int32 × MS) => (fun (x25 : Int32) (z26 : MS) =>
  if 26 ≤ x25 then
  bd (x21 + 1) fun x28 =>
  some (.inr (.inl (x28, z26)))
  else
  rd (z26 40) 26 x21 fun x29 =>
  jp (fun (x40 : Int32) => jp (fun (x45 : Int32) => wr z26 41 26 x21 x45 fun z46 =>
  bd (x25 + 1) fun x47 =>
  some (.inl (x47, z46))) fun k41 =>
  if x40 = 0 then
  rd (z26 41) 26 x21 fun x43 =>
  k41 x43
  else
  rd (z26 41) 26 x25 fun x44 =>
  k41 (x44 + 1)) fun k30 =>
  jp (fun (_ : Unit) => k30 0) fun k31 =>
  if ¬ ((x29 >>> (x25 &&& 31)) &&& 1) = 1 then
  k31 ()
  else
  bn (F8_isDefined z26 x25) fun x33 =>
  if x33 = 0 then
  k31 ()
  else
  rd (z26 41) 26 x25 fun x35 =>
  rd (z26 41) 26 x21 fun x36 =>
  if x35 < x36 then
  k31 ()
  else
  rd (z26 41) 26 x25 fun x38 =>
  if 26 ≤ x38 then
  k31 ()
  else
  k30 1) q.1 q.2) (0, z22)) q.1 q.2) (0, z18)) q.1 q.2) (0, z15)
  else
  bn (F8_isDefined z15 x14) fun x48 =>
  jp (fun (x51 : Int32) => wr z15 41 26 x14 x51 fun z52 =>
  bd (x14 + 1) fun x53 =>
  some (.inl (x53, z52))) fun k49 =>
  if x48 = 0 then
  k49 0
  else
  k49 1) q.1 q.2) (0, z11)
  else
  some (z11, (-1))
  else
  some (z6, 0)
  else
  some (z6, 0)) fun k2 =>
  if x1 = 0 then
  k2 1
  else
  k2 0
noncomputable def F8_ifDefined (z : MS) (p0 : Int32) : Option (MS × Int32) :=
  bn (F8_isLetter p0) fun x1 =>
  jp (fun (x7 : Int32) (z8 : MS) => bn2 (F8_refused z8 x7) fun z10 x9 =>
  if x9 = 0 then
  rd (z10 0) 2153 p0 fun x12 =>
  Loop (fun (q : Int32 × MS) => (fun (x13 : Int32) (z14 : MS) =>
  if 60 ≤ x13 then
  bn (F8_lays z14 p0) fun z16 =>
  bn2 (F8_inRings z16) fun z18 x17 =>
  wr z18 0 2153 p0 x12 fun z19 =>
  Loop (fun (q : Int32 × MS) => (fun (x20 : Int32) (z21 : MS) =>
  if 60 ≤ x20 then
  some (.inr (.inr (z21, x17)))
  else
  rd (z21 42) 60 x20 fun x23 =>
  wr z21 0 2153 ((26 + (60 * p0)) + x20) x23 fun z24 =>
  bd (x20 + 1) fun x25 =>
  some (.inl (x25, z24))) q.1 q.2) (0, z19)
  else
  rd (z14 0) 2153 ((26 + (60 * p0)) + x13) fun x26 =>
  wr z14 42 60 x13 x26 fun z27 =>
  bd (x13 + 1) fun x28 =>
  some (.inl (x28, z27))) q.1 q.2) (0, z10)
  else
  some (z10, 0)) fun k2 =>
  if ¬ x1 = 0 then
  bn2 (F8_isWhole z) fun z5 x4 =>
  if x4 = 0 then
  k2 2 z5
  else
  k2 0 z5
  else
  k2 1 z
noncomputable def F8_sign (z : MS) (p0 : Int32) : Option (MS × Int32) :=
  jp (fun (x3 : Int32) => bn2 (F8_refused z x3) fun z5 x4 =>
  if x4 = 0 then
  rd (z5 0) 2153 (1587 : Int32) fun x7 =>
  jp (fun (x11 : Int32) => some (z5, x11)) fun k8 =>
  if x7 ≤ p0 then
  k8 (-1)
  else
  rd (z5 0) 2153 (1588 + p0) fun x10 =>
  k8 x10
  else
  some (z5, 0)) fun k1 =>
  if (0 : Int32) ≤ p0 then
  k1 0
  else
  k1 1
noncomputable def F8_signsAs (z : MS) (p0 : Int32) : Option (Int32) :=
  Loop (fun (q : Int32 × Int32) => (fun (x1 : Int32) (x2 : Int32) =>
  rd (z 0) 2153 (1587 : Int32) fun x3 =>
  if x3 ≤ x2 then
  some (.inr x1)
  else
  rd (z 0) 2153 (1588 + x2) fun x5 =>
  jp (fun (x8 : Int32) => bd (x1 + x8) fun x9 =>
  bd (x2 + 1) fun x10 =>
  some (.inl (x9, x10))) fun k6 =>
  if ¬ x5 = p0 then
  k6 0
  else
  k6 1) q.1 q.2) (0, 0)
noncomputable def F8_result (z : MS) (p0 : Int32) : Option (MS × Int32) :=
  bn (F8_in p0 0 7) fun x1 =>
  jp (fun (x4 : Int32) => bn2 (F8_refused z x4) fun z6 x5 =>
  if x5 = 0 then
  if p0 = 0 then
  rd (z6 0) 2153 (1587 : Int32) fun x8 =>
  some (z6, x8)
  else if p0 = 1 then
  bn (F8_signsAs z6 35) fun x9 =>
  some (z6, x9)
  else if p0 = 2 then
  bn (F8_signsAs z6 37) fun x10 =>
  some (z6, x10)
  else if p0 = 3 then
  bn (F8_signsAs z6 36) fun x11 =>
  some (z6, x11)
  else if p0 = 4 then
  bn (F8_signsAs z6 63) fun x12 =>
  some (z6, x12)
  else if p0 = 5 then
  rd (z6 0) 2153 (1788 : Int32) fun x13 =>
  some (z6, x13)
  else if p0 = 6 then
  rd (z6 0) 2153 (1789 : Int32) fun x14 =>
  some (z6, x14)
  else rd (z6 0) 2153 (1792 : Int32) fun x15 =>
  some (z6, x15)
  else
  some (z6, 0)) fun k2 =>
  if x1 = 0 then
  k2 1
  else
  k2 0
noncomputable def F8_trace (z : MS) (p0 p1 : Int32) : Option (MS × Int32) :=
  jp (fun (x6 : Int32) => bn2 (F8_refused z x6) fun z8 x7 =>
  if x7 = 0 then
  rd (z8 0) 2153 (1792 : Int32) fun x10 =>
  jp (fun (x14 : Int32) => some (z8, x14)) fun k11 =>
  if x10 ≤ p0 then
  k11 (-1)
  else
  rd (z8 0) 2153 ((1793 + (6 * p0)) + p1) fun x13 =>
  k11 x13
  else
  some (z8, 0)) fun k1 =>
  jp (fun (_ : Unit) => k1 1) fun k2 =>
  if p0 < 0 then
  k2 ()
  else
  bn (F8_in p1 0 5) fun x4 =>
  if ¬ x4 = 0 then
  k1 0
  else
  k2 ()
noncomputable def F8_lengthOf (z : MS) (p0 p1 : Int32) : Option (MS × Int32) :=
  bn (F8_isLetter p0) fun x1 =>
  jp (fun (x6 : Int32) => bn2 (F8_refused z x6) fun z8 x7 =>
  if x7 = 0 then
  bn (F8_isDefined z8 p0) fun x10 =>
  if ¬ x10 = 0 then
  bn (F8_begins z8 27) fun z12 =>
  bd (up2 z12 43 17 p1) fun z13 =>
  bn (F8_opens z13 p0) fun z14 =>
  bn2 (F8_measures z14) fun z16 x15 =>
  jp (fun (x20 : Int32) => some (z16, x20)) fun k17 =>
  if x15 = 0 then
  k17 (-1)
  else
  rd (z16 23) 401 (0 : Int32) fun x19 =>
  k17 x19
  else
  some (z8, (-1))
  else
  some (z8, 0)) fun k2 =>
  if ¬ x1 = 0 then
  bn (F8_in p1 0 20) fun x4 =>
  if x4 = 0 then
  k2 2
  else
  k2 0
  else
  k2 1
noncomputable def F8_callsOfAll (z : MS)  : Option (Int32) :=
  Loop (fun (q : Int32 × Int32) => (fun (x1 : Int32) (x2 : Int32) =>
  if 26 ≤ x2 then
  some (.inr x1)
  else
  bn (F8_callsOf z x2) fun x4 =>
  bd (x1 + x4) fun x5 =>
  bd (x2 + 1) fun x6 =>
  some (.inl (x5, x6))) q.1 q.2) (0, 0)
noncomputable def F8_count (z : MS) (p0 : Int32) : Option (MS × Int32) :=
  bn (F8_in p0 0 7) fun x1 =>
  jp (fun (x4 : Int32) => bn2 (F8_refused z x4) fun z6 x5 =>
  if x5 = 0 then
  if p0 = 0 then
  bn (F8_defined z6) fun x8 =>
  some (z6, x8)
  else if p0 = 1 then
  bn (F8_all z6) fun x9 =>
  some (z6, x9)
  else if p0 = 2 then
  rd (z6 0) 2153 (1586 : Int32) fun x10 =>
  some (z6, x10)
  else if p0 = 3 then
  rd (z6 0) 2153 (1790 : Int32) fun x11 =>
  some (z6, x11)
  else if p0 = 4 then
  rd (z6 0) 2153 (1791 : Int32) fun x12 =>
  some (z6, x12)
  else if p0 = 5 then
  bn (F8_callsOfAll z6) fun x13 =>
  some (z6, x13)
  else if p0 = 6 then
  some (z6, z6 43 2)
  else some (z6, z6 43 6)
  else
  some (z6, 0)) fun k2 =>
  if x1 = 0 then
  k2 1
  else
  k2 0
noncomputable def F8_meanHoles (z : MS)  : Option (MS × UInt64) :=
  bd (up2 z 43 7 0) fun z1 =>
  Loop (fun (q : Int32 × Int32) => (fun (x2 : Int32) (x3 : Int32) =>
  if 26 ≤ x3 then
  bn (F8_defined z1) fun x5 =>
  jp (fun (x9 : UInt64) => some (.inr (z1, x9))) fun k6 =>
  if ¬ x5 = 0 then
  bn (F8_defined z1) fun x8 =>
  pr (dvok x2 x8) <|
  k6 (FP.ddiv (FP.i2d x2) (FP.i2d x8))
  else
  k6 FP.dconst0
  else
  bn (F8_isDefined z1 x3) fun x10 =>
  jp (fun (x15 : Int32) => bd (x2 + x15) fun x16 =>
  bd (x3 + 1) fun x17 =>
  some (.inl (x16, x17))) fun k11 =>
  if x10 = 0 then
  k11 0
  else
  rd (z1 0) 2153 x3 fun x13 =>
  bn (F8_holesOf z1 x3 x13) fun x14 =>
  k11 x14) q.1 q.2) (0, 0)
/-- the reference's state at its start -/
def z0_8 : MS := fun a i => if a = 0 then (if i = 1586 then 8 else if i < 26 then (-1) else 0) else 0
def codeOf (c0 : Nat) : Nat ⊕ Int32 → Int32
  | .inr _ => 0
  | .inl k => if k = c0 then 1 else 2
/-- a call of both that may throw: the answers are alike, what holds of the two states holds behind it -/
def okT (Inv : MS → BS → Prop) (F7 : Option (BS × (Nat ⊕ Int32))) (F8 : Option (MS × Int32)) (ks : List Nat) : Prop := ∃ res z' v, F7 = some res ∧ F8 = some (z', v) ∧ (∀ k, res.2 = .inl k → k ∈ ks) ∧ z' 43 7 = codeOf (ks.headD 0) res.2 ∧ (∀ r, res.2 = .inr r → r = v) ∧ Inv z' res.1
def okP (Inv : MS → BS → Prop) (F7 : Option (BS × Int32)) (F8 : Option (MS × Int32)) : Prop := ∃ b' z' v, F7 = some (b', v) ∧ F8 = some (z', v) ∧ Inv z' b'
def okD (Inv : MS → BS → Prop) (b : BS) (F7 : Option UInt64) (F8 : Option (MS × UInt64)) : Prop := ∃ z' v, F7 = some v ∧ F8 = some (z', v) ∧ Inv z' b
