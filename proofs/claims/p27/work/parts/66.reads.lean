/-! PURE: the reference reads a sign; its loop -/
noncomputable def rdK (x3 : Int32) (z5 : MS) : Option MS :=
  bn (F8_isCall x3) fun x6 =>
  jp (fun (z51 : MS) => some z51) fun k7 =>
  if x6 = 0 then
  jp (fun (_ : Unit) => rd (z5 20) 400 ((z5 43 22) - 1) fun x19 =>
  rd (z5 23) 401 (z5 43 22) fun x20 =>
  wr z5 21 2400 ((6 * ((z5 43 22) - 1)) + x19) x20 fun z21 =>
  rd (z21 20) 400 ((z21 43 22) - 1) fun x22 =>
  wr z21 20 400 ((z21 43 22) - 1) (x22 + 1) fun z23 =>
  wr z23 23 401 (z23 43 22) 0 fun z24 =>
  if ¬ x3 = 41 then
  k7 z24
  else
  bd (up2 z24 43 22 ((z24 43 22) - 1)) fun z26 =>
  rd (z26 19) 400 (z26 43 22) fun x27 =>
  rd (z26 20) 400 (z26 43 22) fun x28 =>
  bn (F8_goesOn z26 x27 x28) fun z29 =>
  k7 z29) fun k9 =>
  if x3 = 44 then
  k9 ()
  else
  if ¬ x3 = 41 then
  jp (fun (x16 : Int32) (z17 : MS) => bn (F8_writes z17 x16) fun z18 =>
  k7 z18) fun k12 =>
  if ¬ x3 = 63 then
  k12 1 z5
  else
  bn2 (F8_filling z5) fun z15 x14 =>
  k12 x14 z15
  else
  k9 ()
  else
  rd (z5 11) 14 (z5 43 18) fun x30 =>
  rd (z5 10) 14 (z5 43 18) fun x31 =>
  bn (F8_longOf z5 x31) fun x32 =>
  jp (fun (x40 : Int32) => jp (fun (z50 : MS) => k7 z50) fun k41 =>
  if x40 = 0 then
  bn (F8_goesOn z5 (x3 - 65) 0) fun z43 =>
  k41 z43
  else
  rd (z5 11) 14 (z5 43 18) fun x44 =>
  wr z5 11 14 (z5 43 18) (x44 + 1) fun z45 =>
  wr z45 19 400 (z45 43 22) (x3 - 65) fun z46 =>
  wr z46 20 400 (z46 43 22) 0 fun z47 =>
  bd (up2 z47 43 22 ((z47 43 22) + 1)) fun z48 =>
  wr z48 23 401 (z48 43 22) 0 fun z49 =>
  k41 z49) fun k33 =>
  jp (fun (_ : Unit) => k33 0) fun k34 =>
  if x32 ≤ x30 then
  k34 ()
  else
  rd (z5 10) 14 (z5 43 18) fun x36 =>
  rd (z5 11) 14 (z5 43 18) fun x37 =>
  bn (F8_signOf z5 x36 x37) fun x38 =>
  if ¬ x38 = 40 then
  k34 ()
  else
  k33 1
theorem reads_at {z : MS} {l i p : Nat} {u : Tx} (hl : l < 14) (h18 : z 43 18 = nI l) (h10 : z 10 l = nI p) (h11 : z 11 l = nI i) (hs : SrcZ z p u) (hi : i < u.length) {r : Option MS} (h : rdK (u.getD i 0) (up2 z 11 l (nI (i + 1))) = r) : F8_reads z = r := by
  unfold F8_reads
  refine rd_go h18 hl (by decide) h10 <| rd_go h18 hl (by decide) h11 <| bn_go (F8_signOf_eq hs hi) <| rd_go h18 hl (by decide) h11 <| wr_go h18 hl (by decide) ?_
  rw [nI_1]
  exact h
theorem rdK_plain {c : Int32} {y y2 : MS} (hpl : plB c = true) (hw : F8_writes y 1 = some y2) : rdK c y = some y2 := by
  have hn := pl_ne hpl
  exact bn_go (F8_isCall_eq c) <| jp_go <| if_go (by rw [pl_ab hpl]; rfl) <| jp_go <| if_no hn.2.2.1 <| if_go hn.2.2.2 <| jp_go <| if_go hn.1 <| bn_go hw rfl
theorem rdK_hole {y y1 y2 : MS} {x : Int32} (hf : F8_filling y = some (y1, x)) (hw : F8_writes y1 x = some y2) : rdK 63 y = some y2 :=
  bn_go (F8_isCall_eq 63) <| jp_go <| if_go (by decide) <| jp_go <| if_no (by decide) <| if_go (by decide) <| jp_go <| if_no (fun q => q rfl) <| bn2_go hf <| bn_go hw rfl
theorem rdK_lone {c : Int32} {y y2 : MS} {l i p : Nat} {u : Tx} (hab : inB c 65 90 = true) (hl : l < 14) (h18 : y 43 18 = nI l) (h10 : y 10 l = nI p) (h11 : y 11 l = nI (i + 1)) (hs : SrcZ y p u) (hi : i < u.length) (hx : i + 1 < u.length → u.getD (i + 1) 0 ≠ 40) (hg : F8_goesOn y (c - 65) 0 = some y2) : rdK c y = some y2 := by
  have hu := hs.1
  refine bn_go (F8_isCall_eq c) <| jp_go <| if_no (by rw [hab]; decide) <| rd_go h18 hl (by decide) h11 <| rd_go h18 hl (by decide) h10 <| bn_go (F8_longOf_eq hs) <| jp_go <| jp_go ?_
  by_cases q : i + 1 < u.length
  · exact if_no (nI_ge q (by omega)) <| rd_go h18 hl (by decide) h10 <| rd_go h18 hl (by decide) h11 <| bn_go (F8_signOf_eq hs q) <| if_go (hx q) <| jp_go <| if_go rfl <| bn_go hg rfl
  · exact if_go (nI_le (by omega) (by omega)) <| jp_go <| if_go rfl <| bn_go hg rfl
theorem rdK_par {c : Int32} {y : MS} {l i p n : Nat} {u : Tx} (hab : inB c 65 90 = true) (hl : l < 14) (h18 : y 43 18 = nI l) (h10 : y 10 l = nI p) (h11 : y 11 l = nI (i + 1)) (hs : SrcZ y p u) (hi : i + 1 < u.length) (hx : u.getD (i + 1) 0 = 40) (h22 : y 43 22 = nI n) (hn : n < 400) : rdK c y = some (up2 (up2 (up2 (up2 (up2 y 11 l (nI (i + 2))) 19 n (c - 65)) 20 n 0) 43 22 (nI (n + 1))) 23 (n + 1) 0) := by
  have hu := hs.1
  refine bn_go (F8_isCall_eq c) <| jp_go <| if_no (by rw [hab]; decide) <| rd_go h18 hl (by decide) h11 <| rd_go h18 hl (by decide) h10 <| bn_go (F8_longOf_eq hs) <| jp_go <| jp_go ?_
  refine if_no (nI_ge hi (by omega)) <| rd_go h18 hl (by decide) h10 <| rd_go h18 hl (by decide) h11 <| bn_go (F8_signOf_eq hs hi) <| if_no (fun q => q hx) <| jp_go <| if_no (by decide) <| rd_go h18 hl (by decide) h11 <| wr_go h18 hl (by decide) ?_
  rw [nI_1]
  refine wr_go (k := n) (by rw [up2_ne _ (by decide)]; exact h22) hn (by decide) <| wr_go (k := n) (by rw [up2_ne _ (by decide), up2_ne _ (by decide)]; exact h22) hn (by decide) <| bd_go ?_
  have e : up2 (up2 (up2 y 11 l (nI (i + 1 + 1))) 19 n (c - 65)) 20 n 0 43 22 = nI n := by rw [up2_ne _ (by decide), up2_ne _ (by decide), up2_ne _ (by decide)]; exact h22
  rw [e, nI_1]
  exact wr_go (k := n + 1) (by rw [up2_at, if_pos ⟨rfl, rfl⟩]) (by omega) (by decide) rfl
/-- behind an argument -/
theorem rdK_arg {c : Int32} (hc : c = 44 ∨ c = 41) {y : MS} {n d w : Nat} (h22 : y 43 22 = nI (n + 1)) (hn : n < 400) (h20 : y 20 n = nI d) (hd : d < 6) (h23 : y 23 (n + 1) = nI w) {r : Option MS}
    (h : (if ¬ c = 41 then some (up2 (up2 (up2 y 21 (6 * n + d) (nI w)) 20 n (nI (d + 1))) 23 (n + 1) 0) else
      bd (up2 (up2 (up2 (up2 y 21 (6 * n + d) (nI w)) 20 n (nI (d + 1))) 23 (n + 1) 0) 43 22 (nI n)) fun z26 =>
      rd (z26 19) 400 (z26 43 22) fun x27 =>
      rd (z26 20) 400 (z26 43 22) fun x28 =>
      bn (F8_goesOn z26 x27 x28) fun z29 =>
      some z29) = r) : rdK c y = r := by
  have hab : inB c 65 90 = false := by rcases hc with rfl | rfl <;> rfl
  have e1 : y 43 22 - 1 = nI n := by rw [h22, nI_pred]
  have inner : (rd (y 20) 400 ((y 43 22) - 1) fun x19 =>
      rd (y 23) 401 (y 43 22) fun x20 =>
      wr y 21 2400 ((6 * ((y 43 22) - 1)) + x19) x20 fun z21 =>
      rd (z21 20) 400 ((z21 43 22) - 1) fun x22 =>
      wr z21 20 400 ((z21 43 22) - 1) (x22 + 1) fun z23 =>
      wr z23 23 401 (z23 43 22) 0 fun z24 =>
      if ¬ c = 41 then
      some z24
      else
      bd (up2 z24 43 22 ((z24 43 22) - 1)) fun z26 =>
      rd (z26 19) 400 (z26 43 22) fun x27 =>
      rd (z26 20) 400 (z26 43 22) fun x28 =>
      bn (F8_goesOn z26 x27 x28) fun z29 =>
      some z29) = r := by
    rw [e1]
    refine rd_go rfl hn (by decide) h20 <| rd_go h22 (by omega) (by decide) h23 <| wr_go (k := 6 * n + d) (by show nI 6 * nI n + nI d = _; rw [nI_mul, nI_add]) (by omega) (by decide) ?_
    have e2 : up2 y 21 (6 * n + d) (nI w) 43 = y 43 := up2_ne _ (by decide)
    rw [e2, e1]
    refine rd_go (v := nI d) rfl hn (by decide) (by rw [up2_ne _ (by decide)]; exact h20) <| wr_go rfl hn (by decide) ?_
    rw [nI_1]
    have e3 : up2 (up2 y 21 (6 * n + d) (nI w)) 20 n (nI (d + 1)) 43 = y 43 := by rw [up2_ne _ (by decide)]; exact e2
    refine wr_go (k := n + 1) (by rw [e3]; exact h22) (by omega) (by decide) ?_
    have e4 : up2 (up2 (up2 y 21 (6 * n + d) (nI w)) 20 n (nI (d + 1))) 23 (n + 1) 0 43 = y 43 := by rw [up2_ne _ (by decide)]; exact e3
    rw [e4, e1]
    exact h
  refine bn_go (F8_isCall_eq c) <| jp_go <| if_go (by rw [hab]; rfl) <| jp_go ?_
  rcases hc with rfl | rfl
  · exact if_go rfl inner
  · exact if_no (by decide) <| if_no (fun q => q rfl) inner
/-- a round of the loop -/
noncomputable def mB : MS → Option (MS ⊕ (MS × Int32)) := fun (z20 : MS) =>
  jp (fun (_ : Unit) => jp (fun (x43 : Int32) => bz x43 (some (.inr (z20, x43)))) fun k41 =>
  if ¬ (z20 43 24) = 0 then
  k41 0
  else
  k41 1) fun k21 =>
  if ¬ (z20 43 24) = 0 then
  k21 ()
  else
  jp (fun (_ : Unit) => rd (z20 11) 14 (z20 43 18) fun x29 =>
  rd (z20 10) 14 (z20 43 18) fun x30 =>
  bn (F8_longOf z20 x30) fun x31 =>
  if x31 ≤ x29 then
  rd (z20 10) 14 (z20 43 18) fun x33 =>
  rd (z20 13) 14 (z20 43 18) fun x34 =>
  rd (z20 23) 401 (z20 43 22) fun x35 =>
  rd (z20 15) 14 (z20 43 18) fun x36 =>
  rd (z20 14) 14 (z20 43 18) fun x37 =>
  bn (F8_notes z20 x33 0 ((z20 43 18) - 1) x34 (x35 - x36) x37) fun z38 =>
  bd (up2 z38 43 18 ((z38 43 18) - 1)) fun z39 =>
  some (.inl (z39))
  else
  bn (F8_reads z20) fun z40 =>
  some (.inl (z40))) fun k23 =>
  if (0 : Int32) < (z20 43 18) then
  k23 ()
  else
  rd (z20 11) 14 (0 : Int32) fun x25 =>
  rd (z20 10) 14 (0 : Int32) fun x26 =>
  bn (F8_longOf z20 x26) fun x27 =>
  if x27 ≤ x25 then
  k21 ()
  else
  k23 ()
theorem measures_of {z : MS} {r : MS × Int32} (h : Loop mB z = some r) : F8_measures z = some r := by
  obtain ⟨n, hn⟩ := Loop_some h
  cases n with
  | zero => cases hn
  | succ n =>
    unfold loopN at hn
    cases e : mB z with
    | none => rw [e] at hn; cases hn
    | some x =>
      rw [e] at hn
      have done : ∀ {z'}, x = .inl z' → Loop mB z' = some r := fun {z'} q => by
        subst q; exact Loop_of hn
      have stop : ∀ {r'}, x = .inr r' → r' = r := fun {r'} q => by
        subst q; exact Option.some.inj hn
      have hend : ∀ {k : Unit → Option (MS ⊕ (MS × Int32))}, (jp (fun (x43 : Int32) => bz x43 (some (.inr (z, x43)))) fun k41 => if ¬ (z 43 24) = 0 then k41 0 else k41 1) = some x → (jp (fun (x71 : Int32) => bz x71 (some (z, x71))) fun k69 => if ¬ (z 43 24) = 0 then k69 0 else k69 1) = some r := by
        intro _ q
        by_cases c : ¬ z 43 24 = 0
        · have q1 := it_pos q c
          have q2 := (bz_some q1).2
          have q3 := stop (Option.some.inj q2).symm
          exact jp_go <| if_go c <| bz_go (Or.inl rfl) (by rw [q3])
        · have q1 := it_neg q c
          have q2 := (bz_some q1).2
          have q3 := stop (Option.some.inj q2).symm
          exact jp_go <| if_no c <| bz_go (Or.inr rfl) (by rw [q3])
      have hmid : (rd (z 11) 14 (z 43 18) fun x29 =>
          rd (z 10) 14 (z 43 18) fun x30 =>
          bn (F8_longOf z x30) fun x31 =>
          if x31 ≤ x29 then
          rd (z 10) 14 (z 43 18) fun x33 =>
          rd (z 13) 14 (z 43 18) fun x34 =>
          rd (z 23) 401 (z 43 22) fun x35 =>
          rd (z 15) 14 (z 43 18) fun x36 =>
          rd (z 14) 14 (z 43 18) fun x37 =>
          bn (F8_notes z x33 0 ((z 43 18) - 1) x34 (x35 - x36) x37) fun z38 =>
          bd (up2 z38 43 18 ((z38 43 18) - 1)) fun z39 =>
          some (.inl (z39))
          else
          bn (F8_reads z) fun z40 =>
          some (.inl (z40))) = some x → (rd (z 11) 14 (z 43 18) fun x9 =>
          rd (z 10) 14 (z 43 18) fun x10 =>
          bn (F8_longOf z x10) fun x11 =>
          if x11 ≤ x9 then
          rd (z 10) 14 (z 43 18) fun x13 =>
          rd (z 13) 14 (z 43 18) fun x14 =>
          rd (z 23) 401 (z 43 22) fun x15 =>
          rd (z 15) 14 (z 43 18) fun x16 =>
          rd (z 14) 14 (z 43 18) fun x17 =>
          bn (F8_notes z x13 0 ((z 43 18) - 1) x14 (x15 - x16) x17) fun z18 =>
          bd (up2 z18 43 18 ((z18 43 18) - 1)) fun z19 =>
          Loop mB z19
          else
          bn (F8_reads z) fun z44 =>
          Loop mB z44) = some r := by
        intro q
        obtain ⟨p1, q⟩ := rd_some q
        obtain ⟨p2, q⟩ := rd_some q
        obtain ⟨a1, p3, q⟩ := bn_some q
        refine (rd_in p1).trans <| (rd_in p2).trans <| bn_go p3 ?_
        by_cases c : a1 ≤ z 11 (z 43 18).toNatClampNeg
        · have q := it_pos q c
          obtain ⟨p4, q⟩ := rd_some q
          obtain ⟨p5, q⟩ := rd_some q
          obtain ⟨p6, q⟩ := rd_some q
          obtain ⟨p7, q⟩ := rd_some q
          obtain ⟨p8, q⟩ := rd_some q
          obtain ⟨a2, p9, q⟩ := bn_some q
          refine if_go c <| (rd_in p4).trans <| (rd_in p5).trans <| (rd_in p6).trans <| (rd_in p7).trans <| (rd_in p8).trans <| bn_go p9 <| bd_go ?_
          exact done (Option.some.inj q).symm
        · have q := it_neg q c
          obtain ⟨a2, p4, q⟩ := bn_some q
          exact if_no c <| bn_go p4 (done (Option.some.inj q).symm)
      have top : mB z = some x := e
      unfold mB at top
      simp only [jp] at top
      unfold F8_measures
      simp only [jp] at hend hmid ⊢
      by_cases c : ¬ z 43 24 = 0
      · have q := it_pos top c
        exact if_go c (hend (k := fun _ => none) q)
      · have q := it_neg top c
        refine if_no c ?_
        by_cases d : (0 : Int32) < z 43 18
        · have q := it_pos q d
          exact if_go d (hmid q)
        · have q := it_neg q d
          refine if_no d ?_
          obtain ⟨p1, q⟩ := rd_some q
          obtain ⟨p2, q⟩ := rd_some q
          obtain ⟨a1, p3, q⟩ := bn_some q
          refine (rd_in p1).trans <| (rd_in p2).trans <| bn_go p3 ?_
          by_cases f : a1 ≤ z 11 (0 : Int32).toNatClampNeg
          · have q := it_pos q f
            exact if_go f (hend (k := fun _ => none) q)
          · have q := it_neg q f
            exact if_no f (hmid q)
theorem mB_fail {z : MS} (h : z 43 24 = 1) : Loop mB z = some (z, 0) := by
  refine Loop_inr ?_
  exact jp_go <| if_go (by rw [h]; decide) <| jp_go <| if_go (by rw [h]; decide) <| bz_go (Or.inl rfl) rfl
theorem mB_read {z z2 : MS} {l i p : Nat} {u : Tx} (hl : l < 14) (h24 : z 43 24 = 0) (h18 : z 43 18 = nI l) (h10 : z 10 l = nI p) (h11 : z 11 l = nI i) (hs : SrcZ z p u) (hi : i < u.length) (hr : F8_reads z = some z2) : Loop mB z = Loop mB z2 := by
  have hu := hs.1
  refine Loop_inl ?_
  have mid : (rd (z 11) 14 (z 43 18) fun x29 =>
      rd (z 10) 14 (z 43 18) fun x30 =>
      bn (F8_longOf z x30) fun x31 =>
      if x31 ≤ x29 then
      rd (z 10) 14 (z 43 18) fun x33 =>
      rd (z 13) 14 (z 43 18) fun x34 =>
      rd (z 23) 401 (z 43 22) fun x35 =>
      rd (z 15) 14 (z 43 18) fun x36 =>
      rd (z 14) 14 (z 43 18) fun x37 =>
      bn (F8_notes z x33 0 ((z 43 18) - 1) x34 (x35 - x36) x37) fun z38 =>
      bd (up2 z38 43 18 ((z38 43 18) - 1)) fun z39 =>
      (some (.inl (z39)) : Option (MS ⊕ (MS × Int32)))
      else
      bn (F8_reads z) fun z40 =>
      some (.inl (z40))) = some (.inl z2) := rd_go h18 hl (by decide) h11 <| rd_go h18 hl (by decide) h10 <| bn_go (F8_longOf_eq hs) <| if_no (nI_ge hi (by omega)) <| bn_go hr rfl
  refine jp_go <| if_no (fun q => q h24) <| jp_go ?_
  by_cases c : l = 0
  · subst c
    exact if_no (by rw [h18]; decide) <| rd_go (k := 0) rfl (by decide) (by decide) h11 <| rd_go (k := 0) rfl (by decide) (by decide) h10 <| bn_go (F8_longOf_eq hs) <| if_no (nI_ge hi (by omega)) mid
  · exact if_go (by rw [h18]; exact nI_lt (a := 0) (by omega) (by omega)) mid
theorem mB_close {z z2 : MS} {l i p : Nat} {x13 x14 x15 x23 : Int32} {u : Tx} {c : Nat} (hl : l + 1 < 14) (h24 : z 43 24 = 0) (h18 : z 43 18 = nI (l + 1)) (h10 : z 10 (l + 1) = nI p) (h11 : z 11 (l + 1) = nI i) (hs : SrcZ z p u) (hi : u.length ≤ i) (hi2 : i < 2 ^ 31) (h22 : z 43 22 = nI c) (hc : c < 401) (h13 : z 13 (l + 1) = x13) (h14 : z 14 (l + 1) = x14) (h15 : z 15 (l + 1) = x15) (h23 : z 23 c = x23) (hr : F8_notes z (nI p) 0 (nI l) x13 (x23 - x15) x14 = some z2) (h18' : z2 43 18 = nI (l + 1)) : Loop mB z = Loop mB (up2 z2 43 18 (nI l)) := by
  have hu := hs.1
  refine Loop_inl ?_
  refine jp_go <| if_no (fun q => q h24) <| jp_go <| if_go (by rw [h18]; exact nI_lt (a := 0) (by omega) (by omega)) ?_
  refine rd_go h18 hl (by decide) h11 <| rd_go h18 hl (by decide) h10 <| bn_go (F8_longOf_eq hs) <| if_go (nI_le hi hi2) <| rd_go h18 hl (by decide) h10 <| rd_go h18 hl (by decide) h13 <| rd_go h22 hc (by decide) h23 <| rd_go h18 hl (by decide) h15 <| rd_go h18 hl (by decide) h14 ?_
  rw [h18, nI_pred]
  refine bn_go hr <| bd_go ?_
  rw [h18', nI_pred]
theorem mB_end {z : MS} {i : Nat} {p : Int32} (h24 : z 43 24 = 0) (h18 : z 43 18 = 0) (h10 : z 10 0 = p) (h11 : z 11 0 = nI i) {n : Nat} (hs : F8_longOf z p = some (nI n)) (hi : n ≤ i) (hi2 : i < 2 ^ 31) : Loop mB z = some (z, 1) := by
  refine Loop_inr ?_
  exact jp_go <| if_no (fun q => q h24) <| jp_go <| if_no (by rw [h18]; decide) <| rd_go (k := 0) rfl (by decide) (by decide) h11 <| rd_go (k := 0) rfl (by decide) (by decide) h10 <| bn_go hs <| if_go (nI_le hi hi2) <| jp_go <| if_no (fun q => q h24) <| bz_go (Or.inr rfl) rfl
