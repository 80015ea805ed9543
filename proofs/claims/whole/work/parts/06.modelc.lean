/-! THE REFERENCE, laid by wip/whole/walk.py: F8_: what a method does; c8_: the machine does it -/
abbrev rm8_writes : Room := { frames := 0, cells := 0, slots := 0, locals := 0 }
noncomputable def F8_writes (z : MS) (p0 : Int32) : Option (MS) :=
  rd (z 23) 401 (z 43 22) fun x1 =>
  wr z 23 401 (z 43 22) (x1 + p0) fun z2 =>
  jp (fun (x8 : Int32) => bz x8 <|
  bd (up2 z2 43 24 x8) fun z9 =>
  some z9) fun k3 =>
  jp (fun (_ : Unit) => k3 1) fun k4 =>
  if ¬ (z2 43 24) = 0 then
  k4 ()
  else
  rd (z2 23) 401 (z2 43 22) fun x6 =>
  if x6 ≤ 200 then
  k3 0
  else
  k4 ()
set_option maxHeartbeats 4000000 in
set_option maxRecDepth 100000 in
theorem c8_writes (l : Launch) (D : va_G) (κ : Nat → ClassId) (A : Nat → Prop) (ad : Nat → Nat) (r0 : Nat → Option va_E) (z : MS) (p0 : Int32) (res : MS) (h : F8_writes z p0 = some res) : Met l yX8_writes (gw yX8_writes cX8_writes 2 none) rm8_writes (va_Pc [.ref (ad 43), .int p0] (MW D κ A ad (celM κ ad r0 z))) (QV D κ A ad (celM κ ad r0 res)) 0 0 A := by
  refine met_of (own := RX8) (by decide +kernel) rfl (Nat.le_of_ble_eq_true rfl) ?_
  intro p e s m below meth c ls X hr hlk G hl
  have hl : lv_has ls 2 [(0, .ref (ad 43)), (1, .int p0)] := hl
  unfold F8_writes at h
  refine lv_aload_n (pc := 0) X.1 X.2.1 dX8_writes_0 rfl (lv_at hl 0 rfl) ?_
  refine M_getr (pc := 1) X G 23 (by decide) (by decide +kernel) fl_X8_59 dX8_writes_1 ?_
  refine lv_aload_n (pc := 4) X.1 X.2.1 dX8_writes_4 rfl (lv_at hl 0 rfl) ?_
  refine M_geti (pc := 5) X G 22 (by decide) (by decide +kernel) fl_X8_156 dX8_writes_5 ?_
  refine lv_dup2_11 (pc := 8) X.1 X.2.1 dX8_writes_8 rfl rfl ?_
  obtain ⟨hix1, h⟩ := rd_some h
  refine M_iald (pc := 9) X G (i := 23) (n := 401) (by decide +kernel) (by decide) rfl hix1 dX8_writes_9 ?_
  refine lv_topi (fun x1 ex1 => ?_)
  rw [← ex1] at h
  refine lv_iload_n (pc := 10) X.1 X.2.1 dX8_writes_10 rfl (lv_at hl 1 rfl) ?_
  refine lv_iadd (pc := 11) X.1 X.2.1 dX8_writes_11 ?_
  obtain ⟨hiz2, z2, ez2, h⟩ := wr_some h
  refine M_iast (pc := 12) X G (i := 23) (n := 401) ez2 (by decide +kernel) (by decide) rfl hiz2 dX8_writes_12 (fun H locs G => ?_)
  refine lv_aload_n (pc := 13) X.1 X.2.1 dX8_writes_13 rfl (lv_at hl 0 rfl) ?_
  refine lv_aload_n (pc := 14) X.1 X.2.1 dX8_writes_14 rfl (lv_at hl 0 rfl) ?_
  refine M_geti (pc := 15) X G 24 (by decide) (by decide +kernel) fl_X8_159 dX8_writes_15 ?_
  obtain ⟨k3, ek3, h⟩ := jp_some h
  have hk3 : ∀ (x8 : Int32) (H : Heap) (locs : List Loc) (ls : Array Slot), k3 x8 = some res → Mm D κ A ad (celM κ ad r0 z2) s H locs → lv_has ls 2 [] → W p l e rm8_writes s m [.ref (ad 43), .int p0].toArray below meth c H locs 0 0 (MQ below (QV D κ A ad (celM κ ad r0 res)) [.ref (ad 43), .int p0].toArray s 0 0 A) (F0 m 41 ls [.int x8, .ref (ad 43)]) := by
    intro x8 H locs ls h G hl
    rw [ek3] at h
    try dsimp only at h
    obtain ⟨hbz9, h⟩ := bz_some h
    obtain ⟨z9, ez9, h⟩ := bd_some h
    refine M_putz (pc := 41) X G 24 ez9 (by decide) (by decide +kernel) hbz9 fl_X8_159 dX8_writes_41 (fun H locs G => ?_)
    have h := Option.some.inj h
    exact m_vret (pc := 44) X G hr hlk dX8_writes_44 (congrArg (celM κ ad r0) h)
  obtain ⟨k4, ek4, h⟩ := jp_some h
  have hk4 : ∀  (H : Heap) (locs : List Loc) (ls : Array Slot), k4 () = some res → Mm D κ A ad (celM κ ad r0 z2) s H locs → lv_has ls 2 [] → W p l e rm8_writes s m [.ref (ad 43), .int p0].toArray below meth c H locs 0 0 (MQ below (QV D κ A ad (celM κ ad r0 res)) [.ref (ad 43), .int p0].toArray s 0 0 A) (F0 m 36 ls [.ref (ad 43)]) := by
    intro  H locs ls h G hl
    rw [ek4] at h
    try dsimp only at h
    refine lv_iconst (pc := 36) (v := 1) X.1 X.2.1 dX8_writes_36 (by decide) ?_
    refine lv_goto (pc := 37) (tgt := 41) X.1 X.2.1 dX8_writes_37 (by decide) ?_
    exact hk3 1 _ _ ls h G (lv_sub hl [] rfl)
  refine lv_if_ne (pc := 18) (tgt := 36) X.1 X.2.1 dX8_writes_18 (by decide) (fun hc5 => ?_) (fun hc5 => ?_)
  · have h := it_pos h hc5
    exact hk4  _ _ ls h G (lv_sub hl [] rfl)
  · have h := it_neg h (fun q => q hc5)
    refine lv_aload_n (pc := 21) X.1 X.2.1 dX8_writes_21 rfl (lv_at hl 0 rfl) ?_
    refine M_getr (pc := 22) X G 23 (by decide) (by decide +kernel) fl_X8_59 dX8_writes_22 ?_
    refine lv_aload_n (pc := 25) X.1 X.2.1 dX8_writes_25 rfl (lv_at hl 0 rfl) ?_
    refine M_geti (pc := 26) X G 22 (by decide) (by decide +kernel) fl_X8_156 dX8_writes_26 ?_
    obtain ⟨hix6, h⟩ := rd_some h
    refine M_iald (pc := 29) X G (i := 23) (n := 401) (by decide +kernel) (by decide) rfl hix6 dX8_writes_29 ?_
    refine lv_topi (fun x6 ex6 => ?_)
    rw [← ex6] at h
    refine lv_sipush (pc := 30) (v := 200) X.1 X.2.1 dX8_writes_30 (by decide) ?_
    refine lv_icmp_le (pc := 33) (tgt := 40) X.1 X.2.1 dX8_writes_33 (by decide) (fun hc7 => ?_) (fun hc7 => ?_)
    · have h := it_pos h hc7
      refine lv_iconst (pc := 40) (v := 0) X.1 X.2.1 dX8_writes_40 (by decide) ?_
      exact hk3 0 _ _ ls h G (lv_sub hl [] rfl)
    · have h := it_neg h hc7
      exact hk4  _ _ ls h G (lv_sub hl [] rfl)

abbrev rm8_notes : Room := { frames := 0, cells := 0, slots := 0, locals := 0 }
noncomputable def F8_notes (z : MS) (p0 p1 p2 p3 p4 p5 : Int32) : Option (MS) :=
  if ¬ (z 43 28) = 60 then
  wr z 27 360 (6 * (z 43 28)) p0 fun z2 =>
  wr z2 27 360 ((6 * (z2 43 28)) + 1) p1 fun z3 =>
  wr z3 27 360 ((6 * (z3 43 28)) + 2) p2 fun z4 =>
  wr z4 27 360 ((6 * (z4 43 28)) + 3) p3 fun z5 =>
  wr z5 27 360 ((6 * (z5 43 28)) + 4) p4 fun z6 =>
  wr z6 27 360 ((6 * (z6 43 28)) + 5) p5 fun z7 =>
  bd (up2 z7 43 28 ((z7 43 28) + 1)) fun z8 =>
  some z8
  else
  some z
set_option maxHeartbeats 4000000 in
set_option maxRecDepth 100000 in
theorem c8_notes (l : Launch) (D : va_G) (κ : Nat → ClassId) (A : Nat → Prop) (ad : Nat → Nat) (r0 : Nat → Option va_E) (z : MS) (p0 p1 p2 p3 p4 p5 : Int32) (res : MS) (h : F8_notes z p0 p1 p2 p3 p4 p5 = some res) : Met l yX8_notes (gw yX8_notes cX8_notes 7 none) rm8_notes (va_Pc [.ref (ad 43), .int p0, .int p1, .int p2, .int p3, .int p4, .int p5] (MW D κ A ad (celM κ ad r0 z))) (QV D κ A ad (celM κ ad r0 res)) 0 0 A := by
  refine met_of (own := RX8) (by decide +kernel) rfl (Nat.le_of_ble_eq_true rfl) ?_
  intro p e s m below meth c ls X hr hlk G hl
  have hl : lv_has ls 7 [(0, .ref (ad 43)), (1, .int p0), (2, .int p1), (3, .int p2), (4, .int p3), (5, .int p4), (6, .int p5)] := hl
  unfold F8_notes at h
  refine lv_aload_n (pc := 0) X.1 X.2.1 dX8_notes_0 rfl (lv_at hl 0 rfl) ?_
  refine M_geti (pc := 1) X G 28 (by decide) (by decide +kernel) fl_X8_163 dX8_notes_1 ?_
  refine lv_bipush (pc := 4) (v := 60) X.1 X.2.1 dX8_notes_4 (by decide) ?_
  refine lv_icmp_ne (pc := 6) (tgt := 10) X.1 X.2.1 dX8_notes_6 (by decide) (fun hc1 => ?_) (fun hc1 => ?_)
  · have h := it_pos h hc1
    refine lv_aload_n (pc := 10) X.1 X.2.1 dX8_notes_10 rfl (lv_at hl 0 rfl) ?_
    refine M_getr (pc := 11) X G 27 (by decide) (by decide +kernel) fl_X8_62 dX8_notes_11 ?_
    refine lv_bipush (pc := 14) (v := 6) X.1 X.2.1 dX8_notes_14 (by decide) ?_
    refine lv_aload_n (pc := 16) X.1 X.2.1 dX8_notes_16 rfl (lv_at hl 0 rfl) ?_
    refine M_geti (pc := 17) X G 28 (by decide) (by decide +kernel) fl_X8_163 dX8_notes_17 ?_
    refine lv_imul (pc := 20) X.1 X.2.1 dX8_notes_20 ?_
    refine lv_iload_n (pc := 21) X.1 X.2.1 dX8_notes_21 rfl (lv_at hl 1 rfl) ?_
    obtain ⟨hiz2, z2, ez2, h⟩ := wr_some h
    refine M_iast (pc := 22) X G (i := 27) (n := 360) ez2 (by decide +kernel) (by decide) rfl hiz2 dX8_notes_22 (fun H locs G => ?_)
    refine lv_aload_n (pc := 23) X.1 X.2.1 dX8_notes_23 rfl (lv_at hl 0 rfl) ?_
    refine M_getr (pc := 24) X G 27 (by decide) (by decide +kernel) fl_X8_62 dX8_notes_24 ?_
    refine lv_bipush (pc := 27) (v := 6) X.1 X.2.1 dX8_notes_27 (by decide) ?_
    refine lv_aload_n (pc := 29) X.1 X.2.1 dX8_notes_29 rfl (lv_at hl 0 rfl) ?_
    refine M_geti (pc := 30) X G 28 (by decide) (by decide +kernel) fl_X8_163 dX8_notes_30 ?_
    refine lv_imul (pc := 33) X.1 X.2.1 dX8_notes_33 ?_
    refine lv_iconst (pc := 34) (v := 1) X.1 X.2.1 dX8_notes_34 (by decide) ?_
    refine lv_iadd (pc := 35) X.1 X.2.1 dX8_notes_35 ?_
    refine lv_iload_n (pc := 36) X.1 X.2.1 dX8_notes_36 rfl (lv_at hl 2 rfl) ?_
    obtain ⟨hiz3, z3, ez3, h⟩ := wr_some h
    refine M_iast (pc := 37) X G (i := 27) (n := 360) ez3 (by decide +kernel) (by decide) rfl hiz3 dX8_notes_37 (fun H locs G => ?_)
    refine lv_aload_n (pc := 38) X.1 X.2.1 dX8_notes_38 rfl (lv_at hl 0 rfl) ?_
    refine M_getr (pc := 39) X G 27 (by decide) (by decide +kernel) fl_X8_62 dX8_notes_39 ?_
    refine lv_bipush (pc := 42) (v := 6) X.1 X.2.1 dX8_notes_42 (by decide) ?_
    refine lv_aload_n (pc := 44) X.1 X.2.1 dX8_notes_44 rfl (lv_at hl 0 rfl) ?_
    refine M_geti (pc := 45) X G 28 (by decide) (by decide +kernel) fl_X8_163 dX8_notes_45 ?_
    refine lv_imul (pc := 48) X.1 X.2.1 dX8_notes_48 ?_
    refine lv_iconst (pc := 49) (v := 2) X.1 X.2.1 dX8_notes_49 (by decide) ?_
    refine lv_iadd (pc := 50) X.1 X.2.1 dX8_notes_50 ?_
    refine lv_iload_n (pc := 51) X.1 X.2.1 dX8_notes_51 rfl (lv_at hl 3 rfl) ?_
    obtain ⟨hiz4, z4, ez4, h⟩ := wr_some h
    refine M_iast (pc := 52) X G (i := 27) (n := 360) ez4 (by decide +kernel) (by decide) rfl hiz4 dX8_notes_52 (fun H locs G => ?_)
    refine lv_aload_n (pc := 53) X.1 X.2.1 dX8_notes_53 rfl (lv_at hl 0 rfl) ?_
    refine M_getr (pc := 54) X G 27 (by decide) (by decide +kernel) fl_X8_62 dX8_notes_54 ?_
    refine lv_bipush (pc := 57) (v := 6) X.1 X.2.1 dX8_notes_57 (by decide) ?_
    refine lv_aload_n (pc := 59) X.1 X.2.1 dX8_notes_59 rfl (lv_at hl 0 rfl) ?_
    refine M_geti (pc := 60) X G 28 (by decide) (by decide +kernel) fl_X8_163 dX8_notes_60 ?_
    refine lv_imul (pc := 63) X.1 X.2.1 dX8_notes_63 ?_
    refine lv_iconst (pc := 64) (v := 3) X.1 X.2.1 dX8_notes_64 (by decide) ?_
    refine lv_iadd (pc := 65) X.1 X.2.1 dX8_notes_65 ?_
    refine lv_iload (pc := 66) X.1 X.2.1 dX8_notes_66 (lv_at hl 4 rfl) ?_
    obtain ⟨hiz5, z5, ez5, h⟩ := wr_some h
    refine M_iast (pc := 68) X G (i := 27) (n := 360) ez5 (by decide +kernel) (by decide) rfl hiz5 dX8_notes_68 (fun H locs G => ?_)
    refine lv_aload_n (pc := 69) X.1 X.2.1 dX8_notes_69 rfl (lv_at hl 0 rfl) ?_
    refine M_getr (pc := 70) X G 27 (by decide) (by decide +kernel) fl_X8_62 dX8_notes_70 ?_
    refine lv_bipush (pc := 73) (v := 6) X.1 X.2.1 dX8_notes_73 (by decide) ?_
    refine lv_aload_n (pc := 75) X.1 X.2.1 dX8_notes_75 rfl (lv_at hl 0 rfl) ?_
    refine M_geti (pc := 76) X G 28 (by decide) (by decide +kernel) fl_X8_163 dX8_notes_76 ?_
    refine lv_imul (pc := 79) X.1 X.2.1 dX8_notes_79 ?_
    refine lv_iconst (pc := 80) (v := 4) X.1 X.2.1 dX8_notes_80 (by decide) ?_
    refine lv_iadd (pc := 81) X.1 X.2.1 dX8_notes_81 ?_
    refine lv_iload (pc := 82) X.1 X.2.1 dX8_notes_82 (lv_at hl 5 rfl) ?_
    obtain ⟨hiz6, z6, ez6, h⟩ := wr_some h
    refine M_iast (pc := 84) X G (i := 27) (n := 360) ez6 (by decide +kernel) (by decide) rfl hiz6 dX8_notes_84 (fun H locs G => ?_)
    refine lv_aload_n (pc := 85) X.1 X.2.1 dX8_notes_85 rfl (lv_at hl 0 rfl) ?_
    refine M_getr (pc := 86) X G 27 (by decide) (by decide +kernel) fl_X8_62 dX8_notes_86 ?_
    refine lv_bipush (pc := 89) (v := 6) X.1 X.2.1 dX8_notes_89 (by decide) ?_
    refine lv_aload_n (pc := 91) X.1 X.2.1 dX8_notes_91 rfl (lv_at hl 0 rfl) ?_
    refine M_geti (pc := 92) X G 28 (by decide) (by decide +kernel) fl_X8_163 dX8_notes_92 ?_
    refine lv_imul (pc := 95) X.1 X.2.1 dX8_notes_95 ?_
    refine lv_iconst (pc := 96) (v := 5) X.1 X.2.1 dX8_notes_96 (by decide) ?_
    refine lv_iadd (pc := 97) X.1 X.2.1 dX8_notes_97 ?_
    refine lv_iload (pc := 98) X.1 X.2.1 dX8_notes_98 (lv_at hl 6 rfl) ?_
    obtain ⟨hiz7, z7, ez7, h⟩ := wr_some h
    refine M_iast (pc := 100) X G (i := 27) (n := 360) ez7 (by decide +kernel) (by decide) rfl hiz7 dX8_notes_100 (fun H locs G => ?_)
    refine lv_aload_n (pc := 101) X.1 X.2.1 dX8_notes_101 rfl (lv_at hl 0 rfl) ?_
    refine lv_dup (pc := 102) X.1 X.2.1 dX8_notes_102 rfl ?_
    refine M_geti (pc := 103) X G 28 (by decide) (by decide +kernel) fl_X8_163 dX8_notes_103 ?_
    refine lv_iconst (pc := 106) (v := 1) X.1 X.2.1 dX8_notes_106 (by decide) ?_
    refine lv_iadd (pc := 107) X.1 X.2.1 dX8_notes_107 ?_
    obtain ⟨z8, ez8, h⟩ := bd_some h
    refine M_puti (pc := 108) X G 28 ez8 (by decide) (by decide +kernel) fl_X8_163 dX8_notes_108 (fun H locs G => ?_)
    have h := Option.some.inj h
    exact m_vret (pc := 111) X G hr hlk dX8_notes_111 (congrArg (celM κ ad r0) h)
  · have h := it_neg h (fun q => q hc1)
    have h := Option.some.inj h
    exact m_vret (pc := 9) X G hr hlk dX8_notes_9 (congrArg (celM κ ad r0) h)

abbrev rm8_isOpen : Room := { frames := 0, cells := 0, slots := 0, locals := 0 }
noncomputable def F8_isOpen (z : MS) (p0 : Int32) : Option (Int32) :=
  Loop (fun (q : Int32 × Int32) => (fun (x1 : Int32) (x2 : Int32) =>
  if (z 43 18) < x2 then
  bz x1 (some (.inr x1))
  else
  jp (fun (x9 : Int32) => bd (x2 + 1) fun x10 =>
  some (.inl (x9, x10))) fun k4 =>
  jp (fun (_ : Unit) => k4 1) fun k5 =>
  if ¬ x1 = 0 then
  k5 ()
  else
  rd (z 10) 14 x2 fun x7 =>
  if ¬ x7 = p0 then
  k4 0
  else
  k5 ()) q.1 q.2) (0, 1)
set_option maxHeartbeats 4000000 in
set_option maxRecDepth 100000 in
theorem c8_isOpen (l : Launch) (D : va_G) (κ : Nat → ClassId) (A : Nat → Prop) (ad : Nat → Nat) (r0 : Nat → Option va_E) (z : MS) (p0 : Int32) (res : Int32) (h : F8_isOpen z p0 = some res) : Met l yX8_isOpen (gw yX8_isOpen cX8_isOpen 4 (some (FieldType.boolean))) rm8_isOpen (va_Pc [.ref (ad 43), .int p0] (MW D κ A ad (celM κ ad r0 z))) (QI D κ A ad (celM κ ad r0 z) res) 0 0 A := by
  refine met_of (own := RX8) (by decide +kernel) rfl (Nat.le_of_ble_eq_true rfl) ?_
  intro p e s m below meth c ls X hr hlk G hl
  have hl : lv_has ls 4 [(0, .ref (ad 43)), (1, .int p0)] := hl
  unfold F8_isOpen at h
  refine lv_iconst (pc := 0) (v := 0) X.1 X.2.1 dX8_isOpen_0 (by decide) ?_
  refine lv_istore_n (pc := 1) (lv' := [(2, .int 0), (0, .ref (ad 43)), (1, .int p0)]) X.1 X.2.1 dX8_isOpen_1 rfl hl (by decide) rfl (fun ls hl => ?_)
  refine lv_iconst (pc := 2) (v := 1) X.1 X.2.1 dX8_isOpen_2 (by decide) ?_
  refine lv_istore_n (pc := 3) (lv' := [(3, .int 1), (2, .int 0), (0, .ref (ad 43)), (1, .int p0)]) X.1 X.2.1 dX8_isOpen_3 rfl hl (by decide) rfl (fun ls hl => ?_)
  refine Loop_ind (P := fun (q : Int32 × Int32) => ∀ (H : Heap) (locs : List Loc) (ls : Array Slot), Mm D κ A ad (celM κ ad r0 z) s H locs → lv_has ls 4 [(0, .ref (ad 43)), (1, .int p0), (2, .int q.1), (3, .int q.2)] → W p l e rm8_isOpen s m [.ref (ad 43), .int p0].toArray below meth c H locs 0 0 (MQ below (QI D κ A ad (celM κ ad r0 z) res) [.ref (ad 43), .int p0].toArray s 0 0 A) (F0 m 4 ls [])) ?_ h _ _ ls G (lv_sub hl [2, 3, 1, 0] rfl)
  intro q y1 h ih1 hz1 H locs ls G hl
  obtain ⟨x1, x2⟩ := q
  try dsimp only at h ih1 G hl ⊢
  refine lv_iload_n (pc := 4) X.1 X.2.1 dX8_isOpen_4 rfl (lv_at hl 3 rfl) ?_
  refine lv_aload_n (pc := 5) X.1 X.2.1 dX8_isOpen_5 rfl (lv_at hl 0 rfl) ?_
  refine M_geti (pc := 6) X G 18 (by decide) (by decide +kernel) fl_X8_166 dX8_isOpen_6 ?_
  refine lv_icmp_gt (pc := 9) (tgt := 38) X.1 X.2.1 dX8_isOpen_9 (by decide) (fun hc3 => ?_) (fun hc3 => ?_)
  · have h := it_pos h hc3
    refine lv_iload_n (pc := 38) X.1 X.2.1 dX8_isOpen_38 rfl (lv_at hl 2 rfl) ?_
    obtain ⟨hb, h⟩ := bz_some h
    have h := Option.some.inj h
    have h := hz1 _ h.symm
    exact m_zret (pc := 39) X G hr hlk dX8_isOpen_39 hb h rfl
  · have h := it_neg h hc3
    refine lv_iload_n (pc := 12) X.1 X.2.1 dX8_isOpen_12 rfl (lv_at hl 2 rfl) ?_
    obtain ⟨k4, ek4, h⟩ := jp_some h
    have hk4 : ∀ (x9 : Int32) (H : Heap) (locs : List Loc) (ls : Array Slot), k4 x9 = some y1 → Mm D κ A ad (celM κ ad r0 z) s H locs → lv_has ls 4 [(0, .ref (ad 43)), (1, .int p0), (3, .int x2)] → W p l e rm8_isOpen s m [.ref (ad 43), .int p0].toArray below meth c H locs 0 0 (MQ below (QI D κ A ad (celM κ ad r0 z) res) [.ref (ad 43), .int p0].toArray s 0 0 A) (F0 m 31 ls [.int x9]) := by
      intro x9 H locs ls h G hl
      rw [ek4] at h
      try dsimp only at h
      refine lv_istore_n (pc := 31) (lv' := [(2, .int x9), (0, .ref (ad 43)), (1, .int p0), (3, .int x2)]) X.1 X.2.1 dX8_isOpen_31 rfl hl (by decide) rfl (fun ls hl => ?_)
      obtain ⟨x10, ex10, h⟩ := bd_some h
      refine lv_iinc (pc := 32) (v := x10) (lv' := [(3, .int x10), (2, .int x9), (0, .ref (ad 43)), (1, .int p0)]) X.1 X.2.1 dX8_isOpen_32 hl (k := 3) rfl (by rw [ex10]; rfl) (by decide) rfl (fun ls hl => ?_)
      refine lv_goto (pc := 35) (tgt := 4) X.1 X.2.1 dX8_isOpen_35 (by decide) ?_
      have h := Option.some.inj h
      exact ih1 _ h.symm _ _ ls G (lv_sub hl [2, 3, 1, 0] rfl)
    obtain ⟨k5, ek5, h⟩ := jp_some h
    have hk5 : ∀  (H : Heap) (locs : List Loc) (ls : Array Slot), k5 () = some y1 → Mm D κ A ad (celM κ ad r0 z) s H locs → lv_has ls 4 [(0, .ref (ad 43)), (1, .int p0), (3, .int x2)] → W p l e rm8_isOpen s m [.ref (ad 43), .int p0].toArray below meth c H locs 0 0 (MQ below (QI D κ A ad (celM κ ad r0 z) res) [.ref (ad 43), .int p0].toArray s 0 0 A) (F0 m 26 ls []) := by
      intro  H locs ls h G hl
      rw [ek5] at h
      try dsimp only at h
      refine lv_iconst (pc := 26) (v := 1) X.1 X.2.1 dX8_isOpen_26 (by decide) ?_
      refine lv_goto (pc := 27) (tgt := 31) X.1 X.2.1 dX8_isOpen_27 (by decide) ?_
      exact hk4 1 _ _ ls h G (lv_sub hl [0, 1, 2] rfl)
    refine lv_if_ne (pc := 13) (tgt := 26) X.1 X.2.1 dX8_isOpen_13 (by decide) (fun hc6 => ?_) (fun hc6 => ?_)
    · have h := it_pos h hc6
      exact hk5  _ _ ls h G (lv_sub hl [0, 1, 3] rfl)
    · have h := it_neg h (fun q => q hc6)
      refine lv_aload_n (pc := 16) X.1 X.2.1 dX8_isOpen_16 rfl (lv_at hl 0 rfl) ?_
      refine M_getr (pc := 17) X G 10 (by decide) (by decide +kernel) fl_X8_29 dX8_isOpen_17 ?_
      refine lv_iload_n (pc := 20) X.1 X.2.1 dX8_isOpen_20 rfl (lv_at hl 3 rfl) ?_
      obtain ⟨hix7, h⟩ := rd_some h
      refine M_iald (pc := 21) X G (i := 10) (n := 14) (by decide +kernel) (by decide) rfl hix7 dX8_isOpen_21 ?_
      refine lv_topi (fun x7 ex7 => ?_)
      rw [← ex7] at h
      refine lv_iload_n (pc := 22) X.1 X.2.1 dX8_isOpen_22 rfl (lv_at hl 1 rfl) ?_
      refine lv_icmp_ne (pc := 23) (tgt := 30) X.1 X.2.1 dX8_isOpen_23 (by decide) (fun hc8 => ?_) (fun hc8 => ?_)
      · have h := it_pos h hc8
        refine lv_iconst (pc := 30) (v := 0) X.1 X.2.1 dX8_isOpen_30 (by decide) ?_
        exact hk4 0 _ _ ls h G (lv_sub hl [0, 1, 3] rfl)
      · have h := it_neg h (fun q => q hc8)
        exact hk5  _ _ ls h G (lv_sub hl [0, 1, 3] rfl)

abbrev rm8_opens : Room := { frames := 0, cells := 0, slots := 0, locals := 0 }
noncomputable def F8_opens (z : MS) (p0 : Int32) : Option (MS) :=
  bd (up2 z 43 18 ((z 43 18) + 1)) fun z1 =>
  wr z1 10 14 (z1 43 18) p0 fun z2 =>
  wr z2 11 14 (z2 43 18) 0 fun z3 =>
  wr z3 12 14 (z3 43 18) 0 fun z4 =>
  rd (z4 23) 401 (z4 43 22) fun x5 =>
  wr z4 15 14 (z4 43 18) x5 fun z6 =>
  wr z6 13 14 (z6 43 18) 0 fun z7 =>
  wr z7 14 14 (z7 43 18) 0 fun z8 =>
  bd (up2 z8 43 25 ((z8 43 25) + 1)) fun z9 =>
  jp (fun (x12 : Int32) => bd (up2 z9 43 26 x12) fun z13 =>
  jp (fun (x18 : Int32) => bz x18 <|
  bd (up2 z13 43 24 x18) fun z19 =>
  some z19) fun k14 =>
  jp (fun (_ : Unit) => k14 1) fun k15 =>
  if ¬ (z13 43 24) = 0 then
  k15 ()
  else
  if (z13 43 25) ≤ 60 then
  k14 0
  else
  k15 ()) fun k10 =>
  if (z9 43 18) ≤ (z9 43 26) then
  k10 (z9 43 26)
  else
  k10 (z9 43 18)
set_option maxHeartbeats 4000000 in
set_option maxRecDepth 100000 in
theorem c8_opens (l : Launch) (D : va_G) (κ : Nat → ClassId) (A : Nat → Prop) (ad : Nat → Nat) (r0 : Nat → Option va_E) (z : MS) (p0 : Int32) (res : MS) (h : F8_opens z p0 = some res) : Met l yX8_opens (gw yX8_opens cX8_opens 2 none) rm8_opens (va_Pc [.ref (ad 43), .int p0] (MW D κ A ad (celM κ ad r0 z))) (QV D κ A ad (celM κ ad r0 res)) 0 0 A := by
  refine met_of (own := RX8) (by decide +kernel) rfl (Nat.le_of_ble_eq_true rfl) ?_
  intro p e s m below meth c ls X hr hlk G hl
  have hl : lv_has ls 2 [(0, .ref (ad 43)), (1, .int p0)] := hl
  unfold F8_opens at h
  refine lv_aload_n (pc := 0) X.1 X.2.1 dX8_opens_0 rfl (lv_at hl 0 rfl) ?_
  refine lv_dup (pc := 1) X.1 X.2.1 dX8_opens_1 rfl ?_
  refine M_geti (pc := 2) X G 18 (by decide) (by decide +kernel) fl_X8_166 dX8_opens_2 ?_
  refine lv_iconst (pc := 5) (v := 1) X.1 X.2.1 dX8_opens_5 (by decide) ?_
  refine lv_iadd (pc := 6) X.1 X.2.1 dX8_opens_6 ?_
  obtain ⟨z1, ez1, h⟩ := bd_some h
  refine M_puti (pc := 7) X G 18 ez1 (by decide) (by decide +kernel) fl_X8_166 dX8_opens_7 (fun H locs G => ?_)
  refine lv_aload_n (pc := 10) X.1 X.2.1 dX8_opens_10 rfl (lv_at hl 0 rfl) ?_
  refine M_getr (pc := 11) X G 10 (by decide) (by decide +kernel) fl_X8_29 dX8_opens_11 ?_
  refine lv_aload_n (pc := 14) X.1 X.2.1 dX8_opens_14 rfl (lv_at hl 0 rfl) ?_
  refine M_geti (pc := 15) X G 18 (by decide) (by decide +kernel) fl_X8_166 dX8_opens_15 ?_
  refine lv_iload_n (pc := 18) X.1 X.2.1 dX8_opens_18 rfl (lv_at hl 1 rfl) ?_
  obtain ⟨hiz2, z2, ez2, h⟩ := wr_some h
  refine M_iast (pc := 19) X G (i := 10) (n := 14) ez2 (by decide +kernel) (by decide) rfl hiz2 dX8_opens_19 (fun H locs G => ?_)
  refine lv_aload_n (pc := 20) X.1 X.2.1 dX8_opens_20 rfl (lv_at hl 0 rfl) ?_
  refine M_getr (pc := 21) X G 11 (by decide) (by decide +kernel) fl_X8_32 dX8_opens_21 ?_
  refine lv_aload_n (pc := 24) X.1 X.2.1 dX8_opens_24 rfl (lv_at hl 0 rfl) ?_
  refine M_geti (pc := 25) X G 18 (by decide) (by decide +kernel) fl_X8_166 dX8_opens_25 ?_
  refine lv_iconst (pc := 28) (v := 0) X.1 X.2.1 dX8_opens_28 (by decide) ?_
  obtain ⟨hiz3, z3, ez3, h⟩ := wr_some h
  refine M_iast (pc := 29) X G (i := 11) (n := 14) ez3 (by decide +kernel) (by decide) rfl hiz3 dX8_opens_29 (fun H locs G => ?_)
  refine lv_aload_n (pc := 30) X.1 X.2.1 dX8_opens_30 rfl (lv_at hl 0 rfl) ?_
  refine M_getr (pc := 31) X G 12 (by decide) (by decide +kernel) fl_X8_35 dX8_opens_31 ?_
  refine lv_aload_n (pc := 34) X.1 X.2.1 dX8_opens_34 rfl (lv_at hl 0 rfl) ?_
  refine M_geti (pc := 35) X G 18 (by decide) (by decide +kernel) fl_X8_166 dX8_opens_35 ?_
  refine lv_iconst (pc := 38) (v := 0) X.1 X.2.1 dX8_opens_38 (by decide) ?_
  obtain ⟨hiz4, z4, ez4, h⟩ := wr_some h
  refine M_iast (pc := 39) X G (i := 12) (n := 14) ez4 (by decide +kernel) (by decide) rfl hiz4 dX8_opens_39 (fun H locs G => ?_)
  refine lv_aload_n (pc := 40) X.1 X.2.1 dX8_opens_40 rfl (lv_at hl 0 rfl) ?_
  refine M_getr (pc := 41) X G 15 (by decide) (by decide +kernel) fl_X8_44 dX8_opens_41 ?_
  refine lv_aload_n (pc := 44) X.1 X.2.1 dX8_opens_44 rfl (lv_at hl 0 rfl) ?_
  refine M_geti (pc := 45) X G 18 (by decide) (by decide +kernel) fl_X8_166 dX8_opens_45 ?_
  refine lv_aload_n (pc := 48) X.1 X.2.1 dX8_opens_48 rfl (lv_at hl 0 rfl) ?_
  refine M_getr (pc := 49) X G 23 (by decide) (by decide +kernel) fl_X8_59 dX8_opens_49 ?_
  refine lv_aload_n (pc := 52) X.1 X.2.1 dX8_opens_52 rfl (lv_at hl 0 rfl) ?_
  refine M_geti (pc := 53) X G 22 (by decide) (by decide +kernel) fl_X8_156 dX8_opens_53 ?_
  obtain ⟨hix5, h⟩ := rd_some h
  refine M_iald (pc := 56) X G (i := 23) (n := 401) (by decide +kernel) (by decide) rfl hix5 dX8_opens_56 ?_
  refine lv_topi (fun x5 ex5 => ?_)
  rw [← ex5] at h
  obtain ⟨hiz6, z6, ez6, h⟩ := wr_some h
  refine M_iast (pc := 57) X G (i := 15) (n := 14) ez6 (by decide +kernel) (by decide) rfl hiz6 dX8_opens_57 (fun H locs G => ?_)
  refine lv_aload_n (pc := 58) X.1 X.2.1 dX8_opens_58 rfl (lv_at hl 0 rfl) ?_
  refine M_getr (pc := 59) X G 13 (by decide) (by decide +kernel) fl_X8_38 dX8_opens_59 ?_
  refine lv_aload_n (pc := 62) X.1 X.2.1 dX8_opens_62 rfl (lv_at hl 0 rfl) ?_
  refine M_geti (pc := 63) X G 18 (by decide) (by decide +kernel) fl_X8_166 dX8_opens_63 ?_
  refine lv_iconst (pc := 66) (v := 0) X.1 X.2.1 dX8_opens_66 (by decide) ?_
  obtain ⟨hiz7, z7, ez7, h⟩ := wr_some h
  refine M_iast (pc := 67) X G (i := 13) (n := 14) ez7 (by decide +kernel) (by decide) rfl hiz7 dX8_opens_67 (fun H locs G => ?_)
  refine lv_aload_n (pc := 68) X.1 X.2.1 dX8_opens_68 rfl (lv_at hl 0 rfl) ?_
  refine M_getr (pc := 69) X G 14 (by decide) (by decide +kernel) fl_X8_41 dX8_opens_69 ?_
  refine lv_aload_n (pc := 72) X.1 X.2.1 dX8_opens_72 rfl (lv_at hl 0 rfl) ?_
  refine M_geti (pc := 73) X G 18 (by decide) (by decide +kernel) fl_X8_166 dX8_opens_73 ?_
  refine lv_iconst (pc := 76) (v := 0) X.1 X.2.1 dX8_opens_76 (by decide) ?_
  obtain ⟨hiz8, z8, ez8, h⟩ := wr_some h
  refine M_iast (pc := 77) X G (i := 14) (n := 14) ez8 (by decide +kernel) (by decide) rfl hiz8 dX8_opens_77 (fun H locs G => ?_)
  refine lv_aload_n (pc := 78) X.1 X.2.1 dX8_opens_78 rfl (lv_at hl 0 rfl) ?_
  refine lv_dup (pc := 79) X.1 X.2.1 dX8_opens_79 rfl ?_
  refine M_geti (pc := 80) X G 25 (by decide) (by decide +kernel) fl_X8_169 dX8_opens_80 ?_
  refine lv_iconst (pc := 83) (v := 1) X.1 X.2.1 dX8_opens_83 (by decide) ?_
  refine lv_iadd (pc := 84) X.1 X.2.1 dX8_opens_84 ?_
  obtain ⟨z9, ez9, h⟩ := bd_some h
  refine M_puti (pc := 85) X G 25 ez9 (by decide) (by decide +kernel) fl_X8_169 dX8_opens_85 (fun H locs G => ?_)
  refine lv_aload_n (pc := 88) X.1 X.2.1 dX8_opens_88 rfl (lv_at hl 0 rfl) ?_
  refine lv_aload_n (pc := 89) X.1 X.2.1 dX8_opens_89 rfl (lv_at hl 0 rfl) ?_
  refine M_geti (pc := 90) X G 18 (by decide) (by decide +kernel) fl_X8_166 dX8_opens_90 ?_
  refine lv_aload_n (pc := 93) X.1 X.2.1 dX8_opens_93 rfl (lv_at hl 0 rfl) ?_
  refine M_geti (pc := 94) X G 26 (by decide) (by decide +kernel) fl_X8_172 dX8_opens_94 ?_
  obtain ⟨k10, ek10, h⟩ := jp_some h
  have hk10 : ∀ (x12 : Int32) (H : Heap) (locs : List Loc) (ls : Array Slot), k10 x12 = some res → Mm D κ A ad (celM κ ad r0 z9) s H locs → lv_has ls 2 [(0, .ref (ad 43))] → W p l e rm8_opens s m [.ref (ad 43), .int p0].toArray below meth c H locs 0 0 (MQ below (QV D κ A ad (celM κ ad r0 res)) [.ref (ad 43), .int p0].toArray s 0 0 A) (F0 m 111 ls [.int x12, .ref (ad 43)]) := by
    intro x12 H locs ls h G hl
    rw [ek10] at h
    try dsimp only at h
    obtain ⟨z13, ez13, h⟩ := bd_some h
    refine M_puti (pc := 111) X G 26 ez13 (by decide) (by decide +kernel) fl_X8_172 dX8_opens_111 (fun H locs G => ?_)
    refine lv_aload_n (pc := 114) X.1 X.2.1 dX8_opens_114 rfl (lv_at hl 0 rfl) ?_
    refine lv_aload_n (pc := 115) X.1 X.2.1 dX8_opens_115 rfl (lv_at hl 0 rfl) ?_
    refine M_geti (pc := 116) X G 24 (by decide) (by decide +kernel) fl_X8_159 dX8_opens_116 ?_
    obtain ⟨k14, ek14, h⟩ := jp_some h
    have hk14 : ∀ (x18 : Int32) (H : Heap) (locs : List Loc) (ls : Array Slot), k14 x18 = some res → Mm D κ A ad (celM κ ad r0 z13) s H locs → lv_has ls 2 [] → W p l e rm8_opens s m [.ref (ad 43), .int p0].toArray below meth c H locs 0 0 (MQ below (QV D κ A ad (celM κ ad r0 res)) [.ref (ad 43), .int p0].toArray s 0 0 A) (F0 m 136 ls [.int x18, .ref (ad 43)]) := by
      intro x18 H locs ls h G hl
      rw [ek14] at h
      try dsimp only at h
      obtain ⟨hbz19, h⟩ := bz_some h
      obtain ⟨z19, ez19, h⟩ := bd_some h
      refine M_putz (pc := 136) X G 24 ez19 (by decide) (by decide +kernel) hbz19 fl_X8_159 dX8_opens_136 (fun H locs G => ?_)
      have h := Option.some.inj h
      exact m_vret (pc := 139) X G hr hlk dX8_opens_139 (congrArg (celM κ ad r0) h)
    obtain ⟨k15, ek15, h⟩ := jp_some h
    have hk15 : ∀  (H : Heap) (locs : List Loc) (ls : Array Slot), k15 () = some res → Mm D κ A ad (celM κ ad r0 z13) s H locs → lv_has ls 2 [] → W p l e rm8_opens s m [.ref (ad 43), .int p0].toArray below meth c H locs 0 0 (MQ below (QV D κ A ad (celM κ ad r0 res)) [.ref (ad 43), .int p0].toArray s 0 0 A) (F0 m 131 ls [.ref (ad 43)]) := by
      intro  H locs ls h G hl
      rw [ek15] at h
      try dsimp only at h
      refine lv_iconst (pc := 131) (v := 1) X.1 X.2.1 dX8_opens_131 (by decide) ?_
      refine lv_goto (pc := 132) (tgt := 136) X.1 X.2.1 dX8_opens_132 (by decide) ?_
      exact hk14 1 _ _ ls h G (lv_sub hl [] rfl)
    refine lv_if_ne (pc := 119) (tgt := 131) X.1 X.2.1 dX8_opens_119 (by decide) (fun hc16 => ?_) (fun hc16 => ?_)
    · have h := it_pos h hc16
      exact hk15  _ _ ls h G (lv_sub hl [] rfl)
    · have h := it_neg h (fun q => q hc16)
      refine lv_aload_n (pc := 122) X.1 X.2.1 dX8_opens_122 rfl (lv_at hl 0 rfl) ?_
      refine M_geti (pc := 123) X G 25 (by decide) (by decide +kernel) fl_X8_169 dX8_opens_123 ?_
      refine lv_bipush (pc := 126) (v := 60) X.1 X.2.1 dX8_opens_126 (by decide) ?_
      refine lv_icmp_le (pc := 128) (tgt := 135) X.1 X.2.1 dX8_opens_128 (by decide) (fun hc17 => ?_) (fun hc17 => ?_)
      · have h := it_pos h hc17
        refine lv_iconst (pc := 135) (v := 0) X.1 X.2.1 dX8_opens_135 (by decide) ?_
        exact hk14 0 _ _ ls h G (lv_sub hl [] rfl)
      · have h := it_neg h hc17
        exact hk15  _ _ ls h G (lv_sub hl [] rfl)
  refine lv_icmp_le (pc := 97) (tgt := 107) X.1 X.2.1 dX8_opens_97 (by decide) (fun hc11 => ?_) (fun hc11 => ?_)
  · have h := it_pos h hc11
    refine lv_aload_n (pc := 107) X.1 X.2.1 dX8_opens_107 rfl (lv_at hl 0 rfl) ?_
    refine M_geti (pc := 108) X G 26 (by decide) (by decide +kernel) fl_X8_172 dX8_opens_108 ?_
    exact hk10 (z9 43 26) _ _ ls h G (lv_sub hl [0] rfl)
  · have h := it_neg h hc11
    refine lv_aload_n (pc := 100) X.1 X.2.1 dX8_opens_100 rfl (lv_at hl 0 rfl) ?_
    refine M_geti (pc := 101) X G 18 (by decide) (by decide +kernel) fl_X8_166 dX8_opens_101 ?_
    refine lv_goto (pc := 104) (tgt := 111) X.1 X.2.1 dX8_opens_104 (by decide) ?_
    exact hk10 (z9 43 18) _ _ ls h G (lv_sub hl [0] rfl)

abbrev rm8_goesOn : Room := { frames := 1, cells := 0, slots := 0, locals := 26 }
noncomputable def F8_goesOn (z : MS) (p0 p1 : Int32) : Option (MS) :=
  Loop (fun (q : Int32 × Int32) => (fun (x1 : Int32) (x2 : Int32) =>
  if p1 ≤ x2 then
  bn (F8_isDefined z p0) fun x4 =>
  jp (fun (x11 : Int32) => if x11 ≤ 0 then
  bn (F8_opens z p0) fun z13 =>
  wr z13 13 14 (z13 43 18) p1 fun z14 =>
  wr z14 14 14 (z14 43 18) x1 fun z15 =>
  Loop (fun (q : Int32 × MS) => (fun (x16 : Int32) (z17 : MS) =>
  if p1 ≤ x16 then
  some (.inr (.inr z17))
  else
  rd (z17 21) 2400 ((6 * (z17 43 22)) + x16) fun x19 =>
  wr z17 16 84 ((6 * (z17 43 18)) + x16) x19 fun z20 =>
  bd (x16 + 1) fun x21 =>
  some (.inl (x21, z20))) q.1 q.2) (0, z15)
  else
  bn (F8_writes z 1) fun z22 =>
  bn (F8_notes z22 p0 x11 (z22 43 18) p1 1 x1) fun z23 =>
  some (.inr z23)) fun k5 =>
  if ¬ x4 = 0 then
  bn (F8_isOpen z p0) fun x7 =>
  if x7 = 0 then
  rd (z 0) 2153 (1586 : Int32) fun x9 =>
  if ¬ (z 43 18) = x9 then
  k5 0
  else
  k5 3
  else
  k5 2
  else
  k5 1
  else
  rd (z 21) 2400 ((6 * (z 43 22)) + x2) fun x24 =>
  bd (x1 + x24) fun x25 =>
  bd (x2 + 1) fun x26 =>
  some (.inl (x25, x26))) q.1 q.2) (0, 0)
set_option maxHeartbeats 4000000 in
set_option maxRecDepth 100000 in
theorem c8_goesOn (l : Launch) (D : va_G) (κ : Nat → ClassId) (A : Nat → Prop) (ad : Nat → Nat) (r0 : Nat → Option va_E) (z : MS) (p0 p1 : Int32) (res : MS) (h : F8_goesOn z p0 p1 = some res) : Met l yX8_goesOn (gw yX8_goesOn cX8_goesOn 6 none) rm8_goesOn (va_Pc [.ref (ad 43), .int p0, .int p1] (MW D κ A ad (celM κ ad r0 z))) (QV D κ A ad (celM κ ad r0 res)) 0 0 A := by
  refine met_of (own := RX8) (by decide +kernel) rfl (Nat.le_of_ble_eq_true rfl) ?_
  intro p e s m below meth c ls X hr hlk G hl
  have hl : lv_has ls 6 [(0, .ref (ad 43)), (1, .int p0), (2, .int p1)] := hl
  unfold F8_goesOn at h
  refine lv_iconst (pc := 0) (v := 0) X.1 X.2.1 dX8_goesOn_0 (by decide) ?_
  refine lv_istore_n (pc := 1) (lv' := [(3, .int 0), (0, .ref (ad 43)), (1, .int p0), (2, .int p1)]) X.1 X.2.1 dX8_goesOn_1 rfl hl (by decide) rfl (fun ls hl => ?_)
  refine lv_iconst (pc := 2) (v := 0) X.1 X.2.1 dX8_goesOn_2 (by decide) ?_
  refine lv_istore (pc := 3) (lv' := [(4, .int 0), (3, .int 0), (0, .ref (ad 43)), (1, .int p0), (2, .int p1)]) X.1 X.2.1 dX8_goesOn_3 hl (by decide) rfl (fun ls hl => ?_)
  refine Loop_ind (P := fun (q : Int32 × Int32) => ∀ (H : Heap) (locs : List Loc) (ls : Array Slot), Mm D κ A ad (celM κ ad r0 z) s H locs → lv_has ls 6 [(0, .ref (ad 43)), (1, .int p0), (2, .int p1), (3, .int q.1), (4, .int q.2)] → W p l e rm8_goesOn s m [.ref (ad 43), .int p0, .int p1].toArray below meth c H locs 0 0 (MQ below (QV D κ A ad (celM κ ad r0 res)) [.ref (ad 43), .int p0, .int p1].toArray s 0 0 A) (F0 m 5 ls [])) ?_ h _ _ ls G (lv_sub hl [2, 3, 4, 1, 0] rfl)
  intro q y1 h ih1 hz1 H locs ls G hl
  obtain ⟨x1, x2⟩ := q
  try dsimp only at h ih1 G hl ⊢
  refine lv_iload (pc := 5) X.1 X.2.1 dX8_goesOn_5 (lv_at hl 4 rfl) ?_
  refine lv_iload_n (pc := 7) X.1 X.2.1 dX8_goesOn_7 rfl (lv_at hl 2 rfl) ?_
  refine lv_icmp_ge (pc := 8) (tgt := 35) X.1 X.2.1 dX8_goesOn_8 (by decide) (fun hc3 => ?_) (fun hc3 => ?_)
  · have h := it_pos h hc3
    refine lv_aload_n (pc := 35) X.1 X.2.1 dX8_goesOn_35 rfl (lv_at hl 0 rfl) ?_
    refine lv_iload_n (pc := 36) X.1 X.2.1 dX8_goesOn_36 rfl (lv_at hl 1 rfl) ?_
    obtain ⟨x4, ex4, h⟩ := bn_some h
    refine M_calli (pc := 37) (z1 := z) (v := x4) (As := [.int p0]) (rest := []) X G (rm := rm8_isDefined) rfl rfl (c8_isDefined l D κ A ad r0 z p0 x4 ex4) g_X8_112 hd_yX8_isDefined ⟨Nat.le_of_ble_eq_true rfl, Nat.le_of_ble_eq_true rfl⟩ rfl hl rfl (lv_room (Nat.le_of_ble_eq_true rfl)) dX8_goesOn_37 ⟨Nat.le_of_ble_eq_true rfl, Nat.le_of_ble_eq_true rfl⟩ (fun H locs G => ?_)
    obtain ⟨k5, ek5, h⟩ := jp_some h
    have hk5 : ∀ (x11 : Int32) (H : Heap) (locs : List Loc) (ls : Array Slot), k5 x11 = some y1 → Mm D κ A ad (celM κ ad r0 z) s H locs → lv_has ls 6 [(0, .ref (ad 43)), (1, .int p0), (2, .int p1), (3, .int x1)] → W p l e rm8_goesOn s m [.ref (ad 43), .int p0, .int p1].toArray below meth c H locs 0 0 (MQ below (QV D κ A ad (celM κ ad r0 res)) [.ref (ad 43), .int p0, .int p1].toArray s 0 0 A) (F0 m 79 ls [.int x11]) := by
      intro x11 H locs ls h G hl
      rw [ek5] at h
      try dsimp only at h
      refine lv_istore (pc := 79) (lv' := [(4, .int x11), (0, .ref (ad 43)), (1, .int p0), (2, .int p1), (3, .int x1)]) X.1 X.2.1 dX8_goesOn_79 hl (by decide) rfl (fun ls hl => ?_)
      refine lv_iload (pc := 81) X.1 X.2.1 dX8_goesOn_81 (lv_at hl 0 rfl) ?_
      refine lv_if_le (pc := 83) (tgt := 106) X.1 X.2.1 dX8_goesOn_83 (by decide) (fun hc12 => ?_) (fun hc12 => ?_)
      · have h := it_pos h hc12
        refine lv_aload_n (pc := 106) X.1 X.2.1 dX8_goesOn_106 rfl (lv_at hl 1 rfl) ?_
        refine lv_iload_n (pc := 107) X.1 X.2.1 dX8_goesOn_107 rfl (lv_at hl 2 rfl) ?_
        obtain ⟨z13, ez13, h⟩ := bn_some h
        refine M_callv (pc := 108) (z1 := z13) (As := [.int p0]) (rest := []) X G (rm := rm8_opens) rfl rfl (c8_opens l D κ A ad r0 z p0 z13 ez13) g_X8_185 hd_yX8_opens ⟨Nat.le_of_ble_eq_true rfl, Nat.le_of_ble_eq_true rfl⟩ rfl hl rfl (lv_room (Nat.le_of_ble_eq_true rfl)) dX8_goesOn_108 ⟨Nat.le_of_ble_eq_true rfl, Nat.le_of_ble_eq_true rfl⟩ (fun H locs G => ?_)
        refine lv_aload_n (pc := 111) X.1 X.2.1 dX8_goesOn_111 rfl (lv_at hl 1 rfl) ?_
        refine M_getr (pc := 112) X G 13 (by decide) (by decide +kernel) fl_X8_38 dX8_goesOn_112 ?_
        refine lv_aload_n (pc := 115) X.1 X.2.1 dX8_goesOn_115 rfl (lv_at hl 1 rfl) ?_
        refine M_geti (pc := 116) X G 18 (by decide) (by decide +kernel) fl_X8_166 dX8_goesOn_116 ?_
        refine lv_iload_n (pc := 119) X.1 X.2.1 dX8_goesOn_119 rfl (lv_at hl 3 rfl) ?_
        obtain ⟨hiz14, z14, ez14, h⟩ := wr_some h
        refine M_iast (pc := 120) X G (i := 13) (n := 14) ez14 (by decide +kernel) (by decide) rfl hiz14 dX8_goesOn_120 (fun H locs G => ?_)
        refine lv_aload_n (pc := 121) X.1 X.2.1 dX8_goesOn_121 rfl (lv_at hl 1 rfl) ?_
        refine M_getr (pc := 122) X G 14 (by decide) (by decide +kernel) fl_X8_41 dX8_goesOn_122 ?_
        refine lv_aload_n (pc := 125) X.1 X.2.1 dX8_goesOn_125 rfl (lv_at hl 1 rfl) ?_
        refine M_geti (pc := 126) X G 18 (by decide) (by decide +kernel) fl_X8_166 dX8_goesOn_126 ?_
        refine lv_iload_n (pc := 129) X.1 X.2.1 dX8_goesOn_129 rfl (lv_at hl 4 rfl) ?_
        obtain ⟨hiz15, z15, ez15, h⟩ := wr_some h
        refine M_iast (pc := 130) X G (i := 14) (n := 14) ez15 (by decide +kernel) (by decide) rfl hiz15 dX8_goesOn_130 (fun H locs G => ?_)
        refine lv_iconst (pc := 131) (v := 0) X.1 X.2.1 dX8_goesOn_131 (by decide) ?_
        refine lv_istore (pc := 132) (lv' := [(5, .int 0), (4, .int x11), (0, .ref (ad 43)), (1, .int p0), (2, .int p1), (3, .int x1)]) X.1 X.2.1 dX8_goesOn_132 hl (by decide) rfl (fun ls hl => ?_)
        refine Loop_ind (P := fun (q : Int32 × MS) => ∀ (H : Heap) (locs : List Loc) (ls : Array Slot), Mm D κ A ad (celM κ ad r0 q.2) s H locs → lv_has ls 6 [(0, .ref (ad 43)), (2, .int p1), (5, .int q.1)] → W p l e rm8_goesOn s m [.ref (ad 43), .int p0, .int p1].toArray below meth c H locs 0 0 (MQ below (QV D κ A ad (celM κ ad r0 res)) [.ref (ad 43), .int p0, .int p1].toArray s 0 0 A) (F0 m 134 ls [])) ?_ h _ _ ls G (lv_sub hl [2, 4, 0] rfl)
        intro q y2 h ih2 hz2 H locs ls G hl
        obtain ⟨x16, z17⟩ := q
        try dsimp only at h ih2 G hl ⊢
        refine lv_iload (pc := 134) X.1 X.2.1 dX8_goesOn_134 (lv_at hl 2 rfl) ?_
        refine lv_iload_n (pc := 136) X.1 X.2.1 dX8_goesOn_136 rfl (lv_at hl 1 rfl) ?_
        refine lv_icmp_ge (pc := 137) (tgt := 176) X.1 X.2.1 dX8_goesOn_137 (by decide) (fun hc18 => ?_) (fun hc18 => ?_)
        · have h := it_pos h hc18
          have h := Option.some.inj h
          have h := hz2 _ h.symm
          have h := hz1 _ h.symm
          exact m_vret (pc := 176) X G hr hlk dX8_goesOn_176 (congrArg (celM κ ad r0) h)
        · have h := it_neg h hc18
          refine lv_aload_n (pc := 140) X.1 X.2.1 dX8_goesOn_140 rfl (lv_at hl 0 rfl) ?_
          refine M_getr (pc := 141) X G 16 (by decide) (by decide +kernel) fl_X8_47 dX8_goesOn_141 ?_
          refine lv_bipush (pc := 144) (v := 6) X.1 X.2.1 dX8_goesOn_144 (by decide) ?_
          refine lv_aload_n (pc := 146) X.1 X.2.1 dX8_goesOn_146 rfl (lv_at hl 0 rfl) ?_
          refine M_geti (pc := 147) X G 18 (by decide) (by decide +kernel) fl_X8_166 dX8_goesOn_147 ?_
          refine lv_imul (pc := 150) X.1 X.2.1 dX8_goesOn_150 ?_
          refine lv_iload (pc := 151) X.1 X.2.1 dX8_goesOn_151 (lv_at hl 2 rfl) ?_
          refine lv_iadd (pc := 153) X.1 X.2.1 dX8_goesOn_153 ?_
          refine lv_aload_n (pc := 154) X.1 X.2.1 dX8_goesOn_154 rfl (lv_at hl 0 rfl) ?_
          refine M_getr (pc := 155) X G 21 (by decide) (by decide +kernel) fl_X8_56 dX8_goesOn_155 ?_
          refine lv_bipush (pc := 158) (v := 6) X.1 X.2.1 dX8_goesOn_158 (by decide) ?_
          refine lv_aload_n (pc := 160) X.1 X.2.1 dX8_goesOn_160 rfl (lv_at hl 0 rfl) ?_
          refine M_geti (pc := 161) X G 22 (by decide) (by decide +kernel) fl_X8_156 dX8_goesOn_161 ?_
          refine lv_imul (pc := 164) X.1 X.2.1 dX8_goesOn_164 ?_
          refine lv_iload (pc := 165) X.1 X.2.1 dX8_goesOn_165 (lv_at hl 2 rfl) ?_
          refine lv_iadd (pc := 167) X.1 X.2.1 dX8_goesOn_167 ?_
          obtain ⟨hix19, h⟩ := rd_some h
          refine M_iald (pc := 168) X G (i := 21) (n := 2400) (by decide +kernel) (by decide) rfl hix19 dX8_goesOn_168 ?_
          refine lv_topi (fun x19 ex19 => ?_)
          rw [← ex19] at h
          obtain ⟨hiz20, z20, ez20, h⟩ := wr_some h
          refine M_iast (pc := 169) X G (i := 16) (n := 84) ez20 (by decide +kernel) (by decide) rfl hiz20 dX8_goesOn_169 (fun H locs G => ?_)
          obtain ⟨x21, ex21, h⟩ := bd_some h
          refine lv_iinc (pc := 170) (v := x21) (lv' := [(5, .int x21), (0, .ref (ad 43)), (2, .int p1)]) X.1 X.2.1 dX8_goesOn_170 hl (k := 2) rfl (by rw [ex21]; rfl) (by decide) rfl (fun ls hl => ?_)
          refine lv_goto (pc := 173) (tgt := 134) X.1 X.2.1 dX8_goesOn_173 (by decide) ?_
          have h := Option.some.inj h
          exact ih2 _ h.symm _ _ ls G (lv_sub hl [1, 2, 0] rfl)
      · have h := it_neg h hc12
        refine lv_aload_n (pc := 86) X.1 X.2.1 dX8_goesOn_86 rfl (lv_at hl 1 rfl) ?_
        refine lv_iconst (pc := 87) (v := 1) X.1 X.2.1 dX8_goesOn_87 (by decide) ?_
        obtain ⟨z22, ez22, h⟩ := bn_some h
        refine M_callv (pc := 88) (z1 := z22) (As := [.int 1]) (rest := []) X G (rm := rm8_writes) rfl rfl (c8_writes l D κ A ad r0 z 1 z22 ez22) g_X8_178 hd_yX8_writes ⟨Nat.le_of_ble_eq_true rfl, Nat.le_of_ble_eq_true rfl⟩ rfl hl rfl (lv_room (Nat.le_of_ble_eq_true rfl)) dX8_goesOn_88 ⟨Nat.le_of_ble_eq_true rfl, Nat.le_of_ble_eq_true rfl⟩ (fun H locs G => ?_)
        refine lv_aload_n (pc := 91) X.1 X.2.1 dX8_goesOn_91 rfl (lv_at hl 1 rfl) ?_
        refine lv_iload_n (pc := 92) X.1 X.2.1 dX8_goesOn_92 rfl (lv_at hl 2 rfl) ?_
        refine lv_iload (pc := 93) X.1 X.2.1 dX8_goesOn_93 (lv_at hl 0 rfl) ?_
        refine lv_aload_n (pc := 95) X.1 X.2.1 dX8_goesOn_95 rfl (lv_at hl 1 rfl) ?_
        refine M_geti (pc := 96) X G 18 (by decide) (by decide +kernel) fl_X8_166 dX8_goesOn_96 ?_
        refine lv_iload_n (pc := 99) X.1 X.2.1 dX8_goesOn_99 rfl (lv_at hl 3 rfl) ?_
        refine lv_iconst (pc := 100) (v := 1) X.1 X.2.1 dX8_goesOn_100 (by decide) ?_
        refine lv_iload_n (pc := 101) X.1 X.2.1 dX8_goesOn_101 rfl (lv_at hl 4 rfl) ?_
        obtain ⟨z23, ez23, h⟩ := bn_some h
        refine M_callv (pc := 102) (z1 := z23) (As := [.int p0, .int x11, .int (z22 43 18), .int p1, .int 1, .int x1]) (rest := []) X G (rm := rm8_notes) rfl rfl (c8_notes l D κ A ad r0 z22 p0 x11 (z22 43 18) p1 1 x1 z23 ez23) g_X8_181 hd_yX8_notes ⟨Nat.le_of_ble_eq_true rfl, Nat.le_of_ble_eq_true rfl⟩ rfl hl rfl (lv_room (Nat.le_of_ble_eq_true rfl)) dX8_goesOn_102 ⟨Nat.le_of_ble_eq_true rfl, Nat.le_of_ble_eq_true rfl⟩ (fun H locs G => ?_)
        have h := Option.some.inj h
        have h := hz1 _ h.symm
        exact m_vret (pc := 105) X G hr hlk dX8_goesOn_105 (congrArg (celM κ ad r0) h)
    refine lv_if_ne (pc := 40) (tgt := 47) X.1 X.2.1 dX8_goesOn_40 (by decide) (fun hc6 => ?_) (fun hc6 => ?_)
    · have h := it_pos h hc6
      refine lv_aload_n (pc := 47) X.1 X.2.1 dX8_goesOn_47 rfl (lv_at hl 0 rfl) ?_
      refine lv_iload_n (pc := 48) X.1 X.2.1 dX8_goesOn_48 rfl (lv_at hl 1 rfl) ?_
      obtain ⟨x7, ex7, h⟩ := bn_some h
      refine M_calli (pc := 49) (z1 := z) (v := x7) (As := [.int p0]) (rest := []) X G (rm := rm8_isOpen) rfl rfl (c8_isOpen l D κ A ad r0 z p0 x7 ex7) g_X8_175 hd_yX8_isOpen ⟨Nat.le_of_ble_eq_true rfl, Nat.le_of_ble_eq_true rfl⟩ rfl hl rfl (lv_room (Nat.le_of_ble_eq_true rfl)) dX8_goesOn_49 ⟨Nat.le_of_ble_eq_true rfl, Nat.le_of_ble_eq_true rfl⟩ (fun H locs G => ?_)
      refine lv_if_eq (pc := 52) (tgt := 59) X.1 X.2.1 dX8_goesOn_52 (by decide) (fun hc8 => ?_) (fun hc8 => ?_)
      · have h := it_pos h hc8
        refine lv_aload_n (pc := 59) X.1 X.2.1 dX8_goesOn_59 rfl (lv_at hl 0 rfl) ?_
        refine M_geti (pc := 60) X G 18 (by decide) (by decide +kernel) fl_X8_166 dX8_goesOn_60 ?_
        refine lv_aload_n (pc := 63) X.1 X.2.1 dX8_goesOn_63 rfl (lv_at hl 0 rfl) ?_
        refine M_getr (pc := 64) X G 0 (by decide) (by decide +kernel) fl_X8_7 dX8_goesOn_64 ?_
        refine lv_sipush (pc := 67) (v := 1586) X.1 X.2.1 dX8_goesOn_67 (by decide) ?_
        obtain ⟨hix9, h⟩ := rd_some h
        refine M_iald (pc := 70) X G (i := 0) (n := 2153) (by decide +kernel) (by decide) rfl hix9 dX8_goesOn_70 ?_
        refine lv_topi (fun x9 ex9 => ?_)
        rw [← ex9] at h
        refine lv_icmp_ne (pc := 71) (tgt := 78) X.1 X.2.1 dX8_goesOn_71 (by decide) (fun hc10 => ?_) (fun hc10 => ?_)
        · have h := it_pos h hc10
          refine lv_iconst (pc := 78) (v := 0) X.1 X.2.1 dX8_goesOn_78 (by decide) ?_
          exact hk5 0 _ _ ls h G (lv_sub hl [0, 1, 2, 3] rfl)
        · have h := it_neg h (fun q => q hc10)
          refine lv_iconst (pc := 74) (v := 3) X.1 X.2.1 dX8_goesOn_74 (by decide) ?_
          refine lv_goto (pc := 75) (tgt := 79) X.1 X.2.1 dX8_goesOn_75 (by decide) ?_
          exact hk5 3 _ _ ls h G (lv_sub hl [0, 1, 2, 3] rfl)
      · have h := it_neg h hc8
        refine lv_iconst (pc := 55) (v := 2) X.1 X.2.1 dX8_goesOn_55 (by decide) ?_
        refine lv_goto (pc := 56) (tgt := 79) X.1 X.2.1 dX8_goesOn_56 (by decide) ?_
        exact hk5 2 _ _ ls h G (lv_sub hl [0, 1, 2, 3] rfl)
    · have h := it_neg h (fun q => q hc6)
      refine lv_iconst (pc := 43) (v := 1) X.1 X.2.1 dX8_goesOn_43 (by decide) ?_
      refine lv_goto (pc := 44) (tgt := 79) X.1 X.2.1 dX8_goesOn_44 (by decide) ?_
      exact hk5 1 _ _ ls h G (lv_sub hl [0, 1, 2, 3] rfl)
  · have h := it_neg h hc3
    refine lv_iload_n (pc := 11) X.1 X.2.1 dX8_goesOn_11 rfl (lv_at hl 3 rfl) ?_
    refine lv_aload_n (pc := 12) X.1 X.2.1 dX8_goesOn_12 rfl (lv_at hl 0 rfl) ?_
    refine M_getr (pc := 13) X G 21 (by decide) (by decide +kernel) fl_X8_56 dX8_goesOn_13 ?_
    refine lv_bipush (pc := 16) (v := 6) X.1 X.2.1 dX8_goesOn_16 (by decide) ?_
    refine lv_aload_n (pc := 18) X.1 X.2.1 dX8_goesOn_18 rfl (lv_at hl 0 rfl) ?_
    refine M_geti (pc := 19) X G 22 (by decide) (by decide +kernel) fl_X8_156 dX8_goesOn_19 ?_
    refine lv_imul (pc := 22) X.1 X.2.1 dX8_goesOn_22 ?_
    refine lv_iload (pc := 23) X.1 X.2.1 dX8_goesOn_23 (lv_at hl 4 rfl) ?_
    refine lv_iadd (pc := 25) X.1 X.2.1 dX8_goesOn_25 ?_
    obtain ⟨hix24, h⟩ := rd_some h
    refine M_iald (pc := 26) X G (i := 21) (n := 2400) (by decide +kernel) (by decide) rfl hix24 dX8_goesOn_26 ?_
    refine lv_topi (fun x24 ex24 => ?_)
    rw [← ex24] at h
    refine lv_iadd (pc := 27) X.1 X.2.1 dX8_goesOn_27 ?_
    refine lv_topi (fun x25 ex25 => ?_)
    have h := bd_at h ex25
    refine lv_istore_n (pc := 28) (lv' := [(3, .int x25), (0, .ref (ad 43)), (1, .int p0), (2, .int p1), (4, .int x2)]) X.1 X.2.1 dX8_goesOn_28 rfl hl (by decide) rfl (fun ls hl => ?_)
    obtain ⟨x26, ex26, h⟩ := bd_some h
    refine lv_iinc (pc := 29) (v := x26) (lv' := [(4, .int x26), (3, .int x25), (0, .ref (ad 43)), (1, .int p0), (2, .int p1)]) X.1 X.2.1 dX8_goesOn_29 hl (k := 4) rfl (by rw [ex26]; rfl) (by decide) rfl (fun ls hl => ?_)
    refine lv_goto (pc := 32) (tgt := 5) X.1 X.2.1 dX8_goesOn_32 (by decide) ?_
    have h := Option.some.inj h
    exact ih1 _ h.symm _ _ ls G (lv_sub hl [2, 3, 4, 1, 0] rfl)

abbrev rm8_filling : Room := { frames := 0, cells := 0, slots := 0, locals := 0 }
noncomputable def F8_filling (z : MS)  : Option (MS × Int32) :=
  rd (z 12) 14 (z 43 18) fun x1 =>
  rd (z 12) 14 (z 43 18) fun x2 =>
  wr z 12 14 (z 43 18) (x2 + 1) fun z3 =>
  jp (fun (_ : Unit) => jp (fun (x12 : Int32) => some (z3, x12)) fun k7 =>
  if ¬ (z3 43 18) = 0 then
  rd (z3 13) 14 (z3 43 18) fun x9 =>
  if x9 ≤ x1 then
  k7 0
  else
  rd (z3 16) 84 ((6 * (z3 43 18)) + x1) fun x11 =>
  k7 x11
  else
  k7 1) fun k4 =>
  if ¬ (z3 43 18) = 1 then
  k4 ()
  else
  if (z3 43 17) = (-1) then
  k4 ()
  else
  some (z3, z3 43 17)
set_option maxHeartbeats 4000000 in
set_option maxRecDepth 100000 in
theorem c8_filling (l : Launch) (D : va_G) (κ : Nat → ClassId) (A : Nat → Prop) (ad : Nat → Nat) (r0 : Nat → Option va_E) (z : MS)  (res : MS × Int32) (h : F8_filling z  = some res) : Met l yX8_filling (gw yX8_filling cX8_filling 2 (some (FieldType.int))) rm8_filling (va_Pc [.ref (ad 43)] (MW D κ A ad (celM κ ad r0 z))) (QI D κ A ad (celM κ ad r0 res.1) res.2) 0 0 A := by
  refine met_of (own := RX8) (by decide +kernel) rfl (Nat.le_of_ble_eq_true rfl) ?_
  intro p e s m below meth c ls X hr hlk G hl
  have hl : lv_has ls 2 [(0, .ref (ad 43))] := hl
  unfold F8_filling at h
  refine lv_aload_n (pc := 0) X.1 X.2.1 dX8_filling_0 rfl (lv_at hl 0 rfl) ?_
  refine M_getr (pc := 1) X G 12 (by decide) (by decide +kernel) fl_X8_35 dX8_filling_1 ?_
  refine lv_aload_n (pc := 4) X.1 X.2.1 dX8_filling_4 rfl (lv_at hl 0 rfl) ?_
  refine M_geti (pc := 5) X G 18 (by decide) (by decide +kernel) fl_X8_166 dX8_filling_5 ?_
  obtain ⟨hix1, h⟩ := rd_some h
  refine M_iald (pc := 8) X G (i := 12) (n := 14) (by decide +kernel) (by decide) rfl hix1 dX8_filling_8 ?_
  refine lv_topi (fun x1 ex1 => ?_)
  rw [← ex1] at h
  refine lv_istore_n (pc := 9) (lv' := [(1, .int x1), (0, .ref (ad 43))]) X.1 X.2.1 dX8_filling_9 rfl hl (by decide) rfl (fun ls hl => ?_)
  refine lv_aload_n (pc := 10) X.1 X.2.1 dX8_filling_10 rfl (lv_at hl 1 rfl) ?_
  refine M_getr (pc := 11) X G 12 (by decide) (by decide +kernel) fl_X8_35 dX8_filling_11 ?_
  refine lv_aload_n (pc := 14) X.1 X.2.1 dX8_filling_14 rfl (lv_at hl 1 rfl) ?_
  refine M_geti (pc := 15) X G 18 (by decide) (by decide +kernel) fl_X8_166 dX8_filling_15 ?_
  refine lv_dup2_11 (pc := 18) X.1 X.2.1 dX8_filling_18 rfl rfl ?_
  obtain ⟨hix2, h⟩ := rd_some h
  refine M_iald (pc := 19) X G (i := 12) (n := 14) (by decide +kernel) (by decide) rfl hix2 dX8_filling_19 ?_
  refine lv_topi (fun x2 ex2 => ?_)
  rw [← ex2] at h
  refine lv_iconst (pc := 20) (v := 1) X.1 X.2.1 dX8_filling_20 (by decide) ?_
  refine lv_iadd (pc := 21) X.1 X.2.1 dX8_filling_21 ?_
  obtain ⟨hiz3, z3, ez3, h⟩ := wr_some h
  refine M_iast (pc := 22) X G (i := 12) (n := 14) ez3 (by decide +kernel) (by decide) rfl hiz3 dX8_filling_22 (fun H locs G => ?_)
  refine lv_aload_n (pc := 23) X.1 X.2.1 dX8_filling_23 rfl (lv_at hl 1 rfl) ?_
  refine M_geti (pc := 24) X G 18 (by decide) (by decide +kernel) fl_X8_166 dX8_filling_24 ?_
  refine lv_iconst (pc := 27) (v := 1) X.1 X.2.1 dX8_filling_27 (by decide) ?_
  obtain ⟨k4, ek4, h⟩ := jp_some h
  have hk4 : ∀  (H : Heap) (locs : List Loc) (ls : Array Slot), k4 () = some res → Mm D κ A ad (celM κ ad r0 z3) s H locs → lv_has ls 2 [(0, .ref (ad 43)), (1, .int x1)] → W p l e rm8_filling s m [.ref (ad 43)].toArray below meth c H locs 0 0 (MQ below (QI D κ A ad (celM κ ad r0 res.1) res.2) [.ref (ad 43)].toArray s 0 0 A) (F0 m 44 ls []) := by
    intro  H locs ls h G hl
    rw [ek4] at h
    try dsimp only at h
    refine lv_aload_n (pc := 44) X.1 X.2.1 dX8_filling_44 rfl (lv_at hl 0 rfl) ?_
    refine M_geti (pc := 45) X G 18 (by decide) (by decide +kernel) fl_X8_166 dX8_filling_45 ?_
    obtain ⟨k7, ek7, h⟩ := jp_some h
    have hk7 : ∀ (x12 : Int32) (H : Heap) (locs : List Loc) (ls : Array Slot), k7 x12 = some res → Mm D κ A ad (celM κ ad r0 z3) s H locs → lv_has ls 2 [] → W p l e rm8_filling s m [.ref (ad 43)].toArray below meth c H locs 0 0 (MQ below (QI D κ A ad (celM κ ad r0 res.1) res.2) [.ref (ad 43)].toArray s 0 0 A) (F0 m 86 ls [.int x12]) := by
      intro x12 H locs ls h G hl
      rw [ek7] at h
      try dsimp only at h
      have h := Option.some.inj h
      exact m_iret (pc := 86) X G hr hlk dX8_filling_86 (congrArg Prod.snd h) (congrArg (fun q : MS × Int32 => celM κ ad r0 q.1) h)
    refine lv_if_ne (pc := 48) (tgt := 55) X.1 X.2.1 dX8_filling_48 (by decide) (fun hc8 => ?_) (fun hc8 => ?_)
    · have h := it_pos h hc8
      refine lv_iload_n (pc := 55) X.1 X.2.1 dX8_filling_55 rfl (lv_at hl 1 rfl) ?_
      refine lv_aload_n (pc := 56) X.1 X.2.1 dX8_filling_56 rfl (lv_at hl 0 rfl) ?_
      refine M_getr (pc := 57) X G 13 (by decide) (by decide +kernel) fl_X8_38 dX8_filling_57 ?_
      refine lv_aload_n (pc := 60) X.1 X.2.1 dX8_filling_60 rfl (lv_at hl 0 rfl) ?_
      refine M_geti (pc := 61) X G 18 (by decide) (by decide +kernel) fl_X8_166 dX8_filling_61 ?_
      obtain ⟨hix9, h⟩ := rd_some h
      refine M_iald (pc := 64) X G (i := 13) (n := 14) (by decide +kernel) (by decide) rfl hix9 dX8_filling_64 ?_
      refine lv_topi (fun x9 ex9 => ?_)
      rw [← ex9] at h
      refine lv_icmp_ge (pc := 65) (tgt := 85) X.1 X.2.1 dX8_filling_65 (by decide) (fun hc10 => ?_) (fun hc10 => ?_)
      · have h := it_pos h hc10
        refine lv_iconst (pc := 85) (v := 0) X.1 X.2.1 dX8_filling_85 (by decide) ?_
        exact hk7 0 _ _ ls h G (lv_sub hl [] rfl)
      · have h := it_neg h hc10
        refine lv_aload_n (pc := 68) X.1 X.2.1 dX8_filling_68 rfl (lv_at hl 0 rfl) ?_
        refine M_getr (pc := 69) X G 16 (by decide) (by decide +kernel) fl_X8_47 dX8_filling_69 ?_
        refine lv_bipush (pc := 72) (v := 6) X.1 X.2.1 dX8_filling_72 (by decide) ?_
        refine lv_aload_n (pc := 74) X.1 X.2.1 dX8_filling_74 rfl (lv_at hl 0 rfl) ?_
        refine M_geti (pc := 75) X G 18 (by decide) (by decide +kernel) fl_X8_166 dX8_filling_75 ?_
        refine lv_imul (pc := 78) X.1 X.2.1 dX8_filling_78 ?_
        refine lv_iload_n (pc := 79) X.1 X.2.1 dX8_filling_79 rfl (lv_at hl 1 rfl) ?_
        refine lv_iadd (pc := 80) X.1 X.2.1 dX8_filling_80 ?_
        obtain ⟨hix11, h⟩ := rd_some h
        refine M_iald (pc := 81) X G (i := 16) (n := 84) (by decide +kernel) (by decide) rfl hix11 dX8_filling_81 ?_
        refine lv_topi (fun x11 ex11 => ?_)
        rw [← ex11] at h
        refine lv_goto (pc := 82) (tgt := 86) X.1 X.2.1 dX8_filling_82 (by decide) ?_
        exact hk7 x11 _ _ ls h G (lv_sub hl [] rfl)
    · have h := it_neg h (fun q => q hc8)
      refine lv_iconst (pc := 51) (v := 1) X.1 X.2.1 dX8_filling_51 (by decide) ?_
      refine lv_goto (pc := 52) (tgt := 86) X.1 X.2.1 dX8_filling_52 (by decide) ?_
      exact hk7 1 _ _ ls h G (lv_sub hl [] rfl)
  refine lv_icmp_ne (pc := 28) (tgt := 44) X.1 X.2.1 dX8_filling_28 (by decide) (fun hc5 => ?_) (fun hc5 => ?_)
  · have h := it_pos h hc5
    exact hk4  _ _ ls h G (lv_sub hl [1, 0] rfl)
  · have h := it_neg h (fun q => q hc5)
    refine lv_aload_n (pc := 31) X.1 X.2.1 dX8_filling_31 rfl (lv_at hl 1 rfl) ?_
    refine M_geti (pc := 32) X G 17 (by decide) (by decide +kernel) fl_X8_188 dX8_filling_32 ?_
    refine lv_iconst (pc := 35) (v := (-1)) X.1 X.2.1 dX8_filling_35 (by decide) ?_
    refine lv_icmp_eq (pc := 36) (tgt := 44) X.1 X.2.1 dX8_filling_36 (by decide) (fun hc6 => ?_) (fun hc6 => ?_)
    · have h := it_pos h hc6
      exact hk4  _ _ ls h G (lv_sub hl [1, 0] rfl)
    · have h := it_neg h hc6
      refine lv_aload_n (pc := 39) X.1 X.2.1 dX8_filling_39 rfl (lv_at hl 1 rfl) ?_
      refine M_geti (pc := 40) X G 17 (by decide) (by decide +kernel) fl_X8_188 dX8_filling_40 ?_
      have h := Option.some.inj h
      exact m_iret (pc := 43) X G hr hlk dX8_filling_43 (congrArg Prod.snd h) (congrArg (fun q : MS × Int32 => celM κ ad r0 q.1) h)

abbrev rm8_reads : Room := { frames := 2, cells := 0, slots := 0, locals := 51 }
noncomputable def F8_reads (z : MS)  : Option (MS) :=
  rd (z 10) 14 (z 43 18) fun x1 =>
  rd (z 11) 14 (z 43 18) fun x2 =>
  bn (F8_signOf z x1 x2) fun x3 =>
  rd (z 11) 14 (z 43 18) fun x4 =>
  wr z 11 14 (z 43 18) (x4 + 1) fun z5 =>
  bn (F8_isCall x3) fun x6 =>
  jp (fun (z51 : MS) => some z51) fun k7 =>
  if x6 = 0 then
  jp (fun (_ : Unit) => rd (z5 20) 400 ((z5 43 22) - 1) fun x19 =>
  rd (z5 23) 401 (z5 43 22) fun x20 =>
  wr z5 21 2400 ((6 * ((z5 43 22) - 1)) + x19) x20 fun z21 =>
  rd (z21 20) 400 ((z21 43 22) - 1) fun x22 =>
  wr z21 20 400 ((z21 43 22) - 1) (x22 + 1) fun z23 =>
  wr z23 23 401 (z23 43 22) 0 fun z24 =>
  if ¬ x3 = 41 then
  k7 z24
  else
  bd (up2 z24 43 22 ((z24 43 22) - 1)) fun z26 =>
  rd (z26 19) 400 (z26 43 22) fun x27 =>
  rd (z26 20) 400 (z26 43 22) fun x28 =>
  bn (F8_goesOn z26 x27 x28) fun z29 =>
  k7 z29) fun k9 =>
  if x3 = 44 then
  k9 ()
  else
  if ¬ x3 = 41 then
  jp (fun (x16 : Int32) (z17 : MS) => bn (F8_writes z17 x16) fun z18 =>
  k7 z18) fun k12 =>
  if ¬ x3 = 63 then
  k12 1 z5
  else
  bn2 (F8_filling z5) fun z15 x14 =>
  k12 x14 z15
  else
  k9 ()
  else
  rd (z5 11) 14 (z5 43 18) fun x30 =>
  rd (z5 10) 14 (z5 43 18) fun x31 =>
  bn (F8_longOf z5 x31) fun x32 =>
  jp (fun (x40 : Int32) => jp (fun (z50 : MS) => k7 z50) fun k41 =>
  if x40 = 0 then
  bn (F8_goesOn z5 (x3 - 65) 0) fun z43 =>
  k41 z43
  else
  rd (z5 11) 14 (z5 43 18) fun x44 =>
  wr z5 11 14 (z5 43 18) (x44 + 1) fun z45 =>
  wr z45 19 400 (z45 43 22) (x3 - 65) fun z46 =>
  wr z46 20 400 (z46 43 22) 0 fun z47 =>
  bd (up2 z47 43 22 ((z47 43 22) + 1)) fun z48 =>
  wr z48 23 401 (z48 43 22) 0 fun z49 =>
  k41 z49) fun k33 =>
  jp (fun (_ : Unit) => k33 0) fun k34 =>
  if x32 ≤ x30 then
  k34 ()
  else
  rd (z5 10) 14 (z5 43 18) fun x36 =>
  rd (z5 11) 14 (z5 43 18) fun x37 =>
  bn (F8_signOf z5 x36 x37) fun x38 =>
  if ¬ x38 = 40 then
  k34 ()
  else
  k33 1
set_option maxHeartbeats 4000000 in
set_option maxRecDepth 100000 in
theorem c8_reads (l : Launch) (D : va_G) (κ : Nat → ClassId) (A : Nat → Prop) (ad : Nat → Nat) (r0 : Nat → Option va_E) (z : MS)  (res : MS) (h : F8_reads z  = some res) : Met l yX8_reads (gw yX8_reads cX8_reads 3 none) rm8_reads (va_Pc [.ref (ad 43)] (MW D κ A ad (celM κ ad r0 z))) (QV D κ A ad (celM κ ad r0 res)) 0 0 A := by
  refine met_of (own := RX8) (by decide +kernel) rfl (Nat.le_of_ble_eq_true rfl) ?_
  intro p e s m below meth c ls X hr hlk G hl
  have hl : lv_has ls 3 [(0, .ref (ad 43))] := hl
  unfold F8_reads at h
  refine lv_aload_n (pc := 0) X.1 X.2.1 dX8_reads_0 rfl (lv_at hl 0 rfl) ?_
  refine lv_aload_n (pc := 1) X.1 X.2.1 dX8_reads_1 rfl (lv_at hl 0 rfl) ?_
  refine M_getr (pc := 2) X G 10 (by decide) (by decide +kernel) fl_X8_29 dX8_reads_2 ?_
  refine lv_aload_n (pc := 5) X.1 X.2.1 dX8_reads_5 rfl (lv_at hl 0 rfl) ?_
  refine M_geti (pc := 6) X G 18 (by decide) (by decide +kernel) fl_X8_166 dX8_reads_6 ?_
  obtain ⟨hix1, h⟩ := rd_some h
  refine M_iald (pc := 9) X G (i := 10) (n := 14) (by decide +kernel) (by decide) rfl hix1 dX8_reads_9 ?_
  refine lv_topi (fun x1 ex1 => ?_)
  rw [← ex1] at h
  refine lv_aload_n (pc := 10) X.1 X.2.1 dX8_reads_10 rfl (lv_at hl 0 rfl) ?_
  refine M_getr (pc := 11) X G 11 (by decide) (by decide +kernel) fl_X8_32 dX8_reads_11 ?_
  refine lv_aload_n (pc := 14) X.1 X.2.1 dX8_reads_14 rfl (lv_at hl 0 rfl) ?_
  refine M_geti (pc := 15) X G 18 (by decide) (by decide +kernel) fl_X8_166 dX8_reads_15 ?_
  obtain ⟨hix2, h⟩ := rd_some h
  refine M_iald (pc := 18) X G (i := 11) (n := 14) (by decide +kernel) (by decide) rfl hix2 dX8_reads_18 ?_
  refine lv_topi (fun x2 ex2 => ?_)
  rw [← ex2] at h
  obtain ⟨x3, ex3, h⟩ := bn_some h
  refine M_calli (pc := 19) (z1 := z) (v := x3) (As := [.int x1, .int x2]) (rest := []) X G (rm := rm8_signOf) rfl rfl (c8_signOf l D κ A ad r0 z x1 x2 x3 ex3) g_X8_135 hd_yX8_signOf ⟨Nat.le_of_ble_eq_true rfl, Nat.le_of_ble_eq_true rfl⟩ rfl hl rfl (lv_room (Nat.le_of_ble_eq_true rfl)) dX8_reads_19 ⟨Nat.le_of_ble_eq_true rfl, Nat.le_of_ble_eq_true rfl⟩ (fun H locs G => ?_)
  refine lv_istore_n (pc := 22) (lv' := [(1, .int x3), (0, .ref (ad 43))]) X.1 X.2.1 dX8_reads_22 rfl hl (by decide) rfl (fun ls hl => ?_)
  refine lv_aload_n (pc := 23) X.1 X.2.1 dX8_reads_23 rfl (lv_at hl 1 rfl) ?_
  refine M_getr (pc := 24) X G 11 (by decide) (by decide +kernel) fl_X8_32 dX8_reads_24 ?_
  refine lv_aload_n (pc := 27) X.1 X.2.1 dX8_reads_27 rfl (lv_at hl 1 rfl) ?_
  refine M_geti (pc := 28) X G 18 (by decide) (by decide +kernel) fl_X8_166 dX8_reads_28 ?_
  refine lv_dup2_11 (pc := 31) X.1 X.2.1 dX8_reads_31 rfl rfl ?_
  obtain ⟨hix4, h⟩ := rd_some h
  refine M_iald (pc := 32) X G (i := 11) (n := 14) (by decide +kernel) (by decide) rfl hix4 dX8_reads_32 ?_
  refine lv_topi (fun x4 ex4 => ?_)
  rw [← ex4] at h
  refine lv_iconst (pc := 33) (v := 1) X.1 X.2.1 dX8_reads_33 (by decide) ?_
  refine lv_iadd (pc := 34) X.1 X.2.1 dX8_reads_34 ?_
  obtain ⟨hiz5, z5, ez5, h⟩ := wr_some h
  refine M_iast (pc := 35) X G (i := 11) (n := 14) ez5 (by decide +kernel) (by decide) rfl hiz5 dX8_reads_35 (fun H locs G => ?_)
  refine lv_iload_n (pc := 36) X.1 X.2.1 dX8_reads_36 rfl (lv_at hl 0 rfl) ?_
  obtain ⟨x6, ex6, h⟩ := bn_some h
  refine m_callsi0 (pc := 37) (v := x6) (As := [.int x3]) (rest := []) X G (rm := rm8_isCall) rfl rfl (c8_isCall l D κ A ad (celM κ ad r0 z5) x3 x6 ex6) g_X8_125 hs_yX8_isCall ⟨Nat.le_of_ble_eq_true rfl, Nat.le_of_ble_eq_true rfl⟩ rfl hl rfl (lv_room (Nat.le_of_ble_eq_true rfl)) dX8_reads_37 ⟨Nat.le_of_ble_eq_true rfl, Nat.le_of_ble_eq_true rfl⟩ (fun H locs G => ?_)
  obtain ⟨k7, ek7, h⟩ := jp_some h
  have hk7 : ∀ (z51 : MS) (H : Heap) (locs : List Loc) (ls : Array Slot), k7 z51 = some res → Mm D κ A ad (celM κ ad r0 z51) s H locs → lv_has ls 3 [] → W p l e rm8_reads s m [.ref (ad 43)].toArray below meth c H locs 0 0 (MQ below (QV D κ A ad (celM κ ad r0 res)) [.ref (ad 43)].toArray s 0 0 A) (F0 m 307 ls []) := by
    intro z51 H locs ls h G hl
    rw [ek7] at h
    try dsimp only at h
    have h := Option.some.inj h
    exact m_vret (pc := 307) X G hr hlk dX8_reads_307 (congrArg (celM κ ad r0) h)
  refine lv_if_eq (pc := 40) (tgt := 176) X.1 X.2.1 dX8_reads_40 (by decide) (fun hc8 => ?_) (fun hc8 => ?_)
  · have h := it_pos h hc8
    refine lv_iload_n (pc := 176) X.1 X.2.1 dX8_reads_176 rfl (lv_at hl 0 rfl) ?_
    refine lv_bipush (pc := 177) (v := 44) X.1 X.2.1 dX8_reads_177 (by decide) ?_
    obtain ⟨k9, ek9, h⟩ := jp_some h
    have hk9 : ∀  (H : Heap) (locs : List Loc) (ls : Array Slot), k9 () = some res → Mm D κ A ad (celM κ ad r0 z5) s H locs → lv_has ls 3 [(0, .ref (ad 43)), (1, .int x3)] → W p l e rm8_reads s m [.ref (ad 43)].toArray below meth c H locs 0 0 (MQ below (QV D κ A ad (celM κ ad r0 res)) [.ref (ad 43)].toArray s 0 0 A) (F0 m 188 ls []) := by
      intro  H locs ls h G hl
      rw [ek9] at h
      try dsimp only at h
      refine lv_aload_n (pc := 188) X.1 X.2.1 dX8_reads_188 rfl (lv_at hl 0 rfl) ?_
      refine M_getr (pc := 189) X G 21 (by decide) (by decide +kernel) fl_X8_56 dX8_reads_189 ?_
      refine lv_bipush (pc := 192) (v := 6) X.1 X.2.1 dX8_reads_192 (by decide) ?_
      refine lv_aload_n (pc := 194) X.1 X.2.1 dX8_reads_194 rfl (lv_at hl 0 rfl) ?_
      refine M_geti (pc := 195) X G 22 (by decide) (by decide +kernel) fl_X8_156 dX8_reads_195 ?_
      refine lv_iconst (pc := 198) (v := 1) X.1 X.2.1 dX8_reads_198 (by decide) ?_
      refine lv_isub (pc := 199) X.1 X.2.1 dX8_reads_199 ?_
      refine lv_imul (pc := 200) X.1 X.2.1 dX8_reads_200 ?_
      refine lv_aload_n (pc := 201) X.1 X.2.1 dX8_reads_201 rfl (lv_at hl 0 rfl) ?_
      refine M_getr (pc := 202) X G 20 (by decide) (by decide +kernel) fl_X8_53 dX8_reads_202 ?_
      refine lv_aload_n (pc := 205) X.1 X.2.1 dX8_reads_205 rfl (lv_at hl 0 rfl) ?_
      refine M_geti (pc := 206) X G 22 (by decide) (by decide +kernel) fl_X8_156 dX8_reads_206 ?_
      refine lv_iconst (pc := 209) (v := 1) X.1 X.2.1 dX8_reads_209 (by decide) ?_
      refine lv_isub (pc := 210) X.1 X.2.1 dX8_reads_210 ?_
      obtain ⟨hix19, h⟩ := rd_some h
      refine M_iald (pc := 211) X G (i := 20) (n := 400) (by decide +kernel) (by decide) rfl hix19 dX8_reads_211 ?_
      refine lv_topi (fun x19 ex19 => ?_)
      rw [← ex19] at h
      refine lv_iadd (pc := 212) X.1 X.2.1 dX8_reads_212 ?_
      refine lv_aload_n (pc := 213) X.1 X.2.1 dX8_reads_213 rfl (lv_at hl 0 rfl) ?_
      refine M_getr (pc := 214) X G 23 (by decide) (by decide +kernel) fl_X8_59 dX8_reads_214 ?_
      refine lv_aload_n (pc := 217) X.1 X.2.1 dX8_reads_217 rfl (lv_at hl 0 rfl) ?_
      refine M_geti (pc := 218) X G 22 (by decide) (by decide +kernel) fl_X8_156 dX8_reads_218 ?_
      obtain ⟨hix20, h⟩ := rd_some h
      refine M_iald (pc := 221) X G (i := 23) (n := 401) (by decide +kernel) (by decide) rfl hix20 dX8_reads_221 ?_
      refine lv_topi (fun x20 ex20 => ?_)
      rw [← ex20] at h
      obtain ⟨hiz21, z21, ez21, h⟩ := wr_some h
      refine M_iast (pc := 222) X G (i := 21) (n := 2400) ez21 (by decide +kernel) (by decide) rfl hiz21 dX8_reads_222 (fun H locs G => ?_)
      refine lv_aload_n (pc := 223) X.1 X.2.1 dX8_reads_223 rfl (lv_at hl 0 rfl) ?_
      refine M_getr (pc := 224) X G 20 (by decide) (by decide +kernel) fl_X8_53 dX8_reads_224 ?_
      refine lv_aload_n (pc := 227) X.1 X.2.1 dX8_reads_227 rfl (lv_at hl 0 rfl) ?_
      refine M_geti (pc := 228) X G 22 (by decide) (by decide +kernel) fl_X8_156 dX8_reads_228 ?_
      refine lv_iconst (pc := 231) (v := 1) X.1 X.2.1 dX8_reads_231 (by decide) ?_
      refine lv_isub (pc := 232) X.1 X.2.1 dX8_reads_232 ?_
      refine lv_dup2_11 (pc := 233) X.1 X.2.1 dX8_reads_233 rfl rfl ?_
      obtain ⟨hix22, h⟩ := rd_some h
      refine M_iald (pc := 234) X G (i := 20) (n := 400) (by decide +kernel) (by decide) rfl hix22 dX8_reads_234 ?_
      refine lv_topi (fun x22 ex22 => ?_)
      rw [← ex22] at h
      refine lv_iconst (pc := 235) (v := 1) X.1 X.2.1 dX8_reads_235 (by decide) ?_
      refine lv_iadd (pc := 236) X.1 X.2.1 dX8_reads_236 ?_
      obtain ⟨hiz23, z23, ez23, h⟩ := wr_some h
      refine M_iast (pc := 237) X G (i := 20) (n := 400) ez23 (by decide +kernel) (by decide) rfl hiz23 dX8_reads_237 (fun H locs G => ?_)
      refine lv_aload_n (pc := 238) X.1 X.2.1 dX8_reads_238 rfl (lv_at hl 0 rfl) ?_
      refine M_getr (pc := 239) X G 23 (by decide) (by decide +kernel) fl_X8_59 dX8_reads_239 ?_
      refine lv_aload_n (pc := 242) X.1 X.2.1 dX8_reads_242 rfl (lv_at hl 0 rfl) ?_
      refine M_geti (pc := 243) X G 22 (by decide) (by decide +kernel) fl_X8_156 dX8_reads_243 ?_
      refine lv_iconst (pc := 246) (v := 0) X.1 X.2.1 dX8_reads_246 (by decide) ?_
      obtain ⟨hiz24, z24, ez24, h⟩ := wr_some h
      refine M_iast (pc := 247) X G (i := 23) (n := 401) ez24 (by decide +kernel) (by decide) rfl hiz24 dX8_reads_247 (fun H locs G => ?_)
      refine lv_iload_n (pc := 248) X.1 X.2.1 dX8_reads_248 rfl (lv_at hl 1 rfl) ?_
      refine lv_bipush (pc := 249) (v := 41) X.1 X.2.1 dX8_reads_249 (by decide) ?_
      refine lv_icmp_ne (pc := 251) (tgt := 307) X.1 X.2.1 dX8_reads_251 (by decide) (fun hc25 => ?_) (fun hc25 => ?_)
      · have h := it_pos h hc25
        exact hk7 z24 _ _ ls h G (lv_sub hl [] rfl)
      · have h := it_neg h (fun q => q hc25)
        refine lv_aload_n (pc := 254) X.1 X.2.1 dX8_reads_254 rfl (lv_at hl 0 rfl) ?_
        refine lv_dup (pc := 255) X.1 X.2.1 dX8_reads_255 rfl ?_
        refine M_geti (pc := 256) X G 22 (by decide) (by decide +kernel) fl_X8_156 dX8_reads_256 ?_
        refine lv_iconst (pc := 259) (v := 1) X.1 X.2.1 dX8_reads_259 (by decide) ?_
        refine lv_isub (pc := 260) X.1 X.2.1 dX8_reads_260 ?_
        obtain ⟨z26, ez26, h⟩ := bd_some h
        refine M_puti (pc := 261) X G 22 ez26 (by decide) (by decide +kernel) fl_X8_156 dX8_reads_261 (fun H locs G => ?_)
        refine lv_aload_n (pc := 264) X.1 X.2.1 dX8_reads_264 rfl (lv_at hl 0 rfl) ?_
        refine lv_aload_n (pc := 265) X.1 X.2.1 dX8_reads_265 rfl (lv_at hl 0 rfl) ?_
        refine M_getr (pc := 266) X G 19 (by decide) (by decide +kernel) fl_X8_50 dX8_reads_266 ?_
        refine lv_aload_n (pc := 269) X.1 X.2.1 dX8_reads_269 rfl (lv_at hl 0 rfl) ?_
        refine M_geti (pc := 270) X G 22 (by decide) (by decide +kernel) fl_X8_156 dX8_reads_270 ?_
        obtain ⟨hix27, h⟩ := rd_some h
        refine M_iald (pc := 273) X G (i := 19) (n := 400) (by decide +kernel) (by decide) rfl hix27 dX8_reads_273 ?_
        refine lv_topi (fun x27 ex27 => ?_)
        rw [← ex27] at h
        refine lv_aload_n (pc := 274) X.1 X.2.1 dX8_reads_274 rfl (lv_at hl 0 rfl) ?_
        refine M_getr (pc := 275) X G 20 (by decide) (by decide +kernel) fl_X8_53 dX8_reads_275 ?_
        refine lv_aload_n (pc := 278) X.1 X.2.1 dX8_reads_278 rfl (lv_at hl 0 rfl) ?_
        refine M_geti (pc := 279) X G 22 (by decide) (by decide +kernel) fl_X8_156 dX8_reads_279 ?_
        obtain ⟨hix28, h⟩ := rd_some h
        refine M_iald (pc := 282) X G (i := 20) (n := 400) (by decide +kernel) (by decide) rfl hix28 dX8_reads_282 ?_
        refine lv_topi (fun x28 ex28 => ?_)
        rw [← ex28] at h
        obtain ⟨z29, ez29, h⟩ := bn_some h
        refine M_callv (pc := 283) (z1 := z29) (As := [.int x27, .int x28]) (rest := []) X G (rm := rm8_goesOn) rfl rfl (c8_goesOn l D κ A ad r0 z26 x27 x28 z29 ez29) g_X8_195 hd_yX8_goesOn ⟨Nat.le_of_ble_eq_true rfl, Nat.le_of_ble_eq_true rfl⟩ rfl hl rfl (lv_room (Nat.le_of_ble_eq_true rfl)) dX8_reads_283 ⟨Nat.le_of_ble_eq_true rfl, Nat.le_of_ble_eq_true rfl⟩ (fun H locs G => ?_)
        refine lv_goto (pc := 286) (tgt := 307) X.1 X.2.1 dX8_reads_286 (by decide) ?_
        exact hk7 z29 _ _ ls h G (lv_sub hl [] rfl)
    refine lv_icmp_eq (pc := 179) (tgt := 188) X.1 X.2.1 dX8_reads_179 (by decide) (fun hc10 => ?_) (fun hc10 => ?_)
    · have h := it_pos h hc10
      exact hk9  _ _ ls h G (lv_sub hl [1, 0] rfl)
    · have h := it_neg h hc10
      refine lv_iload_n (pc := 182) X.1 X.2.1 dX8_reads_182 rfl (lv_at hl 0 rfl) ?_
      refine lv_bipush (pc := 183) (v := 41) X.1 X.2.1 dX8_reads_183 (by decide) ?_
      refine lv_icmp_ne (pc := 185) (tgt := 289) X.1 X.2.1 dX8_reads_185 (by decide) (fun hc11 => ?_) (fun hc11 => ?_)
      · have h := it_pos h hc11
        refine lv_aload_n (pc := 289) X.1 X.2.1 dX8_reads_289 rfl (lv_at hl 1 rfl) ?_
        refine lv_iload_n (pc := 290) X.1 X.2.1 dX8_reads_290 rfl (lv_at hl 0 rfl) ?_
        refine lv_bipush (pc := 291) (v := 63) X.1 X.2.1 dX8_reads_291 (by decide) ?_
        obtain ⟨k12, ek12, h⟩ := jp_some h
        have hk12 : ∀ (x16 : Int32) (z17 : MS) (H : Heap) (locs : List Loc) (ls : Array Slot), k12 x16 z17 = some res → Mm D κ A ad (celM κ ad r0 z17) s H locs → lv_has ls 3 [] → W p l e rm8_reads s m [.ref (ad 43)].toArray below meth c H locs 0 0 (MQ below (QV D κ A ad (celM κ ad r0 res)) [.ref (ad 43)].toArray s 0 0 A) (F0 m 304 ls [.int x16, .ref (ad 43)]) := by
          intro x16 z17 H locs ls h G hl
          rw [ek12] at h
          try dsimp only at h
          obtain ⟨z18, ez18, h⟩ := bn_some h
          refine M_callv (pc := 304) (z1 := z18) (As := [.int x16]) (rest := []) X G (rm := rm8_writes) rfl rfl (c8_writes l D κ A ad r0 z17 x16 z18 ez18) g_X8_178 hd_yX8_writes ⟨Nat.le_of_ble_eq_true rfl, Nat.le_of_ble_eq_true rfl⟩ rfl hl rfl (lv_room (Nat.le_of_ble_eq_true rfl)) dX8_reads_304 ⟨Nat.le_of_ble_eq_true rfl, Nat.le_of_ble_eq_true rfl⟩ (fun H locs G => ?_)
          exact hk7 z18 _ _ ls h G (lv_sub hl [] rfl)
        refine lv_icmp_ne (pc := 293) (tgt := 303) X.1 X.2.1 dX8_reads_293 (by decide) (fun hc13 => ?_) (fun hc13 => ?_)
        · have h := it_pos h hc13
          refine lv_iconst (pc := 303) (v := 1) X.1 X.2.1 dX8_reads_303 (by decide) ?_
          exact hk12 1 z5 _ _ ls h G (lv_sub hl [] rfl)
        · have h := it_neg h (fun q => q hc13)
          refine lv_aload_n (pc := 296) X.1 X.2.1 dX8_reads_296 rfl (lv_at hl 1 rfl) ?_
          obtain ⟨z15, x14, ex14, h⟩ := bn2_some h
          refine M_calli (pc := 297) (z1 := z15) (v := x14) (As := []) (rest := [.ref (ad 43)]) X G (rm := rm8_filling) rfl rfl (c8_filling l D κ A ad r0 z5  (z15, x14) ex14) g_X8_199 hd_yX8_filling ⟨Nat.le_of_ble_eq_true rfl, Nat.le_of_ble_eq_true rfl⟩ rfl hl rfl (lv_room (Nat.le_of_ble_eq_true rfl)) dX8_reads_297 ⟨Nat.le_of_ble_eq_true rfl, Nat.le_of_ble_eq_true rfl⟩ (fun H locs G => ?_)
          refine lv_goto (pc := 300) (tgt := 304) X.1 X.2.1 dX8_reads_300 (by decide) ?_
          exact hk12 x14 z15 _ _ ls h G (lv_sub hl [] rfl)
      · have h := it_neg h (fun q => q hc11)
        exact hk9  _ _ ls h G (lv_sub hl [1, 0] rfl)
  · have h := it_neg h hc8
    refine lv_aload_n (pc := 43) X.1 X.2.1 dX8_reads_43 rfl (lv_at hl 1 rfl) ?_
    refine M_getr (pc := 44) X G 11 (by decide) (by decide +kernel) fl_X8_32 dX8_reads_44 ?_
    refine lv_aload_n (pc := 47) X.1 X.2.1 dX8_reads_47 rfl (lv_at hl 1 rfl) ?_
    refine M_geti (pc := 48) X G 18 (by decide) (by decide +kernel) fl_X8_166 dX8_reads_48 ?_
    obtain ⟨hix30, h⟩ := rd_some h
    refine M_iald (pc := 51) X G (i := 11) (n := 14) (by decide +kernel) (by decide) rfl hix30 dX8_reads_51 ?_
    refine lv_topi (fun x30 ex30 => ?_)
    rw [← ex30] at h
    refine lv_aload_n (pc := 52) X.1 X.2.1 dX8_reads_52 rfl (lv_at hl 1 rfl) ?_
    refine lv_aload_n (pc := 53) X.1 X.2.1 dX8_reads_53 rfl (lv_at hl 1 rfl) ?_
    refine M_getr (pc := 54) X G 10 (by decide) (by decide +kernel) fl_X8_29 dX8_reads_54 ?_
    refine lv_aload_n (pc := 57) X.1 X.2.1 dX8_reads_57 rfl (lv_at hl 1 rfl) ?_
    refine M_geti (pc := 58) X G 18 (by decide) (by decide +kernel) fl_X8_166 dX8_reads_58 ?_
    obtain ⟨hix31, h⟩ := rd_some h
    refine M_iald (pc := 61) X G (i := 10) (n := 14) (by decide +kernel) (by decide) rfl hix31 dX8_reads_61 ?_
    refine lv_topi (fun x31 ex31 => ?_)
    rw [← ex31] at h
    obtain ⟨x32, ex32, h⟩ := bn_some h
    refine M_calli (pc := 62) (z1 := z5) (v := x32) (As := [.int x31]) (rest := [.int x30]) X G (rm := rm8_longOf) rfl rfl (c8_longOf l D κ A ad r0 z5 x31 x32 ex32) g_X8_191 hd_yX8_longOf ⟨Nat.le_of_ble_eq_true rfl, Nat.le_of_ble_eq_true rfl⟩ rfl hl rfl (lv_room (Nat.le_of_ble_eq_true rfl)) dX8_reads_62 ⟨Nat.le_of_ble_eq_true rfl, Nat.le_of_ble_eq_true rfl⟩ (fun H locs G => ?_)
    obtain ⟨k33, ek33, h⟩ := jp_some h
    have hk33 : ∀ (x40 : Int32) (H : Heap) (locs : List Loc) (ls : Array Slot), k33 x40 = some res → Mm D κ A ad (celM κ ad r0 z5) s H locs → lv_has ls 3 [(0, .ref (ad 43)), (1, .int x3)] → W p l e rm8_reads s m [.ref (ad 43)].toArray below meth c H locs 0 0 (MQ below (QV D κ A ad (celM κ ad r0 res)) [.ref (ad 43)].toArray s 0 0 A) (F0 m 100 ls [.int x40]) := by
      intro x40 H locs ls h G hl
      rw [ek33] at h
      try dsimp only at h
      refine lv_istore_n (pc := 100) (lv' := [(2, .int x40), (0, .ref (ad 43)), (1, .int x3)]) X.1 X.2.1 dX8_reads_100 rfl hl (by decide) rfl (fun ls hl => ?_)
      refine lv_iload_n (pc := 101) X.1 X.2.1 dX8_reads_101 rfl (lv_at hl 0 rfl) ?_
      obtain ⟨k41, ek41, h⟩ := jp_some h
      have hk41 : ∀ (z50 : MS) (H : Heap) (locs : List Loc) (ls : Array Slot), k41 z50 = some res → Mm D κ A ad (celM κ ad r0 z50) s H locs → lv_has ls 3 [] → W p l e rm8_reads s m [.ref (ad 43)].toArray below meth c H locs 0 0 (MQ below (QV D κ A ad (celM κ ad r0 res)) [.ref (ad 43)].toArray s 0 0 A) (F0 m 173 ls []) := by
        intro z50 H locs ls h G hl
        rw [ek41] at h
        try dsimp only at h
        refine lv_goto (pc := 173) (tgt := 307) X.1 X.2.1 dX8_reads_173 (by decide) ?_
        exact hk7 z50 _ _ ls h G (lv_sub hl [] rfl)
      refine lv_if_eq (pc := 102) (tgt := 164) X.1 X.2.1 dX8_reads_102 (by decide) (fun hc42 => ?_) (fun hc42 => ?_)
      · have h := it_pos h hc42
        refine lv_aload_n (pc := 164) X.1 X.2.1 dX8_reads_164 rfl (lv_at hl 1 rfl) ?_
        refine lv_iload_n (pc := 165) X.1 X.2.1 dX8_reads_165 rfl (lv_at hl 2 rfl) ?_
        refine lv_bipush (pc := 166) (v := 65) X.1 X.2.1 dX8_reads_166 (by decide) ?_
        refine lv_isub (pc := 168) X.1 X.2.1 dX8_reads_168 ?_
        refine lv_iconst (pc := 169) (v := 0) X.1 X.2.1 dX8_reads_169 (by decide) ?_
        obtain ⟨z43, ez43, h⟩ := bn_some h
        refine M_callv (pc := 170) (z1 := z43) (As := [.int (x3 - 65), .int 0]) (rest := []) X G (rm := rm8_goesOn) rfl rfl (c8_goesOn l D κ A ad r0 z5 (x3 - 65) 0 z43 ez43) g_X8_195 hd_yX8_goesOn ⟨Nat.le_of_ble_eq_true rfl, Nat.le_of_ble_eq_true rfl⟩ rfl hl rfl (lv_room (Nat.le_of_ble_eq_true rfl)) dX8_reads_170 ⟨Nat.le_of_ble_eq_true rfl, Nat.le_of_ble_eq_true rfl⟩ (fun H locs G => ?_)
        exact hk41 z43 _ _ ls h G (lv_sub hl [] rfl)
      · have h := it_neg h hc42
        refine lv_aload_n (pc := 105) X.1 X.2.1 dX8_reads_105 rfl (lv_at hl 1 rfl) ?_
        refine M_getr (pc := 106) X G 11 (by decide) (by decide +kernel) fl_X8_32 dX8_reads_106 ?_
        refine lv_aload_n (pc := 109) X.1 X.2.1 dX8_reads_109 rfl (lv_at hl 1 rfl) ?_
        refine M_geti (pc := 110) X G 18 (by decide) (by decide +kernel) fl_X8_166 dX8_reads_110 ?_
        refine lv_dup2_11 (pc := 113) X.1 X.2.1 dX8_reads_113 rfl rfl ?_
        obtain ⟨hix44, h⟩ := rd_some h
        refine M_iald (pc := 114) X G (i := 11) (n := 14) (by decide +kernel) (by decide) rfl hix44 dX8_reads_114 ?_
        refine lv_topi (fun x44 ex44 => ?_)
        rw [← ex44] at h
        refine lv_iconst (pc := 115) (v := 1) X.1 X.2.1 dX8_reads_115 (by decide) ?_
        refine lv_iadd (pc := 116) X.1 X.2.1 dX8_reads_116 ?_
        obtain ⟨hiz45, z45, ez45, h⟩ := wr_some h
        refine M_iast (pc := 117) X G (i := 11) (n := 14) ez45 (by decide +kernel) (by decide) rfl hiz45 dX8_reads_117 (fun H locs G => ?_)
        refine lv_aload_n (pc := 118) X.1 X.2.1 dX8_reads_118 rfl (lv_at hl 1 rfl) ?_
        refine M_getr (pc := 119) X G 19 (by decide) (by decide +kernel) fl_X8_50 dX8_reads_119 ?_
        refine lv_aload_n (pc := 122) X.1 X.2.1 dX8_reads_122 rfl (lv_at hl 1 rfl) ?_
        refine M_geti (pc := 123) X G 22 (by decide) (by decide +kernel) fl_X8_156 dX8_reads_123 ?_
        refine lv_iload_n (pc := 126) X.1 X.2.1 dX8_reads_126 rfl (lv_at hl 2 rfl) ?_
        refine lv_bipush (pc := 127) (v := 65) X.1 X.2.1 dX8_reads_127 (by decide) ?_
        refine lv_isub (pc := 129) X.1 X.2.1 dX8_reads_129 ?_
        obtain ⟨hiz46, z46, ez46, h⟩ := wr_some h
        refine M_iast (pc := 130) X G (i := 19) (n := 400) ez46 (by decide +kernel) (by decide) rfl hiz46 dX8_reads_130 (fun H locs G => ?_)
        refine lv_aload_n (pc := 131) X.1 X.2.1 dX8_reads_131 rfl (lv_at hl 1 rfl) ?_
        refine M_getr (pc := 132) X G 20 (by decide) (by decide +kernel) fl_X8_53 dX8_reads_132 ?_
        refine lv_aload_n (pc := 135) X.1 X.2.1 dX8_reads_135 rfl (lv_at hl 1 rfl) ?_
        refine M_geti (pc := 136) X G 22 (by decide) (by decide +kernel) fl_X8_156 dX8_reads_136 ?_
        refine lv_iconst (pc := 139) (v := 0) X.1 X.2.1 dX8_reads_139 (by decide) ?_
        obtain ⟨hiz47, z47, ez47, h⟩ := wr_some h
        refine M_iast (pc := 140) X G (i := 20) (n := 400) ez47 (by decide +kernel) (by decide) rfl hiz47 dX8_reads_140 (fun H locs G => ?_)
        refine lv_aload_n (pc := 141) X.1 X.2.1 dX8_reads_141 rfl (lv_at hl 1 rfl) ?_
        refine lv_dup (pc := 142) X.1 X.2.1 dX8_reads_142 rfl ?_
        refine M_geti (pc := 143) X G 22 (by decide) (by decide +kernel) fl_X8_156 dX8_reads_143 ?_
        refine lv_iconst (pc := 146) (v := 1) X.1 X.2.1 dX8_reads_146 (by decide) ?_
        refine lv_iadd (pc := 147) X.1 X.2.1 dX8_reads_147 ?_
        obtain ⟨z48, ez48, h⟩ := bd_some h
        refine M_puti (pc := 148) X G 22 ez48 (by decide) (by decide +kernel) fl_X8_156 dX8_reads_148 (fun H locs G => ?_)
        refine lv_aload_n (pc := 151) X.1 X.2.1 dX8_reads_151 rfl (lv_at hl 1 rfl) ?_
        refine M_getr (pc := 152) X G 23 (by decide) (by decide +kernel) fl_X8_59 dX8_reads_152 ?_
        refine lv_aload_n (pc := 155) X.1 X.2.1 dX8_reads_155 rfl (lv_at hl 1 rfl) ?_
        refine M_geti (pc := 156) X G 22 (by decide) (by decide +kernel) fl_X8_156 dX8_reads_156 ?_
        refine lv_iconst (pc := 159) (v := 0) X.1 X.2.1 dX8_reads_159 (by decide) ?_
        obtain ⟨hiz49, z49, ez49, h⟩ := wr_some h
        refine M_iast (pc := 160) X G (i := 23) (n := 401) ez49 (by decide +kernel) (by decide) rfl hiz49 dX8_reads_160 (fun H locs G => ?_)
        refine lv_goto (pc := 161) (tgt := 173) X.1 X.2.1 dX8_reads_161 (by decide) ?_
        exact hk41 z49 _ _ ls h G (lv_sub hl [] rfl)
    obtain ⟨k34, ek34, h⟩ := jp_some h
    have hk34 : ∀  (H : Heap) (locs : List Loc) (ls : Array Slot), k34 () = some res → Mm D κ A ad (celM κ ad r0 z5) s H locs → lv_has ls 3 [(0, .ref (ad 43)), (1, .int x3)] → W p l e rm8_reads s m [.ref (ad 43)].toArray below meth c H locs 0 0 (MQ below (QV D κ A ad (celM κ ad r0 res)) [.ref (ad 43)].toArray s 0 0 A) (F0 m 99 ls []) := by
      intro  H locs ls h G hl
      rw [ek34] at h
      try dsimp only at h
      refine lv_iconst (pc := 99) (v := 0) X.1 X.2.1 dX8_reads_99 (by decide) ?_
      exact hk33 0 _ _ ls h G (lv_sub hl [0, 1] rfl)
    refine lv_icmp_ge (pc := 65) (tgt := 99) X.1 X.2.1 dX8_reads_65 (by decide) (fun hc35 => ?_) (fun hc35 => ?_)
    · have h := it_pos h hc35
      exact hk34  _ _ ls h G (lv_sub hl [1, 0] rfl)
    · have h := it_neg h hc35
      refine lv_aload_n (pc := 68) X.1 X.2.1 dX8_reads_68 rfl (lv_at hl 1 rfl) ?_
      refine lv_aload_n (pc := 69) X.1 X.2.1 dX8_reads_69 rfl (lv_at hl 1 rfl) ?_
      refine M_getr (pc := 70) X G 10 (by decide) (by decide +kernel) fl_X8_29 dX8_reads_70 ?_
      refine lv_aload_n (pc := 73) X.1 X.2.1 dX8_reads_73 rfl (lv_at hl 1 rfl) ?_
      refine M_geti (pc := 74) X G 18 (by decide) (by decide +kernel) fl_X8_166 dX8_reads_74 ?_
      obtain ⟨hix36, h⟩ := rd_some h
      refine M_iald (pc := 77) X G (i := 10) (n := 14) (by decide +kernel) (by decide) rfl hix36 dX8_reads_77 ?_
      refine lv_topi (fun x36 ex36 => ?_)
      rw [← ex36] at h
      refine lv_aload_n (pc := 78) X.1 X.2.1 dX8_reads_78 rfl (lv_at hl 1 rfl) ?_
      refine M_getr (pc := 79) X G 11 (by decide) (by decide +kernel) fl_X8_32 dX8_reads_79 ?_
      refine lv_aload_n (pc := 82) X.1 X.2.1 dX8_reads_82 rfl (lv_at hl 1 rfl) ?_
      refine M_geti (pc := 83) X G 18 (by decide) (by decide +kernel) fl_X8_166 dX8_reads_83 ?_
      obtain ⟨hix37, h⟩ := rd_some h
      refine M_iald (pc := 86) X G (i := 11) (n := 14) (by decide +kernel) (by decide) rfl hix37 dX8_reads_86 ?_
      refine lv_topi (fun x37 ex37 => ?_)
      rw [← ex37] at h
      obtain ⟨x38, ex38, h⟩ := bn_some h
      refine M_calli (pc := 87) (z1 := z5) (v := x38) (As := [.int x36, .int x37]) (rest := []) X G (rm := rm8_signOf) rfl rfl (c8_signOf l D κ A ad r0 z5 x36 x37 x38 ex38) g_X8_135 hd_yX8_signOf ⟨Nat.le_of_ble_eq_true rfl, Nat.le_of_ble_eq_true rfl⟩ rfl hl rfl (lv_room (Nat.le_of_ble_eq_true rfl)) dX8_reads_87 ⟨Nat.le_of_ble_eq_true rfl, Nat.le_of_ble_eq_true rfl⟩ (fun H locs G => ?_)
      refine lv_bipush (pc := 90) (v := 40) X.1 X.2.1 dX8_reads_90 (by decide) ?_
      refine lv_icmp_ne (pc := 92) (tgt := 99) X.1 X.2.1 dX8_reads_92 (by decide) (fun hc39 => ?_) (fun hc39 => ?_)
      · have h := it_pos h hc39
        exact hk34  _ _ ls h G (lv_sub hl [1, 0] rfl)
      · have h := it_neg h (fun q => q hc39)
        refine lv_iconst (pc := 95) (v := 1) X.1 X.2.1 dX8_reads_95 (by decide) ?_
        refine lv_goto (pc := 96) (tgt := 100) X.1 X.2.1 dX8_reads_96 (by decide) ?_
        exact hk33 1 _ _ ls h G (lv_sub hl [1, 0] rfl)
