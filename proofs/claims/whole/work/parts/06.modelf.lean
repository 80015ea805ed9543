/-! THE REFERENCE, laid by wip/whole/walk.py: F8_: what a method does; c8_: the machine does it -/
abbrev rm8_keep : Room := { frames := 2, cells := 0, slots := 0, locals := 43 }
noncomputable def F8_keep (z : MS) (p0 : Int32) : Option (MS × Int32) :=
  bn (F8_in p0 0 1) fun x1 =>
  jp (fun (x4 : Int32) => bn2 (F8_refused z x4) fun z6 x5 =>
  if x5 = 0 then
  Loop (fun (q : Int32 × MS) => (fun (x8 : Int32) (z9 : MS) =>
  if 2153 ≤ x8 then
  bz 1 <|
  wr z9 4 2 p0 1 fun z11 =>
  bn (F8_defined z11) fun x12 =>
  some (.inr (z11, x12))
  else
  rd (z9 0) 2153 x8 fun x13 =>
  wr z9 3 4306 ((2153 * p0) + x8) x13 fun z14 =>
  bd (x8 + 1) fun x15 =>
  some (.inl (x15, z14))) q.1 q.2) (0, z6)
  else
  some (z6, 0)) fun k2 =>
  if x1 = 0 then
  k2 1
  else
  k2 0
set_option maxHeartbeats 4000000 in
set_option maxRecDepth 100000 in
theorem c8_keep (l : Launch) (D : va_G) (κ : Nat → ClassId) (A : Nat → Prop) (ad : Nat → Nat) (r0 : Nat → Option va_E) (z : MS) (p0 : Int32) (res : MS × Int32) (h : F8_keep z p0 = some res) : Met l yX8_keep (gw yX8_keep cX8_keep 3 (some (FieldType.int))) rm8_keep (va_Pc [.ref (ad 43), .int p0] (MW D κ A ad (celM κ ad r0 z))) (QI D κ A ad (celM κ ad r0 res.1) res.2) 0 0 A := by
  refine met_of (own := RX8) (by decide +kernel) rfl (Nat.le_of_ble_eq_true rfl) ?_
  intro p e s m below meth c ls X hr hlk G hl
  have hl : lv_has ls 3 [(0, .ref (ad 43)), (1, .int p0)] := hl
  unfold F8_keep at h
  refine lv_aload_n (pc := 0) X.1 X.2.1 dX8_keep_0 rfl (lv_at hl 0 rfl) ?_
  refine lv_iload_n (pc := 1) X.1 X.2.1 dX8_keep_1 rfl (lv_at hl 1 rfl) ?_
  refine lv_iconst (pc := 2) (v := 0) X.1 X.2.1 dX8_keep_2 (by decide) ?_
  refine lv_iconst (pc := 3) (v := 1) X.1 X.2.1 dX8_keep_3 (by decide) ?_
  obtain ⟨x1, ex1, h⟩ := bn_some h
  refine m_callsi0 (pc := 4) (v := x1) (As := [.int p0, .int 0, .int 1]) (rest := [.ref (ad 43)]) X G (rm := rm8_in) rfl rfl (c8_in l D κ A ad (celM κ ad r0 z) p0 0 1 x1 ex1) g_X8_102 hs_yX8_in ⟨Nat.le_of_ble_eq_true rfl, Nat.le_of_ble_eq_true rfl⟩ rfl hl rfl (lv_room (Nat.le_of_ble_eq_true rfl)) dX8_keep_4 ⟨Nat.le_of_ble_eq_true rfl, Nat.le_of_ble_eq_true rfl⟩ (fun H locs G => ?_)
  obtain ⟨k2, ek2, h⟩ := jp_some h
  have hk2 : ∀ (x4 : Int32) (H : Heap) (locs : List Loc) (ls : Array Slot), k2 x4 = some res → Mm D κ A ad (celM κ ad r0 z) s H locs → lv_has ls 3 [(0, .ref (ad 43)), (1, .int p0)] → W p l e rm8_keep s m [.ref (ad 43), .int p0].toArray below meth c H locs 0 0 (MQ below (QI D κ A ad (celM κ ad r0 res.1) res.2) [.ref (ad 43), .int p0].toArray s 0 0 A) (F0 m 15 ls [.int x4, .ref (ad 43)]) := by
    intro x4 H locs ls h G hl
    rw [ek2] at h
    try dsimp only at h
    obtain ⟨z6, x5, ex5, h⟩ := bn2_some h
    refine M_calli (pc := 15) (z1 := z6) (v := x5) (As := [.int x4]) (rest := []) X G (rm := rm8_refused) rfl rfl (c8_refused l D κ A ad r0 z x4 (z6, x5) ex5) g_X8_116 hd_yX8_refused ⟨Nat.le_of_ble_eq_true rfl, Nat.le_of_ble_eq_true rfl⟩ rfl hl rfl (lv_room (Nat.le_of_ble_eq_true rfl)) dX8_keep_15 ⟨Nat.le_of_ble_eq_true rfl, Nat.le_of_ble_eq_true rfl⟩ (fun H locs G => ?_)
    refine lv_if_eq (pc := 18) (tgt := 23) X.1 X.2.1 dX8_keep_18 (by decide) (fun hc7 => ?_) (fun hc7 => ?_)
    · have h := it_pos h hc7
      refine lv_iconst (pc := 23) (v := 0) X.1 X.2.1 dX8_keep_23 (by decide) ?_
      refine lv_istore_n (pc := 24) (lv' := [(2, .int 0), (0, .ref (ad 43)), (1, .int p0)]) X.1 X.2.1 dX8_keep_24 rfl hl (by decide) rfl (fun ls hl => ?_)
      refine Loop_ind (P := fun (q : Int32 × MS) => ∀ (H : Heap) (locs : List Loc) (ls : Array Slot), Mm D κ A ad (celM κ ad r0 q.2) s H locs → lv_has ls 3 [(0, .ref (ad 43)), (1, .int p0), (2, .int q.1)] → W p l e rm8_keep s m [.ref (ad 43), .int p0].toArray below meth c H locs 0 0 (MQ below (QI D κ A ad (celM κ ad r0 res.1) res.2) [.ref (ad 43), .int p0].toArray s 0 0 A) (F0 m 25 ls [])) ?_ h _ _ ls G (lv_sub hl [1, 2, 0] rfl)
      intro q y1 h ih1 hz1 H locs ls G hl
      obtain ⟨x8, z9⟩ := q
      try dsimp only at h ih1 G hl ⊢
      refine lv_iload_n (pc := 25) X.1 X.2.1 dX8_keep_25 rfl (lv_at hl 2 rfl) ?_
      refine lv_sipush (pc := 26) (v := 2153) X.1 X.2.1 dX8_keep_26 (by decide) ?_
      refine lv_icmp_ge (pc := 29) (tgt := 56) X.1 X.2.1 dX8_keep_29 (by decide) (fun hc10 => ?_) (fun hc10 => ?_)
      · have h := it_pos h hc10
        refine lv_aload_n (pc := 56) X.1 X.2.1 dX8_keep_56 rfl (lv_at hl 0 rfl) ?_
        refine M_getr (pc := 57) X G 4 (by decide) (by decide +kernel) fl_X8_19 dX8_keep_57 ?_
        refine lv_iload_n (pc := 60) X.1 X.2.1 dX8_keep_60 rfl (lv_at hl 1 rfl) ?_
        refine lv_iconst (pc := 61) (v := 1) X.1 X.2.1 dX8_keep_61 (by decide) ?_
        obtain ⟨hbz11, h⟩ := bz_some h
        obtain ⟨hiz11, z11, ez11, h⟩ := wr_some h
        refine M_zast (pc := 62) X G ez11 hbz11 hiz11 dX8_keep_62 (fun H locs G => ?_)
        refine lv_aload_n (pc := 63) X.1 X.2.1 dX8_keep_63 rfl (lv_at hl 0 rfl) ?_
        obtain ⟨x12, ex12, h⟩ := bn_some h
        refine M_calli (pc := 64) (z1 := z11) (v := x12) (As := []) (rest := []) X G (rm := rm8_defined) rfl rfl (c8_defined l D κ A ad r0 z11  x12 ex12) g_X8_153 hd_yX8_defined ⟨Nat.le_of_ble_eq_true rfl, Nat.le_of_ble_eq_true rfl⟩ rfl hl rfl (lv_room (Nat.le_of_ble_eq_true rfl)) dX8_keep_64 ⟨Nat.le_of_ble_eq_true rfl, Nat.le_of_ble_eq_true rfl⟩ (fun H locs G => ?_)
        have h := Option.some.inj h
        have h := hz1 _ h.symm
        exact m_iret (pc := 67) X G hr hlk dX8_keep_67 (congrArg Prod.snd h) (congrArg (fun q : MS × Int32 => celM κ ad r0 q.1) h)
      · have h := it_neg h hc10
        refine lv_aload_n (pc := 32) X.1 X.2.1 dX8_keep_32 rfl (lv_at hl 0 rfl) ?_
        refine M_getr (pc := 33) X G 3 (by decide) (by decide +kernel) fl_X8_16 dX8_keep_33 ?_
        refine lv_sipush (pc := 36) (v := 2153) X.1 X.2.1 dX8_keep_36 (by decide) ?_
        refine lv_iload_n (pc := 39) X.1 X.2.1 dX8_keep_39 rfl (lv_at hl 1 rfl) ?_
        refine lv_imul (pc := 40) X.1 X.2.1 dX8_keep_40 ?_
        refine lv_iload_n (pc := 41) X.1 X.2.1 dX8_keep_41 rfl (lv_at hl 2 rfl) ?_
        refine lv_iadd (pc := 42) X.1 X.2.1 dX8_keep_42 ?_
        refine lv_aload_n (pc := 43) X.1 X.2.1 dX8_keep_43 rfl (lv_at hl 0 rfl) ?_
        refine M_getr (pc := 44) X G 0 (by decide) (by decide +kernel) fl_X8_7 dX8_keep_44 ?_
        refine lv_iload_n (pc := 47) X.1 X.2.1 dX8_keep_47 rfl (lv_at hl 2 rfl) ?_
        obtain ⟨hix13, h⟩ := rd_some h
        refine M_iald (pc := 48) X G (i := 0) (n := 2153) (by decide +kernel) (by decide) rfl hix13 dX8_keep_48 ?_
        refine lv_topi (fun x13 ex13 => ?_)
        rw [← ex13] at h
        obtain ⟨hiz14, z14, ez14, h⟩ := wr_some h
        refine M_iast (pc := 49) X G (i := 3) (n := 4306) ez14 (by decide +kernel) (by decide) rfl hiz14 dX8_keep_49 (fun H locs G => ?_)
        obtain ⟨x15, ex15, h⟩ := bd_some h
        refine lv_iinc (pc := 50) (v := x15) (lv' := [(2, .int x15), (0, .ref (ad 43)), (1, .int p0)]) X.1 X.2.1 dX8_keep_50 hl (k := 2) rfl (by rw [ex15]; rfl) (by decide) rfl (fun ls hl => ?_)
        refine lv_goto (pc := 53) (tgt := 25) X.1 X.2.1 dX8_keep_53 (by decide) ?_
        have h := Option.some.inj h
        exact ih1 _ h.symm _ _ ls G (lv_sub hl [1, 2, 0] rfl)
    · have h := it_neg h hc7
      refine lv_iconst (pc := 21) (v := 0) X.1 X.2.1 dX8_keep_21 (by decide) ?_
      have h := Option.some.inj h
      exact m_iret (pc := 22) X G hr hlk dX8_keep_22 (congrArg Prod.snd h) (congrArg (fun q : MS × Int32 => celM κ ad r0 q.1) h)
  refine lv_if_eq (pc := 7) (tgt := 14) X.1 X.2.1 dX8_keep_7 (by decide) (fun hc3 => ?_) (fun hc3 => ?_)
  · have h := it_pos h hc3
    refine lv_iconst (pc := 14) (v := 1) X.1 X.2.1 dX8_keep_14 (by decide) ?_
    exact hk2 1 _ _ ls h G (lv_sub hl [0, 1] rfl)
  · have h := it_neg h hc3
    refine lv_iconst (pc := 10) (v := 0) X.1 X.2.1 dX8_keep_10 (by decide) ?_
    refine lv_goto (pc := 11) (tgt := 15) X.1 X.2.1 dX8_keep_11 (by decide) ?_
    exact hk2 0 _ _ ls h G (lv_sub hl [0, 1] rfl)

abbrev rm8_goBack : Room := { frames := 2, cells := 0, slots := 0, locals := 43 }
noncomputable def F8_goBack (z : MS) (p0 : Int32) : Option (MS × Int32) :=
  bn (F8_in p0 0 1) fun x1 =>
  jp (fun (x6 : Int32) => bn2 (F8_refused z x6) fun z8 x7 =>
  if x7 = 0 then
  bn (F8_saves z8) fun z10 =>
  Loop (fun (q : Int32 × MS) => (fun (x11 : Int32) (z12 : MS) =>
  if 2153 ≤ x11 then
  bn (F8_defined z12) fun x14 =>
  some (.inr (z12, x14))
  else
  rd (z12 3) 4306 ((2153 * p0) + x11) fun x15 =>
  wr z12 0 2153 x11 x15 fun z16 =>
  bd (x11 + 1) fun x17 =>
  some (.inl (x17, z16))) q.1 q.2) (0, z10)
  else
  some (z8, 0)) fun k2 =>
  if ¬ x1 = 0 then
  rd (z 4) 2 p0 fun x4 =>
  if x4 = 0 then
  k2 2
  else
  k2 0
  else
  k2 1
set_option maxHeartbeats 4000000 in
set_option maxRecDepth 100000 in
theorem c8_goBack (l : Launch) (D : va_G) (κ : Nat → ClassId) (A : Nat → Prop) (ad : Nat → Nat) (r0 : Nat → Option va_E) (z : MS) (p0 : Int32) (res : MS × Int32) (h : F8_goBack z p0 = some res) : Met l yX8_goBack (gw yX8_goBack cX8_goBack 3 (some (FieldType.int))) rm8_goBack (va_Pc [.ref (ad 43), .int p0] (MW D κ A ad (celM κ ad r0 z))) (QI D κ A ad (celM κ ad r0 res.1) res.2) 0 0 A := by
  refine met_of (own := RX8) (by decide +kernel) rfl (Nat.le_of_ble_eq_true rfl) ?_
  intro p e s m below meth c ls X hr hlk G hl
  have hl : lv_has ls 3 [(0, .ref (ad 43)), (1, .int p0)] := hl
  unfold F8_goBack at h
  refine lv_aload_n (pc := 0) X.1 X.2.1 dX8_goBack_0 rfl (lv_at hl 0 rfl) ?_
  refine lv_iload_n (pc := 1) X.1 X.2.1 dX8_goBack_1 rfl (lv_at hl 1 rfl) ?_
  refine lv_iconst (pc := 2) (v := 0) X.1 X.2.1 dX8_goBack_2 (by decide) ?_
  refine lv_iconst (pc := 3) (v := 1) X.1 X.2.1 dX8_goBack_3 (by decide) ?_
  obtain ⟨x1, ex1, h⟩ := bn_some h
  refine m_callsi0 (pc := 4) (v := x1) (As := [.int p0, .int 0, .int 1]) (rest := [.ref (ad 43)]) X G (rm := rm8_in) rfl rfl (c8_in l D κ A ad (celM κ ad r0 z) p0 0 1 x1 ex1) g_X8_102 hs_yX8_in ⟨Nat.le_of_ble_eq_true rfl, Nat.le_of_ble_eq_true rfl⟩ rfl hl rfl (lv_room (Nat.le_of_ble_eq_true rfl)) dX8_goBack_4 ⟨Nat.le_of_ble_eq_true rfl, Nat.le_of_ble_eq_true rfl⟩ (fun H locs G => ?_)
  obtain ⟨k2, ek2, h⟩ := jp_some h
  have hk2 : ∀ (x6 : Int32) (H : Heap) (locs : List Loc) (ls : Array Slot), k2 x6 = some res → Mm D κ A ad (celM κ ad r0 z) s H locs → lv_has ls 3 [(0, .ref (ad 43)), (1, .int p0)] → W p l e rm8_goBack s m [.ref (ad 43), .int p0].toArray below meth c H locs 0 0 (MQ below (QI D κ A ad (celM κ ad r0 res.1) res.2) [.ref (ad 43), .int p0].toArray s 0 0 A) (F0 m 28 ls [.int x6, .ref (ad 43)]) := by
    intro x6 H locs ls h G hl
    rw [ek2] at h
    try dsimp only at h
    obtain ⟨z8, x7, ex7, h⟩ := bn2_some h
    refine M_calli (pc := 28) (z1 := z8) (v := x7) (As := [.int x6]) (rest := []) X G (rm := rm8_refused) rfl rfl (c8_refused l D κ A ad r0 z x6 (z8, x7) ex7) g_X8_116 hd_yX8_refused ⟨Nat.le_of_ble_eq_true rfl, Nat.le_of_ble_eq_true rfl⟩ rfl hl rfl (lv_room (Nat.le_of_ble_eq_true rfl)) dX8_goBack_28 ⟨Nat.le_of_ble_eq_true rfl, Nat.le_of_ble_eq_true rfl⟩ (fun H locs G => ?_)
    refine lv_if_eq (pc := 31) (tgt := 36) X.1 X.2.1 dX8_goBack_31 (by decide) (fun hc9 => ?_) (fun hc9 => ?_)
    · have h := it_pos h hc9
      refine lv_aload_n (pc := 36) X.1 X.2.1 dX8_goBack_36 rfl (lv_at hl 0 rfl) ?_
      obtain ⟨z10, ez10, h⟩ := bn_some h
      refine M_callv (pc := 37) (z1 := z10) (As := []) (rest := []) X G (rm := rm8_saves) rfl rfl (c8_saves l D κ A ad r0 z8  z10 ez10) g_X8_143 hd_yX8_saves ⟨Nat.le_of_ble_eq_true rfl, Nat.le_of_ble_eq_true rfl⟩ rfl hl rfl (lv_room (Nat.le_of_ble_eq_true rfl)) dX8_goBack_37 ⟨Nat.le_of_ble_eq_true rfl, Nat.le_of_ble_eq_true rfl⟩ (fun H locs G => ?_)
      refine lv_iconst (pc := 40) (v := 0) X.1 X.2.1 dX8_goBack_40 (by decide) ?_
      refine lv_istore_n (pc := 41) (lv' := [(2, .int 0), (0, .ref (ad 43)), (1, .int p0)]) X.1 X.2.1 dX8_goBack_41 rfl hl (by decide) rfl (fun ls hl => ?_)
      refine Loop_ind (P := fun (q : Int32 × MS) => ∀ (H : Heap) (locs : List Loc) (ls : Array Slot), Mm D κ A ad (celM κ ad r0 q.2) s H locs → lv_has ls 3 [(0, .ref (ad 43)), (1, .int p0), (2, .int q.1)] → W p l e rm8_goBack s m [.ref (ad 43), .int p0].toArray below meth c H locs 0 0 (MQ below (QI D κ A ad (celM κ ad r0 res.1) res.2) [.ref (ad 43), .int p0].toArray s 0 0 A) (F0 m 42 ls [])) ?_ h _ _ ls G (lv_sub hl [1, 2, 0] rfl)
      intro q y1 h ih1 hz1 H locs ls G hl
      obtain ⟨x11, z12⟩ := q
      try dsimp only at h ih1 G hl ⊢
      refine lv_iload_n (pc := 42) X.1 X.2.1 dX8_goBack_42 rfl (lv_at hl 2 rfl) ?_
      refine lv_sipush (pc := 43) (v := 2153) X.1 X.2.1 dX8_goBack_43 (by decide) ?_
      refine lv_icmp_ge (pc := 46) (tgt := 73) X.1 X.2.1 dX8_goBack_46 (by decide) (fun hc13 => ?_) (fun hc13 => ?_)
      · have h := it_pos h hc13
        refine lv_aload_n (pc := 73) X.1 X.2.1 dX8_goBack_73 rfl (lv_at hl 0 rfl) ?_
        obtain ⟨x14, ex14, h⟩ := bn_some h
        refine M_calli (pc := 74) (z1 := z12) (v := x14) (As := []) (rest := []) X G (rm := rm8_defined) rfl rfl (c8_defined l D κ A ad r0 z12  x14 ex14) g_X8_153 hd_yX8_defined ⟨Nat.le_of_ble_eq_true rfl, Nat.le_of_ble_eq_true rfl⟩ rfl hl rfl (lv_room (Nat.le_of_ble_eq_true rfl)) dX8_goBack_74 ⟨Nat.le_of_ble_eq_true rfl, Nat.le_of_ble_eq_true rfl⟩ (fun H locs G => ?_)
        have h := Option.some.inj h
        have h := hz1 _ h.symm
        exact m_iret (pc := 77) X G hr hlk dX8_goBack_77 (congrArg Prod.snd h) (congrArg (fun q : MS × Int32 => celM κ ad r0 q.1) h)
      · have h := it_neg h hc13
        refine lv_aload_n (pc := 49) X.1 X.2.1 dX8_goBack_49 rfl (lv_at hl 0 rfl) ?_
        refine M_getr (pc := 50) X G 0 (by decide) (by decide +kernel) fl_X8_7 dX8_goBack_50 ?_
        refine lv_iload_n (pc := 53) X.1 X.2.1 dX8_goBack_53 rfl (lv_at hl 2 rfl) ?_
        refine lv_aload_n (pc := 54) X.1 X.2.1 dX8_goBack_54 rfl (lv_at hl 0 rfl) ?_
        refine M_getr (pc := 55) X G 3 (by decide) (by decide +kernel) fl_X8_16 dX8_goBack_55 ?_
        refine lv_sipush (pc := 58) (v := 2153) X.1 X.2.1 dX8_goBack_58 (by decide) ?_
        refine lv_iload_n (pc := 61) X.1 X.2.1 dX8_goBack_61 rfl (lv_at hl 1 rfl) ?_
        refine lv_imul (pc := 62) X.1 X.2.1 dX8_goBack_62 ?_
        refine lv_iload_n (pc := 63) X.1 X.2.1 dX8_goBack_63 rfl (lv_at hl 2 rfl) ?_
        refine lv_iadd (pc := 64) X.1 X.2.1 dX8_goBack_64 ?_
        obtain ⟨hix15, h⟩ := rd_some h
        refine M_iald (pc := 65) X G (i := 3) (n := 4306) (by decide +kernel) (by decide) rfl hix15 dX8_goBack_65 ?_
        refine lv_topi (fun x15 ex15 => ?_)
        rw [← ex15] at h
        obtain ⟨hiz16, z16, ez16, h⟩ := wr_some h
        refine M_iast (pc := 66) X G (i := 0) (n := 2153) ez16 (by decide +kernel) (by decide) rfl hiz16 dX8_goBack_66 (fun H locs G => ?_)
        obtain ⟨x17, ex17, h⟩ := bd_some h
        refine lv_iinc (pc := 67) (v := x17) (lv' := [(2, .int x17), (0, .ref (ad 43)), (1, .int p0)]) X.1 X.2.1 dX8_goBack_67 hl (k := 2) rfl (by rw [ex17]; rfl) (by decide) rfl (fun ls hl => ?_)
        refine lv_goto (pc := 70) (tgt := 42) X.1 X.2.1 dX8_goBack_70 (by decide) ?_
        have h := Option.some.inj h
        exact ih1 _ h.symm _ _ ls G (lv_sub hl [1, 2, 0] rfl)
    · have h := it_neg h hc9
      refine lv_iconst (pc := 34) (v := 0) X.1 X.2.1 dX8_goBack_34 (by decide) ?_
      have h := Option.some.inj h
      exact m_iret (pc := 35) X G hr hlk dX8_goBack_35 (congrArg Prod.snd h) (congrArg (fun q : MS × Int32 => celM κ ad r0 q.1) h)
  refine lv_if_ne (pc := 7) (tgt := 14) X.1 X.2.1 dX8_goBack_7 (by decide) (fun hc3 => ?_) (fun hc3 => ?_)
  · have h := it_pos h hc3
    refine lv_aload_n (pc := 14) X.1 X.2.1 dX8_goBack_14 rfl (lv_at hl 0 rfl) ?_
    refine M_getr (pc := 15) X G 4 (by decide) (by decide +kernel) fl_X8_19 dX8_goBack_15 ?_
    refine lv_iload_n (pc := 18) X.1 X.2.1 dX8_goBack_18 rfl (lv_at hl 1 rfl) ?_
    obtain ⟨hix4, h⟩ := rd_some h
    refine M_zald (pc := 19) X G hix4 dX8_goBack_19 ?_
    refine lv_topi (fun x4 ex4 => ?_)
    rw [← ex4] at h
    refine lv_if_eq (pc := 20) (tgt := 27) X.1 X.2.1 dX8_goBack_20 (by decide) (fun hc5 => ?_) (fun hc5 => ?_)
    · have h := it_pos h hc5
      refine lv_iconst (pc := 27) (v := 2) X.1 X.2.1 dX8_goBack_27 (by decide) ?_
      exact hk2 2 _ _ ls h G (lv_sub hl [0, 1] rfl)
    · have h := it_neg h hc5
      refine lv_iconst (pc := 23) (v := 0) X.1 X.2.1 dX8_goBack_23 (by decide) ?_
      refine lv_goto (pc := 24) (tgt := 28) X.1 X.2.1 dX8_goBack_24 (by decide) ?_
      exact hk2 0 _ _ ls h G (lv_sub hl [0, 1] rfl)
  · have h := it_neg h (fun q => q hc3)
    refine lv_iconst (pc := 10) (v := 1) X.1 X.2.1 dX8_goBack_10 (by decide) ?_
    refine lv_goto (pc := 11) (tgt := 28) X.1 X.2.1 dX8_goBack_11 (by decide) ?_
    exact hk2 1 _ _ ls h G (lv_sub hl [0, 1] rfl)

abbrev rm8_callsOf : Room := { frames := 2, cells := 0, slots := 0, locals := 42 }
noncomputable def F8_callsOf (z : MS) (p0 : Int32) : Option (Int32) :=
  Loop (fun (q : Int32 × Int32) => (fun (x1 : Int32) (x2 : Int32) =>
  rd (z 0) 2153 p0 fun x3 =>
  if x3 ≤ x2 then
  some (.inr x1)
  else
  bn (F8_signOf z p0 x2) fun x5 =>
  bn (F8_isCall x5) fun x6 =>
  jp (fun (x9 : Int32) => bd (x1 + x9) fun x10 =>
  bd (x2 + 1) fun x11 =>
  some (.inl (x10, x11))) fun k7 =>
  if x6 = 0 then
  k7 0
  else
  k7 1) q.1 q.2) (0, 0)
set_option maxHeartbeats 4000000 in
set_option maxRecDepth 100000 in
theorem c8_callsOf (l : Launch) (D : va_G) (κ : Nat → ClassId) (A : Nat → Prop) (ad : Nat → Nat) (r0 : Nat → Option va_E) (z : MS) (p0 : Int32) (res : Int32) (h : F8_callsOf z p0 = some res) : Met l yX8_callsOf (gw yX8_callsOf cX8_callsOf 4 (some (FieldType.int))) rm8_callsOf (va_Pc [.ref (ad 43), .int p0] (MW D κ A ad (celM κ ad r0 z))) (QI D κ A ad (celM κ ad r0 z) res) 0 0 A := by
  refine met_of (own := RX8) (by decide +kernel) rfl (Nat.le_of_ble_eq_true rfl) ?_
  intro p e s m below meth c ls X hr hlk G hl
  have hl : lv_has ls 4 [(0, .ref (ad 43)), (1, .int p0)] := hl
  unfold F8_callsOf at h
  refine lv_iconst (pc := 0) (v := 0) X.1 X.2.1 dX8_callsOf_0 (by decide) ?_
  refine lv_istore_n (pc := 1) (lv' := [(2, .int 0), (0, .ref (ad 43)), (1, .int p0)]) X.1 X.2.1 dX8_callsOf_1 rfl hl (by decide) rfl (fun ls hl => ?_)
  refine lv_iconst (pc := 2) (v := 0) X.1 X.2.1 dX8_callsOf_2 (by decide) ?_
  refine lv_istore_n (pc := 3) (lv' := [(3, .int 0), (2, .int 0), (0, .ref (ad 43)), (1, .int p0)]) X.1 X.2.1 dX8_callsOf_3 rfl hl (by decide) rfl (fun ls hl => ?_)
  refine Loop_ind (P := fun (q : Int32 × Int32) => ∀ (H : Heap) (locs : List Loc) (ls : Array Slot), Mm D κ A ad (celM κ ad r0 z) s H locs → lv_has ls 4 [(0, .ref (ad 43)), (1, .int p0), (2, .int q.1), (3, .int q.2)] → W p l e rm8_callsOf s m [.ref (ad 43), .int p0].toArray below meth c H locs 0 0 (MQ below (QI D κ A ad (celM κ ad r0 z) res) [.ref (ad 43), .int p0].toArray s 0 0 A) (F0 m 4 ls [])) ?_ h _ _ ls G (lv_sub hl [2, 3, 1, 0] rfl)
  intro q y1 h ih1 hz1 H locs ls G hl
  obtain ⟨x1, x2⟩ := q
  try dsimp only at h ih1 G hl ⊢
  refine lv_iload_n (pc := 4) X.1 X.2.1 dX8_callsOf_4 rfl (lv_at hl 3 rfl) ?_
  refine lv_aload_n (pc := 5) X.1 X.2.1 dX8_callsOf_5 rfl (lv_at hl 0 rfl) ?_
  refine M_getr (pc := 6) X G 0 (by decide) (by decide +kernel) fl_X8_7 dX8_callsOf_6 ?_
  refine lv_iload_n (pc := 9) X.1 X.2.1 dX8_callsOf_9 rfl (lv_at hl 1 rfl) ?_
  obtain ⟨hix3, h⟩ := rd_some h
  refine M_iald (pc := 10) X G (i := 0) (n := 2153) (by decide +kernel) (by decide) rfl hix3 dX8_callsOf_10 ?_
  refine lv_topi (fun x3 ex3 => ?_)
  rw [← ex3] at h
  refine lv_icmp_ge (pc := 11) (tgt := 40) X.1 X.2.1 dX8_callsOf_11 (by decide) (fun hc4 => ?_) (fun hc4 => ?_)
  · have h := it_pos h hc4
    refine lv_iload_n (pc := 40) X.1 X.2.1 dX8_callsOf_40 rfl (lv_at hl 2 rfl) ?_
    have h := Option.some.inj h
    have h := hz1 _ h.symm
    exact m_iret (pc := 41) X G hr hlk dX8_callsOf_41 h rfl
  · have h := it_neg h hc4
    refine lv_iload_n (pc := 14) X.1 X.2.1 dX8_callsOf_14 rfl (lv_at hl 2 rfl) ?_
    refine lv_aload_n (pc := 15) X.1 X.2.1 dX8_callsOf_15 rfl (lv_at hl 0 rfl) ?_
    refine lv_iload_n (pc := 16) X.1 X.2.1 dX8_callsOf_16 rfl (lv_at hl 1 rfl) ?_
    refine lv_iload_n (pc := 17) X.1 X.2.1 dX8_callsOf_17 rfl (lv_at hl 3 rfl) ?_
    obtain ⟨x5, ex5, h⟩ := bn_some h
    refine M_calli (pc := 18) (z1 := z) (v := x5) (As := [.int p0, .int x2]) (rest := [.int x1]) X G (rm := rm8_signOf) rfl rfl (c8_signOf l D κ A ad r0 z p0 x2 x5 ex5) g_X8_135 hd_yX8_signOf ⟨Nat.le_of_ble_eq_true rfl, Nat.le_of_ble_eq_true rfl⟩ rfl hl rfl (lv_room (Nat.le_of_ble_eq_true rfl)) dX8_callsOf_18 ⟨Nat.le_of_ble_eq_true rfl, Nat.le_of_ble_eq_true rfl⟩ (fun H locs G => ?_)
    obtain ⟨x6, ex6, h⟩ := bn_some h
    refine m_callsi0 (pc := 21) (v := x6) (As := [.int x5]) (rest := [.int x1]) X G (rm := rm8_isCall) rfl rfl (c8_isCall l D κ A ad (celM κ ad r0 z) x5 x6 ex6) g_X8_125 hs_yX8_isCall ⟨Nat.le_of_ble_eq_true rfl, Nat.le_of_ble_eq_true rfl⟩ rfl hl rfl (lv_room (Nat.le_of_ble_eq_true rfl)) dX8_callsOf_21 ⟨Nat.le_of_ble_eq_true rfl, Nat.le_of_ble_eq_true rfl⟩ (fun H locs G => ?_)
    obtain ⟨k7, ek7, h⟩ := jp_some h
    have hk7 : ∀ (x9 : Int32) (H : Heap) (locs : List Loc) (ls : Array Slot), k7 x9 = some y1 → Mm D κ A ad (celM κ ad r0 z) s H locs → lv_has ls 4 [(0, .ref (ad 43)), (1, .int p0), (3, .int x2)] → W p l e rm8_callsOf s m [.ref (ad 43), .int p0].toArray below meth c H locs 0 0 (MQ below (QI D κ A ad (celM κ ad r0 z) res) [.ref (ad 43), .int p0].toArray s 0 0 A) (F0 m 32 ls [.int x9, .int x1]) := by
      intro x9 H locs ls h G hl
      rw [ek7] at h
      try dsimp only at h
      refine lv_iadd (pc := 32) X.1 X.2.1 dX8_callsOf_32 ?_
      refine lv_topi (fun x10 ex10 => ?_)
      have h := bd_at h ex10
      refine lv_istore_n (pc := 33) (lv' := [(2, .int x10), (0, .ref (ad 43)), (1, .int p0), (3, .int x2)]) X.1 X.2.1 dX8_callsOf_33 rfl hl (by decide) rfl (fun ls hl => ?_)
      obtain ⟨x11, ex11, h⟩ := bd_some h
      refine lv_iinc (pc := 34) (v := x11) (lv' := [(3, .int x11), (2, .int x10), (0, .ref (ad 43)), (1, .int p0)]) X.1 X.2.1 dX8_callsOf_34 hl (k := 3) rfl (by rw [ex11]; rfl) (by decide) rfl (fun ls hl => ?_)
      refine lv_goto (pc := 37) (tgt := 4) X.1 X.2.1 dX8_callsOf_37 (by decide) ?_
      have h := Option.some.inj h
      exact ih1 _ h.symm _ _ ls G (lv_sub hl [2, 3, 1, 0] rfl)
    refine lv_if_eq (pc := 24) (tgt := 31) X.1 X.2.1 dX8_callsOf_24 (by decide) (fun hc8 => ?_) (fun hc8 => ?_)
    · have h := it_pos h hc8
      refine lv_iconst (pc := 31) (v := 0) X.1 X.2.1 dX8_callsOf_31 (by decide) ?_
      exact hk7 0 _ _ ls h G (lv_sub hl [0, 1, 3] rfl)
    · have h := it_neg h hc8
      refine lv_iconst (pc := 27) (v := 1) X.1 X.2.1 dX8_callsOf_27 (by decide) ?_
      refine lv_goto (pc := 28) (tgt := 32) X.1 X.2.1 dX8_callsOf_28 (by decide) ?_
      exact hk7 1 _ _ ls h G (lv_sub hl [0, 1, 3] rfl)

abbrev rm8_plainOf : Room := { frames := 2, cells := 0, slots := 0, locals := 42 }
noncomputable def F8_plainOf (z : MS) (p0 : Int32) : Option (Int32) :=
  Loop (fun (q : Int32 × Int32) => (fun (x1 : Int32) (x2 : Int32) =>
  rd (z 0) 2153 p0 fun x3 =>
  if x3 ≤ x2 then
  some (.inr x1)
  else
  bn (F8_signOf z p0 x2) fun x5 =>
  bn (F8_isPlain x5) fun x6 =>
  jp (fun (x9 : Int32) => bd (x1 + x9) fun x10 =>
  bd (x2 + 1) fun x11 =>
  some (.inl (x10, x11))) fun k7 =>
  if x6 = 0 then
  k7 0
  else
  k7 1) q.1 q.2) (0, 0)
set_option maxHeartbeats 4000000 in
set_option maxRecDepth 100000 in
theorem c8_plainOf (l : Launch) (D : va_G) (κ : Nat → ClassId) (A : Nat → Prop) (ad : Nat → Nat) (r0 : Nat → Option va_E) (z : MS) (p0 : Int32) (res : Int32) (h : F8_plainOf z p0 = some res) : Met l yX8_plainOf (gw yX8_plainOf cX8_plainOf 4 (some (FieldType.int))) rm8_plainOf (va_Pc [.ref (ad 43), .int p0] (MW D κ A ad (celM κ ad r0 z))) (QI D κ A ad (celM κ ad r0 z) res) 0 0 A := by
  refine met_of (own := RX8) (by decide +kernel) rfl (Nat.le_of_ble_eq_true rfl) ?_
  intro p e s m below meth c ls X hr hlk G hl
  have hl : lv_has ls 4 [(0, .ref (ad 43)), (1, .int p0)] := hl
  unfold F8_plainOf at h
  refine lv_iconst (pc := 0) (v := 0) X.1 X.2.1 dX8_plainOf_0 (by decide) ?_
  refine lv_istore_n (pc := 1) (lv' := [(2, .int 0), (0, .ref (ad 43)), (1, .int p0)]) X.1 X.2.1 dX8_plainOf_1 rfl hl (by decide) rfl (fun ls hl => ?_)
  refine lv_iconst (pc := 2) (v := 0) X.1 X.2.1 dX8_plainOf_2 (by decide) ?_
  refine lv_istore_n (pc := 3) (lv' := [(3, .int 0), (2, .int 0), (0, .ref (ad 43)), (1, .int p0)]) X.1 X.2.1 dX8_plainOf_3 rfl hl (by decide) rfl (fun ls hl => ?_)
  refine Loop_ind (P := fun (q : Int32 × Int32) => ∀ (H : Heap) (locs : List Loc) (ls : Array Slot), Mm D κ A ad (celM κ ad r0 z) s H locs → lv_has ls 4 [(0, .ref (ad 43)), (1, .int p0), (2, .int q.1), (3, .int q.2)] → W p l e rm8_plainOf s m [.ref (ad 43), .int p0].toArray below meth c H locs 0 0 (MQ below (QI D κ A ad (celM κ ad r0 z) res) [.ref (ad 43), .int p0].toArray s 0 0 A) (F0 m 4 ls [])) ?_ h _ _ ls G (lv_sub hl [2, 3, 1, 0] rfl)
  intro q y1 h ih1 hz1 H locs ls G hl
  obtain ⟨x1, x2⟩ := q
  try dsimp only at h ih1 G hl ⊢
  refine lv_iload_n (pc := 4) X.1 X.2.1 dX8_plainOf_4 rfl (lv_at hl 3 rfl) ?_
  refine lv_aload_n (pc := 5) X.1 X.2.1 dX8_plainOf_5 rfl (lv_at hl 0 rfl) ?_
  refine M_getr (pc := 6) X G 0 (by decide) (by decide +kernel) fl_X8_7 dX8_plainOf_6 ?_
  refine lv_iload_n (pc := 9) X.1 X.2.1 dX8_plainOf_9 rfl (lv_at hl 1 rfl) ?_
  obtain ⟨hix3, h⟩ := rd_some h
  refine M_iald (pc := 10) X G (i := 0) (n := 2153) (by decide +kernel) (by decide) rfl hix3 dX8_plainOf_10 ?_
  refine lv_topi (fun x3 ex3 => ?_)
  rw [← ex3] at h
  refine lv_icmp_ge (pc := 11) (tgt := 40) X.1 X.2.1 dX8_plainOf_11 (by decide) (fun hc4 => ?_) (fun hc4 => ?_)
  · have h := it_pos h hc4
    refine lv_iload_n (pc := 40) X.1 X.2.1 dX8_plainOf_40 rfl (lv_at hl 2 rfl) ?_
    have h := Option.some.inj h
    have h := hz1 _ h.symm
    exact m_iret (pc := 41) X G hr hlk dX8_plainOf_41 h rfl
  · have h := it_neg h hc4
    refine lv_iload_n (pc := 14) X.1 X.2.1 dX8_plainOf_14 rfl (lv_at hl 2 rfl) ?_
    refine lv_aload_n (pc := 15) X.1 X.2.1 dX8_plainOf_15 rfl (lv_at hl 0 rfl) ?_
    refine lv_iload_n (pc := 16) X.1 X.2.1 dX8_plainOf_16 rfl (lv_at hl 1 rfl) ?_
    refine lv_iload_n (pc := 17) X.1 X.2.1 dX8_plainOf_17 rfl (lv_at hl 3 rfl) ?_
    obtain ⟨x5, ex5, h⟩ := bn_some h
    refine M_calli (pc := 18) (z1 := z) (v := x5) (As := [.int p0, .int x2]) (rest := [.int x1]) X G (rm := rm8_signOf) rfl rfl (c8_signOf l D κ A ad r0 z p0 x2 x5 ex5) g_X8_135 hd_yX8_signOf ⟨Nat.le_of_ble_eq_true rfl, Nat.le_of_ble_eq_true rfl⟩ rfl hl rfl (lv_room (Nat.le_of_ble_eq_true rfl)) dX8_plainOf_18 ⟨Nat.le_of_ble_eq_true rfl, Nat.le_of_ble_eq_true rfl⟩ (fun H locs G => ?_)
    obtain ⟨x6, ex6, h⟩ := bn_some h
    refine m_callsi0 (pc := 21) (v := x6) (As := [.int x5]) (rest := [.int x1]) X G (rm := rm8_isPlain) rfl rfl (c8_isPlain l D κ A ad (celM κ ad r0 z) x5 x6 ex6) g_X8_122 hs_yX8_isPlain ⟨Nat.le_of_ble_eq_true rfl, Nat.le_of_ble_eq_true rfl⟩ rfl hl rfl (lv_room (Nat.le_of_ble_eq_true rfl)) dX8_plainOf_21 ⟨Nat.le_of_ble_eq_true rfl, Nat.le_of_ble_eq_true rfl⟩ (fun H locs G => ?_)
    obtain ⟨k7, ek7, h⟩ := jp_some h
    have hk7 : ∀ (x9 : Int32) (H : Heap) (locs : List Loc) (ls : Array Slot), k7 x9 = some y1 → Mm D κ A ad (celM κ ad r0 z) s H locs → lv_has ls 4 [(0, .ref (ad 43)), (1, .int p0), (3, .int x2)] → W p l e rm8_plainOf s m [.ref (ad 43), .int p0].toArray below meth c H locs 0 0 (MQ below (QI D κ A ad (celM κ ad r0 z) res) [.ref (ad 43), .int p0].toArray s 0 0 A) (F0 m 32 ls [.int x9, .int x1]) := by
      intro x9 H locs ls h G hl
      rw [ek7] at h
      try dsimp only at h
      refine lv_iadd (pc := 32) X.1 X.2.1 dX8_plainOf_32 ?_
      refine lv_topi (fun x10 ex10 => ?_)
      have h := bd_at h ex10
      refine lv_istore_n (pc := 33) (lv' := [(2, .int x10), (0, .ref (ad 43)), (1, .int p0), (3, .int x2)]) X.1 X.2.1 dX8_plainOf_33 rfl hl (by decide) rfl (fun ls hl => ?_)
      obtain ⟨x11, ex11, h⟩ := bd_some h
      refine lv_iinc (pc := 34) (v := x11) (lv' := [(3, .int x11), (2, .int x10), (0, .ref (ad 43)), (1, .int p0)]) X.1 X.2.1 dX8_plainOf_34 hl (k := 3) rfl (by rw [ex11]; rfl) (by decide) rfl (fun ls hl => ?_)
      refine lv_goto (pc := 37) (tgt := 4) X.1 X.2.1 dX8_plainOf_37 (by decide) ?_
      have h := Option.some.inj h
      exact ih1 _ h.symm _ _ ls G (lv_sub hl [2, 3, 1, 0] rfl)
    refine lv_if_eq (pc := 24) (tgt := 31) X.1 X.2.1 dX8_plainOf_24 (by decide) (fun hc8 => ?_) (fun hc8 => ?_)
    · have h := it_pos h hc8
      refine lv_iconst (pc := 31) (v := 0) X.1 X.2.1 dX8_plainOf_31 (by decide) ?_
      exact hk7 0 _ _ ls h G (lv_sub hl [0, 1, 3] rfl)
    · have h := it_neg h hc8
      refine lv_iconst (pc := 27) (v := 1) X.1 X.2.1 dX8_plainOf_27 (by decide) ?_
      refine lv_goto (pc := 28) (tgt := 32) X.1 X.2.1 dX8_plainOf_28 (by decide) ?_
      exact hk7 1 _ _ ls h G (lv_sub hl [0, 1, 3] rfl)

abbrev rm8_mostOf : Room := { frames := 2, cells := 0, slots := 0, locals := 42 }
noncomputable def F8_mostOf (z : MS) (p0 p1 : Int32) : Option (MS × Int32) :=
  Loop (fun (q : Int32 × Int32 × Int32 × Int32 × MS) => (fun (x1 : Int32) (x2 : Int32) (x3 : Int32) (x4 : Int32) (z5 : MS) =>
  rd (z5 0) 2153 p0 fun x6 =>
  if x6 ≤ x4 then
  jp (fun (x10 : Int32) => some (.inr (z5, x10))) fun k8 =>
  if p1 = 0 then
  k8 x2
  else
  k8 x1
  else
  bn (F8_signOf z5 p0 x4) fun x11 =>
  bn (F8_isCall x11) fun x12 =>
  jp (fun (x18 : Int32) => jp (fun (x23 : Int32) (z24 : MS) => jp (fun (z29 : MS) => jp (fun (x38 : Int32) (x39 : Int32) => bd (x4 + 1) fun x40 =>
  some (.inl (x38, x18, x39, x40, z29))) fun k30 =>
  if ¬ x11 = 41 then
  k30 x1 x23
  else
  bd (x23 + (-1)) fun x32 =>
  rd (z29 8) 60 x32 fun x33 =>
  jp (fun (x37 : Int32) => k30 x37 x32) fun k34 =>
  if x33 ≤ x1 then
  k34 x1
  else
  rd (z29 8) 60 x32 fun x36 =>
  k34 x36) fun k25 =>
  if ¬ x11 = 44 then
  k25 z24
  else
  rd (z24 8) 60 (x23 - 1) fun x27 =>
  wr z24 8 60 (x23 - 1) (x27 + 1) fun z28 =>
  k25 z28) fun k19 =>
  if ¬ x11 = 40 then
  k19 x3 z5
  else
  wr z5 8 60 x3 1 fun z21 =>
  bd (x3 + 1) fun x22 =>
  k19 x22 z21) fun k13 =>
  if x12 = 0 then
  k13 x2
  else
  jp (fun (x17 : Int32) => k13 x17) fun k15 =>
  if (x3 + 1) ≤ x2 then
  k15 x2
  else
  k15 (x3 + 1)) q.1 q.2.1 q.2.2.1 q.2.2.2.1 q.2.2.2.2) (0, 0, 0, 0, z)
set_option maxHeartbeats 4000000 in
set_option maxRecDepth 100000 in
theorem c8_mostOf (l : Launch) (D : va_G) (κ : Nat → ClassId) (A : Nat → Prop) (ad : Nat → Nat) (r0 : Nat → Option va_E) (z : MS) (p0 p1 : Int32) (res : MS × Int32) (h : F8_mostOf z p0 p1 = some res) : Met l yX8_mostOf (gw yX8_mostOf cX8_mostOf 8 (some (FieldType.int))) rm8_mostOf (va_Pc [.ref (ad 43), .int p0, .int p1] (MW D κ A ad (celM κ ad r0 z))) (QI D κ A ad (celM κ ad r0 res.1) res.2) 0 0 A := by
  refine met_of (own := RX8) (by decide +kernel) rfl (Nat.le_of_ble_eq_true rfl) ?_
  intro p e s m below meth c ls X hr hlk G hl
  have hl : lv_has ls 8 [(0, .ref (ad 43)), (1, .int p0), (2, .int p1)] := hl
  unfold F8_mostOf at h
  refine lv_iconst (pc := 0) (v := 0) X.1 X.2.1 dX8_mostOf_0 (by decide) ?_
  refine lv_istore_n (pc := 1) (lv' := [(3, .int 0), (0, .ref (ad 43)), (1, .int p0), (2, .int p1)]) X.1 X.2.1 dX8_mostOf_1 rfl hl (by decide) rfl (fun ls hl => ?_)
  refine lv_iconst (pc := 2) (v := 0) X.1 X.2.1 dX8_mostOf_2 (by decide) ?_
  refine lv_istore (pc := 3) (lv' := [(4, .int 0), (3, .int 0), (0, .ref (ad 43)), (1, .int p0), (2, .int p1)]) X.1 X.2.1 dX8_mostOf_3 hl (by decide) rfl (fun ls hl => ?_)
  refine lv_iconst (pc := 5) (v := 0) X.1 X.2.1 dX8_mostOf_5 (by decide) ?_
  refine lv_istore (pc := 6) (lv' := [(5, .int 0), (4, .int 0), (3, .int 0), (0, .ref (ad 43)), (1, .int p0), (2, .int p1)]) X.1 X.2.1 dX8_mostOf_6 hl (by decide) rfl (fun ls hl => ?_)
  refine lv_iconst (pc := 8) (v := 0) X.1 X.2.1 dX8_mostOf_8 (by decide) ?_
  refine lv_istore (pc := 9) (lv' := [(6, .int 0), (5, .int 0), (4, .int 0), (3, .int 0), (0, .ref (ad 43)), (1, .int p0), (2, .int p1)]) X.1 X.2.1 dX8_mostOf_9 hl (by decide) rfl (fun ls hl => ?_)
  refine Loop_ind (P := fun (q : Int32 × Int32 × Int32 × Int32 × MS) => ∀ (H : Heap) (locs : List Loc) (ls : Array Slot), Mm D κ A ad (celM κ ad r0 q.2.2.2.2) s H locs → lv_has ls 8 [(0, .ref (ad 43)), (1, .int p0), (2, .int p1), (3, .int q.1), (4, .int q.2.1), (5, .int q.2.2.1), (6, .int q.2.2.2.1)] → W p l e rm8_mostOf s m [.ref (ad 43), .int p0, .int p1].toArray below meth c H locs 0 0 (MQ below (QI D κ A ad (celM κ ad r0 res.1) res.2) [.ref (ad 43), .int p0, .int p1].toArray s 0 0 A) (F0 m 11 ls [])) ?_ h _ _ ls G (lv_sub hl [4, 5, 6, 3, 2, 1, 0] rfl)
  intro q y1 h ih1 hz1 H locs ls G hl
  obtain ⟨x1, x2, x3, x4, z5⟩ := q
  try dsimp only at h ih1 G hl ⊢
  refine lv_iload (pc := 11) X.1 X.2.1 dX8_mostOf_11 (lv_at hl 6 rfl) ?_
  refine lv_aload_n (pc := 13) X.1 X.2.1 dX8_mostOf_13 rfl (lv_at hl 0 rfl) ?_
  refine M_getr (pc := 14) X G 0 (by decide) (by decide +kernel) fl_X8_7 dX8_mostOf_14 ?_
  refine lv_iload_n (pc := 17) X.1 X.2.1 dX8_mostOf_17 rfl (lv_at hl 1 rfl) ?_
  obtain ⟨hix6, h⟩ := rd_some h
  refine M_iald (pc := 18) X G (i := 0) (n := 2153) (by decide +kernel) (by decide) rfl hix6 dX8_mostOf_18 ?_
  refine lv_topi (fun x6 ex6 => ?_)
  rw [← ex6] at h
  refine lv_icmp_ge (pc := 19) (tgt := 136) X.1 X.2.1 dX8_mostOf_19 (by decide) (fun hc7 => ?_) (fun hc7 => ?_)
  · have h := it_pos h hc7
    refine lv_iload_n (pc := 136) X.1 X.2.1 dX8_mostOf_136 rfl (lv_at hl 2 rfl) ?_
    obtain ⟨k8, ek8, h⟩ := jp_some h
    have hk8 : ∀ (x10 : Int32) (H : Heap) (locs : List Loc) (ls : Array Slot), k8 x10 = some y1 → Mm D κ A ad (celM κ ad r0 z5) s H locs → lv_has ls 8 [] → W p l e rm8_mostOf s m [.ref (ad 43), .int p0, .int p1].toArray below meth c H locs 0 0 (MQ below (QI D κ A ad (celM κ ad r0 res.1) res.2) [.ref (ad 43), .int p0, .int p1].toArray s 0 0 A) (F0 m 146 ls [.int x10]) := by
      intro x10 H locs ls h G hl
      rw [ek8] at h
      try dsimp only at h
      have h := Option.some.inj h
      have h := hz1 _ h.symm
      exact m_iret (pc := 146) X G hr hlk dX8_mostOf_146 (congrArg Prod.snd h) (congrArg (fun q : MS × Int32 => celM κ ad r0 q.1) h)
    refine lv_if_eq (pc := 137) (tgt := 144) X.1 X.2.1 dX8_mostOf_137 (by decide) (fun hc9 => ?_) (fun hc9 => ?_)
    · have h := it_pos h hc9
      refine lv_iload (pc := 144) X.1 X.2.1 dX8_mostOf_144 (lv_at hl 4 rfl) ?_
      exact hk8 x2 _ _ ls h G (lv_sub hl [] rfl)
    · have h := it_neg h hc9
      refine lv_iload_n (pc := 140) X.1 X.2.1 dX8_mostOf_140 rfl (lv_at hl 3 rfl) ?_
      refine lv_goto (pc := 141) (tgt := 146) X.1 X.2.1 dX8_mostOf_141 (by decide) ?_
      exact hk8 x1 _ _ ls h G (lv_sub hl [] rfl)
  · have h := it_neg h hc7
    refine lv_aload_n (pc := 22) X.1 X.2.1 dX8_mostOf_22 rfl (lv_at hl 0 rfl) ?_
    refine lv_iload_n (pc := 23) X.1 X.2.1 dX8_mostOf_23 rfl (lv_at hl 1 rfl) ?_
    refine lv_iload (pc := 24) X.1 X.2.1 dX8_mostOf_24 (lv_at hl 6 rfl) ?_
    obtain ⟨x11, ex11, h⟩ := bn_some h
    refine M_calli (pc := 26) (z1 := z5) (v := x11) (As := [.int p0, .int x4]) (rest := []) X G (rm := rm8_signOf) rfl rfl (c8_signOf l D κ A ad r0 z5 p0 x4 x11 ex11) g_X8_135 hd_yX8_signOf ⟨Nat.le_of_ble_eq_true rfl, Nat.le_of_ble_eq_true rfl⟩ rfl hl rfl (lv_room (Nat.le_of_ble_eq_true rfl)) dX8_mostOf_26 ⟨Nat.le_of_ble_eq_true rfl, Nat.le_of_ble_eq_true rfl⟩ (fun H locs G => ?_)
    refine lv_istore (pc := 29) (lv' := [(7, .int x11), (0, .ref (ad 43)), (1, .int p0), (2, .int p1), (3, .int x1), (4, .int x2), (5, .int x3), (6, .int x4)]) X.1 X.2.1 dX8_mostOf_29 hl (by decide) rfl (fun ls hl => ?_)
    refine lv_iload (pc := 31) X.1 X.2.1 dX8_mostOf_31 (lv_at hl 0 rfl) ?_
    obtain ⟨x12, ex12, h⟩ := bn_some h
    refine m_callsi0 (pc := 33) (v := x12) (As := [.int x11]) (rest := []) X G (rm := rm8_isCall) rfl rfl (c8_isCall l D κ A ad (celM κ ad r0 z5) x11 x12 ex12) g_X8_125 hs_yX8_isCall ⟨Nat.le_of_ble_eq_true rfl, Nat.le_of_ble_eq_true rfl⟩ rfl hl rfl (lv_room (Nat.le_of_ble_eq_true rfl)) dX8_mostOf_33 ⟨Nat.le_of_ble_eq_true rfl, Nat.le_of_ble_eq_true rfl⟩ (fun H locs G => ?_)
    obtain ⟨k13, ek13, h⟩ := jp_some h
    have hk13 : ∀ (x18 : Int32) (H : Heap) (locs : List Loc) (ls : Array Slot), k13 x18 = some y1 → Mm D κ A ad (celM κ ad r0 z5) s H locs → lv_has ls 8 [(0, .ref (ad 43)), (1, .int p0), (2, .int p1), (3, .int x1), (4, .int x18), (5, .int x3), (6, .int x4), (7, .int x11)] → W p l e rm8_mostOf s m [.ref (ad 43), .int p0, .int p1].toArray below meth c H locs 0 0 (MQ below (QI D κ A ad (celM κ ad r0 res.1) res.2) [.ref (ad 43), .int p0, .int p1].toArray s 0 0 A) (F0 m 59 ls []) := by
      intro x18 H locs ls h G hl
      rw [ek13] at h
      try dsimp only at h
      refine lv_iload (pc := 59) X.1 X.2.1 dX8_mostOf_59 (lv_at hl 7 rfl) ?_
      refine lv_bipush (pc := 61) (v := 40) X.1 X.2.1 dX8_mostOf_61 (by decide) ?_
      obtain ⟨k19, ek19, h⟩ := jp_some h
      have hk19 : ∀ (x23 : Int32) (z24 : MS) (H : Heap) (locs : List Loc) (ls : Array Slot), k19 x23 z24 = some y1 → Mm D κ A ad (celM κ ad r0 z24) s H locs → lv_has ls 8 [(0, .ref (ad 43)), (1, .int p0), (2, .int p1), (3, .int x1), (4, .int x18), (5, .int x23), (6, .int x4), (7, .int x11)] → W p l e rm8_mostOf s m [.ref (ad 43), .int p0, .int p1].toArray below meth c H locs 0 0 (MQ below (QI D κ A ad (celM κ ad r0 res.1) res.2) [.ref (ad 43), .int p0, .int p1].toArray s 0 0 A) (F0 m 77 ls []) := by
        intro x23 z24 H locs ls h G hl
        rw [ek19] at h
        try dsimp only at h
        refine lv_iload (pc := 77) X.1 X.2.1 dX8_mostOf_77 (lv_at hl 7 rfl) ?_
        refine lv_bipush (pc := 79) (v := 44) X.1 X.2.1 dX8_mostOf_79 (by decide) ?_
        obtain ⟨k25, ek25, h⟩ := jp_some h
        have hk25 : ∀ (z29 : MS) (H : Heap) (locs : List Loc) (ls : Array Slot), k25 z29 = some y1 → Mm D κ A ad (celM κ ad r0 z29) s H locs → lv_has ls 8 [(0, .ref (ad 43)), (1, .int p0), (2, .int p1), (3, .int x1), (4, .int x18), (5, .int x23), (6, .int x4), (7, .int x11)] → W p l e rm8_mostOf s m [.ref (ad 43), .int p0, .int p1].toArray below meth c H locs 0 0 (MQ below (QI D κ A ad (celM κ ad r0 res.1) res.2) [.ref (ad 43), .int p0, .int p1].toArray s 0 0 A) (F0 m 97 ls []) := by
          intro z29 H locs ls h G hl
          rw [ek25] at h
          try dsimp only at h
          refine lv_iload (pc := 97) X.1 X.2.1 dX8_mostOf_97 (lv_at hl 7 rfl) ?_
          refine lv_bipush (pc := 99) (v := 41) X.1 X.2.1 dX8_mostOf_99 (by decide) ?_
          obtain ⟨k30, ek30, h⟩ := jp_some h
          have hk30 : ∀ (x38 : Int32) (x39 : Int32) (H : Heap) (locs : List Loc) (ls : Array Slot), k30 x38 x39 = some y1 → Mm D κ A ad (celM κ ad r0 z29) s H locs → lv_has ls 8 [(0, .ref (ad 43)), (1, .int p0), (2, .int p1), (3, .int x38), (4, .int x18), (5, .int x39), (6, .int x4)] → W p l e rm8_mostOf s m [.ref (ad 43), .int p0, .int p1].toArray below meth c H locs 0 0 (MQ below (QI D κ A ad (celM κ ad r0 res.1) res.2) [.ref (ad 43), .int p0, .int p1].toArray s 0 0 A) (F0 m 130 ls []) := by
            intro x38 x39 H locs ls h G hl
            rw [ek30] at h
            try dsimp only at h
            obtain ⟨x40, ex40, h⟩ := bd_some h
            refine lv_iinc (pc := 130) (v := x40) (lv' := [(6, .int x40), (0, .ref (ad 43)), (1, .int p0), (2, .int p1), (3, .int x38), (4, .int x18), (5, .int x39)]) X.1 X.2.1 dX8_mostOf_130 hl (k := 6) rfl (by rw [ex40]; rfl) (by decide) rfl (fun ls hl => ?_)
            refine lv_goto (pc := 133) (tgt := 11) X.1 X.2.1 dX8_mostOf_133 (by decide) ?_
            have h := Option.some.inj h
            exact ih1 _ h.symm _ _ ls G (lv_sub hl [1, 2, 3, 4, 5, 6, 0] rfl)
          refine lv_icmp_ne (pc := 101) (tgt := 130) X.1 X.2.1 dX8_mostOf_101 (by decide) (fun hc31 => ?_) (fun hc31 => ?_)
          · have h := it_pos h hc31
            exact hk30 x1 x23 _ _ ls h G (lv_sub hl [0, 1, 2, 3, 4, 5, 6] rfl)
          · have h := it_neg h (fun q => q hc31)
            obtain ⟨x32, ex32, h⟩ := bd_some h
            refine lv_iinc (pc := 104) (v := x32) (lv' := [(5, .int x32), (0, .ref (ad 43)), (1, .int p0), (2, .int p1), (3, .int x1), (4, .int x18), (6, .int x4), (7, .int x11)]) X.1 X.2.1 dX8_mostOf_104 hl (k := 5) rfl (by rw [ex32]; rfl) (by decide) rfl (fun ls hl => ?_)
            refine lv_aload_n (pc := 107) X.1 X.2.1 dX8_mostOf_107 rfl (lv_at hl 1 rfl) ?_
            refine M_getr (pc := 108) X G 8 (by decide) (by decide +kernel) fl_X8_26 dX8_mostOf_108 ?_
            refine lv_iload (pc := 111) X.1 X.2.1 dX8_mostOf_111 (lv_at hl 0 rfl) ?_
            obtain ⟨hix33, h⟩ := rd_some h
            refine M_iald (pc := 113) X G (i := 8) (n := 60) (by decide +kernel) (by decide) rfl hix33 dX8_mostOf_113 ?_
            refine lv_topi (fun x33 ex33 => ?_)
            rw [← ex33] at h
            refine lv_iload_n (pc := 114) X.1 X.2.1 dX8_mostOf_114 rfl (lv_at hl 4 rfl) ?_
            obtain ⟨k34, ek34, h⟩ := jp_some h
            have hk34 : ∀ (x37 : Int32) (H : Heap) (locs : List Loc) (ls : Array Slot), k34 x37 = some y1 → Mm D κ A ad (celM κ ad r0 z29) s H locs → lv_has ls 8 [(0, .ref (ad 43)), (1, .int p0), (2, .int p1), (4, .int x18), (5, .int x32), (6, .int x4)] → W p l e rm8_mostOf s m [.ref (ad 43), .int p0, .int p1].toArray below meth c H locs 0 0 (MQ below (QI D κ A ad (celM κ ad r0 res.1) res.2) [.ref (ad 43), .int p0, .int p1].toArray s 0 0 A) (F0 m 129 ls [.int x37]) := by
              intro x37 H locs ls h G hl
              rw [ek34] at h
              try dsimp only at h
              refine lv_istore_n (pc := 129) (lv' := [(3, .int x37), (0, .ref (ad 43)), (1, .int p0), (2, .int p1), (4, .int x18), (5, .int x32), (6, .int x4)]) X.1 X.2.1 dX8_mostOf_129 rfl hl (by decide) rfl (fun ls hl => ?_)
              exact hk30 x37 x32 _ _ ls h G (lv_sub hl [1, 2, 3, 0, 4, 5, 6] rfl)
            refine lv_icmp_le (pc := 115) (tgt := 128) X.1 X.2.1 dX8_mostOf_115 (by decide) (fun hc35 => ?_) (fun hc35 => ?_)
            · have h := it_pos h hc35
              refine lv_iload_n (pc := 128) X.1 X.2.1 dX8_mostOf_128 rfl (lv_at hl 4 rfl) ?_
              exact hk34 x1 _ _ ls h G (lv_sub hl [1, 2, 3, 5, 0, 6] rfl)
            · have h := it_neg h hc35
              refine lv_aload_n (pc := 118) X.1 X.2.1 dX8_mostOf_118 rfl (lv_at hl 1 rfl) ?_
              refine M_getr (pc := 119) X G 8 (by decide) (by decide +kernel) fl_X8_26 dX8_mostOf_119 ?_
              refine lv_iload (pc := 122) X.1 X.2.1 dX8_mostOf_122 (lv_at hl 0 rfl) ?_
              obtain ⟨hix36, h⟩ := rd_some h
              refine M_iald (pc := 124) X G (i := 8) (n := 60) (by decide +kernel) (by decide) rfl hix36 dX8_mostOf_124 ?_
              refine lv_topi (fun x36 ex36 => ?_)
              rw [← ex36] at h
              refine lv_goto (pc := 125) (tgt := 129) X.1 X.2.1 dX8_mostOf_125 (by decide) ?_
              exact hk34 x36 _ _ ls h G (lv_sub hl [1, 2, 3, 5, 0, 6] rfl)
        refine lv_icmp_ne (pc := 81) (tgt := 97) X.1 X.2.1 dX8_mostOf_81 (by decide) (fun hc26 => ?_) (fun hc26 => ?_)
        · have h := it_pos h hc26
          exact hk25 z24 _ _ ls h G (lv_sub hl [0, 1, 2, 3, 4, 5, 6, 7] rfl)
        · have h := it_neg h (fun q => q hc26)
          refine lv_aload_n (pc := 84) X.1 X.2.1 dX8_mostOf_84 rfl (lv_at hl 0 rfl) ?_
          refine M_getr (pc := 85) X G 8 (by decide) (by decide +kernel) fl_X8_26 dX8_mostOf_85 ?_
          refine lv_iload (pc := 88) X.1 X.2.1 dX8_mostOf_88 (lv_at hl 5 rfl) ?_
          refine lv_iconst (pc := 90) (v := 1) X.1 X.2.1 dX8_mostOf_90 (by decide) ?_
          refine lv_isub (pc := 91) X.1 X.2.1 dX8_mostOf_91 ?_
          refine lv_dup2_11 (pc := 92) X.1 X.2.1 dX8_mostOf_92 rfl rfl ?_
          obtain ⟨hix27, h⟩ := rd_some h
          refine M_iald (pc := 93) X G (i := 8) (n := 60) (by decide +kernel) (by decide) rfl hix27 dX8_mostOf_93 ?_
          refine lv_topi (fun x27 ex27 => ?_)
          rw [← ex27] at h
          refine lv_iconst (pc := 94) (v := 1) X.1 X.2.1 dX8_mostOf_94 (by decide) ?_
          refine lv_iadd (pc := 95) X.1 X.2.1 dX8_mostOf_95 ?_
          obtain ⟨hiz28, z28, ez28, h⟩ := wr_some h
          refine M_iast (pc := 96) X G (i := 8) (n := 60) ez28 (by decide +kernel) (by decide) rfl hiz28 dX8_mostOf_96 (fun H locs G => ?_)
          exact hk25 z28 _ _ ls h G (lv_sub hl [0, 1, 2, 3, 4, 5, 6, 7] rfl)
      refine lv_icmp_ne (pc := 63) (tgt := 77) X.1 X.2.1 dX8_mostOf_63 (by decide) (fun hc20 => ?_) (fun hc20 => ?_)
      · have h := it_pos h hc20
        exact hk19 x3 z5 _ _ ls h G (lv_sub hl [0, 1, 2, 3, 4, 5, 6, 7] rfl)
      · have h := it_neg h (fun q => q hc20)
        refine lv_aload_n (pc := 66) X.1 X.2.1 dX8_mostOf_66 rfl (lv_at hl 0 rfl) ?_
        refine M_getr (pc := 67) X G 8 (by decide) (by decide +kernel) fl_X8_26 dX8_mostOf_67 ?_
        refine lv_iload (pc := 70) X.1 X.2.1 dX8_mostOf_70 (lv_at hl 5 rfl) ?_
        refine lv_iconst (pc := 72) (v := 1) X.1 X.2.1 dX8_mostOf_72 (by decide) ?_
        obtain ⟨hiz21, z21, ez21, h⟩ := wr_some h
        refine M_iast (pc := 73) X G (i := 8) (n := 60) ez21 (by decide +kernel) (by decide) rfl hiz21 dX8_mostOf_73 (fun H locs G => ?_)
        obtain ⟨x22, ex22, h⟩ := bd_some h
        refine lv_iinc (pc := 74) (v := x22) (lv' := [(5, .int x22), (0, .ref (ad 43)), (1, .int p0), (2, .int p1), (3, .int x1), (4, .int x18), (6, .int x4), (7, .int x11)]) X.1 X.2.1 dX8_mostOf_74 hl (k := 5) rfl (by rw [ex22]; rfl) (by decide) rfl (fun ls hl => ?_)
        exact hk19 x22 z21 _ _ ls h G (lv_sub hl [1, 2, 3, 4, 5, 0, 6, 7] rfl)
    refine lv_if_eq (pc := 36) (tgt := 59) X.1 X.2.1 dX8_mostOf_36 (by decide) (fun hc14 => ?_) (fun hc14 => ?_)
    · have h := it_pos h hc14
      exact hk13 x2 _ _ ls h G (lv_sub hl [1, 2, 3, 4, 5, 6, 7, 0] rfl)
    · have h := it_neg h hc14
      refine lv_iload (pc := 39) X.1 X.2.1 dX8_mostOf_39 (lv_at hl 6 rfl) ?_
      refine lv_iconst (pc := 41) (v := 1) X.1 X.2.1 dX8_mostOf_41 (by decide) ?_
      refine lv_iadd (pc := 42) X.1 X.2.1 dX8_mostOf_42 ?_
      refine lv_iload (pc := 43) X.1 X.2.1 dX8_mostOf_43 (lv_at hl 5 rfl) ?_
      obtain ⟨k15, ek15, h⟩ := jp_some h
      have hk15 : ∀ (x17 : Int32) (H : Heap) (locs : List Loc) (ls : Array Slot), k15 x17 = some y1 → Mm D κ A ad (celM κ ad r0 z5) s H locs → lv_has ls 8 [(0, .ref (ad 43)), (1, .int p0), (2, .int p1), (3, .int x1), (5, .int x3), (6, .int x4), (7, .int x11)] → W p l e rm8_mostOf s m [.ref (ad 43), .int p0, .int p1].toArray below meth c H locs 0 0 (MQ below (QI D κ A ad (celM κ ad r0 res.1) res.2) [.ref (ad 43), .int p0, .int p1].toArray s 0 0 A) (F0 m 57 ls [.int x17]) := by
        intro x17 H locs ls h G hl
        rw [ek15] at h
        try dsimp only at h
        refine lv_istore (pc := 57) (lv' := [(4, .int x17), (0, .ref (ad 43)), (1, .int p0), (2, .int p1), (3, .int x1), (5, .int x3), (6, .int x4), (7, .int x11)]) X.1 X.2.1 dX8_mostOf_57 hl (by decide) rfl (fun ls hl => ?_)
        exact hk13 x17 _ _ ls h G (lv_sub hl [1, 2, 3, 4, 0, 5, 6, 7] rfl)
      refine lv_icmp_le (pc := 45) (tgt := 55) X.1 X.2.1 dX8_mostOf_45 (by decide) (fun hc16 => ?_) (fun hc16 => ?_)
      · have h := it_pos h hc16
        refine lv_iload (pc := 55) X.1 X.2.1 dX8_mostOf_55 (lv_at hl 5 rfl) ?_
        exact hk15 x2 _ _ ls h G (lv_sub hl [1, 2, 3, 4, 6, 7, 0] rfl)
      · have h := it_neg h hc16
        refine lv_iload (pc := 48) X.1 X.2.1 dX8_mostOf_48 (lv_at hl 6 rfl) ?_
        refine lv_iconst (pc := 50) (v := 1) X.1 X.2.1 dX8_mostOf_50 (by decide) ?_
        refine lv_iadd (pc := 51) X.1 X.2.1 dX8_mostOf_51 ?_
        refine lv_goto (pc := 52) (tgt := 57) X.1 X.2.1 dX8_mostOf_52 (by decide) ?_
        exact hk15 (x3 + 1) _ _ ls h G (lv_sub hl [1, 2, 3, 4, 6, 7, 0] rfl)

abbrev rm8_body : Room := { frames := 3, cells := 0, slots := 0, locals := 69 }
noncomputable def F8_body (z : MS) (p0 p1 : Int32) : Option (MS × Int32) :=
  bn (F8_isLetter p0) fun x1 =>
  jp (fun (x6 : Int32) => bn2 (F8_refused z x6) fun z8 x7 =>
  if x7 = 0 then
  bn (F8_isDefined z8 p0) fun x10 =>
  if ¬ x10 = 0 then
  if p1 = 0 then
  rd (z8 0) 2153 p0 fun x12 =>
  some (z8, x12)
  else if p1 = 1 then
  rd (z8 0) 2153 p0 fun x13 =>
  bn (F8_holesOf z8 p0 x13) fun x14 =>
  some (z8, x14)
  else if p1 = 2 then
  bn (F8_callsOf z8 p0) fun x15 =>
  some (z8, x15)
  else if p1 = 3 then
  bn2 (F8_mostOf z8 p0 1) fun z17 x16 =>
  some (z17, x16)
  else if p1 = 4 then
  bn2 (F8_mostOf z8 p0 0) fun z19 x18 =>
  some (z19, x18)
  else bn (F8_plainOf z8 p0) fun x20 =>
  some (z8, x20)
  else
  some (z8, (-1))
  else
  some (z8, 0)) fun k2 =>
  if ¬ x1 = 0 then
  bn (F8_in p1 0 5) fun x4 =>
  if x4 = 0 then
  k2 2
  else
  k2 0
  else
  k2 1
set_option maxHeartbeats 4000000 in
set_option maxRecDepth 100000 in
theorem c8_body (l : Launch) (D : va_G) (κ : Nat → ClassId) (A : Nat → Prop) (ad : Nat → Nat) (r0 : Nat → Option va_E) (z : MS) (p0 p1 : Int32) (res : MS × Int32) (h : F8_body z p0 p1 = some res) : Met l yX8_body (gw yX8_body cX8_body 3 (some (FieldType.int))) rm8_body (va_Pc [.ref (ad 43), .int p0, .int p1] (MW D κ A ad (celM κ ad r0 z))) (QI D κ A ad (celM κ ad r0 res.1) res.2) 0 0 A := by
  refine met_of (own := RX8) (by decide +kernel) rfl (Nat.le_of_ble_eq_true rfl) ?_
  intro p e s m below meth c ls X hr hlk G hl
  have hl : lv_has ls 3 [(0, .ref (ad 43)), (1, .int p0), (2, .int p1)] := hl
  unfold F8_body at h
  refine lv_aload_n (pc := 0) X.1 X.2.1 dX8_body_0 rfl (lv_at hl 0 rfl) ?_
  refine lv_iload_n (pc := 1) X.1 X.2.1 dX8_body_1 rfl (lv_at hl 1 rfl) ?_
  obtain ⟨x1, ex1, h⟩ := bn_some h
  refine m_callsi0 (pc := 2) (v := x1) (As := [.int p0]) (rest := [.ref (ad 43)]) X G (rm := rm8_isLetter) rfl rfl (c8_isLetter l D κ A ad (celM κ ad r0 z) p0 x1 ex1) g_X8_132 hs_yX8_isLetter ⟨Nat.le_of_ble_eq_true rfl, Nat.le_of_ble_eq_true rfl⟩ rfl hl rfl (lv_room (Nat.le_of_ble_eq_true rfl)) dX8_body_2 ⟨Nat.le_of_ble_eq_true rfl, Nat.le_of_ble_eq_true rfl⟩ (fun H locs G => ?_)
  obtain ⟨k2, ek2, h⟩ := jp_some h
  have hk2 : ∀ (x6 : Int32) (H : Heap) (locs : List Loc) (ls : Array Slot), k2 x6 = some res → Mm D κ A ad (celM κ ad r0 z) s H locs → lv_has ls 3 [(0, .ref (ad 43)), (1, .int p0), (2, .int p1)] → W p l e rm8_body s m [.ref (ad 43), .int p0, .int p1].toArray below meth c H locs 0 0 (MQ below (QI D κ A ad (celM κ ad r0 res.1) res.2) [.ref (ad 43), .int p0, .int p1].toArray s 0 0 A) (F0 m 26 ls [.int x6, .ref (ad 43)]) := by
    intro x6 H locs ls h G hl
    rw [ek2] at h
    try dsimp only at h
    obtain ⟨z8, x7, ex7, h⟩ := bn2_some h
    refine M_calli (pc := 26) (z1 := z8) (v := x7) (As := [.int x6]) (rest := []) X G (rm := rm8_refused) rfl rfl (c8_refused l D κ A ad r0 z x6 (z8, x7) ex7) g_X8_116 hd_yX8_refused ⟨Nat.le_of_ble_eq_true rfl, Nat.le_of_ble_eq_true rfl⟩ rfl hl rfl (lv_room (Nat.le_of_ble_eq_true rfl)) dX8_body_26 ⟨Nat.le_of_ble_eq_true rfl, Nat.le_of_ble_eq_true rfl⟩ (fun H locs G => ?_)
    refine lv_if_eq (pc := 29) (tgt := 34) X.1 X.2.1 dX8_body_29 (by decide) (fun hc9 => ?_) (fun hc9 => ?_)
    · have h := it_pos h hc9
      refine lv_aload_n (pc := 34) X.1 X.2.1 dX8_body_34 rfl (lv_at hl 0 rfl) ?_
      refine lv_iload_n (pc := 35) X.1 X.2.1 dX8_body_35 rfl (lv_at hl 1 rfl) ?_
      obtain ⟨x10, ex10, h⟩ := bn_some h
      refine M_calli (pc := 36) (z1 := z8) (v := x10) (As := [.int p0]) (rest := []) X G (rm := rm8_isDefined) rfl rfl (c8_isDefined l D κ A ad r0 z8 p0 x10 ex10) g_X8_112 hd_yX8_isDefined ⟨Nat.le_of_ble_eq_true rfl, Nat.le_of_ble_eq_true rfl⟩ rfl hl rfl (lv_room (Nat.le_of_ble_eq_true rfl)) dX8_body_36 ⟨Nat.le_of_ble_eq_true rfl, Nat.le_of_ble_eq_true rfl⟩ (fun H locs G => ?_)
      refine lv_if_ne (pc := 39) (tgt := 44) X.1 X.2.1 dX8_body_39 (by decide) (fun hc11 => ?_) (fun hc11 => ?_)
      · have h := it_pos h hc11
        refine lv_iload_n (pc := 44) X.1 X.2.1 dX8_body_44 rfl (lv_at hl 2 rfl) ?_
        by_cases hc21_0 : p1 = 0
        · have h := it_pos h hc21_0
          refine lv_tableIn (pc := 45) (tgt := 80) (off := 35) X.1 X.2.1 dX8_body_45 (by rw [hc21_0]; decide) (by rw [hc21_0]; decide) (by rw [hc21_0]; decide +kernel) (by decide) ?_
          refine lv_aload_n (pc := 80) X.1 X.2.1 dX8_body_80 rfl (lv_at hl 0 rfl) ?_
          refine M_getr (pc := 81) X G 0 (by decide) (by decide +kernel) fl_X8_7 dX8_body_81 ?_
          refine lv_iload_n (pc := 84) X.1 X.2.1 dX8_body_84 rfl (lv_at hl 1 rfl) ?_
          obtain ⟨hix12, h⟩ := rd_some h
          refine M_iald (pc := 85) X G (i := 0) (n := 2153) (by decide +kernel) (by decide) rfl hix12 dX8_body_85 ?_
          refine lv_topi (fun x12 ex12 => ?_)
          rw [← ex12] at h
          have h := Option.some.inj h
          exact m_iret (pc := 86) X G hr hlk dX8_body_86 (congrArg Prod.snd h) (congrArg (fun q : MS × Int32 => celM κ ad r0 q.1) h)
        · have h := it_neg h hc21_0
          by_cases hc21_1 : p1 = 1
          · have h := it_pos h hc21_1
            refine lv_tableIn (pc := 45) (tgt := 87) (off := 42) X.1 X.2.1 dX8_body_45 (by rw [hc21_1]; decide) (by rw [hc21_1]; decide) (by rw [hc21_1]; decide +kernel) (by decide) ?_
            refine lv_aload_n (pc := 87) X.1 X.2.1 dX8_body_87 rfl (lv_at hl 0 rfl) ?_
            refine lv_iload_n (pc := 88) X.1 X.2.1 dX8_body_88 rfl (lv_at hl 1 rfl) ?_
            refine lv_aload_n (pc := 89) X.1 X.2.1 dX8_body_89 rfl (lv_at hl 0 rfl) ?_
            refine M_getr (pc := 90) X G 0 (by decide) (by decide +kernel) fl_X8_7 dX8_body_90 ?_
            refine lv_iload_n (pc := 93) X.1 X.2.1 dX8_body_93 rfl (lv_at hl 1 rfl) ?_
            obtain ⟨hix13, h⟩ := rd_some h
            refine M_iald (pc := 94) X G (i := 0) (n := 2153) (by decide +kernel) (by decide) rfl hix13 dX8_body_94 ?_
            refine lv_topi (fun x13 ex13 => ?_)
            rw [← ex13] at h
            obtain ⟨x14, ex14, h⟩ := bn_some h
            refine M_calli (pc := 95) (z1 := z8) (v := x14) (As := [.int p0, .int x13]) (rest := []) X G (rm := rm8_holesOf) rfl rfl (c8_holesOf l D κ A ad r0 z8 p0 x13 x14 ex14) g_X8_150 hd_yX8_holesOf ⟨Nat.le_of_ble_eq_true rfl, Nat.le_of_ble_eq_true rfl⟩ rfl hl rfl (lv_room (Nat.le_of_ble_eq_true rfl)) dX8_body_95 ⟨Nat.le_of_ble_eq_true rfl, Nat.le_of_ble_eq_true rfl⟩ (fun H locs G => ?_)
            have h := Option.some.inj h
            exact m_iret (pc := 98) X G hr hlk dX8_body_98 (congrArg Prod.snd h) (congrArg (fun q : MS × Int32 => celM κ ad r0 q.1) h)
          · have h := it_neg h hc21_1
            by_cases hc21_2 : p1 = 2
            · have h := it_pos h hc21_2
              refine lv_tableIn (pc := 45) (tgt := 99) (off := 54) X.1 X.2.1 dX8_body_45 (by rw [hc21_2]; decide) (by rw [hc21_2]; decide) (by rw [hc21_2]; decide +kernel) (by decide) ?_
              refine lv_aload_n (pc := 99) X.1 X.2.1 dX8_body_99 rfl (lv_at hl 0 rfl) ?_
              refine lv_iload_n (pc := 100) X.1 X.2.1 dX8_body_100 rfl (lv_at hl 1 rfl) ?_
              obtain ⟨x15, ex15, h⟩ := bn_some h
              refine M_calli (pc := 101) (z1 := z8) (v := x15) (As := [.int p0]) (rest := []) X G (rm := rm8_callsOf) rfl rfl (c8_callsOf l D κ A ad r0 z8 p0 x15 ex15) g_X8_238 hd_yX8_callsOf ⟨Nat.le_of_ble_eq_true rfl, Nat.le_of_ble_eq_true rfl⟩ rfl hl rfl (lv_room (Nat.le_of_ble_eq_true rfl)) dX8_body_101 ⟨Nat.le_of_ble_eq_true rfl, Nat.le_of_ble_eq_true rfl⟩ (fun H locs G => ?_)
              have h := Option.some.inj h
              exact m_iret (pc := 104) X G hr hlk dX8_body_104 (congrArg Prod.snd h) (congrArg (fun q : MS × Int32 => celM κ ad r0 q.1) h)
            · have h := it_neg h hc21_2
              by_cases hc21_3 : p1 = 3
              · have h := it_pos h hc21_3
                refine lv_tableIn (pc := 45) (tgt := 105) (off := 60) X.1 X.2.1 dX8_body_45 (by rw [hc21_3]; decide) (by rw [hc21_3]; decide) (by rw [hc21_3]; decide +kernel) (by decide) ?_
                refine lv_aload_n (pc := 105) X.1 X.2.1 dX8_body_105 rfl (lv_at hl 0 rfl) ?_
                refine lv_iload_n (pc := 106) X.1 X.2.1 dX8_body_106 rfl (lv_at hl 1 rfl) ?_
                refine lv_iconst (pc := 107) (v := 1) X.1 X.2.1 dX8_body_107 (by decide) ?_
                obtain ⟨z17, x16, ex16, h⟩ := bn2_some h
                refine M_calli (pc := 108) (z1 := z17) (v := x16) (As := [.int p0, .int 1]) (rest := []) X G (rm := rm8_mostOf) rfl rfl (c8_mostOf l D κ A ad r0 z8 p0 1 (z17, x16) ex16) g_X8_241 hd_yX8_mostOf ⟨Nat.le_of_ble_eq_true rfl, Nat.le_of_ble_eq_true rfl⟩ rfl hl rfl (lv_room (Nat.le_of_ble_eq_true rfl)) dX8_body_108 ⟨Nat.le_of_ble_eq_true rfl, Nat.le_of_ble_eq_true rfl⟩ (fun H locs G => ?_)
                have h := Option.some.inj h
                exact m_iret (pc := 111) X G hr hlk dX8_body_111 (congrArg Prod.snd h) (congrArg (fun q : MS × Int32 => celM κ ad r0 q.1) h)
              · have h := it_neg h hc21_3
                by_cases hc21_4 : p1 = 4
                · have h := it_pos h hc21_4
                  refine lv_tableIn (pc := 45) (tgt := 112) (off := 67) X.1 X.2.1 dX8_body_45 (by rw [hc21_4]; decide) (by rw [hc21_4]; decide) (by rw [hc21_4]; decide +kernel) (by decide) ?_
                  refine lv_aload_n (pc := 112) X.1 X.2.1 dX8_body_112 rfl (lv_at hl 0 rfl) ?_
                  refine lv_iload_n (pc := 113) X.1 X.2.1 dX8_body_113 rfl (lv_at hl 1 rfl) ?_
                  refine lv_iconst (pc := 114) (v := 0) X.1 X.2.1 dX8_body_114 (by decide) ?_
                  obtain ⟨z19, x18, ex18, h⟩ := bn2_some h
                  refine M_calli (pc := 115) (z1 := z19) (v := x18) (As := [.int p0, .int 0]) (rest := []) X G (rm := rm8_mostOf) rfl rfl (c8_mostOf l D κ A ad r0 z8 p0 0 (z19, x18) ex18) g_X8_241 hd_yX8_mostOf ⟨Nat.le_of_ble_eq_true rfl, Nat.le_of_ble_eq_true rfl⟩ rfl hl rfl (lv_room (Nat.le_of_ble_eq_true rfl)) dX8_body_115 ⟨Nat.le_of_ble_eq_true rfl, Nat.le_of_ble_eq_true rfl⟩ (fun H locs G => ?_)
                  have h := Option.some.inj h
                  exact m_iret (pc := 118) X G hr hlk dX8_body_118 (congrArg Prod.snd h) (congrArg (fun q : MS × Int32 => celM κ ad r0 q.1) h)
                · have h := it_neg h hc21_4
                  refine lv_tableOut (pc := 45) (tgt := 119) X.1 X.2.1 dX8_body_45 (sw_out (n := 4) (by decide) (fun k hk => ?_)) (by decide) ?_
                  · rcases (show k = 0 ∨ k = 1 ∨ k = 2 ∨ k = 3 ∨ k = 4 by omega) with rfl | rfl | rfl | rfl | rfl
                    · exact hc21_0
                    · exact hc21_1
                    · exact hc21_2
                    · exact hc21_3
                    · exact hc21_4
                  refine lv_aload_n (pc := 119) X.1 X.2.1 dX8_body_119 rfl (lv_at hl 0 rfl) ?_
                  refine lv_iload_n (pc := 120) X.1 X.2.1 dX8_body_120 rfl (lv_at hl 1 rfl) ?_
                  obtain ⟨x20, ex20, h⟩ := bn_some h
                  refine M_calli (pc := 121) (z1 := z8) (v := x20) (As := [.int p0]) (rest := []) X G (rm := rm8_plainOf) rfl rfl (c8_plainOf l D κ A ad r0 z8 p0 x20 ex20) g_X8_245 hd_yX8_plainOf ⟨Nat.le_of_ble_eq_true rfl, Nat.le_of_ble_eq_true rfl⟩ rfl hl rfl (lv_room (Nat.le_of_ble_eq_true rfl)) dX8_body_121 ⟨Nat.le_of_ble_eq_true rfl, Nat.le_of_ble_eq_true rfl⟩ (fun H locs G => ?_)
                  have h := Option.some.inj h
                  exact m_iret (pc := 124) X G hr hlk dX8_body_124 (congrArg Prod.snd h) (congrArg (fun q : MS × Int32 => celM κ ad r0 q.1) h)
      · have h := it_neg h (fun q => q hc11)
        refine lv_iconst (pc := 42) (v := (-1)) X.1 X.2.1 dX8_body_42 (by decide) ?_
        have h := Option.some.inj h
        exact m_iret (pc := 43) X G hr hlk dX8_body_43 (congrArg Prod.snd h) (congrArg (fun q : MS × Int32 => celM κ ad r0 q.1) h)
    · have h := it_neg h hc9
      refine lv_iconst (pc := 32) (v := 0) X.1 X.2.1 dX8_body_32 (by decide) ?_
      have h := Option.some.inj h
      exact m_iret (pc := 33) X G hr hlk dX8_body_33 (congrArg Prod.snd h) (congrArg (fun q : MS × Int32 => celM κ ad r0 q.1) h)
  refine lv_if_ne (pc := 5) (tgt := 12) X.1 X.2.1 dX8_body_5 (by decide) (fun hc3 => ?_) (fun hc3 => ?_)
  · have h := it_pos h hc3
    refine lv_iload_n (pc := 12) X.1 X.2.1 dX8_body_12 rfl (lv_at hl 2 rfl) ?_
    refine lv_iconst (pc := 13) (v := 0) X.1 X.2.1 dX8_body_13 (by decide) ?_
    refine lv_iconst (pc := 14) (v := 5) X.1 X.2.1 dX8_body_14 (by decide) ?_
    obtain ⟨x4, ex4, h⟩ := bn_some h
    refine m_callsi0 (pc := 15) (v := x4) (As := [.int p1, .int 0, .int 5]) (rest := [.ref (ad 43)]) X G (rm := rm8_in) rfl rfl (c8_in l D κ A ad (celM κ ad r0 z) p1 0 5 x4 ex4) g_X8_102 hs_yX8_in ⟨Nat.le_of_ble_eq_true rfl, Nat.le_of_ble_eq_true rfl⟩ rfl hl rfl (lv_room (Nat.le_of_ble_eq_true rfl)) dX8_body_15 ⟨Nat.le_of_ble_eq_true rfl, Nat.le_of_ble_eq_true rfl⟩ (fun H locs G => ?_)
    refine lv_if_eq (pc := 18) (tgt := 25) X.1 X.2.1 dX8_body_18 (by decide) (fun hc5 => ?_) (fun hc5 => ?_)
    · have h := it_pos h hc5
      refine lv_iconst (pc := 25) (v := 2) X.1 X.2.1 dX8_body_25 (by decide) ?_
      exact hk2 2 _ _ ls h G (lv_sub hl [0, 1, 2] rfl)
    · have h := it_neg h hc5
      refine lv_iconst (pc := 21) (v := 0) X.1 X.2.1 dX8_body_21 (by decide) ?_
      refine lv_goto (pc := 22) (tgt := 26) X.1 X.2.1 dX8_body_22 (by decide) ?_
      exact hk2 0 _ _ ls h G (lv_sub hl [0, 1, 2] rfl)
  · have h := it_neg h (fun q => q hc3)
    refine lv_iconst (pc := 8) (v := 1) X.1 X.2.1 dX8_body_8 (by decide) ?_
    refine lv_goto (pc := 9) (tgt := 26) X.1 X.2.1 dX8_body_9 (by decide) ?_
    exact hk2 1 _ _ ls h G (lv_sub hl [0, 1, 2] rfl)
