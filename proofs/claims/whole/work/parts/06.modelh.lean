/-! THE REFERENCE, laid by wip/whole/walk.py: F8_: what a method does; c8_: the machine does it -/
abbrev rm8_ifDefined : Room := { frames := 5, cells := 0, slots := 0, locals := 109 }
noncomputable def F8_ifDefined (z : MS) (p0 : Int32) : Option (MS × Int32) :=
  bn (F8_isLetter p0) fun x1 =>
  jp (fun (x7 : Int32) (z8 : MS) => bn2 (F8_refused z8 x7) fun z10 x9 =>
  if x9 = 0 then
  rd (z10 0) 2153 p0 fun x12 =>
  Loop (fun (q : Int32 × MS) => (fun (x13 : Int32) (z14 : MS) =>
  if 60 ≤ x13 then
  bn (F8_lays z14 p0) fun z16 =>
  bn2 (F8_inRings z16) fun z18 x17 =>
  wr z18 0 2153 p0 x12 fun z19 =>
  Loop (fun (q : Int32 × MS) => (fun (x20 : Int32) (z21 : MS) =>
  if 60 ≤ x20 then
  some (.inr (.inr (z21, x17)))
  else
  rd (z21 42) 60 x20 fun x23 =>
  wr z21 0 2153 ((26 + (60 * p0)) + x20) x23 fun z24 =>
  bd (x20 + 1) fun x25 =>
  some (.inl (x25, z24))) q.1 q.2) (0, z19)
  else
  rd (z14 0) 2153 ((26 + (60 * p0)) + x13) fun x26 =>
  wr z14 42 60 x13 x26 fun z27 =>
  bd (x13 + 1) fun x28 =>
  some (.inl (x28, z27))) q.1 q.2) (0, z10)
  else
  some (z10, 0)) fun k2 =>
  if ¬ x1 = 0 then
  bn2 (F8_isWhole z) fun z5 x4 =>
  if x4 = 0 then
  k2 2 z5
  else
  k2 0 z5
  else
  k2 1 z
set_option maxHeartbeats 4000000 in
set_option maxRecDepth 100000 in
theorem c8_ifDefined (l : Launch) (D : va_G) (κ : Nat → ClassId) (A : Nat → Prop) (ad : Nat → Nat) (r0 : Nat → Option va_E) (z : MS) (p0 : Int32) (res : MS × Int32) (h : F8_ifDefined z p0 = some res) : Met l yX8_ifDefined (gw yX8_ifDefined cX8_ifDefined 5 (some (FieldType.int))) rm8_ifDefined (va_Pc [.ref (ad 43), .int p0] (MW D κ A ad (celM κ ad r0 z))) (QI D κ A ad (celM κ ad r0 res.1) res.2) 0 0 A := by
  refine met_of (own := RX8) (by decide +kernel) rfl (Nat.le_of_ble_eq_true rfl) ?_
  intro p e s m below meth c ls X hr hlk G hl
  have hl : lv_has ls 5 [(0, .ref (ad 43)), (1, .int p0)] := hl
  unfold F8_ifDefined at h
  refine lv_aload_n (pc := 0) X.1 X.2.1 dX8_ifDefined_0 rfl (lv_at hl 0 rfl) ?_
  refine lv_iload_n (pc := 1) X.1 X.2.1 dX8_ifDefined_1 rfl (lv_at hl 1 rfl) ?_
  obtain ⟨x1, ex1, h⟩ := bn_some h
  refine m_callsi0 (pc := 2) (v := x1) (As := [.int p0]) (rest := [.ref (ad 43)]) X G (rm := rm8_isLetter) rfl rfl (c8_isLetter l D κ A ad (celM κ ad r0 z) p0 x1 ex1) g_X8_132 hs_yX8_isLetter ⟨Nat.le_of_ble_eq_true rfl, Nat.le_of_ble_eq_true rfl⟩ rfl hl rfl (lv_room (Nat.le_of_ble_eq_true rfl)) dX8_ifDefined_2 ⟨Nat.le_of_ble_eq_true rfl, Nat.le_of_ble_eq_true rfl⟩ (fun H locs G => ?_)
  obtain ⟨k2, ek2, h⟩ := jp_some h
  have hk2 : ∀ (x7 : Int32) (z8 : MS) (H : Heap) (locs : List Loc) (ls : Array Slot), k2 x7 z8 = some res → Mm D κ A ad (celM κ ad r0 z8) s H locs → lv_has ls 5 [(0, .ref (ad 43)), (1, .int p0)] → W p l e rm8_ifDefined s m [.ref (ad 43), .int p0].toArray below meth c H locs 0 0 (MQ below (QI D κ A ad (celM κ ad r0 res.1) res.2) [.ref (ad 43), .int p0].toArray s 0 0 A) (F0 m 24 ls [.int x7, .ref (ad 43)]) := by
    intro x7 z8 H locs ls h G hl
    rw [ek2] at h
    try dsimp only at h
    obtain ⟨z10, x9, ex9, h⟩ := bn2_some h
    refine M_calli (pc := 24) (z1 := z10) (v := x9) (As := [.int x7]) (rest := []) X G (rm := rm8_refused) rfl rfl (c8_refused l D κ A ad r0 z8 x7 (z10, x9) ex9) g_X8_116 hd_yX8_refused ⟨Nat.le_of_ble_eq_true rfl, Nat.le_of_ble_eq_true rfl⟩ rfl hl rfl (lv_room (Nat.le_of_ble_eq_true rfl)) dX8_ifDefined_24 ⟨Nat.le_of_ble_eq_true rfl, Nat.le_of_ble_eq_true rfl⟩ (fun H locs G => ?_)
    refine lv_if_eq (pc := 27) (tgt := 32) X.1 X.2.1 dX8_ifDefined_27 (by decide) (fun hc11 => ?_) (fun hc11 => ?_)
    · have h := it_pos h hc11
      refine lv_aload_n (pc := 32) X.1 X.2.1 dX8_ifDefined_32 rfl (lv_at hl 0 rfl) ?_
      refine M_getr (pc := 33) X G 0 (by decide) (by decide +kernel) fl_X8_7 dX8_ifDefined_33 ?_
      refine lv_iload_n (pc := 36) X.1 X.2.1 dX8_ifDefined_36 rfl (lv_at hl 1 rfl) ?_
      obtain ⟨hix12, h⟩ := rd_some h
      refine M_iald (pc := 37) X G (i := 0) (n := 2153) (by decide +kernel) (by decide) rfl hix12 dX8_ifDefined_37 ?_
      refine lv_topi (fun x12 ex12 => ?_)
      rw [← ex12] at h
      refine lv_istore_n (pc := 38) (lv' := [(2, .int x12), (0, .ref (ad 43)), (1, .int p0)]) X.1 X.2.1 dX8_ifDefined_38 rfl hl (by decide) rfl (fun ls hl => ?_)
      refine lv_iconst (pc := 39) (v := 0) X.1 X.2.1 dX8_ifDefined_39 (by decide) ?_
      refine lv_istore_n (pc := 40) (lv' := [(3, .int 0), (2, .int x12), (0, .ref (ad 43)), (1, .int p0)]) X.1 X.2.1 dX8_ifDefined_40 rfl hl (by decide) rfl (fun ls hl => ?_)
      refine Loop_ind (P := fun (q : Int32 × MS) => ∀ (H : Heap) (locs : List Loc) (ls : Array Slot), Mm D κ A ad (celM κ ad r0 q.2) s H locs → lv_has ls 5 [(0, .ref (ad 43)), (1, .int p0), (2, .int x12), (3, .int q.1)] → W p l e rm8_ifDefined s m [.ref (ad 43), .int p0].toArray below meth c H locs 0 0 (MQ below (QI D κ A ad (celM κ ad r0 res.1) res.2) [.ref (ad 43), .int p0].toArray s 0 0 A) (F0 m 41 ls [])) ?_ h _ _ ls G (lv_sub hl [2, 3, 1, 0] rfl)
      intro q y1 h ih1 hz1 H locs ls G hl
      obtain ⟨x13, z14⟩ := q
      try dsimp only at h ih1 G hl ⊢
      refine lv_iload_n (pc := 41) X.1 X.2.1 dX8_ifDefined_41 rfl (lv_at hl 3 rfl) ?_
      refine lv_bipush (pc := 42) (v := 60) X.1 X.2.1 dX8_ifDefined_42 (by decide) ?_
      refine lv_icmp_ge (pc := 44) (tgt := 73) X.1 X.2.1 dX8_ifDefined_44 (by decide) (fun hc15 => ?_) (fun hc15 => ?_)
      · have h := it_pos h hc15
        refine lv_aload_n (pc := 73) X.1 X.2.1 dX8_ifDefined_73 rfl (lv_at hl 0 rfl) ?_
        refine lv_iload_n (pc := 74) X.1 X.2.1 dX8_ifDefined_74 rfl (lv_at hl 1 rfl) ?_
        obtain ⟨z16, ez16, h⟩ := bn_some h
        refine M_callv (pc := 75) (z1 := z16) (As := [.int p0]) (rest := []) X G (rm := rm8_lays) rfl rfl (c8_lays l D κ A ad r0 z14 p0 z16 ez16) g_X8_146 hd_yX8_lays ⟨Nat.le_of_ble_eq_true rfl, Nat.le_of_ble_eq_true rfl⟩ rfl hl rfl (lv_room (Nat.le_of_ble_eq_true rfl)) dX8_ifDefined_75 ⟨Nat.le_of_ble_eq_true rfl, Nat.le_of_ble_eq_true rfl⟩ (fun H locs G => ?_)
        refine lv_aload_n (pc := 78) X.1 X.2.1 dX8_ifDefined_78 rfl (lv_at hl 0 rfl) ?_
        obtain ⟨z18, x17, ex17, h⟩ := bn2_some h
        refine M_calli (pc := 79) (z1 := z18) (v := x17) (As := []) (rest := []) X G (rm := rm8_inRings) rfl rfl (c8_inRings l D κ A ad r0 z16  (z18, x17) ex17) g_X8_260 hd_yX8_inRings ⟨Nat.le_of_ble_eq_true rfl, Nat.le_of_ble_eq_true rfl⟩ rfl hl rfl (lv_room (Nat.le_of_ble_eq_true rfl)) dX8_ifDefined_79 ⟨Nat.le_of_ble_eq_true rfl, Nat.le_of_ble_eq_true rfl⟩ (fun H locs G => ?_)
        refine lv_istore_n (pc := 82) (lv' := [(3, .int x17), (0, .ref (ad 43)), (1, .int p0), (2, .int x12)]) X.1 X.2.1 dX8_ifDefined_82 rfl hl (by decide) rfl (fun ls hl => ?_)
        refine lv_aload_n (pc := 83) X.1 X.2.1 dX8_ifDefined_83 rfl (lv_at hl 1 rfl) ?_
        refine M_getr (pc := 84) X G 0 (by decide) (by decide +kernel) fl_X8_7 dX8_ifDefined_84 ?_
        refine lv_iload_n (pc := 87) X.1 X.2.1 dX8_ifDefined_87 rfl (lv_at hl 2 rfl) ?_
        refine lv_iload_n (pc := 88) X.1 X.2.1 dX8_ifDefined_88 rfl (lv_at hl 3 rfl) ?_
        obtain ⟨hiz19, z19, ez19, h⟩ := wr_some h
        refine M_iast (pc := 89) X G (i := 0) (n := 2153) ez19 (by decide +kernel) (by decide) rfl hiz19 dX8_ifDefined_89 (fun H locs G => ?_)
        refine lv_iconst (pc := 90) (v := 0) X.1 X.2.1 dX8_ifDefined_90 (by decide) ?_
        refine lv_istore (pc := 91) (lv' := [(4, .int 0), (3, .int x17), (0, .ref (ad 43)), (1, .int p0), (2, .int x12)]) X.1 X.2.1 dX8_ifDefined_91 hl (by decide) rfl (fun ls hl => ?_)
        refine Loop_ind (P := fun (q : Int32 × MS) => ∀ (H : Heap) (locs : List Loc) (ls : Array Slot), Mm D κ A ad (celM κ ad r0 q.2) s H locs → lv_has ls 5 [(0, .ref (ad 43)), (1, .int p0), (3, .int x17), (4, .int q.1)] → W p l e rm8_ifDefined s m [.ref (ad 43), .int p0].toArray below meth c H locs 0 0 (MQ below (QI D κ A ad (celM κ ad r0 res.1) res.2) [.ref (ad 43), .int p0].toArray s 0 0 A) (F0 m 93 ls [])) ?_ h _ _ ls G (lv_sub hl [2, 3, 1, 0] rfl)
        intro q y2 h ih2 hz2 H locs ls G hl
        obtain ⟨x20, z21⟩ := q
        try dsimp only at h ih2 G hl ⊢
        refine lv_iload (pc := 93) X.1 X.2.1 dX8_ifDefined_93 (lv_at hl 3 rfl) ?_
        refine lv_bipush (pc := 95) (v := 60) X.1 X.2.1 dX8_ifDefined_95 (by decide) ?_
        refine lv_icmp_ge (pc := 97) (tgt := 128) X.1 X.2.1 dX8_ifDefined_97 (by decide) (fun hc22 => ?_) (fun hc22 => ?_)
        · have h := it_pos h hc22
          refine lv_iload_n (pc := 128) X.1 X.2.1 dX8_ifDefined_128 rfl (lv_at hl 2 rfl) ?_
          have h := Option.some.inj h
          have h := hz2 _ h.symm
          have h := hz1 _ h.symm
          exact m_iret (pc := 129) X G hr hlk dX8_ifDefined_129 (congrArg Prod.snd h) (congrArg (fun q : MS × Int32 => celM κ ad r0 q.1) h)
        · have h := it_neg h hc22
          refine lv_aload_n (pc := 100) X.1 X.2.1 dX8_ifDefined_100 rfl (lv_at hl 0 rfl) ?_
          refine M_getr (pc := 101) X G 0 (by decide) (by decide +kernel) fl_X8_7 dX8_ifDefined_101 ?_
          refine lv_bipush (pc := 104) (v := 26) X.1 X.2.1 dX8_ifDefined_104 (by decide) ?_
          refine lv_bipush (pc := 106) (v := 60) X.1 X.2.1 dX8_ifDefined_106 (by decide) ?_
          refine lv_iload_n (pc := 108) X.1 X.2.1 dX8_ifDefined_108 rfl (lv_at hl 1 rfl) ?_
          refine lv_imul (pc := 109) X.1 X.2.1 dX8_ifDefined_109 ?_
          refine lv_iadd (pc := 110) X.1 X.2.1 dX8_ifDefined_110 ?_
          refine lv_iload (pc := 111) X.1 X.2.1 dX8_ifDefined_111 (lv_at hl 3 rfl) ?_
          refine lv_iadd (pc := 113) X.1 X.2.1 dX8_ifDefined_113 ?_
          refine lv_aload_n (pc := 114) X.1 X.2.1 dX8_ifDefined_114 rfl (lv_at hl 0 rfl) ?_
          refine M_getr (pc := 115) X G 42 (by decide) (by decide +kernel) fl_X8_95 dX8_ifDefined_115 ?_
          refine lv_iload (pc := 118) X.1 X.2.1 dX8_ifDefined_118 (lv_at hl 3 rfl) ?_
          obtain ⟨hix23, h⟩ := rd_some h
          refine M_iald (pc := 120) X G (i := 42) (n := 60) (by decide +kernel) (by decide) rfl hix23 dX8_ifDefined_120 ?_
          refine lv_topi (fun x23 ex23 => ?_)
          rw [← ex23] at h
          obtain ⟨hiz24, z24, ez24, h⟩ := wr_some h
          refine M_iast (pc := 121) X G (i := 0) (n := 2153) ez24 (by decide +kernel) (by decide) rfl hiz24 dX8_ifDefined_121 (fun H locs G => ?_)
          obtain ⟨x25, ex25, h⟩ := bd_some h
          refine lv_iinc (pc := 122) (v := x25) (lv' := [(4, .int x25), (0, .ref (ad 43)), (1, .int p0), (3, .int x17)]) X.1 X.2.1 dX8_ifDefined_122 hl (k := 3) rfl (by rw [ex25]; rfl) (by decide) rfl (fun ls hl => ?_)
          refine lv_goto (pc := 125) (tgt := 93) X.1 X.2.1 dX8_ifDefined_125 (by decide) ?_
          have h := Option.some.inj h
          exact ih2 _ h.symm _ _ ls G (lv_sub hl [1, 2, 3, 0] rfl)
      · have h := it_neg h hc15
        refine lv_aload_n (pc := 47) X.1 X.2.1 dX8_ifDefined_47 rfl (lv_at hl 0 rfl) ?_
        refine M_getr (pc := 48) X G 42 (by decide) (by decide +kernel) fl_X8_95 dX8_ifDefined_48 ?_
        refine lv_iload_n (pc := 51) X.1 X.2.1 dX8_ifDefined_51 rfl (lv_at hl 3 rfl) ?_
        refine lv_aload_n (pc := 52) X.1 X.2.1 dX8_ifDefined_52 rfl (lv_at hl 0 rfl) ?_
        refine M_getr (pc := 53) X G 0 (by decide) (by decide +kernel) fl_X8_7 dX8_ifDefined_53 ?_
        refine lv_bipush (pc := 56) (v := 26) X.1 X.2.1 dX8_ifDefined_56 (by decide) ?_
        refine lv_bipush (pc := 58) (v := 60) X.1 X.2.1 dX8_ifDefined_58 (by decide) ?_
        refine lv_iload_n (pc := 60) X.1 X.2.1 dX8_ifDefined_60 rfl (lv_at hl 1 rfl) ?_
        refine lv_imul (pc := 61) X.1 X.2.1 dX8_ifDefined_61 ?_
        refine lv_iadd (pc := 62) X.1 X.2.1 dX8_ifDefined_62 ?_
        refine lv_iload_n (pc := 63) X.1 X.2.1 dX8_ifDefined_63 rfl (lv_at hl 3 rfl) ?_
        refine lv_iadd (pc := 64) X.1 X.2.1 dX8_ifDefined_64 ?_
        obtain ⟨hix26, h⟩ := rd_some h
        refine M_iald (pc := 65) X G (i := 0) (n := 2153) (by decide +kernel) (by decide) rfl hix26 dX8_ifDefined_65 ?_
        refine lv_topi (fun x26 ex26 => ?_)
        rw [← ex26] at h
        obtain ⟨hiz27, z27, ez27, h⟩ := wr_some h
        refine M_iast (pc := 66) X G (i := 42) (n := 60) ez27 (by decide +kernel) (by decide) rfl hiz27 dX8_ifDefined_66 (fun H locs G => ?_)
        obtain ⟨x28, ex28, h⟩ := bd_some h
        refine lv_iinc (pc := 67) (v := x28) (lv' := [(3, .int x28), (0, .ref (ad 43)), (1, .int p0), (2, .int x12)]) X.1 X.2.1 dX8_ifDefined_67 hl (k := 3) rfl (by rw [ex28]; rfl) (by decide) rfl (fun ls hl => ?_)
        refine lv_goto (pc := 70) (tgt := 41) X.1 X.2.1 dX8_ifDefined_70 (by decide) ?_
        have h := Option.some.inj h
        exact ih1 _ h.symm _ _ ls G (lv_sub hl [1, 2, 3, 0] rfl)
    · have h := it_neg h hc11
      refine lv_iconst (pc := 30) (v := 0) X.1 X.2.1 dX8_ifDefined_30 (by decide) ?_
      have h := Option.some.inj h
      exact m_iret (pc := 31) X G hr hlk dX8_ifDefined_31 (congrArg Prod.snd h) (congrArg (fun q : MS × Int32 => celM κ ad r0 q.1) h)
  refine lv_if_ne (pc := 5) (tgt := 12) X.1 X.2.1 dX8_ifDefined_5 (by decide) (fun hc3 => ?_) (fun hc3 => ?_)
  · have h := it_pos h hc3
    refine lv_aload_n (pc := 12) X.1 X.2.1 dX8_ifDefined_12 rfl (lv_at hl 0 rfl) ?_
    obtain ⟨z5, x4, ex4, h⟩ := bn2_some h
    refine M_calli (pc := 13) (z1 := z5) (v := x4) (As := []) (rest := [.ref (ad 43)]) X G (rm := rm8_isWhole) rfl rfl (c8_isWhole l D κ A ad r0 z  (z5, x4) ex4) g_X8_139 hd_yX8_isWhole ⟨Nat.le_of_ble_eq_true rfl, Nat.le_of_ble_eq_true rfl⟩ rfl hl rfl (lv_room (Nat.le_of_ble_eq_true rfl)) dX8_ifDefined_13 ⟨Nat.le_of_ble_eq_true rfl, Nat.le_of_ble_eq_true rfl⟩ (fun H locs G => ?_)
    refine lv_if_eq (pc := 16) (tgt := 23) X.1 X.2.1 dX8_ifDefined_16 (by decide) (fun hc6 => ?_) (fun hc6 => ?_)
    · have h := it_pos h hc6
      refine lv_iconst (pc := 23) (v := 2) X.1 X.2.1 dX8_ifDefined_23 (by decide) ?_
      exact hk2 2 z5 _ _ ls h G (lv_sub hl [0, 1] rfl)
    · have h := it_neg h hc6
      refine lv_iconst (pc := 19) (v := 0) X.1 X.2.1 dX8_ifDefined_19 (by decide) ?_
      refine lv_goto (pc := 20) (tgt := 24) X.1 X.2.1 dX8_ifDefined_20 (by decide) ?_
      exact hk2 0 z5 _ _ ls h G (lv_sub hl [0, 1] rfl)
  · have h := it_neg h (fun q => q hc3)
    refine lv_iconst (pc := 8) (v := 1) X.1 X.2.1 dX8_ifDefined_8 (by decide) ?_
    refine lv_goto (pc := 9) (tgt := 24) X.1 X.2.1 dX8_ifDefined_9 (by decide) ?_
    exact hk2 1 z _ _ ls h G (lv_sub hl [0, 1] rfl)

abbrev rm8_sign : Room := { frames := 1, cells := 0, slots := 0, locals := 21 }
noncomputable def F8_sign (z : MS) (p0 : Int32) : Option (MS × Int32) :=
  jp (fun (x3 : Int32) => bn2 (F8_refused z x3) fun z5 x4 =>
  if x4 = 0 then
  rd (z5 0) 2153 (1587 : Int32) fun x7 =>
  jp (fun (x11 : Int32) => some (z5, x11)) fun k8 =>
  if x7 ≤ p0 then
  k8 (-1)
  else
  rd (z5 0) 2153 (1588 + p0) fun x10 =>
  k8 x10
  else
  some (z5, 0)) fun k1 =>
  if (0 : Int32) ≤ p0 then
  k1 0
  else
  k1 1
set_option maxHeartbeats 4000000 in
set_option maxRecDepth 100000 in
theorem c8_sign (l : Launch) (D : va_G) (κ : Nat → ClassId) (A : Nat → Prop) (ad : Nat → Nat) (r0 : Nat → Option va_E) (z : MS) (p0 : Int32) (res : MS × Int32) (h : F8_sign z p0 = some res) : Met l yX8_sign (gw yX8_sign cX8_sign 2 (some (FieldType.int))) rm8_sign (va_Pc [.ref (ad 43), .int p0] (MW D κ A ad (celM κ ad r0 z))) (QI D κ A ad (celM κ ad r0 res.1) res.2) 0 0 A := by
  refine met_of (own := RX8) (by decide +kernel) rfl (Nat.le_of_ble_eq_true rfl) ?_
  intro p e s m below meth c ls X hr hlk G hl
  have hl : lv_has ls 2 [(0, .ref (ad 43)), (1, .int p0)] := hl
  unfold F8_sign at h
  refine lv_aload_n (pc := 0) X.1 X.2.1 dX8_sign_0 rfl (lv_at hl 0 rfl) ?_
  refine lv_iload_n (pc := 1) X.1 X.2.1 dX8_sign_1 rfl (lv_at hl 1 rfl) ?_
  obtain ⟨k1, ek1, h⟩ := jp_some h
  have hk1 : ∀ (x3 : Int32) (H : Heap) (locs : List Loc) (ls : Array Slot), k1 x3 = some res → Mm D κ A ad (celM κ ad r0 z) s H locs → lv_has ls 2 [(0, .ref (ad 43)), (1, .int p0)] → W p l e rm8_sign s m [.ref (ad 43), .int p0].toArray below meth c H locs 0 0 (MQ below (QI D κ A ad (celM κ ad r0 res.1) res.2) [.ref (ad 43), .int p0].toArray s 0 0 A) (F0 m 10 ls [.int x3, .ref (ad 43)]) := by
    intro x3 H locs ls h G hl
    rw [ek1] at h
    try dsimp only at h
    obtain ⟨z5, x4, ex4, h⟩ := bn2_some h
    refine M_calli (pc := 10) (z1 := z5) (v := x4) (As := [.int x3]) (rest := []) X G (rm := rm8_refused) rfl rfl (c8_refused l D κ A ad r0 z x3 (z5, x4) ex4) g_X8_116 hd_yX8_refused ⟨Nat.le_of_ble_eq_true rfl, Nat.le_of_ble_eq_true rfl⟩ rfl hl rfl (lv_room (Nat.le_of_ble_eq_true rfl)) dX8_sign_10 ⟨Nat.le_of_ble_eq_true rfl, Nat.le_of_ble_eq_true rfl⟩ (fun H locs G => ?_)
    refine lv_if_eq (pc := 13) (tgt := 18) X.1 X.2.1 dX8_sign_13 (by decide) (fun hc6 => ?_) (fun hc6 => ?_)
    · have h := it_pos h hc6
      refine lv_iload_n (pc := 18) X.1 X.2.1 dX8_sign_18 rfl (lv_at hl 1 rfl) ?_
      refine lv_aload_n (pc := 19) X.1 X.2.1 dX8_sign_19 rfl (lv_at hl 0 rfl) ?_
      refine M_getr (pc := 20) X G 0 (by decide) (by decide +kernel) fl_X8_7 dX8_sign_20 ?_
      refine lv_sipush (pc := 23) (v := 1587) X.1 X.2.1 dX8_sign_23 (by decide) ?_
      obtain ⟨hix7, h⟩ := rd_some h
      refine M_iald (pc := 26) X G (i := 0) (n := 2153) (by decide +kernel) (by decide) rfl hix7 dX8_sign_26 ?_
      refine lv_topi (fun x7 ex7 => ?_)
      rw [← ex7] at h
      obtain ⟨k8, ek8, h⟩ := jp_some h
      have hk8 : ∀ (x11 : Int32) (H : Heap) (locs : List Loc) (ls : Array Slot), k8 x11 = some res → Mm D κ A ad (celM κ ad r0 z5) s H locs → lv_has ls 2 [] → W p l e rm8_sign s m [.ref (ad 43), .int p0].toArray below meth c H locs 0 0 (MQ below (QI D κ A ad (celM κ ad r0 res.1) res.2) [.ref (ad 43), .int p0].toArray s 0 0 A) (F0 m 44 ls [.int x11]) := by
        intro x11 H locs ls h G hl
        rw [ek8] at h
        try dsimp only at h
        have h := Option.some.inj h
        exact m_iret (pc := 44) X G hr hlk dX8_sign_44 (congrArg Prod.snd h) (congrArg (fun q : MS × Int32 => celM κ ad r0 q.1) h)
      refine lv_icmp_ge (pc := 27) (tgt := 43) X.1 X.2.1 dX8_sign_27 (by decide) (fun hc9 => ?_) (fun hc9 => ?_)
      · have h := it_pos h hc9
        refine lv_iconst (pc := 43) (v := (-1)) X.1 X.2.1 dX8_sign_43 (by decide) ?_
        exact hk8 (-1) _ _ ls h G (lv_sub hl [] rfl)
      · have h := it_neg h hc9
        refine lv_aload_n (pc := 30) X.1 X.2.1 dX8_sign_30 rfl (lv_at hl 0 rfl) ?_
        refine M_getr (pc := 31) X G 0 (by decide) (by decide +kernel) fl_X8_7 dX8_sign_31 ?_
        refine lv_sipush (pc := 34) (v := 1588) X.1 X.2.1 dX8_sign_34 (by decide) ?_
        refine lv_iload_n (pc := 37) X.1 X.2.1 dX8_sign_37 rfl (lv_at hl 1 rfl) ?_
        refine lv_iadd (pc := 38) X.1 X.2.1 dX8_sign_38 ?_
        obtain ⟨hix10, h⟩ := rd_some h
        refine M_iald (pc := 39) X G (i := 0) (n := 2153) (by decide +kernel) (by decide) rfl hix10 dX8_sign_39 ?_
        refine lv_topi (fun x10 ex10 => ?_)
        rw [← ex10] at h
        refine lv_goto (pc := 40) (tgt := 44) X.1 X.2.1 dX8_sign_40 (by decide) ?_
        exact hk8 x10 _ _ ls h G (lv_sub hl [] rfl)
    · have h := it_neg h hc6
      refine lv_iconst (pc := 16) (v := 0) X.1 X.2.1 dX8_sign_16 (by decide) ?_
      have h := Option.some.inj h
      exact m_iret (pc := 17) X G hr hlk dX8_sign_17 (congrArg Prod.snd h) (congrArg (fun q : MS × Int32 => celM κ ad r0 q.1) h)
  refine lv_if_ge (pc := 2) (tgt := 9) X.1 X.2.1 dX8_sign_2 (by decide) (fun hc2 => ?_) (fun hc2 => ?_)
  · have h := it_pos h hc2
    refine lv_iconst (pc := 9) (v := 0) X.1 X.2.1 dX8_sign_9 (by decide) ?_
    exact hk1 0 _ _ ls h G (lv_sub hl [0, 1] rfl)
  · have h := it_neg h hc2
    refine lv_iconst (pc := 5) (v := 1) X.1 X.2.1 dX8_sign_5 (by decide) ?_
    refine lv_goto (pc := 6) (tgt := 10) X.1 X.2.1 dX8_sign_6 (by decide) ?_
    exact hk1 1 _ _ ls h G (lv_sub hl [0, 1] rfl)

abbrev rm8_signsAs : Room := { frames := 0, cells := 0, slots := 0, locals := 0 }
noncomputable def F8_signsAs (z : MS) (p0 : Int32) : Option (Int32) :=
  Loop (fun (q : Int32 × Int32) => (fun (x1 : Int32) (x2 : Int32) =>
  rd (z 0) 2153 (1587 : Int32) fun x3 =>
  if x3 ≤ x2 then
  some (.inr x1)
  else
  rd (z 0) 2153 (1588 + x2) fun x5 =>
  jp (fun (x8 : Int32) => bd (x1 + x8) fun x9 =>
  bd (x2 + 1) fun x10 =>
  some (.inl (x9, x10))) fun k6 =>
  if ¬ x5 = p0 then
  k6 0
  else
  k6 1) q.1 q.2) (0, 0)
set_option maxHeartbeats 4000000 in
set_option maxRecDepth 100000 in
theorem c8_signsAs (l : Launch) (D : va_G) (κ : Nat → ClassId) (A : Nat → Prop) (ad : Nat → Nat) (r0 : Nat → Option va_E) (z : MS) (p0 : Int32) (res : Int32) (h : F8_signsAs z p0 = some res) : Met l yX8_signsAs (gw yX8_signsAs cX8_signsAs 4 (some (FieldType.int))) rm8_signsAs (va_Pc [.ref (ad 43), .int p0] (MW D κ A ad (celM κ ad r0 z))) (QI D κ A ad (celM κ ad r0 z) res) 0 0 A := by
  refine met_of (own := RX8) (by decide +kernel) rfl (Nat.le_of_ble_eq_true rfl) ?_
  intro p e s m below meth c ls X hr hlk G hl
  have hl : lv_has ls 4 [(0, .ref (ad 43)), (1, .int p0)] := hl
  unfold F8_signsAs at h
  refine lv_iconst (pc := 0) (v := 0) X.1 X.2.1 dX8_signsAs_0 (by decide) ?_
  refine lv_istore_n (pc := 1) (lv' := [(2, .int 0), (0, .ref (ad 43)), (1, .int p0)]) X.1 X.2.1 dX8_signsAs_1 rfl hl (by decide) rfl (fun ls hl => ?_)
  refine lv_iconst (pc := 2) (v := 0) X.1 X.2.1 dX8_signsAs_2 (by decide) ?_
  refine lv_istore_n (pc := 3) (lv' := [(3, .int 0), (2, .int 0), (0, .ref (ad 43)), (1, .int p0)]) X.1 X.2.1 dX8_signsAs_3 rfl hl (by decide) rfl (fun ls hl => ?_)
  refine Loop_ind (P := fun (q : Int32 × Int32) => ∀ (H : Heap) (locs : List Loc) (ls : Array Slot), Mm D κ A ad (celM κ ad r0 z) s H locs → lv_has ls 4 [(0, .ref (ad 43)), (1, .int p0), (2, .int q.1), (3, .int q.2)] → W p l e rm8_signsAs s m [.ref (ad 43), .int p0].toArray below meth c H locs 0 0 (MQ below (QI D κ A ad (celM κ ad r0 z) res) [.ref (ad 43), .int p0].toArray s 0 0 A) (F0 m 4 ls [])) ?_ h _ _ ls G (lv_sub hl [2, 3, 1, 0] rfl)
  intro q y1 h ih1 hz1 H locs ls G hl
  obtain ⟨x1, x2⟩ := q
  try dsimp only at h ih1 G hl ⊢
  refine lv_iload_n (pc := 4) X.1 X.2.1 dX8_signsAs_4 rfl (lv_at hl 3 rfl) ?_
  refine lv_aload_n (pc := 5) X.1 X.2.1 dX8_signsAs_5 rfl (lv_at hl 0 rfl) ?_
  refine M_getr (pc := 6) X G 0 (by decide) (by decide +kernel) fl_X8_7 dX8_signsAs_6 ?_
  refine lv_sipush (pc := 9) (v := 1587) X.1 X.2.1 dX8_signsAs_9 (by decide) ?_
  obtain ⟨hix3, h⟩ := rd_some h
  refine M_iald (pc := 12) X G (i := 0) (n := 2153) (by decide +kernel) (by decide) rfl hix3 dX8_signsAs_12 ?_
  refine lv_topi (fun x3 ex3 => ?_)
  rw [← ex3] at h
  refine lv_icmp_ge (pc := 13) (tgt := 44) X.1 X.2.1 dX8_signsAs_13 (by decide) (fun hc4 => ?_) (fun hc4 => ?_)
  · have h := it_pos h hc4
    refine lv_iload_n (pc := 44) X.1 X.2.1 dX8_signsAs_44 rfl (lv_at hl 2 rfl) ?_
    have h := Option.some.inj h
    have h := hz1 _ h.symm
    exact m_iret (pc := 45) X G hr hlk dX8_signsAs_45 h rfl
  · have h := it_neg h hc4
    refine lv_iload_n (pc := 16) X.1 X.2.1 dX8_signsAs_16 rfl (lv_at hl 2 rfl) ?_
    refine lv_aload_n (pc := 17) X.1 X.2.1 dX8_signsAs_17 rfl (lv_at hl 0 rfl) ?_
    refine M_getr (pc := 18) X G 0 (by decide) (by decide +kernel) fl_X8_7 dX8_signsAs_18 ?_
    refine lv_sipush (pc := 21) (v := 1588) X.1 X.2.1 dX8_signsAs_21 (by decide) ?_
    refine lv_iload_n (pc := 24) X.1 X.2.1 dX8_signsAs_24 rfl (lv_at hl 3 rfl) ?_
    refine lv_iadd (pc := 25) X.1 X.2.1 dX8_signsAs_25 ?_
    obtain ⟨hix5, h⟩ := rd_some h
    refine M_iald (pc := 26) X G (i := 0) (n := 2153) (by decide +kernel) (by decide) rfl hix5 dX8_signsAs_26 ?_
    refine lv_topi (fun x5 ex5 => ?_)
    rw [← ex5] at h
    refine lv_iload_n (pc := 27) X.1 X.2.1 dX8_signsAs_27 rfl (lv_at hl 1 rfl) ?_
    obtain ⟨k6, ek6, h⟩ := jp_some h
    have hk6 : ∀ (x8 : Int32) (H : Heap) (locs : List Loc) (ls : Array Slot), k6 x8 = some y1 → Mm D κ A ad (celM κ ad r0 z) s H locs → lv_has ls 4 [(0, .ref (ad 43)), (1, .int p0), (3, .int x2)] → W p l e rm8_signsAs s m [.ref (ad 43), .int p0].toArray below meth c H locs 0 0 (MQ below (QI D κ A ad (celM κ ad r0 z) res) [.ref (ad 43), .int p0].toArray s 0 0 A) (F0 m 36 ls [.int x8, .int x1]) := by
      intro x8 H locs ls h G hl
      rw [ek6] at h
      try dsimp only at h
      refine lv_iadd (pc := 36) X.1 X.2.1 dX8_signsAs_36 ?_
      refine lv_topi (fun x9 ex9 => ?_)
      have h := bd_at h ex9
      refine lv_istore_n (pc := 37) (lv' := [(2, .int x9), (0, .ref (ad 43)), (1, .int p0), (3, .int x2)]) X.1 X.2.1 dX8_signsAs_37 rfl hl (by decide) rfl (fun ls hl => ?_)
      obtain ⟨x10, ex10, h⟩ := bd_some h
      refine lv_iinc (pc := 38) (v := x10) (lv' := [(3, .int x10), (2, .int x9), (0, .ref (ad 43)), (1, .int p0)]) X.1 X.2.1 dX8_signsAs_38 hl (k := 3) rfl (by rw [ex10]; rfl) (by decide) rfl (fun ls hl => ?_)
      refine lv_goto (pc := 41) (tgt := 4) X.1 X.2.1 dX8_signsAs_41 (by decide) ?_
      have h := Option.some.inj h
      exact ih1 _ h.symm _ _ ls G (lv_sub hl [2, 3, 1, 0] rfl)
    refine lv_icmp_ne (pc := 28) (tgt := 35) X.1 X.2.1 dX8_signsAs_28 (by decide) (fun hc7 => ?_) (fun hc7 => ?_)
    · have h := it_pos h hc7
      refine lv_iconst (pc := 35) (v := 0) X.1 X.2.1 dX8_signsAs_35 (by decide) ?_
      exact hk6 0 _ _ ls h G (lv_sub hl [0, 1, 3] rfl)
    · have h := it_neg h (fun q => q hc7)
      refine lv_iconst (pc := 31) (v := 1) X.1 X.2.1 dX8_signsAs_31 (by decide) ?_
      refine lv_goto (pc := 32) (tgt := 36) X.1 X.2.1 dX8_signsAs_32 (by decide) ?_
      exact hk6 1 _ _ ls h G (lv_sub hl [0, 1, 3] rfl)

abbrev rm8_result : Room := { frames := 1, cells := 0, slots := 0, locals := 23 }
noncomputable def F8_result (z : MS) (p0 : Int32) : Option (MS × Int32) :=
  bn (F8_in p0 0 7) fun x1 =>
  jp (fun (x4 : Int32) => bn2 (F8_refused z x4) fun z6 x5 =>
  if x5 = 0 then
  if p0 = 0 then
  rd (z6 0) 2153 (1587 : Int32) fun x8 =>
  some (z6, x8)
  else if p0 = 1 then
  bn (F8_signsAs z6 35) fun x9 =>
  some (z6, x9)
  else if p0 = 2 then
  bn (F8_signsAs z6 37) fun x10 =>
  some (z6, x10)
  else if p0 = 3 then
  bn (F8_signsAs z6 36) fun x11 =>
  some (z6, x11)
  else if p0 = 4 then
  bn (F8_signsAs z6 63) fun x12 =>
  some (z6, x12)
  else if p0 = 5 then
  rd (z6 0) 2153 (1788 : Int32) fun x13 =>
  some (z6, x13)
  else if p0 = 6 then
  rd (z6 0) 2153 (1789 : Int32) fun x14 =>
  some (z6, x14)
  else rd (z6 0) 2153 (1792 : Int32) fun x15 =>
  some (z6, x15)
  else
  some (z6, 0)) fun k2 =>
  if x1 = 0 then
  k2 1
  else
  k2 0
set_option maxHeartbeats 4000000 in
set_option maxRecDepth 100000 in
theorem c8_result (l : Launch) (D : va_G) (κ : Nat → ClassId) (A : Nat → Prop) (ad : Nat → Nat) (r0 : Nat → Option va_E) (z : MS) (p0 : Int32) (res : MS × Int32) (h : F8_result z p0 = some res) : Met l yX8_result (gw yX8_result cX8_result 2 (some (FieldType.int))) rm8_result (va_Pc [.ref (ad 43), .int p0] (MW D κ A ad (celM κ ad r0 z))) (QI D κ A ad (celM κ ad r0 res.1) res.2) 0 0 A := by
  refine met_of (own := RX8) (by decide +kernel) rfl (Nat.le_of_ble_eq_true rfl) ?_
  intro p e s m below meth c ls X hr hlk G hl
  have hl : lv_has ls 2 [(0, .ref (ad 43)), (1, .int p0)] := hl
  unfold F8_result at h
  refine lv_aload_n (pc := 0) X.1 X.2.1 dX8_result_0 rfl (lv_at hl 0 rfl) ?_
  refine lv_iload_n (pc := 1) X.1 X.2.1 dX8_result_1 rfl (lv_at hl 1 rfl) ?_
  refine lv_iconst (pc := 2) (v := 0) X.1 X.2.1 dX8_result_2 (by decide) ?_
  refine lv_bipush (pc := 3) (v := 7) X.1 X.2.1 dX8_result_3 (by decide) ?_
  obtain ⟨x1, ex1, h⟩ := bn_some h
  refine m_callsi0 (pc := 5) (v := x1) (As := [.int p0, .int 0, .int 7]) (rest := [.ref (ad 43)]) X G (rm := rm8_in) rfl rfl (c8_in l D κ A ad (celM κ ad r0 z) p0 0 7 x1 ex1) g_X8_102 hs_yX8_in ⟨Nat.le_of_ble_eq_true rfl, Nat.le_of_ble_eq_true rfl⟩ rfl hl rfl (lv_room (Nat.le_of_ble_eq_true rfl)) dX8_result_5 ⟨Nat.le_of_ble_eq_true rfl, Nat.le_of_ble_eq_true rfl⟩ (fun H locs G => ?_)
  obtain ⟨k2, ek2, h⟩ := jp_some h
  have hk2 : ∀ (x4 : Int32) (H : Heap) (locs : List Loc) (ls : Array Slot), k2 x4 = some res → Mm D κ A ad (celM κ ad r0 z) s H locs → lv_has ls 2 [(0, .ref (ad 43)), (1, .int p0)] → W p l e rm8_result s m [.ref (ad 43), .int p0].toArray below meth c H locs 0 0 (MQ below (QI D κ A ad (celM κ ad r0 res.1) res.2) [.ref (ad 43), .int p0].toArray s 0 0 A) (F0 m 16 ls [.int x4, .ref (ad 43)]) := by
    intro x4 H locs ls h G hl
    rw [ek2] at h
    try dsimp only at h
    obtain ⟨z6, x5, ex5, h⟩ := bn2_some h
    refine M_calli (pc := 16) (z1 := z6) (v := x5) (As := [.int x4]) (rest := []) X G (rm := rm8_refused) rfl rfl (c8_refused l D κ A ad r0 z x4 (z6, x5) ex5) g_X8_116 hd_yX8_refused ⟨Nat.le_of_ble_eq_true rfl, Nat.le_of_ble_eq_true rfl⟩ rfl hl rfl (lv_room (Nat.le_of_ble_eq_true rfl)) dX8_result_16 ⟨Nat.le_of_ble_eq_true rfl, Nat.le_of_ble_eq_true rfl⟩ (fun H locs G => ?_)
    refine lv_if_eq (pc := 19) (tgt := 24) X.1 X.2.1 dX8_result_19 (by decide) (fun hc7 => ?_) (fun hc7 => ?_)
    · have h := it_pos h hc7
      refine lv_iload_n (pc := 24) X.1 X.2.1 dX8_result_24 rfl (lv_at hl 1 rfl) ?_
      by_cases hc16_0 : p0 = 0
      · have h := it_pos h hc16_0
        refine lv_tableIn (pc := 25) (tgt := 68) (off := 43) X.1 X.2.1 dX8_result_25 (by rw [hc16_0]; decide) (by rw [hc16_0]; decide) (by rw [hc16_0]; decide +kernel) (by decide) ?_
        refine lv_aload_n (pc := 68) X.1 X.2.1 dX8_result_68 rfl (lv_at hl 0 rfl) ?_
        refine M_getr (pc := 69) X G 0 (by decide) (by decide +kernel) fl_X8_7 dX8_result_69 ?_
        refine lv_sipush (pc := 72) (v := 1587) X.1 X.2.1 dX8_result_72 (by decide) ?_
        obtain ⟨hix8, h⟩ := rd_some h
        refine M_iald (pc := 75) X G (i := 0) (n := 2153) (by decide +kernel) (by decide) rfl hix8 dX8_result_75 ?_
        refine lv_topi (fun x8 ex8 => ?_)
        rw [← ex8] at h
        have h := Option.some.inj h
        exact m_iret (pc := 76) X G hr hlk dX8_result_76 (congrArg Prod.snd h) (congrArg (fun q : MS × Int32 => celM κ ad r0 q.1) h)
      · have h := it_neg h hc16_0
        by_cases hc16_1 : p0 = 1
        · have h := it_pos h hc16_1
          refine lv_tableIn (pc := 25) (tgt := 77) (off := 52) X.1 X.2.1 dX8_result_25 (by rw [hc16_1]; decide) (by rw [hc16_1]; decide) (by rw [hc16_1]; decide +kernel) (by decide) ?_
          refine lv_aload_n (pc := 77) X.1 X.2.1 dX8_result_77 rfl (lv_at hl 0 rfl) ?_
          refine lv_bipush (pc := 78) (v := 35) X.1 X.2.1 dX8_result_78 (by decide) ?_
          obtain ⟨x9, ex9, h⟩ := bn_some h
          refine M_calli (pc := 80) (z1 := z6) (v := x9) (As := [.int 35]) (rest := []) X G (rm := rm8_signsAs) rfl rfl (c8_signsAs l D κ A ad r0 z6 35 x9 ex9) g_X8_266 hd_yX8_signsAs ⟨Nat.le_of_ble_eq_true rfl, Nat.le_of_ble_eq_true rfl⟩ rfl hl rfl (lv_room (Nat.le_of_ble_eq_true rfl)) dX8_result_80 ⟨Nat.le_of_ble_eq_true rfl, Nat.le_of_ble_eq_true rfl⟩ (fun H locs G => ?_)
          have h := Option.some.inj h
          exact m_iret (pc := 83) X G hr hlk dX8_result_83 (congrArg Prod.snd h) (congrArg (fun q : MS × Int32 => celM κ ad r0 q.1) h)
        · have h := it_neg h hc16_1
          by_cases hc16_2 : p0 = 2
          · have h := it_pos h hc16_2
            refine lv_tableIn (pc := 25) (tgt := 84) (off := 59) X.1 X.2.1 dX8_result_25 (by rw [hc16_2]; decide) (by rw [hc16_2]; decide) (by rw [hc16_2]; decide +kernel) (by decide) ?_
            refine lv_aload_n (pc := 84) X.1 X.2.1 dX8_result_84 rfl (lv_at hl 0 rfl) ?_
            refine lv_bipush (pc := 85) (v := 37) X.1 X.2.1 dX8_result_85 (by decide) ?_
            obtain ⟨x10, ex10, h⟩ := bn_some h
            refine M_calli (pc := 87) (z1 := z6) (v := x10) (As := [.int 37]) (rest := []) X G (rm := rm8_signsAs) rfl rfl (c8_signsAs l D κ A ad r0 z6 37 x10 ex10) g_X8_266 hd_yX8_signsAs ⟨Nat.le_of_ble_eq_true rfl, Nat.le_of_ble_eq_true rfl⟩ rfl hl rfl (lv_room (Nat.le_of_ble_eq_true rfl)) dX8_result_87 ⟨Nat.le_of_ble_eq_true rfl, Nat.le_of_ble_eq_true rfl⟩ (fun H locs G => ?_)
            have h := Option.some.inj h
            exact m_iret (pc := 90) X G hr hlk dX8_result_90 (congrArg Prod.snd h) (congrArg (fun q : MS × Int32 => celM κ ad r0 q.1) h)
          · have h := it_neg h hc16_2
            by_cases hc16_3 : p0 = 3
            · have h := it_pos h hc16_3
              refine lv_tableIn (pc := 25) (tgt := 91) (off := 66) X.1 X.2.1 dX8_result_25 (by rw [hc16_3]; decide) (by rw [hc16_3]; decide) (by rw [hc16_3]; decide +kernel) (by decide) ?_
              refine lv_aload_n (pc := 91) X.1 X.2.1 dX8_result_91 rfl (lv_at hl 0 rfl) ?_
              refine lv_bipush (pc := 92) (v := 36) X.1 X.2.1 dX8_result_92 (by decide) ?_
              obtain ⟨x11, ex11, h⟩ := bn_some h
              refine M_calli (pc := 94) (z1 := z6) (v := x11) (As := [.int 36]) (rest := []) X G (rm := rm8_signsAs) rfl rfl (c8_signsAs l D κ A ad r0 z6 36 x11 ex11) g_X8_266 hd_yX8_signsAs ⟨Nat.le_of_ble_eq_true rfl, Nat.le_of_ble_eq_true rfl⟩ rfl hl rfl (lv_room (Nat.le_of_ble_eq_true rfl)) dX8_result_94 ⟨Nat.le_of_ble_eq_true rfl, Nat.le_of_ble_eq_true rfl⟩ (fun H locs G => ?_)
              have h := Option.some.inj h
              exact m_iret (pc := 97) X G hr hlk dX8_result_97 (congrArg Prod.snd h) (congrArg (fun q : MS × Int32 => celM κ ad r0 q.1) h)
            · have h := it_neg h hc16_3
              by_cases hc16_4 : p0 = 4
              · have h := it_pos h hc16_4
                refine lv_tableIn (pc := 25) (tgt := 98) (off := 73) X.1 X.2.1 dX8_result_25 (by rw [hc16_4]; decide) (by rw [hc16_4]; decide) (by rw [hc16_4]; decide +kernel) (by decide) ?_
                refine lv_aload_n (pc := 98) X.1 X.2.1 dX8_result_98 rfl (lv_at hl 0 rfl) ?_
                refine lv_bipush (pc := 99) (v := 63) X.1 X.2.1 dX8_result_99 (by decide) ?_
                obtain ⟨x12, ex12, h⟩ := bn_some h
                refine M_calli (pc := 101) (z1 := z6) (v := x12) (As := [.int 63]) (rest := []) X G (rm := rm8_signsAs) rfl rfl (c8_signsAs l D κ A ad r0 z6 63 x12 ex12) g_X8_266 hd_yX8_signsAs ⟨Nat.le_of_ble_eq_true rfl, Nat.le_of_ble_eq_true rfl⟩ rfl hl rfl (lv_room (Nat.le_of_ble_eq_true rfl)) dX8_result_101 ⟨Nat.le_of_ble_eq_true rfl, Nat.le_of_ble_eq_true rfl⟩ (fun H locs G => ?_)
                have h := Option.some.inj h
                exact m_iret (pc := 104) X G hr hlk dX8_result_104 (congrArg Prod.snd h) (congrArg (fun q : MS × Int32 => celM κ ad r0 q.1) h)
              · have h := it_neg h hc16_4
                by_cases hc16_5 : p0 = 5
                · have h := it_pos h hc16_5
                  refine lv_tableIn (pc := 25) (tgt := 105) (off := 80) X.1 X.2.1 dX8_result_25 (by rw [hc16_5]; decide) (by rw [hc16_5]; decide) (by rw [hc16_5]; decide +kernel) (by decide) ?_
                  refine lv_aload_n (pc := 105) X.1 X.2.1 dX8_result_105 rfl (lv_at hl 0 rfl) ?_
                  refine M_getr (pc := 106) X G 0 (by decide) (by decide +kernel) fl_X8_7 dX8_result_106 ?_
                  refine lv_sipush (pc := 109) (v := 1788) X.1 X.2.1 dX8_result_109 (by decide) ?_
                  obtain ⟨hix13, h⟩ := rd_some h
                  refine M_iald (pc := 112) X G (i := 0) (n := 2153) (by decide +kernel) (by decide) rfl hix13 dX8_result_112 ?_
                  refine lv_topi (fun x13 ex13 => ?_)
                  rw [← ex13] at h
                  have h := Option.some.inj h
                  exact m_iret (pc := 113) X G hr hlk dX8_result_113 (congrArg Prod.snd h) (congrArg (fun q : MS × Int32 => celM κ ad r0 q.1) h)
                · have h := it_neg h hc16_5
                  by_cases hc16_6 : p0 = 6
                  · have h := it_pos h hc16_6
                    refine lv_tableIn (pc := 25) (tgt := 114) (off := 89) X.1 X.2.1 dX8_result_25 (by rw [hc16_6]; decide) (by rw [hc16_6]; decide) (by rw [hc16_6]; decide +kernel) (by decide) ?_
                    refine lv_aload_n (pc := 114) X.1 X.2.1 dX8_result_114 rfl (lv_at hl 0 rfl) ?_
                    refine M_getr (pc := 115) X G 0 (by decide) (by decide +kernel) fl_X8_7 dX8_result_115 ?_
                    refine lv_sipush (pc := 118) (v := 1789) X.1 X.2.1 dX8_result_118 (by decide) ?_
                    obtain ⟨hix14, h⟩ := rd_some h
                    refine M_iald (pc := 121) X G (i := 0) (n := 2153) (by decide +kernel) (by decide) rfl hix14 dX8_result_121 ?_
                    refine lv_topi (fun x14 ex14 => ?_)
                    rw [← ex14] at h
                    have h := Option.some.inj h
                    exact m_iret (pc := 122) X G hr hlk dX8_result_122 (congrArg Prod.snd h) (congrArg (fun q : MS × Int32 => celM κ ad r0 q.1) h)
                  · have h := it_neg h hc16_6
                    refine lv_tableOut (pc := 25) (tgt := 123) X.1 X.2.1 dX8_result_25 (sw_out (n := 6) (by decide) (fun k hk => ?_)) (by decide) ?_
                    · rcases (show k = 0 ∨ k = 1 ∨ k = 2 ∨ k = 3 ∨ k = 4 ∨ k = 5 ∨ k = 6 by omega) with rfl | rfl | rfl | rfl | rfl | rfl | rfl
                      · exact hc16_0
                      · exact hc16_1
                      · exact hc16_2
                      · exact hc16_3
                      · exact hc16_4
                      · exact hc16_5
                      · exact hc16_6
                    refine lv_aload_n (pc := 123) X.1 X.2.1 dX8_result_123 rfl (lv_at hl 0 rfl) ?_
                    refine M_getr (pc := 124) X G 0 (by decide) (by decide +kernel) fl_X8_7 dX8_result_124 ?_
                    refine lv_sipush (pc := 127) (v := 1792) X.1 X.2.1 dX8_result_127 (by decide) ?_
                    obtain ⟨hix15, h⟩ := rd_some h
                    refine M_iald (pc := 130) X G (i := 0) (n := 2153) (by decide +kernel) (by decide) rfl hix15 dX8_result_130 ?_
                    refine lv_topi (fun x15 ex15 => ?_)
                    rw [← ex15] at h
                    have h := Option.some.inj h
                    exact m_iret (pc := 131) X G hr hlk dX8_result_131 (congrArg Prod.snd h) (congrArg (fun q : MS × Int32 => celM κ ad r0 q.1) h)
    · have h := it_neg h hc7
      refine lv_iconst (pc := 22) (v := 0) X.1 X.2.1 dX8_result_22 (by decide) ?_
      have h := Option.some.inj h
      exact m_iret (pc := 23) X G hr hlk dX8_result_23 (congrArg Prod.snd h) (congrArg (fun q : MS × Int32 => celM κ ad r0 q.1) h)
  refine lv_if_eq (pc := 8) (tgt := 15) X.1 X.2.1 dX8_result_8 (by decide) (fun hc3 => ?_) (fun hc3 => ?_)
  · have h := it_pos h hc3
    refine lv_iconst (pc := 15) (v := 1) X.1 X.2.1 dX8_result_15 (by decide) ?_
    exact hk2 1 _ _ ls h G (lv_sub hl [0, 1] rfl)
  · have h := it_neg h hc3
    refine lv_iconst (pc := 11) (v := 0) X.1 X.2.1 dX8_result_11 (by decide) ?_
    refine lv_goto (pc := 12) (tgt := 16) X.1 X.2.1 dX8_result_12 (by decide) ?_
    exact hk2 0 _ _ ls h G (lv_sub hl [0, 1] rfl)

abbrev rm8_trace : Room := { frames := 1, cells := 0, slots := 0, locals := 22 }
noncomputable def F8_trace (z : MS) (p0 p1 : Int32) : Option (MS × Int32) :=
  jp (fun (x6 : Int32) => bn2 (F8_refused z x6) fun z8 x7 =>
  if x7 = 0 then
  rd (z8 0) 2153 (1792 : Int32) fun x10 =>
  jp (fun (x14 : Int32) => some (z8, x14)) fun k11 =>
  if x10 ≤ p0 then
  k11 (-1)
  else
  rd (z8 0) 2153 ((1793 + (6 * p0)) + p1) fun x13 =>
  k11 x13
  else
  some (z8, 0)) fun k1 =>
  jp (fun (_ : Unit) => k1 1) fun k2 =>
  if p0 < 0 then
  k2 ()
  else
  bn (F8_in p1 0 5) fun x4 =>
  if ¬ x4 = 0 then
  k1 0
  else
  k2 ()
set_option maxHeartbeats 4000000 in
set_option maxRecDepth 100000 in
theorem c8_trace (l : Launch) (D : va_G) (κ : Nat → ClassId) (A : Nat → Prop) (ad : Nat → Nat) (r0 : Nat → Option va_E) (z : MS) (p0 p1 : Int32) (res : MS × Int32) (h : F8_trace z p0 p1 = some res) : Met l yX8_trace (gw yX8_trace cX8_trace 3 (some (FieldType.int))) rm8_trace (va_Pc [.ref (ad 43), .int p0, .int p1] (MW D κ A ad (celM κ ad r0 z))) (QI D κ A ad (celM κ ad r0 res.1) res.2) 0 0 A := by
  refine met_of (own := RX8) (by decide +kernel) rfl (Nat.le_of_ble_eq_true rfl) ?_
  intro p e s m below meth c ls X hr hlk G hl
  have hl : lv_has ls 3 [(0, .ref (ad 43)), (1, .int p0), (2, .int p1)] := hl
  unfold F8_trace at h
  refine lv_aload_n (pc := 0) X.1 X.2.1 dX8_trace_0 rfl (lv_at hl 0 rfl) ?_
  refine lv_iload_n (pc := 1) X.1 X.2.1 dX8_trace_1 rfl (lv_at hl 1 rfl) ?_
  obtain ⟨k1, ek1, h⟩ := jp_some h
  have hk1 : ∀ (x6 : Int32) (H : Heap) (locs : List Loc) (ls : Array Slot), k1 x6 = some res → Mm D κ A ad (celM κ ad r0 z) s H locs → lv_has ls 3 [(0, .ref (ad 43)), (1, .int p0), (2, .int p1)] → W p l e rm8_trace s m [.ref (ad 43), .int p0, .int p1].toArray below meth c H locs 0 0 (MQ below (QI D κ A ad (celM κ ad r0 res.1) res.2) [.ref (ad 43), .int p0, .int p1].toArray s 0 0 A) (F0 m 19 ls [.int x6, .ref (ad 43)]) := by
    intro x6 H locs ls h G hl
    rw [ek1] at h
    try dsimp only at h
    obtain ⟨z8, x7, ex7, h⟩ := bn2_some h
    refine M_calli (pc := 19) (z1 := z8) (v := x7) (As := [.int x6]) (rest := []) X G (rm := rm8_refused) rfl rfl (c8_refused l D κ A ad r0 z x6 (z8, x7) ex7) g_X8_116 hd_yX8_refused ⟨Nat.le_of_ble_eq_true rfl, Nat.le_of_ble_eq_true rfl⟩ rfl hl rfl (lv_room (Nat.le_of_ble_eq_true rfl)) dX8_trace_19 ⟨Nat.le_of_ble_eq_true rfl, Nat.le_of_ble_eq_true rfl⟩ (fun H locs G => ?_)
    refine lv_if_eq (pc := 22) (tgt := 27) X.1 X.2.1 dX8_trace_22 (by decide) (fun hc9 => ?_) (fun hc9 => ?_)
    · have h := it_pos h hc9
      refine lv_iload_n (pc := 27) X.1 X.2.1 dX8_trace_27 rfl (lv_at hl 1 rfl) ?_
      refine lv_aload_n (pc := 28) X.1 X.2.1 dX8_trace_28 rfl (lv_at hl 0 rfl) ?_
      refine M_getr (pc := 29) X G 0 (by decide) (by decide +kernel) fl_X8_7 dX8_trace_29 ?_
      refine lv_sipush (pc := 32) (v := 1792) X.1 X.2.1 dX8_trace_32 (by decide) ?_
      obtain ⟨hix10, h⟩ := rd_some h
      refine M_iald (pc := 35) X G (i := 0) (n := 2153) (by decide +kernel) (by decide) rfl hix10 dX8_trace_35 ?_
      refine lv_topi (fun x10 ex10 => ?_)
      rw [← ex10] at h
      obtain ⟨k11, ek11, h⟩ := jp_some h
      have hk11 : ∀ (x14 : Int32) (H : Heap) (locs : List Loc) (ls : Array Slot), k11 x14 = some res → Mm D κ A ad (celM κ ad r0 z8) s H locs → lv_has ls 3 [] → W p l e rm8_trace s m [.ref (ad 43), .int p0, .int p1].toArray below meth c H locs 0 0 (MQ below (QI D κ A ad (celM κ ad r0 res.1) res.2) [.ref (ad 43), .int p0, .int p1].toArray s 0 0 A) (F0 m 58 ls [.int x14]) := by
        intro x14 H locs ls h G hl
        rw [ek11] at h
        try dsimp only at h
        have h := Option.some.inj h
        exact m_iret (pc := 58) X G hr hlk dX8_trace_58 (congrArg Prod.snd h) (congrArg (fun q : MS × Int32 => celM κ ad r0 q.1) h)
      refine lv_icmp_ge (pc := 36) (tgt := 57) X.1 X.2.1 dX8_trace_36 (by decide) (fun hc12 => ?_) (fun hc12 => ?_)
      · have h := it_pos h hc12
        refine lv_iconst (pc := 57) (v := (-1)) X.1 X.2.1 dX8_trace_57 (by decide) ?_
        exact hk11 (-1) _ _ ls h G (lv_sub hl [] rfl)
      · have h := it_neg h hc12
        refine lv_aload_n (pc := 39) X.1 X.2.1 dX8_trace_39 rfl (lv_at hl 0 rfl) ?_
        refine M_getr (pc := 40) X G 0 (by decide) (by decide +kernel) fl_X8_7 dX8_trace_40 ?_
        refine lv_sipush (pc := 43) (v := 1793) X.1 X.2.1 dX8_trace_43 (by decide) ?_
        refine lv_bipush (pc := 46) (v := 6) X.1 X.2.1 dX8_trace_46 (by decide) ?_
        refine lv_iload_n (pc := 48) X.1 X.2.1 dX8_trace_48 rfl (lv_at hl 1 rfl) ?_
        refine lv_imul (pc := 49) X.1 X.2.1 dX8_trace_49 ?_
        refine lv_iadd (pc := 50) X.1 X.2.1 dX8_trace_50 ?_
        refine lv_iload_n (pc := 51) X.1 X.2.1 dX8_trace_51 rfl (lv_at hl 2 rfl) ?_
        refine lv_iadd (pc := 52) X.1 X.2.1 dX8_trace_52 ?_
        obtain ⟨hix13, h⟩ := rd_some h
        refine M_iald (pc := 53) X G (i := 0) (n := 2153) (by decide +kernel) (by decide) rfl hix13 dX8_trace_53 ?_
        refine lv_topi (fun x13 ex13 => ?_)
        rw [← ex13] at h
        refine lv_goto (pc := 54) (tgt := 58) X.1 X.2.1 dX8_trace_54 (by decide) ?_
        exact hk11 x13 _ _ ls h G (lv_sub hl [] rfl)
    · have h := it_neg h hc9
      refine lv_iconst (pc := 25) (v := 0) X.1 X.2.1 dX8_trace_25 (by decide) ?_
      have h := Option.some.inj h
      exact m_iret (pc := 26) X G hr hlk dX8_trace_26 (congrArg Prod.snd h) (congrArg (fun q : MS × Int32 => celM κ ad r0 q.1) h)
  obtain ⟨k2, ek2, h⟩ := jp_some h
  have hk2 : ∀  (H : Heap) (locs : List Loc) (ls : Array Slot), k2 () = some res → Mm D κ A ad (celM κ ad r0 z) s H locs → lv_has ls 3 [(0, .ref (ad 43)), (1, .int p0), (2, .int p1)] → W p l e rm8_trace s m [.ref (ad 43), .int p0, .int p1].toArray below meth c H locs 0 0 (MQ below (QI D κ A ad (celM κ ad r0 res.1) res.2) [.ref (ad 43), .int p0, .int p1].toArray s 0 0 A) (F0 m 14 ls [.ref (ad 43)]) := by
    intro  H locs ls h G hl
    rw [ek2] at h
    try dsimp only at h
    refine lv_iconst (pc := 14) (v := 1) X.1 X.2.1 dX8_trace_14 (by decide) ?_
    refine lv_goto (pc := 15) (tgt := 19) X.1 X.2.1 dX8_trace_15 (by decide) ?_
    exact hk1 1 _ _ ls h G (lv_sub hl [0, 1, 2] rfl)
  refine lv_if_lt (pc := 2) (tgt := 14) X.1 X.2.1 dX8_trace_2 (by decide) (fun hc3 => ?_) (fun hc3 => ?_)
  · have h := it_pos h hc3
    exact hk2  _ _ ls h G (lv_sub hl [0, 1, 2] rfl)
  · have h := it_neg h hc3
    refine lv_iload_n (pc := 5) X.1 X.2.1 dX8_trace_5 rfl (lv_at hl 2 rfl) ?_
    refine lv_iconst (pc := 6) (v := 0) X.1 X.2.1 dX8_trace_6 (by decide) ?_
    refine lv_iconst (pc := 7) (v := 5) X.1 X.2.1 dX8_trace_7 (by decide) ?_
    obtain ⟨x4, ex4, h⟩ := bn_some h
    refine m_callsi0 (pc := 8) (v := x4) (As := [.int p1, .int 0, .int 5]) (rest := [.ref (ad 43)]) X G (rm := rm8_in) rfl rfl (c8_in l D κ A ad (celM κ ad r0 z) p1 0 5 x4 ex4) g_X8_102 hs_yX8_in ⟨Nat.le_of_ble_eq_true rfl, Nat.le_of_ble_eq_true rfl⟩ rfl hl rfl (lv_room (Nat.le_of_ble_eq_true rfl)) dX8_trace_8 ⟨Nat.le_of_ble_eq_true rfl, Nat.le_of_ble_eq_true rfl⟩ (fun H locs G => ?_)
    refine lv_if_ne (pc := 11) (tgt := 18) X.1 X.2.1 dX8_trace_11 (by decide) (fun hc5 => ?_) (fun hc5 => ?_)
    · have h := it_pos h hc5
      refine lv_iconst (pc := 18) (v := 0) X.1 X.2.1 dX8_trace_18 (by decide) ?_
      exact hk1 0 _ _ ls h G (lv_sub hl [0, 1, 2] rfl)
    · have h := it_neg h (fun q => q hc5)
      exact hk2  _ _ ls h G (lv_sub hl [0, 1, 2] rfl)

abbrev rm8_lengthOf : Room := { frames := 4, cells := 0, slots := 0, locals := 93 }
noncomputable def F8_lengthOf (z : MS) (p0 p1 : Int32) : Option (MS × Int32) :=
  bn (F8_isLetter p0) fun x1 =>
  jp (fun (x6 : Int32) => bn2 (F8_refused z x6) fun z8 x7 =>
  if x7 = 0 then
  bn (F8_isDefined z8 p0) fun x10 =>
  if ¬ x10 = 0 then
  bn (F8_begins z8 27) fun z12 =>
  bd (up2 z12 43 17 p1) fun z13 =>
  bn (F8_opens z13 p0) fun z14 =>
  bn2 (F8_measures z14) fun z16 x15 =>
  jp (fun (x20 : Int32) => some (z16, x20)) fun k17 =>
  if x15 = 0 then
  k17 (-1)
  else
  rd (z16 23) 401 (0 : Int32) fun x19 =>
  k17 x19
  else
  some (z8, (-1))
  else
  some (z8, 0)) fun k2 =>
  if ¬ x1 = 0 then
  bn (F8_in p1 0 20) fun x4 =>
  if x4 = 0 then
  k2 2
  else
  k2 0
  else
  k2 1
set_option maxHeartbeats 4000000 in
set_option maxRecDepth 100000 in
theorem c8_lengthOf (l : Launch) (D : va_G) (κ : Nat → ClassId) (A : Nat → Prop) (ad : Nat → Nat) (r0 : Nat → Option va_E) (z : MS) (p0 p1 : Int32) (res : MS × Int32) (h : F8_lengthOf z p0 p1 = some res) : Met l yX8_lengthOf (gw yX8_lengthOf cX8_lengthOf 3 (some (FieldType.int))) rm8_lengthOf (va_Pc [.ref (ad 43), .int p0, .int p1] (MW D κ A ad (celM κ ad r0 z))) (QI D κ A ad (celM κ ad r0 res.1) res.2) 0 0 A := by
  refine met_of (own := RX8) (by decide +kernel) rfl (Nat.le_of_ble_eq_true rfl) ?_
  intro p e s m below meth c ls X hr hlk G hl
  have hl : lv_has ls 3 [(0, .ref (ad 43)), (1, .int p0), (2, .int p1)] := hl
  unfold F8_lengthOf at h
  refine lv_aload_n (pc := 0) X.1 X.2.1 dX8_lengthOf_0 rfl (lv_at hl 0 rfl) ?_
  refine lv_iload_n (pc := 1) X.1 X.2.1 dX8_lengthOf_1 rfl (lv_at hl 1 rfl) ?_
  obtain ⟨x1, ex1, h⟩ := bn_some h
  refine m_callsi0 (pc := 2) (v := x1) (As := [.int p0]) (rest := [.ref (ad 43)]) X G (rm := rm8_isLetter) rfl rfl (c8_isLetter l D κ A ad (celM κ ad r0 z) p0 x1 ex1) g_X8_132 hs_yX8_isLetter ⟨Nat.le_of_ble_eq_true rfl, Nat.le_of_ble_eq_true rfl⟩ rfl hl rfl (lv_room (Nat.le_of_ble_eq_true rfl)) dX8_lengthOf_2 ⟨Nat.le_of_ble_eq_true rfl, Nat.le_of_ble_eq_true rfl⟩ (fun H locs G => ?_)
  obtain ⟨k2, ek2, h⟩ := jp_some h
  have hk2 : ∀ (x6 : Int32) (H : Heap) (locs : List Loc) (ls : Array Slot), k2 x6 = some res → Mm D κ A ad (celM κ ad r0 z) s H locs → lv_has ls 3 [(0, .ref (ad 43)), (1, .int p0), (2, .int p1)] → W p l e rm8_lengthOf s m [.ref (ad 43), .int p0, .int p1].toArray below meth c H locs 0 0 (MQ below (QI D κ A ad (celM κ ad r0 res.1) res.2) [.ref (ad 43), .int p0, .int p1].toArray s 0 0 A) (F0 m 27 ls [.int x6, .ref (ad 43)]) := by
    intro x6 H locs ls h G hl
    rw [ek2] at h
    try dsimp only at h
    obtain ⟨z8, x7, ex7, h⟩ := bn2_some h
    refine M_calli (pc := 27) (z1 := z8) (v := x7) (As := [.int x6]) (rest := []) X G (rm := rm8_refused) rfl rfl (c8_refused l D κ A ad r0 z x6 (z8, x7) ex7) g_X8_116 hd_yX8_refused ⟨Nat.le_of_ble_eq_true rfl, Nat.le_of_ble_eq_true rfl⟩ rfl hl rfl (lv_room (Nat.le_of_ble_eq_true rfl)) dX8_lengthOf_27 ⟨Nat.le_of_ble_eq_true rfl, Nat.le_of_ble_eq_true rfl⟩ (fun H locs G => ?_)
    refine lv_if_eq (pc := 30) (tgt := 35) X.1 X.2.1 dX8_lengthOf_30 (by decide) (fun hc9 => ?_) (fun hc9 => ?_)
    · have h := it_pos h hc9
      refine lv_aload_n (pc := 35) X.1 X.2.1 dX8_lengthOf_35 rfl (lv_at hl 0 rfl) ?_
      refine lv_iload_n (pc := 36) X.1 X.2.1 dX8_lengthOf_36 rfl (lv_at hl 1 rfl) ?_
      obtain ⟨x10, ex10, h⟩ := bn_some h
      refine M_calli (pc := 37) (z1 := z8) (v := x10) (As := [.int p0]) (rest := []) X G (rm := rm8_isDefined) rfl rfl (c8_isDefined l D κ A ad r0 z8 p0 x10 ex10) g_X8_112 hd_yX8_isDefined ⟨Nat.le_of_ble_eq_true rfl, Nat.le_of_ble_eq_true rfl⟩ rfl hl rfl (lv_room (Nat.le_of_ble_eq_true rfl)) dX8_lengthOf_37 ⟨Nat.le_of_ble_eq_true rfl, Nat.le_of_ble_eq_true rfl⟩ (fun H locs G => ?_)
      refine lv_if_ne (pc := 40) (tgt := 45) X.1 X.2.1 dX8_lengthOf_40 (by decide) (fun hc11 => ?_) (fun hc11 => ?_)
      · have h := it_pos h hc11
        refine lv_aload_n (pc := 45) X.1 X.2.1 dX8_lengthOf_45 rfl (lv_at hl 0 rfl) ?_
        refine lv_bipush (pc := 46) (v := 27) X.1 X.2.1 dX8_lengthOf_46 (by decide) ?_
        obtain ⟨z12, ez12, h⟩ := bn_some h
        refine M_callv (pc := 48) (z1 := z12) (As := [.int 27]) (rest := []) X G (rm := rm8_begins) rfl rfl (c8_begins l D κ A ad r0 z8 27 z12 ez12) g_X8_229 hd_yX8_begins ⟨Nat.le_of_ble_eq_true rfl, Nat.le_of_ble_eq_true rfl⟩ rfl hl rfl (lv_room (Nat.le_of_ble_eq_true rfl)) dX8_lengthOf_48 ⟨Nat.le_of_ble_eq_true rfl, Nat.le_of_ble_eq_true rfl⟩ (fun H locs G => ?_)
        refine lv_aload_n (pc := 51) X.1 X.2.1 dX8_lengthOf_51 rfl (lv_at hl 0 rfl) ?_
        refine lv_iload_n (pc := 52) X.1 X.2.1 dX8_lengthOf_52 rfl (lv_at hl 2 rfl) ?_
        obtain ⟨z13, ez13, h⟩ := bd_some h
        refine M_puti (pc := 53) X G 17 ez13 (by decide) (by decide +kernel) fl_X8_188 dX8_lengthOf_53 (fun H locs G => ?_)
        refine lv_aload_n (pc := 56) X.1 X.2.1 dX8_lengthOf_56 rfl (lv_at hl 0 rfl) ?_
        refine lv_iload_n (pc := 57) X.1 X.2.1 dX8_lengthOf_57 rfl (lv_at hl 1 rfl) ?_
        obtain ⟨z14, ez14, h⟩ := bn_some h
        refine M_callv (pc := 58) (z1 := z14) (As := [.int p0]) (rest := []) X G (rm := rm8_opens) rfl rfl (c8_opens l D κ A ad r0 z13 p0 z14 ez14) g_X8_185 hd_yX8_opens ⟨Nat.le_of_ble_eq_true rfl, Nat.le_of_ble_eq_true rfl⟩ rfl hl rfl (lv_room (Nat.le_of_ble_eq_true rfl)) dX8_lengthOf_58 ⟨Nat.le_of_ble_eq_true rfl, Nat.le_of_ble_eq_true rfl⟩ (fun H locs G => ?_)
        refine lv_aload_n (pc := 61) X.1 X.2.1 dX8_lengthOf_61 rfl (lv_at hl 0 rfl) ?_
        obtain ⟨z16, x15, ex15, h⟩ := bn2_some h
        refine M_calli (pc := 62) (z1 := z16) (v := x15) (As := []) (rest := []) X G (rm := rm8_measures) rfl rfl (c8_measures l D κ A ad r0 z14  (z16, x15) ex15) g_X8_232 hd_yX8_measures ⟨Nat.le_of_ble_eq_true rfl, Nat.le_of_ble_eq_true rfl⟩ rfl hl rfl (lv_room (Nat.le_of_ble_eq_true rfl)) dX8_lengthOf_62 ⟨Nat.le_of_ble_eq_true rfl, Nat.le_of_ble_eq_true rfl⟩ (fun H locs G => ?_)
        obtain ⟨k17, ek17, h⟩ := jp_some h
        have hk17 : ∀ (x20 : Int32) (H : Heap) (locs : List Loc) (ls : Array Slot), k17 x20 = some res → Mm D κ A ad (celM κ ad r0 z16) s H locs → lv_has ls 3 [] → W p l e rm8_lengthOf s m [.ref (ad 43), .int p0, .int p1].toArray below meth c H locs 0 0 (MQ below (QI D κ A ad (celM κ ad r0 res.1) res.2) [.ref (ad 43), .int p0, .int p1].toArray s 0 0 A) (F0 m 78 ls [.int x20]) := by
          intro x20 H locs ls h G hl
          rw [ek17] at h
          try dsimp only at h
          have h := Option.some.inj h
          exact m_iret (pc := 78) X G hr hlk dX8_lengthOf_78 (congrArg Prod.snd h) (congrArg (fun q : MS × Int32 => celM κ ad r0 q.1) h)
        refine lv_if_eq (pc := 65) (tgt := 77) X.1 X.2.1 dX8_lengthOf_65 (by decide) (fun hc18 => ?_) (fun hc18 => ?_)
        · have h := it_pos h hc18
          refine lv_iconst (pc := 77) (v := (-1)) X.1 X.2.1 dX8_lengthOf_77 (by decide) ?_
          exact hk17 (-1) _ _ ls h G (lv_sub hl [] rfl)
        · have h := it_neg h hc18
          refine lv_aload_n (pc := 68) X.1 X.2.1 dX8_lengthOf_68 rfl (lv_at hl 0 rfl) ?_
          refine M_getr (pc := 69) X G 23 (by decide) (by decide +kernel) fl_X8_59 dX8_lengthOf_69 ?_
          refine lv_iconst (pc := 72) (v := 0) X.1 X.2.1 dX8_lengthOf_72 (by decide) ?_
          obtain ⟨hix19, h⟩ := rd_some h
          refine M_iald (pc := 73) X G (i := 23) (n := 401) (by decide +kernel) (by decide) rfl hix19 dX8_lengthOf_73 ?_
          refine lv_topi (fun x19 ex19 => ?_)
          rw [← ex19] at h
          refine lv_goto (pc := 74) (tgt := 78) X.1 X.2.1 dX8_lengthOf_74 (by decide) ?_
          exact hk17 x19 _ _ ls h G (lv_sub hl [] rfl)
      · have h := it_neg h (fun q => q hc11)
        refine lv_iconst (pc := 43) (v := (-1)) X.1 X.2.1 dX8_lengthOf_43 (by decide) ?_
        have h := Option.some.inj h
        exact m_iret (pc := 44) X G hr hlk dX8_lengthOf_44 (congrArg Prod.snd h) (congrArg (fun q : MS × Int32 => celM κ ad r0 q.1) h)
    · have h := it_neg h hc9
      refine lv_iconst (pc := 33) (v := 0) X.1 X.2.1 dX8_lengthOf_33 (by decide) ?_
      have h := Option.some.inj h
      exact m_iret (pc := 34) X G hr hlk dX8_lengthOf_34 (congrArg Prod.snd h) (congrArg (fun q : MS × Int32 => celM κ ad r0 q.1) h)
  refine lv_if_ne (pc := 5) (tgt := 12) X.1 X.2.1 dX8_lengthOf_5 (by decide) (fun hc3 => ?_) (fun hc3 => ?_)
  · have h := it_pos h hc3
    refine lv_iload_n (pc := 12) X.1 X.2.1 dX8_lengthOf_12 rfl (lv_at hl 2 rfl) ?_
    refine lv_iconst (pc := 13) (v := 0) X.1 X.2.1 dX8_lengthOf_13 (by decide) ?_
    refine lv_bipush (pc := 14) (v := 20) X.1 X.2.1 dX8_lengthOf_14 (by decide) ?_
    obtain ⟨x4, ex4, h⟩ := bn_some h
    refine m_callsi0 (pc := 16) (v := x4) (As := [.int p1, .int 0, .int 20]) (rest := [.ref (ad 43)]) X G (rm := rm8_in) rfl rfl (c8_in l D κ A ad (celM κ ad r0 z) p1 0 20 x4 ex4) g_X8_102 hs_yX8_in ⟨Nat.le_of_ble_eq_true rfl, Nat.le_of_ble_eq_true rfl⟩ rfl hl rfl (lv_room (Nat.le_of_ble_eq_true rfl)) dX8_lengthOf_16 ⟨Nat.le_of_ble_eq_true rfl, Nat.le_of_ble_eq_true rfl⟩ (fun H locs G => ?_)
    refine lv_if_eq (pc := 19) (tgt := 26) X.1 X.2.1 dX8_lengthOf_19 (by decide) (fun hc5 => ?_) (fun hc5 => ?_)
    · have h := it_pos h hc5
      refine lv_iconst (pc := 26) (v := 2) X.1 X.2.1 dX8_lengthOf_26 (by decide) ?_
      exact hk2 2 _ _ ls h G (lv_sub hl [0, 1, 2] rfl)
    · have h := it_neg h hc5
      refine lv_iconst (pc := 22) (v := 0) X.1 X.2.1 dX8_lengthOf_22 (by decide) ?_
      refine lv_goto (pc := 23) (tgt := 27) X.1 X.2.1 dX8_lengthOf_23 (by decide) ?_
      exact hk2 0 _ _ ls h G (lv_sub hl [0, 1, 2] rfl)
  · have h := it_neg h (fun q => q hc3)
    refine lv_iconst (pc := 8) (v := 1) X.1 X.2.1 dX8_lengthOf_8 (by decide) ?_
    refine lv_goto (pc := 9) (tgt := 27) X.1 X.2.1 dX8_lengthOf_9 (by decide) ?_
    exact hk2 1 _ _ ls h G (lv_sub hl [0, 1, 2] rfl)

abbrev rm8_callsOfAll : Room := { frames := 3, cells := 0, slots := 0, locals := 65 }
noncomputable def F8_callsOfAll (z : MS)  : Option (Int32) :=
  Loop (fun (q : Int32 × Int32) => (fun (x1 : Int32) (x2 : Int32) =>
  if 26 ≤ x2 then
  some (.inr x1)
  else
  bn (F8_callsOf z x2) fun x4 =>
  bd (x1 + x4) fun x5 =>
  bd (x2 + 1) fun x6 =>
  some (.inl (x5, x6))) q.1 q.2) (0, 0)
set_option maxHeartbeats 4000000 in
set_option maxRecDepth 100000 in
theorem c8_callsOfAll (l : Launch) (D : va_G) (κ : Nat → ClassId) (A : Nat → Prop) (ad : Nat → Nat) (r0 : Nat → Option va_E) (z : MS)  (res : Int32) (h : F8_callsOfAll z  = some res) : Met l yX8_callsOfAll (gw yX8_callsOfAll cX8_callsOfAll 3 (some (FieldType.int))) rm8_callsOfAll (va_Pc [.ref (ad 43)] (MW D κ A ad (celM κ ad r0 z))) (QI D κ A ad (celM κ ad r0 z) res) 0 0 A := by
  refine met_of (own := RX8) (by decide +kernel) rfl (Nat.le_of_ble_eq_true rfl) ?_
  intro p e s m below meth c ls X hr hlk G hl
  have hl : lv_has ls 3 [(0, .ref (ad 43))] := hl
  unfold F8_callsOfAll at h
  refine lv_iconst (pc := 0) (v := 0) X.1 X.2.1 dX8_callsOfAll_0 (by decide) ?_
  refine lv_istore_n (pc := 1) (lv' := [(1, .int 0), (0, .ref (ad 43))]) X.1 X.2.1 dX8_callsOfAll_1 rfl hl (by decide) rfl (fun ls hl => ?_)
  refine lv_iconst (pc := 2) (v := 0) X.1 X.2.1 dX8_callsOfAll_2 (by decide) ?_
  refine lv_istore_n (pc := 3) (lv' := [(2, .int 0), (1, .int 0), (0, .ref (ad 43))]) X.1 X.2.1 dX8_callsOfAll_3 rfl hl (by decide) rfl (fun ls hl => ?_)
  refine Loop_ind (P := fun (q : Int32 × Int32) => ∀ (H : Heap) (locs : List Loc) (ls : Array Slot), Mm D κ A ad (celM κ ad r0 z) s H locs → lv_has ls 3 [(0, .ref (ad 43)), (1, .int q.1), (2, .int q.2)] → W p l e rm8_callsOfAll s m [.ref (ad 43)].toArray below meth c H locs 0 0 (MQ below (QI D κ A ad (celM κ ad r0 z) res) [.ref (ad 43)].toArray s 0 0 A) (F0 m 4 ls [])) ?_ h _ _ ls G (lv_sub hl [2, 1, 0] rfl)
  intro q y1 h ih1 hz1 H locs ls G hl
  obtain ⟨x1, x2⟩ := q
  try dsimp only at h ih1 G hl ⊢
  refine lv_iload_n (pc := 4) X.1 X.2.1 dX8_callsOfAll_4 rfl (lv_at hl 2 rfl) ?_
  refine lv_bipush (pc := 5) (v := 26) X.1 X.2.1 dX8_callsOfAll_5 (by decide) ?_
  refine lv_icmp_ge (pc := 7) (tgt := 24) X.1 X.2.1 dX8_callsOfAll_7 (by decide) (fun hc3 => ?_) (fun hc3 => ?_)
  · have h := it_pos h hc3
    refine lv_iload_n (pc := 24) X.1 X.2.1 dX8_callsOfAll_24 rfl (lv_at hl 1 rfl) ?_
    have h := Option.some.inj h
    have h := hz1 _ h.symm
    exact m_iret (pc := 25) X G hr hlk dX8_callsOfAll_25 h rfl
  · have h := it_neg h hc3
    refine lv_iload_n (pc := 10) X.1 X.2.1 dX8_callsOfAll_10 rfl (lv_at hl 1 rfl) ?_
    refine lv_aload_n (pc := 11) X.1 X.2.1 dX8_callsOfAll_11 rfl (lv_at hl 0 rfl) ?_
    refine lv_iload_n (pc := 12) X.1 X.2.1 dX8_callsOfAll_12 rfl (lv_at hl 2 rfl) ?_
    obtain ⟨x4, ex4, h⟩ := bn_some h
    refine M_calli (pc := 13) (z1 := z) (v := x4) (As := [.int x2]) (rest := [.int x1]) X G (rm := rm8_callsOf) rfl rfl (c8_callsOf l D κ A ad r0 z x2 x4 ex4) g_X8_238 hd_yX8_callsOf ⟨Nat.le_of_ble_eq_true rfl, Nat.le_of_ble_eq_true rfl⟩ rfl hl rfl (lv_room (Nat.le_of_ble_eq_true rfl)) dX8_callsOfAll_13 ⟨Nat.le_of_ble_eq_true rfl, Nat.le_of_ble_eq_true rfl⟩ (fun H locs G => ?_)
    refine lv_iadd (pc := 16) X.1 X.2.1 dX8_callsOfAll_16 ?_
    refine lv_topi (fun x5 ex5 => ?_)
    have h := bd_at h ex5
    refine lv_istore_n (pc := 17) (lv' := [(1, .int x5), (0, .ref (ad 43)), (2, .int x2)]) X.1 X.2.1 dX8_callsOfAll_17 rfl hl (by decide) rfl (fun ls hl => ?_)
    obtain ⟨x6, ex6, h⟩ := bd_some h
    refine lv_iinc (pc := 18) (v := x6) (lv' := [(2, .int x6), (1, .int x5), (0, .ref (ad 43))]) X.1 X.2.1 dX8_callsOfAll_18 hl (k := 2) rfl (by rw [ex6]; rfl) (by decide) rfl (fun ls hl => ?_)
    refine lv_goto (pc := 21) (tgt := 4) X.1 X.2.1 dX8_callsOfAll_21 (by decide) ?_
    have h := Option.some.inj h
    exact ih1 _ h.symm _ _ ls G (lv_sub hl [2, 1, 0] rfl)

abbrev rm8_count : Room := { frames := 4, cells := 0, slots := 0, locals := 87 }
noncomputable def F8_count (z : MS) (p0 : Int32) : Option (MS × Int32) :=
  bn (F8_in p0 0 7) fun x1 =>
  jp (fun (x4 : Int32) => bn2 (F8_refused z x4) fun z6 x5 =>
  if x5 = 0 then
  if p0 = 0 then
  bn (F8_defined z6) fun x8 =>
  some (z6, x8)
  else if p0 = 1 then
  bn (F8_all z6) fun x9 =>
  some (z6, x9)
  else if p0 = 2 then
  rd (z6 0) 2153 (1586 : Int32) fun x10 =>
  some (z6, x10)
  else if p0 = 3 then
  rd (z6 0) 2153 (1790 : Int32) fun x11 =>
  some (z6, x11)
  else if p0 = 4 then
  rd (z6 0) 2153 (1791 : Int32) fun x12 =>
  some (z6, x12)
  else if p0 = 5 then
  bn (F8_callsOfAll z6) fun x13 =>
  some (z6, x13)
  else if p0 = 6 then
  some (z6, z6 43 2)
  else some (z6, z6 43 6)
  else
  some (z6, 0)) fun k2 =>
  if x1 = 0 then
  k2 1
  else
  k2 0
set_option maxHeartbeats 4000000 in
set_option maxRecDepth 100000 in
theorem c8_count (l : Launch) (D : va_G) (κ : Nat → ClassId) (A : Nat → Prop) (ad : Nat → Nat) (r0 : Nat → Option va_E) (z : MS) (p0 : Int32) (res : MS × Int32) (h : F8_count z p0 = some res) : Met l yX8_count (gw yX8_count cX8_count 2 (some (FieldType.int))) rm8_count (va_Pc [.ref (ad 43), .int p0] (MW D κ A ad (celM κ ad r0 z))) (QI D κ A ad (celM κ ad r0 res.1) res.2) 0 0 A := by
  refine met_of (own := RX8) (by decide +kernel) rfl (Nat.le_of_ble_eq_true rfl) ?_
  intro p e s m below meth c ls X hr hlk G hl
  have hl : lv_has ls 2 [(0, .ref (ad 43)), (1, .int p0)] := hl
  unfold F8_count at h
  refine lv_aload_n (pc := 0) X.1 X.2.1 dX8_count_0 rfl (lv_at hl 0 rfl) ?_
  refine lv_iload_n (pc := 1) X.1 X.2.1 dX8_count_1 rfl (lv_at hl 1 rfl) ?_
  refine lv_iconst (pc := 2) (v := 0) X.1 X.2.1 dX8_count_2 (by decide) ?_
  refine lv_bipush (pc := 3) (v := 7) X.1 X.2.1 dX8_count_3 (by decide) ?_
  obtain ⟨x1, ex1, h⟩ := bn_some h
  refine m_callsi0 (pc := 5) (v := x1) (As := [.int p0, .int 0, .int 7]) (rest := [.ref (ad 43)]) X G (rm := rm8_in) rfl rfl (c8_in l D κ A ad (celM κ ad r0 z) p0 0 7 x1 ex1) g_X8_102 hs_yX8_in ⟨Nat.le_of_ble_eq_true rfl, Nat.le_of_ble_eq_true rfl⟩ rfl hl rfl (lv_room (Nat.le_of_ble_eq_true rfl)) dX8_count_5 ⟨Nat.le_of_ble_eq_true rfl, Nat.le_of_ble_eq_true rfl⟩ (fun H locs G => ?_)
  obtain ⟨k2, ek2, h⟩ := jp_some h
  have hk2 : ∀ (x4 : Int32) (H : Heap) (locs : List Loc) (ls : Array Slot), k2 x4 = some res → Mm D κ A ad (celM κ ad r0 z) s H locs → lv_has ls 2 [(0, .ref (ad 43)), (1, .int p0)] → W p l e rm8_count s m [.ref (ad 43), .int p0].toArray below meth c H locs 0 0 (MQ below (QI D κ A ad (celM κ ad r0 res.1) res.2) [.ref (ad 43), .int p0].toArray s 0 0 A) (F0 m 16 ls [.int x4, .ref (ad 43)]) := by
    intro x4 H locs ls h G hl
    rw [ek2] at h
    try dsimp only at h
    obtain ⟨z6, x5, ex5, h⟩ := bn2_some h
    refine M_calli (pc := 16) (z1 := z6) (v := x5) (As := [.int x4]) (rest := []) X G (rm := rm8_refused) rfl rfl (c8_refused l D κ A ad r0 z x4 (z6, x5) ex5) g_X8_116 hd_yX8_refused ⟨Nat.le_of_ble_eq_true rfl, Nat.le_of_ble_eq_true rfl⟩ rfl hl rfl (lv_room (Nat.le_of_ble_eq_true rfl)) dX8_count_16 ⟨Nat.le_of_ble_eq_true rfl, Nat.le_of_ble_eq_true rfl⟩ (fun H locs G => ?_)
    refine lv_if_eq (pc := 19) (tgt := 24) X.1 X.2.1 dX8_count_19 (by decide) (fun hc7 => ?_) (fun hc7 => ?_)
    · have h := it_pos h hc7
      refine lv_iload_n (pc := 24) X.1 X.2.1 dX8_count_24 rfl (lv_at hl 1 rfl) ?_
      by_cases hc14_0 : p0 = 0
      · have h := it_pos h hc14_0
        refine lv_tableIn (pc := 25) (tgt := 68) (off := 43) X.1 X.2.1 dX8_count_25 (by rw [hc14_0]; decide) (by rw [hc14_0]; decide) (by rw [hc14_0]; decide +kernel) (by decide) ?_
        refine lv_aload_n (pc := 68) X.1 X.2.1 dX8_count_68 rfl (lv_at hl 0 rfl) ?_
        obtain ⟨x8, ex8, h⟩ := bn_some h
        refine M_calli (pc := 69) (z1 := z6) (v := x8) (As := []) (rest := []) X G (rm := rm8_defined) rfl rfl (c8_defined l D κ A ad r0 z6  x8 ex8) g_X8_153 hd_yX8_defined ⟨Nat.le_of_ble_eq_true rfl, Nat.le_of_ble_eq_true rfl⟩ rfl hl rfl (lv_room (Nat.le_of_ble_eq_true rfl)) dX8_count_69 ⟨Nat.le_of_ble_eq_true rfl, Nat.le_of_ble_eq_true rfl⟩ (fun H locs G => ?_)
        have h := Option.some.inj h
        exact m_iret (pc := 72) X G hr hlk dX8_count_72 (congrArg Prod.snd h) (congrArg (fun q : MS × Int32 => celM κ ad r0 q.1) h)
      · have h := it_neg h hc14_0
        by_cases hc14_1 : p0 = 1
        · have h := it_pos h hc14_1
          refine lv_tableIn (pc := 25) (tgt := 73) (off := 48) X.1 X.2.1 dX8_count_25 (by rw [hc14_1]; decide) (by rw [hc14_1]; decide) (by rw [hc14_1]; decide +kernel) (by decide) ?_
          refine lv_aload_n (pc := 73) X.1 X.2.1 dX8_count_73 rfl (lv_at hl 0 rfl) ?_
          obtain ⟨x9, ex9, h⟩ := bn_some h
          refine M_calli (pc := 74) (z1 := z6) (v := x9) (As := []) (rest := []) X G (rm := rm8_all) rfl rfl (c8_all l D κ A ad r0 z6  x9 ex9) g_X8_263 hd_yX8_all ⟨Nat.le_of_ble_eq_true rfl, Nat.le_of_ble_eq_true rfl⟩ rfl hl rfl (lv_room (Nat.le_of_ble_eq_true rfl)) dX8_count_74 ⟨Nat.le_of_ble_eq_true rfl, Nat.le_of_ble_eq_true rfl⟩ (fun H locs G => ?_)
          have h := Option.some.inj h
          exact m_iret (pc := 77) X G hr hlk dX8_count_77 (congrArg Prod.snd h) (congrArg (fun q : MS × Int32 => celM κ ad r0 q.1) h)
        · have h := it_neg h hc14_1
          by_cases hc14_2 : p0 = 2
          · have h := it_pos h hc14_2
            refine lv_tableIn (pc := 25) (tgt := 78) (off := 53) X.1 X.2.1 dX8_count_25 (by rw [hc14_2]; decide) (by rw [hc14_2]; decide) (by rw [hc14_2]; decide +kernel) (by decide) ?_
            refine lv_aload_n (pc := 78) X.1 X.2.1 dX8_count_78 rfl (lv_at hl 0 rfl) ?_
            refine M_getr (pc := 79) X G 0 (by decide) (by decide +kernel) fl_X8_7 dX8_count_79 ?_
            refine lv_sipush (pc := 82) (v := 1586) X.1 X.2.1 dX8_count_82 (by decide) ?_
            obtain ⟨hix10, h⟩ := rd_some h
            refine M_iald (pc := 85) X G (i := 0) (n := 2153) (by decide +kernel) (by decide) rfl hix10 dX8_count_85 ?_
            refine lv_topi (fun x10 ex10 => ?_)
            rw [← ex10] at h
            have h := Option.some.inj h
            exact m_iret (pc := 86) X G hr hlk dX8_count_86 (congrArg Prod.snd h) (congrArg (fun q : MS × Int32 => celM κ ad r0 q.1) h)
          · have h := it_neg h hc14_2
            by_cases hc14_3 : p0 = 3
            · have h := it_pos h hc14_3
              refine lv_tableIn (pc := 25) (tgt := 87) (off := 62) X.1 X.2.1 dX8_count_25 (by rw [hc14_3]; decide) (by rw [hc14_3]; decide) (by rw [hc14_3]; decide +kernel) (by decide) ?_
              refine lv_aload_n (pc := 87) X.1 X.2.1 dX8_count_87 rfl (lv_at hl 0 rfl) ?_
              refine M_getr (pc := 88) X G 0 (by decide) (by decide +kernel) fl_X8_7 dX8_count_88 ?_
              refine lv_sipush (pc := 91) (v := 1790) X.1 X.2.1 dX8_count_91 (by decide) ?_
              obtain ⟨hix11, h⟩ := rd_some h
              refine M_iald (pc := 94) X G (i := 0) (n := 2153) (by decide +kernel) (by decide) rfl hix11 dX8_count_94 ?_
              refine lv_topi (fun x11 ex11 => ?_)
              rw [← ex11] at h
              have h := Option.some.inj h
              exact m_iret (pc := 95) X G hr hlk dX8_count_95 (congrArg Prod.snd h) (congrArg (fun q : MS × Int32 => celM κ ad r0 q.1) h)
            · have h := it_neg h hc14_3
              by_cases hc14_4 : p0 = 4
              · have h := it_pos h hc14_4
                refine lv_tableIn (pc := 25) (tgt := 96) (off := 71) X.1 X.2.1 dX8_count_25 (by rw [hc14_4]; decide) (by rw [hc14_4]; decide) (by rw [hc14_4]; decide +kernel) (by decide) ?_
                refine lv_aload_n (pc := 96) X.1 X.2.1 dX8_count_96 rfl (lv_at hl 0 rfl) ?_
                refine M_getr (pc := 97) X G 0 (by decide) (by decide +kernel) fl_X8_7 dX8_count_97 ?_
                refine lv_sipush (pc := 100) (v := 1791) X.1 X.2.1 dX8_count_100 (by decide) ?_
                obtain ⟨hix12, h⟩ := rd_some h
                refine M_iald (pc := 103) X G (i := 0) (n := 2153) (by decide +kernel) (by decide) rfl hix12 dX8_count_103 ?_
                refine lv_topi (fun x12 ex12 => ?_)
                rw [← ex12] at h
                have h := Option.some.inj h
                exact m_iret (pc := 104) X G hr hlk dX8_count_104 (congrArg Prod.snd h) (congrArg (fun q : MS × Int32 => celM κ ad r0 q.1) h)
              · have h := it_neg h hc14_4
                by_cases hc14_5 : p0 = 5
                · have h := it_pos h hc14_5
                  refine lv_tableIn (pc := 25) (tgt := 105) (off := 80) X.1 X.2.1 dX8_count_25 (by rw [hc14_5]; decide) (by rw [hc14_5]; decide) (by rw [hc14_5]; decide +kernel) (by decide) ?_
                  refine lv_aload_n (pc := 105) X.1 X.2.1 dX8_count_105 rfl (lv_at hl 0 rfl) ?_
                  obtain ⟨x13, ex13, h⟩ := bn_some h
                  refine M_calli (pc := 106) (z1 := z6) (v := x13) (As := []) (rest := []) X G (rm := rm8_callsOfAll) rfl rfl (c8_callsOfAll l D κ A ad r0 z6  x13 ex13) g_X8_269 hd_yX8_callsOfAll ⟨Nat.le_of_ble_eq_true rfl, Nat.le_of_ble_eq_true rfl⟩ rfl hl rfl (lv_room (Nat.le_of_ble_eq_true rfl)) dX8_count_106 ⟨Nat.le_of_ble_eq_true rfl, Nat.le_of_ble_eq_true rfl⟩ (fun H locs G => ?_)
                  have h := Option.some.inj h
                  exact m_iret (pc := 109) X G hr hlk dX8_count_109 (congrArg Prod.snd h) (congrArg (fun q : MS × Int32 => celM κ ad r0 q.1) h)
                · have h := it_neg h hc14_5
                  by_cases hc14_6 : p0 = 6
                  · have h := it_pos h hc14_6
                    refine lv_tableIn (pc := 25) (tgt := 110) (off := 85) X.1 X.2.1 dX8_count_25 (by rw [hc14_6]; decide) (by rw [hc14_6]; decide) (by rw [hc14_6]; decide +kernel) (by decide) ?_
                    refine lv_aload_n (pc := 110) X.1 X.2.1 dX8_count_110 rfl (lv_at hl 0 rfl) ?_
                    refine M_geti (pc := 111) X G 2 (by decide) (by decide +kernel) fl_X8_109 dX8_count_111 ?_
                    have h := Option.some.inj h
                    exact m_iret (pc := 114) X G hr hlk dX8_count_114 (congrArg Prod.snd h) (congrArg (fun q : MS × Int32 => celM κ ad r0 q.1) h)
                  · have h := it_neg h hc14_6
                    refine lv_tableOut (pc := 25) (tgt := 115) X.1 X.2.1 dX8_count_25 (sw_out (n := 6) (by decide) (fun k hk => ?_)) (by decide) ?_
                    · rcases (show k = 0 ∨ k = 1 ∨ k = 2 ∨ k = 3 ∨ k = 4 ∨ k = 5 ∨ k = 6 by omega) with rfl | rfl | rfl | rfl | rfl | rfl | rfl
                      · exact hc14_0
                      · exact hc14_1
                      · exact hc14_2
                      · exact hc14_3
                      · exact hc14_4
                      · exact hc14_5
                      · exact hc14_6
                    refine lv_aload_n (pc := 115) X.1 X.2.1 dX8_count_115 rfl (lv_at hl 0 rfl) ?_
                    refine M_geti (pc := 116) X G 6 (by decide) (by decide +kernel) fl_X8_106 dX8_count_116 ?_
                    have h := Option.some.inj h
                    exact m_iret (pc := 119) X G hr hlk dX8_count_119 (congrArg Prod.snd h) (congrArg (fun q : MS × Int32 => celM κ ad r0 q.1) h)
    · have h := it_neg h hc7
      refine lv_iconst (pc := 22) (v := 0) X.1 X.2.1 dX8_count_22 (by decide) ?_
      have h := Option.some.inj h
      exact m_iret (pc := 23) X G hr hlk dX8_count_23 (congrArg Prod.snd h) (congrArg (fun q : MS × Int32 => celM κ ad r0 q.1) h)
  refine lv_if_eq (pc := 8) (tgt := 15) X.1 X.2.1 dX8_count_8 (by decide) (fun hc3 => ?_) (fun hc3 => ?_)
  · have h := it_pos h hc3
    refine lv_iconst (pc := 15) (v := 1) X.1 X.2.1 dX8_count_15 (by decide) ?_
    exact hk2 1 _ _ ls h G (lv_sub hl [0, 1] rfl)
  · have h := it_neg h hc3
    refine lv_iconst (pc := 11) (v := 0) X.1 X.2.1 dX8_count_11 (by decide) ?_
    refine lv_goto (pc := 12) (tgt := 16) X.1 X.2.1 dX8_count_12 (by decide) ?_
    exact hk2 0 _ _ ls h G (lv_sub hl [0, 1] rfl)
