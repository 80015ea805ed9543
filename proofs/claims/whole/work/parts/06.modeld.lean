/-! THE REFERENCE, laid by wip/whole/walk.py: F8_: what a method does; c8_: the machine does it -/
abbrev rm8_measures : Room := { frames := 3, cells := 0, slots := 0, locals := 73 }
noncomputable def F8_measures (z : MS)  : Option (MS × Int32) :=
  jp (fun (_ : Unit) => jp (fun (x71 : Int32) => bz x71 (some (z, x71))) fun k69 =>
  if ¬ (z 43 24) = 0 then
  k69 0
  else
  k69 1) fun k1 =>
  if ¬ (z 43 24) = 0 then
  k1 ()
  else
  jp (fun (_ : Unit) => rd (z 11) 14 (z 43 18) fun x9 =>
  rd (z 10) 14 (z 43 18) fun x10 =>
  bn (F8_longOf z x10) fun x11 =>
  if x11 ≤ x9 then
  rd (z 10) 14 (z 43 18) fun x13 =>
  rd (z 13) 14 (z 43 18) fun x14 =>
  rd (z 23) 401 (z 43 22) fun x15 =>
  rd (z 15) 14 (z 43 18) fun x16 =>
  rd (z 14) 14 (z 43 18) fun x17 =>
  bn (F8_notes z x13 0 ((z 43 18) - 1) x14 (x15 - x16) x17) fun z18 =>
  bd (up2 z18 43 18 ((z18 43 18) - 1)) fun z19 =>
  Loop (fun (q : MS) => (fun (z20 : MS) =>
  jp (fun (_ : Unit) => jp (fun (x43 : Int32) => bz x43 (some (.inr (z20, x43)))) fun k41 =>
  if ¬ (z20 43 24) = 0 then
  k41 0
  else
  k41 1) fun k21 =>
  if ¬ (z20 43 24) = 0 then
  k21 ()
  else
  jp (fun (_ : Unit) => rd (z20 11) 14 (z20 43 18) fun x29 =>
  rd (z20 10) 14 (z20 43 18) fun x30 =>
  bn (F8_longOf z20 x30) fun x31 =>
  if x31 ≤ x29 then
  rd (z20 10) 14 (z20 43 18) fun x33 =>
  rd (z20 13) 14 (z20 43 18) fun x34 =>
  rd (z20 23) 401 (z20 43 22) fun x35 =>
  rd (z20 15) 14 (z20 43 18) fun x36 =>
  rd (z20 14) 14 (z20 43 18) fun x37 =>
  bn (F8_notes z20 x33 0 ((z20 43 18) - 1) x34 (x35 - x36) x37) fun z38 =>
  bd (up2 z38 43 18 ((z38 43 18) - 1)) fun z39 =>
  some (.inl (z39))
  else
  bn (F8_reads z20) fun z40 =>
  some (.inl (z40))) fun k23 =>
  if (0 : Int32) < (z20 43 18) then
  k23 ()
  else
  rd (z20 11) 14 (0 : Int32) fun x25 =>
  rd (z20 10) 14 (0 : Int32) fun x26 =>
  bn (F8_longOf z20 x26) fun x27 =>
  if x27 ≤ x25 then
  k21 ()
  else
  k23 ()) q) (z19)
  else
  bn (F8_reads z) fun z44 =>
  Loop (fun (q : MS) => (fun (z45 : MS) =>
  jp (fun (_ : Unit) => jp (fun (x68 : Int32) => bz x68 (some (.inr (z45, x68)))) fun k66 =>
  if ¬ (z45 43 24) = 0 then
  k66 0
  else
  k66 1) fun k46 =>
  if ¬ (z45 43 24) = 0 then
  k46 ()
  else
  jp (fun (_ : Unit) => rd (z45 11) 14 (z45 43 18) fun x54 =>
  rd (z45 10) 14 (z45 43 18) fun x55 =>
  bn (F8_longOf z45 x55) fun x56 =>
  if x56 ≤ x54 then
  rd (z45 10) 14 (z45 43 18) fun x58 =>
  rd (z45 13) 14 (z45 43 18) fun x59 =>
  rd (z45 23) 401 (z45 43 22) fun x60 =>
  rd (z45 15) 14 (z45 43 18) fun x61 =>
  rd (z45 14) 14 (z45 43 18) fun x62 =>
  bn (F8_notes z45 x58 0 ((z45 43 18) - 1) x59 (x60 - x61) x62) fun z63 =>
  bd (up2 z63 43 18 ((z63 43 18) - 1)) fun z64 =>
  some (.inl (z64))
  else
  bn (F8_reads z45) fun z65 =>
  some (.inl (z65))) fun k48 =>
  if (0 : Int32) < (z45 43 18) then
  k48 ()
  else
  rd (z45 11) 14 (0 : Int32) fun x50 =>
  rd (z45 10) 14 (0 : Int32) fun x51 =>
  bn (F8_longOf z45 x51) fun x52 =>
  if x52 ≤ x50 then
  k46 ()
  else
  k48 ()) q) (z44)) fun k3 =>
  if (0 : Int32) < (z 43 18) then
  k3 ()
  else
  rd (z 11) 14 (0 : Int32) fun x5 =>
  rd (z 10) 14 (0 : Int32) fun x6 =>
  bn (F8_longOf z x6) fun x7 =>
  if x7 ≤ x5 then
  k1 ()
  else
  k3 ()
set_option maxHeartbeats 4000000 in
set_option maxRecDepth 100000 in
theorem c8_measures (l : Launch) (D : va_G) (κ : Nat → ClassId) (A : Nat → Prop) (ad : Nat → Nat) (r0 : Nat → Option va_E) (z : MS)  (res : MS × Int32) (h : F8_measures z  = some res) : Met l yX8_measures (gw yX8_measures cX8_measures 1 (some (FieldType.boolean))) rm8_measures (va_Pc [.ref (ad 43)] (MW D κ A ad (celM κ ad r0 z))) (QI D κ A ad (celM κ ad r0 res.1) res.2) 0 0 A := by
  refine met_of (own := RX8) (by decide +kernel) rfl (Nat.le_of_ble_eq_true rfl) ?_
  intro p e s m below meth c ls X hr hlk G hl
  have hl : lv_has ls 1 [(0, .ref (ad 43))] := hl
  unfold F8_measures at h
  refine lv_aload_n (pc := 0) X.1 X.2.1 dX8_measures_0 rfl (lv_at hl 0 rfl) ?_
  refine M_geti (pc := 1) X G 24 (by decide) (by decide +kernel) fl_X8_159 dX8_measures_1 ?_
  obtain ⟨k1, ek1, h⟩ := jp_some h
  have hk1 : ∀  (H : Heap) (locs : List Loc) (ls : Array Slot), k1 () = some res → Mm D κ A ad (celM κ ad r0 z) s H locs → lv_has ls 1 [(0, .ref (ad 43))] → W p l e rm8_measures s m [.ref (ad 43)].toArray below meth c H locs 0 0 (MQ below (QI D κ A ad (celM κ ad r0 res.1) res.2) [.ref (ad 43)].toArray s 0 0 A) (F0 m 135 ls []) := by
    intro  H locs ls h G hl
    rw [ek1] at h
    try dsimp only at h
    refine lv_aload_n (pc := 135) X.1 X.2.1 dX8_measures_135 rfl (lv_at hl 0 rfl) ?_
    refine M_geti (pc := 136) X G 24 (by decide) (by decide +kernel) fl_X8_159 dX8_measures_136 ?_
    obtain ⟨k69, ek69, h⟩ := jp_some h
    have hk69 : ∀ (x71 : Int32) (H : Heap) (locs : List Loc) (ls : Array Slot), k69 x71 = some res → Mm D κ A ad (celM κ ad r0 z) s H locs → lv_has ls 1 [] → W p l e rm8_measures s m [.ref (ad 43)].toArray below meth c H locs 0 0 (MQ below (QI D κ A ad (celM κ ad r0 res.1) res.2) [.ref (ad 43)].toArray s 0 0 A) (F0 m 147 ls [.int x71]) := by
      intro x71 H locs ls h G hl
      rw [ek69] at h
      try dsimp only at h
      obtain ⟨hb, h⟩ := bz_some h
      have h := Option.some.inj h
      exact m_zret (pc := 147) X G hr hlk dX8_measures_147 hb (congrArg Prod.snd h) (congrArg (fun q : MS × Int32 => celM κ ad r0 q.1) h)
    refine lv_if_ne (pc := 139) (tgt := 146) X.1 X.2.1 dX8_measures_139 (by decide) (fun hc70 => ?_) (fun hc70 => ?_)
    · have h := it_pos h hc70
      refine lv_iconst (pc := 146) (v := 0) X.1 X.2.1 dX8_measures_146 (by decide) ?_
      exact hk69 0 _ _ ls h G (lv_sub hl [] rfl)
    · have h := it_neg h (fun q => q hc70)
      refine lv_iconst (pc := 142) (v := 1) X.1 X.2.1 dX8_measures_142 (by decide) ?_
      refine lv_goto (pc := 143) (tgt := 147) X.1 X.2.1 dX8_measures_143 (by decide) ?_
      exact hk69 1 _ _ ls h G (lv_sub hl [] rfl)
  refine lv_if_ne (pc := 4) (tgt := 135) X.1 X.2.1 dX8_measures_4 (by decide) (fun hc2 => ?_) (fun hc2 => ?_)
  · have h := it_pos h hc2
    exact hk1  _ _ ls h G (lv_sub hl [0] rfl)
  · have h := it_neg h (fun q => q hc2)
    refine lv_aload_n (pc := 7) X.1 X.2.1 dX8_measures_7 rfl (lv_at hl 0 rfl) ?_
    refine M_geti (pc := 8) X G 18 (by decide) (by decide +kernel) fl_X8_166 dX8_measures_8 ?_
    obtain ⟨k3, ek3, h⟩ := jp_some h
    have hk3 : ∀  (H : Heap) (locs : List Loc) (ls : Array Slot), k3 () = some res → Mm D κ A ad (celM κ ad r0 z) s H locs → lv_has ls 1 [(0, .ref (ad 43))] → W p l e rm8_measures s m [.ref (ad 43)].toArray below meth c H locs 0 0 (MQ below (QI D κ A ad (celM κ ad r0 res.1) res.2) [.ref (ad 43)].toArray s 0 0 A) (F0 m 33 ls []) := by
      intro  H locs ls h G hl
      rw [ek3] at h
      try dsimp only at h
      refine lv_aload_n (pc := 33) X.1 X.2.1 dX8_measures_33 rfl (lv_at hl 0 rfl) ?_
      refine M_getr (pc := 34) X G 11 (by decide) (by decide +kernel) fl_X8_32 dX8_measures_34 ?_
      refine lv_aload_n (pc := 37) X.1 X.2.1 dX8_measures_37 rfl (lv_at hl 0 rfl) ?_
      refine M_geti (pc := 38) X G 18 (by decide) (by decide +kernel) fl_X8_166 dX8_measures_38 ?_
      obtain ⟨hix9, h⟩ := rd_some h
      refine M_iald (pc := 41) X G (i := 11) (n := 14) (by decide +kernel) (by decide) rfl hix9 dX8_measures_41 ?_
      refine lv_topi (fun x9 ex9 => ?_)
      rw [← ex9] at h
      refine lv_aload_n (pc := 42) X.1 X.2.1 dX8_measures_42 rfl (lv_at hl 0 rfl) ?_
      refine lv_aload_n (pc := 43) X.1 X.2.1 dX8_measures_43 rfl (lv_at hl 0 rfl) ?_
      refine M_getr (pc := 44) X G 10 (by decide) (by decide +kernel) fl_X8_29 dX8_measures_44 ?_
      refine lv_aload_n (pc := 47) X.1 X.2.1 dX8_measures_47 rfl (lv_at hl 0 rfl) ?_
      refine M_geti (pc := 48) X G 18 (by decide) (by decide +kernel) fl_X8_166 dX8_measures_48 ?_
      obtain ⟨hix10, h⟩ := rd_some h
      refine M_iald (pc := 51) X G (i := 10) (n := 14) (by decide +kernel) (by decide) rfl hix10 dX8_measures_51 ?_
      refine lv_topi (fun x10 ex10 => ?_)
      rw [← ex10] at h
      obtain ⟨x11, ex11, h⟩ := bn_some h
      refine M_calli (pc := 52) (z1 := z) (v := x11) (As := [.int x10]) (rest := [.int x9]) X G (rm := rm8_longOf) rfl rfl (c8_longOf l D κ A ad r0 z x10 x11 ex11) g_X8_191 hd_yX8_longOf ⟨Nat.le_of_ble_eq_true rfl, Nat.le_of_ble_eq_true rfl⟩ rfl hl rfl (lv_room (Nat.le_of_ble_eq_true rfl)) dX8_measures_52 ⟨Nat.le_of_ble_eq_true rfl, Nat.le_of_ble_eq_true rfl⟩ (fun H locs G => ?_)
      refine lv_icmp_ge (pc := 55) (tgt := 65) X.1 X.2.1 dX8_measures_55 (by decide) (fun hc12 => ?_) (fun hc12 => ?_)
      · have h := it_pos h hc12
        refine lv_aload_n (pc := 65) X.1 X.2.1 dX8_measures_65 rfl (lv_at hl 0 rfl) ?_
        refine lv_aload_n (pc := 66) X.1 X.2.1 dX8_measures_66 rfl (lv_at hl 0 rfl) ?_
        refine M_getr (pc := 67) X G 10 (by decide) (by decide +kernel) fl_X8_29 dX8_measures_67 ?_
        refine lv_aload_n (pc := 70) X.1 X.2.1 dX8_measures_70 rfl (lv_at hl 0 rfl) ?_
        refine M_geti (pc := 71) X G 18 (by decide) (by decide +kernel) fl_X8_166 dX8_measures_71 ?_
        obtain ⟨hix13, h⟩ := rd_some h
        refine M_iald (pc := 74) X G (i := 10) (n := 14) (by decide +kernel) (by decide) rfl hix13 dX8_measures_74 ?_
        refine lv_topi (fun x13 ex13 => ?_)
        rw [← ex13] at h
        refine lv_iconst (pc := 75) (v := 0) X.1 X.2.1 dX8_measures_75 (by decide) ?_
        refine lv_aload_n (pc := 76) X.1 X.2.1 dX8_measures_76 rfl (lv_at hl 0 rfl) ?_
        refine M_geti (pc := 77) X G 18 (by decide) (by decide +kernel) fl_X8_166 dX8_measures_77 ?_
        refine lv_iconst (pc := 80) (v := 1) X.1 X.2.1 dX8_measures_80 (by decide) ?_
        refine lv_isub (pc := 81) X.1 X.2.1 dX8_measures_81 ?_
        refine lv_aload_n (pc := 82) X.1 X.2.1 dX8_measures_82 rfl (lv_at hl 0 rfl) ?_
        refine M_getr (pc := 83) X G 13 (by decide) (by decide +kernel) fl_X8_38 dX8_measures_83 ?_
        refine lv_aload_n (pc := 86) X.1 X.2.1 dX8_measures_86 rfl (lv_at hl 0 rfl) ?_
        refine M_geti (pc := 87) X G 18 (by decide) (by decide +kernel) fl_X8_166 dX8_measures_87 ?_
        obtain ⟨hix14, h⟩ := rd_some h
        refine M_iald (pc := 90) X G (i := 13) (n := 14) (by decide +kernel) (by decide) rfl hix14 dX8_measures_90 ?_
        refine lv_topi (fun x14 ex14 => ?_)
        rw [← ex14] at h
        refine lv_aload_n (pc := 91) X.1 X.2.1 dX8_measures_91 rfl (lv_at hl 0 rfl) ?_
        refine M_getr (pc := 92) X G 23 (by decide) (by decide +kernel) fl_X8_59 dX8_measures_92 ?_
        refine lv_aload_n (pc := 95) X.1 X.2.1 dX8_measures_95 rfl (lv_at hl 0 rfl) ?_
        refine M_geti (pc := 96) X G 22 (by decide) (by decide +kernel) fl_X8_156 dX8_measures_96 ?_
        obtain ⟨hix15, h⟩ := rd_some h
        refine M_iald (pc := 99) X G (i := 23) (n := 401) (by decide +kernel) (by decide) rfl hix15 dX8_measures_99 ?_
        refine lv_topi (fun x15 ex15 => ?_)
        rw [← ex15] at h
        refine lv_aload_n (pc := 100) X.1 X.2.1 dX8_measures_100 rfl (lv_at hl 0 rfl) ?_
        refine M_getr (pc := 101) X G 15 (by decide) (by decide +kernel) fl_X8_44 dX8_measures_101 ?_
        refine lv_aload_n (pc := 104) X.1 X.2.1 dX8_measures_104 rfl (lv_at hl 0 rfl) ?_
        refine M_geti (pc := 105) X G 18 (by decide) (by decide +kernel) fl_X8_166 dX8_measures_105 ?_
        obtain ⟨hix16, h⟩ := rd_some h
        refine M_iald (pc := 108) X G (i := 15) (n := 14) (by decide +kernel) (by decide) rfl hix16 dX8_measures_108 ?_
        refine lv_topi (fun x16 ex16 => ?_)
        rw [← ex16] at h
        refine lv_isub (pc := 109) X.1 X.2.1 dX8_measures_109 ?_
        refine lv_aload_n (pc := 110) X.1 X.2.1 dX8_measures_110 rfl (lv_at hl 0 rfl) ?_
        refine M_getr (pc := 111) X G 14 (by decide) (by decide +kernel) fl_X8_41 dX8_measures_111 ?_
        refine lv_aload_n (pc := 114) X.1 X.2.1 dX8_measures_114 rfl (lv_at hl 0 rfl) ?_
        refine M_geti (pc := 115) X G 18 (by decide) (by decide +kernel) fl_X8_166 dX8_measures_115 ?_
        obtain ⟨hix17, h⟩ := rd_some h
        refine M_iald (pc := 118) X G (i := 14) (n := 14) (by decide +kernel) (by decide) rfl hix17 dX8_measures_118 ?_
        refine lv_topi (fun x17 ex17 => ?_)
        rw [← ex17] at h
        obtain ⟨z18, ez18, h⟩ := bn_some h
        refine M_callv (pc := 119) (z1 := z18) (As := [.int x13, .int 0, .int ((z 43 18) - 1), .int x14, .int (x15 - x16), .int x17]) (rest := []) X G (rm := rm8_notes) rfl rfl (c8_notes l D κ A ad r0 z x13 0 ((z 43 18) - 1) x14 (x15 - x16) x17 z18 ez18) g_X8_181 hd_yX8_notes ⟨Nat.le_of_ble_eq_true rfl, Nat.le_of_ble_eq_true rfl⟩ rfl hl rfl (lv_room (Nat.le_of_ble_eq_true rfl)) dX8_measures_119 ⟨Nat.le_of_ble_eq_true rfl, Nat.le_of_ble_eq_true rfl⟩ (fun H locs G => ?_)
        refine lv_aload_n (pc := 122) X.1 X.2.1 dX8_measures_122 rfl (lv_at hl 0 rfl) ?_
        refine lv_dup (pc := 123) X.1 X.2.1 dX8_measures_123 rfl ?_
        refine M_geti (pc := 124) X G 18 (by decide) (by decide +kernel) fl_X8_166 dX8_measures_124 ?_
        refine lv_iconst (pc := 127) (v := 1) X.1 X.2.1 dX8_measures_127 (by decide) ?_
        refine lv_isub (pc := 128) X.1 X.2.1 dX8_measures_128 ?_
        obtain ⟨z19, ez19, h⟩ := bd_some h
        refine M_puti (pc := 129) X G 18 ez19 (by decide) (by decide +kernel) fl_X8_166 dX8_measures_129 (fun H locs G => ?_)
        refine lv_goto (pc := 132) (tgt := 0) X.1 X.2.1 dX8_measures_132 (by decide) ?_
        refine Loop_ind (P := fun (q : MS) => ∀ (H : Heap) (locs : List Loc) (ls : Array Slot), Mm D κ A ad (celM κ ad r0 q) s H locs → lv_has ls 1 [(0, .ref (ad 43))] → W p l e rm8_measures s m [.ref (ad 43)].toArray below meth c H locs 0 0 (MQ below (QI D κ A ad (celM κ ad r0 res.1) res.2) [.ref (ad 43)].toArray s 0 0 A) (F0 m 0 ls [])) ?_ h _ _ ls G (lv_sub hl [0] rfl)
        intro z20 y1 h ih1 hz1 H locs ls G hl
        try dsimp only at h ih1 G hl ⊢
        refine lv_aload_n (pc := 0) X.1 X.2.1 dX8_measures_0 rfl (lv_at hl 0 rfl) ?_
        refine M_geti (pc := 1) X G 24 (by decide) (by decide +kernel) fl_X8_159 dX8_measures_1 ?_
        obtain ⟨k21, ek21, h⟩ := jp_some h
        have hk21 : ∀  (H : Heap) (locs : List Loc) (ls : Array Slot), k21 () = some y1 → Mm D κ A ad (celM κ ad r0 z20) s H locs → lv_has ls 1 [(0, .ref (ad 43))] → W p l e rm8_measures s m [.ref (ad 43)].toArray below meth c H locs 0 0 (MQ below (QI D κ A ad (celM κ ad r0 res.1) res.2) [.ref (ad 43)].toArray s 0 0 A) (F0 m 135 ls []) := by
          intro  H locs ls h G hl
          rw [ek21] at h
          try dsimp only at h
          refine lv_aload_n (pc := 135) X.1 X.2.1 dX8_measures_135 rfl (lv_at hl 0 rfl) ?_
          refine M_geti (pc := 136) X G 24 (by decide) (by decide +kernel) fl_X8_159 dX8_measures_136 ?_
          obtain ⟨k41, ek41, h⟩ := jp_some h
          have hk41 : ∀ (x43 : Int32) (H : Heap) (locs : List Loc) (ls : Array Slot), k41 x43 = some y1 → Mm D κ A ad (celM κ ad r0 z20) s H locs → lv_has ls 1 [] → W p l e rm8_measures s m [.ref (ad 43)].toArray below meth c H locs 0 0 (MQ below (QI D κ A ad (celM κ ad r0 res.1) res.2) [.ref (ad 43)].toArray s 0 0 A) (F0 m 147 ls [.int x43]) := by
            intro x43 H locs ls h G hl
            rw [ek41] at h
            try dsimp only at h
            obtain ⟨hb, h⟩ := bz_some h
            have h := Option.some.inj h
            have h := hz1 _ h.symm
            exact m_zret (pc := 147) X G hr hlk dX8_measures_147 hb (congrArg Prod.snd h) (congrArg (fun q : MS × Int32 => celM κ ad r0 q.1) h)
          refine lv_if_ne (pc := 139) (tgt := 146) X.1 X.2.1 dX8_measures_139 (by decide) (fun hc42 => ?_) (fun hc42 => ?_)
          · have h := it_pos h hc42
            refine lv_iconst (pc := 146) (v := 0) X.1 X.2.1 dX8_measures_146 (by decide) ?_
            exact hk41 0 _ _ ls h G (lv_sub hl [] rfl)
          · have h := it_neg h (fun q => q hc42)
            refine lv_iconst (pc := 142) (v := 1) X.1 X.2.1 dX8_measures_142 (by decide) ?_
            refine lv_goto (pc := 143) (tgt := 147) X.1 X.2.1 dX8_measures_143 (by decide) ?_
            exact hk41 1 _ _ ls h G (lv_sub hl [] rfl)
        refine lv_if_ne (pc := 4) (tgt := 135) X.1 X.2.1 dX8_measures_4 (by decide) (fun hc22 => ?_) (fun hc22 => ?_)
        · have h := it_pos h hc22
          exact hk21  _ _ ls h G (lv_sub hl [0] rfl)
        · have h := it_neg h (fun q => q hc22)
          refine lv_aload_n (pc := 7) X.1 X.2.1 dX8_measures_7 rfl (lv_at hl 0 rfl) ?_
          refine M_geti (pc := 8) X G 18 (by decide) (by decide +kernel) fl_X8_166 dX8_measures_8 ?_
          obtain ⟨k23, ek23, h⟩ := jp_some h
          have hk23 : ∀  (H : Heap) (locs : List Loc) (ls : Array Slot), k23 () = some y1 → Mm D κ A ad (celM κ ad r0 z20) s H locs → lv_has ls 1 [(0, .ref (ad 43))] → W p l e rm8_measures s m [.ref (ad 43)].toArray below meth c H locs 0 0 (MQ below (QI D κ A ad (celM κ ad r0 res.1) res.2) [.ref (ad 43)].toArray s 0 0 A) (F0 m 33 ls []) := by
            intro  H locs ls h G hl
            rw [ek23] at h
            try dsimp only at h
            refine lv_aload_n (pc := 33) X.1 X.2.1 dX8_measures_33 rfl (lv_at hl 0 rfl) ?_
            refine M_getr (pc := 34) X G 11 (by decide) (by decide +kernel) fl_X8_32 dX8_measures_34 ?_
            refine lv_aload_n (pc := 37) X.1 X.2.1 dX8_measures_37 rfl (lv_at hl 0 rfl) ?_
            refine M_geti (pc := 38) X G 18 (by decide) (by decide +kernel) fl_X8_166 dX8_measures_38 ?_
            obtain ⟨hix29, h⟩ := rd_some h
            refine M_iald (pc := 41) X G (i := 11) (n := 14) (by decide +kernel) (by decide) rfl hix29 dX8_measures_41 ?_
            refine lv_topi (fun x29 ex29 => ?_)
            rw [← ex29] at h
            refine lv_aload_n (pc := 42) X.1 X.2.1 dX8_measures_42 rfl (lv_at hl 0 rfl) ?_
            refine lv_aload_n (pc := 43) X.1 X.2.1 dX8_measures_43 rfl (lv_at hl 0 rfl) ?_
            refine M_getr (pc := 44) X G 10 (by decide) (by decide +kernel) fl_X8_29 dX8_measures_44 ?_
            refine lv_aload_n (pc := 47) X.1 X.2.1 dX8_measures_47 rfl (lv_at hl 0 rfl) ?_
            refine M_geti (pc := 48) X G 18 (by decide) (by decide +kernel) fl_X8_166 dX8_measures_48 ?_
            obtain ⟨hix30, h⟩ := rd_some h
            refine M_iald (pc := 51) X G (i := 10) (n := 14) (by decide +kernel) (by decide) rfl hix30 dX8_measures_51 ?_
            refine lv_topi (fun x30 ex30 => ?_)
            rw [← ex30] at h
            obtain ⟨x31, ex31, h⟩ := bn_some h
            refine M_calli (pc := 52) (z1 := z20) (v := x31) (As := [.int x30]) (rest := [.int x29]) X G (rm := rm8_longOf) rfl rfl (c8_longOf l D κ A ad r0 z20 x30 x31 ex31) g_X8_191 hd_yX8_longOf ⟨Nat.le_of_ble_eq_true rfl, Nat.le_of_ble_eq_true rfl⟩ rfl hl rfl (lv_room (Nat.le_of_ble_eq_true rfl)) dX8_measures_52 ⟨Nat.le_of_ble_eq_true rfl, Nat.le_of_ble_eq_true rfl⟩ (fun H locs G => ?_)
            refine lv_icmp_ge (pc := 55) (tgt := 65) X.1 X.2.1 dX8_measures_55 (by decide) (fun hc32 => ?_) (fun hc32 => ?_)
            · have h := it_pos h hc32
              refine lv_aload_n (pc := 65) X.1 X.2.1 dX8_measures_65 rfl (lv_at hl 0 rfl) ?_
              refine lv_aload_n (pc := 66) X.1 X.2.1 dX8_measures_66 rfl (lv_at hl 0 rfl) ?_
              refine M_getr (pc := 67) X G 10 (by decide) (by decide +kernel) fl_X8_29 dX8_measures_67 ?_
              refine lv_aload_n (pc := 70) X.1 X.2.1 dX8_measures_70 rfl (lv_at hl 0 rfl) ?_
              refine M_geti (pc := 71) X G 18 (by decide) (by decide +kernel) fl_X8_166 dX8_measures_71 ?_
              obtain ⟨hix33, h⟩ := rd_some h
              refine M_iald (pc := 74) X G (i := 10) (n := 14) (by decide +kernel) (by decide) rfl hix33 dX8_measures_74 ?_
              refine lv_topi (fun x33 ex33 => ?_)
              rw [← ex33] at h
              refine lv_iconst (pc := 75) (v := 0) X.1 X.2.1 dX8_measures_75 (by decide) ?_
              refine lv_aload_n (pc := 76) X.1 X.2.1 dX8_measures_76 rfl (lv_at hl 0 rfl) ?_
              refine M_geti (pc := 77) X G 18 (by decide) (by decide +kernel) fl_X8_166 dX8_measures_77 ?_
              refine lv_iconst (pc := 80) (v := 1) X.1 X.2.1 dX8_measures_80 (by decide) ?_
              refine lv_isub (pc := 81) X.1 X.2.1 dX8_measures_81 ?_
              refine lv_aload_n (pc := 82) X.1 X.2.1 dX8_measures_82 rfl (lv_at hl 0 rfl) ?_
              refine M_getr (pc := 83) X G 13 (by decide) (by decide +kernel) fl_X8_38 dX8_measures_83 ?_
              refine lv_aload_n (pc := 86) X.1 X.2.1 dX8_measures_86 rfl (lv_at hl 0 rfl) ?_
              refine M_geti (pc := 87) X G 18 (by decide) (by decide +kernel) fl_X8_166 dX8_measures_87 ?_
              obtain ⟨hix34, h⟩ := rd_some h
              refine M_iald (pc := 90) X G (i := 13) (n := 14) (by decide +kernel) (by decide) rfl hix34 dX8_measures_90 ?_
              refine lv_topi (fun x34 ex34 => ?_)
              rw [← ex34] at h
              refine lv_aload_n (pc := 91) X.1 X.2.1 dX8_measures_91 rfl (lv_at hl 0 rfl) ?_
              refine M_getr (pc := 92) X G 23 (by decide) (by decide +kernel) fl_X8_59 dX8_measures_92 ?_
              refine lv_aload_n (pc := 95) X.1 X.2.1 dX8_measures_95 rfl (lv_at hl 0 rfl) ?_
              refine M_geti (pc := 96) X G 22 (by decide) (by decide +kernel) fl_X8_156 dX8_measures_96 ?_
              obtain ⟨hix35, h⟩ := rd_some h
              refine M_iald (pc := 99) X G (i := 23) (n := 401) (by decide +kernel) (by decide) rfl hix35 dX8_measures_99 ?_
              refine lv_topi (fun x35 ex35 => ?_)
              rw [← ex35] at h
              refine lv_aload_n (pc := 100) X.1 X.2.1 dX8_measures_100 rfl (lv_at hl 0 rfl) ?_
              refine M_getr (pc := 101) X G 15 (by decide) (by decide +kernel) fl_X8_44 dX8_measures_101 ?_
              refine lv_aload_n (pc := 104) X.1 X.2.1 dX8_measures_104 rfl (lv_at hl 0 rfl) ?_
              refine M_geti (pc := 105) X G 18 (by decide) (by decide +kernel) fl_X8_166 dX8_measures_105 ?_
              obtain ⟨hix36, h⟩ := rd_some h
              refine M_iald (pc := 108) X G (i := 15) (n := 14) (by decide +kernel) (by decide) rfl hix36 dX8_measures_108 ?_
              refine lv_topi (fun x36 ex36 => ?_)
              rw [← ex36] at h
              refine lv_isub (pc := 109) X.1 X.2.1 dX8_measures_109 ?_
              refine lv_aload_n (pc := 110) X.1 X.2.1 dX8_measures_110 rfl (lv_at hl 0 rfl) ?_
              refine M_getr (pc := 111) X G 14 (by decide) (by decide +kernel) fl_X8_41 dX8_measures_111 ?_
              refine lv_aload_n (pc := 114) X.1 X.2.1 dX8_measures_114 rfl (lv_at hl 0 rfl) ?_
              refine M_geti (pc := 115) X G 18 (by decide) (by decide +kernel) fl_X8_166 dX8_measures_115 ?_
              obtain ⟨hix37, h⟩ := rd_some h
              refine M_iald (pc := 118) X G (i := 14) (n := 14) (by decide +kernel) (by decide) rfl hix37 dX8_measures_118 ?_
              refine lv_topi (fun x37 ex37 => ?_)
              rw [← ex37] at h
              obtain ⟨z38, ez38, h⟩ := bn_some h
              refine M_callv (pc := 119) (z1 := z38) (As := [.int x33, .int 0, .int ((z20 43 18) - 1), .int x34, .int (x35 - x36), .int x37]) (rest := []) X G (rm := rm8_notes) rfl rfl (c8_notes l D κ A ad r0 z20 x33 0 ((z20 43 18) - 1) x34 (x35 - x36) x37 z38 ez38) g_X8_181 hd_yX8_notes ⟨Nat.le_of_ble_eq_true rfl, Nat.le_of_ble_eq_true rfl⟩ rfl hl rfl (lv_room (Nat.le_of_ble_eq_true rfl)) dX8_measures_119 ⟨Nat.le_of_ble_eq_true rfl, Nat.le_of_ble_eq_true rfl⟩ (fun H locs G => ?_)
              refine lv_aload_n (pc := 122) X.1 X.2.1 dX8_measures_122 rfl (lv_at hl 0 rfl) ?_
              refine lv_dup (pc := 123) X.1 X.2.1 dX8_measures_123 rfl ?_
              refine M_geti (pc := 124) X G 18 (by decide) (by decide +kernel) fl_X8_166 dX8_measures_124 ?_
              refine lv_iconst (pc := 127) (v := 1) X.1 X.2.1 dX8_measures_127 (by decide) ?_
              refine lv_isub (pc := 128) X.1 X.2.1 dX8_measures_128 ?_
              obtain ⟨z39, ez39, h⟩ := bd_some h
              refine M_puti (pc := 129) X G 18 ez39 (by decide) (by decide +kernel) fl_X8_166 dX8_measures_129 (fun H locs G => ?_)
              refine lv_goto (pc := 132) (tgt := 0) X.1 X.2.1 dX8_measures_132 (by decide) ?_
              have h := Option.some.inj h
              exact ih1 _ h.symm _ _ ls G (lv_sub hl [0] rfl)
            · have h := it_neg h hc32
              refine lv_aload_n (pc := 58) X.1 X.2.1 dX8_measures_58 rfl (lv_at hl 0 rfl) ?_
              obtain ⟨z40, ez40, h⟩ := bn_some h
              refine M_callv (pc := 59) (z1 := z40) (As := []) (rest := []) X G (rm := rm8_reads) rfl rfl (c8_reads l D κ A ad r0 z20  z40 ez40) g_X8_202 hd_yX8_reads ⟨Nat.le_of_ble_eq_true rfl, Nat.le_of_ble_eq_true rfl⟩ rfl hl rfl (lv_room (Nat.le_of_ble_eq_true rfl)) dX8_measures_59 ⟨Nat.le_of_ble_eq_true rfl, Nat.le_of_ble_eq_true rfl⟩ (fun H locs G => ?_)
              refine lv_goto (pc := 62) (tgt := 0) X.1 X.2.1 dX8_measures_62 (by decide) ?_
              have h := Option.some.inj h
              exact ih1 _ h.symm _ _ ls G (lv_sub hl [0] rfl)
          refine lv_if_gt (pc := 11) (tgt := 33) X.1 X.2.1 dX8_measures_11 (by decide) (fun hc24 => ?_) (fun hc24 => ?_)
          · have h := it_pos h hc24
            exact hk23  _ _ ls h G (lv_sub hl [0] rfl)
          · have h := it_neg h hc24
            refine lv_aload_n (pc := 14) X.1 X.2.1 dX8_measures_14 rfl (lv_at hl 0 rfl) ?_
            refine M_getr (pc := 15) X G 11 (by decide) (by decide +kernel) fl_X8_32 dX8_measures_15 ?_
            refine lv_iconst (pc := 18) (v := 0) X.1 X.2.1 dX8_measures_18 (by decide) ?_
            obtain ⟨hix25, h⟩ := rd_some h
            refine M_iald (pc := 19) X G (i := 11) (n := 14) (by decide +kernel) (by decide) rfl hix25 dX8_measures_19 ?_
            refine lv_topi (fun x25 ex25 => ?_)
            rw [← ex25] at h
            refine lv_aload_n (pc := 20) X.1 X.2.1 dX8_measures_20 rfl (lv_at hl 0 rfl) ?_
            refine lv_aload_n (pc := 21) X.1 X.2.1 dX8_measures_21 rfl (lv_at hl 0 rfl) ?_
            refine M_getr (pc := 22) X G 10 (by decide) (by decide +kernel) fl_X8_29 dX8_measures_22 ?_
            refine lv_iconst (pc := 25) (v := 0) X.1 X.2.1 dX8_measures_25 (by decide) ?_
            obtain ⟨hix26, h⟩ := rd_some h
            refine M_iald (pc := 26) X G (i := 10) (n := 14) (by decide +kernel) (by decide) rfl hix26 dX8_measures_26 ?_
            refine lv_topi (fun x26 ex26 => ?_)
            rw [← ex26] at h
            obtain ⟨x27, ex27, h⟩ := bn_some h
            refine M_calli (pc := 27) (z1 := z20) (v := x27) (As := [.int x26]) (rest := [.int x25]) X G (rm := rm8_longOf) rfl rfl (c8_longOf l D κ A ad r0 z20 x26 x27 ex27) g_X8_191 hd_yX8_longOf ⟨Nat.le_of_ble_eq_true rfl, Nat.le_of_ble_eq_true rfl⟩ rfl hl rfl (lv_room (Nat.le_of_ble_eq_true rfl)) dX8_measures_27 ⟨Nat.le_of_ble_eq_true rfl, Nat.le_of_ble_eq_true rfl⟩ (fun H locs G => ?_)
            refine lv_icmp_ge (pc := 30) (tgt := 135) X.1 X.2.1 dX8_measures_30 (by decide) (fun hc28 => ?_) (fun hc28 => ?_)
            · have h := it_pos h hc28
              exact hk21  _ _ ls h G (lv_sub hl [0] rfl)
            · have h := it_neg h hc28
              exact hk23  _ _ ls h G (lv_sub hl [0] rfl)
      · have h := it_neg h hc12
        refine lv_aload_n (pc := 58) X.1 X.2.1 dX8_measures_58 rfl (lv_at hl 0 rfl) ?_
        obtain ⟨z44, ez44, h⟩ := bn_some h
        refine M_callv (pc := 59) (z1 := z44) (As := []) (rest := []) X G (rm := rm8_reads) rfl rfl (c8_reads l D κ A ad r0 z  z44 ez44) g_X8_202 hd_yX8_reads ⟨Nat.le_of_ble_eq_true rfl, Nat.le_of_ble_eq_true rfl⟩ rfl hl rfl (lv_room (Nat.le_of_ble_eq_true rfl)) dX8_measures_59 ⟨Nat.le_of_ble_eq_true rfl, Nat.le_of_ble_eq_true rfl⟩ (fun H locs G => ?_)
        refine lv_goto (pc := 62) (tgt := 0) X.1 X.2.1 dX8_measures_62 (by decide) ?_
        refine Loop_ind (P := fun (q : MS) => ∀ (H : Heap) (locs : List Loc) (ls : Array Slot), Mm D κ A ad (celM κ ad r0 q) s H locs → lv_has ls 1 [(0, .ref (ad 43))] → W p l e rm8_measures s m [.ref (ad 43)].toArray below meth c H locs 0 0 (MQ below (QI D κ A ad (celM κ ad r0 res.1) res.2) [.ref (ad 43)].toArray s 0 0 A) (F0 m 0 ls [])) ?_ h _ _ ls G (lv_sub hl [0] rfl)
        intro z45 y1 h ih1 hz1 H locs ls G hl
        try dsimp only at h ih1 G hl ⊢
        refine lv_aload_n (pc := 0) X.1 X.2.1 dX8_measures_0 rfl (lv_at hl 0 rfl) ?_
        refine M_geti (pc := 1) X G 24 (by decide) (by decide +kernel) fl_X8_159 dX8_measures_1 ?_
        obtain ⟨k46, ek46, h⟩ := jp_some h
        have hk46 : ∀  (H : Heap) (locs : List Loc) (ls : Array Slot), k46 () = some y1 → Mm D κ A ad (celM κ ad r0 z45) s H locs → lv_has ls 1 [(0, .ref (ad 43))] → W p l e rm8_measures s m [.ref (ad 43)].toArray below meth c H locs 0 0 (MQ below (QI D κ A ad (celM κ ad r0 res.1) res.2) [.ref (ad 43)].toArray s 0 0 A) (F0 m 135 ls []) := by
          intro  H locs ls h G hl
          rw [ek46] at h
          try dsimp only at h
          refine lv_aload_n (pc := 135) X.1 X.2.1 dX8_measures_135 rfl (lv_at hl 0 rfl) ?_
          refine M_geti (pc := 136) X G 24 (by decide) (by decide +kernel) fl_X8_159 dX8_measures_136 ?_
          obtain ⟨k66, ek66, h⟩ := jp_some h
          have hk66 : ∀ (x68 : Int32) (H : Heap) (locs : List Loc) (ls : Array Slot), k66 x68 = some y1 → Mm D κ A ad (celM κ ad r0 z45) s H locs → lv_has ls 1 [] → W p l e rm8_measures s m [.ref (ad 43)].toArray below meth c H locs 0 0 (MQ below (QI D κ A ad (celM κ ad r0 res.1) res.2) [.ref (ad 43)].toArray s 0 0 A) (F0 m 147 ls [.int x68]) := by
            intro x68 H locs ls h G hl
            rw [ek66] at h
            try dsimp only at h
            obtain ⟨hb, h⟩ := bz_some h
            have h := Option.some.inj h
            have h := hz1 _ h.symm
            exact m_zret (pc := 147) X G hr hlk dX8_measures_147 hb (congrArg Prod.snd h) (congrArg (fun q : MS × Int32 => celM κ ad r0 q.1) h)
          refine lv_if_ne (pc := 139) (tgt := 146) X.1 X.2.1 dX8_measures_139 (by decide) (fun hc67 => ?_) (fun hc67 => ?_)
          · have h := it_pos h hc67
            refine lv_iconst (pc := 146) (v := 0) X.1 X.2.1 dX8_measures_146 (by decide) ?_
            exact hk66 0 _ _ ls h G (lv_sub hl [] rfl)
          · have h := it_neg h (fun q => q hc67)
            refine lv_iconst (pc := 142) (v := 1) X.1 X.2.1 dX8_measures_142 (by decide) ?_
            refine lv_goto (pc := 143) (tgt := 147) X.1 X.2.1 dX8_measures_143 (by decide) ?_
            exact hk66 1 _ _ ls h G (lv_sub hl [] rfl)
        refine lv_if_ne (pc := 4) (tgt := 135) X.1 X.2.1 dX8_measures_4 (by decide) (fun hc47 => ?_) (fun hc47 => ?_)
        · have h := it_pos h hc47
          exact hk46  _ _ ls h G (lv_sub hl [0] rfl)
        · have h := it_neg h (fun q => q hc47)
          refine lv_aload_n (pc := 7) X.1 X.2.1 dX8_measures_7 rfl (lv_at hl 0 rfl) ?_
          refine M_geti (pc := 8) X G 18 (by decide) (by decide +kernel) fl_X8_166 dX8_measures_8 ?_
          obtain ⟨k48, ek48, h⟩ := jp_some h
          have hk48 : ∀  (H : Heap) (locs : List Loc) (ls : Array Slot), k48 () = some y1 → Mm D κ A ad (celM κ ad r0 z45) s H locs → lv_has ls 1 [(0, .ref (ad 43))] → W p l e rm8_measures s m [.ref (ad 43)].toArray below meth c H locs 0 0 (MQ below (QI D κ A ad (celM κ ad r0 res.1) res.2) [.ref (ad 43)].toArray s 0 0 A) (F0 m 33 ls []) := by
            intro  H locs ls h G hl
            rw [ek48] at h
            try dsimp only at h
            refine lv_aload_n (pc := 33) X.1 X.2.1 dX8_measures_33 rfl (lv_at hl 0 rfl) ?_
            refine M_getr (pc := 34) X G 11 (by decide) (by decide +kernel) fl_X8_32 dX8_measures_34 ?_
            refine lv_aload_n (pc := 37) X.1 X.2.1 dX8_measures_37 rfl (lv_at hl 0 rfl) ?_
            refine M_geti (pc := 38) X G 18 (by decide) (by decide +kernel) fl_X8_166 dX8_measures_38 ?_
            obtain ⟨hix54, h⟩ := rd_some h
            refine M_iald (pc := 41) X G (i := 11) (n := 14) (by decide +kernel) (by decide) rfl hix54 dX8_measures_41 ?_
            refine lv_topi (fun x54 ex54 => ?_)
            rw [← ex54] at h
            refine lv_aload_n (pc := 42) X.1 X.2.1 dX8_measures_42 rfl (lv_at hl 0 rfl) ?_
            refine lv_aload_n (pc := 43) X.1 X.2.1 dX8_measures_43 rfl (lv_at hl 0 rfl) ?_
            refine M_getr (pc := 44) X G 10 (by decide) (by decide +kernel) fl_X8_29 dX8_measures_44 ?_
            refine lv_aload_n (pc := 47) X.1 X.2.1 dX8_measures_47 rfl (lv_at hl 0 rfl) ?_
            refine M_geti (pc := 48) X G 18 (by decide) (by decide +kernel) fl_X8_166 dX8_measures_48 ?_
            obtain ⟨hix55, h⟩ := rd_some h
            refine M_iald (pc := 51) X G (i := 10) (n := 14) (by decide +kernel) (by decide) rfl hix55 dX8_measures_51 ?_
            refine lv_topi (fun x55 ex55 => ?_)
            rw [← ex55] at h
            obtain ⟨x56, ex56, h⟩ := bn_some h
            refine M_calli (pc := 52) (z1 := z45) (v := x56) (As := [.int x55]) (rest := [.int x54]) X G (rm := rm8_longOf) rfl rfl (c8_longOf l D κ A ad r0 z45 x55 x56 ex56) g_X8_191 hd_yX8_longOf ⟨Nat.le_of_ble_eq_true rfl, Nat.le_of_ble_eq_true rfl⟩ rfl hl rfl (lv_room (Nat.le_of_ble_eq_true rfl)) dX8_measures_52 ⟨Nat.le_of_ble_eq_true rfl, Nat.le_of_ble_eq_true rfl⟩ (fun H locs G => ?_)
            refine lv_icmp_ge (pc := 55) (tgt := 65) X.1 X.2.1 dX8_measures_55 (by decide) (fun hc57 => ?_) (fun hc57 => ?_)
            · have h := it_pos h hc57
              refine lv_aload_n (pc := 65) X.1 X.2.1 dX8_measures_65 rfl (lv_at hl 0 rfl) ?_
              refine lv_aload_n (pc := 66) X.1 X.2.1 dX8_measures_66 rfl (lv_at hl 0 rfl) ?_
              refine M_getr (pc := 67) X G 10 (by decide) (by decide +kernel) fl_X8_29 dX8_measures_67 ?_
              refine lv_aload_n (pc := 70) X.1 X.2.1 dX8_measures_70 rfl (lv_at hl 0 rfl) ?_
              refine M_geti (pc := 71) X G 18 (by decide) (by decide +kernel) fl_X8_166 dX8_measures_71 ?_
              obtain ⟨hix58, h⟩ := rd_some h
              refine M_iald (pc := 74) X G (i := 10) (n := 14) (by decide +kernel) (by decide) rfl hix58 dX8_measures_74 ?_
              refine lv_topi (fun x58 ex58 => ?_)
              rw [← ex58] at h
              refine lv_iconst (pc := 75) (v := 0) X.1 X.2.1 dX8_measures_75 (by decide) ?_
              refine lv_aload_n (pc := 76) X.1 X.2.1 dX8_measures_76 rfl (lv_at hl 0 rfl) ?_
              refine M_geti (pc := 77) X G 18 (by decide) (by decide +kernel) fl_X8_166 dX8_measures_77 ?_
              refine lv_iconst (pc := 80) (v := 1) X.1 X.2.1 dX8_measures_80 (by decide) ?_
              refine lv_isub (pc := 81) X.1 X.2.1 dX8_measures_81 ?_
              refine lv_aload_n (pc := 82) X.1 X.2.1 dX8_measures_82 rfl (lv_at hl 0 rfl) ?_
              refine M_getr (pc := 83) X G 13 (by decide) (by decide +kernel) fl_X8_38 dX8_measures_83 ?_
              refine lv_aload_n (pc := 86) X.1 X.2.1 dX8_measures_86 rfl (lv_at hl 0 rfl) ?_
              refine M_geti (pc := 87) X G 18 (by decide) (by decide +kernel) fl_X8_166 dX8_measures_87 ?_
              obtain ⟨hix59, h⟩ := rd_some h
              refine M_iald (pc := 90) X G (i := 13) (n := 14) (by decide +kernel) (by decide) rfl hix59 dX8_measures_90 ?_
              refine lv_topi (fun x59 ex59 => ?_)
              rw [← ex59] at h
              refine lv_aload_n (pc := 91) X.1 X.2.1 dX8_measures_91 rfl (lv_at hl 0 rfl) ?_
              refine M_getr (pc := 92) X G 23 (by decide) (by decide +kernel) fl_X8_59 dX8_measures_92 ?_
              refine lv_aload_n (pc := 95) X.1 X.2.1 dX8_measures_95 rfl (lv_at hl 0 rfl) ?_
              refine M_geti (pc := 96) X G 22 (by decide) (by decide +kernel) fl_X8_156 dX8_measures_96 ?_
              obtain ⟨hix60, h⟩ := rd_some h
              refine M_iald (pc := 99) X G (i := 23) (n := 401) (by decide +kernel) (by decide) rfl hix60 dX8_measures_99 ?_
              refine lv_topi (fun x60 ex60 => ?_)
              rw [← ex60] at h
              refine lv_aload_n (pc := 100) X.1 X.2.1 dX8_measures_100 rfl (lv_at hl 0 rfl) ?_
              refine M_getr (pc := 101) X G 15 (by decide) (by decide +kernel) fl_X8_44 dX8_measures_101 ?_
              refine lv_aload_n (pc := 104) X.1 X.2.1 dX8_measures_104 rfl (lv_at hl 0 rfl) ?_
              refine M_geti (pc := 105) X G 18 (by decide) (by decide +kernel) fl_X8_166 dX8_measures_105 ?_
              obtain ⟨hix61, h⟩ := rd_some h
              refine M_iald (pc := 108) X G (i := 15) (n := 14) (by decide +kernel) (by decide) rfl hix61 dX8_measures_108 ?_
              refine lv_topi (fun x61 ex61 => ?_)
              rw [← ex61] at h
              refine lv_isub (pc := 109) X.1 X.2.1 dX8_measures_109 ?_
              refine lv_aload_n (pc := 110) X.1 X.2.1 dX8_measures_110 rfl (lv_at hl 0 rfl) ?_
              refine M_getr (pc := 111) X G 14 (by decide) (by decide +kernel) fl_X8_41 dX8_measures_111 ?_
              refine lv_aload_n (pc := 114) X.1 X.2.1 dX8_measures_114 rfl (lv_at hl 0 rfl) ?_
              refine M_geti (pc := 115) X G 18 (by decide) (by decide +kernel) fl_X8_166 dX8_measures_115 ?_
              obtain ⟨hix62, h⟩ := rd_some h
              refine M_iald (pc := 118) X G (i := 14) (n := 14) (by decide +kernel) (by decide) rfl hix62 dX8_measures_118 ?_
              refine lv_topi (fun x62 ex62 => ?_)
              rw [← ex62] at h
              obtain ⟨z63, ez63, h⟩ := bn_some h
              refine M_callv (pc := 119) (z1 := z63) (As := [.int x58, .int 0, .int ((z45 43 18) - 1), .int x59, .int (x60 - x61), .int x62]) (rest := []) X G (rm := rm8_notes) rfl rfl (c8_notes l D κ A ad r0 z45 x58 0 ((z45 43 18) - 1) x59 (x60 - x61) x62 z63 ez63) g_X8_181 hd_yX8_notes ⟨Nat.le_of_ble_eq_true rfl, Nat.le_of_ble_eq_true rfl⟩ rfl hl rfl (lv_room (Nat.le_of_ble_eq_true rfl)) dX8_measures_119 ⟨Nat.le_of_ble_eq_true rfl, Nat.le_of_ble_eq_true rfl⟩ (fun H locs G => ?_)
              refine lv_aload_n (pc := 122) X.1 X.2.1 dX8_measures_122 rfl (lv_at hl 0 rfl) ?_
              refine lv_dup (pc := 123) X.1 X.2.1 dX8_measures_123 rfl ?_
              refine M_geti (pc := 124) X G 18 (by decide) (by decide +kernel) fl_X8_166 dX8_measures_124 ?_
              refine lv_iconst (pc := 127) (v := 1) X.1 X.2.1 dX8_measures_127 (by decide) ?_
              refine lv_isub (pc := 128) X.1 X.2.1 dX8_measures_128 ?_
              obtain ⟨z64, ez64, h⟩ := bd_some h
              refine M_puti (pc := 129) X G 18 ez64 (by decide) (by decide +kernel) fl_X8_166 dX8_measures_129 (fun H locs G => ?_)
              refine lv_goto (pc := 132) (tgt := 0) X.1 X.2.1 dX8_measures_132 (by decide) ?_
              have h := Option.some.inj h
              exact ih1 _ h.symm _ _ ls G (lv_sub hl [0] rfl)
            · have h := it_neg h hc57
              refine lv_aload_n (pc := 58) X.1 X.2.1 dX8_measures_58 rfl (lv_at hl 0 rfl) ?_
              obtain ⟨z65, ez65, h⟩ := bn_some h
              refine M_callv (pc := 59) (z1 := z65) (As := []) (rest := []) X G (rm := rm8_reads) rfl rfl (c8_reads l D κ A ad r0 z45  z65 ez65) g_X8_202 hd_yX8_reads ⟨Nat.le_of_ble_eq_true rfl, Nat.le_of_ble_eq_true rfl⟩ rfl hl rfl (lv_room (Nat.le_of_ble_eq_true rfl)) dX8_measures_59 ⟨Nat.le_of_ble_eq_true rfl, Nat.le_of_ble_eq_true rfl⟩ (fun H locs G => ?_)
              refine lv_goto (pc := 62) (tgt := 0) X.1 X.2.1 dX8_measures_62 (by decide) ?_
              have h := Option.some.inj h
              exact ih1 _ h.symm _ _ ls G (lv_sub hl [0] rfl)
          refine lv_if_gt (pc := 11) (tgt := 33) X.1 X.2.1 dX8_measures_11 (by decide) (fun hc49 => ?_) (fun hc49 => ?_)
          · have h := it_pos h hc49
            exact hk48  _ _ ls h G (lv_sub hl [0] rfl)
          · have h := it_neg h hc49
            refine lv_aload_n (pc := 14) X.1 X.2.1 dX8_measures_14 rfl (lv_at hl 0 rfl) ?_
            refine M_getr (pc := 15) X G 11 (by decide) (by decide +kernel) fl_X8_32 dX8_measures_15 ?_
            refine lv_iconst (pc := 18) (v := 0) X.1 X.2.1 dX8_measures_18 (by decide) ?_
            obtain ⟨hix50, h⟩ := rd_some h
            refine M_iald (pc := 19) X G (i := 11) (n := 14) (by decide +kernel) (by decide) rfl hix50 dX8_measures_19 ?_
            refine lv_topi (fun x50 ex50 => ?_)
            rw [← ex50] at h
            refine lv_aload_n (pc := 20) X.1 X.2.1 dX8_measures_20 rfl (lv_at hl 0 rfl) ?_
            refine lv_aload_n (pc := 21) X.1 X.2.1 dX8_measures_21 rfl (lv_at hl 0 rfl) ?_
            refine M_getr (pc := 22) X G 10 (by decide) (by decide +kernel) fl_X8_29 dX8_measures_22 ?_
            refine lv_iconst (pc := 25) (v := 0) X.1 X.2.1 dX8_measures_25 (by decide) ?_
            obtain ⟨hix51, h⟩ := rd_some h
            refine M_iald (pc := 26) X G (i := 10) (n := 14) (by decide +kernel) (by decide) rfl hix51 dX8_measures_26 ?_
            refine lv_topi (fun x51 ex51 => ?_)
            rw [← ex51] at h
            obtain ⟨x52, ex52, h⟩ := bn_some h
            refine M_calli (pc := 27) (z1 := z45) (v := x52) (As := [.int x51]) (rest := [.int x50]) X G (rm := rm8_longOf) rfl rfl (c8_longOf l D κ A ad r0 z45 x51 x52 ex52) g_X8_191 hd_yX8_longOf ⟨Nat.le_of_ble_eq_true rfl, Nat.le_of_ble_eq_true rfl⟩ rfl hl rfl (lv_room (Nat.le_of_ble_eq_true rfl)) dX8_measures_27 ⟨Nat.le_of_ble_eq_true rfl, Nat.le_of_ble_eq_true rfl⟩ (fun H locs G => ?_)
            refine lv_icmp_ge (pc := 30) (tgt := 135) X.1 X.2.1 dX8_measures_30 (by decide) (fun hc53 => ?_) (fun hc53 => ?_)
            · have h := it_pos h hc53
              exact hk46  _ _ ls h G (lv_sub hl [0] rfl)
            · have h := it_neg h hc53
              exact hk48  _ _ ls h G (lv_sub hl [0] rfl)
    refine lv_if_gt (pc := 11) (tgt := 33) X.1 X.2.1 dX8_measures_11 (by decide) (fun hc4 => ?_) (fun hc4 => ?_)
    · have h := it_pos h hc4
      exact hk3  _ _ ls h G (lv_sub hl [0] rfl)
    · have h := it_neg h hc4
      refine lv_aload_n (pc := 14) X.1 X.2.1 dX8_measures_14 rfl (lv_at hl 0 rfl) ?_
      refine M_getr (pc := 15) X G 11 (by decide) (by decide +kernel) fl_X8_32 dX8_measures_15 ?_
      refine lv_iconst (pc := 18) (v := 0) X.1 X.2.1 dX8_measures_18 (by decide) ?_
      obtain ⟨hix5, h⟩ := rd_some h
      refine M_iald (pc := 19) X G (i := 11) (n := 14) (by decide +kernel) (by decide) rfl hix5 dX8_measures_19 ?_
      refine lv_topi (fun x5 ex5 => ?_)
      rw [← ex5] at h
      refine lv_aload_n (pc := 20) X.1 X.2.1 dX8_measures_20 rfl (lv_at hl 0 rfl) ?_
      refine lv_aload_n (pc := 21) X.1 X.2.1 dX8_measures_21 rfl (lv_at hl 0 rfl) ?_
      refine M_getr (pc := 22) X G 10 (by decide) (by decide +kernel) fl_X8_29 dX8_measures_22 ?_
      refine lv_iconst (pc := 25) (v := 0) X.1 X.2.1 dX8_measures_25 (by decide) ?_
      obtain ⟨hix6, h⟩ := rd_some h
      refine M_iald (pc := 26) X G (i := 10) (n := 14) (by decide +kernel) (by decide) rfl hix6 dX8_measures_26 ?_
      refine lv_topi (fun x6 ex6 => ?_)
      rw [← ex6] at h
      obtain ⟨x7, ex7, h⟩ := bn_some h
      refine M_calli (pc := 27) (z1 := z) (v := x7) (As := [.int x6]) (rest := [.int x5]) X G (rm := rm8_longOf) rfl rfl (c8_longOf l D κ A ad r0 z x6 x7 ex7) g_X8_191 hd_yX8_longOf ⟨Nat.le_of_ble_eq_true rfl, Nat.le_of_ble_eq_true rfl⟩ rfl hl rfl (lv_room (Nat.le_of_ble_eq_true rfl)) dX8_measures_27 ⟨Nat.le_of_ble_eq_true rfl, Nat.le_of_ble_eq_true rfl⟩ (fun H locs G => ?_)
      refine lv_icmp_ge (pc := 30) (tgt := 135) X.1 X.2.1 dX8_measures_30 (by decide) (fun hc8 => ?_) (fun hc8 => ?_)
      · have h := it_pos h hc8
        exact hk1  _ _ ls h G (lv_sub hl [0] rfl)
      · have h := it_neg h hc8
        exact hk3  _ _ ls h G (lv_sub hl [0] rfl)

abbrev rm8_begins : Room := { frames := 0, cells := 0, slots := 0, locals := 0 }
noncomputable def F8_begins (z : MS) (p0 : Int32) : Option (MS) :=
  bd (up2 z 43 18 0) fun z1 =>
  wr z1 10 14 0 p0 fun z2 =>
  wr z2 11 14 0 0 fun z3 =>
  wr z3 12 14 0 0 fun z4 =>
  bd (up2 z4 43 22 0) fun z5 =>
  wr z5 23 401 0 0 fun z6 =>
  bz 0 <|
  bd (up2 z6 43 24 0) fun z7 =>
  bd (up2 z7 43 25 0) fun z8 =>
  bd (up2 z8 43 26 0) fun z9 =>
  bd (up2 z9 43 28 0) fun z10 =>
  bd (up2 z10 43 17 (-1)) fun z11 =>
  some z11
set_option maxHeartbeats 4000000 in
set_option maxRecDepth 100000 in
theorem c8_begins (l : Launch) (D : va_G) (κ : Nat → ClassId) (A : Nat → Prop) (ad : Nat → Nat) (r0 : Nat → Option va_E) (z : MS) (p0 : Int32) (res : MS) (h : F8_begins z p0 = some res) : Met l yX8_begins (gw yX8_begins cX8_begins 2 none) rm8_begins (va_Pc [.ref (ad 43), .int p0] (MW D κ A ad (celM κ ad r0 z))) (QV D κ A ad (celM κ ad r0 res)) 0 0 A := by
  refine met_of (own := RX8) (by decide +kernel) rfl (Nat.le_of_ble_eq_true rfl) ?_
  intro p e s m below meth c ls X hr hlk G hl
  have hl : lv_has ls 2 [(0, .ref (ad 43)), (1, .int p0)] := hl
  unfold F8_begins at h
  refine lv_aload_n (pc := 0) X.1 X.2.1 dX8_begins_0 rfl (lv_at hl 0 rfl) ?_
  refine lv_iconst (pc := 1) (v := 0) X.1 X.2.1 dX8_begins_1 (by decide) ?_
  obtain ⟨z1, ez1, h⟩ := bd_some h
  refine M_puti (pc := 2) X G 18 ez1 (by decide) (by decide +kernel) fl_X8_166 dX8_begins_2 (fun H locs G => ?_)
  refine lv_aload_n (pc := 5) X.1 X.2.1 dX8_begins_5 rfl (lv_at hl 0 rfl) ?_
  refine M_getr (pc := 6) X G 10 (by decide) (by decide +kernel) fl_X8_29 dX8_begins_6 ?_
  refine lv_iconst (pc := 9) (v := 0) X.1 X.2.1 dX8_begins_9 (by decide) ?_
  refine lv_iload_n (pc := 10) X.1 X.2.1 dX8_begins_10 rfl (lv_at hl 1 rfl) ?_
  obtain ⟨hiz2, z2, ez2, h⟩ := wr_some h
  refine M_iast (pc := 11) X G (i := 10) (n := 14) ez2 (by decide +kernel) (by decide) rfl hiz2 dX8_begins_11 (fun H locs G => ?_)
  refine lv_aload_n (pc := 12) X.1 X.2.1 dX8_begins_12 rfl (lv_at hl 0 rfl) ?_
  refine M_getr (pc := 13) X G 11 (by decide) (by decide +kernel) fl_X8_32 dX8_begins_13 ?_
  refine lv_iconst (pc := 16) (v := 0) X.1 X.2.1 dX8_begins_16 (by decide) ?_
  refine lv_iconst (pc := 17) (v := 0) X.1 X.2.1 dX8_begins_17 (by decide) ?_
  obtain ⟨hiz3, z3, ez3, h⟩ := wr_some h
  refine M_iast (pc := 18) X G (i := 11) (n := 14) ez3 (by decide +kernel) (by decide) rfl hiz3 dX8_begins_18 (fun H locs G => ?_)
  refine lv_aload_n (pc := 19) X.1 X.2.1 dX8_begins_19 rfl (lv_at hl 0 rfl) ?_
  refine M_getr (pc := 20) X G 12 (by decide) (by decide +kernel) fl_X8_35 dX8_begins_20 ?_
  refine lv_iconst (pc := 23) (v := 0) X.1 X.2.1 dX8_begins_23 (by decide) ?_
  refine lv_iconst (pc := 24) (v := 0) X.1 X.2.1 dX8_begins_24 (by decide) ?_
  obtain ⟨hiz4, z4, ez4, h⟩ := wr_some h
  refine M_iast (pc := 25) X G (i := 12) (n := 14) ez4 (by decide +kernel) (by decide) rfl hiz4 dX8_begins_25 (fun H locs G => ?_)
  refine lv_aload_n (pc := 26) X.1 X.2.1 dX8_begins_26 rfl (lv_at hl 0 rfl) ?_
  refine lv_iconst (pc := 27) (v := 0) X.1 X.2.1 dX8_begins_27 (by decide) ?_
  obtain ⟨z5, ez5, h⟩ := bd_some h
  refine M_puti (pc := 28) X G 22 ez5 (by decide) (by decide +kernel) fl_X8_156 dX8_begins_28 (fun H locs G => ?_)
  refine lv_aload_n (pc := 31) X.1 X.2.1 dX8_begins_31 rfl (lv_at hl 0 rfl) ?_
  refine M_getr (pc := 32) X G 23 (by decide) (by decide +kernel) fl_X8_59 dX8_begins_32 ?_
  refine lv_iconst (pc := 35) (v := 0) X.1 X.2.1 dX8_begins_35 (by decide) ?_
  refine lv_iconst (pc := 36) (v := 0) X.1 X.2.1 dX8_begins_36 (by decide) ?_
  obtain ⟨hiz6, z6, ez6, h⟩ := wr_some h
  refine M_iast (pc := 37) X G (i := 23) (n := 401) ez6 (by decide +kernel) (by decide) rfl hiz6 dX8_begins_37 (fun H locs G => ?_)
  refine lv_aload_n (pc := 38) X.1 X.2.1 dX8_begins_38 rfl (lv_at hl 0 rfl) ?_
  refine lv_iconst (pc := 39) (v := 0) X.1 X.2.1 dX8_begins_39 (by decide) ?_
  obtain ⟨hbz7, h⟩ := bz_some h
  obtain ⟨z7, ez7, h⟩ := bd_some h
  refine M_putz (pc := 40) X G 24 ez7 (by decide) (by decide +kernel) hbz7 fl_X8_159 dX8_begins_40 (fun H locs G => ?_)
  refine lv_aload_n (pc := 43) X.1 X.2.1 dX8_begins_43 rfl (lv_at hl 0 rfl) ?_
  refine lv_iconst (pc := 44) (v := 0) X.1 X.2.1 dX8_begins_44 (by decide) ?_
  obtain ⟨z8, ez8, h⟩ := bd_some h
  refine M_puti (pc := 45) X G 25 ez8 (by decide) (by decide +kernel) fl_X8_169 dX8_begins_45 (fun H locs G => ?_)
  refine lv_aload_n (pc := 48) X.1 X.2.1 dX8_begins_48 rfl (lv_at hl 0 rfl) ?_
  refine lv_iconst (pc := 49) (v := 0) X.1 X.2.1 dX8_begins_49 (by decide) ?_
  obtain ⟨z9, ez9, h⟩ := bd_some h
  refine M_puti (pc := 50) X G 26 ez9 (by decide) (by decide +kernel) fl_X8_172 dX8_begins_50 (fun H locs G => ?_)
  refine lv_aload_n (pc := 53) X.1 X.2.1 dX8_begins_53 rfl (lv_at hl 0 rfl) ?_
  refine lv_iconst (pc := 54) (v := 0) X.1 X.2.1 dX8_begins_54 (by decide) ?_
  obtain ⟨z10, ez10, h⟩ := bd_some h
  refine M_puti (pc := 55) X G 28 ez10 (by decide) (by decide +kernel) fl_X8_163 dX8_begins_55 (fun H locs G => ?_)
  refine lv_aload_n (pc := 58) X.1 X.2.1 dX8_begins_58 rfl (lv_at hl 0 rfl) ?_
  refine lv_iconst (pc := 59) (v := (-1)) X.1 X.2.1 dX8_begins_59 (by decide) ?_
  obtain ⟨z11, ez11, h⟩ := bd_some h
  refine M_puti (pc := 60) X G 17 ez11 (by decide) (by decide +kernel) fl_X8_188 dX8_begins_60 (fun H locs G => ?_)
  have h := Option.some.inj h
  exact m_vret (pc := 63) X G hr hlk dX8_begins_63 (congrArg (celM κ ad r0) h)

abbrev rm8_puts : Room := { frames := 0, cells := 0, slots := 0, locals := 0 }
noncomputable def F8_puts (z : MS) (p0 : Int32) : Option (MS) :=
  wr z 0 2153 (1588 + (z 43 39)) p0 fun z1 =>
  bd (up2 z1 43 39 ((z1 43 39) + 1)) fun z2 =>
  some z2
set_option maxHeartbeats 4000000 in
set_option maxRecDepth 100000 in
theorem c8_puts (l : Launch) (D : va_G) (κ : Nat → ClassId) (A : Nat → Prop) (ad : Nat → Nat) (r0 : Nat → Option va_E) (z : MS) (p0 : Int32) (res : MS) (h : F8_puts z p0 = some res) : Met l yX8_puts (gw yX8_puts cX8_puts 2 none) rm8_puts (va_Pc [.ref (ad 43), .int p0] (MW D κ A ad (celM κ ad r0 z))) (QV D κ A ad (celM κ ad r0 res)) 0 0 A := by
  refine met_of (own := RX8) (by decide +kernel) rfl (Nat.le_of_ble_eq_true rfl) ?_
  intro p e s m below meth c ls X hr hlk G hl
  have hl : lv_has ls 2 [(0, .ref (ad 43)), (1, .int p0)] := hl
  unfold F8_puts at h
  refine lv_aload_n (pc := 0) X.1 X.2.1 dX8_puts_0 rfl (lv_at hl 0 rfl) ?_
  refine M_getr (pc := 1) X G 0 (by decide) (by decide +kernel) fl_X8_7 dX8_puts_1 ?_
  refine lv_sipush (pc := 4) (v := 1588) X.1 X.2.1 dX8_puts_4 (by decide) ?_
  refine lv_aload_n (pc := 7) X.1 X.2.1 dX8_puts_7 rfl (lv_at hl 0 rfl) ?_
  refine M_geti (pc := 8) X G 39 (by decide) (by decide +kernel) fl_X8_205 dX8_puts_8 ?_
  refine lv_iadd (pc := 11) X.1 X.2.1 dX8_puts_11 ?_
  refine lv_iload_n (pc := 12) X.1 X.2.1 dX8_puts_12 rfl (lv_at hl 1 rfl) ?_
  obtain ⟨hiz1, z1, ez1, h⟩ := wr_some h
  refine M_iast (pc := 13) X G (i := 0) (n := 2153) ez1 (by decide +kernel) (by decide) rfl hiz1 dX8_puts_13 (fun H locs G => ?_)
  refine lv_aload_n (pc := 14) X.1 X.2.1 dX8_puts_14 rfl (lv_at hl 0 rfl) ?_
  refine lv_dup (pc := 15) X.1 X.2.1 dX8_puts_15 rfl ?_
  refine M_geti (pc := 16) X G 39 (by decide) (by decide +kernel) fl_X8_205 dX8_puts_16 ?_
  refine lv_iconst (pc := 19) (v := 1) X.1 X.2.1 dX8_puts_19 (by decide) ?_
  refine lv_iadd (pc := 20) X.1 X.2.1 dX8_puts_20 ?_
  obtain ⟨z2, ez2, h⟩ := bd_some h
  refine M_puti (pc := 21) X G 39 ez2 (by decide) (by decide +kernel) fl_X8_205 dX8_puts_21 (fun H locs G => ?_)
  have h := Option.some.inj h
  exact m_vret (pc := 24) X G hr hlk dX8_puts_24 (congrArg (celM κ ad r0) h)

abbrev rm8_enters : Room := { frames := 0, cells := 0, slots := 0, locals := 0 }
noncomputable def F8_enters (z : MS) (p0 p1 p2 : Int32) : Option (MS) :=
  bd (up2 z 43 32 ((z 43 32) + 1)) fun z1 =>
  wr z1 29 430 (z1 43 32) p0 fun z2 =>
  wr z2 30 430 (z2 43 32) p1 fun z3 =>
  wr z3 31 430 (z3 43 32) p2 fun z4 =>
  some z4
set_option maxHeartbeats 4000000 in
set_option maxRecDepth 100000 in
theorem c8_enters (l : Launch) (D : va_G) (κ : Nat → ClassId) (A : Nat → Prop) (ad : Nat → Nat) (r0 : Nat → Option va_E) (z : MS) (p0 p1 p2 : Int32) (res : MS) (h : F8_enters z p0 p1 p2 = some res) : Met l yX8_enters (gw yX8_enters cX8_enters 4 none) rm8_enters (va_Pc [.ref (ad 43), .int p0, .int p1, .int p2] (MW D κ A ad (celM κ ad r0 z))) (QV D κ A ad (celM κ ad r0 res)) 0 0 A := by
  refine met_of (own := RX8) (by decide +kernel) rfl (Nat.le_of_ble_eq_true rfl) ?_
  intro p e s m below meth c ls X hr hlk G hl
  have hl : lv_has ls 4 [(0, .ref (ad 43)), (1, .int p0), (2, .int p1), (3, .int p2)] := hl
  unfold F8_enters at h
  refine lv_aload_n (pc := 0) X.1 X.2.1 dX8_enters_0 rfl (lv_at hl 0 rfl) ?_
  refine lv_dup (pc := 1) X.1 X.2.1 dX8_enters_1 rfl ?_
  refine M_geti (pc := 2) X G 32 (by decide) (by decide +kernel) fl_X8_208 dX8_enters_2 ?_
  refine lv_iconst (pc := 5) (v := 1) X.1 X.2.1 dX8_enters_5 (by decide) ?_
  refine lv_iadd (pc := 6) X.1 X.2.1 dX8_enters_6 ?_
  obtain ⟨z1, ez1, h⟩ := bd_some h
  refine M_puti (pc := 7) X G 32 ez1 (by decide) (by decide +kernel) fl_X8_208 dX8_enters_7 (fun H locs G => ?_)
  refine lv_aload_n (pc := 10) X.1 X.2.1 dX8_enters_10 rfl (lv_at hl 0 rfl) ?_
  refine M_getr (pc := 11) X G 29 (by decide) (by decide +kernel) fl_X8_65 dX8_enters_11 ?_
  refine lv_aload_n (pc := 14) X.1 X.2.1 dX8_enters_14 rfl (lv_at hl 0 rfl) ?_
  refine M_geti (pc := 15) X G 32 (by decide) (by decide +kernel) fl_X8_208 dX8_enters_15 ?_
  refine lv_iload_n (pc := 18) X.1 X.2.1 dX8_enters_18 rfl (lv_at hl 1 rfl) ?_
  obtain ⟨hiz2, z2, ez2, h⟩ := wr_some h
  refine M_iast (pc := 19) X G (i := 29) (n := 430) ez2 (by decide +kernel) (by decide) rfl hiz2 dX8_enters_19 (fun H locs G => ?_)
  refine lv_aload_n (pc := 20) X.1 X.2.1 dX8_enters_20 rfl (lv_at hl 0 rfl) ?_
  refine M_getr (pc := 21) X G 30 (by decide) (by decide +kernel) fl_X8_68 dX8_enters_21 ?_
  refine lv_aload_n (pc := 24) X.1 X.2.1 dX8_enters_24 rfl (lv_at hl 0 rfl) ?_
  refine M_geti (pc := 25) X G 32 (by decide) (by decide +kernel) fl_X8_208 dX8_enters_25 ?_
  refine lv_iload_n (pc := 28) X.1 X.2.1 dX8_enters_28 rfl (lv_at hl 2 rfl) ?_
  obtain ⟨hiz3, z3, ez3, h⟩ := wr_some h
  refine M_iast (pc := 29) X G (i := 30) (n := 430) ez3 (by decide +kernel) (by decide) rfl hiz3 dX8_enters_29 (fun H locs G => ?_)
  refine lv_aload_n (pc := 30) X.1 X.2.1 dX8_enters_30 rfl (lv_at hl 0 rfl) ?_
  refine M_getr (pc := 31) X G 31 (by decide) (by decide +kernel) fl_X8_71 dX8_enters_31 ?_
  refine lv_aload_n (pc := 34) X.1 X.2.1 dX8_enters_34 rfl (lv_at hl 0 rfl) ?_
  refine M_geti (pc := 35) X G 32 (by decide) (by decide +kernel) fl_X8_208 dX8_enters_35 ?_
  refine lv_iload_n (pc := 38) X.1 X.2.1 dX8_enters_38 rfl (lv_at hl 3 rfl) ?_
  obtain ⟨hiz4, z4, ez4, h⟩ := wr_some h
  refine M_iast (pc := 39) X G (i := 31) (n := 430) ez4 (by decide +kernel) (by decide) rfl hiz4 dX8_enters_39 (fun H locs G => ?_)
  have h := Option.some.inj h
  exact m_vret (pc := 40) X G hr hlk dX8_enters_40 (congrArg (celM κ ad r0) h)

abbrev rm8_skips : Room := { frames := 1, cells := 0, slots := 0, locals := 22 }
noncomputable def F8_skips (z : MS)  : Option (MS) :=
  rd (z 29) 430 (z 43 32) fun x1 =>
  wr z 36 62 (z 43 38) 0 fun z2 =>
  rd (z2 30) 430 (z2 43 32) fun x3 =>
  bn (F8_longOf z2 x1) fun x4 =>
  jp (fun (_ : Unit) => some z2) fun k5 =>
  if x4 ≤ x3 then
  k5 ()
  else
  rd (z2 30) 430 (z2 43 32) fun x7 =>
  bn (F8_signOf z2 x1 x7) fun x8 =>
  if x8 = 40 then
  Loop (fun (q : Int32 × MS) => (fun (x10 : Int32) (z11 : MS) =>
  rd (z11 30) 430 (z11 43 32) fun x12 =>
  bn (F8_signOf z11 x1 x12) fun x13 =>
  rd (z11 30) 430 (z11 43 32) fun x14 =>
  wr z11 30 430 (z11 43 32) (x14 + 1) fun z15 =>
  jp (fun (x19 : Int32) => bd (x10 + x19) fun x20 =>
  jp (fun (z31 : MS) => if (0 : Int32) < x20 then
  some (.inl (x20, z31))
  else
  some (.inr z31)) fun k21 =>
  if ¬ x20 = 1 then
  k21 z15
  else
  jp (fun (_ : Unit) => rd (z15 36) 62 (z15 43 38) fun x26 =>
  rd (z15 30) 430 (z15 43 32) fun x27 =>
  wr z15 37 372 ((6 * (z15 43 38)) + x26) x27 fun z28 =>
  rd (z28 36) 62 (z28 43 38) fun x29 =>
  wr z28 36 62 (z28 43 38) (x29 + 1) fun z30 =>
  k21 z30) fun k23 =>
  if x13 = 44 then
  k23 ()
  else
  if ¬ x13 = 40 then
  k21 z15
  else
  k23 ()) fun k16 =>
  if ¬ x13 = 40 then
  if ¬ x13 = 41 then
  k16 0
  else
  k16 (-1)
  else
  k16 1) q.1 q.2) (0, z2)
  else
  k5 ()
set_option maxHeartbeats 4000000 in
set_option maxRecDepth 100000 in
theorem c8_skips (l : Launch) (D : va_G) (κ : Nat → ClassId) (A : Nat → Prop) (ad : Nat → Nat) (r0 : Nat → Option va_E) (z : MS)  (res : MS) (h : F8_skips z  = some res) : Met l yX8_skips (gw yX8_skips cX8_skips 4 none) rm8_skips (va_Pc [.ref (ad 43)] (MW D κ A ad (celM κ ad r0 z))) (QV D κ A ad (celM κ ad r0 res)) 0 0 A := by
  refine met_of (own := RX8) (by decide +kernel) rfl (Nat.le_of_ble_eq_true rfl) ?_
  intro p e s m below meth c ls X hr hlk G hl
  have hl : lv_has ls 4 [(0, .ref (ad 43))] := hl
  unfold F8_skips at h
  refine lv_aload_n (pc := 0) X.1 X.2.1 dX8_skips_0 rfl (lv_at hl 0 rfl) ?_
  refine M_getr (pc := 1) X G 29 (by decide) (by decide +kernel) fl_X8_65 dX8_skips_1 ?_
  refine lv_aload_n (pc := 4) X.1 X.2.1 dX8_skips_4 rfl (lv_at hl 0 rfl) ?_
  refine M_geti (pc := 5) X G 32 (by decide) (by decide +kernel) fl_X8_208 dX8_skips_5 ?_
  obtain ⟨hix1, h⟩ := rd_some h
  refine M_iald (pc := 8) X G (i := 29) (n := 430) (by decide +kernel) (by decide) rfl hix1 dX8_skips_8 ?_
  refine lv_topi (fun x1 ex1 => ?_)
  rw [← ex1] at h
  refine lv_istore_n (pc := 9) (lv' := [(1, .int x1), (0, .ref (ad 43))]) X.1 X.2.1 dX8_skips_9 rfl hl (by decide) rfl (fun ls hl => ?_)
  refine lv_aload_n (pc := 10) X.1 X.2.1 dX8_skips_10 rfl (lv_at hl 1 rfl) ?_
  refine M_getr (pc := 11) X G 36 (by decide) (by decide +kernel) fl_X8_83 dX8_skips_11 ?_
  refine lv_aload_n (pc := 14) X.1 X.2.1 dX8_skips_14 rfl (lv_at hl 1 rfl) ?_
  refine M_geti (pc := 15) X G 38 (by decide) (by decide +kernel) fl_X8_211 dX8_skips_15 ?_
  refine lv_iconst (pc := 18) (v := 0) X.1 X.2.1 dX8_skips_18 (by decide) ?_
  obtain ⟨hiz2, z2, ez2, h⟩ := wr_some h
  refine M_iast (pc := 19) X G (i := 36) (n := 62) ez2 (by decide +kernel) (by decide) rfl hiz2 dX8_skips_19 (fun H locs G => ?_)
  refine lv_aload_n (pc := 20) X.1 X.2.1 dX8_skips_20 rfl (lv_at hl 1 rfl) ?_
  refine M_getr (pc := 21) X G 30 (by decide) (by decide +kernel) fl_X8_68 dX8_skips_21 ?_
  refine lv_aload_n (pc := 24) X.1 X.2.1 dX8_skips_24 rfl (lv_at hl 1 rfl) ?_
  refine M_geti (pc := 25) X G 32 (by decide) (by decide +kernel) fl_X8_208 dX8_skips_25 ?_
  obtain ⟨hix3, h⟩ := rd_some h
  refine M_iald (pc := 28) X G (i := 30) (n := 430) (by decide +kernel) (by decide) rfl hix3 dX8_skips_28 ?_
  refine lv_topi (fun x3 ex3 => ?_)
  rw [← ex3] at h
  refine lv_aload_n (pc := 29) X.1 X.2.1 dX8_skips_29 rfl (lv_at hl 1 rfl) ?_
  refine lv_iload_n (pc := 30) X.1 X.2.1 dX8_skips_30 rfl (lv_at hl 0 rfl) ?_
  obtain ⟨x4, ex4, h⟩ := bn_some h
  refine M_calli (pc := 31) (z1 := z2) (v := x4) (As := [.int x1]) (rest := [.int x3]) X G (rm := rm8_longOf) rfl rfl (c8_longOf l D κ A ad r0 z2 x1 x4 ex4) g_X8_191 hd_yX8_longOf ⟨Nat.le_of_ble_eq_true rfl, Nat.le_of_ble_eq_true rfl⟩ rfl hl rfl (lv_room (Nat.le_of_ble_eq_true rfl)) dX8_skips_31 ⟨Nat.le_of_ble_eq_true rfl, Nat.le_of_ble_eq_true rfl⟩ (fun H locs G => ?_)
  obtain ⟨k5, ek5, h⟩ := jp_some h
  have hk5 : ∀  (H : Heap) (locs : List Loc) (ls : Array Slot), k5 () = some res → Mm D κ A ad (celM κ ad r0 z2) s H locs → lv_has ls 4 [] → W p l e rm8_skips s m [.ref (ad 43)].toArray below meth c H locs 0 0 (MQ below (QV D κ A ad (celM κ ad r0 res)) [.ref (ad 43)].toArray s 0 0 A) (F0 m 56 ls []) := by
    intro  H locs ls h G hl
    rw [ek5] at h
    try dsimp only at h
    have h := Option.some.inj h
    exact m_vret (pc := 56) X G hr hlk dX8_skips_56 (congrArg (celM κ ad r0) h)
  refine lv_icmp_ge (pc := 34) (tgt := 56) X.1 X.2.1 dX8_skips_34 (by decide) (fun hc6 => ?_) (fun hc6 => ?_)
  · have h := it_pos h hc6
    exact hk5  _ _ ls h G (lv_sub hl [] rfl)
  · have h := it_neg h hc6
    refine lv_aload_n (pc := 37) X.1 X.2.1 dX8_skips_37 rfl (lv_at hl 1 rfl) ?_
    refine lv_iload_n (pc := 38) X.1 X.2.1 dX8_skips_38 rfl (lv_at hl 0 rfl) ?_
    refine lv_aload_n (pc := 39) X.1 X.2.1 dX8_skips_39 rfl (lv_at hl 1 rfl) ?_
    refine M_getr (pc := 40) X G 30 (by decide) (by decide +kernel) fl_X8_68 dX8_skips_40 ?_
    refine lv_aload_n (pc := 43) X.1 X.2.1 dX8_skips_43 rfl (lv_at hl 1 rfl) ?_
    refine M_geti (pc := 44) X G 32 (by decide) (by decide +kernel) fl_X8_208 dX8_skips_44 ?_
    obtain ⟨hix7, h⟩ := rd_some h
    refine M_iald (pc := 47) X G (i := 30) (n := 430) (by decide +kernel) (by decide) rfl hix7 dX8_skips_47 ?_
    refine lv_topi (fun x7 ex7 => ?_)
    rw [← ex7] at h
    obtain ⟨x8, ex8, h⟩ := bn_some h
    refine M_calli (pc := 48) (z1 := z2) (v := x8) (As := [.int x1, .int x7]) (rest := []) X G (rm := rm8_signOf) rfl rfl (c8_signOf l D κ A ad r0 z2 x1 x7 x8 ex8) g_X8_135 hd_yX8_signOf ⟨Nat.le_of_ble_eq_true rfl, Nat.le_of_ble_eq_true rfl⟩ rfl hl rfl (lv_room (Nat.le_of_ble_eq_true rfl)) dX8_skips_48 ⟨Nat.le_of_ble_eq_true rfl, Nat.le_of_ble_eq_true rfl⟩ (fun H locs G => ?_)
    refine lv_bipush (pc := 51) (v := 40) X.1 X.2.1 dX8_skips_51 (by decide) ?_
    refine lv_icmp_eq (pc := 53) (tgt := 57) X.1 X.2.1 dX8_skips_53 (by decide) (fun hc9 => ?_) (fun hc9 => ?_)
    · have h := it_pos h hc9
      refine lv_iconst (pc := 57) (v := 0) X.1 X.2.1 dX8_skips_57 (by decide) ?_
      refine lv_istore_n (pc := 58) (lv' := [(2, .int 0), (1, .int x1), (0, .ref (ad 43))]) X.1 X.2.1 dX8_skips_58 rfl hl (by decide) rfl (fun ls hl => ?_)
      refine Loop_ind (P := fun (q : Int32 × MS) => ∀ (H : Heap) (locs : List Loc) (ls : Array Slot), Mm D κ A ad (celM κ ad r0 q.2) s H locs → lv_has ls 4 [(0, .ref (ad 43)), (1, .int x1), (2, .int q.1)] → W p l e rm8_skips s m [.ref (ad 43)].toArray below meth c H locs 0 0 (MQ below (QV D κ A ad (celM κ ad r0 res)) [.ref (ad 43)].toArray s 0 0 A) (F0 m 59 ls [])) ?_ h _ _ ls G (lv_sub hl [2, 1, 0] rfl)
      intro q y1 h ih1 hz1 H locs ls G hl
      obtain ⟨x10, z11⟩ := q
      try dsimp only at h ih1 G hl ⊢
      refine lv_aload_n (pc := 59) X.1 X.2.1 dX8_skips_59 rfl (lv_at hl 0 rfl) ?_
      refine lv_iload_n (pc := 60) X.1 X.2.1 dX8_skips_60 rfl (lv_at hl 1 rfl) ?_
      refine lv_aload_n (pc := 61) X.1 X.2.1 dX8_skips_61 rfl (lv_at hl 0 rfl) ?_
      refine M_getr (pc := 62) X G 30 (by decide) (by decide +kernel) fl_X8_68 dX8_skips_62 ?_
      refine lv_aload_n (pc := 65) X.1 X.2.1 dX8_skips_65 rfl (lv_at hl 0 rfl) ?_
      refine M_geti (pc := 66) X G 32 (by decide) (by decide +kernel) fl_X8_208 dX8_skips_66 ?_
      obtain ⟨hix12, h⟩ := rd_some h
      refine M_iald (pc := 69) X G (i := 30) (n := 430) (by decide +kernel) (by decide) rfl hix12 dX8_skips_69 ?_
      refine lv_topi (fun x12 ex12 => ?_)
      rw [← ex12] at h
      obtain ⟨x13, ex13, h⟩ := bn_some h
      refine M_calli (pc := 70) (z1 := z11) (v := x13) (As := [.int x1, .int x12]) (rest := []) X G (rm := rm8_signOf) rfl rfl (c8_signOf l D κ A ad r0 z11 x1 x12 x13 ex13) g_X8_135 hd_yX8_signOf ⟨Nat.le_of_ble_eq_true rfl, Nat.le_of_ble_eq_true rfl⟩ rfl hl rfl (lv_room (Nat.le_of_ble_eq_true rfl)) dX8_skips_70 ⟨Nat.le_of_ble_eq_true rfl, Nat.le_of_ble_eq_true rfl⟩ (fun H locs G => ?_)
      refine lv_istore_n (pc := 73) (lv' := [(3, .int x13), (0, .ref (ad 43)), (1, .int x1), (2, .int x10)]) X.1 X.2.1 dX8_skips_73 rfl hl (by decide) rfl (fun ls hl => ?_)
      refine lv_aload_n (pc := 74) X.1 X.2.1 dX8_skips_74 rfl (lv_at hl 1 rfl) ?_
      refine M_getr (pc := 75) X G 30 (by decide) (by decide +kernel) fl_X8_68 dX8_skips_75 ?_
      refine lv_aload_n (pc := 78) X.1 X.2.1 dX8_skips_78 rfl (lv_at hl 1 rfl) ?_
      refine M_geti (pc := 79) X G 32 (by decide) (by decide +kernel) fl_X8_208 dX8_skips_79 ?_
      refine lv_dup2_11 (pc := 82) X.1 X.2.1 dX8_skips_82 rfl rfl ?_
      obtain ⟨hix14, h⟩ := rd_some h
      refine M_iald (pc := 83) X G (i := 30) (n := 430) (by decide +kernel) (by decide) rfl hix14 dX8_skips_83 ?_
      refine lv_topi (fun x14 ex14 => ?_)
      rw [← ex14] at h
      refine lv_iconst (pc := 84) (v := 1) X.1 X.2.1 dX8_skips_84 (by decide) ?_
      refine lv_iadd (pc := 85) X.1 X.2.1 dX8_skips_85 ?_
      obtain ⟨hiz15, z15, ez15, h⟩ := wr_some h
      refine M_iast (pc := 86) X G (i := 30) (n := 430) ez15 (by decide +kernel) (by decide) rfl hiz15 dX8_skips_86 (fun H locs G => ?_)
      refine lv_iload_n (pc := 87) X.1 X.2.1 dX8_skips_87 rfl (lv_at hl 3 rfl) ?_
      refine lv_iload_n (pc := 88) X.1 X.2.1 dX8_skips_88 rfl (lv_at hl 0 rfl) ?_
      refine lv_bipush (pc := 89) (v := 40) X.1 X.2.1 dX8_skips_89 (by decide) ?_
      obtain ⟨k16, ek16, h⟩ := jp_some h
      have hk16 : ∀ (x19 : Int32) (H : Heap) (locs : List Loc) (ls : Array Slot), k16 x19 = some y1 → Mm D κ A ad (celM κ ad r0 z15) s H locs → lv_has ls 4 [(0, .ref (ad 43)), (1, .int x1), (3, .int x13)] → W p l e rm8_skips s m [.ref (ad 43)].toArray below meth c H locs 0 0 (MQ below (QV D κ A ad (celM κ ad r0 res)) [.ref (ad 43)].toArray s 0 0 A) (F0 m 109 ls [.int x19, .int x10]) := by
        intro x19 H locs ls h G hl
        rw [ek16] at h
        try dsimp only at h
        refine lv_iadd (pc := 109) X.1 X.2.1 dX8_skips_109 ?_
        refine lv_topi (fun x20 ex20 => ?_)
        have h := bd_at h ex20
        refine lv_istore_n (pc := 110) (lv' := [(2, .int x20), (0, .ref (ad 43)), (1, .int x1), (3, .int x13)]) X.1 X.2.1 dX8_skips_110 rfl hl (by decide) rfl (fun ls hl => ?_)
        refine lv_iload_n (pc := 111) X.1 X.2.1 dX8_skips_111 rfl (lv_at hl 0 rfl) ?_
        refine lv_iconst (pc := 112) (v := 1) X.1 X.2.1 dX8_skips_112 (by decide) ?_
        obtain ⟨k21, ek21, h⟩ := jp_some h
        have hk21 : ∀ (z31 : MS) (H : Heap) (locs : List Loc) (ls : Array Slot), k21 z31 = some y1 → Mm D κ A ad (celM κ ad r0 z31) s H locs → lv_has ls 4 [(0, .ref (ad 43)), (1, .int x1), (2, .int x20)] → W p l e rm8_skips s m [.ref (ad 43)].toArray below meth c H locs 0 0 (MQ below (QV D κ A ad (celM κ ad r0 res)) [.ref (ad 43)].toArray s 0 0 A) (F0 m 172 ls []) := by
          intro z31 H locs ls h G hl
          rw [ek21] at h
          try dsimp only at h
          refine lv_iload_n (pc := 172) X.1 X.2.1 dX8_skips_172 rfl (lv_at hl 2 rfl) ?_
          refine lv_if_gt (pc := 173) (tgt := 59) X.1 X.2.1 dX8_skips_173 (by decide) (fun hc32 => ?_) (fun hc32 => ?_)
          · have h := it_pos h hc32
            have h := Option.some.inj h
            exact ih1 _ h.symm _ _ ls G (lv_sub hl [0, 1, 2] rfl)
          · have h := it_neg h hc32
            have h := Option.some.inj h
            have h := hz1 _ h.symm
            exact m_vret (pc := 176) X G hr hlk dX8_skips_176 (congrArg (celM κ ad r0) h)
        refine lv_icmp_ne (pc := 113) (tgt := 172) X.1 X.2.1 dX8_skips_113 (by decide) (fun hc22 => ?_) (fun hc22 => ?_)
        · have h := it_pos h hc22
          exact hk21 z15 _ _ ls h G (lv_sub hl [1, 2, 0] rfl)
        · have h := it_neg h (fun q => q hc22)
          refine lv_iload_n (pc := 116) X.1 X.2.1 dX8_skips_116 rfl (lv_at hl 3 rfl) ?_
          refine lv_bipush (pc := 117) (v := 44) X.1 X.2.1 dX8_skips_117 (by decide) ?_
          obtain ⟨k23, ek23, h⟩ := jp_some h
          have hk23 : ∀  (H : Heap) (locs : List Loc) (ls : Array Slot), k23 () = some y1 → Mm D κ A ad (celM κ ad r0 z15) s H locs → lv_has ls 4 [(0, .ref (ad 43)), (1, .int x1), (2, .int x20)] → W p l e rm8_skips s m [.ref (ad 43)].toArray below meth c H locs 0 0 (MQ below (QV D κ A ad (celM κ ad r0 res)) [.ref (ad 43)].toArray s 0 0 A) (F0 m 128 ls []) := by
            intro  H locs ls h G hl
            rw [ek23] at h
            try dsimp only at h
            refine lv_aload_n (pc := 128) X.1 X.2.1 dX8_skips_128 rfl (lv_at hl 0 rfl) ?_
            refine M_getr (pc := 129) X G 37 (by decide) (by decide +kernel) fl_X8_86 dX8_skips_129 ?_
            refine lv_bipush (pc := 132) (v := 6) X.1 X.2.1 dX8_skips_132 (by decide) ?_
            refine lv_aload_n (pc := 134) X.1 X.2.1 dX8_skips_134 rfl (lv_at hl 0 rfl) ?_
            refine M_geti (pc := 135) X G 38 (by decide) (by decide +kernel) fl_X8_211 dX8_skips_135 ?_
            refine lv_imul (pc := 138) X.1 X.2.1 dX8_skips_138 ?_
            refine lv_aload_n (pc := 139) X.1 X.2.1 dX8_skips_139 rfl (lv_at hl 0 rfl) ?_
            refine M_getr (pc := 140) X G 36 (by decide) (by decide +kernel) fl_X8_83 dX8_skips_140 ?_
            refine lv_aload_n (pc := 143) X.1 X.2.1 dX8_skips_143 rfl (lv_at hl 0 rfl) ?_
            refine M_geti (pc := 144) X G 38 (by decide) (by decide +kernel) fl_X8_211 dX8_skips_144 ?_
            obtain ⟨hix26, h⟩ := rd_some h
            refine M_iald (pc := 147) X G (i := 36) (n := 62) (by decide +kernel) (by decide) rfl hix26 dX8_skips_147 ?_
            refine lv_topi (fun x26 ex26 => ?_)
            rw [← ex26] at h
            refine lv_iadd (pc := 148) X.1 X.2.1 dX8_skips_148 ?_
            refine lv_aload_n (pc := 149) X.1 X.2.1 dX8_skips_149 rfl (lv_at hl 0 rfl) ?_
            refine M_getr (pc := 150) X G 30 (by decide) (by decide +kernel) fl_X8_68 dX8_skips_150 ?_
            refine lv_aload_n (pc := 153) X.1 X.2.1 dX8_skips_153 rfl (lv_at hl 0 rfl) ?_
            refine M_geti (pc := 154) X G 32 (by decide) (by decide +kernel) fl_X8_208 dX8_skips_154 ?_
            obtain ⟨hix27, h⟩ := rd_some h
            refine M_iald (pc := 157) X G (i := 30) (n := 430) (by decide +kernel) (by decide) rfl hix27 dX8_skips_157 ?_
            refine lv_topi (fun x27 ex27 => ?_)
            rw [← ex27] at h
            obtain ⟨hiz28, z28, ez28, h⟩ := wr_some h
            refine M_iast (pc := 158) X G (i := 37) (n := 372) ez28 (by decide +kernel) (by decide) rfl hiz28 dX8_skips_158 (fun H locs G => ?_)
            refine lv_aload_n (pc := 159) X.1 X.2.1 dX8_skips_159 rfl (lv_at hl 0 rfl) ?_
            refine M_getr (pc := 160) X G 36 (by decide) (by decide +kernel) fl_X8_83 dX8_skips_160 ?_
            refine lv_aload_n (pc := 163) X.1 X.2.1 dX8_skips_163 rfl (lv_at hl 0 rfl) ?_
            refine M_geti (pc := 164) X G 38 (by decide) (by decide +kernel) fl_X8_211 dX8_skips_164 ?_
            refine lv_dup2_11 (pc := 167) X.1 X.2.1 dX8_skips_167 rfl rfl ?_
            obtain ⟨hix29, h⟩ := rd_some h
            refine M_iald (pc := 168) X G (i := 36) (n := 62) (by decide +kernel) (by decide) rfl hix29 dX8_skips_168 ?_
            refine lv_topi (fun x29 ex29 => ?_)
            rw [← ex29] at h
            refine lv_iconst (pc := 169) (v := 1) X.1 X.2.1 dX8_skips_169 (by decide) ?_
            refine lv_iadd (pc := 170) X.1 X.2.1 dX8_skips_170 ?_
            obtain ⟨hiz30, z30, ez30, h⟩ := wr_some h
            refine M_iast (pc := 171) X G (i := 36) (n := 62) ez30 (by decide +kernel) (by decide) rfl hiz30 dX8_skips_171 (fun H locs G => ?_)
            exact hk21 z30 _ _ ls h G (lv_sub hl [0, 1, 2] rfl)
          refine lv_icmp_eq (pc := 119) (tgt := 128) X.1 X.2.1 dX8_skips_119 (by decide) (fun hc24 => ?_) (fun hc24 => ?_)
          · have h := it_pos h hc24
            exact hk23  _ _ ls h G (lv_sub hl [1, 2, 0] rfl)
          · have h := it_neg h hc24
            refine lv_iload_n (pc := 122) X.1 X.2.1 dX8_skips_122 rfl (lv_at hl 3 rfl) ?_
            refine lv_bipush (pc := 123) (v := 40) X.1 X.2.1 dX8_skips_123 (by decide) ?_
            refine lv_icmp_ne (pc := 125) (tgt := 172) X.1 X.2.1 dX8_skips_125 (by decide) (fun hc25 => ?_) (fun hc25 => ?_)
            · have h := it_pos h hc25
              exact hk21 z15 _ _ ls h G (lv_sub hl [1, 2, 0] rfl)
            · have h := it_neg h (fun q => q hc25)
              exact hk23  _ _ ls h G (lv_sub hl [1, 2, 0] rfl)
      refine lv_icmp_ne (pc := 91) (tgt := 98) X.1 X.2.1 dX8_skips_91 (by decide) (fun hc17 => ?_) (fun hc17 => ?_)
      · have h := it_pos h hc17
        refine lv_iload_n (pc := 98) X.1 X.2.1 dX8_skips_98 rfl (lv_at hl 0 rfl) ?_
        refine lv_bipush (pc := 99) (v := 41) X.1 X.2.1 dX8_skips_99 (by decide) ?_
        refine lv_icmp_ne (pc := 101) (tgt := 108) X.1 X.2.1 dX8_skips_101 (by decide) (fun hc18 => ?_) (fun hc18 => ?_)
        · have h := it_pos h hc18
          refine lv_iconst (pc := 108) (v := 0) X.1 X.2.1 dX8_skips_108 (by decide) ?_
          exact hk16 0 _ _ ls h G (lv_sub hl [1, 2, 0] rfl)
        · have h := it_neg h (fun q => q hc18)
          refine lv_iconst (pc := 104) (v := (-1)) X.1 X.2.1 dX8_skips_104 (by decide) ?_
          refine lv_goto (pc := 105) (tgt := 109) X.1 X.2.1 dX8_skips_105 (by decide) ?_
          exact hk16 (-1) _ _ ls h G (lv_sub hl [1, 2, 0] rfl)
      · have h := it_neg h (fun q => q hc17)
        refine lv_iconst (pc := 94) (v := 1) X.1 X.2.1 dX8_skips_94 (by decide) ?_
        refine lv_goto (pc := 95) (tgt := 109) X.1 X.2.1 dX8_skips_95 (by decide) ?_
        exact hk16 1 _ _ ls h G (lv_sub hl [1, 2, 0] rfl)
    · have h := it_neg h hc9
      exact hk5  _ _ ls h G (lv_sub hl [] rfl)
