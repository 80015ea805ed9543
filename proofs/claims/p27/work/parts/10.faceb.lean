/-! THE CLASS'S FACE, laid by wip/whole/walkx.py -/
abbrev rm7_uses : Room := { frames := 7, cells := 2, slots := 12, locals := 103 }
noncomputable def F7_uses (b : BS) (p0 : Int32) (p1 : Int32) : Option (BS × (Nat ⊕ Int32)) :=
  bx (F7_requireLetter p0) (fun u1 k2 => some (b, .inl k2)) fun u1 v3 =>
  bx (F7_requireWhat p1 3) (fun u8 k9 => some (b, .inl k9)) fun u8 v10 =>
  bn (F0_takeFrom b 70) fun b17 =>
  if p1 = 0 then
  bn (F0_calledBy b17 p0) fun x27 =>
  some (b17, .inr x27)
  else if p1 = 1 then
  bn2 (F0_reachedFrom b17 p0) fun b31 x30 =>
  some (b31, .inr x30)
  else if p1 = 2 then
  bn (F0_callersOf b17 p0) fun x34 =>
  some (b17, .inr x34)
  else bn2 (F0_reaching b17 p0) fun b38 x37 =>
  some (b38, .inr x37)
set_option maxHeartbeats 4000000 in
set_option maxRecDepth 100000 in
theorem c7_uses (l : Launch) (hfl : l.stackTraces = false) (D : va_G) (κ : Nat → ClassId) (A : Nat → Prop) (ad : Nat → Nat) (r0 : Nat → Option va_E) (b : BS) (p0 : Int32) (p1 : Int32) (res : BS × (Nat ⊕ Int32)) (h : F7_uses b p0 p1 = some res) : vx_Met l yX7_uses (gw yX7_uses cX7_uses 3 (some (FieldType.int))) rm7_uses (va_Pc [.ref (ad 50), .int p0, .int p1] (MW D κ A ad (celB κ ad r0 b))) (QIX D A ad (celB κ ad r0 res.1) res.2) (XX D A ad (celB κ ad r0 res.1) res.2) 2 12 A := by
  refine met_ofX (own := RX7) (by decide +kernel) rfl (Nat.le_of_ble_eq_true rfl) ?_
  intro p e s m below meth c ls X hr hlk hout G hl
  have hl : lv_has ls 3 [(0, .ref (ad 50)), (1, .int p0), (2, .int p1)] := hl
  unfold F7_uses at h
  refine lv_iload_n (pc := 0) X.1 X.2.1 dX7_uses_0 rfl (lv_at hl 1 rfl) ?_
  rcases bx_some h with ⟨u1, k2, e4, h5⟩ | ⟨u1, v3, e4, h6⟩
  · have h5_i := Option.some.inj h5
    exact X_tv (X_runS (pc := 1) (As := [.int p0]) (rest := []) (M' := (celB κ ad r0 b)) (r := (.inl k2 : Nat ⊕ Unit)) X G (rm := rm7_requireLetter) rfl rfl (c7_requireLetter l hfl D κ A ad (celB κ ad r0 b) p0 (u1, (.inl k2 : Nat ⊕ Unit)) e4) g_X7_52 hs_yX7_requireLetter ⟨Nat.le_of_ble_eq_true rfl, Nat.le_of_ble_eq_true rfl⟩ rfl hl rfl (lv_room (Nat.le_of_ble_eq_true rfl)) dX7_uses_1 ⟨Nat.le_of_ble_eq_true rfl, Nat.le_of_ble_eq_true rfl⟩) G hout hlk rfl (congrArg Prod.snd h5_i).symm (congrArg (fun q : BS × (Nat ⊕ Int32) => celB κ ad r0 q.1) h5_i) (Nat.le_of_ble_eq_true rfl) (Nat.le_of_ble_eq_true rfl)
  refine X_v (X_runS (pc := 1) (As := [.int p0]) (rest := []) (M' := (celB κ ad r0 b)) (r := (.inr v3 : Nat ⊕ Unit)) X G (rm := rm7_requireLetter) rfl rfl (c7_requireLetter l hfl D κ A ad (celB κ ad r0 b) p0 (u1, (.inr v3 : Nat ⊕ Unit)) e4) g_X7_52 hs_yX7_requireLetter ⟨Nat.le_of_ble_eq_true rfl, Nat.le_of_ble_eq_true rfl⟩ rfl hl rfl (lv_room (Nat.le_of_ble_eq_true rfl)) dX7_uses_1 ⟨Nat.le_of_ble_eq_true rfl, Nat.le_of_ble_eq_true rfl⟩) G rfl (fun H locs G7 => ?_)
  refine lv_iload_n (pc := 4) X.1 X.2.1 dX7_uses_4 rfl (lv_at hl 2 rfl) ?_
  refine lv_iconst (pc := 5) (v := 3) X.1 X.2.1 dX7_uses_5 (by decide) ?_
  rcases bx_some h6 with ⟨u8, k9, e11, h12⟩ | ⟨u8, v10, e11, h13⟩
  · have h12_i := Option.some.inj h12
    exact X_tv (X_runS (pc := 6) (As := [.int p1, .int 3]) (rest := []) (M' := (celB κ ad r0 b)) (r := (.inl k9 : Nat ⊕ Unit)) X G7 (rm := rm7_requireWhat) rfl rfl (c7_requireWhat l hfl D κ A ad (celB κ ad r0 b) p1 3 (u8, (.inl k9 : Nat ⊕ Unit)) e11) g_X7_169 hs_yX7_requireWhat ⟨Nat.le_of_ble_eq_true rfl, Nat.le_of_ble_eq_true rfl⟩ rfl hl rfl (lv_room (Nat.le_of_ble_eq_true rfl)) dX7_uses_6 ⟨Nat.le_of_ble_eq_true rfl, Nat.le_of_ble_eq_true rfl⟩) G7 hout hlk rfl (congrArg Prod.snd h12_i).symm (congrArg (fun q : BS × (Nat ⊕ Int32) => celB κ ad r0 q.1) h12_i) (Nat.le_of_ble_eq_true rfl) (Nat.le_of_ble_eq_true rfl)
  refine X_v (X_runS (pc := 6) (As := [.int p1, .int 3]) (rest := []) (M' := (celB κ ad r0 b)) (r := (.inr v10 : Nat ⊕ Unit)) X G7 (rm := rm7_requireWhat) rfl rfl (c7_requireWhat l hfl D κ A ad (celB κ ad r0 b) p1 3 (u8, (.inr v10 : Nat ⊕ Unit)) e11) g_X7_169 hs_yX7_requireWhat ⟨Nat.le_of_ble_eq_true rfl, Nat.le_of_ble_eq_true rfl⟩ rfl hl rfl (lv_room (Nat.le_of_ble_eq_true rfl)) dX7_uses_6 ⟨Nat.le_of_ble_eq_true rfl, Nat.le_of_ble_eq_true rfl⟩) G7 rfl (fun H locs G14 => ?_)
  refine lv_aload_n (pc := 9) X.1 X.2.1 dX7_uses_9 rfl (lv_at hl 0 rfl) ?_
  refine B_getc (pc := 10) (i := 50) (k := 4) (j := 54) X G14 rfl clX7 (okL50 _) (by decide) rfl fl_X7_37 dX7_uses_10 ?_
  refine lv_aload_n (pc := 13) X.1 X.2.1 dX7_uses_13 rfl (lv_at hl 0 rfl) ?_
  refine B_getc (pc := 14) (i := 50) (k := 0) (j := 70) X G14 rfl clX7 (okL50 _) (by decide) rfl fl_X7_10 dX7_uses_14 ?_
  obtain ⟨b17, eb17, h15⟩ := bn_some h13
  refine B_callv (pc := 17) (M' := (celB κ ad r0 b17)) (i := 54) (As := [.ref (ad 70)]) (rest := []) X G14 (rm := rm0_takeFrom) rfl rfl rfl (c0_takeFrom l D κ A ad r0 b 70 b17 eb17) (B_rcv (ci := 0) (okL54 _) (by decide)) rfl g_X7_185 hd_yX0_takeFrom ⟨Nat.le_of_ble_eq_true rfl, Nat.le_of_ble_eq_true rfl⟩ rfl hl rfl (lv_room (Nat.le_of_ble_eq_true rfl)) dX7_uses_17 ⟨Nat.le_of_ble_eq_true rfl, Nat.le_of_ble_eq_true rfl⟩ (fun H locs G16 => ?_)
  refine lv_iload_n (pc := 20) X.1 X.2.1 dX7_uses_20 rfl (lv_at hl 2 rfl) ?_
  by_cases hc24_0 : p1 = 0
  · have h18 := it_pos h15 hc24_0
    refine lv_tableIn (pc := 21) (tgt := 48) (off := 27) X.1 X.2.1 dX7_uses_21 (by rw [hc24_0]; decide) (by rw [hc24_0]; decide) (by rw [hc24_0]; decide +kernel) (by decide) ?_
    refine lv_aload_n (pc := 48) X.1 X.2.1 dX7_uses_48 rfl (lv_at hl 0 rfl) ?_
    refine B_getc (pc := 49) (i := 50) (k := 4) (j := 54) X G16 rfl clX7 (okL50 _) (by decide) rfl fl_X7_37 dX7_uses_49 ?_
    refine lv_iload_n (pc := 52) X.1 X.2.1 dX7_uses_52 rfl (lv_at hl 1 rfl) ?_
    obtain ⟨x27, ex27, h25⟩ := bn_some h18
    refine B_calli (pc := 53) (v := x27) (M' := (celB κ ad r0 b17)) (i := 54) (As := [.int p0]) (rest := []) X G16 (rm := rm0_calledBy) rfl rfl rfl (c0_calledBy l D κ A ad r0 b17 p0 x27 ex27) (B_rcv (ci := 0) (okL54 _) (by decide)) rfl g_X7_188 hd_yX0_calledBy ⟨Nat.le_of_ble_eq_true rfl, Nat.le_of_ble_eq_true rfl⟩ rfl hl rfl (lv_room (Nat.le_of_ble_eq_true rfl)) dX7_uses_53 ⟨Nat.le_of_ble_eq_true rfl, Nat.le_of_ble_eq_true rfl⟩ (fun H locs G26 => ?_)
    have h25_i := Option.some.inj h25
    exact X_iret (pc := 56) X G26 hr hlk dX7_uses_56 (congrArg Prod.snd h25_i).symm (congrArg (fun q : BS × (Nat ⊕ Int32) => celB κ ad r0 q.1) h25_i) (Nat.le_of_ble_eq_true rfl) (Nat.le_of_ble_eq_true rfl)
  · have h19 := it_neg h15 hc24_0
    by_cases hc24_1 : p1 = 1
    · have h20 := it_pos h19 hc24_1
      refine lv_tableIn (pc := 21) (tgt := 57) (off := 36) X.1 X.2.1 dX7_uses_21 (by rw [hc24_1]; decide) (by rw [hc24_1]; decide) (by rw [hc24_1]; decide +kernel) (by decide) ?_
      refine lv_aload_n (pc := 57) X.1 X.2.1 dX7_uses_57 rfl (lv_at hl 0 rfl) ?_
      refine B_getc (pc := 58) (i := 50) (k := 4) (j := 54) X G16 rfl clX7 (okL50 _) (by decide) rfl fl_X7_37 dX7_uses_58 ?_
      refine lv_iload_n (pc := 61) X.1 X.2.1 dX7_uses_61 rfl (lv_at hl 1 rfl) ?_
      obtain ⟨b31, x30, ex30, h28⟩ := bn2_some h20
      refine B_calli (pc := 62) (v := x30) (M' := (celB κ ad r0 b31)) (i := 54) (As := [.int p0]) (rest := []) X G16 (rm := rm0_reachedFrom) rfl rfl rfl (c0_reachedFrom l D κ A ad r0 b17 p0 (b31, x30) ex30) (B_rcv (ci := 0) (okL54 _) (by decide)) rfl g_X7_192 hd_yX0_reachedFrom ⟨Nat.le_of_ble_eq_true rfl, Nat.le_of_ble_eq_true rfl⟩ rfl hl rfl (lv_room (Nat.le_of_ble_eq_true rfl)) dX7_uses_62 ⟨Nat.le_of_ble_eq_true rfl, Nat.le_of_ble_eq_true rfl⟩ (fun H locs G29 => ?_)
      have h28_i := Option.some.inj h28
      exact X_iret (pc := 65) X G29 hr hlk dX7_uses_65 (congrArg Prod.snd h28_i).symm (congrArg (fun q : BS × (Nat ⊕ Int32) => celB κ ad r0 q.1) h28_i) (Nat.le_of_ble_eq_true rfl) (Nat.le_of_ble_eq_true rfl)
    · have h21 := it_neg h19 hc24_1
      by_cases hc24_2 : p1 = 2
      · have h22 := it_pos h21 hc24_2
        refine lv_tableIn (pc := 21) (tgt := 66) (off := 45) X.1 X.2.1 dX7_uses_21 (by rw [hc24_2]; decide) (by rw [hc24_2]; decide) (by rw [hc24_2]; decide +kernel) (by decide) ?_
        refine lv_aload_n (pc := 66) X.1 X.2.1 dX7_uses_66 rfl (lv_at hl 0 rfl) ?_
        refine B_getc (pc := 67) (i := 50) (k := 4) (j := 54) X G16 rfl clX7 (okL50 _) (by decide) rfl fl_X7_37 dX7_uses_67 ?_
        refine lv_iload_n (pc := 70) X.1 X.2.1 dX7_uses_70 rfl (lv_at hl 1 rfl) ?_
        obtain ⟨x34, ex34, h32⟩ := bn_some h22
        refine B_calli (pc := 71) (v := x34) (M' := (celB κ ad r0 b17)) (i := 54) (As := [.int p0]) (rest := []) X G16 (rm := rm0_callersOf) rfl rfl rfl (c0_callersOf l D κ A ad r0 b17 p0 x34 ex34) (B_rcv (ci := 0) (okL54 _) (by decide)) rfl g_X7_195 hd_yX0_callersOf ⟨Nat.le_of_ble_eq_true rfl, Nat.le_of_ble_eq_true rfl⟩ rfl hl rfl (lv_room (Nat.le_of_ble_eq_true rfl)) dX7_uses_71 ⟨Nat.le_of_ble_eq_true rfl, Nat.le_of_ble_eq_true rfl⟩ (fun H locs G33 => ?_)
        have h32_i := Option.some.inj h32
        exact X_iret (pc := 74) X G33 hr hlk dX7_uses_74 (congrArg Prod.snd h32_i).symm (congrArg (fun q : BS × (Nat ⊕ Int32) => celB κ ad r0 q.1) h32_i) (Nat.le_of_ble_eq_true rfl) (Nat.le_of_ble_eq_true rfl)
      · have h23 := it_neg h21 hc24_2
        refine lv_tableOut (pc := 21) (tgt := 75) X.1 X.2.1 dX7_uses_21 (sw_out (n := 2) (by decide) (fun k hk => ?_)) (by decide) ?_
        · rcases (show k = 0 ∨ k = 1 ∨ k = 2 by omega) with rfl | rfl | rfl
          · exact hc24_0
          · exact hc24_1
          · exact hc24_2
        · refine lv_aload_n (pc := 75) X.1 X.2.1 dX7_uses_75 rfl (lv_at hl 0 rfl) ?_
          refine B_getc (pc := 76) (i := 50) (k := 4) (j := 54) X G16 rfl clX7 (okL50 _) (by decide) rfl fl_X7_37 dX7_uses_76 ?_
          refine lv_iload_n (pc := 79) X.1 X.2.1 dX7_uses_79 rfl (lv_at hl 1 rfl) ?_
          obtain ⟨b38, x37, ex37, h35⟩ := bn2_some h23
          refine B_calli (pc := 80) (v := x37) (M' := (celB κ ad r0 b38)) (i := 54) (As := [.int p0]) (rest := []) X G16 (rm := rm0_reaching) rfl rfl rfl (c0_reaching l D κ A ad r0 b17 p0 (b38, x37) ex37) (B_rcv (ci := 0) (okL54 _) (by decide)) rfl g_X7_198 hd_yX0_reaching ⟨Nat.le_of_ble_eq_true rfl, Nat.le_of_ble_eq_true rfl⟩ rfl hl rfl (lv_room (Nat.le_of_ble_eq_true rfl)) dX7_uses_80 ⟨Nat.le_of_ble_eq_true rfl, Nat.le_of_ble_eq_true rfl⟩ (fun H locs G36 => ?_)
          have h35_i := Option.some.inj h35
          exact X_iret (pc := 83) X G36 hr hlk dX7_uses_83 (congrArg Prod.snd h35_i).symm (congrArg (fun q : BS × (Nat ⊕ Int32) => celB κ ad r0 q.1) h35_i) (Nat.le_of_ble_eq_true rfl) (Nat.le_of_ble_eq_true rfl)

abbrev rm7_chain : Room := { frames := 7, cells := 1, slots := 6, locals := 102 }
noncomputable def F7_chain (b : BS) (p0 : Int32) : Option (BS × (Nat ⊕ Int32)) :=
  bx (F7_requireLetter p0) (fun u1 k2 => some (b, .inl k2)) fun u1 v3 =>
  bn (F0_takeFrom b 70) fun b10 =>
  bn (F0_longestChain b10 p0) fun x13 =>
  some (b10, .inr x13)
set_option maxHeartbeats 4000000 in
set_option maxRecDepth 100000 in
theorem c7_chain (l : Launch) (hfl : l.stackTraces = false) (D : va_G) (κ : Nat → ClassId) (A : Nat → Prop) (ad : Nat → Nat) (r0 : Nat → Option va_E) (b : BS) (p0 : Int32) (res : BS × (Nat ⊕ Int32)) (h : F7_chain b p0 = some res) : vx_Met l yX7_chain (gw yX7_chain cX7_chain 2 (some (FieldType.int))) rm7_chain (va_Pc [.ref (ad 50), .int p0] (MW D κ A ad (celB κ ad r0 b))) (QIX D A ad (celB κ ad r0 res.1) res.2) (XX D A ad (celB κ ad r0 res.1) res.2) 1 6 A := by
  refine met_ofX (own := RX7) (by decide +kernel) rfl (Nat.le_of_ble_eq_true rfl) ?_
  intro p e s m below meth c ls X hr hlk hout G hl
  have hl : lv_has ls 2 [(0, .ref (ad 50)), (1, .int p0)] := hl
  unfold F7_chain at h
  refine lv_iload_n (pc := 0) X.1 X.2.1 dX7_chain_0 rfl (lv_at hl 1 rfl) ?_
  rcases bx_some h with ⟨u1, k2, e4, h5⟩ | ⟨u1, v3, e4, h6⟩
  · have h5_i := Option.some.inj h5
    exact X_tv (X_runS (pc := 1) (As := [.int p0]) (rest := []) (M' := (celB κ ad r0 b)) (r := (.inl k2 : Nat ⊕ Unit)) X G (rm := rm7_requireLetter) rfl rfl (c7_requireLetter l hfl D κ A ad (celB κ ad r0 b) p0 (u1, (.inl k2 : Nat ⊕ Unit)) e4) g_X7_52 hs_yX7_requireLetter ⟨Nat.le_of_ble_eq_true rfl, Nat.le_of_ble_eq_true rfl⟩ rfl hl rfl (lv_room (Nat.le_of_ble_eq_true rfl)) dX7_chain_1 ⟨Nat.le_of_ble_eq_true rfl, Nat.le_of_ble_eq_true rfl⟩) G hout hlk rfl (congrArg Prod.snd h5_i).symm (congrArg (fun q : BS × (Nat ⊕ Int32) => celB κ ad r0 q.1) h5_i) (Nat.le_of_ble_eq_true rfl) (Nat.le_of_ble_eq_true rfl)
  refine X_v (X_runS (pc := 1) (As := [.int p0]) (rest := []) (M' := (celB κ ad r0 b)) (r := (.inr v3 : Nat ⊕ Unit)) X G (rm := rm7_requireLetter) rfl rfl (c7_requireLetter l hfl D κ A ad (celB κ ad r0 b) p0 (u1, (.inr v3 : Nat ⊕ Unit)) e4) g_X7_52 hs_yX7_requireLetter ⟨Nat.le_of_ble_eq_true rfl, Nat.le_of_ble_eq_true rfl⟩ rfl hl rfl (lv_room (Nat.le_of_ble_eq_true rfl)) dX7_chain_1 ⟨Nat.le_of_ble_eq_true rfl, Nat.le_of_ble_eq_true rfl⟩) G rfl (fun H locs G7 => ?_)
  refine lv_aload_n (pc := 4) X.1 X.2.1 dX7_chain_4 rfl (lv_at hl 0 rfl) ?_
  refine B_getc (pc := 5) (i := 50) (k := 4) (j := 54) X G7 rfl clX7 (okL50 _) (by decide) rfl fl_X7_37 dX7_chain_5 ?_
  refine lv_aload_n (pc := 8) X.1 X.2.1 dX7_chain_8 rfl (lv_at hl 0 rfl) ?_
  refine B_getc (pc := 9) (i := 50) (k := 0) (j := 70) X G7 rfl clX7 (okL50 _) (by decide) rfl fl_X7_10 dX7_chain_9 ?_
  obtain ⟨b10, eb10, h8⟩ := bn_some h6
  refine B_callv (pc := 12) (M' := (celB κ ad r0 b10)) (i := 54) (As := [.ref (ad 70)]) (rest := []) X G7 (rm := rm0_takeFrom) rfl rfl rfl (c0_takeFrom l D κ A ad r0 b 70 b10 eb10) (B_rcv (ci := 0) (okL54 _) (by decide)) rfl g_X7_185 hd_yX0_takeFrom ⟨Nat.le_of_ble_eq_true rfl, Nat.le_of_ble_eq_true rfl⟩ rfl hl rfl (lv_room (Nat.le_of_ble_eq_true rfl)) dX7_chain_12 ⟨Nat.le_of_ble_eq_true rfl, Nat.le_of_ble_eq_true rfl⟩ (fun H locs G9 => ?_)
  refine lv_aload_n (pc := 15) X.1 X.2.1 dX7_chain_15 rfl (lv_at hl 0 rfl) ?_
  refine B_getc (pc := 16) (i := 50) (k := 4) (j := 54) X G9 rfl clX7 (okL50 _) (by decide) rfl fl_X7_37 dX7_chain_16 ?_
  refine lv_iload_n (pc := 19) X.1 X.2.1 dX7_chain_19 rfl (lv_at hl 1 rfl) ?_
  obtain ⟨x13, ex13, h11⟩ := bn_some h8
  refine B_calli (pc := 20) (v := x13) (M' := (celB κ ad r0 b10)) (i := 54) (As := [.int p0]) (rest := []) X G9 (rm := rm0_longestChain) rfl rfl rfl (c0_longestChain l D κ A ad r0 b10 p0 x13 ex13) (B_rcv (ci := 0) (okL54 _) (by decide)) rfl g_X7_207 hd_yX0_longestChain ⟨Nat.le_of_ble_eq_true rfl, Nat.le_of_ble_eq_true rfl⟩ rfl hl rfl (lv_room (Nat.le_of_ble_eq_true rfl)) dX7_chain_20 ⟨Nat.le_of_ble_eq_true rfl, Nat.le_of_ble_eq_true rfl⟩ (fun H locs G12 => ?_)
  have h11_i := Option.some.inj h11
  exact X_iret (pc := 23) X G12 hr hlk dX7_chain_23 (congrArg Prod.snd h11_i).symm (congrArg (fun q : BS × (Nat ⊕ Int32) => celB κ ad r0 q.1) h11_i) (Nat.le_of_ble_eq_true rfl) (Nat.le_of_ble_eq_true rfl)

abbrev rm7_ifDefined : Room := { frames := 7, cells := 2, slots := 12, locals := 102 }
noncomputable def F7_ifDefined (b : BS) (p0 : Int32) : Option (BS × (Nat ⊕ Int32)) :=
  bx (F7_requireLetter p0) (fun u1 k2 => some (b, .inl k2)) fun u1 v3 =>
  bx (F7_requireCompleteText b) (fun b8 k9 => some (b8, .inl k9)) fun b8 v10 =>
  bn (F0_takeFrom b8 70) fun b17 =>
  bn (F0_tryBody b17 p0 (b17.1 52 9)) fun b20 =>
  bn2 (F0_inRings b20) fun b24 x23 =>
  some (b24, .inr x23)
set_option maxHeartbeats 4000000 in
set_option maxRecDepth 100000 in
theorem c7_ifDefined (l : Launch) (hfl : l.stackTraces = false) (D : va_G) (κ : Nat → ClassId) (A : Nat → Prop) (ad : Nat → Nat) (r0 : Nat → Option va_E) (b : BS) (p0 : Int32) (res : BS × (Nat ⊕ Int32)) (h : F7_ifDefined b p0 = some res) : vx_Met l yX7_ifDefined (gw yX7_ifDefined cX7_ifDefined 2 (some (FieldType.int))) rm7_ifDefined (va_Pc [.ref (ad 50), .int p0] (MW D κ A ad (celB κ ad r0 b))) (QIX D A ad (celB κ ad r0 res.1) res.2) (XX D A ad (celB κ ad r0 res.1) res.2) 2 12 A := by
  refine met_ofX (own := RX7) (by decide +kernel) rfl (Nat.le_of_ble_eq_true rfl) ?_
  intro p e s m below meth c ls X hr hlk hout G hl
  have hl : lv_has ls 2 [(0, .ref (ad 50)), (1, .int p0)] := hl
  unfold F7_ifDefined at h
  refine lv_iload_n (pc := 0) X.1 X.2.1 dX7_ifDefined_0 rfl (lv_at hl 1 rfl) ?_
  rcases bx_some h with ⟨u1, k2, e4, h5⟩ | ⟨u1, v3, e4, h6⟩
  · have h5_i := Option.some.inj h5
    exact X_tv (X_runS (pc := 1) (As := [.int p0]) (rest := []) (M' := (celB κ ad r0 b)) (r := (.inl k2 : Nat ⊕ Unit)) X G (rm := rm7_requireLetter) rfl rfl (c7_requireLetter l hfl D κ A ad (celB κ ad r0 b) p0 (u1, (.inl k2 : Nat ⊕ Unit)) e4) g_X7_52 hs_yX7_requireLetter ⟨Nat.le_of_ble_eq_true rfl, Nat.le_of_ble_eq_true rfl⟩ rfl hl rfl (lv_room (Nat.le_of_ble_eq_true rfl)) dX7_ifDefined_1 ⟨Nat.le_of_ble_eq_true rfl, Nat.le_of_ble_eq_true rfl⟩) G hout hlk rfl (congrArg Prod.snd h5_i).symm (congrArg (fun q : BS × (Nat ⊕ Int32) => celB κ ad r0 q.1) h5_i) (Nat.le_of_ble_eq_true rfl) (Nat.le_of_ble_eq_true rfl)
  refine X_v (X_runS (pc := 1) (As := [.int p0]) (rest := []) (M' := (celB κ ad r0 b)) (r := (.inr v3 : Nat ⊕ Unit)) X G (rm := rm7_requireLetter) rfl rfl (c7_requireLetter l hfl D κ A ad (celB κ ad r0 b) p0 (u1, (.inr v3 : Nat ⊕ Unit)) e4) g_X7_52 hs_yX7_requireLetter ⟨Nat.le_of_ble_eq_true rfl, Nat.le_of_ble_eq_true rfl⟩ rfl hl rfl (lv_room (Nat.le_of_ble_eq_true rfl)) dX7_ifDefined_1 ⟨Nat.le_of_ble_eq_true rfl, Nat.le_of_ble_eq_true rfl⟩) G rfl (fun H locs G7 => ?_)
  refine lv_aload_n (pc := 4) X.1 X.2.1 dX7_ifDefined_4 rfl (lv_at hl 0 rfl) ?_
  rcases bx_some h6 with ⟨b8, k9, e11, h12⟩ | ⟨b8, v10, e11, h13⟩
  · have h12_i := Option.some.inj h12
    exact X_tv (X_runV (pc := 5) (i := 50) (As := []) (rest := []) (M' := (celB κ ad r0 b8)) (r := (.inl k9 : Nat ⊕ Unit)) X G7 (rm := rm7_requireCompleteText) rfl rfl rfl (c7_requireCompleteText l hfl D κ A ad r0 b  (b8, (.inl k9 : Nat ⊕ Unit)) e11) (B_rcv (ci := 7) (okL50 _) (by decide)) rfl g_X7_56 hd_yX7_requireCompleteText ⟨Nat.le_of_ble_eq_true rfl, Nat.le_of_ble_eq_true rfl⟩ rfl hl rfl (lv_room (Nat.le_of_ble_eq_true rfl)) dX7_ifDefined_5 ⟨Nat.le_of_ble_eq_true rfl, Nat.le_of_ble_eq_true rfl⟩) G7 hout hlk rfl (congrArg Prod.snd h12_i).symm (congrArg (fun q : BS × (Nat ⊕ Int32) => celB κ ad r0 q.1) h12_i) (Nat.le_of_ble_eq_true rfl) (Nat.le_of_ble_eq_true rfl)
  refine X_v (X_runV (pc := 5) (i := 50) (As := []) (rest := []) (M' := (celB κ ad r0 b8)) (r := (.inr v10 : Nat ⊕ Unit)) X G7 (rm := rm7_requireCompleteText) rfl rfl rfl (c7_requireCompleteText l hfl D κ A ad r0 b  (b8, (.inr v10 : Nat ⊕ Unit)) e11) (B_rcv (ci := 7) (okL50 _) (by decide)) rfl g_X7_56 hd_yX7_requireCompleteText ⟨Nat.le_of_ble_eq_true rfl, Nat.le_of_ble_eq_true rfl⟩ rfl hl rfl (lv_room (Nat.le_of_ble_eq_true rfl)) dX7_ifDefined_5 ⟨Nat.le_of_ble_eq_true rfl, Nat.le_of_ble_eq_true rfl⟩) G7 rfl (fun H locs G14 => ?_)
  refine lv_aload_n (pc := 8) X.1 X.2.1 dX7_ifDefined_8 rfl (lv_at hl 0 rfl) ?_
  refine B_getc (pc := 9) (i := 50) (k := 4) (j := 54) X G14 rfl clX7 (okL50 _) (by decide) rfl fl_X7_37 dX7_ifDefined_9 ?_
  refine lv_aload_n (pc := 12) X.1 X.2.1 dX7_ifDefined_12 rfl (lv_at hl 0 rfl) ?_
  refine B_getc (pc := 13) (i := 50) (k := 0) (j := 70) X G14 rfl clX7 (okL50 _) (by decide) rfl fl_X7_10 dX7_ifDefined_13 ?_
  obtain ⟨b17, eb17, h15⟩ := bn_some h13
  refine B_callv (pc := 16) (M' := (celB κ ad r0 b17)) (i := 54) (As := [.ref (ad 70)]) (rest := []) X G14 (rm := rm0_takeFrom) rfl rfl rfl (c0_takeFrom l D κ A ad r0 b8 70 b17 eb17) (B_rcv (ci := 0) (okL54 _) (by decide)) rfl g_X7_185 hd_yX0_takeFrom ⟨Nat.le_of_ble_eq_true rfl, Nat.le_of_ble_eq_true rfl⟩ rfl hl rfl (lv_room (Nat.le_of_ble_eq_true rfl)) dX7_ifDefined_16 ⟨Nat.le_of_ble_eq_true rfl, Nat.le_of_ble_eq_true rfl⟩ (fun H locs G16 => ?_)
  refine lv_aload_n (pc := 19) X.1 X.2.1 dX7_ifDefined_19 rfl (lv_at hl 0 rfl) ?_
  refine B_getc (pc := 20) (i := 50) (k := 4) (j := 54) X G16 rfl clX7 (okL50 _) (by decide) rfl fl_X7_37 dX7_ifDefined_20 ?_
  refine lv_iload_n (pc := 23) X.1 X.2.1 dX7_ifDefined_23 rfl (lv_at hl 1 rfl) ?_
  refine lv_aload_n (pc := 24) X.1 X.2.1 dX7_ifDefined_24 rfl (lv_at hl 0 rfl) ?_
  refine B_getc (pc := 25) (i := 50) (k := 3) (j := 52) X G16 rfl clX7 (okL50 _) (by decide) rfl fl_X7_30 dX7_ifDefined_25 ?_
  refine B_geti (pc := 28) (i := 52) (k := 9) X G16 rfl clX4 (okL52 _) (by decide) rfl rfl fl_X7_210 dX7_ifDefined_28 ?_
  obtain ⟨b20, eb20, h18⟩ := bn_some h15
  refine B_callv (pc := 31) (M' := (celB κ ad r0 b20)) (i := 54) (As := [.int p0, .int (b17.1 52 9)]) (rest := []) X G16 (rm := rm0_tryBody) rfl rfl rfl (c0_tryBody l D κ A ad r0 b17 p0 (b17.1 52 9) b20 eb20) (B_rcv (ci := 0) (okL54 _) (by decide)) rfl g_X7_213 hd_yX0_tryBody ⟨Nat.le_of_ble_eq_true rfl, Nat.le_of_ble_eq_true rfl⟩ rfl hl rfl (lv_room (Nat.le_of_ble_eq_true rfl)) dX7_ifDefined_31 ⟨Nat.le_of_ble_eq_true rfl, Nat.le_of_ble_eq_true rfl⟩ (fun H locs G19 => ?_)
  refine lv_aload_n (pc := 34) X.1 X.2.1 dX7_ifDefined_34 rfl (lv_at hl 0 rfl) ?_
  refine B_getc (pc := 35) (i := 50) (k := 4) (j := 54) X G19 rfl clX7 (okL50 _) (by decide) rfl fl_X7_37 dX7_ifDefined_35 ?_
  obtain ⟨b24, x23, ex23, h21⟩ := bn2_some h18
  refine B_calli (pc := 38) (v := x23) (M' := (celB κ ad r0 b24)) (i := 54) (As := []) (rest := []) X G19 (rm := rm0_inRings) rfl rfl rfl (c0_inRings l D κ A ad r0 b20 (b24, x23) ex23) (B_rcv (ci := 0) (okL54 _) (by decide)) rfl g_X7_201 hd_yX0_inRings ⟨Nat.le_of_ble_eq_true rfl, Nat.le_of_ble_eq_true rfl⟩ rfl hl rfl (lv_room (Nat.le_of_ble_eq_true rfl)) dX7_ifDefined_38 ⟨Nat.le_of_ble_eq_true rfl, Nat.le_of_ble_eq_true rfl⟩ (fun H locs G22 => ?_)
  have h21_i := Option.some.inj h21
  exact X_iret (pc := 41) X G22 hr hlk dX7_ifDefined_41 (congrArg Prod.snd h21_i).symm (congrArg (fun q : BS × (Nat ⊕ Int32) => celB κ ad r0 q.1) h21_i) (Nat.le_of_ble_eq_true rfl) (Nat.le_of_ble_eq_true rfl)

abbrev rm7_sign : Room := { frames := 6, cells := 1, slots := 6, locals := 82 }
noncomputable def F7_sign (b : BS) (p0 : Int32) : Option (BS × (Nat ⊕ Int32)) :=
  if (0 : Int32) ≤ p0 then
  bd (b.2.1 70 1) fun o4 =>
  de o4 fun t6 =>
  ck (okB b.2.2 t6 3) <|
  jp (fun (x20 : Int32) => some (b, .inr x20)) fun k13 =>
  if (nI (lnB b.2.2 (t6 + 1))) ≤ p0 then
  k13 (-1)
  else
  rd (b.1 (t6 + 1)) (lnB b.2.2 (t6 + 1)) p0 fun x18 =>
  k13 x18
  else
  some (b, .inl 2)
set_option maxHeartbeats 4000000 in
set_option maxRecDepth 100000 in
theorem c7_sign (l : Launch) (hfl : l.stackTraces = false) (D : va_G) (κ : Nat → ClassId) (A : Nat → Prop) (ad : Nat → Nat) (r0 : Nat → Option va_E) (b : BS) (p0 : Int32) (res : BS × (Nat ⊕ Int32)) (h : F7_sign b p0 = some res) : vx_Met l yX7_sign (gw yX7_sign cX7_sign 3 (some (FieldType.int))) rm7_sign (va_Pc [.ref (ad 50), .int p0] (MW D κ A ad (celB κ ad r0 b))) (QIX D A ad (celB κ ad r0 res.1) res.2) (XX D A ad (celB κ ad r0 res.1) res.2) 1 6 A := by
  refine met_ofX (own := RX7) (by decide +kernel) rfl (Nat.le_of_ble_eq_true rfl) ?_
  intro p e s m below meth c ls X hr hlk hout G hl
  have hl : lv_has ls 3 [(0, .ref (ad 50)), (1, .int p0)] := hl
  unfold F7_sign at h
  refine lv_iload_n (pc := 0) X.1 X.2.1 dX7_sign_0 rfl (lv_at hl 1 rfl) ?_
  refine lv_if_ge (pc := 1) (tgt := 14) X.1 X.2.1 dX7_sign_1 (by decide) (fun hc1 => ?_) (fun hc1 => ?_)
  · have h2 := it_pos h hc1
    refine lv_aload_n (pc := 14) X.1 X.2.1 dX7_sign_14 rfl (lv_at hl 0 rfl) ?_
    refine B_getc (pc := 15) (i := 50) (k := 0) (j := 70) X G rfl clX7 (okL50 _) (by decide) rfl fl_X7_10 dX7_sign_15 ?_
    obtain ⟨o4, eo4, h5⟩ := bd_some h2
    refine B_getm (pc := 18) (i := 70) (k := 1) (o := o4) X G rfl clX5 (okL70 _) (by decide) rfl rfl eo4 fl_X7_111 dX7_sign_18 ?_
    obtain ⟨t6, rfl, h7⟩ := de_some h5
    have hl8 : lv_has ls 3 [(0, .ref (ad 50)), (1, .int p0)] := hl
    obtain ⟨ok9, h10⟩ := ck_some h7
    refine B_getc (pc := 21) (i := t6) (k := 0) (j := t6 + 1) X G rfl clX3 ok9 (by decide) rfl fl_X7_118 dX7_sign_21 ?_
    refine lv_astore_n (pc := 24) (lv' := [(2, .ref (ad (t6 + 1))), (0, .ref (ad 50)), (1, .int p0)]) X.1 X.2.1 dX7_sign_24 rfl hl8 (by decide) rfl (fun ls11 hl12 => ?_)
    refine lv_iload_n (pc := 25) X.1 X.2.1 dX7_sign_25 rfl (lv_at hl12 2 rfl) ?_
    refine lv_aload_n (pc := 26) X.1 X.2.1 dX7_sign_26 rfl (lv_at hl12 0 rfl) ?_
    refine B_alen (pc := 27) (i := t6 + 1) (n := (lnB b.2.2 (t6 + 1))) X G rfl (ok3_arr ok9) rfl dX7_sign_27 ?_
    obtain ⟨k13, ek13, h14⟩ := jp_some h10
    have hk13 : ∀ (x20 : Int32) (H : Heap) (locs : List Loc) (ls : Array Slot), k13 x20 = some res → Mm D κ A ad (celB κ ad r0 b) s H locs → lv_has ls 3 [] → W p l e rm7_sign s m [.ref (ad 50), .int p0].toArray below meth c H locs 0 0 (vx_MQ below (QIX D A ad (celB κ ad r0 res.1) res.2) (XX D A ad (celB κ ad r0 res.1) res.2) [.ref (ad 50), .int p0].toArray s 1 6 A) (F0 m 38 ls [.int x20]) := by
      intro x20 H locs ls24 h21 G22 hl23
      rw [ek13] at h21
      try dsimp only at h21
      have h21_i := Option.some.inj h21
      exact X_iret (pc := 38) X G22 hr hlk dX7_sign_38 (congrArg Prod.snd h21_i).symm (congrArg (fun q : BS × (Nat ⊕ Int32) => celB κ ad r0 q.1) h21_i) (Nat.le_of_ble_eq_true rfl) (Nat.le_of_ble_eq_true rfl)
    refine lv_icmp_ge (pc := 28) (tgt := 37) X.1 X.2.1 dX7_sign_28 (by decide) (fun hc15 => ?_) (fun hc15 => ?_)
    · have h16 := it_pos h14 hc15
      refine lv_iconst (pc := 37) (v := (-1)) X.1 X.2.1 dX7_sign_37 (by decide) ?_
      exact hk13 (-1) _ _ ls11 h16 G (lv_sub hl12 [] rfl)
    · have h17 := it_neg h14 hc15
      refine lv_aload_n (pc := 31) X.1 X.2.1 dX7_sign_31 rfl (lv_at hl12 0 rfl) ?_
      refine lv_iload_n (pc := 32) X.1 X.2.1 dX7_sign_32 rfl (lv_at hl12 2 rfl) ?_
      have h17_r := rd_some h17
      refine B_iald (pc := 33) (i := t6 + 1) (n := (lnB b.2.2 (t6 + 1))) X G rfl (ok3_arr ok9) rfl h17_r.1 dX7_sign_33 ?_
      refine lv_topi (fun x18 ex18 => ?_)
      have h19 := h17_r.2
      rw [← ex18] at h19
      refine lv_goto (pc := 34) (tgt := 38) X.1 X.2.1 dX7_sign_34 (by decide) ?_
      exact hk13 x18 _ _ ls11 h19 G (lv_sub hl12 [] rfl)
  · have h3 := it_neg h hc1
    have h3_i := Option.some.inj h3
    exact m_throwS (pc := 4) (k := 2) (is := 216) X G hfl (ik := 90) (ic := 94) (by decide) (List.mem_of_getElem? (i := 10) rfl) hl dX7_sign_4 dX7_sign_7 dX7_sign_8 dX7_sign_10 dX7_sign_13 hout (Nat.le_of_ble_eq_true rfl) (Nat.le_of_ble_eq_true rfl) (Nat.le_of_ble_eq_true rfl) (Nat.le_of_ble_eq_true rfl) hlk (congrArg Prod.snd h3_i).symm (congrArg (fun q : BS × (Nat ⊕ Int32) => celB κ ad r0 q.1) h3_i) (Nat.le_of_ble_eq_true rfl) (Nat.le_of_ble_eq_true rfl)

abbrev rm7_result : Room := { frames := 7, cells := 1, slots := 6, locals := 103 }
noncomputable def F7_result (b : BS) (p0 : Int32) : Option (BS × (Nat ⊕ Int32)) :=
  bx (F7_requireWhat p0 7) (fun u1 k2 => some (b, .inl k2)) fun u1 v3 =>
  bd (b.2.1 70 1) fun o8 =>
  if p0 = 0 then
  de o8 fun t27 =>
  ck (okB b.2.2 t27 3) <|
  some (b, .inr (nI (lnB b.2.2 (t27 + 1))))
  else if p0 = 1 then
  de o8 fun t32 =>
  ck (okB b.2.2 t32 3) <|
  bn (F3_occurrencesOf b t32 35) fun x39 =>
  some (b, .inr x39)
  else if p0 = 2 then
  de o8 fun t40 =>
  ck (okB b.2.2 t40 3) <|
  bn (F3_occurrencesOf b t40 37) fun x47 =>
  some (b, .inr x47)
  else if p0 = 3 then
  de o8 fun t48 =>
  ck (okB b.2.2 t48 3) <|
  bn (F3_occurrencesOf b t48 36) fun x55 =>
  some (b, .inr x55)
  else if p0 = 4 then
  de o8 fun t56 =>
  ck (okB b.2.2 t56 3) <|
  bn (F3_occurrencesOf b t56 63) fun x63 =>
  some (b, .inr x63)
  else if p0 = 5 then
  de o8 fun t64 =>
  ck (okB b.2.2 t64 3) <|
  some (b, .inr (b.1 t64 1))
  else if p0 = 6 then
  de o8 fun t69 =>
  ck (okB b.2.2 t69 3) <|
  some (b, .inr (b.1 t69 2))
  else de o8 fun t74 =>
  ck (okB b.2.2 t74 3) <|
  bn (F3_listedCalls b t74) fun x81 =>
  some (b, .inr x81)
set_option maxHeartbeats 4000000 in
set_option maxRecDepth 100000 in
theorem c7_result (l : Launch) (hfl : l.stackTraces = false) (D : va_G) (κ : Nat → ClassId) (A : Nat → Prop) (ad : Nat → Nat) (r0 : Nat → Option va_E) (b : BS) (p0 : Int32) (res : BS × (Nat ⊕ Int32)) (h : F7_result b p0 = some res) : vx_Met l yX7_result (gw yX7_result cX7_result 3 (some (FieldType.int))) rm7_result (va_Pc [.ref (ad 50), .int p0] (MW D κ A ad (celB κ ad r0 b))) (QIX D A ad (celB κ ad r0 res.1) res.2) (XX D A ad (celB κ ad r0 res.1) res.2) 1 6 A := by
  refine met_ofX (own := RX7) (by decide +kernel) rfl (Nat.le_of_ble_eq_true rfl) ?_
  intro p e s m below meth c ls X hr hlk hout G hl
  have hl : lv_has ls 3 [(0, .ref (ad 50)), (1, .int p0)] := hl
  unfold F7_result at h
  refine lv_iload_n (pc := 0) X.1 X.2.1 dX7_result_0 rfl (lv_at hl 1 rfl) ?_
  refine lv_bipush (pc := 1) (v := 7) X.1 X.2.1 dX7_result_1 (by decide) ?_
  rcases bx_some h with ⟨u1, k2, e4, h5⟩ | ⟨u1, v3, e4, h6⟩
  · have h5_i := Option.some.inj h5
    exact X_tv (X_runS (pc := 3) (As := [.int p0, .int 7]) (rest := []) (M' := (celB κ ad r0 b)) (r := (.inl k2 : Nat ⊕ Unit)) X G (rm := rm7_requireWhat) rfl rfl (c7_requireWhat l hfl D κ A ad (celB κ ad r0 b) p0 7 (u1, (.inl k2 : Nat ⊕ Unit)) e4) g_X7_169 hs_yX7_requireWhat ⟨Nat.le_of_ble_eq_true rfl, Nat.le_of_ble_eq_true rfl⟩ rfl hl rfl (lv_room (Nat.le_of_ble_eq_true rfl)) dX7_result_3 ⟨Nat.le_of_ble_eq_true rfl, Nat.le_of_ble_eq_true rfl⟩) G hout hlk rfl (congrArg Prod.snd h5_i).symm (congrArg (fun q : BS × (Nat ⊕ Int32) => celB κ ad r0 q.1) h5_i) (Nat.le_of_ble_eq_true rfl) (Nat.le_of_ble_eq_true rfl)
  refine X_v (X_runS (pc := 3) (As := [.int p0, .int 7]) (rest := []) (M' := (celB κ ad r0 b)) (r := (.inr v3 : Nat ⊕ Unit)) X G (rm := rm7_requireWhat) rfl rfl (c7_requireWhat l hfl D κ A ad (celB κ ad r0 b) p0 7 (u1, (.inr v3 : Nat ⊕ Unit)) e4) g_X7_169 hs_yX7_requireWhat ⟨Nat.le_of_ble_eq_true rfl, Nat.le_of_ble_eq_true rfl⟩ rfl hl rfl (lv_room (Nat.le_of_ble_eq_true rfl)) dX7_result_3 ⟨Nat.le_of_ble_eq_true rfl, Nat.le_of_ble_eq_true rfl⟩) G rfl (fun H locs G7 => ?_)
  refine lv_aload_n (pc := 6) X.1 X.2.1 dX7_result_6 rfl (lv_at hl 0 rfl) ?_
  refine B_getc (pc := 7) (i := 50) (k := 0) (j := 70) X G7 rfl clX7 (okL50 _) (by decide) rfl fl_X7_10 dX7_result_7 ?_
  obtain ⟨o8, eo8, h9⟩ := bd_some h6
  refine B_getm (pc := 10) (i := 70) (k := 1) (o := o8) X G7 rfl clX5 (okL70 _) (by decide) rfl rfl eo8 fl_X7_111 dX7_result_10 ?_
  refine lq_astore_n (pc := 13) (lv' := [(2, va_rf (o8.map ad)), (0, .ref (ad 50)), (1, .int p0)]) X dX7_result_13 rfl hl (by decide) rfl (fun ls10 hl11 => ?_)
  refine lv_iload_n (pc := 14) X.1 X.2.1 dX7_result_14 rfl (lv_at hl11 2 rfl) ?_
  by_cases hc26_0 : p0 = 0
  · have h12 := it_pos h9 hc26_0
    refine lv_tableIn (pc := 15) (tgt := 56) (off := 41) X.1 X.2.1 dX7_result_15 (by rw [hc26_0]; decide) (by rw [hc26_0]; decide) (by rw [hc26_0]; decide +kernel) (by decide) ?_
    refine lq_aload_n (pc := 56) X dX7_result_56 rfl (lv_at hl11 0 rfl) ?_
    obtain ⟨t27, rfl, h28⟩ := de_some h12
    have hl29 : lv_has ls10 3 [(2, .ref (ad t27)), (0, .ref (ad 50)), (1, .int p0)] := hl11
    obtain ⟨ok30, h31⟩ := ck_some h28
    refine B_getc (pc := 57) (i := t27) (k := 0) (j := t27 + 1) X G7 rfl clX3 ok30 (by decide) rfl fl_X7_118 dX7_result_57 ?_
    refine B_alen (pc := 60) (i := t27 + 1) (n := (lnB b.2.2 (t27 + 1))) X G7 rfl (ok3_arr ok30) rfl dX7_result_60 ?_
    have h31_i := Option.some.inj h31
    exact X_iret (pc := 61) X G7 hr hlk dX7_result_61 (congrArg Prod.snd h31_i).symm (congrArg (fun q : BS × (Nat ⊕ Int32) => celB κ ad r0 q.1) h31_i) (Nat.le_of_ble_eq_true rfl) (Nat.le_of_ble_eq_true rfl)
  · have h13 := it_neg h9 hc26_0
    by_cases hc26_1 : p0 = 1
    · have h14 := it_pos h13 hc26_1
      refine lv_tableIn (pc := 15) (tgt := 62) (off := 47) X.1 X.2.1 dX7_result_15 (by rw [hc26_1]; decide) (by rw [hc26_1]; decide) (by rw [hc26_1]; decide +kernel) (by decide) ?_
      refine lq_aload_n (pc := 62) X dX7_result_62 rfl (lv_at hl11 0 rfl) ?_
      refine lv_bipush (pc := 63) (v := 35) X.1 X.2.1 dX7_result_63 (by decide) ?_
      obtain ⟨t32, rfl, h33⟩ := de_some h14
      have hl34 : lv_has ls10 3 [(2, .ref (ad t32)), (0, .ref (ad 50)), (1, .int p0)] := hl11
      obtain ⟨ok35, h36⟩ := ck_some h33
      obtain ⟨x39, ex39, h37⟩ := bn_some h36
      refine B_calli (pc := 65) (v := x39) (M' := (celB κ ad r0 b)) (i := t32) (As := [.int 35]) (rest := []) X G7 (rm := rm3_occurrencesOf) rfl rfl rfl (c3_occurrencesOf l D κ A ad r0 b t32 35 x39 ex39) (B_rcv (ci := 3) ok35 (by decide)) rfl g_X7_218 hd_yX3_occurrencesOf ⟨Nat.le_of_ble_eq_true rfl, Nat.le_of_ble_eq_true rfl⟩ rfl hl34 rfl (lv_room (Nat.le_of_ble_eq_true rfl)) dX7_result_65 ⟨Nat.le_of_ble_eq_true rfl, Nat.le_of_ble_eq_true rfl⟩ (fun H locs G38 => ?_)
      have h37_i := Option.some.inj h37
      exact X_iret (pc := 68) X G38 hr hlk dX7_result_68 (congrArg Prod.snd h37_i).symm (congrArg (fun q : BS × (Nat ⊕ Int32) => celB κ ad r0 q.1) h37_i) (Nat.le_of_ble_eq_true rfl) (Nat.le_of_ble_eq_true rfl)
    · have h15 := it_neg h13 hc26_1
      by_cases hc26_2 : p0 = 2
      · have h16 := it_pos h15 hc26_2
        refine lv_tableIn (pc := 15) (tgt := 69) (off := 54) X.1 X.2.1 dX7_result_15 (by rw [hc26_2]; decide) (by rw [hc26_2]; decide) (by rw [hc26_2]; decide +kernel) (by decide) ?_
        refine lq_aload_n (pc := 69) X dX7_result_69 rfl (lv_at hl11 0 rfl) ?_
        refine lv_bipush (pc := 70) (v := 37) X.1 X.2.1 dX7_result_70 (by decide) ?_
        obtain ⟨t40, rfl, h41⟩ := de_some h16
        have hl42 : lv_has ls10 3 [(2, .ref (ad t40)), (0, .ref (ad 50)), (1, .int p0)] := hl11
        obtain ⟨ok43, h44⟩ := ck_some h41
        obtain ⟨x47, ex47, h45⟩ := bn_some h44
        refine B_calli (pc := 72) (v := x47) (M' := (celB κ ad r0 b)) (i := t40) (As := [.int 37]) (rest := []) X G7 (rm := rm3_occurrencesOf) rfl rfl rfl (c3_occurrencesOf l D κ A ad r0 b t40 37 x47 ex47) (B_rcv (ci := 3) ok43 (by decide)) rfl g_X7_218 hd_yX3_occurrencesOf ⟨Nat.le_of_ble_eq_true rfl, Nat.le_of_ble_eq_true rfl⟩ rfl hl42 rfl (lv_room (Nat.le_of_ble_eq_true rfl)) dX7_result_72 ⟨Nat.le_of_ble_eq_true rfl, Nat.le_of_ble_eq_true rfl⟩ (fun H locs G46 => ?_)
        have h45_i := Option.some.inj h45
        exact X_iret (pc := 75) X G46 hr hlk dX7_result_75 (congrArg Prod.snd h45_i).symm (congrArg (fun q : BS × (Nat ⊕ Int32) => celB κ ad r0 q.1) h45_i) (Nat.le_of_ble_eq_true rfl) (Nat.le_of_ble_eq_true rfl)
      · have h17 := it_neg h15 hc26_2
        by_cases hc26_3 : p0 = 3
        · have h18 := it_pos h17 hc26_3
          refine lv_tableIn (pc := 15) (tgt := 76) (off := 61) X.1 X.2.1 dX7_result_15 (by rw [hc26_3]; decide) (by rw [hc26_3]; decide) (by rw [hc26_3]; decide +kernel) (by decide) ?_
          refine lq_aload_n (pc := 76) X dX7_result_76 rfl (lv_at hl11 0 rfl) ?_
          refine lv_bipush (pc := 77) (v := 36) X.1 X.2.1 dX7_result_77 (by decide) ?_
          obtain ⟨t48, rfl, h49⟩ := de_some h18
          have hl50 : lv_has ls10 3 [(2, .ref (ad t48)), (0, .ref (ad 50)), (1, .int p0)] := hl11
          obtain ⟨ok51, h52⟩ := ck_some h49
          obtain ⟨x55, ex55, h53⟩ := bn_some h52
          refine B_calli (pc := 79) (v := x55) (M' := (celB κ ad r0 b)) (i := t48) (As := [.int 36]) (rest := []) X G7 (rm := rm3_occurrencesOf) rfl rfl rfl (c3_occurrencesOf l D κ A ad r0 b t48 36 x55 ex55) (B_rcv (ci := 3) ok51 (by decide)) rfl g_X7_218 hd_yX3_occurrencesOf ⟨Nat.le_of_ble_eq_true rfl, Nat.le_of_ble_eq_true rfl⟩ rfl hl50 rfl (lv_room (Nat.le_of_ble_eq_true rfl)) dX7_result_79 ⟨Nat.le_of_ble_eq_true rfl, Nat.le_of_ble_eq_true rfl⟩ (fun H locs G54 => ?_)
          have h53_i := Option.some.inj h53
          exact X_iret (pc := 82) X G54 hr hlk dX7_result_82 (congrArg Prod.snd h53_i).symm (congrArg (fun q : BS × (Nat ⊕ Int32) => celB κ ad r0 q.1) h53_i) (Nat.le_of_ble_eq_true rfl) (Nat.le_of_ble_eq_true rfl)
        · have h19 := it_neg h17 hc26_3
          by_cases hc26_4 : p0 = 4
          · have h20 := it_pos h19 hc26_4
            refine lv_tableIn (pc := 15) (tgt := 83) (off := 68) X.1 X.2.1 dX7_result_15 (by rw [hc26_4]; decide) (by rw [hc26_4]; decide) (by rw [hc26_4]; decide +kernel) (by decide) ?_
            refine lq_aload_n (pc := 83) X dX7_result_83 rfl (lv_at hl11 0 rfl) ?_
            refine lv_bipush (pc := 84) (v := 63) X.1 X.2.1 dX7_result_84 (by decide) ?_
            obtain ⟨t56, rfl, h57⟩ := de_some h20
            have hl58 : lv_has ls10 3 [(2, .ref (ad t56)), (0, .ref (ad 50)), (1, .int p0)] := hl11
            obtain ⟨ok59, h60⟩ := ck_some h57
            obtain ⟨x63, ex63, h61⟩ := bn_some h60
            refine B_calli (pc := 86) (v := x63) (M' := (celB κ ad r0 b)) (i := t56) (As := [.int 63]) (rest := []) X G7 (rm := rm3_occurrencesOf) rfl rfl rfl (c3_occurrencesOf l D κ A ad r0 b t56 63 x63 ex63) (B_rcv (ci := 3) ok59 (by decide)) rfl g_X7_218 hd_yX3_occurrencesOf ⟨Nat.le_of_ble_eq_true rfl, Nat.le_of_ble_eq_true rfl⟩ rfl hl58 rfl (lv_room (Nat.le_of_ble_eq_true rfl)) dX7_result_86 ⟨Nat.le_of_ble_eq_true rfl, Nat.le_of_ble_eq_true rfl⟩ (fun H locs G62 => ?_)
            have h61_i := Option.some.inj h61
            exact X_iret (pc := 89) X G62 hr hlk dX7_result_89 (congrArg Prod.snd h61_i).symm (congrArg (fun q : BS × (Nat ⊕ Int32) => celB κ ad r0 q.1) h61_i) (Nat.le_of_ble_eq_true rfl) (Nat.le_of_ble_eq_true rfl)
          · have h21 := it_neg h19 hc26_4
            by_cases hc26_5 : p0 = 5
            · have h22 := it_pos h21 hc26_5
              refine lv_tableIn (pc := 15) (tgt := 90) (off := 75) X.1 X.2.1 dX7_result_15 (by rw [hc26_5]; decide) (by rw [hc26_5]; decide) (by rw [hc26_5]; decide +kernel) (by decide) ?_
              refine lq_aload_n (pc := 90) X dX7_result_90 rfl (lv_at hl11 0 rfl) ?_
              obtain ⟨t64, rfl, h65⟩ := de_some h22
              have hl66 : lv_has ls10 3 [(2, .ref (ad t64)), (0, .ref (ad 50)), (1, .int p0)] := hl11
              obtain ⟨ok67, h68⟩ := ck_some h65
              refine B_geti (pc := 91) (i := t64) (k := 1) X G7 rfl clX3 ok67 (by decide) rfl rfl fl_X7_221 dX7_result_91 ?_
              have h68_i := Option.some.inj h68
              exact X_iret (pc := 94) X G7 hr hlk dX7_result_94 (congrArg Prod.snd h68_i).symm (congrArg (fun q : BS × (Nat ⊕ Int32) => celB κ ad r0 q.1) h68_i) (Nat.le_of_ble_eq_true rfl) (Nat.le_of_ble_eq_true rfl)
            · have h23 := it_neg h21 hc26_5
              by_cases hc26_6 : p0 = 6
              · have h24 := it_pos h23 hc26_6
                refine lv_tableIn (pc := 15) (tgt := 95) (off := 80) X.1 X.2.1 dX7_result_15 (by rw [hc26_6]; decide) (by rw [hc26_6]; decide) (by rw [hc26_6]; decide +kernel) (by decide) ?_
                refine lq_aload_n (pc := 95) X dX7_result_95 rfl (lv_at hl11 0 rfl) ?_
                obtain ⟨t69, rfl, h70⟩ := de_some h24
                have hl71 : lv_has ls10 3 [(2, .ref (ad t69)), (0, .ref (ad 50)), (1, .int p0)] := hl11
                obtain ⟨ok72, h73⟩ := ck_some h70
                refine B_geti (pc := 96) (i := t69) (k := 2) X G7 rfl clX3 ok72 (by decide) rfl rfl fl_X7_224 dX7_result_96 ?_
                have h73_i := Option.some.inj h73
                exact X_iret (pc := 99) X G7 hr hlk dX7_result_99 (congrArg Prod.snd h73_i).symm (congrArg (fun q : BS × (Nat ⊕ Int32) => celB κ ad r0 q.1) h73_i) (Nat.le_of_ble_eq_true rfl) (Nat.le_of_ble_eq_true rfl)
              · have h25 := it_neg h23 hc26_6
                refine lv_tableOut (pc := 15) (tgt := 100) X.1 X.2.1 dX7_result_15 (sw_out (n := 6) (by decide) (fun k hk => ?_)) (by decide) ?_
                · rcases (show k = 0 ∨ k = 1 ∨ k = 2 ∨ k = 3 ∨ k = 4 ∨ k = 5 ∨ k = 6 by omega) with rfl | rfl | rfl | rfl | rfl | rfl | rfl
                  · exact hc26_0
                  · exact hc26_1
                  · exact hc26_2
                  · exact hc26_3
                  · exact hc26_4
                  · exact hc26_5
                  · exact hc26_6
                · refine lq_aload_n (pc := 100) X dX7_result_100 rfl (lv_at hl11 0 rfl) ?_
                  obtain ⟨t74, rfl, h75⟩ := de_some h25
                  have hl76 : lv_has ls10 3 [(2, .ref (ad t74)), (0, .ref (ad 50)), (1, .int p0)] := hl11
                  obtain ⟨ok77, h78⟩ := ck_some h75
                  obtain ⟨x81, ex81, h79⟩ := bn_some h78
                  refine B_calli (pc := 101) (v := x81) (M' := (celB κ ad r0 b)) (i := t74) (As := []) (rest := []) X G7 (rm := rm3_listedCalls) rfl rfl rfl (c3_listedCalls l D κ A ad r0 b t74 x81 ex81) (B_rcv (ci := 3) ok77 (by decide)) rfl g_X7_227 hd_yX3_listedCalls ⟨Nat.le_of_ble_eq_true rfl, Nat.le_of_ble_eq_true rfl⟩ rfl hl76 rfl (lv_room (Nat.le_of_ble_eq_true rfl)) dX7_result_101 ⟨Nat.le_of_ble_eq_true rfl, Nat.le_of_ble_eq_true rfl⟩ (fun H locs G80 => ?_)
                  have h79_i := Option.some.inj h79
                  exact X_iret (pc := 104) X G80 hr hlk dX7_result_104 (congrArg Prod.snd h79_i).symm (congrArg (fun q : BS × (Nat ⊕ Int32) => celB κ ad r0 q.1) h79_i) (Nat.le_of_ble_eq_true rfl) (Nat.le_of_ble_eq_true rfl)

abbrev rm7_trace : Room := { frames := 7, cells := 1, slots := 6, locals := 103 }
noncomputable def F7_trace (b : BS) (p0 : Int32) (p1 : Int32) : Option (BS × (Nat ⊕ Int32)) :=
  if (0 : Int32) ≤ p0 then
  bx (F7_requireWhat p1 5) (fun u4 k5 => some (b, .inl k5)) fun u4 v6 =>
  bd (b.2.1 70 1) fun o11 =>
  de o11 fun t13 =>
  ck (okB b.2.2 t13 3) <|
  bn (F3_numberOfCall b t13 p0 p1) fun x20 =>
  some (b, .inr x20)
  else
  some (b, .inl 2)
set_option maxHeartbeats 4000000 in
set_option maxRecDepth 100000 in
theorem c7_trace (l : Launch) (hfl : l.stackTraces = false) (D : va_G) (κ : Nat → ClassId) (A : Nat → Prop) (ad : Nat → Nat) (r0 : Nat → Option va_E) (b : BS) (p0 : Int32) (p1 : Int32) (res : BS × (Nat ⊕ Int32)) (h : F7_trace b p0 p1 = some res) : vx_Met l yX7_trace (gw yX7_trace cX7_trace 3 (some (FieldType.int))) rm7_trace (va_Pc [.ref (ad 50), .int p0, .int p1] (MW D κ A ad (celB κ ad r0 b))) (QIX D A ad (celB κ ad r0 res.1) res.2) (XX D A ad (celB κ ad r0 res.1) res.2) 1 6 A := by
  refine met_ofX (own := RX7) (by decide +kernel) rfl (Nat.le_of_ble_eq_true rfl) ?_
  intro p e s m below meth c ls X hr hlk hout G hl
  have hl : lv_has ls 3 [(0, .ref (ad 50)), (1, .int p0), (2, .int p1)] := hl
  unfold F7_trace at h
  refine lv_iload_n (pc := 0) X.1 X.2.1 dX7_trace_0 rfl (lv_at hl 1 rfl) ?_
  refine lv_if_ge (pc := 1) (tgt := 14) X.1 X.2.1 dX7_trace_1 (by decide) (fun hc1 => ?_) (fun hc1 => ?_)
  · have h2 := it_pos h hc1
    refine lv_iload_n (pc := 14) X.1 X.2.1 dX7_trace_14 rfl (lv_at hl 2 rfl) ?_
    refine lv_iconst (pc := 15) (v := 5) X.1 X.2.1 dX7_trace_15 (by decide) ?_
    rcases bx_some h2 with ⟨u4, k5, e7, h8⟩ | ⟨u4, v6, e7, h9⟩
    · have h8_i := Option.some.inj h8
      exact X_tv (X_runS (pc := 16) (As := [.int p1, .int 5]) (rest := []) (M' := (celB κ ad r0 b)) (r := (.inl k5 : Nat ⊕ Unit)) X G (rm := rm7_requireWhat) rfl rfl (c7_requireWhat l hfl D κ A ad (celB κ ad r0 b) p1 5 (u4, (.inl k5 : Nat ⊕ Unit)) e7) g_X7_169 hs_yX7_requireWhat ⟨Nat.le_of_ble_eq_true rfl, Nat.le_of_ble_eq_true rfl⟩ rfl hl rfl (lv_room (Nat.le_of_ble_eq_true rfl)) dX7_trace_16 ⟨Nat.le_of_ble_eq_true rfl, Nat.le_of_ble_eq_true rfl⟩) G hout hlk rfl (congrArg Prod.snd h8_i).symm (congrArg (fun q : BS × (Nat ⊕ Int32) => celB κ ad r0 q.1) h8_i) (Nat.le_of_ble_eq_true rfl) (Nat.le_of_ble_eq_true rfl)
    refine X_v (X_runS (pc := 16) (As := [.int p1, .int 5]) (rest := []) (M' := (celB κ ad r0 b)) (r := (.inr v6 : Nat ⊕ Unit)) X G (rm := rm7_requireWhat) rfl rfl (c7_requireWhat l hfl D κ A ad (celB κ ad r0 b) p1 5 (u4, (.inr v6 : Nat ⊕ Unit)) e7) g_X7_169 hs_yX7_requireWhat ⟨Nat.le_of_ble_eq_true rfl, Nat.le_of_ble_eq_true rfl⟩ rfl hl rfl (lv_room (Nat.le_of_ble_eq_true rfl)) dX7_trace_16 ⟨Nat.le_of_ble_eq_true rfl, Nat.le_of_ble_eq_true rfl⟩) G rfl (fun H locs G10 => ?_)
    refine lv_aload_n (pc := 19) X.1 X.2.1 dX7_trace_19 rfl (lv_at hl 0 rfl) ?_
    refine B_getc (pc := 20) (i := 50) (k := 0) (j := 70) X G10 rfl clX7 (okL50 _) (by decide) rfl fl_X7_10 dX7_trace_20 ?_
    obtain ⟨o11, eo11, h12⟩ := bd_some h9
    refine B_getm (pc := 23) (i := 70) (k := 1) (o := o11) X G10 rfl clX5 (okL70 _) (by decide) rfl rfl eo11 fl_X7_111 dX7_trace_23 ?_
    refine lv_iload_n (pc := 26) X.1 X.2.1 dX7_trace_26 rfl (lv_at hl 1 rfl) ?_
    refine lv_iload_n (pc := 27) X.1 X.2.1 dX7_trace_27 rfl (lv_at hl 2 rfl) ?_
    obtain ⟨t13, rfl, h14⟩ := de_some h12
    have hl15 : lv_has ls 3 [(0, .ref (ad 50)), (1, .int p0), (2, .int p1)] := hl
    obtain ⟨ok16, h17⟩ := ck_some h14
    obtain ⟨x20, ex20, h18⟩ := bn_some h17
    refine B_calli (pc := 28) (v := x20) (M' := (celB κ ad r0 b)) (i := t13) (As := [.int p0, .int p1]) (rest := []) X G10 (rm := rm3_numberOfCall) rfl rfl rfl (c3_numberOfCall l D κ A ad r0 b t13 p0 p1 x20 ex20) (B_rcv (ci := 3) ok16 (by decide)) rfl g_X7_230 hd_yX3_numberOfCall ⟨Nat.le_of_ble_eq_true rfl, Nat.le_of_ble_eq_true rfl⟩ rfl hl15 rfl (lv_room (Nat.le_of_ble_eq_true rfl)) dX7_trace_28 ⟨Nat.le_of_ble_eq_true rfl, Nat.le_of_ble_eq_true rfl⟩ (fun H locs G19 => ?_)
    have h18_i := Option.some.inj h18
    exact X_iret (pc := 31) X G19 hr hlk dX7_trace_31 (congrArg Prod.snd h18_i).symm (congrArg (fun q : BS × (Nat ⊕ Int32) => celB κ ad r0 q.1) h18_i) (Nat.le_of_ble_eq_true rfl) (Nat.le_of_ble_eq_true rfl)
  · have h3 := it_neg h hc1
    have h3_i := Option.some.inj h3
    exact m_throwS (pc := 4) (k := 2) (is := 216) X G hfl (ik := 90) (ic := 94) (by decide) (List.mem_of_getElem? (i := 10) rfl) hl dX7_trace_4 dX7_trace_7 dX7_trace_8 dX7_trace_10 dX7_trace_13 hout (Nat.le_of_ble_eq_true rfl) (Nat.le_of_ble_eq_true rfl) (Nat.le_of_ble_eq_true rfl) (Nat.le_of_ble_eq_true rfl) hlk (congrArg Prod.snd h3_i).symm (congrArg (fun q : BS × (Nat ⊕ Int32) => celB κ ad r0 q.1) h3_i) (Nat.le_of_ble_eq_true rfl) (Nat.le_of_ble_eq_true rfl)

abbrev rm7_lengthOf : Room := { frames := 53, cells := 2, slots := 12, locals := 1715 }
noncomputable def F7_lengthOf (b : BS) (p0 : Int32) (p1 : Int32) : Option (BS × (Nat ⊕ Int32)) :=
  bx (F7_requireLetter p0) (fun u1 k2 => some (b, .inl k2)) fun u1 v3 =>
  jp (fun (_ : Unit) => some (b, .inl 2)) fun k8 =>
  if p1 < 0 then
  k8 ()
  else
  if p1 ≤ 20 then
  bn (F5_definitionOf b 70 p0) fun o18 =>
  on o18 (some (b, .inr (-1))) fun t21 =>
  ck (okB b.2.2 t21 6) <|
  bn2 (F1_measureCall b 70 p0 (b.1 t21 1) p1) fun b33 x32 =>
  some (b33, .inr x32)
  else
  k8 ()
set_option maxHeartbeats 4000000 in
set_option maxRecDepth 100000 in
theorem c7_lengthOf (l : Launch) (hfl : l.stackTraces = false) (D : va_G) (κ : Nat → ClassId) (A : Nat → Prop) (ad : Nat → Nat) (r0 : Nat → Option va_E) (b : BS) (p0 : Int32) (p1 : Int32) (res : BS × (Nat ⊕ Int32)) (h : F7_lengthOf b p0 p1 = some res) : vx_Met l yX7_lengthOf (gw yX7_lengthOf cX7_lengthOf 4 (some (FieldType.int))) rm7_lengthOf (va_Pc [.ref (ad 50), .int p0, .int p1] (MW D κ A ad (celB κ ad r0 b))) (QIX D A ad (celB κ ad r0 res.1) res.2) (XX D A ad (celB κ ad r0 res.1) res.2) 2 12 A := by
  refine met_ofX (own := RX7) (by decide +kernel) rfl (Nat.le_of_ble_eq_true rfl) ?_
  intro p e s m below meth c ls X hr hlk hout G hl
  have hl : lv_has ls 4 [(0, .ref (ad 50)), (1, .int p0), (2, .int p1)] := hl
  unfold F7_lengthOf at h
  refine lv_iload_n (pc := 0) X.1 X.2.1 dX7_lengthOf_0 rfl (lv_at hl 1 rfl) ?_
  rcases bx_some h with ⟨u1, k2, e4, h5⟩ | ⟨u1, v3, e4, h6⟩
  · have h5_i := Option.some.inj h5
    exact X_tv (X_runS (pc := 1) (As := [.int p0]) (rest := []) (M' := (celB κ ad r0 b)) (r := (.inl k2 : Nat ⊕ Unit)) X G (rm := rm7_requireLetter) rfl rfl (c7_requireLetter l hfl D κ A ad (celB κ ad r0 b) p0 (u1, (.inl k2 : Nat ⊕ Unit)) e4) g_X7_52 hs_yX7_requireLetter ⟨Nat.le_of_ble_eq_true rfl, Nat.le_of_ble_eq_true rfl⟩ rfl hl rfl (lv_room (Nat.le_of_ble_eq_true rfl)) dX7_lengthOf_1 ⟨Nat.le_of_ble_eq_true rfl, Nat.le_of_ble_eq_true rfl⟩) G hout hlk rfl (congrArg Prod.snd h5_i).symm (congrArg (fun q : BS × (Nat ⊕ Int32) => celB κ ad r0 q.1) h5_i) (Nat.le_of_ble_eq_true rfl) (Nat.le_of_ble_eq_true rfl)
  refine X_v (X_runS (pc := 1) (As := [.int p0]) (rest := []) (M' := (celB κ ad r0 b)) (r := (.inr v3 : Nat ⊕ Unit)) X G (rm := rm7_requireLetter) rfl rfl (c7_requireLetter l hfl D κ A ad (celB κ ad r0 b) p0 (u1, (.inr v3 : Nat ⊕ Unit)) e4) g_X7_52 hs_yX7_requireLetter ⟨Nat.le_of_ble_eq_true rfl, Nat.le_of_ble_eq_true rfl⟩ rfl hl rfl (lv_room (Nat.le_of_ble_eq_true rfl)) dX7_lengthOf_1 ⟨Nat.le_of_ble_eq_true rfl, Nat.le_of_ble_eq_true rfl⟩) G rfl (fun H locs G7 => ?_)
  refine lv_iload_n (pc := 4) X.1 X.2.1 dX7_lengthOf_4 rfl (lv_at hl 2 rfl) ?_
  obtain ⟨k8, ek8, h9⟩ := jp_some h6
  have hk8 : ∀  (H : Heap) (locs : List Loc) (ls : Array Slot), k8 () = some res → Mm D κ A ad (celB κ ad r0 b) s H locs → lv_has ls 4 [] → W p l e rm7_lengthOf s m [.ref (ad 50), .int p0, .int p1].toArray below meth c H locs 1 6 (vx_MQ below (QIX D A ad (celB κ ad r0 res.1) res.2) (XX D A ad (celB κ ad r0 res.1) res.2) [.ref (ad 50), .int p0, .int p1].toArray s 2 12 A) (F0 m 14 ls []) := by
    intro  H locs ls37 h34 G35 hl36
    rw [ek8] at h34
    try dsimp only at h34
    have h34_i := Option.some.inj h34
    exact m_throwS (pc := 14) (k := 2) (is := 233) X G35 hfl (ik := 90) (ic := 94) (by decide) (List.mem_of_getElem? (i := 11) rfl) hl36 dX7_lengthOf_14 dX7_lengthOf_17 dX7_lengthOf_18 dX7_lengthOf_20 dX7_lengthOf_23 hout (Nat.le_of_ble_eq_true rfl) (Nat.le_of_ble_eq_true rfl) (Nat.le_of_ble_eq_true rfl) (Nat.le_of_ble_eq_true rfl) hlk (congrArg Prod.snd h34_i).symm (congrArg (fun q : BS × (Nat ⊕ Int32) => celB κ ad r0 q.1) h34_i) (Nat.le_of_ble_eq_true rfl) (Nat.le_of_ble_eq_true rfl)
  refine lv_if_lt (pc := 5) (tgt := 14) X.1 X.2.1 dX7_lengthOf_5 (by decide) (fun hc10 => ?_) (fun hc10 => ?_)
  · have h11 := it_pos h9 hc10
    exact hk8  _ _ ls h11 G7 (lv_sub hl [] rfl)
  · have h12 := it_neg h9 hc10
    refine lv_iload_n (pc := 8) X.1 X.2.1 dX7_lengthOf_8 rfl (lv_at hl 2 rfl) ?_
    refine lv_bipush (pc := 9) (v := 20) X.1 X.2.1 dX7_lengthOf_9 (by decide) ?_
    refine lv_icmp_le (pc := 11) (tgt := 24) X.1 X.2.1 dX7_lengthOf_11 (by decide) (fun hc13 => ?_) (fun hc13 => ?_)
    · have h14 := it_pos h12 hc13
      refine lv_aload_n (pc := 24) X.1 X.2.1 dX7_lengthOf_24 rfl (lv_at hl 0 rfl) ?_
      refine B_getc (pc := 25) (i := 50) (k := 0) (j := 70) X G7 rfl clX7 (okL50 _) (by decide) rfl fl_X7_10 dX7_lengthOf_25 ?_
      refine lv_iload_n (pc := 28) X.1 X.2.1 dX7_lengthOf_28 rfl (lv_at hl 1 rfl) ?_
      obtain ⟨o18, eo18, h16⟩ := bn_some h14
      refine B_callq (pc := 29) (v := o18) (M' := (celB κ ad r0 b)) (i := 70) (As := [.int p0]) (rest := []) X G7 (rm := rm5_definitionOf) rfl rfl rfl (c5_definitionOf l D κ A ad r0 b 70 p0 o18 eo18) (B_rcv (ci := 5) (okL70 _) (by decide)) rfl g_X7_87 hd_yX5_definitionOf ⟨Nat.le_of_ble_eq_true rfl, Nat.le_of_ble_eq_true rfl⟩ rfl hl rfl (lv_room (Nat.le_of_ble_eq_true rfl)) dX7_lengthOf_29 ⟨Nat.le_of_ble_eq_true rfl, Nat.le_of_ble_eq_true rfl⟩ (fun H locs G17 => ?_)
      refine lq_astore_n (pc := 32) (lv' := [(3, va_rf (o18.map ad)), (0, .ref (ad 50)), (1, .int p0), (2, .int p1)]) X dX7_lengthOf_32 rfl hl (by decide) rfl (fun ls19 hl20 => ?_)
      refine lq_aload_n (pc := 33) X dX7_lengthOf_33 rfl (lv_at hl20 0 rfl) ?_
      rcases o18 with _ | t21
      · have h22 := on_n h16
        have hl24 : lv_has ls19 4 [(3, va_rf ((none : Option Nat).map ad)), (0, .ref (ad 50)), (1, .int p0), (2, .int p1)] := hl20
        refine lv_ifnonnullN (pc := 34) X.1 X.2.1 dX7_lengthOf_34 ?_
        refine lv_iconst (pc := 37) (v := (-1)) X.1 X.2.1 dX7_lengthOf_37 (by decide) ?_
        have h22_i := Option.some.inj h22
        exact X_iret (pc := 38) X G17 hr hlk dX7_lengthOf_38 (congrArg Prod.snd h22_i).symm (congrArg (fun q : BS × (Nat ⊕ Int32) => celB κ ad r0 q.1) h22_i) (Nat.le_of_ble_eq_true rfl) (Nat.le_of_ble_eq_true rfl)
      · have h23 := on_s h16
        have hl25 : lv_has ls19 4 [(3, .ref (ad t21)), (0, .ref (ad 50)), (1, .int p0), (2, .int p1)] := hl20
        refine lv_ifnonnull (pc := 34) (tgt := 39) (x := ad t21) X.1 X.2.1 dX7_lengthOf_34 (by decide) ?_
        refine lv_aload_n (pc := 39) X.1 X.2.1 dX7_lengthOf_39 rfl (lv_at hl25 1 rfl) ?_
        refine B_getc (pc := 40) (i := 50) (k := 5) (j := 57) X G17 rfl clX7 (okL50 _) (by decide) rfl fl_X7_44 dX7_lengthOf_40 ?_
        refine lv_aload_n (pc := 43) X.1 X.2.1 dX7_lengthOf_43 rfl (lv_at hl25 1 rfl) ?_
        refine B_getc (pc := 44) (i := 50) (k := 0) (j := 70) X G17 rfl clX7 (okL50 _) (by decide) rfl fl_X7_10 dX7_lengthOf_44 ?_
        refine lv_iload_n (pc := 47) X.1 X.2.1 dX7_lengthOf_47 rfl (lv_at hl25 2 rfl) ?_
        refine lv_aload_n (pc := 48) X.1 X.2.1 dX7_lengthOf_48 rfl (lv_at hl25 0 rfl) ?_
        obtain ⟨ok28, h29⟩ := ck_some h23
        refine B_geti (pc := 49) (i := t21) (k := 1) X G17 rfl clX6 ok28 (by decide) rfl rfl fl_X7_76 dX7_lengthOf_49 ?_
        refine lv_iload_n (pc := 52) X.1 X.2.1 dX7_lengthOf_52 rfl (lv_at hl25 3 rfl) ?_
        obtain ⟨b33, x32, ex32, h30⟩ := bn2_some h29
        refine B_calli (pc := 53) (v := x32) (M' := (celB κ ad r0 b33)) (i := 57) (As := [.ref (ad 70), .int p0, .int (b.1 t21 1), .int p1]) (rest := []) X G17 (rm := rm1_measureCall) rfl rfl rfl (c1_measureCall l D κ A ad r0 b 70 p0 (b.1 t21 1) p1 (b33, x32) ex32) (B_rcv (ci := 1) (okL57 _) (by decide)) rfl g_X7_235 hd_yX1_measureCall ⟨Nat.le_of_ble_eq_true rfl, Nat.le_of_ble_eq_true rfl⟩ rfl hl25 rfl (lv_room (Nat.le_of_ble_eq_true rfl)) dX7_lengthOf_53 ⟨Nat.le_of_ble_eq_true rfl, Nat.le_of_ble_eq_true rfl⟩ (fun H locs G31 => ?_)
        have h30_i := Option.some.inj h30
        exact X_iret (pc := 56) X G31 hr hlk dX7_lengthOf_56 (congrArg Prod.snd h30_i).symm (congrArg (fun q : BS × (Nat ⊕ Int32) => celB κ ad r0 q.1) h30_i) (Nat.le_of_ble_eq_true rfl) (Nat.le_of_ble_eq_true rfl)
    · have h15 := it_neg h12 hc13
      exact hk8  _ _ ls h15 G7 (lv_sub hl [] rfl)

abbrev rm7_undo : Room := { frames := 6, cells := 1, slots := 6, locals := 82 }
noncomputable def F7_undo (b : BS)  : Option (BS × (Nat ⊕ Int32)) :=
  bn2 (F2_restoreSaved b 70) fun b4 x3 =>
  if ¬ x3 = 0 then
  some (b4, .inr (b4.1 63 3))
  else
  some (b4, .inl 3)
set_option maxHeartbeats 4000000 in
set_option maxRecDepth 100000 in
theorem c7_undo (l : Launch) (hfl : l.stackTraces = false) (D : va_G) (κ : Nat → ClassId) (A : Nat → Prop) (ad : Nat → Nat) (r0 : Nat → Option va_E) (b : BS)  (res : BS × (Nat ⊕ Int32)) (h : F7_undo b  = some res) : vx_Met l yX7_undo (gw yX7_undo cX7_undo 1 (some (FieldType.int))) rm7_undo (va_Pc [.ref (ad 50)] (MW D κ A ad (celB κ ad r0 b))) (QIX D A ad (celB κ ad r0 res.1) res.2) (XX D A ad (celB κ ad r0 res.1) res.2) 1 6 A := by
  refine met_ofX (own := RX7) (by decide +kernel) rfl (Nat.le_of_ble_eq_true rfl) ?_
  intro p e s m below meth c ls X hr hlk hout G hl
  have hl : lv_has ls 1 [(0, .ref (ad 50))] := hl
  unfold F7_undo at h
  refine lv_aload_n (pc := 0) X.1 X.2.1 dX7_undo_0 rfl (lv_at hl 0 rfl) ?_
  refine B_getc (pc := 1) (i := 50) (k := 1) (j := 63) X G rfl clX7 (okL50 _) (by decide) rfl fl_X7_19 dX7_undo_1 ?_
  refine lv_aload_n (pc := 4) X.1 X.2.1 dX7_undo_4 rfl (lv_at hl 0 rfl) ?_
  refine B_getc (pc := 5) (i := 50) (k := 0) (j := 70) X G rfl clX7 (okL50 _) (by decide) rfl fl_X7_10 dX7_undo_5 ?_
  obtain ⟨b4, x3, ex3, h1⟩ := bn2_some h
  refine B_calli (pc := 8) (v := x3) (M' := (celB κ ad r0 b4)) (i := 63) (As := [.ref (ad 70)]) (rest := []) X G (rm := rm2_restoreSaved) rfl rfl rfl (c2_restoreSaved l D κ A ad r0 b 70 (b4, x3) ex3) (B_rcv (ci := 2) (okL63 _) (by decide)) rfl g_X7_144 hd_yX2_restoreSaved ⟨Nat.le_of_ble_eq_true rfl, Nat.le_of_ble_eq_true rfl⟩ rfl hl rfl (lv_room (Nat.le_of_ble_eq_true rfl)) dX7_undo_8 ⟨Nat.le_of_ble_eq_true rfl, Nat.le_of_ble_eq_true rfl⟩ (fun H locs G2 => ?_)
  refine lv_if_ne (pc := 11) (tgt := 24) X.1 X.2.1 dX7_undo_11 (by decide) (fun hc5 => ?_) (fun hc5 => ?_)
  · have h6 := it_pos h1 hc5
    refine lv_aload_n (pc := 24) X.1 X.2.1 dX7_undo_24 rfl (lv_at hl 0 rfl) ?_
    refine B_getc (pc := 25) (i := 50) (k := 1) (j := 63) X G2 rfl clX7 (okL50 _) (by decide) rfl fl_X7_19 dX7_undo_25 ?_
    refine B_geti (pc := 28) (i := 63) (k := 3) X G2 rfl clX2 (okL63 _) (by decide) rfl rfl fl_X7_150 dX7_undo_28 ?_
    have h6_i := Option.some.inj h6
    exact X_iret (pc := 31) X G2 hr hlk dX7_undo_31 (congrArg Prod.snd h6_i).symm (congrArg (fun q : BS × (Nat ⊕ Int32) => celB κ ad r0 q.1) h6_i) (Nat.le_of_ble_eq_true rfl) (Nat.le_of_ble_eq_true rfl)
  · have h7 := it_neg h1 (fun q => q hc5)
    have h7_i := Option.some.inj h7
    exact m_throwS (pc := 14) (k := 3) (is := 148) X G2 hfl (ik := 125) (ic := 129) (by decide) (List.mem_of_getElem? (i := 6) rfl) hl dX7_undo_14 dX7_undo_17 dX7_undo_18 dX7_undo_20 dX7_undo_23 hout (Nat.le_of_ble_eq_true rfl) (Nat.le_of_ble_eq_true rfl) (Nat.le_of_ble_eq_true rfl) (Nat.le_of_ble_eq_true rfl) hlk (congrArg Prod.snd h7_i).symm (congrArg (fun q : BS × (Nat ⊕ Int32) => celB κ ad r0 q.1) h7_i) (Nat.le_of_ble_eq_true rfl) (Nat.le_of_ble_eq_true rfl)

abbrev rm7_count : Room := { frames := 7, cells := 1, slots := 6, locals := 103 }
noncomputable def F7_count (b : BS) (p0 : Int32) : Option (BS × (Nat ⊕ Int32)) :=
  bx (F7_requireWhat p0 7) (fun u1 k2 => some (b, .inl k2)) fun u1 v3 =>
  if p0 = 0 then
  bn (F5_definedCount b 70) fun x25 =>
  some (b, .inr x25)
  else if p0 = 1 then
  bn (F5_definedSet b 70) fun x28 =>
  some (b, .inr x28)
  else if p0 = 2 then
  some (b, .inr (b.1 70 2))
  else if p0 = 3 then
  some (b, .inr (b.1 70 3))
  else if p0 = 4 then
  some (b, .inr (b.1 70 4))
  else if p0 = 5 then
  bn (F5_callsOfBodies b 70) fun x31 =>
  some (b, .inr x31)
  else if p0 = 6 then
  some (b, .inr (b.1 63 3))
  else some (b, .inr (b.1 50 6))
set_option maxHeartbeats 4000000 in
set_option maxRecDepth 100000 in
theorem c7_count (l : Launch) (hfl : l.stackTraces = false) (D : va_G) (κ : Nat → ClassId) (A : Nat → Prop) (ad : Nat → Nat) (r0 : Nat → Option va_E) (b : BS) (p0 : Int32) (res : BS × (Nat ⊕ Int32)) (h : F7_count b p0 = some res) : vx_Met l yX7_count (gw yX7_count cX7_count 2 (some (FieldType.int))) rm7_count (va_Pc [.ref (ad 50), .int p0] (MW D κ A ad (celB κ ad r0 b))) (QIX D A ad (celB κ ad r0 res.1) res.2) (XX D A ad (celB κ ad r0 res.1) res.2) 1 6 A := by
  refine met_ofX (own := RX7) (by decide +kernel) rfl (Nat.le_of_ble_eq_true rfl) ?_
  intro p e s m below meth c ls X hr hlk hout G hl
  have hl : lv_has ls 2 [(0, .ref (ad 50)), (1, .int p0)] := hl
  unfold F7_count at h
  refine lv_iload_n (pc := 0) X.1 X.2.1 dX7_count_0 rfl (lv_at hl 1 rfl) ?_
  refine lv_bipush (pc := 1) (v := 7) X.1 X.2.1 dX7_count_1 (by decide) ?_
  rcases bx_some h with ⟨u1, k2, e4, h5⟩ | ⟨u1, v3, e4, h6⟩
  · have h5_i := Option.some.inj h5
    exact X_tv (X_runS (pc := 3) (As := [.int p0, .int 7]) (rest := []) (M' := (celB κ ad r0 b)) (r := (.inl k2 : Nat ⊕ Unit)) X G (rm := rm7_requireWhat) rfl rfl (c7_requireWhat l hfl D κ A ad (celB κ ad r0 b) p0 7 (u1, (.inl k2 : Nat ⊕ Unit)) e4) g_X7_169 hs_yX7_requireWhat ⟨Nat.le_of_ble_eq_true rfl, Nat.le_of_ble_eq_true rfl⟩ rfl hl rfl (lv_room (Nat.le_of_ble_eq_true rfl)) dX7_count_3 ⟨Nat.le_of_ble_eq_true rfl, Nat.le_of_ble_eq_true rfl⟩) G hout hlk rfl (congrArg Prod.snd h5_i).symm (congrArg (fun q : BS × (Nat ⊕ Int32) => celB κ ad r0 q.1) h5_i) (Nat.le_of_ble_eq_true rfl) (Nat.le_of_ble_eq_true rfl)
  refine X_v (X_runS (pc := 3) (As := [.int p0, .int 7]) (rest := []) (M' := (celB κ ad r0 b)) (r := (.inr v3 : Nat ⊕ Unit)) X G (rm := rm7_requireWhat) rfl rfl (c7_requireWhat l hfl D κ A ad (celB κ ad r0 b) p0 7 (u1, (.inr v3 : Nat ⊕ Unit)) e4) g_X7_169 hs_yX7_requireWhat ⟨Nat.le_of_ble_eq_true rfl, Nat.le_of_ble_eq_true rfl⟩ rfl hl rfl (lv_room (Nat.le_of_ble_eq_true rfl)) dX7_count_3 ⟨Nat.le_of_ble_eq_true rfl, Nat.le_of_ble_eq_true rfl⟩) G rfl (fun H locs G7 => ?_)
  refine lv_iload_n (pc := 6) X.1 X.2.1 dX7_count_6 rfl (lv_at hl 1 rfl) ?_
  by_cases hc22_0 : p0 = 0
  · have h8 := it_pos h6 hc22_0
    refine lv_tableIn (pc := 7) (tgt := 48) (off := 41) X.1 X.2.1 dX7_count_7 (by rw [hc22_0]; decide) (by rw [hc22_0]; decide) (by rw [hc22_0]; decide +kernel) (by decide) ?_
    refine lv_aload_n (pc := 48) X.1 X.2.1 dX7_count_48 rfl (lv_at hl 0 rfl) ?_
    refine B_getc (pc := 49) (i := 50) (k := 0) (j := 70) X G7 rfl clX7 (okL50 _) (by decide) rfl fl_X7_10 dX7_count_49 ?_
    obtain ⟨x25, ex25, h23⟩ := bn_some h8
    refine B_calli (pc := 52) (v := x25) (M' := (celB κ ad r0 b)) (i := 70) (As := []) (rest := []) X G7 (rm := rm5_definedCount) rfl rfl rfl (c5_definedCount l D κ A ad r0 b 70 x25 ex25) (B_rcv (ci := 5) (okL70 _) (by decide)) rfl g_X7_83 hd_yX5_definedCount ⟨Nat.le_of_ble_eq_true rfl, Nat.le_of_ble_eq_true rfl⟩ rfl hl rfl (lv_room (Nat.le_of_ble_eq_true rfl)) dX7_count_52 ⟨Nat.le_of_ble_eq_true rfl, Nat.le_of_ble_eq_true rfl⟩ (fun H locs G24 => ?_)
    have h23_i := Option.some.inj h23
    exact X_iret (pc := 55) X G24 hr hlk dX7_count_55 (congrArg Prod.snd h23_i).symm (congrArg (fun q : BS × (Nat ⊕ Int32) => celB κ ad r0 q.1) h23_i) (Nat.le_of_ble_eq_true rfl) (Nat.le_of_ble_eq_true rfl)
  · have h9 := it_neg h6 hc22_0
    by_cases hc22_1 : p0 = 1
    · have h10 := it_pos h9 hc22_1
      refine lv_tableIn (pc := 7) (tgt := 56) (off := 49) X.1 X.2.1 dX7_count_7 (by rw [hc22_1]; decide) (by rw [hc22_1]; decide) (by rw [hc22_1]; decide +kernel) (by decide) ?_
      refine lv_aload_n (pc := 56) X.1 X.2.1 dX7_count_56 rfl (lv_at hl 0 rfl) ?_
      refine B_getc (pc := 57) (i := 50) (k := 0) (j := 70) X G7 rfl clX7 (okL50 _) (by decide) rfl fl_X7_10 dX7_count_57 ?_
      obtain ⟨x28, ex28, h26⟩ := bn_some h10
      refine B_calli (pc := 60) (v := x28) (M' := (celB κ ad r0 b)) (i := 70) (As := []) (rest := []) X G7 (rm := rm5_definedSet) rfl rfl rfl (c5_definedSet l D κ A ad r0 b 70 x28 ex28) (B_rcv (ci := 5) (okL70 _) (by decide)) rfl g_X7_239 hd_yX5_definedSet ⟨Nat.le_of_ble_eq_true rfl, Nat.le_of_ble_eq_true rfl⟩ rfl hl rfl (lv_room (Nat.le_of_ble_eq_true rfl)) dX7_count_60 ⟨Nat.le_of_ble_eq_true rfl, Nat.le_of_ble_eq_true rfl⟩ (fun H locs G27 => ?_)
      have h26_i := Option.some.inj h26
      exact X_iret (pc := 63) X G27 hr hlk dX7_count_63 (congrArg Prod.snd h26_i).symm (congrArg (fun q : BS × (Nat ⊕ Int32) => celB κ ad r0 q.1) h26_i) (Nat.le_of_ble_eq_true rfl) (Nat.le_of_ble_eq_true rfl)
    · have h11 := it_neg h9 hc22_1
      by_cases hc22_2 : p0 = 2
      · have h12 := it_pos h11 hc22_2
        refine lv_tableIn (pc := 7) (tgt := 64) (off := 57) X.1 X.2.1 dX7_count_7 (by rw [hc22_2]; decide) (by rw [hc22_2]; decide) (by rw [hc22_2]; decide +kernel) (by decide) ?_
        refine lv_aload_n (pc := 64) X.1 X.2.1 dX7_count_64 rfl (lv_at hl 0 rfl) ?_
        refine B_getc (pc := 65) (i := 50) (k := 0) (j := 70) X G7 rfl clX7 (okL50 _) (by decide) rfl fl_X7_10 dX7_count_65 ?_
        refine B_geti (pc := 68) (i := 70) (k := 2) X G7 rfl clX5 (okL70 _) (by decide) rfl rfl fl_X7_97 dX7_count_68 ?_
        have h12_i := Option.some.inj h12
        exact X_iret (pc := 71) X G7 hr hlk dX7_count_71 (congrArg Prod.snd h12_i).symm (congrArg (fun q : BS × (Nat ⊕ Int32) => celB κ ad r0 q.1) h12_i) (Nat.le_of_ble_eq_true rfl) (Nat.le_of_ble_eq_true rfl)
      · have h13 := it_neg h11 hc22_2
        by_cases hc22_3 : p0 = 3
        · have h14 := it_pos h13 hc22_3
          refine lv_tableIn (pc := 7) (tgt := 72) (off := 65) X.1 X.2.1 dX7_count_7 (by rw [hc22_3]; decide) (by rw [hc22_3]; decide) (by rw [hc22_3]; decide +kernel) (by decide) ?_
          refine lv_aload_n (pc := 72) X.1 X.2.1 dX7_count_72 rfl (lv_at hl 0 rfl) ?_
          refine B_getc (pc := 73) (i := 50) (k := 0) (j := 70) X G7 rfl clX7 (okL50 _) (by decide) rfl fl_X7_10 dX7_count_73 ?_
          refine B_geti (pc := 76) (i := 70) (k := 3) X G7 rfl clX5 (okL70 _) (by decide) rfl rfl fl_X7_115 dX7_count_76 ?_
          have h14_i := Option.some.inj h14
          exact X_iret (pc := 79) X G7 hr hlk dX7_count_79 (congrArg Prod.snd h14_i).symm (congrArg (fun q : BS × (Nat ⊕ Int32) => celB κ ad r0 q.1) h14_i) (Nat.le_of_ble_eq_true rfl) (Nat.le_of_ble_eq_true rfl)
        · have h15 := it_neg h13 hc22_3
          by_cases hc22_4 : p0 = 4
          · have h16 := it_pos h15 hc22_4
            refine lv_tableIn (pc := 7) (tgt := 80) (off := 73) X.1 X.2.1 dX7_count_7 (by rw [hc22_4]; decide) (by rw [hc22_4]; decide) (by rw [hc22_4]; decide +kernel) (by decide) ?_
            refine lv_aload_n (pc := 80) X.1 X.2.1 dX7_count_80 rfl (lv_at hl 0 rfl) ?_
            refine B_getc (pc := 81) (i := 50) (k := 0) (j := 70) X G7 rfl clX7 (okL50 _) (by decide) rfl fl_X7_10 dX7_count_81 ?_
            refine B_geti (pc := 84) (i := 70) (k := 4) X G7 rfl clX5 (okL70 _) (by decide) rfl rfl fl_X7_104 dX7_count_84 ?_
            have h16_i := Option.some.inj h16
            exact X_iret (pc := 87) X G7 hr hlk dX7_count_87 (congrArg Prod.snd h16_i).symm (congrArg (fun q : BS × (Nat ⊕ Int32) => celB κ ad r0 q.1) h16_i) (Nat.le_of_ble_eq_true rfl) (Nat.le_of_ble_eq_true rfl)
          · have h17 := it_neg h15 hc22_4
            by_cases hc22_5 : p0 = 5
            · have h18 := it_pos h17 hc22_5
              refine lv_tableIn (pc := 7) (tgt := 88) (off := 81) X.1 X.2.1 dX7_count_7 (by rw [hc22_5]; decide) (by rw [hc22_5]; decide) (by rw [hc22_5]; decide +kernel) (by decide) ?_
              refine lv_aload_n (pc := 88) X.1 X.2.1 dX7_count_88 rfl (lv_at hl 0 rfl) ?_
              refine B_getc (pc := 89) (i := 50) (k := 0) (j := 70) X G7 rfl clX7 (okL50 _) (by decide) rfl fl_X7_10 dX7_count_89 ?_
              obtain ⟨x31, ex31, h29⟩ := bn_some h18
              refine B_calli (pc := 92) (v := x31) (M' := (celB κ ad r0 b)) (i := 70) (As := []) (rest := []) X G7 (rm := rm5_callsOfBodies) rfl rfl rfl (c5_callsOfBodies l D κ A ad r0 b 70 x31 ex31) (B_rcv (ci := 5) (okL70 _) (by decide)) rfl g_X7_242 hd_yX5_callsOfBodies ⟨Nat.le_of_ble_eq_true rfl, Nat.le_of_ble_eq_true rfl⟩ rfl hl rfl (lv_room (Nat.le_of_ble_eq_true rfl)) dX7_count_92 ⟨Nat.le_of_ble_eq_true rfl, Nat.le_of_ble_eq_true rfl⟩ (fun H locs G30 => ?_)
              have h29_i := Option.some.inj h29
              exact X_iret (pc := 95) X G30 hr hlk dX7_count_95 (congrArg Prod.snd h29_i).symm (congrArg (fun q : BS × (Nat ⊕ Int32) => celB κ ad r0 q.1) h29_i) (Nat.le_of_ble_eq_true rfl) (Nat.le_of_ble_eq_true rfl)
            · have h19 := it_neg h17 hc22_5
              by_cases hc22_6 : p0 = 6
              · have h20 := it_pos h19 hc22_6
                refine lv_tableIn (pc := 7) (tgt := 96) (off := 89) X.1 X.2.1 dX7_count_7 (by rw [hc22_6]; decide) (by rw [hc22_6]; decide) (by rw [hc22_6]; decide +kernel) (by decide) ?_
                refine lv_aload_n (pc := 96) X.1 X.2.1 dX7_count_96 rfl (lv_at hl 0 rfl) ?_
                refine B_getc (pc := 97) (i := 50) (k := 1) (j := 63) X G7 rfl clX7 (okL50 _) (by decide) rfl fl_X7_19 dX7_count_97 ?_
                refine B_geti (pc := 100) (i := 63) (k := 3) X G7 rfl clX2 (okL63 _) (by decide) rfl rfl fl_X7_150 dX7_count_100 ?_
                have h20_i := Option.some.inj h20
                exact X_iret (pc := 103) X G7 hr hlk dX7_count_103 (congrArg Prod.snd h20_i).symm (congrArg (fun q : BS × (Nat ⊕ Int32) => celB κ ad r0 q.1) h20_i) (Nat.le_of_ble_eq_true rfl) (Nat.le_of_ble_eq_true rfl)
              · have h21 := it_neg h19 hc22_6
                refine lv_tableOut (pc := 7) (tgt := 104) X.1 X.2.1 dX7_count_7 (sw_out (n := 6) (by decide) (fun k hk => ?_)) (by decide) ?_
                · rcases (show k = 0 ∨ k = 1 ∨ k = 2 ∨ k = 3 ∨ k = 4 ∨ k = 5 ∨ k = 6 by omega) with rfl | rfl | rfl | rfl | rfl | rfl | rfl
                  · exact hc22_0
                  · exact hc22_1
                  · exact hc22_2
                  · exact hc22_3
                  · exact hc22_4
                  · exact hc22_5
                  · exact hc22_6
                · refine lv_aload_n (pc := 104) X.1 X.2.1 dX7_count_104 rfl (lv_at hl 0 rfl) ?_
                  refine B_geti (pc := 105) (i := 50) (k := 6) X G7 rfl clX7 (okL50 _) (by decide) rfl rfl fl_X7_48 dX7_count_105 ?_
                  have h21_i := Option.some.inj h21
                  exact X_iret (pc := 108) X G7 hr hlk dX7_count_108 (congrArg Prod.snd h21_i).symm (congrArg (fun q : BS × (Nat ⊕ Int32) => celB κ ad r0 q.1) h21_i) (Nat.le_of_ble_eq_true rfl) (Nat.le_of_ble_eq_true rfl)
