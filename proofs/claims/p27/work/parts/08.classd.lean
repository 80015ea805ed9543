/-! THE CLASS, laid by wip/whole/walkb.py -/
abbrev rm1_markAt : Room := { frames := 0, cells := 0, slots := 0, locals := 0 }
noncomputable def F1_markAt (b : BS) (p0 : Int32) : Option (Int32) :=
  jp (fun (x17 : Int32) => some x17) fun k1 =>
  jp (fun (_ : Unit) => k1 (b.1 57 5)) fun k3 =>
  if p0 < 0 then
  k3 ()
  else
  if (854 : Int32) ≤ p0 then
  k3 ()
  else
  rd (b.1 59) 854 p0 fun x11 =>
  k1 x11
set_option maxHeartbeats 4000000 in
set_option maxRecDepth 100000 in
theorem c1_markAt (l : Launch) (D : va_G) (κ : Nat → ClassId) (A : Nat → Prop) (ad : Nat → Nat) (r0 : Nat → Option va_E) (b : BS) (p0 : Int32) (res : Int32) (h : F1_markAt b p0 = some res) : Met l yX1_markAt (gw yX1_markAt cX1_markAt 2 (some (FieldType.int))) rm1_markAt (va_Pc [.ref (ad 57), .int p0] (MW D κ A ad (celB κ ad r0 b))) (QI D κ A ad (celB κ ad r0 b) res) 0 0 A := by
  refine met_of (own := RX1) (by decide +kernel) rfl (Nat.le_of_ble_eq_true rfl) ?_
  intro p e s m below meth c ls X hr hlk G hl
  have hl : lv_has ls 2 [(0, .ref (ad 57)), (1, .int p0)] := hl
  unfold F1_markAt at h
  refine lv_iload_n (pc := 0) X.1 X.2.1 dX1_markAt_0 rfl (lv_at hl 1 rfl) ?_
  obtain ⟨k1, ek1, h2⟩ := jp_some h
  have hk1 : ∀ (x17 : Int32) (H : Heap) (locs : List Loc) (ls : Array Slot), k1 x17 = some res → Mm D κ A ad (celB κ ad r0 b) s H locs → lv_has ls 2 [] → W p l e rm1_markAt s m [.ref (ad 57), .int p0].toArray below meth c H locs 0 0 (MQ below (QI D κ A ad (celB κ ad r0 b) res) [.ref (ad 57), .int p0].toArray s 0 0 A) (F0 m 24 ls [.int x17]) := by
    intro x17 H locs ls21 h18 G19 hl20
    rw [ek1] at h18
    try dsimp only at h18
    have h18_i := Option.some.inj h18
    exact m_iret (pc := 24) X G19 hr hlk dX1_markAt_24 h18_i rfl
  obtain ⟨k3, ek3, h4⟩ := jp_some h2
  have hk3 : ∀  (H : Heap) (locs : List Loc) (ls : Array Slot), k3 () = some res → Mm D κ A ad (celB κ ad r0 b) s H locs → lv_has ls 2 [(0, .ref (ad 57))] → W p l e rm1_markAt s m [.ref (ad 57), .int p0].toArray below meth c H locs 0 0 (MQ below (QI D κ A ad (celB κ ad r0 b) res) [.ref (ad 57), .int p0].toArray s 0 0 A) (F0 m 20 ls []) := by
    intro  H locs ls16 h13 G14 hl15
    rw [ek3] at h13
    try dsimp only at h13
    refine lv_aload_n (pc := 20) X.1 X.2.1 dX1_markAt_20 rfl (lv_at hl15 0 rfl) ?_
    refine B_geti (pc := 21) (i := 57) (k := 5) X G14 rfl clX1 (okL57 _) (by decide) rfl rfl fl_X1_27 dX1_markAt_21 ?_
    exact hk1 (b.1 57 5) _ _ ls16 h13 G14 (lv_sub hl15 [] rfl)
  refine lv_if_lt (pc := 1) (tgt := 20) X.1 X.2.1 dX1_markAt_1 (by decide) (fun hc5 => ?_) (fun hc5 => ?_)
  · have h6 := it_pos h4 hc5
    exact hk3  _ _ ls h6 G (lv_sub hl [0] rfl)
  · have h7 := it_neg h4 hc5
    refine lv_iload_n (pc := 4) X.1 X.2.1 dX1_markAt_4 rfl (lv_at hl 1 rfl) ?_
    refine lv_sipush (pc := 5) (v := 854) X.1 X.2.1 dX1_markAt_5 (by decide) ?_
    refine lv_icmp_ge (pc := 8) (tgt := 20) X.1 X.2.1 dX1_markAt_8 (by decide) (fun hc8 => ?_) (fun hc8 => ?_)
    · have h9 := it_pos h7 hc8
      exact hk3  _ _ ls h9 G (lv_sub hl [0] rfl)
    · have h10 := it_neg h7 hc8
      refine lv_aload_n (pc := 11) X.1 X.2.1 dX1_markAt_11 rfl (lv_at hl 0 rfl) ?_
      refine B_getc (pc := 12) (i := 57) (k := 1) (j := 59) X G rfl clX1 (okL57 _) (by decide) rfl fl_X1_15 dX1_markAt_12 ?_
      refine lv_iload_n (pc := 15) X.1 X.2.1 dX1_markAt_15 rfl (lv_at hl 1 rfl) ?_
      have h10_r := rd_some h10
      refine B_iald (pc := 16) (i := 59) (n := 854) X G rfl (okL59 _) rfl h10_r.1 dX1_markAt_16 ?_
      refine lv_topi (fun x11 ex11 => ?_)
      have h12 := h10_r.2
      rw [← ex11] at h12
      refine lv_goto (pc := 17) (tgt := 24) X.1 X.2.1 dX1_markAt_17 (by decide) ?_
      exact hk1 x11 _ _ ls h12 G (lv_sub hl [] rfl)

abbrev rm1_takesMore : Room := { frames := 0, cells := 0, slots := 0, locals := 0 }
noncomputable def F1_takesMore (b : BS) (p0 : Int32) : Option (Int32) :=
  bd ((b.1 57 6) - 1) fun x1 =>
  jp (fun (x21 : Int32) => jp (fun (x42 : Int32) => bz x42 (some x42)) fun k28 =>
  jp (fun (_ : Unit) => k28 0) fun k30 =>
  if (200 : Int32) < (((b.1 57 5) + p0) - x21) then
  k30 ()
  else
  if (28380 : Int32) < ((b.1 57 5) + p0) then
  k30 ()
  else
  k28 1) fun k5 =>
  jp (fun (_ : Unit) => k5 0) fun k7 =>
  if x1 < 0 then
  k7 ()
  else
  if (854 : Int32) ≤ x1 then
  k7 ()
  else
  rd (b.1 59) 854 x1 fun x15 =>
  k5 x15
set_option maxHeartbeats 4000000 in
set_option maxRecDepth 100000 in
theorem c1_takesMore (l : Launch) (D : va_G) (κ : Nat → ClassId) (A : Nat → Prop) (ad : Nat → Nat) (r0 : Nat → Option va_E) (b : BS) (p0 : Int32) (res : Int32) (h : F1_takesMore b p0 = some res) : Met l yX1_takesMore (gw yX1_takesMore cX1_takesMore 4 (some (FieldType.boolean))) rm1_takesMore (va_Pc [.ref (ad 57), .int p0] (MW D κ A ad (celB κ ad r0 b))) (QI D κ A ad (celB κ ad r0 b) res) 0 0 A := by
  refine met_of (own := RX1) (by decide +kernel) rfl (Nat.le_of_ble_eq_true rfl) ?_
  intro p e s m below meth c ls X hr hlk G hl
  have hl : lv_has ls 4 [(0, .ref (ad 57)), (1, .int p0)] := hl
  unfold F1_takesMore at h
  refine lv_aload_n (pc := 0) X.1 X.2.1 dX1_takesMore_0 rfl (lv_at hl 0 rfl) ?_
  refine B_geti (pc := 1) (i := 57) (k := 6) X G rfl clX1 (okL57 _) (by decide) rfl rfl fl_X1_31 dX1_takesMore_1 ?_
  refine lv_iconst (pc := 4) (v := 1) X.1 X.2.1 dX1_takesMore_4 (by decide) ?_
  refine lv_isub (pc := 5) X.1 X.2.1 dX1_takesMore_5 ?_
  refine lv_topi (fun x1 ex1 => ?_)
  have h2 := bd_at h ex1
  refine lv_istore_n (pc := 6) (lv' := [(2, .int x1), (0, .ref (ad 57)), (1, .int p0)]) X.1 X.2.1 dX1_takesMore_6 rfl hl (by decide) rfl (fun ls3 hl4 => ?_)
  refine lv_iload_n (pc := 7) X.1 X.2.1 dX1_takesMore_7 rfl (lv_at hl4 0 rfl) ?_
  obtain ⟨k5, ek5, h6⟩ := jp_some h2
  have hk5 : ∀ (x21 : Int32) (H : Heap) (locs : List Loc) (ls : Array Slot), k5 x21 = some res → Mm D κ A ad (celB κ ad r0 b) s H locs → lv_has ls 4 [(0, .ref (ad 57)), (1, .int p0)] → W p l e rm1_takesMore s m [.ref (ad 57), .int p0].toArray below meth c H locs 0 0 (MQ below (QI D κ A ad (celB κ ad r0 b) res) [.ref (ad 57), .int p0].toArray s 0 0 A) (F0 m 28 ls [.int x21]) := by
    intro x21 H locs ls25 h22 G23 hl24
    rw [ek5] at h22
    try dsimp only at h22
    refine lv_istore_n (pc := 28) (lv' := [(3, .int x21), (0, .ref (ad 57)), (1, .int p0)]) X.1 X.2.1 dX1_takesMore_28 rfl hl24 (by decide) rfl (fun ls26 hl27 => ?_)
    refine lv_aload_n (pc := 29) X.1 X.2.1 dX1_takesMore_29 rfl (lv_at hl27 1 rfl) ?_
    refine B_geti (pc := 30) (i := 57) (k := 5) X G23 rfl clX1 (okL57 _) (by decide) rfl rfl fl_X1_27 dX1_takesMore_30 ?_
    refine lv_iload_n (pc := 33) X.1 X.2.1 dX1_takesMore_33 rfl (lv_at hl27 2 rfl) ?_
    refine lv_iadd (pc := 34) X.1 X.2.1 dX1_takesMore_34 ?_
    refine lv_iload_n (pc := 35) X.1 X.2.1 dX1_takesMore_35 rfl (lv_at hl27 0 rfl) ?_
    refine lv_isub (pc := 36) X.1 X.2.1 dX1_takesMore_36 ?_
    refine lv_sipush (pc := 37) (v := 200) X.1 X.2.1 dX1_takesMore_37 (by decide) ?_
    obtain ⟨k28, ek28, h29⟩ := jp_some h22
    have hk28 : ∀ (x42 : Int32) (H : Heap) (locs : List Loc) (ls : Array Slot), k28 x42 = some res → Mm D κ A ad (celB κ ad r0 b) s H locs → lv_has ls 4 [] → W p l e rm1_takesMore s m [.ref (ad 57), .int p0].toArray below meth c H locs 0 0 (MQ below (QI D κ A ad (celB κ ad r0 b) res) [.ref (ad 57), .int p0].toArray s 0 0 A) (F0 m 60 ls [.int x42]) := by
      intro x42 H locs ls46 h43 G44 hl45
      rw [ek28] at h43
      try dsimp only at h43
      obtain ⟨hb, h43_b⟩ := bz_some h43
      have h43_b_i := Option.some.inj h43_b
      exact m_zret (pc := 60) X G44 hr hlk dX1_takesMore_60 hb h43_b_i rfl
    obtain ⟨k30, ek30, h31⟩ := jp_some h29
    have hk30 : ∀  (H : Heap) (locs : List Loc) (ls : Array Slot), k30 () = some res → Mm D κ A ad (celB κ ad r0 b) s H locs → lv_has ls 4 [] → W p l e rm1_takesMore s m [.ref (ad 57), .int p0].toArray below meth c H locs 0 0 (MQ below (QI D κ A ad (celB κ ad r0 b) res) [.ref (ad 57), .int p0].toArray s 0 0 A) (F0 m 59 ls []) := by
      intro  H locs ls41 h38 G39 hl40
      rw [ek30] at h38
      try dsimp only at h38
      refine lv_iconst (pc := 59) (v := 0) X.1 X.2.1 dX1_takesMore_59 (by decide) ?_
      exact hk28 0 _ _ ls41 h38 G39 (lv_sub hl40 [] rfl)
    refine lv_icmp_gt (pc := 40) (tgt := 59) X.1 X.2.1 dX1_takesMore_40 (by decide) (fun hc32 => ?_) (fun hc32 => ?_)
    · have h33 := it_pos h31 hc32
      exact hk30  _ _ ls26 h33 G23 (lv_sub hl27 [] rfl)
    · have h34 := it_neg h31 hc32
      refine lv_aload_n (pc := 43) X.1 X.2.1 dX1_takesMore_43 rfl (lv_at hl27 1 rfl) ?_
      refine B_geti (pc := 44) (i := 57) (k := 5) X G23 rfl clX1 (okL57 _) (by decide) rfl rfl fl_X1_27 dX1_takesMore_44 ?_
      refine lv_iload_n (pc := 47) X.1 X.2.1 dX1_takesMore_47 rfl (lv_at hl27 2 rfl) ?_
      refine lv_iadd (pc := 48) X.1 X.2.1 dX1_takesMore_48 ?_
      refine lv_sipush (pc := 49) (v := 28380) X.1 X.2.1 dX1_takesMore_49 (by decide) ?_
      refine lv_icmp_gt (pc := 52) (tgt := 59) X.1 X.2.1 dX1_takesMore_52 (by decide) (fun hc35 => ?_) (fun hc35 => ?_)
      · have h36 := it_pos h34 hc35
        exact hk30  _ _ ls26 h36 G23 (lv_sub hl27 [] rfl)
      · have h37 := it_neg h34 hc35
        refine lv_iconst (pc := 55) (v := 1) X.1 X.2.1 dX1_takesMore_55 (by decide) ?_
        refine lv_goto (pc := 56) (tgt := 60) X.1 X.2.1 dX1_takesMore_56 (by decide) ?_
        exact hk28 1 _ _ ls26 h37 G23 (lv_sub hl27 [] rfl)
  obtain ⟨k7, ek7, h8⟩ := jp_some h6
  have hk7 : ∀  (H : Heap) (locs : List Loc) (ls : Array Slot), k7 () = some res → Mm D κ A ad (celB κ ad r0 b) s H locs → lv_has ls 4 [(0, .ref (ad 57)), (1, .int p0)] → W p l e rm1_takesMore s m [.ref (ad 57), .int p0].toArray below meth c H locs 0 0 (MQ below (QI D κ A ad (celB κ ad r0 b) res) [.ref (ad 57), .int p0].toArray s 0 0 A) (F0 m 27 ls []) := by
    intro  H locs ls20 h17 G18 hl19
    rw [ek7] at h17
    try dsimp only at h17
    refine lv_iconst (pc := 27) (v := 0) X.1 X.2.1 dX1_takesMore_27 (by decide) ?_
    exact hk5 0 _ _ ls20 h17 G18 (lv_sub hl19 [0, 1] rfl)
  refine lv_if_lt (pc := 8) (tgt := 27) X.1 X.2.1 dX1_takesMore_8 (by decide) (fun hc9 => ?_) (fun hc9 => ?_)
  · have h10 := it_pos h8 hc9
    exact hk7  _ _ ls3 h10 G (lv_sub hl4 [1, 2] rfl)
  · have h11 := it_neg h8 hc9
    refine lv_iload_n (pc := 11) X.1 X.2.1 dX1_takesMore_11 rfl (lv_at hl4 0 rfl) ?_
    refine lv_sipush (pc := 12) (v := 854) X.1 X.2.1 dX1_takesMore_12 (by decide) ?_
    refine lv_icmp_ge (pc := 15) (tgt := 27) X.1 X.2.1 dX1_takesMore_15 (by decide) (fun hc12 => ?_) (fun hc12 => ?_)
    · have h13 := it_pos h11 hc12
      exact hk7  _ _ ls3 h13 G (lv_sub hl4 [1, 2] rfl)
    · have h14 := it_neg h11 hc12
      refine lv_aload_n (pc := 18) X.1 X.2.1 dX1_takesMore_18 rfl (lv_at hl4 1 rfl) ?_
      refine B_getc (pc := 19) (i := 57) (k := 1) (j := 59) X G rfl clX1 (okL57 _) (by decide) rfl fl_X1_15 dX1_takesMore_19 ?_
      refine lv_iload_n (pc := 22) X.1 X.2.1 dX1_takesMore_22 rfl (lv_at hl4 0 rfl) ?_
      have h14_r := rd_some h14
      refine B_iald (pc := 23) (i := 59) (n := 854) X G rfl (okL59 _) rfl h14_r.1 dX1_takesMore_23 ?_
      refine lv_topi (fun x15 ex15 => ?_)
      have h16 := h14_r.2
      rw [← ex15] at h16
      refine lv_goto (pc := 24) (tgt := 28) X.1 X.2.1 dX1_takesMore_24 (by decide) ?_
      exact hk5 x15 _ _ ls3 h16 G (lv_sub hl4 [1, 2] rfl)

abbrev rm1_writeSign : Room := { frames := 1, cells := 0, slots := 0, locals := 23 }
noncomputable def F1_writeSign (b : BS) (p0 : Int32) : Option (BS) :=
  bn (F1_takesMore b 1) fun x3 =>
  if ¬ x3 = 0 then
  jp (fun (b18 : BS) => bd (setI b18 57 5 ((b18.1 57 5) + 1)) fun b23 =>
  some b23) fun k7 =>
  if (b.1 57 12) = 0 then
  k7 b
  else
  if (b.1 57 5) < 0 then
  k7 b
  else
  wb b 58 28380 (b.1 57 5) p0 fun b15 =>
  k7 b15
  else
  bz 1 <|
  bd (setI b 57 13 1) fun b26 =>
  some b26
set_option maxHeartbeats 4000000 in
set_option maxRecDepth 100000 in
theorem c1_writeSign (l : Launch) (D : va_G) (κ : Nat → ClassId) (A : Nat → Prop) (ad : Nat → Nat) (r0 : Nat → Option va_E) (b : BS) (p0 : Int32) (res : BS) (h : F1_writeSign b p0 = some res) : Met l yX1_writeSign (gw yX1_writeSign cX1_writeSign 2 none) rm1_writeSign (va_Pc [.ref (ad 57), .int p0] (MW D κ A ad (celB κ ad r0 b))) (QV D κ A ad (celB κ ad r0 res)) 0 0 A := by
  refine met_of (own := RX1) (by decide +kernel) rfl (Nat.le_of_ble_eq_true rfl) ?_
  intro p e s m below meth c ls X hr hlk G hl
  have hl : lv_has ls 2 [(0, .ref (ad 57)), (1, .int p0)] := hl
  unfold F1_writeSign at h
  refine lv_aload_n (pc := 0) X.1 X.2.1 dX1_writeSign_0 rfl (lv_at hl 0 rfl) ?_
  refine lv_iconst (pc := 1) (v := 1) X.1 X.2.1 dX1_writeSign_1 (by decide) ?_
  obtain ⟨x3, ex3, h1⟩ := bn_some h
  refine B_calli (pc := 2) (v := x3) (M' := (celB κ ad r0 b)) (i := 57) (As := [.int 1]) (rest := []) X G (rm := rm1_takesMore) rfl rfl rfl (c1_takesMore l D κ A ad r0 b 1 x3 ex3) (B_rcv (ci := 1) (okL57 _) (by decide)) rfl g_X1_129 hd_yX1_takesMore ⟨Nat.le_of_ble_eq_true rfl, Nat.le_of_ble_eq_true rfl⟩ rfl hl rfl (lv_room (Nat.le_of_ble_eq_true rfl)) dX1_writeSign_2 ⟨Nat.le_of_ble_eq_true rfl, Nat.le_of_ble_eq_true rfl⟩ (fun H locs G2 => ?_)
  refine lv_if_ne (pc := 5) (tgt := 14) X.1 X.2.1 dX1_writeSign_5 (by decide) (fun hc4 => ?_) (fun hc4 => ?_)
  · have h5 := it_pos h1 hc4
    refine lv_aload_n (pc := 14) X.1 X.2.1 dX1_writeSign_14 rfl (lv_at hl 0 rfl) ?_
    refine B_geti (pc := 15) (i := 57) (k := 12) X G2 rfl clX1 (okL57 _) (by decide) rfl rfl fl_X1_49 dX1_writeSign_15 ?_
    obtain ⟨k7, ek7, h8⟩ := jp_some h5
    have hk7 : ∀ (b18 : BS) (H : Heap) (locs : List Loc) (ls : Array Slot), k7 b18 = some res → Mm D κ A ad (celB κ ad r0 b18) s H locs → lv_has ls 2 [(0, .ref (ad 57))] → W p l e rm1_writeSign s m [.ref (ad 57), .int p0].toArray below meth c H locs 0 0 (MQ below (QV D κ A ad (celB κ ad r0 res)) [.ref (ad 57), .int p0].toArray s 0 0 A) (F0 m 38 ls []) := by
      intro b18 H locs ls22 h19 G20 hl21
      rw [ek7] at h19
      try dsimp only at h19
      refine lv_aload_n (pc := 38) X.1 X.2.1 dX1_writeSign_38 rfl (lv_at hl21 0 rfl) ?_
      refine lv_dup (pc := 39) X.1 X.2.1 dX1_writeSign_39 rfl ?_
      refine B_geti (pc := 40) (i := 57) (k := 5) X G20 rfl clX1 (okL57 _) (by decide) rfl rfl fl_X1_27 dX1_writeSign_40 ?_
      refine lv_iconst (pc := 43) (v := 1) X.1 X.2.1 dX1_writeSign_43 (by decide) ?_
      refine lv_iadd (pc := 44) X.1 X.2.1 dX1_writeSign_44 ?_
      obtain ⟨b23, eb23, h24⟩ := bd_some h19
      refine B_puti (pc := 45) (i := 57) (k := 5) (v := ((b18.1 57 5) + 1)) X G20 eb23 rfl clX1 (okL57 _) (by decide) rfl rfl rfl rfl fl_X1_27 dX1_writeSign_45 (fun H locs G25 => ?_)
      have nb23 : b23.2.2 = b18.2.2 := by rw [eb23]; rfl
      have h24_i := Option.some.inj h24
      exact m_vret (pc := 48) X G25 hr hlk dX1_writeSign_48 (congrArg (celB κ ad r0) h24_i)
    refine lv_if_eq (pc := 18) (tgt := 38) X.1 X.2.1 dX1_writeSign_18 (by decide) (fun hc9 => ?_) (fun hc9 => ?_)
    · have h10 := it_pos h8 hc9
      exact hk7 b _ _ ls h10 G2 (lv_sub hl [0] rfl)
    · have h11 := it_neg h8 hc9
      refine lv_aload_n (pc := 21) X.1 X.2.1 dX1_writeSign_21 rfl (lv_at hl 0 rfl) ?_
      refine B_geti (pc := 22) (i := 57) (k := 5) X G2 rfl clX1 (okL57 _) (by decide) rfl rfl fl_X1_27 dX1_writeSign_22 ?_
      refine lv_if_lt (pc := 25) (tgt := 38) X.1 X.2.1 dX1_writeSign_25 (by decide) (fun hc12 => ?_) (fun hc12 => ?_)
      · have h13 := it_pos h11 hc12
        exact hk7 b _ _ ls h13 G2 (lv_sub hl [0] rfl)
      · have h14 := it_neg h11 hc12
        refine lv_aload_n (pc := 28) X.1 X.2.1 dX1_writeSign_28 rfl (lv_at hl 0 rfl) ?_
        refine B_getc (pc := 29) (i := 57) (k := 0) (j := 58) X G2 rfl clX1 (okL57 _) (by decide) rfl fl_X1_11 dX1_writeSign_29 ?_
        refine lv_aload_n (pc := 32) X.1 X.2.1 dX1_writeSign_32 rfl (lv_at hl 0 rfl) ?_
        refine B_geti (pc := 33) (i := 57) (k := 5) X G2 rfl clX1 (okL57 _) (by decide) rfl rfl fl_X1_27 dX1_writeSign_33 ?_
        refine lv_iload_n (pc := 36) X.1 X.2.1 dX1_writeSign_36 rfl (lv_at hl 1 rfl) ?_
        obtain ⟨hib15, b15, eb15, h16⟩ := wb_some h14
        refine B_iast (pc := 37) (i := 58) (n := 28380) X G2 eb15 rfl (okL58 _) rfl hib15 dX1_writeSign_37 (fun H locs G17 => ?_)
        have nb15 : b15.2.2 = b.2.2 := by rw [eb15]; rfl
        exact hk7 b15 _ _ ls h16 G17 (lv_sub hl [0] rfl)
  · have h6 := it_neg h1 (fun q => q hc4)
    refine lv_aload_n (pc := 8) X.1 X.2.1 dX1_writeSign_8 rfl (lv_at hl 0 rfl) ?_
    refine lv_iconst (pc := 9) (v := 1) X.1 X.2.1 dX1_writeSign_9 (by decide) ?_
    obtain ⟨hb28, h6_z⟩ := bz_some h6
    obtain ⟨b26, eb26, h27⟩ := bd_some h6_z
    refine B_putz (pc := 10) (i := 57) (k := 13) (v := 1) X G2 eb26 hb28 rfl clX1 (okL57 _) (by decide) rfl rfl rfl rfl fl_X1_53 dX1_writeSign_10 (fun H locs G29 => ?_)
    have nb26 : b26.2.2 = b.2.2 := by rw [eb26]; rfl
    have h27_i := Option.some.inj h27
    exact m_vret (pc := 13) X G29 hr hlk dX1_writeSign_13 (congrArg (celB κ ad r0) h27_i)

abbrev rm1_moveSigns : Room := { frames := 0, cells := 0, slots := 0, locals := 0 }
noncomputable def F1_moveSigns (b : BS) (p0 : Int32) (p1 : Int32) (p2 : Int32) : Option (BS) :=
  jp (fun (_ : Unit) => some b) fun k1 =>
  if (b.1 57 12) = 0 then
  k1 ()
  else
  if p0 < 0 then
  k1 ()
  else
  if (0 : Int32) ≤ p1 then
  Loop (fun (q : Int32 × BS) => (fun (x14 : Int32) (b15 : BS) =>
  jp (fun (_ : Unit) => some (.inr b15)) fun k20 =>
  if p2 ≤ x14 then
  k20 ()
  else
  if (28380 : Int32) ≤ (p0 + x14) then
  k20 ()
  else
  if (28380 : Int32) ≤ (p1 + x14) then
  k20 ()
  else
  rd (b15.1 58) 28380 (p0 + x14) fun x31 =>
  wb b15 58 28380 (p1 + x14) x31 fun b33 =>
  bd (x14 + 1) fun x36 =>
  some (.inl (x36, b33))) q.1 q.2) (0, b)
  else
  k1 ()
set_option maxHeartbeats 4000000 in
set_option maxRecDepth 100000 in
theorem c1_moveSigns (l : Launch) (D : va_G) (κ : Nat → ClassId) (A : Nat → Prop) (ad : Nat → Nat) (r0 : Nat → Option va_E) (b : BS) (p0 : Int32) (p1 : Int32) (p2 : Int32) (res : BS) (h : F1_moveSigns b p0 p1 p2 = some res) : Met l yX1_moveSigns (gw yX1_moveSigns cX1_moveSigns 5 none) rm1_moveSigns (va_Pc [.ref (ad 57), .int p0, .int p1, .int p2] (MW D κ A ad (celB κ ad r0 b))) (QV D κ A ad (celB κ ad r0 res)) 0 0 A := by
  refine met_of (own := RX1) (by decide +kernel) rfl (Nat.le_of_ble_eq_true rfl) ?_
  intro p e s m below meth c ls X hr hlk G hl
  have hl : lv_has ls 5 [(0, .ref (ad 57)), (1, .int p0), (2, .int p1), (3, .int p2)] := hl
  unfold F1_moveSigns at h
  refine lv_aload_n (pc := 0) X.1 X.2.1 dX1_moveSigns_0 rfl (lv_at hl 0 rfl) ?_
  refine B_geti (pc := 1) (i := 57) (k := 12) X G rfl clX1 (okL57 _) (by decide) rfl rfl fl_X1_49 dX1_moveSigns_1 ?_
  obtain ⟨k1, ek1, h2⟩ := jp_some h
  have hk1 : ∀  (H : Heap) (locs : List Loc) (ls : Array Slot), k1 () = some res → Mm D κ A ad (celB κ ad r0 b) s H locs → lv_has ls 5 [] → W p l e rm1_moveSigns s m [.ref (ad 57), .int p0, .int p1, .int p2].toArray below meth c H locs 0 0 (MQ below (QV D κ A ad (celB κ ad r0 res)) [.ref (ad 57), .int p0, .int p1, .int p2].toArray s 0 0 A) (F0 m 15 ls []) := by
    intro  H locs ls47 h44 G45 hl46
    rw [ek1] at h44
    try dsimp only at h44
    have h44_i := Option.some.inj h44
    exact m_vret (pc := 15) X G45 hr hlk dX1_moveSigns_15 (congrArg (celB κ ad r0) h44_i)
  refine lv_if_eq (pc := 4) (tgt := 15) X.1 X.2.1 dX1_moveSigns_4 (by decide) (fun hc3 => ?_) (fun hc3 => ?_)
  · have h4 := it_pos h2 hc3
    exact hk1  _ _ ls h4 G (lv_sub hl [] rfl)
  · have h5 := it_neg h2 hc3
    refine lv_iload_n (pc := 7) X.1 X.2.1 dX1_moveSigns_7 rfl (lv_at hl 1 rfl) ?_
    refine lv_if_lt (pc := 8) (tgt := 15) X.1 X.2.1 dX1_moveSigns_8 (by decide) (fun hc6 => ?_) (fun hc6 => ?_)
    · have h7 := it_pos h5 hc6
      exact hk1  _ _ ls h7 G (lv_sub hl [] rfl)
    · have h8 := it_neg h5 hc6
      refine lv_iload_n (pc := 11) X.1 X.2.1 dX1_moveSigns_11 rfl (lv_at hl 2 rfl) ?_
      refine lv_if_ge (pc := 12) (tgt := 16) X.1 X.2.1 dX1_moveSigns_12 (by decide) (fun hc9 => ?_) (fun hc9 => ?_)
      · have h10 := it_pos h8 hc9
        refine lv_iconst (pc := 16) (v := 0) X.1 X.2.1 dX1_moveSigns_16 (by decide) ?_
        refine lv_istore (pc := 17) (lv' := [(4, .int 0), (0, .ref (ad 57)), (1, .int p0), (2, .int p1), (3, .int p2)]) X.1 X.2.1 dX1_moveSigns_17 hl (by decide) rfl (fun ls12 hl13 => ?_)
        refine Loop_ind (P := fun (q : Int32 × BS) => ∀ (H : Heap) (locs : List Loc) (ls : Array Slot), Mm D κ A ad (celB κ ad r0 q.2) s H locs → lv_has ls 5 [(0, .ref (ad 57)), (1, .int p0), (2, .int p1), (3, .int p2), (4, .int q.1)] → W p l e rm1_moveSigns s m [.ref (ad 57), .int p0, .int p1, .int p2].toArray below meth c H locs 0 0 (MQ below (QV D κ A ad (celB κ ad r0 res)) [.ref (ad 57), .int p0, .int p1, .int p2].toArray s 0 0 A) (F0 m 19 ls [])) ?_ h10 _ _ ls12 G (lv_sub hl13 [1, 2, 3, 4, 0] rfl)
        intro q y1 h16 ih1 hz1 H locs ls19 G17 hl18
        obtain ⟨x14, b15⟩ := q
        try dsimp only at h16 ih1 G17 hl18 ⊢
        refine lv_iload (pc := 19) X.1 X.2.1 dX1_moveSigns_19 (lv_at hl18 4 rfl) ?_
        refine lv_iload_n (pc := 21) X.1 X.2.1 dX1_moveSigns_21 rfl (lv_at hl18 3 rfl) ?_
        obtain ⟨k20, ek20, h21⟩ := jp_some h16
        have hk20 : ∀  (H : Heap) (locs : List Loc) (ls : Array Slot), k20 () = some y1 → Mm D κ A ad (celB κ ad r0 b15) s H locs → lv_has ls 5 [] → W p l e rm1_moveSigns s m [.ref (ad 57), .int p0, .int p1, .int p2].toArray below meth c H locs 0 0 (MQ below (QV D κ A ad (celB κ ad r0 res)) [.ref (ad 57), .int p0, .int p1, .int p2].toArray s 0 0 A) (F0 m 69 ls []) := by
          intro  H locs ls43 h40 G41 hl42
          rw [ek20] at h40
          try dsimp only at h40
          have h40_i := Option.some.inj h40
          have h40_i_1 := hz1 _ h40_i.symm
          exact m_vret (pc := 69) X G41 hr hlk dX1_moveSigns_69 (congrArg (celB κ ad r0) h40_i_1)
        refine lv_icmp_ge (pc := 22) (tgt := 69) X.1 X.2.1 dX1_moveSigns_22 (by decide) (fun hc22 => ?_) (fun hc22 => ?_)
        · have h23 := it_pos h21 hc22
          exact hk20  _ _ ls19 h23 G17 (lv_sub hl18 [] rfl)
        · have h24 := it_neg h21 hc22
          refine lv_iload_n (pc := 25) X.1 X.2.1 dX1_moveSigns_25 rfl (lv_at hl18 1 rfl) ?_
          refine lv_iload (pc := 26) X.1 X.2.1 dX1_moveSigns_26 (lv_at hl18 4 rfl) ?_
          refine lv_iadd (pc := 28) X.1 X.2.1 dX1_moveSigns_28 ?_
          refine lv_sipush (pc := 29) (v := 28380) X.1 X.2.1 dX1_moveSigns_29 (by decide) ?_
          refine lv_icmp_ge (pc := 32) (tgt := 69) X.1 X.2.1 dX1_moveSigns_32 (by decide) (fun hc25 => ?_) (fun hc25 => ?_)
          · have h26 := it_pos h24 hc25
            exact hk20  _ _ ls19 h26 G17 (lv_sub hl18 [] rfl)
          · have h27 := it_neg h24 hc25
            refine lv_iload_n (pc := 35) X.1 X.2.1 dX1_moveSigns_35 rfl (lv_at hl18 2 rfl) ?_
            refine lv_iload (pc := 36) X.1 X.2.1 dX1_moveSigns_36 (lv_at hl18 4 rfl) ?_
            refine lv_iadd (pc := 38) X.1 X.2.1 dX1_moveSigns_38 ?_
            refine lv_sipush (pc := 39) (v := 28380) X.1 X.2.1 dX1_moveSigns_39 (by decide) ?_
            refine lv_icmp_ge (pc := 42) (tgt := 69) X.1 X.2.1 dX1_moveSigns_42 (by decide) (fun hc28 => ?_) (fun hc28 => ?_)
            · have h29 := it_pos h27 hc28
              exact hk20  _ _ ls19 h29 G17 (lv_sub hl18 [] rfl)
            · have h30 := it_neg h27 hc28
              refine lv_aload_n (pc := 45) X.1 X.2.1 dX1_moveSigns_45 rfl (lv_at hl18 0 rfl) ?_
              refine B_getc (pc := 46) (i := 57) (k := 0) (j := 58) X G17 rfl clX1 (okL57 _) (by decide) rfl fl_X1_11 dX1_moveSigns_46 ?_
              refine lv_iload_n (pc := 49) X.1 X.2.1 dX1_moveSigns_49 rfl (lv_at hl18 2 rfl) ?_
              refine lv_iload (pc := 50) X.1 X.2.1 dX1_moveSigns_50 (lv_at hl18 4 rfl) ?_
              refine lv_iadd (pc := 52) X.1 X.2.1 dX1_moveSigns_52 ?_
              refine lv_aload_n (pc := 53) X.1 X.2.1 dX1_moveSigns_53 rfl (lv_at hl18 0 rfl) ?_
              refine B_getc (pc := 54) (i := 57) (k := 0) (j := 58) X G17 rfl clX1 (okL57 _) (by decide) rfl fl_X1_11 dX1_moveSigns_54 ?_
              refine lv_iload_n (pc := 57) X.1 X.2.1 dX1_moveSigns_57 rfl (lv_at hl18 1 rfl) ?_
              refine lv_iload (pc := 58) X.1 X.2.1 dX1_moveSigns_58 (lv_at hl18 4 rfl) ?_
              refine lv_iadd (pc := 60) X.1 X.2.1 dX1_moveSigns_60 ?_
              have h30_r := rd_some h30
              refine B_iald (pc := 61) (i := 58) (n := 28380) X G17 rfl (okL58 _) rfl h30_r.1 dX1_moveSigns_61 ?_
              refine lv_topi (fun x31 ex31 => ?_)
              have h32 := h30_r.2
              rw [← ex31] at h32
              obtain ⟨hib33, b33, eb33, h34⟩ := wb_some h32
              refine B_iast (pc := 62) (i := 58) (n := 28380) X G17 eb33 rfl (okL58 _) rfl hib33 dX1_moveSigns_62 (fun H locs G35 => ?_)
              have nb33 : b33.2.2 = b15.2.2 := by rw [eb33]; rfl
              obtain ⟨x36, ex36, h39⟩ := bd_some h34
              refine lv_iinc (pc := 63) (v := x36) (lv' := [(4, .int x36), (0, .ref (ad 57)), (1, .int p0), (2, .int p1), (3, .int p2)]) X.1 X.2.1 dX1_moveSigns_63 hl18 (k := 4) rfl (by rw [ex36]; rfl) (by decide) rfl (fun ls37 hl38 => ?_)
              refine lv_goto (pc := 66) (tgt := 19) X.1 X.2.1 dX1_moveSigns_66 (by decide) ?_
              have h39_i := Option.some.inj h39
              exact ih1 _ h39_i.symm _ _ ls37 G35 (lv_sub hl38 [1, 2, 3, 4, 0] rfl)
      · have h11 := it_neg h8 hc9
        exact hk1  _ _ ls h11 G (lv_sub hl [] rfl)

abbrev rm1_writeCopy : Room := { frames := 1, cells := 0, slots := 0, locals := 24 }
noncomputable def F1_writeCopy (b : BS) (p0 : Int32) (p1 : Int32) : Option (BS) :=
  bn (F1_takesMore b p1) fun x3 =>
  if ¬ x3 = 0 then
  bn (F1_moveSigns b p0 (b.1 57 5) p1) fun b9 =>
  bd (setI b9 57 5 ((b9.1 57 5) + p1)) fun b10 =>
  some b10
  else
  bz 1 <|
  bd (setI b 57 13 1) fun b13 =>
  some b13
set_option maxHeartbeats 4000000 in
set_option maxRecDepth 100000 in
theorem c1_writeCopy (l : Launch) (D : va_G) (κ : Nat → ClassId) (A : Nat → Prop) (ad : Nat → Nat) (r0 : Nat → Option va_E) (b : BS) (p0 : Int32) (p1 : Int32) (res : BS) (h : F1_writeCopy b p0 p1 = some res) : Met l yX1_writeCopy (gw yX1_writeCopy cX1_writeCopy 3 none) rm1_writeCopy (va_Pc [.ref (ad 57), .int p0, .int p1] (MW D κ A ad (celB κ ad r0 b))) (QV D κ A ad (celB κ ad r0 res)) 0 0 A := by
  refine met_of (own := RX1) (by decide +kernel) rfl (Nat.le_of_ble_eq_true rfl) ?_
  intro p e s m below meth c ls X hr hlk G hl
  have hl : lv_has ls 3 [(0, .ref (ad 57)), (1, .int p0), (2, .int p1)] := hl
  unfold F1_writeCopy at h
  refine lv_aload_n (pc := 0) X.1 X.2.1 dX1_writeCopy_0 rfl (lv_at hl 0 rfl) ?_
  refine lv_iload_n (pc := 1) X.1 X.2.1 dX1_writeCopy_1 rfl (lv_at hl 2 rfl) ?_
  obtain ⟨x3, ex3, h1⟩ := bn_some h
  refine B_calli (pc := 2) (v := x3) (M' := (celB κ ad r0 b)) (i := 57) (As := [.int p1]) (rest := []) X G (rm := rm1_takesMore) rfl rfl rfl (c1_takesMore l D κ A ad r0 b p1 x3 ex3) (B_rcv (ci := 1) (okL57 _) (by decide)) rfl g_X1_129 hd_yX1_takesMore ⟨Nat.le_of_ble_eq_true rfl, Nat.le_of_ble_eq_true rfl⟩ rfl hl rfl (lv_room (Nat.le_of_ble_eq_true rfl)) dX1_writeCopy_2 ⟨Nat.le_of_ble_eq_true rfl, Nat.le_of_ble_eq_true rfl⟩ (fun H locs G2 => ?_)
  refine lv_if_ne (pc := 5) (tgt := 14) X.1 X.2.1 dX1_writeCopy_5 (by decide) (fun hc4 => ?_) (fun hc4 => ?_)
  · have h5 := it_pos h1 hc4
    refine lv_aload_n (pc := 14) X.1 X.2.1 dX1_writeCopy_14 rfl (lv_at hl 0 rfl) ?_
    refine lv_iload_n (pc := 15) X.1 X.2.1 dX1_writeCopy_15 rfl (lv_at hl 1 rfl) ?_
    refine lv_aload_n (pc := 16) X.1 X.2.1 dX1_writeCopy_16 rfl (lv_at hl 0 rfl) ?_
    refine B_geti (pc := 17) (i := 57) (k := 5) X G2 rfl clX1 (okL57 _) (by decide) rfl rfl fl_X1_27 dX1_writeCopy_17 ?_
    refine lv_iload_n (pc := 20) X.1 X.2.1 dX1_writeCopy_20 rfl (lv_at hl 2 rfl) ?_
    obtain ⟨b9, eb9, h7⟩ := bn_some h5
    refine B_callv (pc := 21) (M' := (celB κ ad r0 b9)) (i := 57) (As := [.int p0, .int (b.1 57 5), .int p1]) (rest := []) X G2 (rm := rm1_moveSigns) rfl rfl rfl (c1_moveSigns l D κ A ad r0 b p0 (b.1 57 5) p1 b9 eb9) (B_rcv (ci := 1) (okL57 _) (by decide)) rfl g_X1_125 hd_yX1_moveSigns ⟨Nat.le_of_ble_eq_true rfl, Nat.le_of_ble_eq_true rfl⟩ rfl hl rfl (lv_room (Nat.le_of_ble_eq_true rfl)) dX1_writeCopy_21 ⟨Nat.le_of_ble_eq_true rfl, Nat.le_of_ble_eq_true rfl⟩ (fun H locs G8 => ?_)
    refine lv_aload_n (pc := 24) X.1 X.2.1 dX1_writeCopy_24 rfl (lv_at hl 0 rfl) ?_
    refine lv_dup (pc := 25) X.1 X.2.1 dX1_writeCopy_25 rfl ?_
    refine B_geti (pc := 26) (i := 57) (k := 5) X G8 rfl clX1 (okL57 _) (by decide) rfl rfl fl_X1_27 dX1_writeCopy_26 ?_
    refine lv_iload_n (pc := 29) X.1 X.2.1 dX1_writeCopy_29 rfl (lv_at hl 2 rfl) ?_
    refine lv_iadd (pc := 30) X.1 X.2.1 dX1_writeCopy_30 ?_
    obtain ⟨b10, eb10, h11⟩ := bd_some h7
    refine B_puti (pc := 31) (i := 57) (k := 5) (v := ((b9.1 57 5) + p1)) X G8 eb10 rfl clX1 (okL57 _) (by decide) rfl rfl rfl rfl fl_X1_27 dX1_writeCopy_31 (fun H locs G12 => ?_)
    have nb10 : b10.2.2 = b9.2.2 := by rw [eb10]; rfl
    have h11_i := Option.some.inj h11
    exact m_vret (pc := 34) X G12 hr hlk dX1_writeCopy_34 (congrArg (celB κ ad r0) h11_i)
  · have h6 := it_neg h1 (fun q => q hc4)
    refine lv_aload_n (pc := 8) X.1 X.2.1 dX1_writeCopy_8 rfl (lv_at hl 0 rfl) ?_
    refine lv_iconst (pc := 9) (v := 1) X.1 X.2.1 dX1_writeCopy_9 (by decide) ?_
    obtain ⟨hb15, h6_z⟩ := bz_some h6
    obtain ⟨b13, eb13, h14⟩ := bd_some h6_z
    refine B_putz (pc := 10) (i := 57) (k := 13) (v := 1) X G2 eb13 hb15 rfl clX1 (okL57 _) (by decide) rfl rfl rfl rfl fl_X1_53 dX1_writeCopy_10 (fun H locs G16 => ?_)
    have nb13 : b13.2.2 = b.2.2 := by rw [eb13]; rfl
    have h14_i := Option.some.inj h14
    exact m_vret (pc := 13) X G16 hr hlk dX1_writeCopy_13 (congrArg (celB κ ad r0) h14_i)

abbrev rm1_fillHole : Room := { frames := 2, cells := 0, slots := 0, locals := 46 }
noncomputable def F1_fillHole (b : BS) (p0 : Int32) (p1 : Int32) (p2 : Int32) (p3 : Int32) : Option (BS) :=
  jp (fun (b23 : BS) => some b23) fun k1 =>
  if ¬ p1 = 0 then
  if p3 ≤ p0 then
  k1 b
  else
  bn (F1_markAt b (p2 + p0)) fun x11 =>
  bn (F1_markAt b ((p2 + p0) + 1)) fun x16 =>
  bn (F1_writeCopy b x11 (x16 - x11)) fun b19 =>
  k1 b19
  else
  bn (F1_writeSign b 63) fun b22 =>
  k1 b22
set_option maxHeartbeats 4000000 in
set_option maxRecDepth 100000 in
theorem c1_fillHole (l : Launch) (D : va_G) (κ : Nat → ClassId) (A : Nat → Prop) (ad : Nat → Nat) (r0 : Nat → Option va_E) (b : BS) (p0 : Int32) (p1 : Int32) (p2 : Int32) (p3 : Int32) (res : BS) (h : F1_fillHole b p0 p1 p2 p3 = some res) : Met l yX1_fillHole (gw yX1_fillHole cX1_fillHole 6 none) rm1_fillHole (va_Pc [.ref (ad 57), .int p0, .int p1, .int p2, .int p3] (MW D κ A ad (celB κ ad r0 b))) (QV D κ A ad (celB κ ad r0 res)) 0 0 A := by
  refine met_of (own := RX1) (by decide +kernel) rfl (Nat.le_of_ble_eq_true rfl) ?_
  intro p e s m below meth c ls X hr hlk G hl
  have hl : lv_has ls 6 [(0, .ref (ad 57)), (1, .int p0), (2, .int p1), (3, .int p2), (4, .int p3)] := hl
  unfold F1_fillHole at h
  refine lv_iload_n (pc := 0) X.1 X.2.1 dX1_fillHole_0 rfl (lv_at hl 2 rfl) ?_
  obtain ⟨k1, ek1, h2⟩ := jp_some h
  have hk1 : ∀ (b23 : BS) (H : Heap) (locs : List Loc) (ls : Array Slot), k1 b23 = some res → Mm D κ A ad (celB κ ad r0 b23) s H locs → lv_has ls 6 [] → W p l e rm1_fillHole s m [.ref (ad 57), .int p0, .int p1, .int p2, .int p3].toArray below meth c H locs 0 0 (MQ below (QV D κ A ad (celB κ ad r0 res)) [.ref (ad 57), .int p0, .int p1, .int p2, .int p3].toArray s 0 0 A) (F0 m 46 ls []) := by
    intro b23 H locs ls27 h24 G25 hl26
    rw [ek1] at h24
    try dsimp only at h24
    have h24_i := Option.some.inj h24
    exact m_vret (pc := 46) X G25 hr hlk dX1_fillHole_46 (congrArg (celB κ ad r0) h24_i)
  refine lv_if_ne (pc := 1) (tgt := 13) X.1 X.2.1 dX1_fillHole_1 (by decide) (fun hc3 => ?_) (fun hc3 => ?_)
  · have h4 := it_pos h2 hc3
    refine lv_iload_n (pc := 13) X.1 X.2.1 dX1_fillHole_13 rfl (lv_at hl 1 rfl) ?_
    refine lv_iload (pc := 14) X.1 X.2.1 dX1_fillHole_14 (lv_at hl 4 rfl) ?_
    refine lv_icmp_ge (pc := 16) (tgt := 46) X.1 X.2.1 dX1_fillHole_16 (by decide) (fun hc6 => ?_) (fun hc6 => ?_)
    · have h7 := it_pos h4 hc6
      exact hk1 b _ _ ls h7 G (lv_sub hl [] rfl)
    · have h8 := it_neg h4 hc6
      refine lv_aload_n (pc := 19) X.1 X.2.1 dX1_fillHole_19 rfl (lv_at hl 0 rfl) ?_
      refine lv_iload_n (pc := 20) X.1 X.2.1 dX1_fillHole_20 rfl (lv_at hl 3 rfl) ?_
      refine lv_iload_n (pc := 21) X.1 X.2.1 dX1_fillHole_21 rfl (lv_at hl 1 rfl) ?_
      refine lv_iadd (pc := 22) X.1 X.2.1 dX1_fillHole_22 ?_
      obtain ⟨x11, ex11, h9⟩ := bn_some h8
      refine B_calli (pc := 23) (v := x11) (M' := (celB κ ad r0 b)) (i := 57) (As := [.int (p2 + p0)]) (rest := []) X G (rm := rm1_markAt) rfl rfl rfl (c1_markAt l D κ A ad r0 b (p2 + p0) x11 ex11) (B_rcv (ci := 1) (okL57 _) (by decide)) rfl g_X1_106 hd_yX1_markAt ⟨Nat.le_of_ble_eq_true rfl, Nat.le_of_ble_eq_true rfl⟩ rfl hl rfl (lv_room (Nat.le_of_ble_eq_true rfl)) dX1_fillHole_23 ⟨Nat.le_of_ble_eq_true rfl, Nat.le_of_ble_eq_true rfl⟩ (fun H locs G10 => ?_)
      refine lv_istore (pc := 26) (lv' := [(5, .int x11), (0, .ref (ad 57)), (1, .int p0), (2, .int p1), (3, .int p2), (4, .int p3)]) X.1 X.2.1 dX1_fillHole_26 hl (by decide) rfl (fun ls12 hl13 => ?_)
      refine lv_aload_n (pc := 28) X.1 X.2.1 dX1_fillHole_28 rfl (lv_at hl13 1 rfl) ?_
      refine lv_iload (pc := 29) X.1 X.2.1 dX1_fillHole_29 (lv_at hl13 0 rfl) ?_
      refine lv_aload_n (pc := 31) X.1 X.2.1 dX1_fillHole_31 rfl (lv_at hl13 1 rfl) ?_
      refine lv_iload_n (pc := 32) X.1 X.2.1 dX1_fillHole_32 rfl (lv_at hl13 4 rfl) ?_
      refine lv_iload_n (pc := 33) X.1 X.2.1 dX1_fillHole_33 rfl (lv_at hl13 2 rfl) ?_
      refine lv_iadd (pc := 34) X.1 X.2.1 dX1_fillHole_34 ?_
      refine lv_iconst (pc := 35) (v := 1) X.1 X.2.1 dX1_fillHole_35 (by decide) ?_
      refine lv_iadd (pc := 36) X.1 X.2.1 dX1_fillHole_36 ?_
      obtain ⟨x16, ex16, h14⟩ := bn_some h9
      refine B_calli (pc := 37) (v := x16) (M' := (celB κ ad r0 b)) (i := 57) (As := [.int ((p2 + p0) + 1)]) (rest := [.int x11, .ref (ad 57)]) X G10 (rm := rm1_markAt) rfl rfl rfl (c1_markAt l D κ A ad r0 b ((p2 + p0) + 1) x16 ex16) (B_rcv (ci := 1) (okL57 _) (by decide)) rfl g_X1_106 hd_yX1_markAt ⟨Nat.le_of_ble_eq_true rfl, Nat.le_of_ble_eq_true rfl⟩ rfl hl13 rfl (lv_room (Nat.le_of_ble_eq_true rfl)) dX1_fillHole_37 ⟨Nat.le_of_ble_eq_true rfl, Nat.le_of_ble_eq_true rfl⟩ (fun H locs G15 => ?_)
      refine lv_iload (pc := 40) X.1 X.2.1 dX1_fillHole_40 (lv_at hl13 0 rfl) ?_
      refine lv_isub (pc := 42) X.1 X.2.1 dX1_fillHole_42 ?_
      obtain ⟨b19, eb19, h17⟩ := bn_some h14
      refine B_callv (pc := 43) (M' := (celB κ ad r0 b19)) (i := 57) (As := [.int x11, .int (x16 - x11)]) (rest := []) X G15 (rm := rm1_writeCopy) rfl rfl rfl (c1_writeCopy l D κ A ad r0 b x11 (x16 - x11) b19 eb19) (B_rcv (ci := 1) (okL57 _) (by decide)) rfl g_X1_110 hd_yX1_writeCopy ⟨Nat.le_of_ble_eq_true rfl, Nat.le_of_ble_eq_true rfl⟩ rfl hl13 rfl (lv_room (Nat.le_of_ble_eq_true rfl)) dX1_fillHole_43 ⟨Nat.le_of_ble_eq_true rfl, Nat.le_of_ble_eq_true rfl⟩ (fun H locs G18 => ?_)
      exact hk1 b19 _ _ ls12 h17 G18 (lv_sub hl13 [] rfl)
  · have h5 := it_neg h2 (fun q => q hc3)
    refine lv_aload_n (pc := 4) X.1 X.2.1 dX1_fillHole_4 rfl (lv_at hl 0 rfl) ?_
    refine lv_bipush (pc := 5) (v := 63) X.1 X.2.1 dX1_fillHole_5 (by decide) ?_
    obtain ⟨b22, eb22, h20⟩ := bn_some h5
    refine B_callv (pc := 7) (M' := (celB κ ad r0 b22)) (i := 57) (As := [.int 63]) (rest := []) X G (rm := rm1_writeSign) rfl rfl rfl (c1_writeSign l D κ A ad r0 b 63 b22 eb22) (B_rcv (ci := 1) (okL57 _) (by decide)) rfl g_X1_103 hd_yX1_writeSign ⟨Nat.le_of_ble_eq_true rfl, Nat.le_of_ble_eq_true rfl⟩ rfl hl rfl (lv_room (Nat.le_of_ble_eq_true rfl)) dX1_fillHole_7 ⟨Nat.le_of_ble_eq_true rfl, Nat.le_of_ble_eq_true rfl⟩ (fun H locs G21 => ?_)
    refine lv_goto (pc := 10) (tgt := 46) X.1 X.2.1 dX1_fillHole_10 (by decide) ?_
    exact hk1 b22 _ _ ls h20 G21 (lv_sub hl [] rfl)

abbrev rm1_letCallWait : Room := { frames := 0, cells := 0, slots := 0, locals := 0 }
noncomputable def F1_letCallWait (b : BS) (p0 : Int32) : Option (BS) :=
  jp (fun (_ : Unit) => bz 1 <|
  bd (setI b 57 13 1) fun b22 =>
  some b22) fun k1 =>
  if (b.1 57 7) < 0 then
  k1 ()
  else
  if (b.1 57 7) < 780 then
  wb b 60 780 (b.1 57 7) p0 fun b9 =>
  wb b9 61 780 (b9.1 57 7) (b9.1 57 6) fun b12 =>
  bd (setI b12 57 7 ((b12.1 57 7) + 1)) fun b15 =>
  some b15
  else
  k1 ()
set_option maxHeartbeats 4000000 in
set_option maxRecDepth 100000 in
theorem c1_letCallWait (l : Launch) (D : va_G) (κ : Nat → ClassId) (A : Nat → Prop) (ad : Nat → Nat) (r0 : Nat → Option va_E) (b : BS) (p0 : Int32) (res : BS) (h : F1_letCallWait b p0 = some res) : Met l yX1_letCallWait (gw yX1_letCallWait cX1_letCallWait 2 none) rm1_letCallWait (va_Pc [.ref (ad 57), .int p0] (MW D κ A ad (celB κ ad r0 b))) (QV D κ A ad (celB κ ad r0 res)) 0 0 A := by
  refine met_of (own := RX1) (by decide +kernel) rfl (Nat.le_of_ble_eq_true rfl) ?_
  intro p e s m below meth c ls X hr hlk G hl
  have hl : lv_has ls 2 [(0, .ref (ad 57)), (1, .int p0)] := hl
  unfold F1_letCallWait at h
  refine lv_aload_n (pc := 0) X.1 X.2.1 dX1_letCallWait_0 rfl (lv_at hl 0 rfl) ?_
  refine B_geti (pc := 1) (i := 57) (k := 7) X G rfl clX1 (okL57 _) (by decide) rfl rfl fl_X1_34 dX1_letCallWait_1 ?_
  obtain ⟨k1, ek1, h2⟩ := jp_some h
  have hk1 : ∀  (H : Heap) (locs : List Loc) (ls : Array Slot), k1 () = some res → Mm D κ A ad (celB κ ad r0 b) s H locs → lv_has ls 2 [(0, .ref (ad 57))] → W p l e rm1_letCallWait s m [.ref (ad 57), .int p0].toArray below meth c H locs 0 0 (MQ below (QV D κ A ad (celB κ ad r0 res)) [.ref (ad 57), .int p0].toArray s 0 0 A) (F0 m 17 ls []) := by
    intro  H locs ls21 h18 G19 hl20
    rw [ek1] at h18
    try dsimp only at h18
    refine lv_aload_n (pc := 17) X.1 X.2.1 dX1_letCallWait_17 rfl (lv_at hl20 0 rfl) ?_
    refine lv_iconst (pc := 18) (v := 1) X.1 X.2.1 dX1_letCallWait_18 (by decide) ?_
    obtain ⟨hb24, h18_z⟩ := bz_some h18
    obtain ⟨b22, eb22, h23⟩ := bd_some h18_z
    refine B_putz (pc := 19) (i := 57) (k := 13) (v := 1) X G19 eb22 hb24 rfl clX1 (okL57 _) (by decide) rfl rfl rfl rfl fl_X1_53 dX1_letCallWait_19 (fun H locs G25 => ?_)
    have nb22 : b22.2.2 = b.2.2 := by rw [eb22]; rfl
    have h23_i := Option.some.inj h23
    exact m_vret (pc := 22) X G25 hr hlk dX1_letCallWait_22 (congrArg (celB κ ad r0) h23_i)
  refine lv_if_lt (pc := 4) (tgt := 17) X.1 X.2.1 dX1_letCallWait_4 (by decide) (fun hc3 => ?_) (fun hc3 => ?_)
  · have h4 := it_pos h2 hc3
    exact hk1  _ _ ls h4 G (lv_sub hl [0] rfl)
  · have h5 := it_neg h2 hc3
    refine lv_aload_n (pc := 7) X.1 X.2.1 dX1_letCallWait_7 rfl (lv_at hl 0 rfl) ?_
    refine B_geti (pc := 8) (i := 57) (k := 7) X G rfl clX1 (okL57 _) (by decide) rfl rfl fl_X1_34 dX1_letCallWait_8 ?_
    refine lv_sipush (pc := 11) (v := 780) X.1 X.2.1 dX1_letCallWait_11 (by decide) ?_
    refine lv_icmp_lt (pc := 14) (tgt := 23) X.1 X.2.1 dX1_letCallWait_14 (by decide) (fun hc6 => ?_) (fun hc6 => ?_)
    · have h7 := it_pos h5 hc6
      refine lv_aload_n (pc := 23) X.1 X.2.1 dX1_letCallWait_23 rfl (lv_at hl 0 rfl) ?_
      refine B_getc (pc := 24) (i := 57) (k := 2) (j := 60) X G rfl clX1 (okL57 _) (by decide) rfl fl_X1_18 dX1_letCallWait_24 ?_
      refine lv_aload_n (pc := 27) X.1 X.2.1 dX1_letCallWait_27 rfl (lv_at hl 0 rfl) ?_
      refine B_geti (pc := 28) (i := 57) (k := 7) X G rfl clX1 (okL57 _) (by decide) rfl rfl fl_X1_34 dX1_letCallWait_28 ?_
      refine lv_iload_n (pc := 31) X.1 X.2.1 dX1_letCallWait_31 rfl (lv_at hl 1 rfl) ?_
      obtain ⟨hib9, b9, eb9, h10⟩ := wb_some h7
      refine B_iast (pc := 32) (i := 60) (n := 780) X G eb9 rfl (okL60 _) rfl hib9 dX1_letCallWait_32 (fun H locs G11 => ?_)
      have nb9 : b9.2.2 = b.2.2 := by rw [eb9]; rfl
      refine lv_aload_n (pc := 33) X.1 X.2.1 dX1_letCallWait_33 rfl (lv_at hl 0 rfl) ?_
      refine B_getc (pc := 34) (i := 57) (k := 3) (j := 61) X G11 rfl clX1 (okL57 _) (by decide) rfl fl_X1_21 dX1_letCallWait_34 ?_
      refine lv_aload_n (pc := 37) X.1 X.2.1 dX1_letCallWait_37 rfl (lv_at hl 0 rfl) ?_
      refine B_geti (pc := 38) (i := 57) (k := 7) X G11 rfl clX1 (okL57 _) (by decide) rfl rfl fl_X1_34 dX1_letCallWait_38 ?_
      refine lv_aload_n (pc := 41) X.1 X.2.1 dX1_letCallWait_41 rfl (lv_at hl 0 rfl) ?_
      refine B_geti (pc := 42) (i := 57) (k := 6) X G11 rfl clX1 (okL57 _) (by decide) rfl rfl fl_X1_31 dX1_letCallWait_42 ?_
      obtain ⟨hib12, b12, eb12, h13⟩ := wb_some h10
      refine B_iast (pc := 45) (i := 61) (n := 780) X G11 eb12 rfl (okL61 _) rfl hib12 dX1_letCallWait_45 (fun H locs G14 => ?_)
      have nb12 : b12.2.2 = b9.2.2 := by rw [eb12]; rfl
      refine lv_aload_n (pc := 46) X.1 X.2.1 dX1_letCallWait_46 rfl (lv_at hl 0 rfl) ?_
      refine lv_dup (pc := 47) X.1 X.2.1 dX1_letCallWait_47 rfl ?_
      refine B_geti (pc := 48) (i := 57) (k := 7) X G14 rfl clX1 (okL57 _) (by decide) rfl rfl fl_X1_34 dX1_letCallWait_48 ?_
      refine lv_iconst (pc := 51) (v := 1) X.1 X.2.1 dX1_letCallWait_51 (by decide) ?_
      refine lv_iadd (pc := 52) X.1 X.2.1 dX1_letCallWait_52 ?_
      obtain ⟨b15, eb15, h16⟩ := bd_some h13
      refine B_puti (pc := 53) (i := 57) (k := 7) (v := ((b12.1 57 7) + 1)) X G14 eb15 rfl clX1 (okL57 _) (by decide) rfl rfl rfl rfl fl_X1_34 dX1_letCallWait_53 (fun H locs G17 => ?_)
      have nb15 : b15.2.2 = b12.2.2 := by rw [eb15]; rfl
      have h16_i := Option.some.inj h16
      exact m_vret (pc := 56) X G17 hr hlk dX1_letCallWait_56 (congrArg (celB κ ad r0) h16_i)
    · have h8 := it_neg h5 hc6
      exact hk1  _ _ ls h8 G (lv_sub hl [0] rfl)

abbrev rm1_endingOf : Room := { frames := 2, cells := 0, slots := 0, locals := 41 }
noncomputable def F1_endingOf (b : BS) (p0 : Nat) (p1 : Int32) (p2 : Int32) : Option (Int32) :=
  ck (okB b.2.2 p0 5) <|
  bn (F5_definitionOf b p0 p1) fun o5 =>
  on o5 (some 1) fun t6 =>
  if ((b.1 57 11) &&& ((1 : Int32) <<< (p1 &&& 31))) = 0 then
  jp (fun (x21 : Int32) => some x21) fun k16 =>
  if p2 < (b.1 p0 2) then
  k16 0
  else
  k16 3
  else
  some 2
set_option maxHeartbeats 4000000 in
set_option maxRecDepth 100000 in
theorem c1_endingOf (l : Launch) (D : va_G) (κ : Nat → ClassId) (A : Nat → Prop) (ad : Nat → Nat) (r0 : Nat → Option va_E) (b : BS) (p0 : Nat) (p1 : Int32) (p2 : Int32) (res : Int32) (h : F1_endingOf b p0 p1 p2 = some res) : Met l yX1_endingOf (gw yX1_endingOf cX1_endingOf 4 (some (FieldType.int))) rm1_endingOf (va_Pc [.ref (ad 57), .ref (ad p0), .int p1, .int p2] (MW D κ A ad (celB κ ad r0 b))) (QI D κ A ad (celB κ ad r0 b) res) 0 0 A := by
  refine met_of (own := RX1) (by decide +kernel) rfl (Nat.le_of_ble_eq_true rfl) ?_
  intro p e s m below meth c ls X hr hlk G hl
  have hl : lv_has ls 4 [(0, .ref (ad 57)), (1, .ref (ad p0)), (2, .int p1), (3, .int p2)] := hl
  unfold F1_endingOf at h
  refine lv_aload_n (pc := 0) X.1 X.2.1 dX1_endingOf_0 rfl (lv_at hl 1 rfl) ?_
  refine lv_iload_n (pc := 1) X.1 X.2.1 dX1_endingOf_1 rfl (lv_at hl 2 rfl) ?_
  obtain ⟨ok1, h2⟩ := ck_some h
  obtain ⟨o5, eo5, h3⟩ := bn_some h2
  refine B_callq (pc := 2) (v := o5) (M' := (celB κ ad r0 b)) (i := p0) (As := [.int p1]) (rest := []) X G (rm := rm5_definitionOf) rfl rfl rfl (c5_definitionOf l D κ A ad r0 b p0 p1 o5 eo5) (B_rcv (ci := 5) ok1 (by decide)) rfl g_X1_136 hd_yX5_definitionOf ⟨Nat.le_of_ble_eq_true rfl, Nat.le_of_ble_eq_true rfl⟩ rfl hl rfl (lv_room (Nat.le_of_ble_eq_true rfl)) dX1_endingOf_2 ⟨Nat.le_of_ble_eq_true rfl, Nat.le_of_ble_eq_true rfl⟩ (fun H locs G4 => ?_)
  rcases o5 with _ | t6
  · have h7 := on_n h3
    have hl9 : lv_has ls 4 [(0, .ref (ad 57)), (1, .ref (ad p0)), (2, .int p1), (3, .int p2)] := hl
    refine lv_ifnonnullN (pc := 5) X.1 X.2.1 dX1_endingOf_5 ?_
    refine lv_iconst (pc := 8) (v := 1) X.1 X.2.1 dX1_endingOf_8 (by decide) ?_
    have h7_i := Option.some.inj h7
    exact m_iret (pc := 9) X G4 hr hlk dX1_endingOf_9 h7_i rfl
  · have h8 := on_s h3
    have hl10 : lv_has ls 4 [(0, .ref (ad 57)), (1, .ref (ad p0)), (2, .int p1), (3, .int p2)] := hl
    refine lv_ifnonnull (pc := 5) (tgt := 10) (x := ad t6) X.1 X.2.1 dX1_endingOf_5 (by decide) ?_
    refine lv_aload_n (pc := 10) X.1 X.2.1 dX1_endingOf_10 rfl (lv_at hl10 0 rfl) ?_
    refine B_geti (pc := 11) (i := 57) (k := 11) X G4 rfl clX1 (okL57 _) (by decide) rfl rfl fl_X1_46 dX1_endingOf_11 ?_
    refine lv_iconst (pc := 14) (v := 1) X.1 X.2.1 dX1_endingOf_14 (by decide) ?_
    refine lv_iload_n (pc := 15) X.1 X.2.1 dX1_endingOf_15 rfl (lv_at hl10 2 rfl) ?_
    refine lv_ishl (pc := 16) X.1 X.2.1 dX1_endingOf_16 ?_
    refine lv_iand (pc := 17) X.1 X.2.1 dX1_endingOf_17 ?_
    refine lv_if_eq (pc := 18) (tgt := 23) X.1 X.2.1 dX1_endingOf_18 (by decide) (fun hc13 => ?_) (fun hc13 => ?_)
    · have h14 := it_pos h8 hc13
      refine lv_iload_n (pc := 23) X.1 X.2.1 dX1_endingOf_23 rfl (lv_at hl10 3 rfl) ?_
      refine lv_aload_n (pc := 24) X.1 X.2.1 dX1_endingOf_24 rfl (lv_at hl10 1 rfl) ?_
      refine B_geti (pc := 25) (i := p0) (k := 2) X G4 rfl clX5 ok1 (by decide) rfl rfl fl_X1_142 dX1_endingOf_25 ?_
      obtain ⟨k16, ek16, h17⟩ := jp_some h14
      have hk16 : ∀ (x21 : Int32) (H : Heap) (locs : List Loc) (ls : Array Slot), k16 x21 = some res → Mm D κ A ad (celB κ ad r0 b) s H locs → lv_has ls 4 [] → W p l e rm1_endingOf s m [.ref (ad 57), .ref (ad p0), .int p1, .int p2].toArray below meth c H locs 0 0 (MQ below (QI D κ A ad (celB κ ad r0 b) res) [.ref (ad 57), .ref (ad p0), .int p1, .int p2].toArray s 0 0 A) (F0 m 36 ls [.int x21]) := by
        intro x21 H locs ls25 h22 G23 hl24
        rw [ek16] at h22
        try dsimp only at h22
        have h22_i := Option.some.inj h22
        exact m_iret (pc := 36) X G23 hr hlk dX1_endingOf_36 h22_i rfl
      refine lv_icmp_lt (pc := 28) (tgt := 35) X.1 X.2.1 dX1_endingOf_28 (by decide) (fun hc18 => ?_) (fun hc18 => ?_)
      · have h19 := it_pos h17 hc18
        refine lv_iconst (pc := 35) (v := 0) X.1 X.2.1 dX1_endingOf_35 (by decide) ?_
        exact hk16 0 _ _ ls h19 G4 (lv_sub hl10 [] rfl)
      · have h20 := it_neg h17 hc18
        refine lv_iconst (pc := 31) (v := 3) X.1 X.2.1 dX1_endingOf_31 (by decide) ?_
        refine lv_goto (pc := 32) (tgt := 36) X.1 X.2.1 dX1_endingOf_32 (by decide) ?_
        exact hk16 3 _ _ ls h20 G4 (lv_sub hl10 [] rfl)
    · have h15 := it_neg h8 hc13
      refine lv_iconst (pc := 21) (v := 2) X.1 X.2.1 dX1_endingOf_21 (by decide) ?_
      have h15_i := Option.some.inj h15
      exact m_iret (pc := 22) X G4 hr hlk dX1_endingOf_22 h15_i rfl

abbrev rm1_signOf : Room := { frames := 0, cells := 0, slots := 0, locals := 0 }
noncomputable def F1_signOf (p0 : Int32) : Option (Int32) :=
  if p0 = 1 then
  some 36
  else if p0 = 2 then
  some 35
  else some 37
set_option maxHeartbeats 4000000 in
set_option maxRecDepth 100000 in
theorem c1_signOf (l : Launch) (D : va_G) (κ : Nat → ClassId) (A : Nat → Prop) (ad : Nat → Nat) (M : Nat → Option va_E) (p0 : Int32) (res : Int32) (h : F1_signOf p0 = some res) : Met l yX1_signOf (gw yX1_signOf cX1_signOf 1 (some (FieldType.int))) rm1_signOf (va_Pc [.int p0] (MW D κ A ad M)) (QI D κ A ad M res) 0 0 A := by
  refine met_of (own := RX1) (by decide +kernel) rfl (Nat.le_of_ble_eq_true rfl) ?_
  intro p e s m below meth c ls X hr hlk G hl
  have hl : lv_has ls 1 [(0, .int p0)] := hl
  unfold F1_signOf at h
  refine lv_iload_n (pc := 0) X.1 X.2.1 dX1_signOf_0 rfl (lv_at hl 0 rfl) ?_
  by_cases hc5_1 : p0 = 1
  · have h1 := it_pos h hc5_1
    refine lv_lookup (pc := 1) (tgt := 28) (off := 27) X.1 X.2.1 dX1_signOf_1 (by decide +kernel) (by rw [hc5_1]; decide +kernel) (by decide) ?_
    refine lv_bipush (pc := 28) (v := 36) X.1 X.2.1 dX1_signOf_28 (by decide) ?_
    have h1_i := Option.some.inj h1
    exact m_iret (pc := 30) X G hr hlk dX1_signOf_30 h1_i rfl
  · have h2 := it_neg h hc5_1
    by_cases hc5_2 : p0 = 2
    · have h3 := it_pos h2 hc5_2
      refine lv_lookup (pc := 1) (tgt := 31) (off := 30) X.1 X.2.1 dX1_signOf_1 (by decide +kernel) (by rw [hc5_2]; decide +kernel) (by decide) ?_
      refine lv_bipush (pc := 31) (v := 35) X.1 X.2.1 dX1_signOf_31 (by decide) ?_
      have h3_i := Option.some.inj h3
      exact m_iret (pc := 33) X G hr hlk dX1_signOf_33 h3_i rfl
    · have h4 := it_neg h2 hc5_2
      refine lv_lookup (pc := 1) (tgt := 34) (off := 33) X.1 X.2.1 dX1_signOf_1 (by decide +kernel) (lk2_out (ne_toInt hc5_1) (ne_toInt hc5_2)) (by decide) ?_
      refine lv_bipush (pc := 34) (v := 37) X.1 X.2.1 dX1_signOf_34 (by decide) ?_
      have h4_i := Option.some.inj h4
      exact m_iret (pc := 36) X G hr hlk dX1_signOf_36 h4_i rfl

abbrev rm1_listCall : Room := { frames := 0, cells := 0, slots := 0, locals := 0 }
noncomputable def F1_listCall (b : BS) (p0 : Int32) (p1 : Int32) (p2 : Int32) (p3 : Int32) (p4 : Int32) (p5 : Int32) : Option (BS) :=
  jp (fun (_ : Unit) => some b) fun k1 =>
  if (b.1 57 8) < 0 then
  k1 ()
  else
  if (b.1 57 8) < 60 then
  bd ((b.1 57 8) * 6) fun x9 =>
  wb b 62 360 x9 p0 fun b13 =>
  wb b13 62 360 (x9 + 1) p1 fun b16 =>
  wb b16 62 360 (x9 + 2) p2 fun b19 =>
  wb b19 62 360 (x9 + 3) p3 fun b22 =>
  wb b22 62 360 (x9 + 4) p4 fun b25 =>
  wb b25 62 360 (x9 + 5) p5 fun b28 =>
  bd (setI b28 57 8 ((b28.1 57 8) + 1)) fun b31 =>
  some b31
  else
  k1 ()
set_option maxHeartbeats 4000000 in
set_option maxRecDepth 100000 in
theorem c1_listCall (l : Launch) (D : va_G) (κ : Nat → ClassId) (A : Nat → Prop) (ad : Nat → Nat) (r0 : Nat → Option va_E) (b : BS) (p0 : Int32) (p1 : Int32) (p2 : Int32) (p3 : Int32) (p4 : Int32) (p5 : Int32) (res : BS) (h : F1_listCall b p0 p1 p2 p3 p4 p5 = some res) : Met l yX1_listCall (gw yX1_listCall cX1_listCall 8 none) rm1_listCall (va_Pc [.ref (ad 57), .int p0, .int p1, .int p2, .int p3, .int p4, .int p5] (MW D κ A ad (celB κ ad r0 b))) (QV D κ A ad (celB κ ad r0 res)) 0 0 A := by
  refine met_of (own := RX1) (by decide +kernel) rfl (Nat.le_of_ble_eq_true rfl) ?_
  intro p e s m below meth c ls X hr hlk G hl
  have hl : lv_has ls 8 [(0, .ref (ad 57)), (1, .int p0), (2, .int p1), (3, .int p2), (4, .int p3), (5, .int p4), (6, .int p5)] := hl
  unfold F1_listCall at h
  refine lv_aload_n (pc := 0) X.1 X.2.1 dX1_listCall_0 rfl (lv_at hl 0 rfl) ?_
  refine B_geti (pc := 1) (i := 57) (k := 8) X G rfl clX1 (okL57 _) (by decide) rfl rfl fl_X1_37 dX1_listCall_1 ?_
  obtain ⟨k1, ek1, h2⟩ := jp_some h
  have hk1 : ∀  (H : Heap) (locs : List Loc) (ls : Array Slot), k1 () = some res → Mm D κ A ad (celB κ ad r0 b) s H locs → lv_has ls 8 [] → W p l e rm1_listCall s m [.ref (ad 57), .int p0, .int p1, .int p2, .int p3, .int p4, .int p5].toArray below meth c H locs 0 0 (MQ below (QV D κ A ad (celB κ ad r0 res)) [.ref (ad 57), .int p0, .int p1, .int p2, .int p3, .int p4, .int p5].toArray s 0 0 A) (F0 m 16 ls []) := by
    intro  H locs ls37 h34 G35 hl36
    rw [ek1] at h34
    try dsimp only at h34
    have h34_i := Option.some.inj h34
    exact m_vret (pc := 16) X G35 hr hlk dX1_listCall_16 (congrArg (celB κ ad r0) h34_i)
  refine lv_if_lt (pc := 4) (tgt := 16) X.1 X.2.1 dX1_listCall_4 (by decide) (fun hc3 => ?_) (fun hc3 => ?_)
  · have h4 := it_pos h2 hc3
    exact hk1  _ _ ls h4 G (lv_sub hl [] rfl)
  · have h5 := it_neg h2 hc3
    refine lv_aload_n (pc := 7) X.1 X.2.1 dX1_listCall_7 rfl (lv_at hl 0 rfl) ?_
    refine B_geti (pc := 8) (i := 57) (k := 8) X G rfl clX1 (okL57 _) (by decide) rfl rfl fl_X1_37 dX1_listCall_8 ?_
    refine lv_bipush (pc := 11) (v := 60) X.1 X.2.1 dX1_listCall_11 (by decide) ?_
    refine lv_icmp_lt (pc := 13) (tgt := 17) X.1 X.2.1 dX1_listCall_13 (by decide) (fun hc6 => ?_) (fun hc6 => ?_)
    · have h7 := it_pos h5 hc6
      refine lv_aload_n (pc := 17) X.1 X.2.1 dX1_listCall_17 rfl (lv_at hl 0 rfl) ?_
      refine B_geti (pc := 18) (i := 57) (k := 8) X G rfl clX1 (okL57 _) (by decide) rfl rfl fl_X1_37 dX1_listCall_18 ?_
      refine lv_bipush (pc := 21) (v := 6) X.1 X.2.1 dX1_listCall_21 (by decide) ?_
      refine lv_imul (pc := 23) X.1 X.2.1 dX1_listCall_23 ?_
      refine lv_topi (fun x9 ex9 => ?_)
      have h10 := bd_at h7 ex9
      refine lv_istore (pc := 24) (lv' := [(7, .int x9), (0, .ref (ad 57)), (1, .int p0), (2, .int p1), (3, .int p2), (4, .int p3), (5, .int p4), (6, .int p5)]) X.1 X.2.1 dX1_listCall_24 hl (by decide) rfl (fun ls11 hl12 => ?_)
      refine lv_aload_n (pc := 26) X.1 X.2.1 dX1_listCall_26 rfl (lv_at hl12 1 rfl) ?_
      refine B_getc (pc := 27) (i := 57) (k := 4) (j := 62) X G rfl clX1 (okL57 _) (by decide) rfl fl_X1_24 dX1_listCall_27 ?_
      refine lv_iload (pc := 30) X.1 X.2.1 dX1_listCall_30 (lv_at hl12 0 rfl) ?_
      refine lv_iload_n (pc := 32) X.1 X.2.1 dX1_listCall_32 rfl (lv_at hl12 2 rfl) ?_
      obtain ⟨hib13, b13, eb13, h14⟩ := wb_some h10
      refine B_iast (pc := 33) (i := 62) (n := 360) X G eb13 rfl (okL62 _) rfl hib13 dX1_listCall_33 (fun H locs G15 => ?_)
      have nb13 : b13.2.2 = b.2.2 := by rw [eb13]; rfl
      refine lv_aload_n (pc := 34) X.1 X.2.1 dX1_listCall_34 rfl (lv_at hl12 1 rfl) ?_
      refine B_getc (pc := 35) (i := 57) (k := 4) (j := 62) X G15 rfl clX1 (okL57 _) (by decide) rfl fl_X1_24 dX1_listCall_35 ?_
      refine lv_iload (pc := 38) X.1 X.2.1 dX1_listCall_38 (lv_at hl12 0 rfl) ?_
      refine lv_iconst (pc := 40) (v := 1) X.1 X.2.1 dX1_listCall_40 (by decide) ?_
      refine lv_iadd (pc := 41) X.1 X.2.1 dX1_listCall_41 ?_
      refine lv_iload_n (pc := 42) X.1 X.2.1 dX1_listCall_42 rfl (lv_at hl12 3 rfl) ?_
      obtain ⟨hib16, b16, eb16, h17⟩ := wb_some h14
      refine B_iast (pc := 43) (i := 62) (n := 360) X G15 eb16 rfl (okL62 _) rfl hib16 dX1_listCall_43 (fun H locs G18 => ?_)
      have nb16 : b16.2.2 = b13.2.2 := by rw [eb16]; rfl
      refine lv_aload_n (pc := 44) X.1 X.2.1 dX1_listCall_44 rfl (lv_at hl12 1 rfl) ?_
      refine B_getc (pc := 45) (i := 57) (k := 4) (j := 62) X G18 rfl clX1 (okL57 _) (by decide) rfl fl_X1_24 dX1_listCall_45 ?_
      refine lv_iload (pc := 48) X.1 X.2.1 dX1_listCall_48 (lv_at hl12 0 rfl) ?_
      refine lv_iconst (pc := 50) (v := 2) X.1 X.2.1 dX1_listCall_50 (by decide) ?_
      refine lv_iadd (pc := 51) X.1 X.2.1 dX1_listCall_51 ?_
      refine lv_iload_n (pc := 52) X.1 X.2.1 dX1_listCall_52 rfl (lv_at hl12 4 rfl) ?_
      obtain ⟨hib19, b19, eb19, h20⟩ := wb_some h17
      refine B_iast (pc := 53) (i := 62) (n := 360) X G18 eb19 rfl (okL62 _) rfl hib19 dX1_listCall_53 (fun H locs G21 => ?_)
      have nb19 : b19.2.2 = b16.2.2 := by rw [eb19]; rfl
      refine lv_aload_n (pc := 54) X.1 X.2.1 dX1_listCall_54 rfl (lv_at hl12 1 rfl) ?_
      refine B_getc (pc := 55) (i := 57) (k := 4) (j := 62) X G21 rfl clX1 (okL57 _) (by decide) rfl fl_X1_24 dX1_listCall_55 ?_
      refine lv_iload (pc := 58) X.1 X.2.1 dX1_listCall_58 (lv_at hl12 0 rfl) ?_
      refine lv_iconst (pc := 60) (v := 3) X.1 X.2.1 dX1_listCall_60 (by decide) ?_
      refine lv_iadd (pc := 61) X.1 X.2.1 dX1_listCall_61 ?_
      refine lv_iload (pc := 62) X.1 X.2.1 dX1_listCall_62 (lv_at hl12 5 rfl) ?_
      obtain ⟨hib22, b22, eb22, h23⟩ := wb_some h20
      refine B_iast (pc := 64) (i := 62) (n := 360) X G21 eb22 rfl (okL62 _) rfl hib22 dX1_listCall_64 (fun H locs G24 => ?_)
      have nb22 : b22.2.2 = b19.2.2 := by rw [eb22]; rfl
      refine lv_aload_n (pc := 65) X.1 X.2.1 dX1_listCall_65 rfl (lv_at hl12 1 rfl) ?_
      refine B_getc (pc := 66) (i := 57) (k := 4) (j := 62) X G24 rfl clX1 (okL57 _) (by decide) rfl fl_X1_24 dX1_listCall_66 ?_
      refine lv_iload (pc := 69) X.1 X.2.1 dX1_listCall_69 (lv_at hl12 0 rfl) ?_
      refine lv_iconst (pc := 71) (v := 4) X.1 X.2.1 dX1_listCall_71 (by decide) ?_
      refine lv_iadd (pc := 72) X.1 X.2.1 dX1_listCall_72 ?_
      refine lv_iload (pc := 73) X.1 X.2.1 dX1_listCall_73 (lv_at hl12 6 rfl) ?_
      obtain ⟨hib25, b25, eb25, h26⟩ := wb_some h23
      refine B_iast (pc := 75) (i := 62) (n := 360) X G24 eb25 rfl (okL62 _) rfl hib25 dX1_listCall_75 (fun H locs G27 => ?_)
      have nb25 : b25.2.2 = b22.2.2 := by rw [eb25]; rfl
      refine lv_aload_n (pc := 76) X.1 X.2.1 dX1_listCall_76 rfl (lv_at hl12 1 rfl) ?_
      refine B_getc (pc := 77) (i := 57) (k := 4) (j := 62) X G27 rfl clX1 (okL57 _) (by decide) rfl fl_X1_24 dX1_listCall_77 ?_
      refine lv_iload (pc := 80) X.1 X.2.1 dX1_listCall_80 (lv_at hl12 0 rfl) ?_
      refine lv_iconst (pc := 82) (v := 5) X.1 X.2.1 dX1_listCall_82 (by decide) ?_
      refine lv_iadd (pc := 83) X.1 X.2.1 dX1_listCall_83 ?_
      refine lv_iload (pc := 84) X.1 X.2.1 dX1_listCall_84 (lv_at hl12 7 rfl) ?_
      obtain ⟨hib28, b28, eb28, h29⟩ := wb_some h26
      refine B_iast (pc := 86) (i := 62) (n := 360) X G27 eb28 rfl (okL62 _) rfl hib28 dX1_listCall_86 (fun H locs G30 => ?_)
      have nb28 : b28.2.2 = b25.2.2 := by rw [eb28]; rfl
      refine lv_aload_n (pc := 87) X.1 X.2.1 dX1_listCall_87 rfl (lv_at hl12 1 rfl) ?_
      refine lv_dup (pc := 88) X.1 X.2.1 dX1_listCall_88 rfl ?_
      refine B_geti (pc := 89) (i := 57) (k := 8) X G30 rfl clX1 (okL57 _) (by decide) rfl rfl fl_X1_37 dX1_listCall_89 ?_
      refine lv_iconst (pc := 92) (v := 1) X.1 X.2.1 dX1_listCall_92 (by decide) ?_
      refine lv_iadd (pc := 93) X.1 X.2.1 dX1_listCall_93 ?_
      obtain ⟨b31, eb31, h32⟩ := bd_some h29
      refine B_puti (pc := 94) (i := 57) (k := 8) (v := ((b28.1 57 8) + 1)) X G30 eb31 rfl clX1 (okL57 _) (by decide) rfl rfl rfl rfl fl_X1_37 dX1_listCall_94 (fun H locs G33 => ?_)
      have nb31 : b31.2.2 = b28.2.2 := by rw [eb31]; rfl
      have h32_i := Option.some.inj h32
      exact m_vret (pc := 97) X G33 hr hlk dX1_listCall_97 (congrArg (celB κ ad r0) h32_i)
    · have h8 := it_neg h5 hc6
      exact hk1  _ _ ls h8 G (lv_sub hl [] rfl)

abbrev rm1_writeBody (fr lo : Nat) : Room := { frames := fr + 1, cells := 0, slots := 0, locals := lo + 29 }
noncomputable def F1_writeBody (rec : BS → Nat → Nat → Int32 → Int32 → Int32 → Int32 → Option BS) (b : BS) (p0 : Nat) (p1 : Int32) (p2 : Int32) (p3 : Int32) (p4 : Int32) : Option (BS) :=
  ck (okB b.2.2 p0 5) <|
  bn (F5_definitionOf b p0 p1) fun o5 =>
  jp (fun (_ : Unit) => bz 1 <|
  bd (setI b 57 13 1) fun b44 =>
  some b44) fun k8 =>
  on o5 (k8 ()) fun t10 =>
  if (12 : Int32) < p2 then
  k8 ()
  else
  if (b.1 57 9) < 60 then
  bd (setI b 57 9 ((b.1 57 9) + 1)) fun b23 =>
  bd (setI b23 57 10 (if (b23.1 57 10) < p2 then p2 else (b23.1 57 10))) fun b26 =>
  bd (setI b26 57 11 ((b26.1 57 11) ||| ((1 : Int32) <<< (p1 &&& 31)))) fun b29 =>
  ck (okB b29.2.2 t10 6) <|
  bn (rec b29 p0 (t10 + 1) (nI (lnB b29.2.2 (t10 + 1))) p2 p3 p4) fun b36 =>
  bd (setI b36 57 11 ((b36.1 57 11) &&& (((1 : Int32) <<< (p1 &&& 31)) ^^^ (-1)))) fun b37 =>
  some b37
  else
  k8 ()
set_option maxHeartbeats 4000000 in
set_option maxRecDepth 100000 in
theorem c1_writeBody (l : Launch) (D : va_G) (κ : Nat → ClassId) (A : Nat → Prop) (ad : Nat → Nat) (r0 : Nat → Option va_E) (rec : BS → Nat → Nat → Int32 → Int32 → Int32 → Int32 → Option BS) (fr lo : Nat) (hfr : 10 ≤ fr) (hlo : 500 ≤ lo) (hrec : ∀ (b : BS) (p0 p1 : Nat) (p2 p3 p4 p5 : Int32) (res : BS), rec b p0 p1 p2 p3 p4 p5 = some res → Met l yX1_writeText (gw yX1_writeText cX1_writeText 10 none) { frames := fr, cells := 0, slots := 0, locals := lo } (va_Pc [.ref (ad 57), .ref (ad p0), .ref (ad p1), .int p2, .int p3, .int p4, .int p5] (MW D κ A ad (celB κ ad r0 b))) (QV D κ A ad (celB κ ad r0 res)) 0 0 A) (b : BS) (p0 : Nat) (p1 : Int32) (p2 : Int32) (p3 : Int32) (p4 : Int32) (res : BS) (h : F1_writeBody rec b p0 p1 p2 p3 p4 = some res) : Met l yX1_writeBody (gw yX1_writeBody cX1_writeBody 7 none) (rm1_writeBody fr lo) (va_Pc [.ref (ad 57), .ref (ad p0), .int p1, .int p2, .int p3, .int p4] (MW D κ A ad (celB κ ad r0 b))) (QV D κ A ad (celB κ ad r0 res)) 0 0 A := by
  refine met_of (own := RX1) (by decide +kernel) rfl (Nat.le_of_ble_eq_true rfl) ?_
  intro p e s m below meth c ls X hr hlk G hl
  have hl : lv_has ls 7 [(0, .ref (ad 57)), (1, .ref (ad p0)), (2, .int p1), (3, .int p2), (4, .int p3), (5, .int p4)] := hl
  unfold F1_writeBody at h
  refine lv_aload_n (pc := 0) X.1 X.2.1 dX1_writeBody_0 rfl (lv_at hl 1 rfl) ?_
  refine lv_iload_n (pc := 1) X.1 X.2.1 dX1_writeBody_1 rfl (lv_at hl 2 rfl) ?_
  obtain ⟨ok1, h2⟩ := ck_some h
  obtain ⟨o5, eo5, h3⟩ := bn_some h2
  refine B_callq (pc := 2) (v := o5) (M' := (celB κ ad r0 b)) (i := p0) (As := [.int p1]) (rest := []) X G (rm := rm5_definitionOf) rfl rfl rfl (c5_definitionOf l D κ A ad r0 b p0 p1 o5 eo5) (B_rcv (ci := 5) ok1 (by decide)) rfl g_X1_136 hd_yX5_definitionOf ⟨by dsimp only; omega, by dsimp only; omega⟩ rfl hl rfl (lv_room (Nat.le_of_ble_eq_true rfl)) dX1_writeBody_2 ⟨Nat.le_of_ble_eq_true rfl, Nat.le_of_ble_eq_true rfl⟩ (fun H locs G4 => ?_)
  refine lq_astore (pc := 5) (lv' := [(6, va_rf (o5.map ad)), (0, .ref (ad 57)), (1, .ref (ad p0)), (2, .int p1), (3, .int p2), (4, .int p3), (5, .int p4)]) X dX1_writeBody_5 hl (by decide) rfl (fun ls6 hl7 => ?_)
  refine lq_aload (pc := 7) X dX1_writeBody_7 (lv_at hl7 0 rfl) ?_
  obtain ⟨k8, ek8, h9⟩ := jp_some h3
  have hk8 : ∀  (H : Heap) (locs : List Loc) (ls : Array Slot), k8 () = some res → Mm D κ A ad (celB κ ad r0 b) s H locs → lv_has ls 7 [(0, .ref (ad 57))] → W p l e (rm1_writeBody fr lo) s m [.ref (ad 57), .ref (ad p0), .int p1, .int p2, .int p3, .int p4].toArray below meth c H locs 0 0 (MQ below (QV D κ A ad (celB κ ad r0 res)) [.ref (ad 57), .ref (ad p0), .int p1, .int p2, .int p3, .int p4].toArray s 0 0 A) (F0 m 27 ls []) := by
    intro  H locs ls43 h40 G41 hl42
    rw [ek8] at h40
    try dsimp only at h40
    refine lv_aload_n (pc := 27) X.1 X.2.1 dX1_writeBody_27 rfl (lv_at hl42 0 rfl) ?_
    refine lv_iconst (pc := 28) (v := 1) X.1 X.2.1 dX1_writeBody_28 (by decide) ?_
    obtain ⟨hb46, h40_z⟩ := bz_some h40
    obtain ⟨b44, eb44, h45⟩ := bd_some h40_z
    refine B_putz (pc := 29) (i := 57) (k := 13) (v := 1) X G41 eb44 hb46 rfl clX1 (okL57 _) (by decide) rfl rfl rfl rfl fl_X1_53 dX1_writeBody_29 (fun H locs G47 => ?_)
    have nb44 : b44.2.2 = b.2.2 := by rw [eb44]; rfl
    have h45_i := Option.some.inj h45
    exact m_vret (pc := 32) X G47 hr hlk dX1_writeBody_32 (congrArg (celB κ ad r0) h45_i)
  rcases o5 with _ | t10
  · have h11 := on_n h9
    have hl13 : lv_has ls6 7 [(6, va_rf ((none : Option Nat).map ad)), (0, .ref (ad 57)), (1, .ref (ad p0)), (2, .int p1), (3, .int p2), (4, .int p3), (5, .int p4)] := hl7
    refine lv_ifnullN (pc := 9) (tgt := 27) X.1 X.2.1 dX1_writeBody_9 (by decide) ?_
    exact hk8  _ _ ls6 h11 G4 (lv_sub hl13 [1] rfl)
  · have h12 := on_s h9
    have hl14 : lv_has ls6 7 [(6, .ref (ad t10)), (0, .ref (ad 57)), (1, .ref (ad p0)), (2, .int p1), (3, .int p2), (4, .int p3), (5, .int p4)] := hl7
    refine lv_ifnull (pc := 9) (x := ad t10) X.1 X.2.1 dX1_writeBody_9 ?_
    refine lv_iload_n (pc := 12) X.1 X.2.1 dX1_writeBody_12 rfl (lv_at hl14 4 rfl) ?_
    refine lv_bipush (pc := 13) (v := 12) X.1 X.2.1 dX1_writeBody_13 (by decide) ?_
    refine lv_icmp_gt (pc := 15) (tgt := 27) X.1 X.2.1 dX1_writeBody_15 (by decide) (fun hc17 => ?_) (fun hc17 => ?_)
    · have h18 := it_pos h12 hc17
      exact hk8  _ _ ls6 h18 G4 (lv_sub hl14 [1] rfl)
    · have h19 := it_neg h12 hc17
      refine lv_aload_n (pc := 18) X.1 X.2.1 dX1_writeBody_18 rfl (lv_at hl14 1 rfl) ?_
      refine B_geti (pc := 19) (i := 57) (k := 9) X G4 rfl clX1 (okL57 _) (by decide) rfl rfl fl_X1_40 dX1_writeBody_19 ?_
      refine lv_bipush (pc := 22) (v := 60) X.1 X.2.1 dX1_writeBody_22 (by decide) ?_
      refine lv_icmp_lt (pc := 24) (tgt := 33) X.1 X.2.1 dX1_writeBody_24 (by decide) (fun hc20 => ?_) (fun hc20 => ?_)
      · have h21 := it_pos h19 hc20
        refine lv_aload_n (pc := 33) X.1 X.2.1 dX1_writeBody_33 rfl (lv_at hl14 1 rfl) ?_
        refine lv_dup (pc := 34) X.1 X.2.1 dX1_writeBody_34 rfl ?_
        refine B_geti (pc := 35) (i := 57) (k := 9) X G4 rfl clX1 (okL57 _) (by decide) rfl rfl fl_X1_40 dX1_writeBody_35 ?_
        refine lv_iconst (pc := 38) (v := 1) X.1 X.2.1 dX1_writeBody_38 (by decide) ?_
        refine lv_iadd (pc := 39) X.1 X.2.1 dX1_writeBody_39 ?_
        obtain ⟨b23, eb23, h24⟩ := bd_some h21
        refine B_puti (pc := 40) (i := 57) (k := 9) (v := ((b.1 57 9) + 1)) X G4 eb23 rfl clX1 (okL57 _) (by decide) rfl rfl rfl rfl fl_X1_40 dX1_writeBody_40 (fun H locs G25 => ?_)
        have nb23 : b23.2.2 = b.2.2 := by rw [eb23]; rfl
        refine lv_aload_n (pc := 43) X.1 X.2.1 dX1_writeBody_43 rfl (lv_at hl14 1 rfl) ?_
        refine lv_aload_n (pc := 44) X.1 X.2.1 dX1_writeBody_44 rfl (lv_at hl14 1 rfl) ?_
        refine B_geti (pc := 45) (i := 57) (k := 10) X G25 rfl clX1 (okL57 _) (by decide) rfl rfl fl_X1_43 dX1_writeBody_45 ?_
        refine lv_iload_n (pc := 48) X.1 X.2.1 dX1_writeBody_48 rfl (lv_at hl14 4 rfl) ?_
        refine lq_mmax (pc := 49) (rest := [.ref (ad 57)]) X hl14 (ml_X1_73 : Cond.methodLink RX1 73 Lib.Math.max.name ∈ G0) w_max_s w_math w_max_c (by dsimp only; omega) (by rw [show (List.map (fun v => Value.category v) [.ref (ad 57)]).sum = 1 from rfl]; dsimp only; omega) (Nat.le_of_ble_eq_true rfl) (Nat.le_of_ble_eq_true rfl) dX1_writeBody_49 ?_
        obtain ⟨b26, eb26, h27⟩ := bd_some h24
        refine B_puti (pc := 52) (i := 57) (k := 10) (v := (if (b23.1 57 10) < p2 then p2 else (b23.1 57 10))) X G25 eb26 rfl clX1 (okL57 _) (by decide) rfl rfl rfl rfl fl_X1_43 dX1_writeBody_52 (fun H locs G28 => ?_)
        have nb26 : b26.2.2 = b23.2.2 := by rw [eb26]; rfl
        refine lv_aload_n (pc := 55) X.1 X.2.1 dX1_writeBody_55 rfl (lv_at hl14 1 rfl) ?_
        refine lv_dup (pc := 56) X.1 X.2.1 dX1_writeBody_56 rfl ?_
        refine B_geti (pc := 57) (i := 57) (k := 11) X G28 rfl clX1 (okL57 _) (by decide) rfl rfl fl_X1_46 dX1_writeBody_57 ?_
        refine lv_iconst (pc := 60) (v := 1) X.1 X.2.1 dX1_writeBody_60 (by decide) ?_
        refine lv_iload_n (pc := 61) X.1 X.2.1 dX1_writeBody_61 rfl (lv_at hl14 3 rfl) ?_
        refine lv_ishl (pc := 62) X.1 X.2.1 dX1_writeBody_62 ?_
        refine lv_ior (pc := 63) X.1 X.2.1 dX1_writeBody_63 ?_
        obtain ⟨b29, eb29, h30⟩ := bd_some h27
        refine B_puti (pc := 64) (i := 57) (k := 11) (v := ((b26.1 57 11) ||| ((1 : Int32) <<< (p1 &&& 31)))) X G28 eb29 rfl clX1 (okL57 _) (by decide) rfl rfl rfl rfl fl_X1_46 dX1_writeBody_64 (fun H locs G31 => ?_)
        have nb29 : b29.2.2 = b26.2.2 := by rw [eb29]; rfl
        refine lv_aload_n (pc := 67) X.1 X.2.1 dX1_writeBody_67 rfl (lv_at hl14 1 rfl) ?_
        refine lv_aload_n (pc := 68) X.1 X.2.1 dX1_writeBody_68 rfl (lv_at hl14 2 rfl) ?_
        refine lv_aload (pc := 69) X.1 X.2.1 dX1_writeBody_69 (lv_at hl14 0 rfl) ?_
        obtain ⟨ok32, h33⟩ := ck_some h30
        refine B_getc (pc := 71) (i := t10) (k := 0) (j := t10 + 1) X G31 rfl clX6 ok32 (by decide) rfl fl_X1_145 dX1_writeBody_71 ?_
        refine lv_aload (pc := 74) X.1 X.2.1 dX1_writeBody_74 (lv_at hl14 0 rfl) ?_
        refine B_getc (pc := 76) (i := t10) (k := 0) (j := t10 + 1) X G31 rfl clX6 ok32 (by decide) rfl fl_X1_145 dX1_writeBody_76 ?_
        refine B_alen (pc := 79) (i := t10 + 1) (n := (lnB b29.2.2 (t10 + 1))) X G31 rfl (ok6_arr ok32) rfl dX1_writeBody_79 ?_
        refine lv_iload_n (pc := 80) X.1 X.2.1 dX1_writeBody_80 rfl (lv_at hl14 4 rfl) ?_
        refine lv_iload (pc := 81) X.1 X.2.1 dX1_writeBody_81 (lv_at hl14 5 rfl) ?_
        refine lv_iload (pc := 83) X.1 X.2.1 dX1_writeBody_83 (lv_at hl14 6 rfl) ?_
        obtain ⟨b36, eb36, h34⟩ := bn_some h33
        refine B_callv (pc := 85) (M' := (celB κ ad r0 b36)) (i := 57) (As := [.ref (ad p0), .ref (ad (t10 + 1)), .int (nI (lnB b29.2.2 (t10 + 1))), .int p2, .int p3, .int p4]) (rest := []) X G31 (rm := { frames := fr, cells := 0, slots := 0, locals := lo }) rfl rfl rfl (hrec b29 p0 (t10 + 1) (nI (lnB b29.2.2 (t10 + 1))) p2 p3 p4 b36 eb36) (B_rcv (ci := 1) (okL57 _) (by decide)) rfl g_X1_63 hd_yX1_writeText ⟨by dsimp only; omega, by dsimp only; omega⟩ rfl hl14 rfl (lv_room (Nat.le_of_ble_eq_true rfl)) dX1_writeBody_85 ⟨Nat.le_of_ble_eq_true rfl, Nat.le_of_ble_eq_true rfl⟩ (fun H locs G35 => ?_)
        refine lv_aload_n (pc := 88) X.1 X.2.1 dX1_writeBody_88 rfl (lv_at hl14 1 rfl) ?_
        refine lv_dup (pc := 89) X.1 X.2.1 dX1_writeBody_89 rfl ?_
        refine B_geti (pc := 90) (i := 57) (k := 11) X G35 rfl clX1 (okL57 _) (by decide) rfl rfl fl_X1_46 dX1_writeBody_90 ?_
        refine lv_iconst (pc := 93) (v := 1) X.1 X.2.1 dX1_writeBody_93 (by decide) ?_
        refine lv_iload_n (pc := 94) X.1 X.2.1 dX1_writeBody_94 rfl (lv_at hl14 3 rfl) ?_
        refine lv_ishl (pc := 95) X.1 X.2.1 dX1_writeBody_95 ?_
        refine lv_iconst (pc := 96) (v := (-1)) X.1 X.2.1 dX1_writeBody_96 (by decide) ?_
        refine lv_ixor (pc := 97) X.1 X.2.1 dX1_writeBody_97 ?_
        refine lv_iand (pc := 98) X.1 X.2.1 dX1_writeBody_98 ?_
        obtain ⟨b37, eb37, h38⟩ := bd_some h34
        refine B_puti (pc := 99) (i := 57) (k := 11) (v := ((b36.1 57 11) &&& (((1 : Int32) <<< (p1 &&& 31)) ^^^ (-1)))) X G35 eb37 rfl clX1 (okL57 _) (by decide) rfl rfl rfl rfl fl_X1_46 dX1_writeBody_99 (fun H locs G39 => ?_)
        have nb37 : b37.2.2 = b36.2.2 := by rw [eb37]; rfl
        have h38_i := Option.some.inj h38
        exact m_vret (pc := 102) X G39 hr hlk dX1_writeBody_102 (congrArg (celB κ ad r0) h38_i)
      · have h22 := it_neg h19 hc20
        exact hk8  _ _ ls6 h22 G4 (lv_sub hl14 [1] rfl)
