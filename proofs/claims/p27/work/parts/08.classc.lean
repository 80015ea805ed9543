/-! THE CLASS, laid by wip/whole/walkb.py -/
abbrev rm0_tryBody : Room := { frames := 1, cells := 0, slots := 0, locals := 20 }
noncomputable def F0_tryBody (b : BS) (p0 : Int32) (p1 : Int32) : Option (BS) :=
  bn (F7_isLetter p0) fun x1 =>
  jp (fun (b12 : BS) => some b12) fun k4 =>
  if x1 = 0 then
  k4 b
  else
  wb b 55 26 p0 p1 fun b9 =>
  k4 b9
set_option maxHeartbeats 4000000 in
set_option maxRecDepth 100000 in
theorem c0_tryBody (l : Launch) (D : va_G) (κ : Nat → ClassId) (A : Nat → Prop) (ad : Nat → Nat) (r0 : Nat → Option va_E) (b : BS) (p0 : Int32) (p1 : Int32) (res : BS) (h : F0_tryBody b p0 p1 = some res) : Met l yX0_tryBody (gw yX0_tryBody cX0_tryBody 3 none) rm0_tryBody (va_Pc [.ref (ad 54), .int p0, .int p1] (MW D κ A ad (celB κ ad r0 b))) (QV D κ A ad (celB κ ad r0 res)) 0 0 A := by
  refine met_of (own := RX0) (by decide +kernel) rfl (Nat.le_of_ble_eq_true rfl) ?_
  intro p e s m below meth c ls X hr hlk G hl
  have hl : lv_has ls 3 [(0, .ref (ad 54)), (1, .int p0), (2, .int p1)] := hl
  unfold F0_tryBody at h
  refine lv_iload_n (pc := 0) X.1 X.2.1 dX0_tryBody_0 rfl (lv_at hl 1 rfl) ?_
  obtain ⟨x1, ex1, h2⟩ := bn_some h
  refine B_callsi (pc := 1) (v := x1) (host := RX7) (As := [.int p0]) (rest := []) X G (rm := rm7_isLetter) rfl rfl (c7_isLetter l D κ A ad (celB κ ad r0 b) p0 x1 ex1) (by decide +kernel) cd_yX7_isLetter sm_yX7_isLetter ini_X7 hs_yX7_isLetter ⟨Nat.le_of_ble_eq_true rfl, Nat.le_of_ble_eq_true rfl⟩ rfl hl rfl (lv_room (Nat.le_of_ble_eq_true rfl)) dX0_tryBody_1 ⟨Nat.le_of_ble_eq_true rfl, Nat.le_of_ble_eq_true rfl⟩ (fun H locs G3 => ?_)
  obtain ⟨k4, ek4, h5⟩ := jp_some h2
  have hk4 : ∀ (b12 : BS) (H : Heap) (locs : List Loc) (ls : Array Slot), k4 b12 = some res → Mm D κ A ad (celB κ ad r0 b12) s H locs → lv_has ls 3 [] → W p l e rm0_tryBody s m [.ref (ad 54), .int p0, .int p1].toArray below meth c H locs 0 0 (MQ below (QV D κ A ad (celB κ ad r0 res)) [.ref (ad 54), .int p0, .int p1].toArray s 0 0 A) (F0 m 14 ls []) := by
    intro b12 H locs ls16 h13 G14 hl15
    rw [ek4] at h13
    try dsimp only at h13
    have h13_i := Option.some.inj h13
    exact m_vret (pc := 14) X G14 hr hlk dX0_tryBody_14 (congrArg (celB κ ad r0) h13_i)
  refine lv_if_eq (pc := 4) (tgt := 14) X.1 X.2.1 dX0_tryBody_4 (by decide) (fun hc6 => ?_) (fun hc6 => ?_)
  · have h7 := it_pos h5 hc6
    exact hk4 b _ _ ls h7 G3 (lv_sub hl [] rfl)
  · have h8 := it_neg h5 hc6
    refine lv_aload_n (pc := 7) X.1 X.2.1 dX0_tryBody_7 rfl (lv_at hl 0 rfl) ?_
    refine B_getc (pc := 8) (i := 54) (k := 0) (j := 55) X G3 rfl clX0 (okL54 _) (by decide) rfl fl_X0_9 dX0_tryBody_8 ?_
    refine lv_iload_n (pc := 11) X.1 X.2.1 dX0_tryBody_11 rfl (lv_at hl 1 rfl) ?_
    refine lv_iload_n (pc := 12) X.1 X.2.1 dX0_tryBody_12 rfl (lv_at hl 2 rfl) ?_
    obtain ⟨hib9, b9, eb9, h10⟩ := wb_some h8
    refine B_iast (pc := 13) (i := 55) (n := 26) X G3 eb9 rfl (okL55 _) rfl hib9 dX0_tryBody_13 (fun H locs G11 => ?_)
    have nb9 : b9.2.2 = b.2.2 := by rw [eb9]; rfl
    exact hk4 b9 _ _ ls h10 G11 (lv_sub hl [] rfl)

abbrev rm0_calledBy : Room := { frames := 1, cells := 0, slots := 0, locals := 20 }
noncomputable def F0_calledBy (b : BS) (p0 : Int32) : Option (Int32) :=
  bn (F7_isLetter p0) fun x1 =>
  jp (fun (x11 : Int32) => some x11) fun k4 =>
  if x1 = 0 then
  k4 0
  else
  rd (b.1 55) 26 p0 fun x9 =>
  k4 x9
set_option maxHeartbeats 4000000 in
set_option maxRecDepth 100000 in
theorem c0_calledBy (l : Launch) (D : va_G) (κ : Nat → ClassId) (A : Nat → Prop) (ad : Nat → Nat) (r0 : Nat → Option va_E) (b : BS) (p0 : Int32) (res : Int32) (h : F0_calledBy b p0 = some res) : Met l yX0_calledBy (gw yX0_calledBy cX0_calledBy 2 (some (FieldType.int))) rm0_calledBy (va_Pc [.ref (ad 54), .int p0] (MW D κ A ad (celB κ ad r0 b))) (QI D κ A ad (celB κ ad r0 b) res) 0 0 A := by
  refine met_of (own := RX0) (by decide +kernel) rfl (Nat.le_of_ble_eq_true rfl) ?_
  intro p e s m below meth c ls X hr hlk G hl
  have hl : lv_has ls 2 [(0, .ref (ad 54)), (1, .int p0)] := hl
  unfold F0_calledBy at h
  refine lv_iload_n (pc := 0) X.1 X.2.1 dX0_calledBy_0 rfl (lv_at hl 1 rfl) ?_
  obtain ⟨x1, ex1, h2⟩ := bn_some h
  refine B_callsi (pc := 1) (v := x1) (host := RX7) (As := [.int p0]) (rest := []) X G (rm := rm7_isLetter) rfl rfl (c7_isLetter l D κ A ad (celB κ ad r0 b) p0 x1 ex1) (by decide +kernel) cd_yX7_isLetter sm_yX7_isLetter ini_X7 hs_yX7_isLetter ⟨Nat.le_of_ble_eq_true rfl, Nat.le_of_ble_eq_true rfl⟩ rfl hl rfl (lv_room (Nat.le_of_ble_eq_true rfl)) dX0_calledBy_1 ⟨Nat.le_of_ble_eq_true rfl, Nat.le_of_ble_eq_true rfl⟩ (fun H locs G3 => ?_)
  obtain ⟨k4, ek4, h5⟩ := jp_some h2
  have hk4 : ∀ (x11 : Int32) (H : Heap) (locs : List Loc) (ls : Array Slot), k4 x11 = some res → Mm D κ A ad (celB κ ad r0 b) s H locs → lv_has ls 2 [] → W p l e rm0_calledBy s m [.ref (ad 54), .int p0].toArray below meth c H locs 0 0 (MQ below (QI D κ A ad (celB κ ad r0 b) res) [.ref (ad 54), .int p0].toArray s 0 0 A) (F0 m 17 ls [.int x11]) := by
    intro x11 H locs ls15 h12 G13 hl14
    rw [ek4] at h12
    try dsimp only at h12
    have h12_i := Option.some.inj h12
    exact m_iret (pc := 17) X G13 hr hlk dX0_calledBy_17 h12_i rfl
  refine lv_if_eq (pc := 4) (tgt := 16) X.1 X.2.1 dX0_calledBy_4 (by decide) (fun hc6 => ?_) (fun hc6 => ?_)
  · have h7 := it_pos h5 hc6
    refine lv_iconst (pc := 16) (v := 0) X.1 X.2.1 dX0_calledBy_16 (by decide) ?_
    exact hk4 0 _ _ ls h7 G3 (lv_sub hl [] rfl)
  · have h8 := it_neg h5 hc6
    refine lv_aload_n (pc := 7) X.1 X.2.1 dX0_calledBy_7 rfl (lv_at hl 0 rfl) ?_
    refine B_getc (pc := 8) (i := 54) (k := 0) (j := 55) X G3 rfl clX0 (okL54 _) (by decide) rfl fl_X0_9 dX0_calledBy_8 ?_
    refine lv_iload_n (pc := 11) X.1 X.2.1 dX0_calledBy_11 rfl (lv_at hl 1 rfl) ?_
    have h8_r := rd_some h8
    refine B_iald (pc := 12) (i := 55) (n := 26) X G3 rfl (okL55 _) rfl h8_r.1 dX0_calledBy_12 ?_
    refine lv_topi (fun x9 ex9 => ?_)
    have h10 := h8_r.2
    rw [← ex9] at h10
    refine lv_goto (pc := 13) (tgt := 17) X.1 X.2.1 dX0_calledBy_13 (by decide) ?_
    exact hk4 x9 _ _ ls h10 G3 (lv_sub hl [] rfl)

abbrev rm0_reachedFrom : Room := { frames := 3, cells := 0, slots := 0, locals := 63 }
noncomputable def F0_reachedFrom (b : BS) (p0 : Int32) : Option (BS × Int32) :=
  bn (F0_followCalls b) fun b3 =>
  bn (F7_isLetter p0) fun x4 =>
  jp (fun (x14 : Int32) => some (b3, x14)) fun k7 =>
  if x4 = 0 then
  k7 0
  else
  rd (b3.1 56) 26 p0 fun x12 =>
  k7 x12
set_option maxHeartbeats 4000000 in
set_option maxRecDepth 100000 in
theorem c0_reachedFrom (l : Launch) (D : va_G) (κ : Nat → ClassId) (A : Nat → Prop) (ad : Nat → Nat) (r0 : Nat → Option va_E) (b : BS) (p0 : Int32) (res : BS × Int32) (h : F0_reachedFrom b p0 = some res) : Met l yX0_reachedFrom (gw yX0_reachedFrom cX0_reachedFrom 2 (some (FieldType.int))) rm0_reachedFrom (va_Pc [.ref (ad 54), .int p0] (MW D κ A ad (celB κ ad r0 b))) (QI D κ A ad (celB κ ad r0 res.1) res.2) 0 0 A := by
  refine met_of (own := RX0) (by decide +kernel) rfl (Nat.le_of_ble_eq_true rfl) ?_
  intro p e s m below meth c ls X hr hlk G hl
  have hl : lv_has ls 2 [(0, .ref (ad 54)), (1, .int p0)] := hl
  unfold F0_reachedFrom at h
  refine lv_aload_n (pc := 0) X.1 X.2.1 dX0_reachedFrom_0 rfl (lv_at hl 0 rfl) ?_
  obtain ⟨b3, eb3, h1⟩ := bn_some h
  refine B_callv (pc := 1) (M' := (celB κ ad r0 b3)) (i := 54) (As := []) (rest := []) X G (rm := rm0_followCalls) rfl rfl rfl (c0_followCalls l D κ A ad r0 b b3 eb3) (B_rcv (ci := 0) (okL54 _) (by decide)) rfl g_X0_40 hd_yX0_followCalls ⟨Nat.le_of_ble_eq_true rfl, Nat.le_of_ble_eq_true rfl⟩ rfl hl rfl (lv_room (Nat.le_of_ble_eq_true rfl)) dX0_reachedFrom_1 ⟨Nat.le_of_ble_eq_true rfl, Nat.le_of_ble_eq_true rfl⟩ (fun H locs G2 => ?_)
  refine lv_iload_n (pc := 4) X.1 X.2.1 dX0_reachedFrom_4 rfl (lv_at hl 1 rfl) ?_
  obtain ⟨x4, ex4, h5⟩ := bn_some h1
  refine B_callsi (pc := 5) (v := x4) (host := RX7) (As := [.int p0]) (rest := []) X G2 (rm := rm7_isLetter) rfl rfl (c7_isLetter l D κ A ad (celB κ ad r0 b3) p0 x4 ex4) (by decide +kernel) cd_yX7_isLetter sm_yX7_isLetter ini_X7 hs_yX7_isLetter ⟨Nat.le_of_ble_eq_true rfl, Nat.le_of_ble_eq_true rfl⟩ rfl hl rfl (lv_room (Nat.le_of_ble_eq_true rfl)) dX0_reachedFrom_5 ⟨Nat.le_of_ble_eq_true rfl, Nat.le_of_ble_eq_true rfl⟩ (fun H locs G6 => ?_)
  obtain ⟨k7, ek7, h8⟩ := jp_some h5
  have hk7 : ∀ (x14 : Int32) (H : Heap) (locs : List Loc) (ls : Array Slot), k7 x14 = some res → Mm D κ A ad (celB κ ad r0 b3) s H locs → lv_has ls 2 [] → W p l e rm0_reachedFrom s m [.ref (ad 54), .int p0].toArray below meth c H locs 0 0 (MQ below (QI D κ A ad (celB κ ad r0 res.1) res.2) [.ref (ad 54), .int p0].toArray s 0 0 A) (F0 m 21 ls [.int x14]) := by
    intro x14 H locs ls18 h15 G16 hl17
    rw [ek7] at h15
    try dsimp only at h15
    have h15_i := Option.some.inj h15
    exact m_iret (pc := 21) X G16 hr hlk dX0_reachedFrom_21 (congrArg Prod.snd h15_i) (congrArg (fun q : BS × Int32 => celB κ ad r0 q.1) h15_i)
  refine lv_if_eq (pc := 8) (tgt := 20) X.1 X.2.1 dX0_reachedFrom_8 (by decide) (fun hc9 => ?_) (fun hc9 => ?_)
  · have h10 := it_pos h8 hc9
    refine lv_iconst (pc := 20) (v := 0) X.1 X.2.1 dX0_reachedFrom_20 (by decide) ?_
    exact hk7 0 _ _ ls h10 G6 (lv_sub hl [] rfl)
  · have h11 := it_neg h8 hc9
    refine lv_aload_n (pc := 11) X.1 X.2.1 dX0_reachedFrom_11 rfl (lv_at hl 0 rfl) ?_
    refine B_getc (pc := 12) (i := 54) (k := 1) (j := 56) X G6 rfl clX0 (okL54 _) (by decide) rfl fl_X0_15 dX0_reachedFrom_12 ?_
    refine lv_iload_n (pc := 15) X.1 X.2.1 dX0_reachedFrom_15 rfl (lv_at hl 1 rfl) ?_
    have h11_r := rd_some h11
    refine B_iald (pc := 16) (i := 56) (n := 26) X G6 rfl (okL56 _) rfl h11_r.1 dX0_reachedFrom_16 ?_
    refine lv_topi (fun x12 ex12 => ?_)
    have h13 := h11_r.2
    rw [← ex12] at h13
    refine lv_goto (pc := 17) (tgt := 21) X.1 X.2.1 dX0_reachedFrom_17 (by decide) ?_
    exact hk7 x12 _ _ ls h13 G6 (lv_sub hl [] rfl)

abbrev rm0_callersOf : Room := { frames := 2, cells := 0, slots := 0, locals := 41 }
noncomputable def F0_callersOf (b : BS) (p0 : Int32) : Option (Int32) :=
  Loop (fun (q : Int32 × Int32) => (fun (x5 : Int32) (x6 : Int32) =>
  if (26 : Int32) ≤ x6 then
  some (.inr x5)
  else
  rd (b.1 55) 26 x6 fun x14 =>
  bn (F0_holds x14 p0) fun x16 =>
  jp (fun (x28 : Int32) => bd (x6 + 1) fun x33 =>
  some (.inl (x28, x33))) fun k19 =>
  if x16 = 0 then
  k19 x5
  else
  bd (x5 ||| ((1 : Int32) <<< (x6 &&& 31))) fun x24 =>
  k19 x24) q.1 q.2) (0, 0)
set_option maxHeartbeats 4000000 in
set_option maxRecDepth 100000 in
theorem c0_callersOf (l : Launch) (D : va_G) (κ : Nat → ClassId) (A : Nat → Prop) (ad : Nat → Nat) (r0 : Nat → Option va_E) (b : BS) (p0 : Int32) (res : Int32) (h : F0_callersOf b p0 = some res) : Met l yX0_callersOf (gw yX0_callersOf cX0_callersOf 4 (some (FieldType.int))) rm0_callersOf (va_Pc [.ref (ad 54), .int p0] (MW D κ A ad (celB κ ad r0 b))) (QI D κ A ad (celB κ ad r0 b) res) 0 0 A := by
  refine met_of (own := RX0) (by decide +kernel) rfl (Nat.le_of_ble_eq_true rfl) ?_
  intro p e s m below meth c ls X hr hlk G hl
  have hl : lv_has ls 4 [(0, .ref (ad 54)), (1, .int p0)] := hl
  unfold F0_callersOf at h
  refine lv_iconst (pc := 0) (v := 0) X.1 X.2.1 dX0_callersOf_0 (by decide) ?_
  refine lv_istore_n (pc := 1) (lv' := [(2, .int 0), (0, .ref (ad 54)), (1, .int p0)]) X.1 X.2.1 dX0_callersOf_1 rfl hl (by decide) rfl (fun ls1 hl2 => ?_)
  refine lv_iconst (pc := 2) (v := 0) X.1 X.2.1 dX0_callersOf_2 (by decide) ?_
  refine lv_istore_n (pc := 3) (lv' := [(3, .int 0), (2, .int 0), (0, .ref (ad 54)), (1, .int p0)]) X.1 X.2.1 dX0_callersOf_3 rfl hl2 (by decide) rfl (fun ls3 hl4 => ?_)
  refine Loop_ind (P := fun (q : Int32 × Int32) => ∀ (H : Heap) (locs : List Loc) (ls : Array Slot), Mm D κ A ad (celB κ ad r0 b) s H locs → lv_has ls 4 [(0, .ref (ad 54)), (1, .int p0), (2, .int q.1), (3, .int q.2)] → W p l e rm0_callersOf s m [.ref (ad 54), .int p0].toArray below meth c H locs 0 0 (MQ below (QI D κ A ad (celB κ ad r0 b) res) [.ref (ad 54), .int p0].toArray s 0 0 A) (F0 m 4 ls [])) ?_ h _ _ ls3 G (lv_sub hl4 [2, 3, 1, 0] rfl)
  intro q y1 h7 ih1 hz1 H locs ls10 G8 hl9
  obtain ⟨x5, x6⟩ := q
  try dsimp only at h7 ih1 G8 hl9 ⊢
  refine lv_iload_n (pc := 4) X.1 X.2.1 dX0_callersOf_4 rfl (lv_at hl9 3 rfl) ?_
  refine lv_bipush (pc := 5) (v := 26) X.1 X.2.1 dX0_callersOf_5 (by decide) ?_
  refine lv_icmp_ge (pc := 7) (tgt := 35) X.1 X.2.1 dX0_callersOf_7 (by decide) (fun hc11 => ?_) (fun hc11 => ?_)
  · have h12 := it_pos h7 hc11
    refine lv_iload_n (pc := 35) X.1 X.2.1 dX0_callersOf_35 rfl (lv_at hl9 2 rfl) ?_
    have h12_i := Option.some.inj h12
    have h12_i_1 := hz1 _ h12_i.symm
    exact m_iret (pc := 36) X G8 hr hlk dX0_callersOf_36 h12_i_1 rfl
  · have h13 := it_neg h7 hc11
    refine lv_aload_n (pc := 10) X.1 X.2.1 dX0_callersOf_10 rfl (lv_at hl9 0 rfl) ?_
    refine B_getc (pc := 11) (i := 54) (k := 0) (j := 55) X G8 rfl clX0 (okL54 _) (by decide) rfl fl_X0_9 dX0_callersOf_11 ?_
    refine lv_iload_n (pc := 14) X.1 X.2.1 dX0_callersOf_14 rfl (lv_at hl9 3 rfl) ?_
    have h13_r := rd_some h13
    refine B_iald (pc := 15) (i := 55) (n := 26) X G8 rfl (okL55 _) rfl h13_r.1 dX0_callersOf_15 ?_
    refine lv_topi (fun x14 ex14 => ?_)
    have h15 := h13_r.2
    rw [← ex14] at h15
    refine lv_iload_n (pc := 16) X.1 X.2.1 dX0_callersOf_16 rfl (lv_at hl9 1 rfl) ?_
    obtain ⟨x16, ex16, h17⟩ := bn_some h15
    refine m_callsi0 (pc := 17) (v := x16) (As := [.int x14, .int p0]) (rest := []) X G8 (rm := rm0_holds) rfl rfl (c0_holds l D κ A ad (celB κ ad r0 b) x14 p0 x16 ex16) g_X0_43 hs_yX0_holds ⟨Nat.le_of_ble_eq_true rfl, Nat.le_of_ble_eq_true rfl⟩ rfl hl9 rfl (lv_room (Nat.le_of_ble_eq_true rfl)) dX0_callersOf_17 ⟨Nat.le_of_ble_eq_true rfl, Nat.le_of_ble_eq_true rfl⟩ (fun H locs G18 => ?_)
    obtain ⟨k19, ek19, h20⟩ := jp_some h17
    have hk19 : ∀ (x28 : Int32) (H : Heap) (locs : List Loc) (ls : Array Slot), k19 x28 = some y1 → Mm D κ A ad (celB κ ad r0 b) s H locs → lv_has ls 4 [(0, .ref (ad 54)), (1, .int p0), (2, .int x28), (3, .int x6)] → W p l e rm0_callersOf s m [.ref (ad 54), .int p0].toArray below meth c H locs 0 0 (MQ below (QI D κ A ad (celB κ ad r0 b) res) [.ref (ad 54), .int p0].toArray s 0 0 A) (F0 m 29 ls []) := by
      intro x28 H locs ls32 h29 G30 hl31
      rw [ek19] at h29
      try dsimp only at h29
      obtain ⟨x33, ex33, h36⟩ := bd_some h29
      refine lv_iinc (pc := 29) (v := x33) (lv' := [(3, .int x33), (0, .ref (ad 54)), (1, .int p0), (2, .int x28)]) X.1 X.2.1 dX0_callersOf_29 hl31 (k := 3) rfl (by rw [ex33]; rfl) (by decide) rfl (fun ls34 hl35 => ?_)
      refine lv_goto (pc := 32) (tgt := 4) X.1 X.2.1 dX0_callersOf_32 (by decide) ?_
      have h36_i := Option.some.inj h36
      exact ih1 _ h36_i.symm _ _ ls34 G30 (lv_sub hl35 [1, 2, 3, 0] rfl)
    refine lv_if_eq (pc := 20) (tgt := 29) X.1 X.2.1 dX0_callersOf_20 (by decide) (fun hc21 => ?_) (fun hc21 => ?_)
    · have h22 := it_pos h20 hc21
      exact hk19 x5 _ _ ls10 h22 G18 (lv_sub hl9 [0, 1, 2, 3] rfl)
    · have h23 := it_neg h20 hc21
      refine lv_iload_n (pc := 23) X.1 X.2.1 dX0_callersOf_23 rfl (lv_at hl9 2 rfl) ?_
      refine lv_iconst (pc := 24) (v := 1) X.1 X.2.1 dX0_callersOf_24 (by decide) ?_
      refine lv_iload_n (pc := 25) X.1 X.2.1 dX0_callersOf_25 rfl (lv_at hl9 3 rfl) ?_
      refine lv_ishl (pc := 26) X.1 X.2.1 dX0_callersOf_26 ?_
      refine lv_ior (pc := 27) X.1 X.2.1 dX0_callersOf_27 ?_
      refine lv_topi (fun x24 ex24 => ?_)
      have h25 := bd_at h23 ex24
      refine lv_istore_n (pc := 28) (lv' := [(2, .int x24), (0, .ref (ad 54)), (1, .int p0), (3, .int x6)]) X.1 X.2.1 dX0_callersOf_28 rfl hl9 (by decide) rfl (fun ls26 hl27 => ?_)
      exact hk19 x24 _ _ ls26 h25 G18 (lv_sub hl27 [1, 2, 0, 3] rfl)

abbrev rm0_reaching : Room := { frames := 3, cells := 0, slots := 0, locals := 63 }
noncomputable def F0_reaching (b : BS) (p0 : Int32) : Option (BS × Int32) :=
  bn (F0_followCalls b) fun b3 =>
  Loop (fun (q : Int32 × Int32) => (fun (x8 : Int32) (x9 : Int32) =>
  if (26 : Int32) ≤ x9 then
  some (.inr (b3, x8))
  else
  rd (b3.1 56) 26 x9 fun x17 =>
  bn (F0_holds x17 p0) fun x19 =>
  jp (fun (x31 : Int32) => bd (x9 + 1) fun x36 =>
  some (.inl (x31, x36))) fun k22 =>
  if x19 = 0 then
  k22 x8
  else
  bd (x8 ||| ((1 : Int32) <<< (x9 &&& 31))) fun x27 =>
  k22 x27) q.1 q.2) (0, 0)
set_option maxHeartbeats 4000000 in
set_option maxRecDepth 100000 in
theorem c0_reaching (l : Launch) (D : va_G) (κ : Nat → ClassId) (A : Nat → Prop) (ad : Nat → Nat) (r0 : Nat → Option va_E) (b : BS) (p0 : Int32) (res : BS × Int32) (h : F0_reaching b p0 = some res) : Met l yX0_reaching (gw yX0_reaching cX0_reaching 4 (some (FieldType.int))) rm0_reaching (va_Pc [.ref (ad 54), .int p0] (MW D κ A ad (celB κ ad r0 b))) (QI D κ A ad (celB κ ad r0 res.1) res.2) 0 0 A := by
  refine met_of (own := RX0) (by decide +kernel) rfl (Nat.le_of_ble_eq_true rfl) ?_
  intro p e s m below meth c ls X hr hlk G hl
  have hl : lv_has ls 4 [(0, .ref (ad 54)), (1, .int p0)] := hl
  unfold F0_reaching at h
  refine lv_aload_n (pc := 0) X.1 X.2.1 dX0_reaching_0 rfl (lv_at hl 0 rfl) ?_
  obtain ⟨b3, eb3, h1⟩ := bn_some h
  refine B_callv (pc := 1) (M' := (celB κ ad r0 b3)) (i := 54) (As := []) (rest := []) X G (rm := rm0_followCalls) rfl rfl rfl (c0_followCalls l D κ A ad r0 b b3 eb3) (B_rcv (ci := 0) (okL54 _) (by decide)) rfl g_X0_40 hd_yX0_followCalls ⟨Nat.le_of_ble_eq_true rfl, Nat.le_of_ble_eq_true rfl⟩ rfl hl rfl (lv_room (Nat.le_of_ble_eq_true rfl)) dX0_reaching_1 ⟨Nat.le_of_ble_eq_true rfl, Nat.le_of_ble_eq_true rfl⟩ (fun H locs G2 => ?_)
  refine lv_iconst (pc := 4) (v := 0) X.1 X.2.1 dX0_reaching_4 (by decide) ?_
  refine lv_istore_n (pc := 5) (lv' := [(2, .int 0), (0, .ref (ad 54)), (1, .int p0)]) X.1 X.2.1 dX0_reaching_5 rfl hl (by decide) rfl (fun ls4 hl5 => ?_)
  refine lv_iconst (pc := 6) (v := 0) X.1 X.2.1 dX0_reaching_6 (by decide) ?_
  refine lv_istore_n (pc := 7) (lv' := [(3, .int 0), (2, .int 0), (0, .ref (ad 54)), (1, .int p0)]) X.1 X.2.1 dX0_reaching_7 rfl hl5 (by decide) rfl (fun ls6 hl7 => ?_)
  refine Loop_ind (P := fun (q : Int32 × Int32) => ∀ (H : Heap) (locs : List Loc) (ls : Array Slot), Mm D κ A ad (celB κ ad r0 b3) s H locs → lv_has ls 4 [(0, .ref (ad 54)), (1, .int p0), (2, .int q.1), (3, .int q.2)] → W p l e rm0_reaching s m [.ref (ad 54), .int p0].toArray below meth c H locs 0 0 (MQ below (QI D κ A ad (celB κ ad r0 res.1) res.2) [.ref (ad 54), .int p0].toArray s 0 0 A) (F0 m 8 ls [])) ?_ h1 _ _ ls6 G2 (lv_sub hl7 [2, 3, 1, 0] rfl)
  intro q y1 h10 ih1 hz1 H locs ls13 G11 hl12
  obtain ⟨x8, x9⟩ := q
  try dsimp only at h10 ih1 G11 hl12 ⊢
  refine lv_iload_n (pc := 8) X.1 X.2.1 dX0_reaching_8 rfl (lv_at hl12 3 rfl) ?_
  refine lv_bipush (pc := 9) (v := 26) X.1 X.2.1 dX0_reaching_9 (by decide) ?_
  refine lv_icmp_ge (pc := 11) (tgt := 39) X.1 X.2.1 dX0_reaching_11 (by decide) (fun hc14 => ?_) (fun hc14 => ?_)
  · have h15 := it_pos h10 hc14
    refine lv_iload_n (pc := 39) X.1 X.2.1 dX0_reaching_39 rfl (lv_at hl12 2 rfl) ?_
    have h15_i := Option.some.inj h15
    have h15_i_1 := hz1 _ h15_i.symm
    exact m_iret (pc := 40) X G11 hr hlk dX0_reaching_40 (congrArg Prod.snd h15_i_1) (congrArg (fun q : BS × Int32 => celB κ ad r0 q.1) h15_i_1)
  · have h16 := it_neg h10 hc14
    refine lv_aload_n (pc := 14) X.1 X.2.1 dX0_reaching_14 rfl (lv_at hl12 0 rfl) ?_
    refine B_getc (pc := 15) (i := 54) (k := 1) (j := 56) X G11 rfl clX0 (okL54 _) (by decide) rfl fl_X0_15 dX0_reaching_15 ?_
    refine lv_iload_n (pc := 18) X.1 X.2.1 dX0_reaching_18 rfl (lv_at hl12 3 rfl) ?_
    have h16_r := rd_some h16
    refine B_iald (pc := 19) (i := 56) (n := 26) X G11 rfl (okL56 _) rfl h16_r.1 dX0_reaching_19 ?_
    refine lv_topi (fun x17 ex17 => ?_)
    have h18 := h16_r.2
    rw [← ex17] at h18
    refine lv_iload_n (pc := 20) X.1 X.2.1 dX0_reaching_20 rfl (lv_at hl12 1 rfl) ?_
    obtain ⟨x19, ex19, h20⟩ := bn_some h18
    refine m_callsi0 (pc := 21) (v := x19) (As := [.int x17, .int p0]) (rest := []) X G11 (rm := rm0_holds) rfl rfl (c0_holds l D κ A ad (celB κ ad r0 b3) x17 p0 x19 ex19) g_X0_43 hs_yX0_holds ⟨Nat.le_of_ble_eq_true rfl, Nat.le_of_ble_eq_true rfl⟩ rfl hl12 rfl (lv_room (Nat.le_of_ble_eq_true rfl)) dX0_reaching_21 ⟨Nat.le_of_ble_eq_true rfl, Nat.le_of_ble_eq_true rfl⟩ (fun H locs G21 => ?_)
    obtain ⟨k22, ek22, h23⟩ := jp_some h20
    have hk22 : ∀ (x31 : Int32) (H : Heap) (locs : List Loc) (ls : Array Slot), k22 x31 = some y1 → Mm D κ A ad (celB κ ad r0 b3) s H locs → lv_has ls 4 [(0, .ref (ad 54)), (1, .int p0), (2, .int x31), (3, .int x9)] → W p l e rm0_reaching s m [.ref (ad 54), .int p0].toArray below meth c H locs 0 0 (MQ below (QI D κ A ad (celB κ ad r0 res.1) res.2) [.ref (ad 54), .int p0].toArray s 0 0 A) (F0 m 33 ls []) := by
      intro x31 H locs ls35 h32 G33 hl34
      rw [ek22] at h32
      try dsimp only at h32
      obtain ⟨x36, ex36, h39⟩ := bd_some h32
      refine lv_iinc (pc := 33) (v := x36) (lv' := [(3, .int x36), (0, .ref (ad 54)), (1, .int p0), (2, .int x31)]) X.1 X.2.1 dX0_reaching_33 hl34 (k := 3) rfl (by rw [ex36]; rfl) (by decide) rfl (fun ls37 hl38 => ?_)
      refine lv_goto (pc := 36) (tgt := 8) X.1 X.2.1 dX0_reaching_36 (by decide) ?_
      have h39_i := Option.some.inj h39
      exact ih1 _ h39_i.symm _ _ ls37 G33 (lv_sub hl38 [1, 2, 3, 0] rfl)
    refine lv_if_eq (pc := 24) (tgt := 33) X.1 X.2.1 dX0_reaching_24 (by decide) (fun hc24 => ?_) (fun hc24 => ?_)
    · have h25 := it_pos h23 hc24
      exact hk22 x8 _ _ ls13 h25 G21 (lv_sub hl12 [0, 1, 2, 3] rfl)
    · have h26 := it_neg h23 hc24
      refine lv_iload_n (pc := 27) X.1 X.2.1 dX0_reaching_27 rfl (lv_at hl12 2 rfl) ?_
      refine lv_iconst (pc := 28) (v := 1) X.1 X.2.1 dX0_reaching_28 (by decide) ?_
      refine lv_iload_n (pc := 29) X.1 X.2.1 dX0_reaching_29 rfl (lv_at hl12 3 rfl) ?_
      refine lv_ishl (pc := 30) X.1 X.2.1 dX0_reaching_30 ?_
      refine lv_ior (pc := 31) X.1 X.2.1 dX0_reaching_31 ?_
      refine lv_topi (fun x27 ex27 => ?_)
      have h28 := bd_at h26 ex27
      refine lv_istore_n (pc := 32) (lv' := [(2, .int x27), (0, .ref (ad 54)), (1, .int p0), (3, .int x9)]) X.1 X.2.1 dX0_reaching_32 rfl hl12 (by decide) rfl (fun ls29 hl30 => ?_)
      exact hk22 x27 _ _ ls29 h28 G21 (lv_sub hl30 [1, 2, 0, 3] rfl)

abbrev rm0_inRings : Room := { frames := 3, cells := 0, slots := 0, locals := 63 }
noncomputable def F0_inRings (b : BS)  : Option (BS × Int32) :=
  bn (F0_followCalls b) fun b3 =>
  Loop (fun (q : Int32 × Int32) => (fun (x8 : Int32) (x9 : Int32) =>
  if (26 : Int32) ≤ x9 then
  some (.inr (b3, x8))
  else
  rd (b3.1 56) 26 x9 fun x17 =>
  bn (F0_holds x17 x9) fun x19 =>
  jp (fun (x31 : Int32) => bd (x9 + 1) fun x36 =>
  some (.inl (x31, x36))) fun k22 =>
  if x19 = 0 then
  k22 x8
  else
  bd (x8 ||| ((1 : Int32) <<< (x9 &&& 31))) fun x27 =>
  k22 x27) q.1 q.2) (0, 0)
set_option maxHeartbeats 4000000 in
set_option maxRecDepth 100000 in
theorem c0_inRings (l : Launch) (D : va_G) (κ : Nat → ClassId) (A : Nat → Prop) (ad : Nat → Nat) (r0 : Nat → Option va_E) (b : BS)  (res : BS × Int32) (h : F0_inRings b  = some res) : Met l yX0_inRings (gw yX0_inRings cX0_inRings 3 (some (FieldType.int))) rm0_inRings (va_Pc [.ref (ad 54)] (MW D κ A ad (celB κ ad r0 b))) (QI D κ A ad (celB κ ad r0 res.1) res.2) 0 0 A := by
  refine met_of (own := RX0) (by decide +kernel) rfl (Nat.le_of_ble_eq_true rfl) ?_
  intro p e s m below meth c ls X hr hlk G hl
  have hl : lv_has ls 3 [(0, .ref (ad 54))] := hl
  unfold F0_inRings at h
  refine lv_aload_n (pc := 0) X.1 X.2.1 dX0_inRings_0 rfl (lv_at hl 0 rfl) ?_
  obtain ⟨b3, eb3, h1⟩ := bn_some h
  refine B_callv (pc := 1) (M' := (celB κ ad r0 b3)) (i := 54) (As := []) (rest := []) X G (rm := rm0_followCalls) rfl rfl rfl (c0_followCalls l D κ A ad r0 b b3 eb3) (B_rcv (ci := 0) (okL54 _) (by decide)) rfl g_X0_40 hd_yX0_followCalls ⟨Nat.le_of_ble_eq_true rfl, Nat.le_of_ble_eq_true rfl⟩ rfl hl rfl (lv_room (Nat.le_of_ble_eq_true rfl)) dX0_inRings_1 ⟨Nat.le_of_ble_eq_true rfl, Nat.le_of_ble_eq_true rfl⟩ (fun H locs G2 => ?_)
  refine lv_iconst (pc := 4) (v := 0) X.1 X.2.1 dX0_inRings_4 (by decide) ?_
  refine lv_istore_n (pc := 5) (lv' := [(1, .int 0), (0, .ref (ad 54))]) X.1 X.2.1 dX0_inRings_5 rfl hl (by decide) rfl (fun ls4 hl5 => ?_)
  refine lv_iconst (pc := 6) (v := 0) X.1 X.2.1 dX0_inRings_6 (by decide) ?_
  refine lv_istore_n (pc := 7) (lv' := [(2, .int 0), (1, .int 0), (0, .ref (ad 54))]) X.1 X.2.1 dX0_inRings_7 rfl hl5 (by decide) rfl (fun ls6 hl7 => ?_)
  refine Loop_ind (P := fun (q : Int32 × Int32) => ∀ (H : Heap) (locs : List Loc) (ls : Array Slot), Mm D κ A ad (celB κ ad r0 b3) s H locs → lv_has ls 3 [(0, .ref (ad 54)), (1, .int q.1), (2, .int q.2)] → W p l e rm0_inRings s m [.ref (ad 54)].toArray below meth c H locs 0 0 (MQ below (QI D κ A ad (celB κ ad r0 res.1) res.2) [.ref (ad 54)].toArray s 0 0 A) (F0 m 8 ls [])) ?_ h1 _ _ ls6 G2 (lv_sub hl7 [2, 1, 0] rfl)
  intro q y1 h10 ih1 hz1 H locs ls13 G11 hl12
  obtain ⟨x8, x9⟩ := q
  try dsimp only at h10 ih1 G11 hl12 ⊢
  refine lv_iload_n (pc := 8) X.1 X.2.1 dX0_inRings_8 rfl (lv_at hl12 2 rfl) ?_
  refine lv_bipush (pc := 9) (v := 26) X.1 X.2.1 dX0_inRings_9 (by decide) ?_
  refine lv_icmp_ge (pc := 11) (tgt := 39) X.1 X.2.1 dX0_inRings_11 (by decide) (fun hc14 => ?_) (fun hc14 => ?_)
  · have h15 := it_pos h10 hc14
    refine lv_iload_n (pc := 39) X.1 X.2.1 dX0_inRings_39 rfl (lv_at hl12 1 rfl) ?_
    have h15_i := Option.some.inj h15
    have h15_i_1 := hz1 _ h15_i.symm
    exact m_iret (pc := 40) X G11 hr hlk dX0_inRings_40 (congrArg Prod.snd h15_i_1) (congrArg (fun q : BS × Int32 => celB κ ad r0 q.1) h15_i_1)
  · have h16 := it_neg h10 hc14
    refine lv_aload_n (pc := 14) X.1 X.2.1 dX0_inRings_14 rfl (lv_at hl12 0 rfl) ?_
    refine B_getc (pc := 15) (i := 54) (k := 1) (j := 56) X G11 rfl clX0 (okL54 _) (by decide) rfl fl_X0_15 dX0_inRings_15 ?_
    refine lv_iload_n (pc := 18) X.1 X.2.1 dX0_inRings_18 rfl (lv_at hl12 2 rfl) ?_
    have h16_r := rd_some h16
    refine B_iald (pc := 19) (i := 56) (n := 26) X G11 rfl (okL56 _) rfl h16_r.1 dX0_inRings_19 ?_
    refine lv_topi (fun x17 ex17 => ?_)
    have h18 := h16_r.2
    rw [← ex17] at h18
    refine lv_iload_n (pc := 20) X.1 X.2.1 dX0_inRings_20 rfl (lv_at hl12 2 rfl) ?_
    obtain ⟨x19, ex19, h20⟩ := bn_some h18
    refine m_callsi0 (pc := 21) (v := x19) (As := [.int x17, .int x9]) (rest := []) X G11 (rm := rm0_holds) rfl rfl (c0_holds l D κ A ad (celB κ ad r0 b3) x17 x9 x19 ex19) g_X0_43 hs_yX0_holds ⟨Nat.le_of_ble_eq_true rfl, Nat.le_of_ble_eq_true rfl⟩ rfl hl12 rfl (lv_room (Nat.le_of_ble_eq_true rfl)) dX0_inRings_21 ⟨Nat.le_of_ble_eq_true rfl, Nat.le_of_ble_eq_true rfl⟩ (fun H locs G21 => ?_)
    obtain ⟨k22, ek22, h23⟩ := jp_some h20
    have hk22 : ∀ (x31 : Int32) (H : Heap) (locs : List Loc) (ls : Array Slot), k22 x31 = some y1 → Mm D κ A ad (celB κ ad r0 b3) s H locs → lv_has ls 3 [(0, .ref (ad 54)), (1, .int x31), (2, .int x9)] → W p l e rm0_inRings s m [.ref (ad 54)].toArray below meth c H locs 0 0 (MQ below (QI D κ A ad (celB κ ad r0 res.1) res.2) [.ref (ad 54)].toArray s 0 0 A) (F0 m 33 ls []) := by
      intro x31 H locs ls35 h32 G33 hl34
      rw [ek22] at h32
      try dsimp only at h32
      obtain ⟨x36, ex36, h39⟩ := bd_some h32
      refine lv_iinc (pc := 33) (v := x36) (lv' := [(2, .int x36), (0, .ref (ad 54)), (1, .int x31)]) X.1 X.2.1 dX0_inRings_33 hl34 (k := 2) rfl (by rw [ex36]; rfl) (by decide) rfl (fun ls37 hl38 => ?_)
      refine lv_goto (pc := 36) (tgt := 8) X.1 X.2.1 dX0_inRings_36 (by decide) ?_
      have h39_i := Option.some.inj h39
      exact ih1 _ h39_i.symm _ _ ls37 G33 (lv_sub hl38 [1, 2, 0] rfl)
    refine lv_if_eq (pc := 24) (tgt := 33) X.1 X.2.1 dX0_inRings_24 (by decide) (fun hc24 => ?_) (fun hc24 => ?_)
    · have h25 := it_pos h23 hc24
      exact hk22 x8 _ _ ls13 h25 G21 (lv_sub hl12 [0, 1, 2] rfl)
    · have h26 := it_neg h23 hc24
      refine lv_iload_n (pc := 27) X.1 X.2.1 dX0_inRings_27 rfl (lv_at hl12 1 rfl) ?_
      refine lv_iconst (pc := 28) (v := 1) X.1 X.2.1 dX0_inRings_28 (by decide) ?_
      refine lv_iload_n (pc := 29) X.1 X.2.1 dX0_inRings_29 rfl (lv_at hl12 2 rfl) ?_
      refine lv_ishl (pc := 30) X.1 X.2.1 dX0_inRings_30 ?_
      refine lv_ior (pc := 31) X.1 X.2.1 dX0_inRings_31 ?_
      refine lv_topi (fun x27 ex27 => ?_)
      have h28 := bd_at h26 ex27
      refine lv_istore_n (pc := 32) (lv' := [(1, .int x27), (0, .ref (ad 54)), (2, .int x9)]) X.1 X.2.1 dX0_inRings_32 rfl hl12 (by decide) rfl (fun ls29 hl30 => ?_)
      exact hk22 x27 _ _ ls29 h28 G21 (lv_sub hl30 [1, 0, 2] rfl)

abbrev rm0_calledButNotDefined : Room := { frames := 3, cells := 0, slots := 0, locals := 64 }
noncomputable def F0_calledButNotDefined (b : BS)  : Option (Int32) :=
  bn (F0_calledInBodiesOf b (b.1 54 2)) fun x3 =>
  some (x3 &&& ((b.1 54 2) ^^^ (-1)))
set_option maxHeartbeats 4000000 in
set_option maxRecDepth 100000 in
theorem c0_calledButNotDefined (l : Launch) (D : va_G) (κ : Nat → ClassId) (A : Nat → Prop) (ad : Nat → Nat) (r0 : Nat → Option va_E) (b : BS)  (res : Int32) (h : F0_calledButNotDefined b  = some res) : Met l yX0_calledButNotDefined (gw yX0_calledButNotDefined cX0_calledButNotDefined 1 (some (FieldType.int))) rm0_calledButNotDefined (va_Pc [.ref (ad 54)] (MW D κ A ad (celB κ ad r0 b))) (QI D κ A ad (celB κ ad r0 b) res) 0 0 A := by
  refine met_of (own := RX0) (by decide +kernel) rfl (Nat.le_of_ble_eq_true rfl) ?_
  intro p e s m below meth c ls X hr hlk G hl
  have hl : lv_has ls 1 [(0, .ref (ad 54))] := hl
  unfold F0_calledButNotDefined at h
  refine lv_aload_n (pc := 0) X.1 X.2.1 dX0_calledButNotDefined_0 rfl (lv_at hl 0 rfl) ?_
  refine lv_aload_n (pc := 1) X.1 X.2.1 dX0_calledButNotDefined_1 rfl (lv_at hl 0 rfl) ?_
  refine B_geti (pc := 2) (i := 54) (k := 2) X G rfl clX0 (okL54 _) (by decide) rfl rfl fl_X0_18 dX0_calledButNotDefined_2 ?_
  obtain ⟨x3, ex3, h1⟩ := bn_some h
  refine B_calli (pc := 5) (v := x3) (M' := (celB κ ad r0 b)) (i := 54) (As := [.int (b.1 54 2)]) (rest := []) X G (rm := rm0_calledInBodiesOf) rfl rfl rfl (c0_calledInBodiesOf l D κ A ad r0 b (b.1 54 2) x3 ex3) (B_rcv (ci := 0) (okL54 _) (by decide)) rfl g_X0_47 hd_yX0_calledInBodiesOf ⟨Nat.le_of_ble_eq_true rfl, Nat.le_of_ble_eq_true rfl⟩ rfl hl rfl (lv_room (Nat.le_of_ble_eq_true rfl)) dX0_calledButNotDefined_5 ⟨Nat.le_of_ble_eq_true rfl, Nat.le_of_ble_eq_true rfl⟩ (fun H locs G2 => ?_)
  refine lv_aload_n (pc := 8) X.1 X.2.1 dX0_calledButNotDefined_8 rfl (lv_at hl 0 rfl) ?_
  refine B_geti (pc := 9) (i := 54) (k := 2) X G2 rfl clX0 (okL54 _) (by decide) rfl rfl fl_X0_18 dX0_calledButNotDefined_9 ?_
  refine lv_iconst (pc := 12) (v := (-1)) X.1 X.2.1 dX0_calledButNotDefined_12 (by decide) ?_
  refine lv_ixor (pc := 13) X.1 X.2.1 dX0_calledButNotDefined_13 ?_
  refine lv_iand (pc := 14) X.1 X.2.1 dX0_calledButNotDefined_14 ?_
  have h1_i := Option.some.inj h1
  exact m_iret (pc := 15) X G2 hr hlk dX0_calledButNotDefined_15 h1_i rfl

abbrev rm0_longestChain : Room := { frames := 3, cells := 0, slots := 0, locals := 64 }
noncomputable def F0_longestChain (b : BS) (p0 : Int32) : Option (Int32) :=
  bn (F7_isLetter p0) fun x1 =>
  jp (fun (x9 : Int32) => Loop (fun (q : Int32 × Int32) => (fun (x18 : Int32) (x19 : Int32) =>
  if (26 : Int32) < x19 then
  some (.inr (-1))
  else
  if ¬ x18 = 0 then
  bn (F0_calledInBodiesOf b x18) fun x32 =>
  bd (x32 &&& (b.1 54 2)) fun x33 =>
  bd (x19 + 1) fun x37 =>
  some (.inl (x33, x37))
  else
  some (.inr x19)) q.1 q.2) (x9, 0)) fun k4 =>
  if x1 = 0 then
  k4 0
  else
  k4 ((b.1 54 2) &&& ((1 : Int32) <<< (p0 &&& 31)))
set_option maxHeartbeats 4000000 in
set_option maxRecDepth 100000 in
theorem c0_longestChain (l : Launch) (D : va_G) (κ : Nat → ClassId) (A : Nat → Prop) (ad : Nat → Nat) (r0 : Nat → Option va_E) (b : BS) (p0 : Int32) (res : Int32) (h : F0_longestChain b p0 = some res) : Met l yX0_longestChain (gw yX0_longestChain cX0_longestChain 4 (some (FieldType.int))) rm0_longestChain (va_Pc [.ref (ad 54), .int p0] (MW D κ A ad (celB κ ad r0 b))) (QI D κ A ad (celB κ ad r0 b) res) 0 0 A := by
  refine met_of (own := RX0) (by decide +kernel) rfl (Nat.le_of_ble_eq_true rfl) ?_
  intro p e s m below meth c ls X hr hlk G hl
  have hl : lv_has ls 4 [(0, .ref (ad 54)), (1, .int p0)] := hl
  unfold F0_longestChain at h
  refine lv_iload_n (pc := 0) X.1 X.2.1 dX0_longestChain_0 rfl (lv_at hl 1 rfl) ?_
  obtain ⟨x1, ex1, h2⟩ := bn_some h
  refine B_callsi (pc := 1) (v := x1) (host := RX7) (As := [.int p0]) (rest := []) X G (rm := rm7_isLetter) rfl rfl (c7_isLetter l D κ A ad (celB κ ad r0 b) p0 x1 ex1) (by decide +kernel) cd_yX7_isLetter sm_yX7_isLetter ini_X7 hs_yX7_isLetter ⟨Nat.le_of_ble_eq_true rfl, Nat.le_of_ble_eq_true rfl⟩ rfl hl rfl (lv_room (Nat.le_of_ble_eq_true rfl)) dX0_longestChain_1 ⟨Nat.le_of_ble_eq_true rfl, Nat.le_of_ble_eq_true rfl⟩ (fun H locs G3 => ?_)
  obtain ⟨k4, ek4, h5⟩ := jp_some h2
  have hk4 : ∀ (x9 : Int32) (H : Heap) (locs : List Loc) (ls : Array Slot), k4 x9 = some res → Mm D κ A ad (celB κ ad r0 b) s H locs → lv_has ls 4 [(0, .ref (ad 54))] → W p l e rm0_longestChain s m [.ref (ad 54), .int p0].toArray below meth c H locs 0 0 (MQ below (QI D κ A ad (celB κ ad r0 b) res) [.ref (ad 54), .int p0].toArray s 0 0 A) (F0 m 19 ls [.int x9]) := by
    intro x9 H locs ls13 h10 G11 hl12
    rw [ek4] at h10
    try dsimp only at h10
    refine lv_istore_n (pc := 19) (lv' := [(2, .int x9), (0, .ref (ad 54))]) X.1 X.2.1 dX0_longestChain_19 rfl hl12 (by decide) rfl (fun ls14 hl15 => ?_)
    refine lv_iconst (pc := 20) (v := 0) X.1 X.2.1 dX0_longestChain_20 (by decide) ?_
    refine lv_istore_n (pc := 21) (lv' := [(3, .int 0), (2, .int x9), (0, .ref (ad 54))]) X.1 X.2.1 dX0_longestChain_21 rfl hl15 (by decide) rfl (fun ls16 hl17 => ?_)
    refine Loop_ind (P := fun (q : Int32 × Int32) => ∀ (H : Heap) (locs : List Loc) (ls : Array Slot), Mm D κ A ad (celB κ ad r0 b) s H locs → lv_has ls 4 [(0, .ref (ad 54)), (2, .int q.1), (3, .int q.2)] → W p l e rm0_longestChain s m [.ref (ad 54), .int p0].toArray below meth c H locs 0 0 (MQ below (QI D κ A ad (celB κ ad r0 b) res) [.ref (ad 54), .int p0].toArray s 0 0 A) (F0 m 22 ls [])) ?_ h10 _ _ ls16 G11 (lv_sub hl17 [2, 1, 0] rfl)
    intro q y1 h20 ih1 hz1 H locs ls23 G21 hl22
    obtain ⟨x18, x19⟩ := q
    try dsimp only at h20 ih1 G21 hl22 ⊢
    refine lv_iload_n (pc := 22) X.1 X.2.1 dX0_longestChain_22 rfl (lv_at hl22 2 rfl) ?_
    refine lv_bipush (pc := 23) (v := 26) X.1 X.2.1 dX0_longestChain_23 (by decide) ?_
    refine lv_icmp_gt (pc := 25) (tgt := 51) X.1 X.2.1 dX0_longestChain_25 (by decide) (fun hc24 => ?_) (fun hc24 => ?_)
    · have h25 := it_pos h20 hc24
      refine lv_iconst (pc := 51) (v := (-1)) X.1 X.2.1 dX0_longestChain_51 (by decide) ?_
      have h25_i := Option.some.inj h25
      have h25_i_1 := hz1 _ h25_i.symm
      exact m_iret (pc := 52) X G21 hr hlk dX0_longestChain_52 h25_i_1 rfl
    · have h26 := it_neg h20 hc24
      refine lv_iload_n (pc := 28) X.1 X.2.1 dX0_longestChain_28 rfl (lv_at hl22 1 rfl) ?_
      refine lv_if_ne (pc := 29) (tgt := 34) X.1 X.2.1 dX0_longestChain_29 (by decide) (fun hc27 => ?_) (fun hc27 => ?_)
      · have h28 := it_pos h26 hc27
        refine lv_aload_n (pc := 34) X.1 X.2.1 dX0_longestChain_34 rfl (lv_at hl22 0 rfl) ?_
        refine lv_iload_n (pc := 35) X.1 X.2.1 dX0_longestChain_35 rfl (lv_at hl22 1 rfl) ?_
        obtain ⟨x32, ex32, h30⟩ := bn_some h28
        refine B_calli (pc := 36) (v := x32) (M' := (celB κ ad r0 b)) (i := 54) (As := [.int x18]) (rest := []) X G21 (rm := rm0_calledInBodiesOf) rfl rfl rfl (c0_calledInBodiesOf l D κ A ad r0 b x18 x32 ex32) (B_rcv (ci := 0) (okL54 _) (by decide)) rfl g_X0_47 hd_yX0_calledInBodiesOf ⟨Nat.le_of_ble_eq_true rfl, Nat.le_of_ble_eq_true rfl⟩ rfl hl22 rfl (lv_room (Nat.le_of_ble_eq_true rfl)) dX0_longestChain_36 ⟨Nat.le_of_ble_eq_true rfl, Nat.le_of_ble_eq_true rfl⟩ (fun H locs G31 => ?_)
        refine lv_aload_n (pc := 39) X.1 X.2.1 dX0_longestChain_39 rfl (lv_at hl22 0 rfl) ?_
        refine B_geti (pc := 40) (i := 54) (k := 2) X G31 rfl clX0 (okL54 _) (by decide) rfl rfl fl_X0_18 dX0_longestChain_40 ?_
        refine lv_iand (pc := 43) X.1 X.2.1 dX0_longestChain_43 ?_
        refine lv_topi (fun x33 ex33 => ?_)
        have h34 := bd_at h30 ex33
        refine lv_istore_n (pc := 44) (lv' := [(2, .int x33), (0, .ref (ad 54)), (3, .int x19)]) X.1 X.2.1 dX0_longestChain_44 rfl hl22 (by decide) rfl (fun ls35 hl36 => ?_)
        obtain ⟨x37, ex37, h40⟩ := bd_some h34
        refine lv_iinc (pc := 45) (v := x37) (lv' := [(3, .int x37), (2, .int x33), (0, .ref (ad 54))]) X.1 X.2.1 dX0_longestChain_45 hl36 (k := 2) rfl (by rw [ex37]; rfl) (by decide) rfl (fun ls38 hl39 => ?_)
        refine lv_goto (pc := 48) (tgt := 22) X.1 X.2.1 dX0_longestChain_48 (by decide) ?_
        have h40_i := Option.some.inj h40
        exact ih1 _ h40_i.symm _ _ ls38 G31 (lv_sub hl39 [2, 1, 0] rfl)
      · have h29 := it_neg h26 (fun q => q hc27)
        refine lv_iload_n (pc := 32) X.1 X.2.1 dX0_longestChain_32 rfl (lv_at hl22 2 rfl) ?_
        have h29_i := Option.some.inj h29
        have h29_i_1 := hz1 _ h29_i.symm
        exact m_iret (pc := 33) X G21 hr hlk dX0_longestChain_33 h29_i_1 rfl
  refine lv_if_eq (pc := 4) (tgt := 18) X.1 X.2.1 dX0_longestChain_4 (by decide) (fun hc6 => ?_) (fun hc6 => ?_)
  · have h7 := it_pos h5 hc6
    refine lv_iconst (pc := 18) (v := 0) X.1 X.2.1 dX0_longestChain_18 (by decide) ?_
    exact hk4 0 _ _ ls h7 G3 (lv_sub hl [0] rfl)
  · have h8 := it_neg h5 hc6
    refine lv_aload_n (pc := 7) X.1 X.2.1 dX0_longestChain_7 rfl (lv_at hl 0 rfl) ?_
    refine B_geti (pc := 8) (i := 54) (k := 2) X G3 rfl clX0 (okL54 _) (by decide) rfl rfl fl_X0_18 dX0_longestChain_8 ?_
    refine lv_iconst (pc := 11) (v := 1) X.1 X.2.1 dX0_longestChain_11 (by decide) ?_
    refine lv_iload_n (pc := 12) X.1 X.2.1 dX0_longestChain_12 rfl (lv_at hl 1 rfl) ?_
    refine lv_ishl (pc := 13) X.1 X.2.1 dX0_longestChain_13 ?_
    refine lv_iand (pc := 14) X.1 X.2.1 dX0_longestChain_14 ?_
    refine lv_goto (pc := 15) (tgt := 19) X.1 X.2.1 dX0_longestChain_15 (by decide) ?_
    exact hk4 ((b.1 54 2) &&& ((1 : Int32) <<< (p0 &&& 31))) _ _ ls h8 G3 (lv_sub hl [0] rfl)

abbrev rm2_snapshotIn : Room := { frames := 0, cells := 0, slots := 0, locals := 0 }
noncomputable def F2_snapshotIn (b : BS) (p0 : Int32) : Option (Option Nat) :=
  jp (fun (o17 : Option Nat) => some o17) fun k1 =>
  jp (fun (_ : Unit) => k1 (none : Option Nat)) fun k3 =>
  if p0 < 0 then
  k3 ()
  else
  if (nI 2) ≤ p0 then
  k3 ()
  else
  ro (b.2.1 65) 2 p0 fun o11 =>
  k1 o11
set_option maxHeartbeats 4000000 in
set_option maxRecDepth 100000 in
theorem c2_snapshotIn (l : Launch) (D : va_G) (κ : Nat → ClassId) (A : Nat → Prop) (ad : Nat → Nat) (r0 : Nat → Option va_E) (b : BS) (p0 : Int32) (res : Option Nat) (h : F2_snapshotIn b p0 = some res) : Met l yX2_snapshotIn (gw yX2_snapshotIn cX2_snapshotIn 2 (some ((FieldType.object "AbbreviationBook$State")))) rm2_snapshotIn (va_Pc [.ref (ad 63), .int p0] (MW D κ A ad (celB κ ad r0 b))) (QR D κ A ad (celB κ ad r0 b) res) 0 0 A := by
  refine met_of (own := RX2) (by decide +kernel) rfl (Nat.le_of_ble_eq_true rfl) ?_
  intro p e s m below meth c ls X hr hlk G hl
  have hl : lv_has ls 2 [(0, .ref (ad 63)), (1, .int p0)] := hl
  unfold F2_snapshotIn at h
  refine lv_iload_n (pc := 0) X.1 X.2.1 dX2_snapshotIn_0 rfl (lv_at hl 1 rfl) ?_
  obtain ⟨k1, ek1, h2⟩ := jp_some h
  have hk1 : ∀ (o17 : Option Nat) (H : Heap) (locs : List Loc) (ls : Array Slot), k1 o17 = some res → Mm D κ A ad (celB κ ad r0 b) s H locs → lv_has ls 2 [] → W p l e rm2_snapshotIn s m [.ref (ad 63), .int p0].toArray below meth c H locs 0 0 (MQ below (QR D κ A ad (celB κ ad r0 b) res) [.ref (ad 63), .int p0].toArray s 0 0 A) (F0 m 23 ls [va_rf (o17.map ad)]) := by
    intro o17 H locs ls21 h18 G19 hl20
    rw [ek1] at h18
    try dsimp only at h18
    have h18_i := Option.some.inj h18
    exact m_aret (pc := 23) (x := o17) X G19 hr (Or.inl ⟨_, rfl⟩) hlk dX2_snapshotIn_23 h18_i rfl
  obtain ⟨k3, ek3, h4⟩ := jp_some h2
  have hk3 : ∀  (H : Heap) (locs : List Loc) (ls : Array Slot), k3 () = some res → Mm D κ A ad (celB κ ad r0 b) s H locs → lv_has ls 2 [] → W p l e rm2_snapshotIn s m [.ref (ad 63), .int p0].toArray below meth c H locs 0 0 (MQ below (QR D κ A ad (celB κ ad r0 b) res) [.ref (ad 63), .int p0].toArray s 0 0 A) (F0 m 22 ls []) := by
    intro  H locs ls16 h13 G14 hl15
    rw [ek3] at h13
    try dsimp only at h13
    refine lv_null (pc := 22) X.1 X.2.1 dX2_snapshotIn_22 ?_
    exact hk1 (none : Option Nat) _ _ ls16 h13 G14 (lv_sub hl15 [] rfl)
  refine lv_if_lt (pc := 1) (tgt := 22) X.1 X.2.1 dX2_snapshotIn_1 (by decide) (fun hc5 => ?_) (fun hc5 => ?_)
  · have h6 := it_pos h4 hc5
    exact hk3  _ _ ls h6 G (lv_sub hl [] rfl)
  · have h7 := it_neg h4 hc5
    refine lv_iload_n (pc := 4) X.1 X.2.1 dX2_snapshotIn_4 rfl (lv_at hl 1 rfl) ?_
    refine lv_aload_n (pc := 5) X.1 X.2.1 dX2_snapshotIn_5 rfl (lv_at hl 0 rfl) ?_
    refine B_getc (pc := 6) (i := 63) (k := 1) (j := 65) X G rfl clX2 (okL63 _) (by decide) rfl fl_X2_17 dX2_snapshotIn_6 ?_
    refine B_alenS (pc := 9) (i := 65) (n := 2) X G rfl (okL65 _) rfl dX2_snapshotIn_9 ?_
    refine lv_icmp_ge (pc := 10) (tgt := 22) X.1 X.2.1 dX2_snapshotIn_10 (by decide) (fun hc8 => ?_) (fun hc8 => ?_)
    · have h9 := it_pos h7 hc8
      exact hk3  _ _ ls h9 G (lv_sub hl [] rfl)
    · have h10 := it_neg h7 hc8
      refine lv_aload_n (pc := 13) X.1 X.2.1 dX2_snapshotIn_13 rfl (lv_at hl 0 rfl) ?_
      refine B_getc (pc := 14) (i := 63) (k := 1) (j := 65) X G rfl clX2 (okL63 _) (by decide) rfl fl_X2_17 dX2_snapshotIn_14 ?_
      refine lv_iload_n (pc := 17) X.1 X.2.1 dX2_snapshotIn_17 rfl (lv_at hl 1 rfl) ?_
      obtain ⟨hio11, o11, eo11, h12⟩ := ro_some h10
      refine B_alds (pc := 18) (i := 65) (n := 2) (o := o11) X G rfl (okL65 _) rfl hio11 eo11 dX2_snapshotIn_18 ?_
      refine lv_goto (pc := 19) (tgt := 23) X.1 X.2.1 dX2_snapshotIn_19 (by decide) ?_
      exact hk1 o11 _ _ ls h12 G (lv_sub hl [] rfl)

abbrev rm2_restoreSaved : Room := { frames := 1, cells := 0, slots := 0, locals := 22 }
noncomputable def F2_restoreSaved (b : BS) (p0 : Nat) : Option (BS × Int32) :=
  jp (fun (_ : Unit) => bz 0 (some (b, 0))) fun k1 =>
  if (b.1 63 3) ≤ 0 then
  k1 ()
  else
  if (b.1 63 2) < 0 then
  k1 ()
  else
  if (b.1 63 2) < (nI 6) then
  ro (b.2.1 64) 6 (b.1 63 2) fun o12 =>
  on o12 (bz 0 (some (b, 0))) fun t16 =>
  ck (okB b.2.2 p0 5) <|
  bn (F5_copyFrom b p0 t16) fun b27 =>
  jp (fun (x33 : Int32) => bd (setI b27 63 2 x33) fun b38 =>
  bd (setI b38 63 3 ((b38.1 63 3) - 1)) fun b41 =>
  bz 1 (some (b41, 1))) fun k28 =>
  if (b27.1 63 2) ≤ 0 then
  k28 5
  else
  k28 ((b27.1 63 2) - 1)
  else
  k1 ()
set_option maxHeartbeats 4000000 in
set_option maxRecDepth 100000 in
theorem c2_restoreSaved (l : Launch) (D : va_G) (κ : Nat → ClassId) (A : Nat → Prop) (ad : Nat → Nat) (r0 : Nat → Option va_E) (b : BS) (p0 : Nat) (res : BS × Int32) (h : F2_restoreSaved b p0 = some res) : Met l yX2_restoreSaved (gw yX2_restoreSaved cX2_restoreSaved 3 (some (FieldType.boolean))) rm2_restoreSaved (va_Pc [.ref (ad 63), .ref (ad p0)] (MW D κ A ad (celB κ ad r0 b))) (QI D κ A ad (celB κ ad r0 res.1) res.2) 0 0 A := by
  refine met_of (own := RX2) (by decide +kernel) rfl (Nat.le_of_ble_eq_true rfl) ?_
  intro p e s m below meth c ls X hr hlk G hl
  have hl : lv_has ls 3 [(0, .ref (ad 63)), (1, .ref (ad p0))] := hl
  unfold F2_restoreSaved at h
  refine lv_aload_n (pc := 0) X.1 X.2.1 dX2_restoreSaved_0 rfl (lv_at hl 0 rfl) ?_
  refine B_geti (pc := 1) (i := 63) (k := 3) X G rfl clX2 (okL63 _) (by decide) rfl rfl fl_X2_24 dX2_restoreSaved_1 ?_
  obtain ⟨k1, ek1, h2⟩ := jp_some h
  have hk1 : ∀  (H : Heap) (locs : List Loc) (ls : Array Slot), k1 () = some res → Mm D κ A ad (celB κ ad r0 b) s H locs → lv_has ls 3 [] → W p l e rm2_restoreSaved s m [.ref (ad 63), .ref (ad p0)].toArray below meth c H locs 0 0 (MQ below (QI D κ A ad (celB κ ad r0 res.1) res.2) [.ref (ad 63), .ref (ad p0)].toArray s 0 0 A) (F0 m 26 ls []) := by
    intro  H locs ls47 h44 G45 hl46
    rw [ek1] at h44
    try dsimp only at h44
    refine lv_iconst (pc := 26) (v := 0) X.1 X.2.1 dX2_restoreSaved_26 (by decide) ?_
    obtain ⟨hb, h44_b⟩ := bz_some h44
    have h44_b_i := Option.some.inj h44_b
    exact m_zret (pc := 27) X G45 hr hlk dX2_restoreSaved_27 hb (congrArg Prod.snd h44_b_i) (congrArg (fun q : BS × Int32 => celB κ ad r0 q.1) h44_b_i)
  refine lv_if_le (pc := 4) (tgt := 26) X.1 X.2.1 dX2_restoreSaved_4 (by decide) (fun hc3 => ?_) (fun hc3 => ?_)
  · have h4 := it_pos h2 hc3
    exact hk1  _ _ ls h4 G (lv_sub hl [] rfl)
  · have h5 := it_neg h2 hc3
    refine lv_aload_n (pc := 7) X.1 X.2.1 dX2_restoreSaved_7 rfl (lv_at hl 0 rfl) ?_
    refine B_geti (pc := 8) (i := 63) (k := 2) X G rfl clX2 (okL63 _) (by decide) rfl rfl fl_X2_20 dX2_restoreSaved_8 ?_
    refine lv_if_lt (pc := 11) (tgt := 26) X.1 X.2.1 dX2_restoreSaved_11 (by decide) (fun hc6 => ?_) (fun hc6 => ?_)
    · have h7 := it_pos h5 hc6
      exact hk1  _ _ ls h7 G (lv_sub hl [] rfl)
    · have h8 := it_neg h5 hc6
      refine lv_aload_n (pc := 14) X.1 X.2.1 dX2_restoreSaved_14 rfl (lv_at hl 0 rfl) ?_
      refine B_geti (pc := 15) (i := 63) (k := 2) X G rfl clX2 (okL63 _) (by decide) rfl rfl fl_X2_20 dX2_restoreSaved_15 ?_
      refine lv_aload_n (pc := 18) X.1 X.2.1 dX2_restoreSaved_18 rfl (lv_at hl 0 rfl) ?_
      refine B_getc (pc := 19) (i := 63) (k := 0) (j := 64) X G rfl clX2 (okL63 _) (by decide) rfl fl_X2_11 dX2_restoreSaved_19 ?_
      refine B_alenS (pc := 22) (i := 64) (n := 6) X G rfl (okL64 _) rfl dX2_restoreSaved_22 ?_
      refine lv_icmp_lt (pc := 23) (tgt := 28) X.1 X.2.1 dX2_restoreSaved_23 (by decide) (fun hc9 => ?_) (fun hc9 => ?_)
      · have h10 := it_pos h8 hc9
        refine lv_aload_n (pc := 28) X.1 X.2.1 dX2_restoreSaved_28 rfl (lv_at hl 0 rfl) ?_
        refine B_getc (pc := 29) (i := 63) (k := 0) (j := 64) X G rfl clX2 (okL63 _) (by decide) rfl fl_X2_11 dX2_restoreSaved_29 ?_
        refine lv_aload_n (pc := 32) X.1 X.2.1 dX2_restoreSaved_32 rfl (lv_at hl 0 rfl) ?_
        refine B_geti (pc := 33) (i := 63) (k := 2) X G rfl clX2 (okL63 _) (by decide) rfl rfl fl_X2_20 dX2_restoreSaved_33 ?_
        obtain ⟨hio12, o12, eo12, h13⟩ := ro_some h10
        refine B_alds (pc := 36) (i := 64) (n := 6) (o := o12) X G rfl (okL64 _) rfl hio12 eo12 dX2_restoreSaved_36 ?_
        refine lq_astore_n (pc := 37) (lv' := [(2, va_rf (o12.map ad)), (0, .ref (ad 63)), (1, .ref (ad p0))]) X dX2_restoreSaved_37 rfl hl (by decide) rfl (fun ls14 hl15 => ?_)
        refine lq_aload_n (pc := 38) X dX2_restoreSaved_38 rfl (lv_at hl15 0 rfl) ?_
        rcases o12 with _ | t16
        · have h17 := on_n h13
          have hl19 : lv_has ls14 3 [(2, va_rf ((none : Option Nat).map ad)), (0, .ref (ad 63)), (1, .ref (ad p0))] := hl15
          refine lv_ifnonnullN (pc := 39) X.1 X.2.1 dX2_restoreSaved_39 ?_
          refine lv_iconst (pc := 42) (v := 0) X.1 X.2.1 dX2_restoreSaved_42 (by decide) ?_
          obtain ⟨hb, h17_b⟩ := bz_some h17
          have h17_b_i := Option.some.inj h17_b
          exact m_zret (pc := 43) X G hr hlk dX2_restoreSaved_43 hb (congrArg Prod.snd h17_b_i) (congrArg (fun q : BS × Int32 => celB κ ad r0 q.1) h17_b_i)
        · have h18 := on_s h13
          have hl20 : lv_has ls14 3 [(2, .ref (ad t16)), (0, .ref (ad 63)), (1, .ref (ad p0))] := hl15
          refine lv_ifnonnull (pc := 39) (tgt := 44) (x := ad t16) X.1 X.2.1 dX2_restoreSaved_39 (by decide) ?_
          refine lv_aload_n (pc := 44) X.1 X.2.1 dX2_restoreSaved_44 rfl (lv_at hl20 2 rfl) ?_
          refine lv_aload_n (pc := 45) X.1 X.2.1 dX2_restoreSaved_45 rfl (lv_at hl20 0 rfl) ?_
          obtain ⟨ok23, h24⟩ := ck_some h18
          obtain ⟨b27, eb27, h25⟩ := bn_some h24
          refine B_callv (pc := 46) (M' := (celB κ ad r0 b27)) (i := p0) (As := [.ref (ad t16)]) (rest := []) X G (rm := rm5_copyFrom) rfl rfl rfl (c5_copyFrom l D κ A ad r0 b p0 t16 b27 eb27) (B_rcv (ci := 5) ok23 (by decide)) rfl g_X2_31 hd_yX5_copyFrom ⟨Nat.le_of_ble_eq_true rfl, Nat.le_of_ble_eq_true rfl⟩ rfl hl20 rfl (lv_room (Nat.le_of_ble_eq_true rfl)) dX2_restoreSaved_46 ⟨Nat.le_of_ble_eq_true rfl, Nat.le_of_ble_eq_true rfl⟩ (fun H locs G26 => ?_)
          refine lv_aload_n (pc := 49) X.1 X.2.1 dX2_restoreSaved_49 rfl (lv_at hl20 1 rfl) ?_
          refine lv_aload_n (pc := 50) X.1 X.2.1 dX2_restoreSaved_50 rfl (lv_at hl20 1 rfl) ?_
          refine B_geti (pc := 51) (i := 63) (k := 2) X G26 rfl clX2 (okL63 _) (by decide) rfl rfl fl_X2_20 dX2_restoreSaved_51 ?_
          obtain ⟨k28, ek28, h29⟩ := jp_some h25
          have hk28 : ∀ (x33 : Int32) (H : Heap) (locs : List Loc) (ls : Array Slot), k28 x33 = some res → Mm D κ A ad (celB κ ad r0 b27) s H locs → lv_has ls 3 [(0, .ref (ad 63))] → W p l e rm2_restoreSaved s m [.ref (ad 63), .ref (ad p0)].toArray below meth c H locs 0 0 (MQ below (QI D κ A ad (celB κ ad r0 res.1) res.2) [.ref (ad 63), .ref (ad p0)].toArray s 0 0 A) (F0 m 67 ls [.int x33, .ref (ad 63)]) := by
            intro x33 H locs ls37 h34 G35 hl36
            rw [ek28] at h34
            try dsimp only at h34
            obtain ⟨b38, eb38, h39⟩ := bd_some h34
            refine B_puti (pc := 67) (i := 63) (k := 2) (v := x33) X G35 eb38 rfl clX2 (okL63 _) (by decide) rfl rfl rfl rfl fl_X2_20 dX2_restoreSaved_67 (fun H locs G40 => ?_)
            have nb38 : b38.2.2 = b27.2.2 := by rw [eb38]; rfl
            refine lv_aload_n (pc := 70) X.1 X.2.1 dX2_restoreSaved_70 rfl (lv_at hl36 0 rfl) ?_
            refine lv_dup (pc := 71) X.1 X.2.1 dX2_restoreSaved_71 rfl ?_
            refine B_geti (pc := 72) (i := 63) (k := 3) X G40 rfl clX2 (okL63 _) (by decide) rfl rfl fl_X2_24 dX2_restoreSaved_72 ?_
            refine lv_iconst (pc := 75) (v := 1) X.1 X.2.1 dX2_restoreSaved_75 (by decide) ?_
            refine lv_isub (pc := 76) X.1 X.2.1 dX2_restoreSaved_76 ?_
            obtain ⟨b41, eb41, h42⟩ := bd_some h39
            refine B_puti (pc := 77) (i := 63) (k := 3) (v := ((b38.1 63 3) - 1)) X G40 eb41 rfl clX2 (okL63 _) (by decide) rfl rfl rfl rfl fl_X2_24 dX2_restoreSaved_77 (fun H locs G43 => ?_)
            have nb41 : b41.2.2 = b38.2.2 := by rw [eb41]; rfl
            refine lv_iconst (pc := 80) (v := 1) X.1 X.2.1 dX2_restoreSaved_80 (by decide) ?_
            obtain ⟨hb, h42_b⟩ := bz_some h42
            have h42_b_i := Option.some.inj h42_b
            exact m_zret (pc := 81) X G43 hr hlk dX2_restoreSaved_81 hb (congrArg Prod.snd h42_b_i) (congrArg (fun q : BS × Int32 => celB κ ad r0 q.1) h42_b_i)
          refine lv_if_le (pc := 54) (tgt := 66) X.1 X.2.1 dX2_restoreSaved_54 (by decide) (fun hc30 => ?_) (fun hc30 => ?_)
          · have h31 := it_pos h29 hc30
            refine lv_iconst (pc := 66) (v := 5) X.1 X.2.1 dX2_restoreSaved_66 (by decide) ?_
            exact hk28 5 _ _ ls14 h31 G26 (lv_sub hl20 [1] rfl)
          · have h32 := it_neg h29 hc30
            refine lv_aload_n (pc := 57) X.1 X.2.1 dX2_restoreSaved_57 rfl (lv_at hl20 1 rfl) ?_
            refine B_geti (pc := 58) (i := 63) (k := 2) X G26 rfl clX2 (okL63 _) (by decide) rfl rfl fl_X2_20 dX2_restoreSaved_58 ?_
            refine lv_iconst (pc := 61) (v := 1) X.1 X.2.1 dX2_restoreSaved_61 (by decide) ?_
            refine lv_isub (pc := 62) X.1 X.2.1 dX2_restoreSaved_62 ?_
            refine lv_goto (pc := 63) (tgt := 67) X.1 X.2.1 dX2_restoreSaved_63 (by decide) ?_
            exact hk28 ((b27.1 63 2) - 1) _ _ ls14 h32 G26 (lv_sub hl20 [1] rfl)
      · have h11 := it_neg h8 hc9
        exact hk1  _ _ ls h11 G (lv_sub hl [] rfl)

abbrev rm1_startOver : Room := { frames := 0, cells := 0, slots := 0, locals := 0 }
noncomputable def F1_startOver (b : BS) (p0 : Int32) : Option (BS) :=
  bd (setI b 57 5 0) fun b1 =>
  bd (setI b1 57 6 0) fun b4 =>
  bd (setI b4 57 7 0) fun b7 =>
  bd (setI b7 57 8 0) fun b10 =>
  bd (setI b10 57 9 0) fun b13 =>
  bd (setI b13 57 10 0) fun b16 =>
  bd (setI b16 57 11 0) fun b19 =>
  bz p0 <|
  bd (setI b19 57 12 p0) fun b22 =>
  bz 0 <|
  bd (setI b22 57 13 0) fun b26 =>
  some b26
set_option maxHeartbeats 4000000 in
set_option maxRecDepth 100000 in
theorem c1_startOver (l : Launch) (D : va_G) (κ : Nat → ClassId) (A : Nat → Prop) (ad : Nat → Nat) (r0 : Nat → Option va_E) (b : BS) (p0 : Int32) (res : BS) (h : F1_startOver b p0 = some res) : Met l yX1_startOver (gw yX1_startOver cX1_startOver 2 none) rm1_startOver (va_Pc [.ref (ad 57), .int p0] (MW D κ A ad (celB κ ad r0 b))) (QV D κ A ad (celB κ ad r0 res)) 0 0 A := by
  refine met_of (own := RX1) (by decide +kernel) rfl (Nat.le_of_ble_eq_true rfl) ?_
  intro p e s m below meth c ls X hr hlk G hl
  have hl : lv_has ls 2 [(0, .ref (ad 57)), (1, .int p0)] := hl
  unfold F1_startOver at h
  refine lv_aload_n (pc := 0) X.1 X.2.1 dX1_startOver_0 rfl (lv_at hl 0 rfl) ?_
  refine lv_iconst (pc := 1) (v := 0) X.1 X.2.1 dX1_startOver_1 (by decide) ?_
  obtain ⟨b1, eb1, h2⟩ := bd_some h
  refine B_puti (pc := 2) (i := 57) (k := 5) (v := 0) X G eb1 rfl clX1 (okL57 _) (by decide) rfl rfl rfl rfl fl_X1_27 dX1_startOver_2 (fun H locs G3 => ?_)
  have nb1 : b1.2.2 = b.2.2 := by rw [eb1]; rfl
  refine lv_aload_n (pc := 5) X.1 X.2.1 dX1_startOver_5 rfl (lv_at hl 0 rfl) ?_
  refine lv_iconst (pc := 6) (v := 0) X.1 X.2.1 dX1_startOver_6 (by decide) ?_
  obtain ⟨b4, eb4, h5⟩ := bd_some h2
  refine B_puti (pc := 7) (i := 57) (k := 6) (v := 0) X G3 eb4 rfl clX1 (okL57 _) (by decide) rfl rfl rfl rfl fl_X1_31 dX1_startOver_7 (fun H locs G6 => ?_)
  have nb4 : b4.2.2 = b1.2.2 := by rw [eb4]; rfl
  refine lv_aload_n (pc := 10) X.1 X.2.1 dX1_startOver_10 rfl (lv_at hl 0 rfl) ?_
  refine lv_iconst (pc := 11) (v := 0) X.1 X.2.1 dX1_startOver_11 (by decide) ?_
  obtain ⟨b7, eb7, h8⟩ := bd_some h5
  refine B_puti (pc := 12) (i := 57) (k := 7) (v := 0) X G6 eb7 rfl clX1 (okL57 _) (by decide) rfl rfl rfl rfl fl_X1_34 dX1_startOver_12 (fun H locs G9 => ?_)
  have nb7 : b7.2.2 = b4.2.2 := by rw [eb7]; rfl
  refine lv_aload_n (pc := 15) X.1 X.2.1 dX1_startOver_15 rfl (lv_at hl 0 rfl) ?_
  refine lv_iconst (pc := 16) (v := 0) X.1 X.2.1 dX1_startOver_16 (by decide) ?_
  obtain ⟨b10, eb10, h11⟩ := bd_some h8
  refine B_puti (pc := 17) (i := 57) (k := 8) (v := 0) X G9 eb10 rfl clX1 (okL57 _) (by decide) rfl rfl rfl rfl fl_X1_37 dX1_startOver_17 (fun H locs G12 => ?_)
  have nb10 : b10.2.2 = b7.2.2 := by rw [eb10]; rfl
  refine lv_aload_n (pc := 20) X.1 X.2.1 dX1_startOver_20 rfl (lv_at hl 0 rfl) ?_
  refine lv_iconst (pc := 21) (v := 0) X.1 X.2.1 dX1_startOver_21 (by decide) ?_
  obtain ⟨b13, eb13, h14⟩ := bd_some h11
  refine B_puti (pc := 22) (i := 57) (k := 9) (v := 0) X G12 eb13 rfl clX1 (okL57 _) (by decide) rfl rfl rfl rfl fl_X1_40 dX1_startOver_22 (fun H locs G15 => ?_)
  have nb13 : b13.2.2 = b10.2.2 := by rw [eb13]; rfl
  refine lv_aload_n (pc := 25) X.1 X.2.1 dX1_startOver_25 rfl (lv_at hl 0 rfl) ?_
  refine lv_iconst (pc := 26) (v := 0) X.1 X.2.1 dX1_startOver_26 (by decide) ?_
  obtain ⟨b16, eb16, h17⟩ := bd_some h14
  refine B_puti (pc := 27) (i := 57) (k := 10) (v := 0) X G15 eb16 rfl clX1 (okL57 _) (by decide) rfl rfl rfl rfl fl_X1_43 dX1_startOver_27 (fun H locs G18 => ?_)
  have nb16 : b16.2.2 = b13.2.2 := by rw [eb16]; rfl
  refine lv_aload_n (pc := 30) X.1 X.2.1 dX1_startOver_30 rfl (lv_at hl 0 rfl) ?_
  refine lv_iconst (pc := 31) (v := 0) X.1 X.2.1 dX1_startOver_31 (by decide) ?_
  obtain ⟨b19, eb19, h20⟩ := bd_some h17
  refine B_puti (pc := 32) (i := 57) (k := 11) (v := 0) X G18 eb19 rfl clX1 (okL57 _) (by decide) rfl rfl rfl rfl fl_X1_46 dX1_startOver_32 (fun H locs G21 => ?_)
  have nb19 : b19.2.2 = b16.2.2 := by rw [eb19]; rfl
  refine lv_aload_n (pc := 35) X.1 X.2.1 dX1_startOver_35 rfl (lv_at hl 0 rfl) ?_
  refine lv_iload_n (pc := 36) X.1 X.2.1 dX1_startOver_36 rfl (lv_at hl 1 rfl) ?_
  obtain ⟨hb24, h20_z⟩ := bz_some h20
  obtain ⟨b22, eb22, h23⟩ := bd_some h20_z
  refine B_putz (pc := 37) (i := 57) (k := 12) (v := p0) X G21 eb22 hb24 rfl clX1 (okL57 _) (by decide) rfl rfl rfl rfl fl_X1_49 dX1_startOver_37 (fun H locs G25 => ?_)
  have nb22 : b22.2.2 = b19.2.2 := by rw [eb22]; rfl
  refine lv_aload_n (pc := 40) X.1 X.2.1 dX1_startOver_40 rfl (lv_at hl 0 rfl) ?_
  refine lv_iconst (pc := 41) (v := 0) X.1 X.2.1 dX1_startOver_41 (by decide) ?_
  obtain ⟨hb28, h23_z⟩ := bz_some h23
  obtain ⟨b26, eb26, h27⟩ := bd_some h23_z
  refine B_putz (pc := 42) (i := 57) (k := 13) (v := 0) X G25 eb26 hb28 rfl clX1 (okL57 _) (by decide) rfl rfl rfl rfl fl_X1_53 dX1_startOver_42 (fun H locs G29 => ?_)
  have nb26 : b26.2.2 = b22.2.2 := by rw [eb26]; rfl
  have h27_i := Option.some.inj h27
  exact m_vret (pc := 45) X G29 hr hlk dX1_startOver_45 (congrArg (celB κ ad r0) h27_i)

abbrev rm1_setMark : Room := { frames := 0, cells := 0, slots := 0, locals := 0 }
noncomputable def F1_setMark (b : BS)  : Option (BS) :=
  jp (fun (_ : Unit) => bz 1 <|
  bd (setI b 57 13 1) fun b19 =>
  some b19) fun k1 =>
  if (b.1 57 6) < 0 then
  k1 ()
  else
  if (b.1 57 6) < 854 then
  wb b 59 854 (b.1 57 6) (b.1 57 5) fun b9 =>
  bd (setI b9 57 6 ((b9.1 57 6) + 1)) fun b12 =>
  some b12
  else
  k1 ()
set_option maxHeartbeats 4000000 in
set_option maxRecDepth 100000 in
theorem c1_setMark (l : Launch) (D : va_G) (κ : Nat → ClassId) (A : Nat → Prop) (ad : Nat → Nat) (r0 : Nat → Option va_E) (b : BS)  (res : BS) (h : F1_setMark b  = some res) : Met l yX1_setMark (gw yX1_setMark cX1_setMark 1 none) rm1_setMark (va_Pc [.ref (ad 57)] (MW D κ A ad (celB κ ad r0 b))) (QV D κ A ad (celB κ ad r0 res)) 0 0 A := by
  refine met_of (own := RX1) (by decide +kernel) rfl (Nat.le_of_ble_eq_true rfl) ?_
  intro p e s m below meth c ls X hr hlk G hl
  have hl : lv_has ls 1 [(0, .ref (ad 57))] := hl
  unfold F1_setMark at h
  refine lv_aload_n (pc := 0) X.1 X.2.1 dX1_setMark_0 rfl (lv_at hl 0 rfl) ?_
  refine B_geti (pc := 1) (i := 57) (k := 6) X G rfl clX1 (okL57 _) (by decide) rfl rfl fl_X1_31 dX1_setMark_1 ?_
  obtain ⟨k1, ek1, h2⟩ := jp_some h
  have hk1 : ∀  (H : Heap) (locs : List Loc) (ls : Array Slot), k1 () = some res → Mm D κ A ad (celB κ ad r0 b) s H locs → lv_has ls 1 [(0, .ref (ad 57))] → W p l e rm1_setMark s m [.ref (ad 57)].toArray below meth c H locs 0 0 (MQ below (QV D κ A ad (celB κ ad r0 res)) [.ref (ad 57)].toArray s 0 0 A) (F0 m 17 ls []) := by
    intro  H locs ls18 h15 G16 hl17
    rw [ek1] at h15
    try dsimp only at h15
    refine lv_aload_n (pc := 17) X.1 X.2.1 dX1_setMark_17 rfl (lv_at hl17 0 rfl) ?_
    refine lv_iconst (pc := 18) (v := 1) X.1 X.2.1 dX1_setMark_18 (by decide) ?_
    obtain ⟨hb21, h15_z⟩ := bz_some h15
    obtain ⟨b19, eb19, h20⟩ := bd_some h15_z
    refine B_putz (pc := 19) (i := 57) (k := 13) (v := 1) X G16 eb19 hb21 rfl clX1 (okL57 _) (by decide) rfl rfl rfl rfl fl_X1_53 dX1_setMark_19 (fun H locs G22 => ?_)
    have nb19 : b19.2.2 = b.2.2 := by rw [eb19]; rfl
    have h20_i := Option.some.inj h20
    exact m_vret (pc := 22) X G22 hr hlk dX1_setMark_22 (congrArg (celB κ ad r0) h20_i)
  refine lv_if_lt (pc := 4) (tgt := 17) X.1 X.2.1 dX1_setMark_4 (by decide) (fun hc3 => ?_) (fun hc3 => ?_)
  · have h4 := it_pos h2 hc3
    exact hk1  _ _ ls h4 G (lv_sub hl [0] rfl)
  · have h5 := it_neg h2 hc3
    refine lv_aload_n (pc := 7) X.1 X.2.1 dX1_setMark_7 rfl (lv_at hl 0 rfl) ?_
    refine B_geti (pc := 8) (i := 57) (k := 6) X G rfl clX1 (okL57 _) (by decide) rfl rfl fl_X1_31 dX1_setMark_8 ?_
    refine lv_sipush (pc := 11) (v := 854) X.1 X.2.1 dX1_setMark_11 (by decide) ?_
    refine lv_icmp_lt (pc := 14) (tgt := 23) X.1 X.2.1 dX1_setMark_14 (by decide) (fun hc6 => ?_) (fun hc6 => ?_)
    · have h7 := it_pos h5 hc6
      refine lv_aload_n (pc := 23) X.1 X.2.1 dX1_setMark_23 rfl (lv_at hl 0 rfl) ?_
      refine B_getc (pc := 24) (i := 57) (k := 1) (j := 59) X G rfl clX1 (okL57 _) (by decide) rfl fl_X1_15 dX1_setMark_24 ?_
      refine lv_aload_n (pc := 27) X.1 X.2.1 dX1_setMark_27 rfl (lv_at hl 0 rfl) ?_
      refine B_geti (pc := 28) (i := 57) (k := 6) X G rfl clX1 (okL57 _) (by decide) rfl rfl fl_X1_31 dX1_setMark_28 ?_
      refine lv_aload_n (pc := 31) X.1 X.2.1 dX1_setMark_31 rfl (lv_at hl 0 rfl) ?_
      refine B_geti (pc := 32) (i := 57) (k := 5) X G rfl clX1 (okL57 _) (by decide) rfl rfl fl_X1_27 dX1_setMark_32 ?_
      obtain ⟨hib9, b9, eb9, h10⟩ := wb_some h7
      refine B_iast (pc := 35) (i := 59) (n := 854) X G eb9 rfl (okL59 _) rfl hib9 dX1_setMark_35 (fun H locs G11 => ?_)
      have nb9 : b9.2.2 = b.2.2 := by rw [eb9]; rfl
      refine lv_aload_n (pc := 36) X.1 X.2.1 dX1_setMark_36 rfl (lv_at hl 0 rfl) ?_
      refine lv_dup (pc := 37) X.1 X.2.1 dX1_setMark_37 rfl ?_
      refine B_geti (pc := 38) (i := 57) (k := 6) X G11 rfl clX1 (okL57 _) (by decide) rfl rfl fl_X1_31 dX1_setMark_38 ?_
      refine lv_iconst (pc := 41) (v := 1) X.1 X.2.1 dX1_setMark_41 (by decide) ?_
      refine lv_iadd (pc := 42) X.1 X.2.1 dX1_setMark_42 ?_
      obtain ⟨b12, eb12, h13⟩ := bd_some h10
      refine B_puti (pc := 43) (i := 57) (k := 6) (v := ((b9.1 57 6) + 1)) X G11 eb12 rfl clX1 (okL57 _) (by decide) rfl rfl rfl rfl fl_X1_31 dX1_setMark_43 (fun H locs G14 => ?_)
      have nb12 : b12.2.2 = b9.2.2 := by rw [eb12]; rfl
      have h13_i := Option.some.inj h13
      exact m_vret (pc := 46) X G14 hr hlk dX1_setMark_46 (congrArg (celB κ ad r0) h13_i)
    · have h8 := it_neg h5 hc6
      exact hk1  _ _ ls h8 G (lv_sub hl [0] rfl)
