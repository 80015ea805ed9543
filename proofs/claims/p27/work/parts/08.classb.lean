/-! THE CLASS, laid by wip/whole/walkb.py -/
abbrev rm5_putDefinition : Room := { frames := 1, cells := 0, slots := 0, locals := 20 }
noncomputable def F5_putDefinition (b : BS) (i0 : Nat) (p0 : Int32) (p1 : Option Nat) : Option (BS) :=
  bn (F7_isLetter p0) fun x1 =>
  jp (fun (b14 : BS) => some b14) fun k4 =>
  if x1 = 0 then
  k4 b
  else
  ck (okB b.2.2 i0 5) <|
  woc b (i0 + 1) 26 p0 p1 6 fun b11 =>
  k4 b11
set_option maxHeartbeats 4000000 in
set_option maxRecDepth 100000 in
theorem c5_putDefinition (l : Launch) (D : va_G) (κ : Nat → ClassId) (A : Nat → Prop) (ad : Nat → Nat) (r0 : Nat → Option va_E) (b : BS) (i0 : Nat) (p0 : Int32) (p1 : Option Nat) (res : BS) (h : F5_putDefinition b i0 p0 p1 = some res) : Met l yX5_putDefinition (gw yX5_putDefinition cX5_putDefinition 3 none) rm5_putDefinition (va_Pc [.ref (ad i0), .int p0, va_rf (p1.map ad)] (MW D κ A ad (celB κ ad r0 b))) (QV D κ A ad (celB κ ad r0 res)) 0 0 A := by
  refine met_of (own := RX5) (by decide +kernel) rfl (by cases p1 <;> exact Nat.le_of_ble_eq_true rfl) ?_
  intro p e s m below meth c ls X hr hlk G hl
  have hl : lv_has ls 3 [(0, .ref (ad i0)), (1, .int p0), (2, va_rf (p1.map ad))] := hl
  unfold F5_putDefinition at h
  refine lv_iload_n (pc := 0) X.1 X.2.1 dX5_putDefinition_0 rfl (lv_at hl 1 rfl) ?_
  obtain ⟨x1, ex1, h2⟩ := bn_some h
  refine B_callsi (pc := 1) (v := x1) (host := RX7) (As := [.int p0]) (rest := []) X G (rm := rm7_isLetter) rfl rfl (c7_isLetter l D κ A ad (celB κ ad r0 b) p0 x1 ex1) (by decide +kernel) cd_yX7_isLetter sm_yX7_isLetter ini_X7 hs_yX7_isLetter ⟨Nat.le_of_ble_eq_true rfl, Nat.le_of_ble_eq_true rfl⟩ rfl hl rfl (lv_room (Nat.le_of_ble_eq_true rfl)) dX5_putDefinition_1 ⟨Nat.le_of_ble_eq_true rfl, Nat.le_of_ble_eq_true rfl⟩ (fun H locs G3 => ?_)
  obtain ⟨k4, ek4, h5⟩ := jp_some h2
  have hk4 : ∀ (b14 : BS) (H : Heap) (locs : List Loc) (ls : Array Slot), k4 b14 = some res → Mm D κ A ad (celB κ ad r0 b14) s H locs → lv_has ls 3 [] → W p l e rm5_putDefinition s m [.ref (ad i0), .int p0, va_rf (p1.map ad)].toArray below meth c H locs 0 0 (MQ below (QV D κ A ad (celB κ ad r0 res)) [.ref (ad i0), .int p0, va_rf (p1.map ad)].toArray s 0 0 A) (F0 m 14 ls []) := by
    intro b14 H locs ls18 h15 G16 hl17
    rw [ek4] at h15
    try dsimp only at h15
    have h15_i := Option.some.inj h15
    exact m_vret (pc := 14) X G16 hr hlk dX5_putDefinition_14 (congrArg (celB κ ad r0) h15_i)
  refine lv_if_eq (pc := 4) (tgt := 14) X.1 X.2.1 dX5_putDefinition_4 (by decide) (fun hc6 => ?_) (fun hc6 => ?_)
  · have h7 := it_pos h5 hc6
    exact hk4 b _ _ ls h7 G3 (lv_sub hl [] rfl)
  · have h8 := it_neg h5 hc6
    refine lv_aload_n (pc := 7) X.1 X.2.1 dX5_putDefinition_7 rfl (lv_at hl 0 rfl) ?_
    obtain ⟨ok9, h10⟩ := ck_some h8
    refine B_getc (pc := 8) (i := i0) (k := 0) (j := i0 + 1) X G3 rfl clX5 ok9 (by decide) rfl fl_X5_11 dX5_putDefinition_8 ?_
    refine lv_iload_n (pc := 11) X.1 X.2.1 dX5_putDefinition_11 rfl (lv_at hl 1 rfl) ?_
    refine lq_aload_n (pc := 12) X dX5_putDefinition_12 rfl (lv_at hl 2 rfl) ?_
    obtain ⟨hib11, hvb11, b11, eb11, h12⟩ := woc_some h10
    refine B_asto (pc := 13) (i := i0 + 1) (n := 26) (v := p1) X G3 eb11 rfl (ok5_arr ok9) (ln5_arr ok9) hib11 hvb11 dX5_putDefinition_13 (fun H locs G13 => ?_)
    have nb11 : b11.2.2 = b.2.2 := by rw [eb11]; rfl
    exact hk4 b11 _ _ ls h12 G13 (lv_sub hl [] rfl)

abbrev rm5_copyFrom : Room := { frames := 0, cells := 0, slots := 0, locals := 0 }
noncomputable def F5_copyFrom (b : BS) (i0 : Nat) (p0 : Nat) : Option (BS) :=
  Loop (fun (q : Int32 × BS) => (fun (x3 : Int32) (b4 : BS) =>
  if (26 : Int32) ≤ x3 then
  ck (okB b4.2.2 p0 5) <|
  bd (b4.2.1 p0 1) fun o14 =>
  ck (okB b4.2.2 i0 5) <|
  bd (setR b4 i0 1 o14) fun b18 =>
  bd (setI b18 i0 2 (b18.1 p0 2)) fun b21 =>
  bd (setI b21 i0 3 (b21.1 p0 3)) fun b24 =>
  bd (setI b24 i0 4 (b24.1 p0 4)) fun b27 =>
  some (.inr b27)
  else
  ck (okB b4.2.2 i0 5) <|
  ck (okB b4.2.2 p0 5) <|
  ro (b4.2.1 (p0 + 1)) 26 x3 fun o34 =>
  woc b4 (i0 + 1) 26 x3 o34 6 fun b36 =>
  bd (x3 + 1) fun x39 =>
  some (.inl (x39, b36))) q.1 q.2) (0, b)
set_option maxHeartbeats 4000000 in
set_option maxRecDepth 100000 in
theorem c5_copyFrom (l : Launch) (D : va_G) (κ : Nat → ClassId) (A : Nat → Prop) (ad : Nat → Nat) (r0 : Nat → Option va_E) (b : BS) (i0 : Nat) (p0 : Nat) (res : BS) (h : F5_copyFrom b i0 p0 = some res) : Met l yX5_copyFrom (gw yX5_copyFrom cX5_copyFrom 3 none) rm5_copyFrom (va_Pc [.ref (ad i0), .ref (ad p0)] (MW D κ A ad (celB κ ad r0 b))) (QV D κ A ad (celB κ ad r0 res)) 0 0 A := by
  refine met_of (own := RX5) (by decide +kernel) rfl (Nat.le_of_ble_eq_true rfl) ?_
  intro p e s m below meth c ls X hr hlk G hl
  have hl : lv_has ls 3 [(0, .ref (ad i0)), (1, .ref (ad p0))] := hl
  unfold F5_copyFrom at h
  refine lv_iconst (pc := 0) (v := 0) X.1 X.2.1 dX5_copyFrom_0 (by decide) ?_
  refine lv_istore_n (pc := 1) (lv' := [(2, .int 0), (0, .ref (ad i0)), (1, .ref (ad p0))]) X.1 X.2.1 dX5_copyFrom_1 rfl hl (by decide) rfl (fun ls1 hl2 => ?_)
  refine Loop_ind (P := fun (q : Int32 × BS) => ∀ (H : Heap) (locs : List Loc) (ls : Array Slot), Mm D κ A ad (celB κ ad r0 q.2) s H locs → lv_has ls 3 [(0, .ref (ad i0)), (1, .ref (ad p0)), (2, .int q.1)] → W p l e rm5_copyFrom s m [.ref (ad i0), .ref (ad p0)].toArray below meth c H locs 0 0 (MQ below (QV D κ A ad (celB κ ad r0 res)) [.ref (ad i0), .ref (ad p0)].toArray s 0 0 A) (F0 m 2 ls [])) ?_ h _ _ ls1 G (lv_sub hl2 [1, 2, 0] rfl)
  intro q y1 h5 ih1 hz1 H locs ls8 G6 hl7
  obtain ⟨x3, b4⟩ := q
  try dsimp only at h5 ih1 G6 hl7 ⊢
  refine lv_iload_n (pc := 2) X.1 X.2.1 dX5_copyFrom_2 rfl (lv_at hl7 2 rfl) ?_
  refine lv_bipush (pc := 3) (v := 26) X.1 X.2.1 dX5_copyFrom_3 (by decide) ?_
  refine lv_icmp_ge (pc := 5) (tgt := 26) X.1 X.2.1 dX5_copyFrom_5 (by decide) (fun hc9 => ?_) (fun hc9 => ?_)
  · have h10 := it_pos h5 hc9
    refine lv_aload_n (pc := 26) X.1 X.2.1 dX5_copyFrom_26 rfl (lv_at hl7 0 rfl) ?_
    refine lv_aload_n (pc := 27) X.1 X.2.1 dX5_copyFrom_27 rfl (lv_at hl7 1 rfl) ?_
    obtain ⟨ok12, h13⟩ := ck_some h10
    obtain ⟨o14, eo14, h15⟩ := bd_some h13
    refine B_getm (pc := 28) (i := p0) (k := 1) (o := o14) X G6 rfl clX5 ok12 (by decide) rfl rfl eo14 fl_X5_22 dX5_copyFrom_28 ?_
    obtain ⟨ok16, h17⟩ := ck_some h15
    obtain ⟨b18, eb18, h19⟩ := bd_some h17
    refine B_putm (pc := 31) (i := i0) (k := 1) (v := o14) X G6 eb18 rfl clX5 ok16 (by decide) rfl rfl rfl rfl fl_X5_22 dX5_copyFrom_31 (fun H locs G20 => ?_)
    have nb18 : b18.2.2 = b4.2.2 := by rw [eb18]; rfl
    refine lv_aload_n (pc := 34) X.1 X.2.1 dX5_copyFrom_34 rfl (lv_at hl7 0 rfl) ?_
    refine lv_aload_n (pc := 35) X.1 X.2.1 dX5_copyFrom_35 rfl (lv_at hl7 1 rfl) ?_
    refine B_geti (pc := 36) (i := p0) (k := 2) X G20 rfl clX5 (okB_eq nb18 ok12) (by decide) rfl rfl fl_X5_26 dX5_copyFrom_36 ?_
    obtain ⟨b21, eb21, h22⟩ := bd_some h19
    refine B_puti (pc := 39) (i := i0) (k := 2) (v := (b18.1 p0 2)) X G20 eb21 rfl clX5 (okB_eq nb18 ok16) (by decide) rfl rfl rfl rfl fl_X5_26 dX5_copyFrom_39 (fun H locs G23 => ?_)
    have nb21 : b21.2.2 = b18.2.2 := by rw [eb21]; rfl
    refine lv_aload_n (pc := 42) X.1 X.2.1 dX5_copyFrom_42 rfl (lv_at hl7 0 rfl) ?_
    refine lv_aload_n (pc := 43) X.1 X.2.1 dX5_copyFrom_43 rfl (lv_at hl7 1 rfl) ?_
    refine B_geti (pc := 44) (i := p0) (k := 3) X G23 rfl clX5 (okB_eq nb21 (okB_eq nb18 ok12)) (by decide) rfl rfl fl_X5_30 dX5_copyFrom_44 ?_
    obtain ⟨b24, eb24, h25⟩ := bd_some h22
    refine B_puti (pc := 47) (i := i0) (k := 3) (v := (b21.1 p0 3)) X G23 eb24 rfl clX5 (okB_eq nb21 (okB_eq nb18 ok16)) (by decide) rfl rfl rfl rfl fl_X5_30 dX5_copyFrom_47 (fun H locs G26 => ?_)
    have nb24 : b24.2.2 = b21.2.2 := by rw [eb24]; rfl
    refine lv_aload_n (pc := 50) X.1 X.2.1 dX5_copyFrom_50 rfl (lv_at hl7 0 rfl) ?_
    refine lv_aload_n (pc := 51) X.1 X.2.1 dX5_copyFrom_51 rfl (lv_at hl7 1 rfl) ?_
    refine B_geti (pc := 52) (i := p0) (k := 4) X G26 rfl clX5 (okB_eq nb24 (okB_eq nb21 (okB_eq nb18 ok12))) (by decide) rfl rfl fl_X5_33 dX5_copyFrom_52 ?_
    obtain ⟨b27, eb27, h28⟩ := bd_some h25
    refine B_puti (pc := 55) (i := i0) (k := 4) (v := (b24.1 p0 4)) X G26 eb27 rfl clX5 (okB_eq nb24 (okB_eq nb21 (okB_eq nb18 ok16))) (by decide) rfl rfl rfl rfl fl_X5_33 dX5_copyFrom_55 (fun H locs G29 => ?_)
    have nb27 : b27.2.2 = b24.2.2 := by rw [eb27]; rfl
    have h28_i := Option.some.inj h28
    have h28_i_1 := hz1 _ h28_i.symm
    exact m_vret (pc := 58) X G29 hr hlk dX5_copyFrom_58 (congrArg (celB κ ad r0) h28_i_1)
  · have h11 := it_neg h5 hc9
    refine lv_aload_n (pc := 8) X.1 X.2.1 dX5_copyFrom_8 rfl (lv_at hl7 0 rfl) ?_
    obtain ⟨ok30, h31⟩ := ck_some h11
    refine B_getc (pc := 9) (i := i0) (k := 0) (j := i0 + 1) X G6 rfl clX5 ok30 (by decide) rfl fl_X5_11 dX5_copyFrom_9 ?_
    refine lv_iload_n (pc := 12) X.1 X.2.1 dX5_copyFrom_12 rfl (lv_at hl7 2 rfl) ?_
    refine lv_aload_n (pc := 13) X.1 X.2.1 dX5_copyFrom_13 rfl (lv_at hl7 1 rfl) ?_
    obtain ⟨ok32, h33⟩ := ck_some h31
    refine B_getc (pc := 14) (i := p0) (k := 0) (j := p0 + 1) X G6 rfl clX5 ok32 (by decide) rfl fl_X5_11 dX5_copyFrom_14 ?_
    refine lv_iload_n (pc := 17) X.1 X.2.1 dX5_copyFrom_17 rfl (lv_at hl7 2 rfl) ?_
    obtain ⟨hio34, o34, eo34, h35⟩ := ro_some h33
    refine B_aldt (pc := 18) (i := p0 + 1) (n := 26) (o := o34) X G6 rfl (ok5_arr ok32) (ln5_arr ok32) hio34 eo34 dX5_copyFrom_18 ?_
    obtain ⟨hib36, hvb36, b36, eb36, h37⟩ := woc_some h35
    refine B_asto (pc := 19) (i := i0 + 1) (n := 26) (v := o34) X G6 eb36 rfl (ok5_arr ok30) (ln5_arr ok30) hib36 hvb36 dX5_copyFrom_19 (fun H locs G38 => ?_)
    have nb36 : b36.2.2 = b4.2.2 := by rw [eb36]; rfl
    obtain ⟨x39, ex39, h42⟩ := bd_some h37
    refine lv_iinc (pc := 20) (v := x39) (lv' := [(2, .int x39), (0, .ref (ad i0)), (1, .ref (ad p0))]) X.1 X.2.1 dX5_copyFrom_20 hl7 (k := 2) rfl (by rw [ex39]; rfl) (by decide) rfl (fun ls40 hl41 => ?_)
    refine lv_goto (pc := 23) (tgt := 2) X.1 X.2.1 dX5_copyFrom_23 (by decide) ?_
    have h42_i := Option.some.inj h42
    exact ih1 _ h42_i.symm _ _ ls40 G38 (lv_sub hl41 [1, 2, 0] rfl)

abbrev rm5_definedSet : Room := { frames := 0, cells := 0, slots := 0, locals := 0 }
noncomputable def F5_definedSet (b : BS) (i0 : Nat) : Option (Int32) :=
  Loop (fun (q : Int32 × Int32) => (fun (x5 : Int32) (x6 : Int32) =>
  if (26 : Int32) ≤ x6 then
  some (.inr x5)
  else
  ck (okB b.2.2 i0 5) <|
  ro (b.2.1 (i0 + 1)) 26 x6 fun o16 =>
  jp (fun (x31 : Int32) => bd (x6 + 1) fun x36 =>
  some (.inl (x31, x36))) fun k18 =>
  on o16 (k18 x5) fun t20 =>
  bd (x5 ||| ((1 : Int32) <<< (x6 &&& 31))) fun x27 =>
  k18 x27) q.1 q.2) (0, 0)
set_option maxHeartbeats 4000000 in
set_option maxRecDepth 100000 in
theorem c5_definedSet (l : Launch) (D : va_G) (κ : Nat → ClassId) (A : Nat → Prop) (ad : Nat → Nat) (r0 : Nat → Option va_E) (b : BS) (i0 : Nat) (res : Int32) (h : F5_definedSet b i0 = some res) : Met l yX5_definedSet (gw yX5_definedSet cX5_definedSet 3 (some (FieldType.int))) rm5_definedSet (va_Pc [.ref (ad i0)] (MW D κ A ad (celB κ ad r0 b))) (QI D κ A ad (celB κ ad r0 b) res) 0 0 A := by
  refine met_of (own := RX5) (by decide +kernel) rfl (Nat.le_of_ble_eq_true rfl) ?_
  intro p e s m below meth c ls X hr hlk G hl
  have hl : lv_has ls 3 [(0, .ref (ad i0))] := hl
  unfold F5_definedSet at h
  refine lv_iconst (pc := 0) (v := 0) X.1 X.2.1 dX5_definedSet_0 (by decide) ?_
  refine lv_istore_n (pc := 1) (lv' := [(1, .int 0), (0, .ref (ad i0))]) X.1 X.2.1 dX5_definedSet_1 rfl hl (by decide) rfl (fun ls1 hl2 => ?_)
  refine lv_iconst (pc := 2) (v := 0) X.1 X.2.1 dX5_definedSet_2 (by decide) ?_
  refine lv_istore_n (pc := 3) (lv' := [(2, .int 0), (1, .int 0), (0, .ref (ad i0))]) X.1 X.2.1 dX5_definedSet_3 rfl hl2 (by decide) rfl (fun ls3 hl4 => ?_)
  refine Loop_ind (P := fun (q : Int32 × Int32) => ∀ (H : Heap) (locs : List Loc) (ls : Array Slot), Mm D κ A ad (celB κ ad r0 b) s H locs → lv_has ls 3 [(0, .ref (ad i0)), (1, .int q.1), (2, .int q.2)] → W p l e rm5_definedSet s m [.ref (ad i0)].toArray below meth c H locs 0 0 (MQ below (QI D κ A ad (celB κ ad r0 b) res) [.ref (ad i0)].toArray s 0 0 A) (F0 m 4 ls [])) ?_ h _ _ ls3 G (lv_sub hl4 [2, 1, 0] rfl)
  intro q y1 h7 ih1 hz1 H locs ls10 G8 hl9
  obtain ⟨x5, x6⟩ := q
  try dsimp only at h7 ih1 G8 hl9 ⊢
  refine lv_iload_n (pc := 4) X.1 X.2.1 dX5_definedSet_4 rfl (lv_at hl9 2 rfl) ?_
  refine lv_bipush (pc := 5) (v := 26) X.1 X.2.1 dX5_definedSet_5 (by decide) ?_
  refine lv_icmp_ge (pc := 7) (tgt := 31) X.1 X.2.1 dX5_definedSet_7 (by decide) (fun hc11 => ?_) (fun hc11 => ?_)
  · have h12 := it_pos h7 hc11
    refine lv_iload_n (pc := 31) X.1 X.2.1 dX5_definedSet_31 rfl (lv_at hl9 1 rfl) ?_
    have h12_i := Option.some.inj h12
    have h12_i_1 := hz1 _ h12_i.symm
    exact m_iret (pc := 32) X G8 hr hlk dX5_definedSet_32 h12_i_1 rfl
  · have h13 := it_neg h7 hc11
    refine lv_aload_n (pc := 10) X.1 X.2.1 dX5_definedSet_10 rfl (lv_at hl9 0 rfl) ?_
    obtain ⟨ok14, h15⟩ := ck_some h13
    refine B_getc (pc := 11) (i := i0) (k := 0) (j := i0 + 1) X G8 rfl clX5 ok14 (by decide) rfl fl_X5_11 dX5_definedSet_11 ?_
    refine lv_iload_n (pc := 14) X.1 X.2.1 dX5_definedSet_14 rfl (lv_at hl9 2 rfl) ?_
    obtain ⟨hio16, o16, eo16, h17⟩ := ro_some h15
    refine B_aldt (pc := 15) (i := i0 + 1) (n := 26) (o := o16) X G8 rfl (ok5_arr ok14) (ln5_arr ok14) hio16 eo16 dX5_definedSet_15 ?_
    obtain ⟨k18, ek18, h19⟩ := jp_some h17
    have hk18 : ∀ (x31 : Int32) (H : Heap) (locs : List Loc) (ls : Array Slot), k18 x31 = some y1 → Mm D κ A ad (celB κ ad r0 b) s H locs → lv_has ls 3 [(0, .ref (ad i0)), (1, .int x31), (2, .int x6)] → W p l e rm5_definedSet s m [.ref (ad i0)].toArray below meth c H locs 0 0 (MQ below (QI D κ A ad (celB κ ad r0 b) res) [.ref (ad i0)].toArray s 0 0 A) (F0 m 25 ls []) := by
      intro x31 H locs ls35 h32 G33 hl34
      rw [ek18] at h32
      try dsimp only at h32
      obtain ⟨x36, ex36, h39⟩ := bd_some h32
      refine lv_iinc (pc := 25) (v := x36) (lv' := [(2, .int x36), (0, .ref (ad i0)), (1, .int x31)]) X.1 X.2.1 dX5_definedSet_25 hl34 (k := 2) rfl (by rw [ex36]; rfl) (by decide) rfl (fun ls37 hl38 => ?_)
      refine lv_goto (pc := 28) (tgt := 4) X.1 X.2.1 dX5_definedSet_28 (by decide) ?_
      have h39_i := Option.some.inj h39
      exact ih1 _ h39_i.symm _ _ ls37 G33 (lv_sub hl38 [1, 2, 0] rfl)
    rcases o16 with _ | t20
    · have h21 := on_n h19
      have hl23 : lv_has ls10 3 [(0, .ref (ad i0)), (1, .int x5), (2, .int x6)] := hl9
      refine lv_ifnullN (pc := 16) (tgt := 25) X.1 X.2.1 dX5_definedSet_16 (by decide) ?_
      exact hk18 x5 _ _ ls10 h21 G8 (lv_sub hl23 [0, 1, 2] rfl)
    · have h22 := on_s h19
      have hl24 : lv_has ls10 3 [(0, .ref (ad i0)), (1, .int x5), (2, .int x6)] := hl9
      refine lv_ifnull (pc := 16) (x := ad t20) X.1 X.2.1 dX5_definedSet_16 ?_
      refine lv_iload_n (pc := 19) X.1 X.2.1 dX5_definedSet_19 rfl (lv_at hl24 1 rfl) ?_
      refine lv_iconst (pc := 20) (v := 1) X.1 X.2.1 dX5_definedSet_20 (by decide) ?_
      refine lv_iload_n (pc := 21) X.1 X.2.1 dX5_definedSet_21 rfl (lv_at hl24 2 rfl) ?_
      refine lv_ishl (pc := 22) X.1 X.2.1 dX5_definedSet_22 ?_
      refine lv_ior (pc := 23) X.1 X.2.1 dX5_definedSet_23 ?_
      refine lv_topi (fun x27 ex27 => ?_)
      have h28 := bd_at h22 ex27
      refine lv_istore_n (pc := 24) (lv' := [(1, .int x27), (0, .ref (ad i0)), (2, .int x6)]) X.1 X.2.1 dX5_definedSet_24 rfl hl24 (by decide) rfl (fun ls29 hl30 => ?_)
      exact hk18 x27 _ _ ls29 h28 G8 (lv_sub hl30 [1, 0, 2] rfl)

abbrev rm5_callsOfBodies : Room := { frames := 0, cells := 0, slots := 0, locals := 0 }
noncomputable def F5_callsOfBodies (b : BS) (i0 : Nat) : Option (Int32) :=
  Loop (fun (q : Int32 × Int32) => (fun (x5 : Int32) (x6 : Int32) =>
  if (26 : Int32) ≤ x6 then
  some (.inr x5)
  else
  ck (okB b.2.2 i0 5) <|
  ro (b.2.1 (i0 + 1)) 26 x6 fun o16 =>
  jp (fun (x35 : Int32) => bd (x6 + 1) fun x40 =>
  some (.inl (x35, x40))) fun k20 =>
  on o16 (k20 x5) fun t22 =>
  ck (okB b.2.2 t22 6) <|
  bd (x5 + (b.1 t22 2)) fun x31 =>
  k20 x31) q.1 q.2) (0, 0)
set_option maxHeartbeats 4000000 in
set_option maxRecDepth 100000 in
theorem c5_callsOfBodies (l : Launch) (D : va_G) (κ : Nat → ClassId) (A : Nat → Prop) (ad : Nat → Nat) (r0 : Nat → Option va_E) (b : BS) (i0 : Nat) (res : Int32) (h : F5_callsOfBodies b i0 = some res) : Met l yX5_callsOfBodies (gw yX5_callsOfBodies cX5_callsOfBodies 4 (some (FieldType.int))) rm5_callsOfBodies (va_Pc [.ref (ad i0)] (MW D κ A ad (celB κ ad r0 b))) (QI D κ A ad (celB κ ad r0 b) res) 0 0 A := by
  refine met_of (own := RX5) (by decide +kernel) rfl (Nat.le_of_ble_eq_true rfl) ?_
  intro p e s m below meth c ls X hr hlk G hl
  have hl : lv_has ls 4 [(0, .ref (ad i0))] := hl
  unfold F5_callsOfBodies at h
  refine lv_iconst (pc := 0) (v := 0) X.1 X.2.1 dX5_callsOfBodies_0 (by decide) ?_
  refine lv_istore_n (pc := 1) (lv' := [(1, .int 0), (0, .ref (ad i0))]) X.1 X.2.1 dX5_callsOfBodies_1 rfl hl (by decide) rfl (fun ls1 hl2 => ?_)
  refine lv_iconst (pc := 2) (v := 0) X.1 X.2.1 dX5_callsOfBodies_2 (by decide) ?_
  refine lv_istore_n (pc := 3) (lv' := [(2, .int 0), (1, .int 0), (0, .ref (ad i0))]) X.1 X.2.1 dX5_callsOfBodies_3 rfl hl2 (by decide) rfl (fun ls3 hl4 => ?_)
  refine Loop_ind (P := fun (q : Int32 × Int32) => ∀ (H : Heap) (locs : List Loc) (ls : Array Slot), Mm D κ A ad (celB κ ad r0 b) s H locs → lv_has ls 4 [(0, .ref (ad i0)), (1, .int q.1), (2, .int q.2)] → W p l e rm5_callsOfBodies s m [.ref (ad i0)].toArray below meth c H locs 0 0 (MQ below (QI D κ A ad (celB κ ad r0 b) res) [.ref (ad i0)].toArray s 0 0 A) (F0 m 4 ls [])) ?_ h _ _ ls3 G (lv_sub hl4 [2, 1, 0] rfl)
  intro q y1 h7 ih1 hz1 H locs ls10 G8 hl9
  obtain ⟨x5, x6⟩ := q
  try dsimp only at h7 ih1 G8 hl9 ⊢
  refine lv_iload_n (pc := 4) X.1 X.2.1 dX5_callsOfBodies_4 rfl (lv_at hl9 2 rfl) ?_
  refine lv_bipush (pc := 5) (v := 26) X.1 X.2.1 dX5_callsOfBodies_5 (by decide) ?_
  refine lv_icmp_ge (pc := 7) (tgt := 34) X.1 X.2.1 dX5_callsOfBodies_7 (by decide) (fun hc11 => ?_) (fun hc11 => ?_)
  · have h12 := it_pos h7 hc11
    refine lv_iload_n (pc := 34) X.1 X.2.1 dX5_callsOfBodies_34 rfl (lv_at hl9 1 rfl) ?_
    have h12_i := Option.some.inj h12
    have h12_i_1 := hz1 _ h12_i.symm
    exact m_iret (pc := 35) X G8 hr hlk dX5_callsOfBodies_35 h12_i_1 rfl
  · have h13 := it_neg h7 hc11
    refine lv_aload_n (pc := 10) X.1 X.2.1 dX5_callsOfBodies_10 rfl (lv_at hl9 0 rfl) ?_
    obtain ⟨ok14, h15⟩ := ck_some h13
    refine B_getc (pc := 11) (i := i0) (k := 0) (j := i0 + 1) X G8 rfl clX5 ok14 (by decide) rfl fl_X5_11 dX5_callsOfBodies_11 ?_
    refine lv_iload_n (pc := 14) X.1 X.2.1 dX5_callsOfBodies_14 rfl (lv_at hl9 2 rfl) ?_
    obtain ⟨hio16, o16, eo16, h17⟩ := ro_some h15
    refine B_aldt (pc := 15) (i := i0 + 1) (n := 26) (o := o16) X G8 rfl (ok5_arr ok14) (ln5_arr ok14) hio16 eo16 dX5_callsOfBodies_15 ?_
    refine lq_astore_n (pc := 16) (lv' := [(3, va_rf (o16.map ad)), (0, .ref (ad i0)), (1, .int x5), (2, .int x6)]) X dX5_callsOfBodies_16 rfl hl9 (by decide) rfl (fun ls18 hl19 => ?_)
    refine lq_aload_n (pc := 17) X dX5_callsOfBodies_17 rfl (lv_at hl19 0 rfl) ?_
    obtain ⟨k20, ek20, h21⟩ := jp_some h17
    have hk20 : ∀ (x35 : Int32) (H : Heap) (locs : List Loc) (ls : Array Slot), k20 x35 = some y1 → Mm D κ A ad (celB κ ad r0 b) s H locs → lv_has ls 4 [(0, .ref (ad i0)), (1, .int x35), (2, .int x6)] → W p l e rm5_callsOfBodies s m [.ref (ad i0)].toArray below meth c H locs 0 0 (MQ below (QI D κ A ad (celB κ ad r0 b) res) [.ref (ad i0)].toArray s 0 0 A) (F0 m 28 ls []) := by
      intro x35 H locs ls39 h36 G37 hl38
      rw [ek20] at h36
      try dsimp only at h36
      obtain ⟨x40, ex40, h43⟩ := bd_some h36
      refine lv_iinc (pc := 28) (v := x40) (lv' := [(2, .int x40), (0, .ref (ad i0)), (1, .int x35)]) X.1 X.2.1 dX5_callsOfBodies_28 hl38 (k := 2) rfl (by rw [ex40]; rfl) (by decide) rfl (fun ls41 hl42 => ?_)
      refine lv_goto (pc := 31) (tgt := 4) X.1 X.2.1 dX5_callsOfBodies_31 (by decide) ?_
      have h43_i := Option.some.inj h43
      exact ih1 _ h43_i.symm _ _ ls41 G37 (lv_sub hl42 [1, 2, 0] rfl)
    rcases o16 with _ | t22
    · have h23 := on_n h21
      have hl25 : lv_has ls18 4 [(3, va_rf ((none : Option Nat).map ad)), (0, .ref (ad i0)), (1, .int x5), (2, .int x6)] := hl19
      refine lv_ifnullN (pc := 18) (tgt := 28) X.1 X.2.1 dX5_callsOfBodies_18 (by decide) ?_
      exact hk20 x5 _ _ ls18 h23 G8 (lv_sub hl25 [1, 2, 3] rfl)
    · have h24 := on_s h21
      have hl26 : lv_has ls18 4 [(3, .ref (ad t22)), (0, .ref (ad i0)), (1, .int x5), (2, .int x6)] := hl19
      refine lv_ifnull (pc := 18) (x := ad t22) X.1 X.2.1 dX5_callsOfBodies_18 ?_
      refine lv_iload_n (pc := 21) X.1 X.2.1 dX5_callsOfBodies_21 rfl (lv_at hl26 2 rfl) ?_
      refine lv_aload_n (pc := 22) X.1 X.2.1 dX5_callsOfBodies_22 rfl (lv_at hl26 0 rfl) ?_
      obtain ⟨ok29, h30⟩ := ck_some h24
      refine B_geti (pc := 23) (i := t22) (k := 2) X G8 rfl clX6 ok29 (by decide) rfl rfl fl_X5_50 dX5_callsOfBodies_23 ?_
      refine lv_iadd (pc := 26) X.1 X.2.1 dX5_callsOfBodies_26 ?_
      refine lv_topi (fun x31 ex31 => ?_)
      have h32 := bd_at h30 ex31
      refine lv_istore_n (pc := 27) (lv' := [(1, .int x31), (3, .ref (ad t22)), (0, .ref (ad i0)), (2, .int x6)]) X.1 X.2.1 dX5_callsOfBodies_27 rfl hl26 (by decide) rfl (fun ls33 hl34 => ?_)
      exact hk20 x31 _ _ ls33 h32 G8 (lv_sub hl34 [2, 0, 3] rfl)

abbrev rm5_holesOfBodies : Room := { frames := 0, cells := 0, slots := 0, locals := 0 }
noncomputable def F5_holesOfBodies (b : BS) (i0 : Nat) : Option (Int32) :=
  Loop (fun (q : Int32 × Int32) => (fun (x5 : Int32) (x6 : Int32) =>
  if (26 : Int32) ≤ x6 then
  some (.inr x5)
  else
  ck (okB b.2.2 i0 5) <|
  ro (b.2.1 (i0 + 1)) 26 x6 fun o16 =>
  jp (fun (x35 : Int32) => bd (x6 + 1) fun x40 =>
  some (.inl (x35, x40))) fun k20 =>
  on o16 (k20 x5) fun t22 =>
  ck (okB b.2.2 t22 6) <|
  bd (x5 + (b.1 t22 1)) fun x31 =>
  k20 x31) q.1 q.2) (0, 0)
set_option maxHeartbeats 4000000 in
set_option maxRecDepth 100000 in
theorem c5_holesOfBodies (l : Launch) (D : va_G) (κ : Nat → ClassId) (A : Nat → Prop) (ad : Nat → Nat) (r0 : Nat → Option va_E) (b : BS) (i0 : Nat) (res : Int32) (h : F5_holesOfBodies b i0 = some res) : Met l yX5_holesOfBodies (gw yX5_holesOfBodies cX5_holesOfBodies 4 (some (FieldType.int))) rm5_holesOfBodies (va_Pc [.ref (ad i0)] (MW D κ A ad (celB κ ad r0 b))) (QI D κ A ad (celB κ ad r0 b) res) 0 0 A := by
  refine met_of (own := RX5) (by decide +kernel) rfl (Nat.le_of_ble_eq_true rfl) ?_
  intro p e s m below meth c ls X hr hlk G hl
  have hl : lv_has ls 4 [(0, .ref (ad i0))] := hl
  unfold F5_holesOfBodies at h
  refine lv_iconst (pc := 0) (v := 0) X.1 X.2.1 dX5_holesOfBodies_0 (by decide) ?_
  refine lv_istore_n (pc := 1) (lv' := [(1, .int 0), (0, .ref (ad i0))]) X.1 X.2.1 dX5_holesOfBodies_1 rfl hl (by decide) rfl (fun ls1 hl2 => ?_)
  refine lv_iconst (pc := 2) (v := 0) X.1 X.2.1 dX5_holesOfBodies_2 (by decide) ?_
  refine lv_istore_n (pc := 3) (lv' := [(2, .int 0), (1, .int 0), (0, .ref (ad i0))]) X.1 X.2.1 dX5_holesOfBodies_3 rfl hl2 (by decide) rfl (fun ls3 hl4 => ?_)
  refine Loop_ind (P := fun (q : Int32 × Int32) => ∀ (H : Heap) (locs : List Loc) (ls : Array Slot), Mm D κ A ad (celB κ ad r0 b) s H locs → lv_has ls 4 [(0, .ref (ad i0)), (1, .int q.1), (2, .int q.2)] → W p l e rm5_holesOfBodies s m [.ref (ad i0)].toArray below meth c H locs 0 0 (MQ below (QI D κ A ad (celB κ ad r0 b) res) [.ref (ad i0)].toArray s 0 0 A) (F0 m 4 ls [])) ?_ h _ _ ls3 G (lv_sub hl4 [2, 1, 0] rfl)
  intro q y1 h7 ih1 hz1 H locs ls10 G8 hl9
  obtain ⟨x5, x6⟩ := q
  try dsimp only at h7 ih1 G8 hl9 ⊢
  refine lv_iload_n (pc := 4) X.1 X.2.1 dX5_holesOfBodies_4 rfl (lv_at hl9 2 rfl) ?_
  refine lv_bipush (pc := 5) (v := 26) X.1 X.2.1 dX5_holesOfBodies_5 (by decide) ?_
  refine lv_icmp_ge (pc := 7) (tgt := 34) X.1 X.2.1 dX5_holesOfBodies_7 (by decide) (fun hc11 => ?_) (fun hc11 => ?_)
  · have h12 := it_pos h7 hc11
    refine lv_iload_n (pc := 34) X.1 X.2.1 dX5_holesOfBodies_34 rfl (lv_at hl9 1 rfl) ?_
    have h12_i := Option.some.inj h12
    have h12_i_1 := hz1 _ h12_i.symm
    exact m_iret (pc := 35) X G8 hr hlk dX5_holesOfBodies_35 h12_i_1 rfl
  · have h13 := it_neg h7 hc11
    refine lv_aload_n (pc := 10) X.1 X.2.1 dX5_holesOfBodies_10 rfl (lv_at hl9 0 rfl) ?_
    obtain ⟨ok14, h15⟩ := ck_some h13
    refine B_getc (pc := 11) (i := i0) (k := 0) (j := i0 + 1) X G8 rfl clX5 ok14 (by decide) rfl fl_X5_11 dX5_holesOfBodies_11 ?_
    refine lv_iload_n (pc := 14) X.1 X.2.1 dX5_holesOfBodies_14 rfl (lv_at hl9 2 rfl) ?_
    obtain ⟨hio16, o16, eo16, h17⟩ := ro_some h15
    refine B_aldt (pc := 15) (i := i0 + 1) (n := 26) (o := o16) X G8 rfl (ok5_arr ok14) (ln5_arr ok14) hio16 eo16 dX5_holesOfBodies_15 ?_
    refine lq_astore_n (pc := 16) (lv' := [(3, va_rf (o16.map ad)), (0, .ref (ad i0)), (1, .int x5), (2, .int x6)]) X dX5_holesOfBodies_16 rfl hl9 (by decide) rfl (fun ls18 hl19 => ?_)
    refine lq_aload_n (pc := 17) X dX5_holesOfBodies_17 rfl (lv_at hl19 0 rfl) ?_
    obtain ⟨k20, ek20, h21⟩ := jp_some h17
    have hk20 : ∀ (x35 : Int32) (H : Heap) (locs : List Loc) (ls : Array Slot), k20 x35 = some y1 → Mm D κ A ad (celB κ ad r0 b) s H locs → lv_has ls 4 [(0, .ref (ad i0)), (1, .int x35), (2, .int x6)] → W p l e rm5_holesOfBodies s m [.ref (ad i0)].toArray below meth c H locs 0 0 (MQ below (QI D κ A ad (celB κ ad r0 b) res) [.ref (ad i0)].toArray s 0 0 A) (F0 m 28 ls []) := by
      intro x35 H locs ls39 h36 G37 hl38
      rw [ek20] at h36
      try dsimp only at h36
      obtain ⟨x40, ex40, h43⟩ := bd_some h36
      refine lv_iinc (pc := 28) (v := x40) (lv' := [(2, .int x40), (0, .ref (ad i0)), (1, .int x35)]) X.1 X.2.1 dX5_holesOfBodies_28 hl38 (k := 2) rfl (by rw [ex40]; rfl) (by decide) rfl (fun ls41 hl42 => ?_)
      refine lv_goto (pc := 31) (tgt := 4) X.1 X.2.1 dX5_holesOfBodies_31 (by decide) ?_
      have h43_i := Option.some.inj h43
      exact ih1 _ h43_i.symm _ _ ls41 G37 (lv_sub hl42 [1, 2, 0] rfl)
    rcases o16 with _ | t22
    · have h23 := on_n h21
      have hl25 : lv_has ls18 4 [(3, va_rf ((none : Option Nat).map ad)), (0, .ref (ad i0)), (1, .int x5), (2, .int x6)] := hl19
      refine lv_ifnullN (pc := 18) (tgt := 28) X.1 X.2.1 dX5_holesOfBodies_18 (by decide) ?_
      exact hk20 x5 _ _ ls18 h23 G8 (lv_sub hl25 [1, 2, 3] rfl)
    · have h24 := on_s h21
      have hl26 : lv_has ls18 4 [(3, .ref (ad t22)), (0, .ref (ad i0)), (1, .int x5), (2, .int x6)] := hl19
      refine lv_ifnull (pc := 18) (x := ad t22) X.1 X.2.1 dX5_holesOfBodies_18 ?_
      refine lv_iload_n (pc := 21) X.1 X.2.1 dX5_holesOfBodies_21 rfl (lv_at hl26 2 rfl) ?_
      refine lv_aload_n (pc := 22) X.1 X.2.1 dX5_holesOfBodies_22 rfl (lv_at hl26 0 rfl) ?_
      obtain ⟨ok29, h30⟩ := ck_some h24
      refine B_geti (pc := 23) (i := t22) (k := 1) X G8 rfl clX6 ok29 (by decide) rfl rfl fl_X5_53 dX5_holesOfBodies_23 ?_
      refine lv_iadd (pc := 26) X.1 X.2.1 dX5_holesOfBodies_26 ?_
      refine lv_topi (fun x31 ex31 => ?_)
      have h32 := bd_at h30 ex31
      refine lv_istore_n (pc := 27) (lv' := [(1, .int x31), (3, .ref (ad t22)), (0, .ref (ad i0)), (2, .int x6)]) X.1 X.2.1 dX5_holesOfBodies_27 rfl hl26 (by decide) rfl (fun ls33 hl34 => ?_)
      exact hk20 x31 _ _ ls33 h32 G8 (lv_sub hl34 [2, 0, 3] rfl)

abbrev rm3_listedCalls : Room := { frames := 0, cells := 0, slots := 0, locals := 0 }
noncomputable def F3_listedCalls (b : BS) (i0 : Nat) : Option (Int32) :=
  ck (okB b.2.2 i0 3) <|
  some ((nI (lnB b.2.2 (i0 + 2))) / 6)
set_option maxHeartbeats 4000000 in
set_option maxRecDepth 100000 in
theorem c3_listedCalls (l : Launch) (D : va_G) (κ : Nat → ClassId) (A : Nat → Prop) (ad : Nat → Nat) (r0 : Nat → Option va_E) (b : BS) (i0 : Nat) (res : Int32) (h : F3_listedCalls b i0 = some res) : Met l yX3_listedCalls (gw yX3_listedCalls cX3_listedCalls 1 (some (FieldType.int))) rm3_listedCalls (va_Pc [.ref (ad i0)] (MW D κ A ad (celB κ ad r0 b))) (QI D κ A ad (celB κ ad r0 b) res) 0 0 A := by
  refine met_of (own := RX3) (by decide +kernel) rfl (Nat.le_of_ble_eq_true rfl) ?_
  intro p e s m below meth c ls X hr hlk G hl
  have hl : lv_has ls 1 [(0, .ref (ad i0))] := hl
  unfold F3_listedCalls at h
  refine lv_aload_n (pc := 0) X.1 X.2.1 dX3_listedCalls_0 rfl (lv_at hl 0 rfl) ?_
  obtain ⟨ok1, h2⟩ := ck_some h
  refine B_getc (pc := 1) (i := i0) (k := 3) (j := i0 + 2) X G rfl clX3 ok1 (by decide) rfl fl_X3_15 dX3_listedCalls_1 ?_
  refine B_alen (pc := 4) (i := i0 + 2) (n := (lnB b.2.2 (i0 + 2))) X G rfl (ok3_arr2 ok1) rfl dX3_listedCalls_4 ?_
  refine lv_bipush (pc := 5) (v := 6) X.1 X.2.1 dX3_listedCalls_5 (by decide) ?_
  refine lv_idiv (pc := 7) X.1 X.2.1 dX3_listedCalls_7 (by decide) ?_
  have h2_i := Option.some.inj h2
  exact m_iret (pc := 8) X G hr hlk dX3_listedCalls_8 h2_i rfl

abbrev rm3_occurrencesOf : Room := { frames := 0, cells := 0, slots := 0, locals := 0 }
noncomputable def F3_occurrencesOf (b : BS) (i0 : Nat) (p0 : Int32) : Option (Int32) :=
  Loop (fun (q : Int32 × Int32) => (fun (x5 : Int32) (x6 : Int32) =>
  ck (okB b.2.2 i0 3) <|
  if (nI (lnB b.2.2 (i0 + 1))) ≤ x6 then
  some (.inr x5)
  else
  rd (b.1 (i0 + 1)) (lnB b.2.2 (i0 + 1)) x6 fun x16 =>
  jp (fun (x27 : Int32) => bd (x6 + 1) fun x32 =>
  some (.inl (x27, x32))) fun k18 =>
  if ¬ x16 = p0 then
  k18 x5
  else
  bd (x5 + 1) fun x23 =>
  k18 x23) q.1 q.2) (0, 0)
set_option maxHeartbeats 4000000 in
set_option maxRecDepth 100000 in
theorem c3_occurrencesOf (l : Launch) (D : va_G) (κ : Nat → ClassId) (A : Nat → Prop) (ad : Nat → Nat) (r0 : Nat → Option va_E) (b : BS) (i0 : Nat) (p0 : Int32) (res : Int32) (h : F3_occurrencesOf b i0 p0 = some res) : Met l yX3_occurrencesOf (gw yX3_occurrencesOf cX3_occurrencesOf 4 (some (FieldType.int))) rm3_occurrencesOf (va_Pc [.ref (ad i0), .int p0] (MW D κ A ad (celB κ ad r0 b))) (QI D κ A ad (celB κ ad r0 b) res) 0 0 A := by
  refine met_of (own := RX3) (by decide +kernel) rfl (Nat.le_of_ble_eq_true rfl) ?_
  intro p e s m below meth c ls X hr hlk G hl
  have hl : lv_has ls 4 [(0, .ref (ad i0)), (1, .int p0)] := hl
  unfold F3_occurrencesOf at h
  refine lv_iconst (pc := 0) (v := 0) X.1 X.2.1 dX3_occurrencesOf_0 (by decide) ?_
  refine lv_istore_n (pc := 1) (lv' := [(2, .int 0), (0, .ref (ad i0)), (1, .int p0)]) X.1 X.2.1 dX3_occurrencesOf_1 rfl hl (by decide) rfl (fun ls1 hl2 => ?_)
  refine lv_iconst (pc := 2) (v := 0) X.1 X.2.1 dX3_occurrencesOf_2 (by decide) ?_
  refine lv_istore_n (pc := 3) (lv' := [(3, .int 0), (2, .int 0), (0, .ref (ad i0)), (1, .int p0)]) X.1 X.2.1 dX3_occurrencesOf_3 rfl hl2 (by decide) rfl (fun ls3 hl4 => ?_)
  refine Loop_ind (P := fun (q : Int32 × Int32) => ∀ (H : Heap) (locs : List Loc) (ls : Array Slot), Mm D κ A ad (celB κ ad r0 b) s H locs → lv_has ls 4 [(0, .ref (ad i0)), (1, .int p0), (2, .int q.1), (3, .int q.2)] → W p l e rm3_occurrencesOf s m [.ref (ad i0), .int p0].toArray below meth c H locs 0 0 (MQ below (QI D κ A ad (celB κ ad r0 b) res) [.ref (ad i0), .int p0].toArray s 0 0 A) (F0 m 4 ls [])) ?_ h _ _ ls3 G (lv_sub hl4 [2, 3, 1, 0] rfl)
  intro q y1 h7 ih1 hz1 H locs ls10 G8 hl9
  obtain ⟨x5, x6⟩ := q
  try dsimp only at h7 ih1 G8 hl9 ⊢
  refine lv_iload_n (pc := 4) X.1 X.2.1 dX3_occurrencesOf_4 rfl (lv_at hl9 3 rfl) ?_
  refine lv_aload_n (pc := 5) X.1 X.2.1 dX3_occurrencesOf_5 rfl (lv_at hl9 0 rfl) ?_
  obtain ⟨ok11, h12⟩ := ck_some h7
  refine B_getc (pc := 6) (i := i0) (k := 0) (j := i0 + 1) X G8 rfl clX3 ok11 (by decide) rfl fl_X3_9 dX3_occurrencesOf_6 ?_
  refine B_alen (pc := 9) (i := i0 + 1) (n := (lnB b.2.2 (i0 + 1))) X G8 rfl (ok3_arr ok11) rfl dX3_occurrencesOf_9 ?_
  refine lv_icmp_ge (pc := 10) (tgt := 32) X.1 X.2.1 dX3_occurrencesOf_10 (by decide) (fun hc13 => ?_) (fun hc13 => ?_)
  · have h14 := it_pos h12 hc13
    refine lv_iload_n (pc := 32) X.1 X.2.1 dX3_occurrencesOf_32 rfl (lv_at hl9 2 rfl) ?_
    have h14_i := Option.some.inj h14
    have h14_i_1 := hz1 _ h14_i.symm
    exact m_iret (pc := 33) X G8 hr hlk dX3_occurrencesOf_33 h14_i_1 rfl
  · have h15 := it_neg h12 hc13
    refine lv_aload_n (pc := 13) X.1 X.2.1 dX3_occurrencesOf_13 rfl (lv_at hl9 0 rfl) ?_
    refine B_getc (pc := 14) (i := i0) (k := 0) (j := i0 + 1) X G8 rfl clX3 ok11 (by decide) rfl fl_X3_9 dX3_occurrencesOf_14 ?_
    refine lv_iload_n (pc := 17) X.1 X.2.1 dX3_occurrencesOf_17 rfl (lv_at hl9 3 rfl) ?_
    have h15_r := rd_some h15
    refine B_iald (pc := 18) (i := i0 + 1) (n := (lnB b.2.2 (i0 + 1))) X G8 rfl (ok3_arr ok11) rfl h15_r.1 dX3_occurrencesOf_18 ?_
    refine lv_topi (fun x16 ex16 => ?_)
    have h17 := h15_r.2
    rw [← ex16] at h17
    refine lv_iload_n (pc := 19) X.1 X.2.1 dX3_occurrencesOf_19 rfl (lv_at hl9 1 rfl) ?_
    obtain ⟨k18, ek18, h19⟩ := jp_some h17
    have hk18 : ∀ (x27 : Int32) (H : Heap) (locs : List Loc) (ls : Array Slot), k18 x27 = some y1 → Mm D κ A ad (celB κ ad r0 b) s H locs → lv_has ls 4 [(0, .ref (ad i0)), (1, .int p0), (2, .int x27), (3, .int x6)] → W p l e rm3_occurrencesOf s m [.ref (ad i0), .int p0].toArray below meth c H locs 0 0 (MQ below (QI D κ A ad (celB κ ad r0 b) res) [.ref (ad i0), .int p0].toArray s 0 0 A) (F0 m 26 ls []) := by
      intro x27 H locs ls31 h28 G29 hl30
      rw [ek18] at h28
      try dsimp only at h28
      obtain ⟨x32, ex32, h35⟩ := bd_some h28
      refine lv_iinc (pc := 26) (v := x32) (lv' := [(3, .int x32), (0, .ref (ad i0)), (1, .int p0), (2, .int x27)]) X.1 X.2.1 dX3_occurrencesOf_26 hl30 (k := 3) rfl (by rw [ex32]; rfl) (by decide) rfl (fun ls33 hl34 => ?_)
      refine lv_goto (pc := 29) (tgt := 4) X.1 X.2.1 dX3_occurrencesOf_29 (by decide) ?_
      have h35_i := Option.some.inj h35
      exact ih1 _ h35_i.symm _ _ ls33 G29 (lv_sub hl34 [1, 2, 3, 0] rfl)
    refine lv_icmp_ne (pc := 20) (tgt := 26) X.1 X.2.1 dX3_occurrencesOf_20 (by decide) (fun hc20 => ?_) (fun hc20 => ?_)
    · have h21 := it_pos h19 hc20
      exact hk18 x5 _ _ ls10 h21 G8 (lv_sub hl9 [0, 1, 2, 3] rfl)
    · have h22 := it_neg h19 (fun q => q hc20)
      obtain ⟨x23, ex23, h26⟩ := bd_some h22
      refine lv_iinc (pc := 23) (v := x23) (lv' := [(2, .int x23), (0, .ref (ad i0)), (1, .int p0), (3, .int x6)]) X.1 X.2.1 dX3_occurrencesOf_23 hl9 (k := 2) rfl (by rw [ex23]; rfl) (by decide) rfl (fun ls24 hl25 => ?_)
      exact hk18 x23 _ _ ls24 h26 G8 (lv_sub hl25 [1, 2, 0, 3] rfl)

abbrev rm3_numberOfCall : Room := { frames := 1, cells := 0, slots := 0, locals := 20 }
noncomputable def F3_numberOfCall (b : BS) (i0 : Nat) (p0 : Int32) (p1 : Int32) : Option (Int32) :=
  jp (fun (_ : Unit) => some (-1)) fun k1 =>
  if p0 < 0 then
  k1 ()
  else
  ck (okB b.2.2 i0 3) <|
  bn (F3_listedCalls b i0) fun x10 =>
  if x10 ≤ p0 then
  k1 ()
  else
  if p1 < 0 then
  k1 ()
  else
  if p1 < 6 then
  rd (b.1 (i0 + 2)) (lnB b.2.2 (i0 + 2)) ((p0 * 6) + p1) fun x20 =>
  some x20
  else
  k1 ()
set_option maxHeartbeats 4000000 in
set_option maxRecDepth 100000 in
theorem c3_numberOfCall (l : Launch) (D : va_G) (κ : Nat → ClassId) (A : Nat → Prop) (ad : Nat → Nat) (r0 : Nat → Option va_E) (b : BS) (i0 : Nat) (p0 : Int32) (p1 : Int32) (res : Int32) (h : F3_numberOfCall b i0 p0 p1 = some res) : Met l yX3_numberOfCall (gw yX3_numberOfCall cX3_numberOfCall 3 (some (FieldType.int))) rm3_numberOfCall (va_Pc [.ref (ad i0), .int p0, .int p1] (MW D κ A ad (celB κ ad r0 b))) (QI D κ A ad (celB κ ad r0 b) res) 0 0 A := by
  refine met_of (own := RX3) (by decide +kernel) rfl (Nat.le_of_ble_eq_true rfl) ?_
  intro p e s m below meth c ls X hr hlk G hl
  have hl : lv_has ls 3 [(0, .ref (ad i0)), (1, .int p0), (2, .int p1)] := hl
  unfold F3_numberOfCall at h
  refine lv_iload_n (pc := 0) X.1 X.2.1 dX3_numberOfCall_0 rfl (lv_at hl 1 rfl) ?_
  obtain ⟨k1, ek1, h2⟩ := jp_some h
  have hk1 : ∀  (H : Heap) (locs : List Loc) (ls : Array Slot), k1 () = some res → Mm D κ A ad (celB κ ad r0 b) s H locs → lv_has ls 3 [] → W p l e rm3_numberOfCall s m [.ref (ad i0), .int p0, .int p1].toArray below meth c H locs 0 0 (MQ below (QI D κ A ad (celB κ ad r0 b) res) [.ref (ad i0), .int p0, .int p1].toArray s 0 0 A) (F0 m 22 ls []) := by
    intro  H locs ls25 h22 G23 hl24
    rw [ek1] at h22
    try dsimp only at h22
    refine lv_iconst (pc := 22) (v := (-1)) X.1 X.2.1 dX3_numberOfCall_22 (by decide) ?_
    have h22_i := Option.some.inj h22
    exact m_iret (pc := 23) X G23 hr hlk dX3_numberOfCall_23 h22_i rfl
  refine lv_if_lt (pc := 1) (tgt := 22) X.1 X.2.1 dX3_numberOfCall_1 (by decide) (fun hc3 => ?_) (fun hc3 => ?_)
  · have h4 := it_pos h2 hc3
    exact hk1  _ _ ls h4 G (lv_sub hl [] rfl)
  · have h5 := it_neg h2 hc3
    refine lv_iload_n (pc := 4) X.1 X.2.1 dX3_numberOfCall_4 rfl (lv_at hl 1 rfl) ?_
    refine lv_aload_n (pc := 5) X.1 X.2.1 dX3_numberOfCall_5 rfl (lv_at hl 0 rfl) ?_
    obtain ⟨ok6, h7⟩ := ck_some h5
    obtain ⟨x10, ex10, h8⟩ := bn_some h7
    refine B_calli (pc := 6) (v := x10) (M' := (celB κ ad r0 b)) (i := i0) (As := []) (rest := [.int p0]) X G (rm := rm3_listedCalls) rfl rfl rfl (c3_listedCalls l D κ A ad r0 b i0 x10 ex10) (B_rcv (ci := 3) ok6 (by decide)) rfl g_X3_25 hd_yX3_listedCalls ⟨Nat.le_of_ble_eq_true rfl, Nat.le_of_ble_eq_true rfl⟩ rfl hl rfl (lv_room (Nat.le_of_ble_eq_true rfl)) dX3_numberOfCall_6 ⟨Nat.le_of_ble_eq_true rfl, Nat.le_of_ble_eq_true rfl⟩ (fun H locs G9 => ?_)
    refine lv_icmp_ge (pc := 9) (tgt := 22) X.1 X.2.1 dX3_numberOfCall_9 (by decide) (fun hc11 => ?_) (fun hc11 => ?_)
    · have h12 := it_pos h8 hc11
      exact hk1  _ _ ls h12 G9 (lv_sub hl [] rfl)
    · have h13 := it_neg h8 hc11
      refine lv_iload_n (pc := 12) X.1 X.2.1 dX3_numberOfCall_12 rfl (lv_at hl 2 rfl) ?_
      refine lv_if_lt (pc := 13) (tgt := 22) X.1 X.2.1 dX3_numberOfCall_13 (by decide) (fun hc14 => ?_) (fun hc14 => ?_)
      · have h15 := it_pos h13 hc14
        exact hk1  _ _ ls h15 G9 (lv_sub hl [] rfl)
      · have h16 := it_neg h13 hc14
        refine lv_iload_n (pc := 16) X.1 X.2.1 dX3_numberOfCall_16 rfl (lv_at hl 2 rfl) ?_
        refine lv_bipush (pc := 17) (v := 6) X.1 X.2.1 dX3_numberOfCall_17 (by decide) ?_
        refine lv_icmp_lt (pc := 19) (tgt := 24) X.1 X.2.1 dX3_numberOfCall_19 (by decide) (fun hc17 => ?_) (fun hc17 => ?_)
        · have h18 := it_pos h16 hc17
          refine lv_aload_n (pc := 24) X.1 X.2.1 dX3_numberOfCall_24 rfl (lv_at hl 0 rfl) ?_
          refine B_getc (pc := 25) (i := i0) (k := 3) (j := i0 + 2) X G9 rfl clX3 ok6 (by decide) rfl fl_X3_15 dX3_numberOfCall_25 ?_
          refine lv_iload_n (pc := 28) X.1 X.2.1 dX3_numberOfCall_28 rfl (lv_at hl 1 rfl) ?_
          refine lv_bipush (pc := 29) (v := 6) X.1 X.2.1 dX3_numberOfCall_29 (by decide) ?_
          refine lv_imul (pc := 31) X.1 X.2.1 dX3_numberOfCall_31 ?_
          refine lv_iload_n (pc := 32) X.1 X.2.1 dX3_numberOfCall_32 rfl (lv_at hl 2 rfl) ?_
          refine lv_iadd (pc := 33) X.1 X.2.1 dX3_numberOfCall_33 ?_
          have h18_r := rd_some h18
          refine B_iald (pc := 34) (i := i0 + 2) (n := (lnB b.2.2 (i0 + 2))) X G9 rfl (ok3_arr2 ok6) rfl h18_r.1 dX3_numberOfCall_34 ?_
          refine lv_topi (fun x20 ex20 => ?_)
          have h21 := h18_r.2
          rw [← ex20] at h21
          have h21_i := Option.some.inj h21
          exact m_iret (pc := 35) X G9 hr hlk dX3_numberOfCall_35 h21_i rfl
        · have h19 := it_neg h16 hc17
          exact hk1  _ _ ls h19 G9 (lv_sub hl [] rfl)

abbrev rm0_holds : Room := { frames := 1, cells := 0, slots := 0, locals := 20 }
noncomputable def F0_holds (p0 : Int32) (p1 : Int32) : Option (Int32) :=
  bn (F7_isLetter p1) fun x1 =>
  jp (fun (x18 : Int32) => bz x18 (some x18)) fun k4 =>
  jp (fun (_ : Unit) => k4 0) fun k6 =>
  if x1 = 0 then
  k6 ()
  else
  if (p0 &&& ((1 : Int32) <<< (p1 &&& 31))) = 0 then
  k6 ()
  else
  k4 1
set_option maxHeartbeats 4000000 in
set_option maxRecDepth 100000 in
theorem c0_holds (l : Launch) (D : va_G) (κ : Nat → ClassId) (A : Nat → Prop) (ad : Nat → Nat) (M : Nat → Option va_E) (p0 : Int32) (p1 : Int32) (res : Int32) (h : F0_holds p0 p1 = some res) : Met l yX0_holds (gw yX0_holds cX0_holds 2 (some (FieldType.boolean))) rm0_holds (va_Pc [.int p0, .int p1] (MW D κ A ad M)) (QI D κ A ad M res) 0 0 A := by
  refine met_of (own := RX0) (by decide +kernel) rfl (Nat.le_of_ble_eq_true rfl) ?_
  intro p e s m below meth c ls X hr hlk G hl
  have hl : lv_has ls 2 [(0, .int p0), (1, .int p1)] := hl
  unfold F0_holds at h
  refine lv_iload_n (pc := 0) X.1 X.2.1 dX0_holds_0 rfl (lv_at hl 1 rfl) ?_
  obtain ⟨x1, ex1, h2⟩ := bn_some h
  refine B_callsi (pc := 1) (v := x1) (host := RX7) (As := [.int p1]) (rest := []) X G (rm := rm7_isLetter) rfl rfl (c7_isLetter l D κ A ad M p1 x1 ex1) (by decide +kernel) cd_yX7_isLetter sm_yX7_isLetter ini_X7 hs_yX7_isLetter ⟨Nat.le_of_ble_eq_true rfl, Nat.le_of_ble_eq_true rfl⟩ rfl hl rfl (lv_room (Nat.le_of_ble_eq_true rfl)) dX0_holds_1 ⟨Nat.le_of_ble_eq_true rfl, Nat.le_of_ble_eq_true rfl⟩ (fun H locs G3 => ?_)
  obtain ⟨k4, ek4, h5⟩ := jp_some h2
  have hk4 : ∀ (x18 : Int32) (H : Heap) (locs : List Loc) (ls : Array Slot), k4 x18 = some res → Mm D κ A ad M s H locs → lv_has ls 2 [] → W p l e rm0_holds s m [.int p0, .int p1].toArray below meth c H locs 0 0 (MQ below (QI D κ A ad M res) [.int p0, .int p1].toArray s 0 0 A) (F0 m 20 ls [.int x18]) := by
    intro x18 H locs ls22 h19 G20 hl21
    rw [ek4] at h19
    try dsimp only at h19
    obtain ⟨hb, h19_b⟩ := bz_some h19
    have h19_b_i := Option.some.inj h19_b
    exact m_zret (pc := 20) X G20 hr hlk dX0_holds_20 hb h19_b_i rfl
  obtain ⟨k6, ek6, h7⟩ := jp_some h5
  have hk6 : ∀  (H : Heap) (locs : List Loc) (ls : Array Slot), k6 () = some res → Mm D κ A ad M s H locs → lv_has ls 2 [] → W p l e rm0_holds s m [.int p0, .int p1].toArray below meth c H locs 0 0 (MQ below (QI D κ A ad M res) [.int p0, .int p1].toArray s 0 0 A) (F0 m 19 ls []) := by
    intro  H locs ls17 h14 G15 hl16
    rw [ek6] at h14
    try dsimp only at h14
    refine lv_iconst (pc := 19) (v := 0) X.1 X.2.1 dX0_holds_19 (by decide) ?_
    exact hk4 0 _ _ ls17 h14 G15 (lv_sub hl16 [] rfl)
  refine lv_if_eq (pc := 4) (tgt := 19) X.1 X.2.1 dX0_holds_4 (by decide) (fun hc8 => ?_) (fun hc8 => ?_)
  · have h9 := it_pos h7 hc8
    exact hk6  _ _ ls h9 G3 (lv_sub hl [] rfl)
  · have h10 := it_neg h7 hc8
    refine lv_iload_n (pc := 7) X.1 X.2.1 dX0_holds_7 rfl (lv_at hl 0 rfl) ?_
    refine lv_iconst (pc := 8) (v := 1) X.1 X.2.1 dX0_holds_8 (by decide) ?_
    refine lv_iload_n (pc := 9) X.1 X.2.1 dX0_holds_9 rfl (lv_at hl 1 rfl) ?_
    refine lv_ishl (pc := 10) X.1 X.2.1 dX0_holds_10 ?_
    refine lv_iand (pc := 11) X.1 X.2.1 dX0_holds_11 ?_
    refine lv_if_eq (pc := 12) (tgt := 19) X.1 X.2.1 dX0_holds_12 (by decide) (fun hc11 => ?_) (fun hc11 => ?_)
    · have h12 := it_pos h10 hc11
      exact hk6  _ _ ls h12 G3 (lv_sub hl [] rfl)
    · have h13 := it_neg h10 hc11
      refine lv_iconst (pc := 15) (v := 1) X.1 X.2.1 dX0_holds_15 (by decide) ?_
      refine lv_goto (pc := 16) (tgt := 20) X.1 X.2.1 dX0_holds_16 (by decide) ?_
      exact hk4 1 _ _ ls h13 G3 (lv_sub hl [] rfl)

abbrev rm0_calledInBodiesOf : Room := { frames := 2, cells := 0, slots := 0, locals := 41 }
noncomputable def F0_calledInBodiesOf (b : BS) (p0 : Int32) : Option (Int32) :=
  Loop (fun (q : Int32 × Int32) => (fun (x5 : Int32) (x6 : Int32) =>
  if (26 : Int32) ≤ x6 then
  some (.inr x5)
  else
  bn (F0_holds p0 x6) fun x14 =>
  jp (fun (x28 : Int32) => bd (x6 + 1) fun x33 =>
  some (.inl (x28, x33))) fun k17 =>
  if x14 = 0 then
  k17 x5
  else
  rd (b.1 55) 26 x6 fun x22 =>
  bd (x5 ||| x22) fun x24 =>
  k17 x24) q.1 q.2) (0, 0)
set_option maxHeartbeats 4000000 in
set_option maxRecDepth 100000 in
theorem c0_calledInBodiesOf (l : Launch) (D : va_G) (κ : Nat → ClassId) (A : Nat → Prop) (ad : Nat → Nat) (r0 : Nat → Option va_E) (b : BS) (p0 : Int32) (res : Int32) (h : F0_calledInBodiesOf b p0 = some res) : Met l yX0_calledInBodiesOf (gw yX0_calledInBodiesOf cX0_calledInBodiesOf 4 (some (FieldType.int))) rm0_calledInBodiesOf (va_Pc [.ref (ad 54), .int p0] (MW D κ A ad (celB κ ad r0 b))) (QI D κ A ad (celB κ ad r0 b) res) 0 0 A := by
  refine met_of (own := RX0) (by decide +kernel) rfl (Nat.le_of_ble_eq_true rfl) ?_
  intro p e s m below meth c ls X hr hlk G hl
  have hl : lv_has ls 4 [(0, .ref (ad 54)), (1, .int p0)] := hl
  unfold F0_calledInBodiesOf at h
  refine lv_iconst (pc := 0) (v := 0) X.1 X.2.1 dX0_calledInBodiesOf_0 (by decide) ?_
  refine lv_istore_n (pc := 1) (lv' := [(2, .int 0), (0, .ref (ad 54)), (1, .int p0)]) X.1 X.2.1 dX0_calledInBodiesOf_1 rfl hl (by decide) rfl (fun ls1 hl2 => ?_)
  refine lv_iconst (pc := 2) (v := 0) X.1 X.2.1 dX0_calledInBodiesOf_2 (by decide) ?_
  refine lv_istore_n (pc := 3) (lv' := [(3, .int 0), (2, .int 0), (0, .ref (ad 54)), (1, .int p0)]) X.1 X.2.1 dX0_calledInBodiesOf_3 rfl hl2 (by decide) rfl (fun ls3 hl4 => ?_)
  refine Loop_ind (P := fun (q : Int32 × Int32) => ∀ (H : Heap) (locs : List Loc) (ls : Array Slot), Mm D κ A ad (celB κ ad r0 b) s H locs → lv_has ls 4 [(0, .ref (ad 54)), (1, .int p0), (2, .int q.1), (3, .int q.2)] → W p l e rm0_calledInBodiesOf s m [.ref (ad 54), .int p0].toArray below meth c H locs 0 0 (MQ below (QI D κ A ad (celB κ ad r0 b) res) [.ref (ad 54), .int p0].toArray s 0 0 A) (F0 m 4 ls [])) ?_ h _ _ ls3 G (lv_sub hl4 [2, 3, 1, 0] rfl)
  intro q y1 h7 ih1 hz1 H locs ls10 G8 hl9
  obtain ⟨x5, x6⟩ := q
  try dsimp only at h7 ih1 G8 hl9 ⊢
  refine lv_iload_n (pc := 4) X.1 X.2.1 dX0_calledInBodiesOf_4 rfl (lv_at hl9 3 rfl) ?_
  refine lv_bipush (pc := 5) (v := 26) X.1 X.2.1 dX0_calledInBodiesOf_5 (by decide) ?_
  refine lv_icmp_ge (pc := 7) (tgt := 33) X.1 X.2.1 dX0_calledInBodiesOf_7 (by decide) (fun hc11 => ?_) (fun hc11 => ?_)
  · have h12 := it_pos h7 hc11
    refine lv_iload_n (pc := 33) X.1 X.2.1 dX0_calledInBodiesOf_33 rfl (lv_at hl9 2 rfl) ?_
    have h12_i := Option.some.inj h12
    have h12_i_1 := hz1 _ h12_i.symm
    exact m_iret (pc := 34) X G8 hr hlk dX0_calledInBodiesOf_34 h12_i_1 rfl
  · have h13 := it_neg h7 hc11
    refine lv_iload_n (pc := 10) X.1 X.2.1 dX0_calledInBodiesOf_10 rfl (lv_at hl9 1 rfl) ?_
    refine lv_iload_n (pc := 11) X.1 X.2.1 dX0_calledInBodiesOf_11 rfl (lv_at hl9 3 rfl) ?_
    obtain ⟨x14, ex14, h15⟩ := bn_some h13
    refine m_callsi0 (pc := 12) (v := x14) (As := [.int p0, .int x6]) (rest := []) X G8 (rm := rm0_holds) rfl rfl (c0_holds l D κ A ad (celB κ ad r0 b) p0 x6 x14 ex14) g_X0_43 hs_yX0_holds ⟨Nat.le_of_ble_eq_true rfl, Nat.le_of_ble_eq_true rfl⟩ rfl hl9 rfl (lv_room (Nat.le_of_ble_eq_true rfl)) dX0_calledInBodiesOf_12 ⟨Nat.le_of_ble_eq_true rfl, Nat.le_of_ble_eq_true rfl⟩ (fun H locs G16 => ?_)
    obtain ⟨k17, ek17, h18⟩ := jp_some h15
    have hk17 : ∀ (x28 : Int32) (H : Heap) (locs : List Loc) (ls : Array Slot), k17 x28 = some y1 → Mm D κ A ad (celB κ ad r0 b) s H locs → lv_has ls 4 [(0, .ref (ad 54)), (1, .int p0), (2, .int x28), (3, .int x6)] → W p l e rm0_calledInBodiesOf s m [.ref (ad 54), .int p0].toArray below meth c H locs 0 0 (MQ below (QI D κ A ad (celB κ ad r0 b) res) [.ref (ad 54), .int p0].toArray s 0 0 A) (F0 m 27 ls []) := by
      intro x28 H locs ls32 h29 G30 hl31
      rw [ek17] at h29
      try dsimp only at h29
      obtain ⟨x33, ex33, h36⟩ := bd_some h29
      refine lv_iinc (pc := 27) (v := x33) (lv' := [(3, .int x33), (0, .ref (ad 54)), (1, .int p0), (2, .int x28)]) X.1 X.2.1 dX0_calledInBodiesOf_27 hl31 (k := 3) rfl (by rw [ex33]; rfl) (by decide) rfl (fun ls34 hl35 => ?_)
      refine lv_goto (pc := 30) (tgt := 4) X.1 X.2.1 dX0_calledInBodiesOf_30 (by decide) ?_
      have h36_i := Option.some.inj h36
      exact ih1 _ h36_i.symm _ _ ls34 G30 (lv_sub hl35 [1, 2, 3, 0] rfl)
    refine lv_if_eq (pc := 15) (tgt := 27) X.1 X.2.1 dX0_calledInBodiesOf_15 (by decide) (fun hc19 => ?_) (fun hc19 => ?_)
    · have h20 := it_pos h18 hc19
      exact hk17 x5 _ _ ls10 h20 G16 (lv_sub hl9 [0, 1, 2, 3] rfl)
    · have h21 := it_neg h18 hc19
      refine lv_iload_n (pc := 18) X.1 X.2.1 dX0_calledInBodiesOf_18 rfl (lv_at hl9 2 rfl) ?_
      refine lv_aload_n (pc := 19) X.1 X.2.1 dX0_calledInBodiesOf_19 rfl (lv_at hl9 0 rfl) ?_
      refine B_getc (pc := 20) (i := 54) (k := 0) (j := 55) X G16 rfl clX0 (okL54 _) (by decide) rfl fl_X0_9 dX0_calledInBodiesOf_20 ?_
      refine lv_iload_n (pc := 23) X.1 X.2.1 dX0_calledInBodiesOf_23 rfl (lv_at hl9 3 rfl) ?_
      have h21_r := rd_some h21
      refine B_iald (pc := 24) (i := 55) (n := 26) X G16 rfl (okL55 _) rfl h21_r.1 dX0_calledInBodiesOf_24 ?_
      refine lv_topi (fun x22 ex22 => ?_)
      have h23 := h21_r.2
      rw [← ex22] at h23
      refine lv_ior (pc := 25) X.1 X.2.1 dX0_calledInBodiesOf_25 ?_
      refine lv_topi (fun x24 ex24 => ?_)
      have h25 := bd_at h23 ex24
      refine lv_istore_n (pc := 26) (lv' := [(2, .int x24), (0, .ref (ad 54)), (1, .int p0), (3, .int x6)]) X.1 X.2.1 dX0_calledInBodiesOf_26 rfl hl9 (by decide) rfl (fun ls26 hl27 => ?_)
      exact hk17 x24 _ _ ls26 h25 G16 (lv_sub hl27 [1, 2, 0, 3] rfl)

abbrev rm0_followCalls : Room := { frames := 2, cells := 0, slots := 0, locals := 41 }
noncomputable def F0_followCalls (b : BS)  : Option (BS) :=
  Loop (fun (q : Int32 × BS) => (fun (x3 : Int32) (b4 : BS) =>
  if (26 : Int32) ≤ x3 then
  Loop (fun (q : Int32 × BS) => (fun (x14 : Int32) (b15 : BS) =>
  if (26 : Int32) ≤ x14 then
  some (.inr (.inr b15))
  else
  Loop (fun (q : Int32 × BS) => (fun (x25 : Int32) (b26 : BS) =>
  if (26 : Int32) ≤ x25 then
  bd (x14 + 1) fun x34 =>
  some (.inr (.inl (x34, b26)))
  else
  rd (b26.1 56) 26 x25 fun x38 =>
  bn (F0_holds x38 x14) fun x40 =>
  jp (fun (b55 : BS) => bd (x25 + 1) fun x60 =>
  some (.inl (x60, b55))) fun k43 =>
  if x40 = 0 then
  k43 b26
  else
  rd (b26.1 56) 26 x25 fun x48 =>
  rd (b26.1 56) 26 x14 fun x50 =>
  wb b26 56 26 x25 (x48 ||| x50) fun b52 =>
  k43 b52) q.1 q.2) (0, b15)) q.1 q.2) (0, b4)
  else
  rd (b4.1 55) 26 x3 fun x64 =>
  wb b4 56 26 x3 x64 fun b66 =>
  bd (x3 + 1) fun x69 =>
  some (.inl (x69, b66))) q.1 q.2) (0, b)
set_option maxHeartbeats 4000000 in
set_option maxRecDepth 100000 in
theorem c0_followCalls (l : Launch) (D : va_G) (κ : Nat → ClassId) (A : Nat → Prop) (ad : Nat → Nat) (r0 : Nat → Option va_E) (b : BS)  (res : BS) (h : F0_followCalls b  = some res) : Met l yX0_followCalls (gw yX0_followCalls cX0_followCalls 3 none) rm0_followCalls (va_Pc [.ref (ad 54)] (MW D κ A ad (celB κ ad r0 b))) (QV D κ A ad (celB κ ad r0 res)) 0 0 A := by
  refine met_of (own := RX0) (by decide +kernel) rfl (Nat.le_of_ble_eq_true rfl) ?_
  intro p e s m below meth c ls X hr hlk G hl
  have hl : lv_has ls 3 [(0, .ref (ad 54))] := hl
  unfold F0_followCalls at h
  refine lv_iconst (pc := 0) (v := 0) X.1 X.2.1 dX0_followCalls_0 (by decide) ?_
  refine lv_istore_n (pc := 1) (lv' := [(1, .int 0), (0, .ref (ad 54))]) X.1 X.2.1 dX0_followCalls_1 rfl hl (by decide) rfl (fun ls1 hl2 => ?_)
  refine Loop_ind (P := fun (q : Int32 × BS) => ∀ (H : Heap) (locs : List Loc) (ls : Array Slot), Mm D κ A ad (celB κ ad r0 q.2) s H locs → lv_has ls 3 [(0, .ref (ad 54)), (1, .int q.1)] → W p l e rm0_followCalls s m [.ref (ad 54)].toArray below meth c H locs 0 0 (MQ below (QV D κ A ad (celB κ ad r0 res)) [.ref (ad 54)].toArray s 0 0 A) (F0 m 2 ls [])) ?_ h _ _ ls1 G (lv_sub hl2 [1, 0] rfl)
  intro q y1 h5 ih1 hz1 H locs ls8 G6 hl7
  obtain ⟨x3, b4⟩ := q
  try dsimp only at h5 ih1 G6 hl7 ⊢
  refine lv_iload_n (pc := 2) X.1 X.2.1 dX0_followCalls_2 rfl (lv_at hl7 1 rfl) ?_
  refine lv_bipush (pc := 3) (v := 26) X.1 X.2.1 dX0_followCalls_3 (by decide) ?_
  refine lv_icmp_ge (pc := 5) (tgt := 26) X.1 X.2.1 dX0_followCalls_5 (by decide) (fun hc9 => ?_) (fun hc9 => ?_)
  · have h10 := it_pos h5 hc9
    refine lv_iconst (pc := 26) (v := 0) X.1 X.2.1 dX0_followCalls_26 (by decide) ?_
    refine lv_istore_n (pc := 27) (lv' := [(1, .int 0), (0, .ref (ad 54))]) X.1 X.2.1 dX0_followCalls_27 rfl hl7 (by decide) rfl (fun ls12 hl13 => ?_)
    refine Loop_ind (P := fun (q : Int32 × BS) => ∀ (H : Heap) (locs : List Loc) (ls : Array Slot), Mm D κ A ad (celB κ ad r0 q.2) s H locs → lv_has ls 3 [(0, .ref (ad 54)), (1, .int q.1)] → W p l e rm0_followCalls s m [.ref (ad 54)].toArray below meth c H locs 0 0 (MQ below (QV D κ A ad (celB κ ad r0 res)) [.ref (ad 54)].toArray s 0 0 A) (F0 m 28 ls [])) ?_ h10 _ _ ls12 G6 (lv_sub hl13 [1, 0] rfl)
    intro q y2 h16 ih2 hz2 H locs ls19 G17 hl18
    obtain ⟨x14, b15⟩ := q
    try dsimp only at h16 ih2 G17 hl18 ⊢
    refine lv_iload_n (pc := 28) X.1 X.2.1 dX0_followCalls_28 rfl (lv_at hl18 1 rfl) ?_
    refine lv_bipush (pc := 29) (v := 26) X.1 X.2.1 dX0_followCalls_29 (by decide) ?_
    refine lv_icmp_ge (pc := 31) (tgt := 82) X.1 X.2.1 dX0_followCalls_31 (by decide) (fun hc20 => ?_) (fun hc20 => ?_)
    · have h21 := it_pos h16 hc20
      have h21_i := Option.some.inj h21
      have h21_i_2 := hz2 _ h21_i.symm
      have h21_i_2_1 := hz1 _ h21_i_2.symm
      exact m_vret (pc := 82) X G17 hr hlk dX0_followCalls_82 (congrArg (celB κ ad r0) h21_i_2_1)
    · have h22 := it_neg h16 hc20
      refine lv_iconst (pc := 34) (v := 0) X.1 X.2.1 dX0_followCalls_34 (by decide) ?_
      refine lv_istore_n (pc := 35) (lv' := [(2, .int 0), (0, .ref (ad 54)), (1, .int x14)]) X.1 X.2.1 dX0_followCalls_35 rfl hl18 (by decide) rfl (fun ls23 hl24 => ?_)
      refine Loop_ind (P := fun (q : Int32 × BS) => ∀ (H : Heap) (locs : List Loc) (ls : Array Slot), Mm D κ A ad (celB κ ad r0 q.2) s H locs → lv_has ls 3 [(0, .ref (ad 54)), (1, .int x14), (2, .int q.1)] → W p l e rm0_followCalls s m [.ref (ad 54)].toArray below meth c H locs 0 0 (MQ below (QV D κ A ad (celB κ ad r0 res)) [.ref (ad 54)].toArray s 0 0 A) (F0 m 36 ls [])) ?_ h22 _ _ ls23 G17 (lv_sub hl24 [1, 2, 0] rfl)
      intro q y3 h27 ih3 hz3 H locs ls30 G28 hl29
      obtain ⟨x25, b26⟩ := q
      try dsimp only at h27 ih3 G28 hl29 ⊢
      refine lv_iload_n (pc := 36) X.1 X.2.1 dX0_followCalls_36 rfl (lv_at hl29 2 rfl) ?_
      refine lv_bipush (pc := 37) (v := 26) X.1 X.2.1 dX0_followCalls_37 (by decide) ?_
      refine lv_icmp_ge (pc := 39) (tgt := 76) X.1 X.2.1 dX0_followCalls_39 (by decide) (fun hc31 => ?_) (fun hc31 => ?_)
      · have h32 := it_pos h27 hc31
        obtain ⟨x34, ex34, h37⟩ := bd_some h32
        refine lv_iinc (pc := 76) (v := x34) (lv' := [(1, .int x34), (0, .ref (ad 54)), (2, .int x25)]) X.1 X.2.1 dX0_followCalls_76 hl29 (k := 1) rfl (by rw [ex34]; rfl) (by decide) rfl (fun ls35 hl36 => ?_)
        refine lv_goto (pc := 79) (tgt := 28) X.1 X.2.1 dX0_followCalls_79 (by decide) ?_
        have h37_i := Option.some.inj h37
        have h37_i_3 := hz3 _ h37_i.symm
        exact ih2 _ h37_i_3.symm _ _ ls35 G28 (lv_sub hl36 [1, 0] rfl)
      · have h33 := it_neg h27 hc31
        refine lv_aload_n (pc := 42) X.1 X.2.1 dX0_followCalls_42 rfl (lv_at hl29 0 rfl) ?_
        refine B_getc (pc := 43) (i := 54) (k := 1) (j := 56) X G28 rfl clX0 (okL54 _) (by decide) rfl fl_X0_15 dX0_followCalls_43 ?_
        refine lv_iload_n (pc := 46) X.1 X.2.1 dX0_followCalls_46 rfl (lv_at hl29 2 rfl) ?_
        have h33_r := rd_some h33
        refine B_iald (pc := 47) (i := 56) (n := 26) X G28 rfl (okL56 _) rfl h33_r.1 dX0_followCalls_47 ?_
        refine lv_topi (fun x38 ex38 => ?_)
        have h39 := h33_r.2
        rw [← ex38] at h39
        refine lv_iload_n (pc := 48) X.1 X.2.1 dX0_followCalls_48 rfl (lv_at hl29 1 rfl) ?_
        obtain ⟨x40, ex40, h41⟩ := bn_some h39
        refine m_callsi0 (pc := 49) (v := x40) (As := [.int x38, .int x14]) (rest := []) X G28 (rm := rm0_holds) rfl rfl (c0_holds l D κ A ad (celB κ ad r0 b26) x38 x14 x40 ex40) g_X0_43 hs_yX0_holds ⟨Nat.le_of_ble_eq_true rfl, Nat.le_of_ble_eq_true rfl⟩ rfl hl29 rfl (lv_room (Nat.le_of_ble_eq_true rfl)) dX0_followCalls_49 ⟨Nat.le_of_ble_eq_true rfl, Nat.le_of_ble_eq_true rfl⟩ (fun H locs G42 => ?_)
        obtain ⟨k43, ek43, h44⟩ := jp_some h41
        have hk43 : ∀ (b55 : BS) (H : Heap) (locs : List Loc) (ls : Array Slot), k43 b55 = some y3 → Mm D κ A ad (celB κ ad r0 b55) s H locs → lv_has ls 3 [(0, .ref (ad 54)), (1, .int x14), (2, .int x25)] → W p l e rm0_followCalls s m [.ref (ad 54)].toArray below meth c H locs 0 0 (MQ below (QV D κ A ad (celB κ ad r0 res)) [.ref (ad 54)].toArray s 0 0 A) (F0 m 70 ls []) := by
          intro b55 H locs ls59 h56 G57 hl58
          rw [ek43] at h56
          try dsimp only at h56
          obtain ⟨x60, ex60, h63⟩ := bd_some h56
          refine lv_iinc (pc := 70) (v := x60) (lv' := [(2, .int x60), (0, .ref (ad 54)), (1, .int x14)]) X.1 X.2.1 dX0_followCalls_70 hl58 (k := 2) rfl (by rw [ex60]; rfl) (by decide) rfl (fun ls61 hl62 => ?_)
          refine lv_goto (pc := 73) (tgt := 36) X.1 X.2.1 dX0_followCalls_73 (by decide) ?_
          have h63_i := Option.some.inj h63
          exact ih3 _ h63_i.symm _ _ ls61 G57 (lv_sub hl62 [1, 2, 0] rfl)
        refine lv_if_eq (pc := 52) (tgt := 70) X.1 X.2.1 dX0_followCalls_52 (by decide) (fun hc45 => ?_) (fun hc45 => ?_)
        · have h46 := it_pos h44 hc45
          exact hk43 b26 _ _ ls30 h46 G42 (lv_sub hl29 [0, 1, 2] rfl)
        · have h47 := it_neg h44 hc45
          refine lv_aload_n (pc := 55) X.1 X.2.1 dX0_followCalls_55 rfl (lv_at hl29 0 rfl) ?_
          refine B_getc (pc := 56) (i := 54) (k := 1) (j := 56) X G42 rfl clX0 (okL54 _) (by decide) rfl fl_X0_15 dX0_followCalls_56 ?_
          refine lv_iload_n (pc := 59) X.1 X.2.1 dX0_followCalls_59 rfl (lv_at hl29 2 rfl) ?_
          refine lv_dup2_11 (pc := 60) X.1 X.2.1 dX0_followCalls_60 rfl rfl ?_
          have h47_r := rd_some h47
          refine B_iald (pc := 61) (i := 56) (n := 26) X G42 rfl (okL56 _) rfl h47_r.1 dX0_followCalls_61 ?_
          refine lv_topi (fun x48 ex48 => ?_)
          have h49 := h47_r.2
          rw [← ex48] at h49
          refine lv_aload_n (pc := 62) X.1 X.2.1 dX0_followCalls_62 rfl (lv_at hl29 0 rfl) ?_
          refine B_getc (pc := 63) (i := 54) (k := 1) (j := 56) X G42 rfl clX0 (okL54 _) (by decide) rfl fl_X0_15 dX0_followCalls_63 ?_
          refine lv_iload_n (pc := 66) X.1 X.2.1 dX0_followCalls_66 rfl (lv_at hl29 1 rfl) ?_
          have h49_r := rd_some h49
          refine B_iald (pc := 67) (i := 56) (n := 26) X G42 rfl (okL56 _) rfl h49_r.1 dX0_followCalls_67 ?_
          refine lv_topi (fun x50 ex50 => ?_)
          have h51 := h49_r.2
          rw [← ex50] at h51
          refine lv_ior (pc := 68) X.1 X.2.1 dX0_followCalls_68 ?_
          obtain ⟨hib52, b52, eb52, h53⟩ := wb_some h51
          refine B_iast (pc := 69) (i := 56) (n := 26) X G42 eb52 rfl (okL56 _) rfl hib52 dX0_followCalls_69 (fun H locs G54 => ?_)
          have nb52 : b52.2.2 = b26.2.2 := by rw [eb52]; rfl
          exact hk43 b52 _ _ ls30 h53 G54 (lv_sub hl29 [0, 1, 2] rfl)
  · have h11 := it_neg h5 hc9
    refine lv_aload_n (pc := 8) X.1 X.2.1 dX0_followCalls_8 rfl (lv_at hl7 0 rfl) ?_
    refine B_getc (pc := 9) (i := 54) (k := 1) (j := 56) X G6 rfl clX0 (okL54 _) (by decide) rfl fl_X0_15 dX0_followCalls_9 ?_
    refine lv_iload_n (pc := 12) X.1 X.2.1 dX0_followCalls_12 rfl (lv_at hl7 1 rfl) ?_
    refine lv_aload_n (pc := 13) X.1 X.2.1 dX0_followCalls_13 rfl (lv_at hl7 0 rfl) ?_
    refine B_getc (pc := 14) (i := 54) (k := 0) (j := 55) X G6 rfl clX0 (okL54 _) (by decide) rfl fl_X0_9 dX0_followCalls_14 ?_
    refine lv_iload_n (pc := 17) X.1 X.2.1 dX0_followCalls_17 rfl (lv_at hl7 1 rfl) ?_
    have h11_r := rd_some h11
    refine B_iald (pc := 18) (i := 55) (n := 26) X G6 rfl (okL55 _) rfl h11_r.1 dX0_followCalls_18 ?_
    refine lv_topi (fun x64 ex64 => ?_)
    have h65 := h11_r.2
    rw [← ex64] at h65
    obtain ⟨hib66, b66, eb66, h67⟩ := wb_some h65
    refine B_iast (pc := 19) (i := 56) (n := 26) X G6 eb66 rfl (okL56 _) rfl hib66 dX0_followCalls_19 (fun H locs G68 => ?_)
    have nb66 : b66.2.2 = b4.2.2 := by rw [eb66]; rfl
    obtain ⟨x69, ex69, h72⟩ := bd_some h67
    refine lv_iinc (pc := 20) (v := x69) (lv' := [(1, .int x69), (0, .ref (ad 54))]) X.1 X.2.1 dX0_followCalls_20 hl7 (k := 1) rfl (by rw [ex69]; rfl) (by decide) rfl (fun ls70 hl71 => ?_)
    refine lv_goto (pc := 23) (tgt := 2) X.1 X.2.1 dX0_followCalls_23 (by decide) ?_
    have h72_i := Option.some.inj h72
    exact ih1 _ h72_i.symm _ _ ls70 G68 (lv_sub hl71 [1, 0] rfl)

abbrev rm0_takeFrom : Room := { frames := 2, cells := 0, slots := 0, locals := 41 }
noncomputable def F0_takeFrom (b : BS) (p0 : Nat) : Option (BS) :=
  ck (okB b.2.2 p0 5) <|
  bn (F5_definedSet b p0) fun x5 =>
  bd (setI b 54 2 x5) fun b6 =>
  Loop (fun (q : Int32 × BS) => (fun (x11 : Int32) (b12 : BS) =>
  if (26 : Int32) ≤ x11 then
  some (.inr b12)
  else
  ck (okB b12.2.2 p0 5) <|
  bn (F5_definitionOf b12 p0 x11) fun o24 =>
  jp (fun (x38 : Int32) => wb b12 55 26 x11 x38 fun b43 =>
  bd (x11 + 1) fun x46 =>
  some (.inl (x46, b43))) fun k27 =>
  on o24 (k27 0) fun t29 =>
  ck (okB b12.2.2 t29 6) <|
  k27 (b12.1 t29 6)) q.1 q.2) (0, b6)
set_option maxHeartbeats 4000000 in
set_option maxRecDepth 100000 in
theorem c0_takeFrom (l : Launch) (D : va_G) (κ : Nat → ClassId) (A : Nat → Prop) (ad : Nat → Nat) (r0 : Nat → Option va_E) (b : BS) (p0 : Nat) (res : BS) (h : F0_takeFrom b p0 = some res) : Met l yX0_takeFrom (gw yX0_takeFrom cX0_takeFrom 4 none) rm0_takeFrom (va_Pc [.ref (ad 54), .ref (ad p0)] (MW D κ A ad (celB κ ad r0 b))) (QV D κ A ad (celB κ ad r0 res)) 0 0 A := by
  refine met_of (own := RX0) (by decide +kernel) rfl (Nat.le_of_ble_eq_true rfl) ?_
  intro p e s m below meth c ls X hr hlk G hl
  have hl : lv_has ls 4 [(0, .ref (ad 54)), (1, .ref (ad p0))] := hl
  unfold F0_takeFrom at h
  refine lv_aload_n (pc := 0) X.1 X.2.1 dX0_takeFrom_0 rfl (lv_at hl 0 rfl) ?_
  refine lv_aload_n (pc := 1) X.1 X.2.1 dX0_takeFrom_1 rfl (lv_at hl 1 rfl) ?_
  obtain ⟨ok1, h2⟩ := ck_some h
  obtain ⟨x5, ex5, h3⟩ := bn_some h2
  refine B_calli (pc := 2) (v := x5) (M' := (celB κ ad r0 b)) (i := p0) (As := []) (rest := [.ref (ad 54)]) X G (rm := rm5_definedSet) rfl rfl rfl (c5_definedSet l D κ A ad r0 b p0 x5 ex5) (B_rcv (ci := 5) ok1 (by decide)) rfl g_X0_22 hd_yX5_definedSet ⟨Nat.le_of_ble_eq_true rfl, Nat.le_of_ble_eq_true rfl⟩ rfl hl rfl (lv_room (Nat.le_of_ble_eq_true rfl)) dX0_takeFrom_2 ⟨Nat.le_of_ble_eq_true rfl, Nat.le_of_ble_eq_true rfl⟩ (fun H locs G4 => ?_)
  obtain ⟨b6, eb6, h7⟩ := bd_some h3
  refine B_puti (pc := 5) (i := 54) (k := 2) (v := x5) X G4 eb6 rfl clX0 (okL54 _) (by decide) rfl rfl rfl rfl fl_X0_18 dX0_takeFrom_5 (fun H locs G8 => ?_)
  have nb6 : b6.2.2 = b.2.2 := by rw [eb6]; rfl
  refine lv_iconst (pc := 8) (v := 0) X.1 X.2.1 dX0_takeFrom_8 (by decide) ?_
  refine lv_istore_n (pc := 9) (lv' := [(2, .int 0), (0, .ref (ad 54)), (1, .ref (ad p0))]) X.1 X.2.1 dX0_takeFrom_9 rfl hl (by decide) rfl (fun ls9 hl10 => ?_)
  refine Loop_ind (P := fun (q : Int32 × BS) => ∀ (H : Heap) (locs : List Loc) (ls : Array Slot), Mm D κ A ad (celB κ ad r0 q.2) s H locs → lv_has ls 4 [(0, .ref (ad 54)), (1, .ref (ad p0)), (2, .int q.1)] → W p l e rm0_takeFrom s m [.ref (ad 54), .ref (ad p0)].toArray below meth c H locs 0 0 (MQ below (QV D κ A ad (celB κ ad r0 res)) [.ref (ad 54), .ref (ad p0)].toArray s 0 0 A) (F0 m 10 ls [])) ?_ h7 _ _ ls9 G8 (lv_sub hl10 [1, 2, 0] rfl)
  intro q y1 h13 ih1 hz1 H locs ls16 G14 hl15
  obtain ⟨x11, b12⟩ := q
  try dsimp only at h13 ih1 G14 hl15 ⊢
  refine lv_iload_n (pc := 10) X.1 X.2.1 dX0_takeFrom_10 rfl (lv_at hl15 2 rfl) ?_
  refine lv_bipush (pc := 11) (v := 26) X.1 X.2.1 dX0_takeFrom_11 (by decide) ?_
  refine lv_icmp_ge (pc := 13) (tgt := 46) X.1 X.2.1 dX0_takeFrom_13 (by decide) (fun hc17 => ?_) (fun hc17 => ?_)
  · have h18 := it_pos h13 hc17
    have h18_i := Option.some.inj h18
    have h18_i_1 := hz1 _ h18_i.symm
    exact m_vret (pc := 46) X G14 hr hlk dX0_takeFrom_46 (congrArg (celB κ ad r0) h18_i_1)
  · have h19 := it_neg h13 hc17
    refine lv_aload_n (pc := 16) X.1 X.2.1 dX0_takeFrom_16 rfl (lv_at hl15 1 rfl) ?_
    refine lv_iload_n (pc := 17) X.1 X.2.1 dX0_takeFrom_17 rfl (lv_at hl15 2 rfl) ?_
    obtain ⟨ok20, h21⟩ := ck_some h19
    obtain ⟨o24, eo24, h22⟩ := bn_some h21
    refine B_callq (pc := 18) (v := o24) (M' := (celB κ ad r0 b12)) (i := p0) (As := [.int x11]) (rest := []) X G14 (rm := rm5_definitionOf) rfl rfl rfl (c5_definitionOf l D κ A ad r0 b12 p0 x11 o24 eo24) (B_rcv (ci := 5) ok20 (by decide)) rfl g_X0_28 hd_yX5_definitionOf ⟨Nat.le_of_ble_eq_true rfl, Nat.le_of_ble_eq_true rfl⟩ rfl hl15 rfl (lv_room (Nat.le_of_ble_eq_true rfl)) dX0_takeFrom_18 ⟨Nat.le_of_ble_eq_true rfl, Nat.le_of_ble_eq_true rfl⟩ (fun H locs G23 => ?_)
    refine lq_astore_n (pc := 21) (lv' := [(3, va_rf (o24.map ad)), (0, .ref (ad 54)), (1, .ref (ad p0)), (2, .int x11)]) X dX0_takeFrom_21 rfl hl15 (by decide) rfl (fun ls25 hl26 => ?_)
    refine lv_aload_n (pc := 22) X.1 X.2.1 dX0_takeFrom_22 rfl (lv_at hl26 1 rfl) ?_
    refine B_getc (pc := 23) (i := 54) (k := 0) (j := 55) X G23 rfl clX0 (okL54 _) (by decide) rfl fl_X0_9 dX0_takeFrom_23 ?_
    refine lv_iload_n (pc := 26) X.1 X.2.1 dX0_takeFrom_26 rfl (lv_at hl26 3 rfl) ?_
    refine lq_aload_n (pc := 27) X dX0_takeFrom_27 rfl (lv_at hl26 0 rfl) ?_
    obtain ⟨k27, ek27, h28⟩ := jp_some h22
    have hk27 : ∀ (x38 : Int32) (H : Heap) (locs : List Loc) (ls : Array Slot), k27 x38 = some y1 → Mm D κ A ad (celB κ ad r0 b12) s H locs → lv_has ls 4 [(0, .ref (ad 54)), (1, .ref (ad p0)), (2, .int x11)] → W p l e rm0_takeFrom s m [.ref (ad 54), .ref (ad p0)].toArray below meth c H locs 0 0 (MQ below (QV D κ A ad (celB κ ad r0 res)) [.ref (ad 54), .ref (ad p0)].toArray s 0 0 A) (F0 m 39 ls [.int x38, .int x11, .ref (ad 55)]) := by
      intro x38 H locs ls42 h39 G40 hl41
      rw [ek27] at h39
      try dsimp only at h39
      obtain ⟨hib43, b43, eb43, h44⟩ := wb_some h39
      refine B_iast (pc := 39) (i := 55) (n := 26) X G40 eb43 rfl (okL55 _) rfl hib43 dX0_takeFrom_39 (fun H locs G45 => ?_)
      have nb43 : b43.2.2 = b12.2.2 := by rw [eb43]; rfl
      obtain ⟨x46, ex46, h49⟩ := bd_some h44
      refine lv_iinc (pc := 40) (v := x46) (lv' := [(2, .int x46), (0, .ref (ad 54)), (1, .ref (ad p0))]) X.1 X.2.1 dX0_takeFrom_40 hl41 (k := 2) rfl (by rw [ex46]; rfl) (by decide) rfl (fun ls47 hl48 => ?_)
      refine lv_goto (pc := 43) (tgt := 10) X.1 X.2.1 dX0_takeFrom_43 (by decide) ?_
      have h49_i := Option.some.inj h49
      exact ih1 _ h49_i.symm _ _ ls47 G45 (lv_sub hl48 [1, 2, 0] rfl)
    rcases o24 with _ | t29
    · have h30 := on_n h28
      have hl32 : lv_has ls25 4 [(3, va_rf ((none : Option Nat).map ad)), (0, .ref (ad 54)), (1, .ref (ad p0)), (2, .int x11)] := hl26
      refine lv_ifnonnullN (pc := 28) X.1 X.2.1 dX0_takeFrom_28 ?_
      refine lv_iconst (pc := 31) (v := 0) X.1 X.2.1 dX0_takeFrom_31 (by decide) ?_
      refine lv_goto (pc := 32) (tgt := 39) X.1 X.2.1 dX0_takeFrom_32 (by decide) ?_
      exact hk27 0 _ _ ls25 h30 G23 (lv_sub hl32 [1, 2, 3] rfl)
    · have h31 := on_s h28
      have hl33 : lv_has ls25 4 [(3, .ref (ad t29)), (0, .ref (ad 54)), (1, .ref (ad p0)), (2, .int x11)] := hl26
      refine lv_ifnonnull (pc := 28) (tgt := 35) (x := ad t29) X.1 X.2.1 dX0_takeFrom_28 (by decide) ?_
      refine lv_aload_n (pc := 35) X.1 X.2.1 dX0_takeFrom_35 rfl (lv_at hl33 0 rfl) ?_
      obtain ⟨ok36, h37⟩ := ck_some h31
      refine B_geti (pc := 36) (i := t29) (k := 6) X G23 rfl clX6 ok36 (by decide) rfl rfl fl_X0_32 dX0_takeFrom_36 ?_
      exact hk27 (b12.1 t29 6) _ _ ls25 h37 G23 (lv_sub hl33 [1, 2, 3] rfl)
