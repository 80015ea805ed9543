/-! THE REFERENCE, laid by wip/whole/walk.py: F8_: what a method does; c8_: the machine does it -/
abbrev rm8_called : Room := { frames := 2, cells := 0, slots := 0, locals := 42 }
noncomputable def F8_called (z : MS) (p0 : Int32) : Option (Int32) :=
  Loop (fun (q : Int32 × Int32) => (fun (x1 : Int32) (x2 : Int32) =>
  rd (z 0) 2153 p0 fun x3 =>
  if x3 ≤ x2 then
  some (.inr x1)
  else
  bn (F8_signOf z p0 x2) fun x5 =>
  bn (F8_isCall x5) fun x6 =>
  jp (fun (x9 : Int32) => bd (x1 ||| x9) fun x10 =>
  bd (x2 + 1) fun x11 =>
  some (.inl (x10, x11))) fun k7 =>
  if x6 = 0 then
  k7 0
  else
  k7 ((1 : Int32) <<< ((x5 - 65) &&& 31))) q.1 q.2) (0, 0)
set_option maxHeartbeats 4000000 in
set_option maxRecDepth 100000 in
theorem c8_called (l : Launch) (D : va_G) (κ : Nat → ClassId) (A : Nat → Prop) (ad : Nat → Nat) (r0 : Nat → Option va_E) (z : MS) (p0 : Int32) (res : Int32) (h : F8_called z p0 = some res) : Met l yX8_called (gw yX8_called cX8_called 5 (some (FieldType.int))) rm8_called (va_Pc [.ref (ad 43), .int p0] (MW D κ A ad (celM κ ad r0 z))) (QI D κ A ad (celM κ ad r0 z) res) 0 0 A := by
  refine met_of (own := RX8) (by decide +kernel) rfl (Nat.le_of_ble_eq_true rfl) ?_
  intro p e s m below meth c ls X hr hlk G hl
  have hl : lv_has ls 5 [(0, .ref (ad 43)), (1, .int p0)] := hl
  unfold F8_called at h
  refine lv_iconst (pc := 0) (v := 0) X.1 X.2.1 dX8_called_0 (by decide) ?_
  refine lv_istore_n (pc := 1) (lv' := [(2, .int 0), (0, .ref (ad 43)), (1, .int p0)]) X.1 X.2.1 dX8_called_1 rfl hl (by decide) rfl (fun ls hl => ?_)
  refine lv_iconst (pc := 2) (v := 0) X.1 X.2.1 dX8_called_2 (by decide) ?_
  refine lv_istore_n (pc := 3) (lv' := [(3, .int 0), (2, .int 0), (0, .ref (ad 43)), (1, .int p0)]) X.1 X.2.1 dX8_called_3 rfl hl (by decide) rfl (fun ls hl => ?_)
  refine Loop_ind (P := fun (q : Int32 × Int32) => ∀ (H : Heap) (locs : List Loc) (ls : Array Slot), Mm D κ A ad (celM κ ad r0 z) s H locs → lv_has ls 5 [(0, .ref (ad 43)), (1, .int p0), (2, .int q.1), (3, .int q.2)] → W p l e rm8_called s m [.ref (ad 43), .int p0].toArray below meth c H locs 0 0 (MQ below (QI D κ A ad (celM κ ad r0 z) res) [.ref (ad 43), .int p0].toArray s 0 0 A) (F0 m 4 ls [])) ?_ h _ _ ls G (lv_sub hl [2, 3, 1, 0] rfl)
  intro q y1 h ih1 hz1 H locs ls G hl
  obtain ⟨x1, x2⟩ := q
  try dsimp only at h ih1 G hl ⊢
  refine lv_iload_n (pc := 4) X.1 X.2.1 dX8_called_4 rfl (lv_at hl 3 rfl) ?_
  refine lv_aload_n (pc := 5) X.1 X.2.1 dX8_called_5 rfl (lv_at hl 0 rfl) ?_
  refine M_getr (pc := 6) X G 0 (by decide) (by decide +kernel) fl_X8_7 dX8_called_6 ?_
  refine lv_iload_n (pc := 9) X.1 X.2.1 dX8_called_9 rfl (lv_at hl 1 rfl) ?_
  obtain ⟨hix3, h⟩ := rd_some h
  refine M_iald (pc := 10) X G (i := 0) (n := 2153) (by decide +kernel) (by decide) rfl hix3 dX8_called_10 ?_
  refine lv_topi (fun x3 ex3 => ?_)
  rw [← ex3] at h
  refine lv_icmp_ge (pc := 11) (tgt := 50) X.1 X.2.1 dX8_called_11 (by decide) (fun hc4 => ?_) (fun hc4 => ?_)
  · have h := it_pos h hc4
    refine lv_iload_n (pc := 50) X.1 X.2.1 dX8_called_50 rfl (lv_at hl 2 rfl) ?_
    have h := Option.some.inj h
    have h := hz1 _ h.symm
    exact m_iret (pc := 51) X G hr hlk dX8_called_51 h rfl
  · have h := it_neg h hc4
    refine lv_aload_n (pc := 14) X.1 X.2.1 dX8_called_14 rfl (lv_at hl 0 rfl) ?_
    refine lv_iload_n (pc := 15) X.1 X.2.1 dX8_called_15 rfl (lv_at hl 1 rfl) ?_
    refine lv_iload_n (pc := 16) X.1 X.2.1 dX8_called_16 rfl (lv_at hl 3 rfl) ?_
    obtain ⟨x5, ex5, h⟩ := bn_some h
    refine M_calli (pc := 17) (z1 := z) (v := x5) (As := [.int p0, .int x2]) (rest := []) X G (rm := rm8_signOf) rfl rfl (c8_signOf l D κ A ad r0 z p0 x2 x5 ex5) g_X8_135 hd_yX8_signOf ⟨Nat.le_of_ble_eq_true rfl, Nat.le_of_ble_eq_true rfl⟩ rfl hl rfl (lv_room (Nat.le_of_ble_eq_true rfl)) dX8_called_17 ⟨Nat.le_of_ble_eq_true rfl, Nat.le_of_ble_eq_true rfl⟩ (fun H locs G => ?_)
    refine lv_istore (pc := 20) (lv' := [(4, .int x5), (0, .ref (ad 43)), (1, .int p0), (2, .int x1), (3, .int x2)]) X.1 X.2.1 dX8_called_20 hl (by decide) rfl (fun ls hl => ?_)
    refine lv_iload_n (pc := 22) X.1 X.2.1 dX8_called_22 rfl (lv_at hl 3 rfl) ?_
    refine lv_iload (pc := 23) X.1 X.2.1 dX8_called_23 (lv_at hl 0 rfl) ?_
    obtain ⟨x6, ex6, h⟩ := bn_some h
    refine m_callsi0 (pc := 25) (v := x6) (As := [.int x5]) (rest := [.int x1]) X G (rm := rm8_isCall) rfl rfl (c8_isCall l D κ A ad (celM κ ad r0 z) x5 x6 ex6) g_X8_125 hs_yX8_isCall ⟨Nat.le_of_ble_eq_true rfl, Nat.le_of_ble_eq_true rfl⟩ rfl hl rfl (lv_room (Nat.le_of_ble_eq_true rfl)) dX8_called_25 ⟨Nat.le_of_ble_eq_true rfl, Nat.le_of_ble_eq_true rfl⟩ (fun H locs G => ?_)
    obtain ⟨k7, ek7, h⟩ := jp_some h
    have hk7 : ∀ (x9 : Int32) (H : Heap) (locs : List Loc) (ls : Array Slot), k7 x9 = some y1 → Mm D κ A ad (celM κ ad r0 z) s H locs → lv_has ls 5 [(0, .ref (ad 43)), (1, .int p0), (3, .int x2)] → W p l e rm8_called s m [.ref (ad 43), .int p0].toArray below meth c H locs 0 0 (MQ below (QI D κ A ad (celM κ ad r0 z) res) [.ref (ad 43), .int p0].toArray s 0 0 A) (F0 m 42 ls [.int x9, .int x1]) := by
      intro x9 H locs ls h G hl
      rw [ek7] at h
      try dsimp only at h
      refine lv_ior (pc := 42) X.1 X.2.1 dX8_called_42 ?_
      refine lv_topi (fun x10 ex10 => ?_)
      have h := bd_at h ex10
      refine lv_istore_n (pc := 43) (lv' := [(2, .int x10), (0, .ref (ad 43)), (1, .int p0), (3, .int x2)]) X.1 X.2.1 dX8_called_43 rfl hl (by decide) rfl (fun ls hl => ?_)
      obtain ⟨x11, ex11, h⟩ := bd_some h
      refine lv_iinc (pc := 44) (v := x11) (lv' := [(3, .int x11), (2, .int x10), (0, .ref (ad 43)), (1, .int p0)]) X.1 X.2.1 dX8_called_44 hl (k := 3) rfl (by rw [ex11]; rfl) (by decide) rfl (fun ls hl => ?_)
      refine lv_goto (pc := 47) (tgt := 4) X.1 X.2.1 dX8_called_47 (by decide) ?_
      have h := Option.some.inj h
      exact ih1 _ h.symm _ _ ls G (lv_sub hl [2, 3, 1, 0] rfl)
    refine lv_if_eq (pc := 28) (tgt := 41) X.1 X.2.1 dX8_called_28 (by decide) (fun hc8 => ?_) (fun hc8 => ?_)
    · have h := it_pos h hc8
      refine lv_iconst (pc := 41) (v := 0) X.1 X.2.1 dX8_called_41 (by decide) ?_
      exact hk7 0 _ _ ls h G (lv_sub hl [1, 2, 4] rfl)
    · have h := it_neg h hc8
      refine lv_iconst (pc := 31) (v := 1) X.1 X.2.1 dX8_called_31 (by decide) ?_
      refine lv_iload (pc := 32) X.1 X.2.1 dX8_called_32 (lv_at hl 0 rfl) ?_
      refine lv_bipush (pc := 34) (v := 65) X.1 X.2.1 dX8_called_34 (by decide) ?_
      refine lv_isub (pc := 36) X.1 X.2.1 dX8_called_36 ?_
      refine lv_ishl (pc := 37) X.1 X.2.1 dX8_called_37 ?_
      refine lv_goto (pc := 38) (tgt := 42) X.1 X.2.1 dX8_called_38 (by decide) ?_
      exact hk7 ((1 : Int32) <<< ((x5 - 65) &&& 31)) _ _ ls h G (lv_sub hl [1, 2, 4] rfl)

abbrev rm8_laysSets : Room := { frames := 3, cells := 0, slots := 0, locals := 66 }
noncomputable def F8_laysSets (z : MS)  : Option (MS) :=
  Loop (fun (q : Int32 × MS) => (fun (x1 : Int32) (z2 : MS) =>
  if 26 ≤ x1 then
  some (.inr z2)
  else
  bn (F8_called z2 x1) fun x4 =>
  wr z2 40 26 x1 x4 fun z5 =>
  bd (x1 + 1) fun x6 =>
  some (.inl (x6, z5))) q.1 q.2) (0, z)
set_option maxHeartbeats 4000000 in
set_option maxRecDepth 100000 in
theorem c8_laysSets (l : Launch) (D : va_G) (κ : Nat → ClassId) (A : Nat → Prop) (ad : Nat → Nat) (r0 : Nat → Option va_E) (z : MS)  (res : MS) (h : F8_laysSets z  = some res) : Met l yX8_laysSets (gw yX8_laysSets cX8_laysSets 2 none) rm8_laysSets (va_Pc [.ref (ad 43)] (MW D κ A ad (celM κ ad r0 z))) (QV D κ A ad (celM κ ad r0 res)) 0 0 A := by
  refine met_of (own := RX8) (by decide +kernel) rfl (Nat.le_of_ble_eq_true rfl) ?_
  intro p e s m below meth c ls X hr hlk G hl
  have hl : lv_has ls 2 [(0, .ref (ad 43))] := hl
  unfold F8_laysSets at h
  refine lv_iconst (pc := 0) (v := 0) X.1 X.2.1 dX8_laysSets_0 (by decide) ?_
  refine lv_istore_n (pc := 1) (lv' := [(1, .int 0), (0, .ref (ad 43))]) X.1 X.2.1 dX8_laysSets_1 rfl hl (by decide) rfl (fun ls hl => ?_)
  refine Loop_ind (P := fun (q : Int32 × MS) => ∀ (H : Heap) (locs : List Loc) (ls : Array Slot), Mm D κ A ad (celM κ ad r0 q.2) s H locs → lv_has ls 2 [(0, .ref (ad 43)), (1, .int q.1)] → W p l e rm8_laysSets s m [.ref (ad 43)].toArray below meth c H locs 0 0 (MQ below (QV D κ A ad (celM κ ad r0 res)) [.ref (ad 43)].toArray s 0 0 A) (F0 m 2 ls [])) ?_ h _ _ ls G (lv_sub hl [1, 0] rfl)
  intro q y1 h ih1 hz1 H locs ls G hl
  obtain ⟨x1, z2⟩ := q
  try dsimp only at h ih1 G hl ⊢
  refine lv_iload_n (pc := 2) X.1 X.2.1 dX8_laysSets_2 rfl (lv_at hl 1 rfl) ?_
  refine lv_bipush (pc := 3) (v := 26) X.1 X.2.1 dX8_laysSets_3 (by decide) ?_
  refine lv_icmp_ge (pc := 5) (tgt := 25) X.1 X.2.1 dX8_laysSets_5 (by decide) (fun hc3 => ?_) (fun hc3 => ?_)
  · have h := it_pos h hc3
    have h := Option.some.inj h
    have h := hz1 _ h.symm
    exact m_vret (pc := 25) X G hr hlk dX8_laysSets_25 (congrArg (celM κ ad r0) h)
  · have h := it_neg h hc3
    refine lv_aload_n (pc := 8) X.1 X.2.1 dX8_laysSets_8 rfl (lv_at hl 0 rfl) ?_
    refine M_getr (pc := 9) X G 40 (by decide) (by decide +kernel) fl_X8_89 dX8_laysSets_9 ?_
    refine lv_iload_n (pc := 12) X.1 X.2.1 dX8_laysSets_12 rfl (lv_at hl 1 rfl) ?_
    refine lv_aload_n (pc := 13) X.1 X.2.1 dX8_laysSets_13 rfl (lv_at hl 0 rfl) ?_
    refine lv_iload_n (pc := 14) X.1 X.2.1 dX8_laysSets_14 rfl (lv_at hl 1 rfl) ?_
    obtain ⟨x4, ex4, h⟩ := bn_some h
    refine M_calli (pc := 15) (z1 := z2) (v := x4) (As := [.int x1]) (rest := [.int x1, .ref (ad 40)]) X G (rm := rm8_called) rfl rfl (c8_called l D κ A ad r0 z2 x1 x4 ex4) g_X8_248 hd_yX8_called ⟨Nat.le_of_ble_eq_true rfl, Nat.le_of_ble_eq_true rfl⟩ rfl hl rfl (lv_room (Nat.le_of_ble_eq_true rfl)) dX8_laysSets_15 ⟨Nat.le_of_ble_eq_true rfl, Nat.le_of_ble_eq_true rfl⟩ (fun H locs G => ?_)
    obtain ⟨hiz5, z5, ez5, h⟩ := wr_some h
    refine M_iast (pc := 18) X G (i := 40) (n := 26) ez5 (by decide +kernel) (by decide) rfl hiz5 dX8_laysSets_18 (fun H locs G => ?_)
    obtain ⟨x6, ex6, h⟩ := bd_some h
    refine lv_iinc (pc := 19) (v := x6) (lv' := [(1, .int x6), (0, .ref (ad 43))]) X.1 X.2.1 dX8_laysSets_19 hl (k := 1) rfl (by rw [ex6]; rfl) (by decide) rfl (fun ls hl => ?_)
    refine lv_goto (pc := 22) (tgt := 2) X.1 X.2.1 dX8_laysSets_22 (by decide) ?_
    have h := Option.some.inj h
    exact ih1 _ h.symm _ _ ls G (lv_sub hl [1, 0] rfl)

abbrev rm8_reached : Room := { frames := 0, cells := 0, slots := 0, locals := 0 }
noncomputable def F8_reached (z : MS) (p0 : Int32) : Option (Int32) :=
  rd (z 40) 26 p0 fun x1 =>
  Loop (fun (q : Int32 × Int32) => (fun (x2 : Int32) (x3 : Int32) =>
  if x2 = x3 then
  some (.inr x2)
  else
  Loop (fun (q : Int32 × Int32) => (fun (x5 : Int32) (x6 : Int32) =>
  if 26 ≤ x6 then
  some (.inr (.inl (x5, x2)))
  else
  jp (fun (x11 : Int32) => bd (x5 ||| x11) fun x12 =>
  bd (x6 + 1) fun x13 =>
  some (.inl (x12, x13))) fun k8 =>
  if ¬ ((x5 >>> (x6 &&& 31)) &&& 1) = 1 then
  k8 0
  else
  rd (z 40) 26 x6 fun x10 =>
  k8 x10) q.1 q.2) (x2, 0)) q.1 q.2) (x1, 0)
set_option maxHeartbeats 4000000 in
set_option maxRecDepth 100000 in
theorem c8_reached (l : Launch) (D : va_G) (κ : Nat → ClassId) (A : Nat → Prop) (ad : Nat → Nat) (r0 : Nat → Option va_E) (z : MS) (p0 : Int32) (res : Int32) (h : F8_reached z p0 = some res) : Met l yX8_reached (gw yX8_reached cX8_reached 5 (some (FieldType.int))) rm8_reached (va_Pc [.ref (ad 43), .int p0] (MW D κ A ad (celM κ ad r0 z))) (QI D κ A ad (celM κ ad r0 z) res) 0 0 A := by
  refine met_of (own := RX8) (by decide +kernel) rfl (Nat.le_of_ble_eq_true rfl) ?_
  intro p e s m below meth c ls X hr hlk G hl
  have hl : lv_has ls 5 [(0, .ref (ad 43)), (1, .int p0)] := hl
  unfold F8_reached at h
  refine lv_aload_n (pc := 0) X.1 X.2.1 dX8_reached_0 rfl (lv_at hl 0 rfl) ?_
  refine M_getr (pc := 1) X G 40 (by decide) (by decide +kernel) fl_X8_89 dX8_reached_1 ?_
  refine lv_iload_n (pc := 4) X.1 X.2.1 dX8_reached_4 rfl (lv_at hl 1 rfl) ?_
  obtain ⟨hix1, h⟩ := rd_some h
  refine M_iald (pc := 5) X G (i := 40) (n := 26) (by decide +kernel) (by decide) rfl hix1 dX8_reached_5 ?_
  refine lv_topi (fun x1 ex1 => ?_)
  rw [← ex1] at h
  refine lv_istore_n (pc := 6) (lv' := [(2, .int x1), (0, .ref (ad 43)), (1, .int p0)]) X.1 X.2.1 dX8_reached_6 rfl hl (by decide) rfl (fun ls hl => ?_)
  refine lv_iconst (pc := 7) (v := 0) X.1 X.2.1 dX8_reached_7 (by decide) ?_
  refine lv_istore_n (pc := 8) (lv' := [(3, .int 0), (2, .int x1), (0, .ref (ad 43)), (1, .int p0)]) X.1 X.2.1 dX8_reached_8 rfl hl (by decide) rfl (fun ls hl => ?_)
  refine Loop_ind (P := fun (q : Int32 × Int32) => ∀ (H : Heap) (locs : List Loc) (ls : Array Slot), Mm D κ A ad (celM κ ad r0 z) s H locs → lv_has ls 5 [(0, .ref (ad 43)), (2, .int q.1), (3, .int q.2)] → W p l e rm8_reached s m [.ref (ad 43), .int p0].toArray below meth c H locs 0 0 (MQ below (QI D κ A ad (celM κ ad r0 z) res) [.ref (ad 43), .int p0].toArray s 0 0 A) (F0 m 9 ls [])) ?_ h _ _ ls G (lv_sub hl [2, 1, 0] rfl)
  intro q y1 h ih1 hz1 H locs ls G hl
  obtain ⟨x2, x3⟩ := q
  try dsimp only at h ih1 G hl ⊢
  refine lv_iload_n (pc := 9) X.1 X.2.1 dX8_reached_9 rfl (lv_at hl 1 rfl) ?_
  refine lv_iload_n (pc := 10) X.1 X.2.1 dX8_reached_10 rfl (lv_at hl 2 rfl) ?_
  refine lv_icmp_eq (pc := 11) (tgt := 59) X.1 X.2.1 dX8_reached_11 (by decide) (fun hc4 => ?_) (fun hc4 => ?_)
  · have h := it_pos h hc4
    refine lv_iload_n (pc := 59) X.1 X.2.1 dX8_reached_59 rfl (lv_at hl 1 rfl) ?_
    have h := Option.some.inj h
    have h := hz1 _ h.symm
    exact m_iret (pc := 60) X G hr hlk dX8_reached_60 h rfl
  · have h := it_neg h hc4
    refine lv_iload_n (pc := 14) X.1 X.2.1 dX8_reached_14 rfl (lv_at hl 1 rfl) ?_
    refine lv_istore_n (pc := 15) (lv' := [(3, .int x2), (0, .ref (ad 43)), (2, .int x2)]) X.1 X.2.1 dX8_reached_15 rfl hl (by decide) rfl (fun ls hl => ?_)
    refine lv_iconst (pc := 16) (v := 0) X.1 X.2.1 dX8_reached_16 (by decide) ?_
    refine lv_istore (pc := 17) (lv' := [(4, .int 0), (3, .int x2), (0, .ref (ad 43)), (2, .int x2)]) X.1 X.2.1 dX8_reached_17 hl (by decide) rfl (fun ls hl => ?_)
    refine Loop_ind (P := fun (q : Int32 × Int32) => ∀ (H : Heap) (locs : List Loc) (ls : Array Slot), Mm D κ A ad (celM κ ad r0 z) s H locs → lv_has ls 5 [(0, .ref (ad 43)), (2, .int q.1), (3, .int x2), (4, .int q.2)] → W p l e rm8_reached s m [.ref (ad 43), .int p0].toArray below meth c H locs 0 0 (MQ below (QI D κ A ad (celM κ ad r0 z) res) [.ref (ad 43), .int p0].toArray s 0 0 A) (F0 m 19 ls [])) ?_ h _ _ ls G (lv_sub hl [2, 3, 1, 0] rfl)
    intro q y2 h ih2 hz2 H locs ls G hl
    obtain ⟨x5, x6⟩ := q
    try dsimp only at h ih2 G hl ⊢
    refine lv_iload (pc := 19) X.1 X.2.1 dX8_reached_19 (lv_at hl 3 rfl) ?_
    refine lv_bipush (pc := 21) (v := 26) X.1 X.2.1 dX8_reached_21 (by decide) ?_
    refine lv_icmp_ge (pc := 23) (tgt := 56) X.1 X.2.1 dX8_reached_23 (by decide) (fun hc7 => ?_) (fun hc7 => ?_)
    · have h := it_pos h hc7
      refine lv_goto (pc := 56) (tgt := 9) X.1 X.2.1 dX8_reached_56 (by decide) ?_
      have h := Option.some.inj h
      have h := hz2 _ h.symm
      exact ih1 _ h.symm _ _ ls G (lv_sub hl [0, 1, 2] rfl)
    · have h := it_neg h hc7
      refine lv_iload_n (pc := 26) X.1 X.2.1 dX8_reached_26 rfl (lv_at hl 1 rfl) ?_
      refine lv_iload_n (pc := 27) X.1 X.2.1 dX8_reached_27 rfl (lv_at hl 1 rfl) ?_
      refine lv_iload (pc := 28) X.1 X.2.1 dX8_reached_28 (lv_at hl 3 rfl) ?_
      refine lv_ishr (pc := 30) X.1 X.2.1 dX8_reached_30 ?_
      refine lv_iconst (pc := 31) (v := 1) X.1 X.2.1 dX8_reached_31 (by decide) ?_
      refine lv_iand (pc := 32) X.1 X.2.1 dX8_reached_32 ?_
      refine lv_iconst (pc := 33) (v := 1) X.1 X.2.1 dX8_reached_33 (by decide) ?_
      obtain ⟨k8, ek8, h⟩ := jp_some h
      have hk8 : ∀ (x11 : Int32) (H : Heap) (locs : List Loc) (ls : Array Slot), k8 x11 = some y2 → Mm D κ A ad (celM κ ad r0 z) s H locs → lv_has ls 5 [(0, .ref (ad 43)), (3, .int x2), (4, .int x6)] → W p l e rm8_reached s m [.ref (ad 43), .int p0].toArray below meth c H locs 0 0 (MQ below (QI D κ A ad (celM κ ad r0 z) res) [.ref (ad 43), .int p0].toArray s 0 0 A) (F0 m 48 ls [.int x11, .int x5]) := by
        intro x11 H locs ls h G hl
        rw [ek8] at h
        try dsimp only at h
        refine lv_ior (pc := 48) X.1 X.2.1 dX8_reached_48 ?_
        refine lv_topi (fun x12 ex12 => ?_)
        have h := bd_at h ex12
        refine lv_istore_n (pc := 49) (lv' := [(2, .int x12), (0, .ref (ad 43)), (3, .int x2), (4, .int x6)]) X.1 X.2.1 dX8_reached_49 rfl hl (by decide) rfl (fun ls hl => ?_)
        obtain ⟨x13, ex13, h⟩ := bd_some h
        refine lv_iinc (pc := 50) (v := x13) (lv' := [(4, .int x13), (2, .int x12), (0, .ref (ad 43)), (3, .int x2)]) X.1 X.2.1 dX8_reached_50 hl (k := 3) rfl (by rw [ex13]; rfl) (by decide) rfl (fun ls hl => ?_)
        refine lv_goto (pc := 53) (tgt := 19) X.1 X.2.1 dX8_reached_53 (by decide) ?_
        have h := Option.some.inj h
        exact ih2 _ h.symm _ _ ls G (lv_sub hl [2, 1, 3, 0] rfl)
      refine lv_icmp_ne (pc := 34) (tgt := 47) X.1 X.2.1 dX8_reached_34 (by decide) (fun hc9 => ?_) (fun hc9 => ?_)
      · have h := it_pos h hc9
        refine lv_iconst (pc := 47) (v := 0) X.1 X.2.1 dX8_reached_47 (by decide) ?_
        exact hk8 0 _ _ ls h G (lv_sub hl [0, 2, 3] rfl)
      · have h := it_neg h (fun q => q hc9)
        refine lv_aload_n (pc := 37) X.1 X.2.1 dX8_reached_37 rfl (lv_at hl 0 rfl) ?_
        refine M_getr (pc := 38) X G 40 (by decide) (by decide +kernel) fl_X8_89 dX8_reached_38 ?_
        refine lv_iload (pc := 41) X.1 X.2.1 dX8_reached_41 (lv_at hl 3 rfl) ?_
        obtain ⟨hix10, h⟩ := rd_some h
        refine M_iald (pc := 43) X G (i := 40) (n := 26) (by decide +kernel) (by decide) rfl hix10 dX8_reached_43 ?_
        refine lv_topi (fun x10 ex10 => ?_)
        rw [← ex10] at h
        refine lv_goto (pc := 44) (tgt := 48) X.1 X.2.1 dX8_reached_44 (by decide) ?_
        exact hk8 x10 _ _ ls h G (lv_sub hl [0, 2, 3] rfl)

abbrev rm8_callers : Room := { frames := 1, cells := 0, slots := 0, locals := 24 }
noncomputable def F8_callers (z : MS) (p0 p1 : Int32) : Option (Int32) :=
  Loop (fun (q : Int32 × Int32) => (fun (x1 : Int32) (x2 : Int32) =>
  if 26 ≤ x2 then
  some (.inr x1)
  else
  jp (fun (x8 : Int32) => jp (fun (x11 : Int32) => bd (x1 ||| x11) fun x12 =>
  bd (x2 + 1) fun x13 =>
  some (.inl (x12, x13))) fun k9 =>
  if ¬ ((x8 >>> (p0 &&& 31)) &&& 1) = 1 then
  k9 0
  else
  k9 ((1 : Int32) <<< (x2 &&& 31))) fun k4 =>
  if p1 = 0 then
  rd (z 40) 26 x2 fun x6 =>
  k4 x6
  else
  bn (F8_reached z x2) fun x7 =>
  k4 x7) q.1 q.2) (0, 0)
set_option maxHeartbeats 4000000 in
set_option maxRecDepth 100000 in
theorem c8_callers (l : Launch) (D : va_G) (κ : Nat → ClassId) (A : Nat → Prop) (ad : Nat → Nat) (r0 : Nat → Option va_E) (z : MS) (p0 p1 : Int32) (res : Int32) (h : F8_callers z p0 p1 = some res) : Met l yX8_callers (gw yX8_callers cX8_callers 5 (some (FieldType.int))) rm8_callers (va_Pc [.ref (ad 43), .int p0, .int p1] (MW D κ A ad (celM κ ad r0 z))) (QI D κ A ad (celM κ ad r0 z) res) 0 0 A := by
  refine met_of (own := RX8) (by decide +kernel) rfl (Nat.le_of_ble_eq_true rfl) ?_
  intro p e s m below meth c ls X hr hlk G hl
  have hl : lv_has ls 5 [(0, .ref (ad 43)), (1, .int p0), (2, .int p1)] := hl
  unfold F8_callers at h
  refine lv_iconst (pc := 0) (v := 0) X.1 X.2.1 dX8_callers_0 (by decide) ?_
  refine lv_istore_n (pc := 1) (lv' := [(3, .int 0), (0, .ref (ad 43)), (1, .int p0), (2, .int p1)]) X.1 X.2.1 dX8_callers_1 rfl hl (by decide) rfl (fun ls hl => ?_)
  refine lv_iconst (pc := 2) (v := 0) X.1 X.2.1 dX8_callers_2 (by decide) ?_
  refine lv_istore (pc := 3) (lv' := [(4, .int 0), (3, .int 0), (0, .ref (ad 43)), (1, .int p0), (2, .int p1)]) X.1 X.2.1 dX8_callers_3 hl (by decide) rfl (fun ls hl => ?_)
  refine Loop_ind (P := fun (q : Int32 × Int32) => ∀ (H : Heap) (locs : List Loc) (ls : Array Slot), Mm D κ A ad (celM κ ad r0 z) s H locs → lv_has ls 5 [(0, .ref (ad 43)), (1, .int p0), (2, .int p1), (3, .int q.1), (4, .int q.2)] → W p l e rm8_callers s m [.ref (ad 43), .int p0, .int p1].toArray below meth c H locs 0 0 (MQ below (QI D κ A ad (celM κ ad r0 z) res) [.ref (ad 43), .int p0, .int p1].toArray s 0 0 A) (F0 m 5 ls [])) ?_ h _ _ ls G (lv_sub hl [2, 3, 4, 1, 0] rfl)
  intro q y1 h ih1 hz1 H locs ls G hl
  obtain ⟨x1, x2⟩ := q
  try dsimp only at h ih1 G hl ⊢
  refine lv_iload (pc := 5) X.1 X.2.1 dX8_callers_5 (lv_at hl 4 rfl) ?_
  refine lv_bipush (pc := 7) (v := 26) X.1 X.2.1 dX8_callers_7 (by decide) ?_
  refine lv_icmp_ge (pc := 9) (tgt := 57) X.1 X.2.1 dX8_callers_9 (by decide) (fun hc3 => ?_) (fun hc3 => ?_)
  · have h := it_pos h hc3
    refine lv_iload_n (pc := 57) X.1 X.2.1 dX8_callers_57 rfl (lv_at hl 3 rfl) ?_
    have h := Option.some.inj h
    have h := hz1 _ h.symm
    exact m_iret (pc := 58) X G hr hlk dX8_callers_58 h rfl
  · have h := it_neg h hc3
    refine lv_iload_n (pc := 12) X.1 X.2.1 dX8_callers_12 rfl (lv_at hl 3 rfl) ?_
    refine lv_iload_n (pc := 13) X.1 X.2.1 dX8_callers_13 rfl (lv_at hl 2 rfl) ?_
    obtain ⟨k4, ek4, h⟩ := jp_some h
    have hk4 : ∀ (x8 : Int32) (H : Heap) (locs : List Loc) (ls : Array Slot), k4 x8 = some y1 → Mm D κ A ad (celM κ ad r0 z) s H locs → lv_has ls 5 [(0, .ref (ad 43)), (1, .int p0), (2, .int p1), (4, .int x2)] → W p l e rm8_callers s m [.ref (ad 43), .int p0, .int p1].toArray below meth c H locs 0 0 (MQ below (QI D κ A ad (celM κ ad r0 z) res) [.ref (ad 43), .int p0, .int p1].toArray s 0 0 A) (F0 m 33 ls [.int x8, .int x1]) := by
      intro x8 H locs ls h G hl
      rw [ek4] at h
      try dsimp only at h
      refine lv_iload_n (pc := 33) X.1 X.2.1 dX8_callers_33 rfl (lv_at hl 1 rfl) ?_
      refine lv_ishr (pc := 34) X.1 X.2.1 dX8_callers_34 ?_
      refine lv_iconst (pc := 35) (v := 1) X.1 X.2.1 dX8_callers_35 (by decide) ?_
      refine lv_iand (pc := 36) X.1 X.2.1 dX8_callers_36 ?_
      refine lv_iconst (pc := 37) (v := 1) X.1 X.2.1 dX8_callers_37 (by decide) ?_
      obtain ⟨k9, ek9, h⟩ := jp_some h
      have hk9 : ∀ (x11 : Int32) (H : Heap) (locs : List Loc) (ls : Array Slot), k9 x11 = some y1 → Mm D κ A ad (celM κ ad r0 z) s H locs → lv_has ls 5 [(0, .ref (ad 43)), (1, .int p0), (2, .int p1), (4, .int x2)] → W p l e rm8_callers s m [.ref (ad 43), .int p0, .int p1].toArray below meth c H locs 0 0 (MQ below (QI D κ A ad (celM κ ad r0 z) res) [.ref (ad 43), .int p0, .int p1].toArray s 0 0 A) (F0 m 49 ls [.int x11, .int x1]) := by
        intro x11 H locs ls h G hl
        rw [ek9] at h
        try dsimp only at h
        refine lv_ior (pc := 49) X.1 X.2.1 dX8_callers_49 ?_
        refine lv_topi (fun x12 ex12 => ?_)
        have h := bd_at h ex12
        refine lv_istore_n (pc := 50) (lv' := [(3, .int x12), (0, .ref (ad 43)), (1, .int p0), (2, .int p1), (4, .int x2)]) X.1 X.2.1 dX8_callers_50 rfl hl (by decide) rfl (fun ls hl => ?_)
        obtain ⟨x13, ex13, h⟩ := bd_some h
        refine lv_iinc (pc := 51) (v := x13) (lv' := [(4, .int x13), (3, .int x12), (0, .ref (ad 43)), (1, .int p0), (2, .int p1)]) X.1 X.2.1 dX8_callers_51 hl (k := 4) rfl (by rw [ex13]; rfl) (by decide) rfl (fun ls hl => ?_)
        refine lv_goto (pc := 54) (tgt := 5) X.1 X.2.1 dX8_callers_54 (by decide) ?_
        have h := Option.some.inj h
        exact ih1 _ h.symm _ _ ls G (lv_sub hl [2, 3, 4, 1, 0] rfl)
      refine lv_icmp_ne (pc := 38) (tgt := 48) X.1 X.2.1 dX8_callers_38 (by decide) (fun hc10 => ?_) (fun hc10 => ?_)
      · have h := it_pos h hc10
        refine lv_iconst (pc := 48) (v := 0) X.1 X.2.1 dX8_callers_48 (by decide) ?_
        exact hk9 0 _ _ ls h G (lv_sub hl [0, 1, 2, 3] rfl)
      · have h := it_neg h (fun q => q hc10)
        refine lv_iconst (pc := 41) (v := 1) X.1 X.2.1 dX8_callers_41 (by decide) ?_
        refine lv_iload (pc := 42) X.1 X.2.1 dX8_callers_42 (lv_at hl 3 rfl) ?_
        refine lv_ishl (pc := 44) X.1 X.2.1 dX8_callers_44 ?_
        refine lv_goto (pc := 45) (tgt := 49) X.1 X.2.1 dX8_callers_45 (by decide) ?_
        exact hk9 ((1 : Int32) <<< (x2 &&& 31)) _ _ ls h G (lv_sub hl [0, 1, 2, 3] rfl)
    refine lv_if_eq (pc := 14) (tgt := 26) X.1 X.2.1 dX8_callers_14 (by decide) (fun hc5 => ?_) (fun hc5 => ?_)
    · have h := it_pos h hc5
      refine lv_aload_n (pc := 26) X.1 X.2.1 dX8_callers_26 rfl (lv_at hl 0 rfl) ?_
      refine M_getr (pc := 27) X G 40 (by decide) (by decide +kernel) fl_X8_89 dX8_callers_27 ?_
      refine lv_iload (pc := 30) X.1 X.2.1 dX8_callers_30 (lv_at hl 4 rfl) ?_
      obtain ⟨hix6, h⟩ := rd_some h
      refine M_iald (pc := 32) X G (i := 40) (n := 26) (by decide +kernel) (by decide) rfl hix6 dX8_callers_32 ?_
      refine lv_topi (fun x6 ex6 => ?_)
      rw [← ex6] at h
      exact hk4 x6 _ _ ls h G (lv_sub hl [0, 1, 2, 4] rfl)
    · have h := it_neg h hc5
      refine lv_aload_n (pc := 17) X.1 X.2.1 dX8_callers_17 rfl (lv_at hl 0 rfl) ?_
      refine lv_iload (pc := 18) X.1 X.2.1 dX8_callers_18 (lv_at hl 4 rfl) ?_
      obtain ⟨x7, ex7, h⟩ := bn_some h
      refine M_calli (pc := 20) (z1 := z) (v := x7) (As := [.int x2]) (rest := [.int x1]) X G (rm := rm8_reached) rfl rfl (c8_reached l D κ A ad r0 z x2 x7 ex7) g_X8_251 hd_yX8_reached ⟨Nat.le_of_ble_eq_true rfl, Nat.le_of_ble_eq_true rfl⟩ rfl hl rfl (lv_room (Nat.le_of_ble_eq_true rfl)) dX8_callers_20 ⟨Nat.le_of_ble_eq_true rfl, Nat.le_of_ble_eq_true rfl⟩ (fun H locs G => ?_)
      refine lv_goto (pc := 23) (tgt := 33) X.1 X.2.1 dX8_callers_23 (by decide) ?_
      exact hk4 x7 _ _ ls h G (lv_sub hl [0, 1, 2, 4] rfl)

abbrev rm8_uses : Room := { frames := 4, cells := 0, slots := 0, locals := 87 }
noncomputable def F8_uses (z : MS) (p0 p1 : Int32) : Option (MS × Int32) :=
  bn (F8_isLetter p0) fun x1 =>
  jp (fun (x6 : Int32) => bn2 (F8_refused z x6) fun z8 x7 =>
  if x7 = 0 then
  bn (F8_laysSets z8) fun z10 =>
  jp (fun (x20 : Int32) => some (z10, x20)) fun k11 =>
  if ¬ p1 = 0 then
  if ¬ p1 = 1 then
  jp (fun (x16 : Int32) => bn (F8_callers z10 p0 x16) fun x17 =>
  k11 x17) fun k14 =>
  if ¬ p1 = 3 then
  k14 0
  else
  k14 1
  else
  bn (F8_reached z10 p0) fun x18 =>
  k11 x18
  else
  rd (z10 40) 26 p0 fun x19 =>
  k11 x19
  else
  some (z8, 0)) fun k2 =>
  if ¬ x1 = 0 then
  bn (F8_in p1 0 3) fun x4 =>
  if x4 = 0 then
  k2 2
  else
  k2 0
  else
  k2 1
set_option maxHeartbeats 4000000 in
set_option maxRecDepth 100000 in
theorem c8_uses (l : Launch) (D : va_G) (κ : Nat → ClassId) (A : Nat → Prop) (ad : Nat → Nat) (r0 : Nat → Option va_E) (z : MS) (p0 p1 : Int32) (res : MS × Int32) (h : F8_uses z p0 p1 = some res) : Met l yX8_uses (gw yX8_uses cX8_uses 3 (some (FieldType.int))) rm8_uses (va_Pc [.ref (ad 43), .int p0, .int p1] (MW D κ A ad (celM κ ad r0 z))) (QI D κ A ad (celM κ ad r0 res.1) res.2) 0 0 A := by
  refine met_of (own := RX8) (by decide +kernel) rfl (Nat.le_of_ble_eq_true rfl) ?_
  intro p e s m below meth c ls X hr hlk G hl
  have hl : lv_has ls 3 [(0, .ref (ad 43)), (1, .int p0), (2, .int p1)] := hl
  unfold F8_uses at h
  refine lv_aload_n (pc := 0) X.1 X.2.1 dX8_uses_0 rfl (lv_at hl 0 rfl) ?_
  refine lv_iload_n (pc := 1) X.1 X.2.1 dX8_uses_1 rfl (lv_at hl 1 rfl) ?_
  obtain ⟨x1, ex1, h⟩ := bn_some h
  refine m_callsi0 (pc := 2) (v := x1) (As := [.int p0]) (rest := [.ref (ad 43)]) X G (rm := rm8_isLetter) rfl rfl (c8_isLetter l D κ A ad (celM κ ad r0 z) p0 x1 ex1) g_X8_132 hs_yX8_isLetter ⟨Nat.le_of_ble_eq_true rfl, Nat.le_of_ble_eq_true rfl⟩ rfl hl rfl (lv_room (Nat.le_of_ble_eq_true rfl)) dX8_uses_2 ⟨Nat.le_of_ble_eq_true rfl, Nat.le_of_ble_eq_true rfl⟩ (fun H locs G => ?_)
  obtain ⟨k2, ek2, h⟩ := jp_some h
  have hk2 : ∀ (x6 : Int32) (H : Heap) (locs : List Loc) (ls : Array Slot), k2 x6 = some res → Mm D κ A ad (celM κ ad r0 z) s H locs → lv_has ls 3 [(0, .ref (ad 43)), (1, .int p0), (2, .int p1)] → W p l e rm8_uses s m [.ref (ad 43), .int p0, .int p1].toArray below meth c H locs 0 0 (MQ below (QI D κ A ad (celM κ ad r0 res.1) res.2) [.ref (ad 43), .int p0, .int p1].toArray s 0 0 A) (F0 m 26 ls [.int x6, .ref (ad 43)]) := by
    intro x6 H locs ls h G hl
    rw [ek2] at h
    try dsimp only at h
    obtain ⟨z8, x7, ex7, h⟩ := bn2_some h
    refine M_calli (pc := 26) (z1 := z8) (v := x7) (As := [.int x6]) (rest := []) X G (rm := rm8_refused) rfl rfl (c8_refused l D κ A ad r0 z x6 (z8, x7) ex7) g_X8_116 hd_yX8_refused ⟨Nat.le_of_ble_eq_true rfl, Nat.le_of_ble_eq_true rfl⟩ rfl hl rfl (lv_room (Nat.le_of_ble_eq_true rfl)) dX8_uses_26 ⟨Nat.le_of_ble_eq_true rfl, Nat.le_of_ble_eq_true rfl⟩ (fun H locs G => ?_)
    refine lv_if_eq (pc := 29) (tgt := 34) X.1 X.2.1 dX8_uses_29 (by decide) (fun hc9 => ?_) (fun hc9 => ?_)
    · have h := it_pos h hc9
      refine lv_aload_n (pc := 34) X.1 X.2.1 dX8_uses_34 rfl (lv_at hl 0 rfl) ?_
      obtain ⟨z10, ez10, h⟩ := bn_some h
      refine M_callv (pc := 35) (z1 := z10) (As := []) (rest := []) X G (rm := rm8_laysSets) rfl rfl (c8_laysSets l D κ A ad r0 z8  z10 ez10) g_X8_254 hd_yX8_laysSets ⟨Nat.le_of_ble_eq_true rfl, Nat.le_of_ble_eq_true rfl⟩ rfl hl rfl (lv_room (Nat.le_of_ble_eq_true rfl)) dX8_uses_35 ⟨Nat.le_of_ble_eq_true rfl, Nat.le_of_ble_eq_true rfl⟩ (fun H locs G => ?_)
      refine lv_iload_n (pc := 38) X.1 X.2.1 dX8_uses_38 rfl (lv_at hl 2 rfl) ?_
      obtain ⟨k11, ek11, h⟩ := jp_some h
      have hk11 : ∀ (x20 : Int32) (H : Heap) (locs : List Loc) (ls : Array Slot), k11 x20 = some res → Mm D κ A ad (celM κ ad r0 z10) s H locs → lv_has ls 3 [] → W p l e rm8_uses s m [.ref (ad 43), .int p0, .int p1].toArray below meth c H locs 0 0 (MQ below (QI D κ A ad (celM κ ad r0 res.1) res.2) [.ref (ad 43), .int p0, .int p1].toArray s 0 0 A) (F0 m 79 ls [.int x20]) := by
        intro x20 H locs ls h G hl
        rw [ek11] at h
        try dsimp only at h
        have h := Option.some.inj h
        exact m_iret (pc := 79) X G hr hlk dX8_uses_79 (congrArg Prod.snd h) (congrArg (fun q : MS × Int32 => celM κ ad r0 q.1) h)
      refine lv_if_ne (pc := 39) (tgt := 51) X.1 X.2.1 dX8_uses_39 (by decide) (fun hc12 => ?_) (fun hc12 => ?_)
      · have h := it_pos h hc12
        refine lv_iload_n (pc := 51) X.1 X.2.1 dX8_uses_51 rfl (lv_at hl 2 rfl) ?_
        refine lv_iconst (pc := 52) (v := 1) X.1 X.2.1 dX8_uses_52 (by decide) ?_
        refine lv_icmp_ne (pc := 53) (tgt := 64) X.1 X.2.1 dX8_uses_53 (by decide) (fun hc13 => ?_) (fun hc13 => ?_)
        · have h := it_pos h hc13
          refine lv_aload_n (pc := 64) X.1 X.2.1 dX8_uses_64 rfl (lv_at hl 0 rfl) ?_
          refine lv_iload_n (pc := 65) X.1 X.2.1 dX8_uses_65 rfl (lv_at hl 1 rfl) ?_
          refine lv_iload_n (pc := 66) X.1 X.2.1 dX8_uses_66 rfl (lv_at hl 2 rfl) ?_
          refine lv_iconst (pc := 67) (v := 3) X.1 X.2.1 dX8_uses_67 (by decide) ?_
          obtain ⟨k14, ek14, h⟩ := jp_some h
          have hk14 : ∀ (x16 : Int32) (H : Heap) (locs : List Loc) (ls : Array Slot), k14 x16 = some res → Mm D κ A ad (celM κ ad r0 z10) s H locs → lv_has ls 3 [] → W p l e rm8_uses s m [.ref (ad 43), .int p0, .int p1].toArray below meth c H locs 0 0 (MQ below (QI D κ A ad (celM κ ad r0 res.1) res.2) [.ref (ad 43), .int p0, .int p1].toArray s 0 0 A) (F0 m 76 ls [.int x16, .int p0, .ref (ad 43)]) := by
            intro x16 H locs ls h G hl
            rw [ek14] at h
            try dsimp only at h
            obtain ⟨x17, ex17, h⟩ := bn_some h
            refine M_calli (pc := 76) (z1 := z10) (v := x17) (As := [.int p0, .int x16]) (rest := []) X G (rm := rm8_callers) rfl rfl (c8_callers l D κ A ad r0 z10 p0 x16 x17 ex17) g_X8_257 hd_yX8_callers ⟨Nat.le_of_ble_eq_true rfl, Nat.le_of_ble_eq_true rfl⟩ rfl hl rfl (lv_room (Nat.le_of_ble_eq_true rfl)) dX8_uses_76 ⟨Nat.le_of_ble_eq_true rfl, Nat.le_of_ble_eq_true rfl⟩ (fun H locs G => ?_)
            exact hk11 x17 _ _ ls h G (lv_sub hl [] rfl)
          refine lv_icmp_ne (pc := 68) (tgt := 75) X.1 X.2.1 dX8_uses_68 (by decide) (fun hc15 => ?_) (fun hc15 => ?_)
          · have h := it_pos h hc15
            refine lv_iconst (pc := 75) (v := 0) X.1 X.2.1 dX8_uses_75 (by decide) ?_
            exact hk14 0 _ _ ls h G (lv_sub hl [] rfl)
          · have h := it_neg h (fun q => q hc15)
            refine lv_iconst (pc := 71) (v := 1) X.1 X.2.1 dX8_uses_71 (by decide) ?_
            refine lv_goto (pc := 72) (tgt := 76) X.1 X.2.1 dX8_uses_72 (by decide) ?_
            exact hk14 1 _ _ ls h G (lv_sub hl [] rfl)
        · have h := it_neg h (fun q => q hc13)
          refine lv_aload_n (pc := 56) X.1 X.2.1 dX8_uses_56 rfl (lv_at hl 0 rfl) ?_
          refine lv_iload_n (pc := 57) X.1 X.2.1 dX8_uses_57 rfl (lv_at hl 1 rfl) ?_
          obtain ⟨x18, ex18, h⟩ := bn_some h
          refine M_calli (pc := 58) (z1 := z10) (v := x18) (As := [.int p0]) (rest := []) X G (rm := rm8_reached) rfl rfl (c8_reached l D κ A ad r0 z10 p0 x18 ex18) g_X8_251 hd_yX8_reached ⟨Nat.le_of_ble_eq_true rfl, Nat.le_of_ble_eq_true rfl⟩ rfl hl rfl (lv_room (Nat.le_of_ble_eq_true rfl)) dX8_uses_58 ⟨Nat.le_of_ble_eq_true rfl, Nat.le_of_ble_eq_true rfl⟩ (fun H locs G => ?_)
          refine lv_goto (pc := 61) (tgt := 79) X.1 X.2.1 dX8_uses_61 (by decide) ?_
          exact hk11 x18 _ _ ls h G (lv_sub hl [] rfl)
      · have h := it_neg h (fun q => q hc12)
        refine lv_aload_n (pc := 42) X.1 X.2.1 dX8_uses_42 rfl (lv_at hl 0 rfl) ?_
        refine M_getr (pc := 43) X G 40 (by decide) (by decide +kernel) fl_X8_89 dX8_uses_43 ?_
        refine lv_iload_n (pc := 46) X.1 X.2.1 dX8_uses_46 rfl (lv_at hl 1 rfl) ?_
        obtain ⟨hix19, h⟩ := rd_some h
        refine M_iald (pc := 47) X G (i := 40) (n := 26) (by decide +kernel) (by decide) rfl hix19 dX8_uses_47 ?_
        refine lv_topi (fun x19 ex19 => ?_)
        rw [← ex19] at h
        refine lv_goto (pc := 48) (tgt := 79) X.1 X.2.1 dX8_uses_48 (by decide) ?_
        exact hk11 x19 _ _ ls h G (lv_sub hl [] rfl)
    · have h := it_neg h hc9
      refine lv_iconst (pc := 32) (v := 0) X.1 X.2.1 dX8_uses_32 (by decide) ?_
      have h := Option.some.inj h
      exact m_iret (pc := 33) X G hr hlk dX8_uses_33 (congrArg Prod.snd h) (congrArg (fun q : MS × Int32 => celM κ ad r0 q.1) h)
  refine lv_if_ne (pc := 5) (tgt := 12) X.1 X.2.1 dX8_uses_5 (by decide) (fun hc3 => ?_) (fun hc3 => ?_)
  · have h := it_pos h hc3
    refine lv_iload_n (pc := 12) X.1 X.2.1 dX8_uses_12 rfl (lv_at hl 2 rfl) ?_
    refine lv_iconst (pc := 13) (v := 0) X.1 X.2.1 dX8_uses_13 (by decide) ?_
    refine lv_iconst (pc := 14) (v := 3) X.1 X.2.1 dX8_uses_14 (by decide) ?_
    obtain ⟨x4, ex4, h⟩ := bn_some h
    refine m_callsi0 (pc := 15) (v := x4) (As := [.int p1, .int 0, .int 3]) (rest := [.ref (ad 43)]) X G (rm := rm8_in) rfl rfl (c8_in l D κ A ad (celM κ ad r0 z) p1 0 3 x4 ex4) g_X8_102 hs_yX8_in ⟨Nat.le_of_ble_eq_true rfl, Nat.le_of_ble_eq_true rfl⟩ rfl hl rfl (lv_room (Nat.le_of_ble_eq_true rfl)) dX8_uses_15 ⟨Nat.le_of_ble_eq_true rfl, Nat.le_of_ble_eq_true rfl⟩ (fun H locs G => ?_)
    refine lv_if_eq (pc := 18) (tgt := 25) X.1 X.2.1 dX8_uses_18 (by decide) (fun hc5 => ?_) (fun hc5 => ?_)
    · have h := it_pos h hc5
      refine lv_iconst (pc := 25) (v := 2) X.1 X.2.1 dX8_uses_25 (by decide) ?_
      exact hk2 2 _ _ ls h G (lv_sub hl [0, 1, 2] rfl)
    · have h := it_neg h hc5
      refine lv_iconst (pc := 21) (v := 0) X.1 X.2.1 dX8_uses_21 (by decide) ?_
      refine lv_goto (pc := 22) (tgt := 26) X.1 X.2.1 dX8_uses_22 (by decide) ?_
      exact hk2 0 _ _ ls h G (lv_sub hl [0, 1, 2] rfl)
  · have h := it_neg h (fun q => q hc3)
    refine lv_iconst (pc := 8) (v := 1) X.1 X.2.1 dX8_uses_8 (by decide) ?_
    refine lv_goto (pc := 9) (tgt := 26) X.1 X.2.1 dX8_uses_9 (by decide) ?_
    exact hk2 1 _ _ ls h G (lv_sub hl [0, 1, 2] rfl)

abbrev rm8_inRings : Room := { frames := 4, cells := 0, slots := 0, locals := 87 }
noncomputable def F8_inRings (z : MS)  : Option (MS × Int32) :=
  bn (F8_laysSets z) fun z1 =>
  Loop (fun (q : Int32 × Int32) => (fun (x2 : Int32) (x3 : Int32) =>
  if 26 ≤ x3 then
  some (.inr (z1, x2))
  else
  bn (F8_reached z1 x3) fun x5 =>
  jp (fun (x8 : Int32) => bd (x2 ||| x8) fun x9 =>
  bd (x3 + 1) fun x10 =>
  some (.inl (x9, x10))) fun k6 =>
  if ¬ ((x5 >>> (x3 &&& 31)) &&& 1) = 1 then
  k6 0
  else
  k6 ((1 : Int32) <<< (x3 &&& 31))) q.1 q.2) (0, 0)
set_option maxHeartbeats 4000000 in
set_option maxRecDepth 100000 in
theorem c8_inRings (l : Launch) (D : va_G) (κ : Nat → ClassId) (A : Nat → Prop) (ad : Nat → Nat) (r0 : Nat → Option va_E) (z : MS)  (res : MS × Int32) (h : F8_inRings z  = some res) : Met l yX8_inRings (gw yX8_inRings cX8_inRings 3 (some (FieldType.int))) rm8_inRings (va_Pc [.ref (ad 43)] (MW D κ A ad (celM κ ad r0 z))) (QI D κ A ad (celM κ ad r0 res.1) res.2) 0 0 A := by
  refine met_of (own := RX8) (by decide +kernel) rfl (Nat.le_of_ble_eq_true rfl) ?_
  intro p e s m below meth c ls X hr hlk G hl
  have hl : lv_has ls 3 [(0, .ref (ad 43))] := hl
  unfold F8_inRings at h
  refine lv_aload_n (pc := 0) X.1 X.2.1 dX8_inRings_0 rfl (lv_at hl 0 rfl) ?_
  obtain ⟨z1, ez1, h⟩ := bn_some h
  refine M_callv (pc := 1) (z1 := z1) (As := []) (rest := []) X G (rm := rm8_laysSets) rfl rfl (c8_laysSets l D κ A ad r0 z  z1 ez1) g_X8_254 hd_yX8_laysSets ⟨Nat.le_of_ble_eq_true rfl, Nat.le_of_ble_eq_true rfl⟩ rfl hl rfl (lv_room (Nat.le_of_ble_eq_true rfl)) dX8_inRings_1 ⟨Nat.le_of_ble_eq_true rfl, Nat.le_of_ble_eq_true rfl⟩ (fun H locs G => ?_)
  refine lv_iconst (pc := 4) (v := 0) X.1 X.2.1 dX8_inRings_4 (by decide) ?_
  refine lv_istore_n (pc := 5) (lv' := [(1, .int 0), (0, .ref (ad 43))]) X.1 X.2.1 dX8_inRings_5 rfl hl (by decide) rfl (fun ls hl => ?_)
  refine lv_iconst (pc := 6) (v := 0) X.1 X.2.1 dX8_inRings_6 (by decide) ?_
  refine lv_istore_n (pc := 7) (lv' := [(2, .int 0), (1, .int 0), (0, .ref (ad 43))]) X.1 X.2.1 dX8_inRings_7 rfl hl (by decide) rfl (fun ls hl => ?_)
  refine Loop_ind (P := fun (q : Int32 × Int32) => ∀ (H : Heap) (locs : List Loc) (ls : Array Slot), Mm D κ A ad (celM κ ad r0 z1) s H locs → lv_has ls 3 [(0, .ref (ad 43)), (1, .int q.1), (2, .int q.2)] → W p l e rm8_inRings s m [.ref (ad 43)].toArray below meth c H locs 0 0 (MQ below (QI D κ A ad (celM κ ad r0 res.1) res.2) [.ref (ad 43)].toArray s 0 0 A) (F0 m 8 ls [])) ?_ h _ _ ls G (lv_sub hl [2, 1, 0] rfl)
  intro q y1 h ih1 hz1 H locs ls G hl
  obtain ⟨x2, x3⟩ := q
  try dsimp only at h ih1 G hl ⊢
  refine lv_iload_n (pc := 8) X.1 X.2.1 dX8_inRings_8 rfl (lv_at hl 2 rfl) ?_
  refine lv_bipush (pc := 9) (v := 26) X.1 X.2.1 dX8_inRings_9 (by decide) ?_
  refine lv_icmp_ge (pc := 11) (tgt := 43) X.1 X.2.1 dX8_inRings_11 (by decide) (fun hc4 => ?_) (fun hc4 => ?_)
  · have h := it_pos h hc4
    refine lv_iload_n (pc := 43) X.1 X.2.1 dX8_inRings_43 rfl (lv_at hl 1 rfl) ?_
    have h := Option.some.inj h
    have h := hz1 _ h.symm
    exact m_iret (pc := 44) X G hr hlk dX8_inRings_44 (congrArg Prod.snd h) (congrArg (fun q : MS × Int32 => celM κ ad r0 q.1) h)
  · have h := it_neg h hc4
    refine lv_iload_n (pc := 14) X.1 X.2.1 dX8_inRings_14 rfl (lv_at hl 1 rfl) ?_
    refine lv_aload_n (pc := 15) X.1 X.2.1 dX8_inRings_15 rfl (lv_at hl 0 rfl) ?_
    refine lv_iload_n (pc := 16) X.1 X.2.1 dX8_inRings_16 rfl (lv_at hl 2 rfl) ?_
    obtain ⟨x5, ex5, h⟩ := bn_some h
    refine M_calli (pc := 17) (z1 := z1) (v := x5) (As := [.int x3]) (rest := [.int x2]) X G (rm := rm8_reached) rfl rfl (c8_reached l D κ A ad r0 z1 x3 x5 ex5) g_X8_251 hd_yX8_reached ⟨Nat.le_of_ble_eq_true rfl, Nat.le_of_ble_eq_true rfl⟩ rfl hl rfl (lv_room (Nat.le_of_ble_eq_true rfl)) dX8_inRings_17 ⟨Nat.le_of_ble_eq_true rfl, Nat.le_of_ble_eq_true rfl⟩ (fun H locs G => ?_)
    refine lv_iload_n (pc := 20) X.1 X.2.1 dX8_inRings_20 rfl (lv_at hl 2 rfl) ?_
    refine lv_ishr (pc := 21) X.1 X.2.1 dX8_inRings_21 ?_
    refine lv_iconst (pc := 22) (v := 1) X.1 X.2.1 dX8_inRings_22 (by decide) ?_
    refine lv_iand (pc := 23) X.1 X.2.1 dX8_inRings_23 ?_
    refine lv_iconst (pc := 24) (v := 1) X.1 X.2.1 dX8_inRings_24 (by decide) ?_
    obtain ⟨k6, ek6, h⟩ := jp_some h
    have hk6 : ∀ (x8 : Int32) (H : Heap) (locs : List Loc) (ls : Array Slot), k6 x8 = some y1 → Mm D κ A ad (celM κ ad r0 z1) s H locs → lv_has ls 3 [(0, .ref (ad 43)), (2, .int x3)] → W p l e rm8_inRings s m [.ref (ad 43)].toArray below meth c H locs 0 0 (MQ below (QI D κ A ad (celM κ ad r0 res.1) res.2) [.ref (ad 43)].toArray s 0 0 A) (F0 m 35 ls [.int x8, .int x2]) := by
      intro x8 H locs ls h G hl
      rw [ek6] at h
      try dsimp only at h
      refine lv_ior (pc := 35) X.1 X.2.1 dX8_inRings_35 ?_
      refine lv_topi (fun x9 ex9 => ?_)
      have h := bd_at h ex9
      refine lv_istore_n (pc := 36) (lv' := [(1, .int x9), (0, .ref (ad 43)), (2, .int x3)]) X.1 X.2.1 dX8_inRings_36 rfl hl (by decide) rfl (fun ls hl => ?_)
      obtain ⟨x10, ex10, h⟩ := bd_some h
      refine lv_iinc (pc := 37) (v := x10) (lv' := [(2, .int x10), (1, .int x9), (0, .ref (ad 43))]) X.1 X.2.1 dX8_inRings_37 hl (k := 2) rfl (by rw [ex10]; rfl) (by decide) rfl (fun ls hl => ?_)
      refine lv_goto (pc := 40) (tgt := 8) X.1 X.2.1 dX8_inRings_40 (by decide) ?_
      have h := Option.some.inj h
      exact ih1 _ h.symm _ _ ls G (lv_sub hl [2, 1, 0] rfl)
    refine lv_icmp_ne (pc := 25) (tgt := 34) X.1 X.2.1 dX8_inRings_25 (by decide) (fun hc7 => ?_) (fun hc7 => ?_)
    · have h := it_pos h hc7
      refine lv_iconst (pc := 34) (v := 0) X.1 X.2.1 dX8_inRings_34 (by decide) ?_
      exact hk6 0 _ _ ls h G (lv_sub hl [0, 2] rfl)
    · have h := it_neg h (fun q => q hc7)
      refine lv_iconst (pc := 28) (v := 1) X.1 X.2.1 dX8_inRings_28 (by decide) ?_
      refine lv_iload_n (pc := 29) X.1 X.2.1 dX8_inRings_29 rfl (lv_at hl 2 rfl) ?_
      refine lv_ishl (pc := 30) X.1 X.2.1 dX8_inRings_30 ?_
      refine lv_goto (pc := 31) (tgt := 35) X.1 X.2.1 dX8_inRings_31 (by decide) ?_
      exact hk6 ((1 : Int32) <<< (x3 &&& 31)) _ _ ls h G (lv_sub hl [0, 2] rfl)

abbrev rm8_rings : Room := { frames := 5, cells := 0, slots := 0, locals := 109 }
noncomputable def F8_rings (z : MS)  : Option (MS × Int32) :=
  bd (up2 z 43 7 0) fun z1 =>
  bn2 (F8_inRings z1) fun z3 x2 =>
  some (z3, x2)
set_option maxHeartbeats 4000000 in
set_option maxRecDepth 100000 in
theorem c8_rings (l : Launch) (D : va_G) (κ : Nat → ClassId) (A : Nat → Prop) (ad : Nat → Nat) (r0 : Nat → Option va_E) (z : MS)  (res : MS × Int32) (h : F8_rings z  = some res) : Met l yX8_rings (gw yX8_rings cX8_rings 1 (some (FieldType.int))) rm8_rings (va_Pc [.ref (ad 43)] (MW D κ A ad (celM κ ad r0 z))) (QI D κ A ad (celM κ ad r0 res.1) res.2) 0 0 A := by
  refine met_of (own := RX8) (by decide +kernel) rfl (Nat.le_of_ble_eq_true rfl) ?_
  intro p e s m below meth c ls X hr hlk G hl
  have hl : lv_has ls 1 [(0, .ref (ad 43))] := hl
  unfold F8_rings at h
  refine lv_aload_n (pc := 0) X.1 X.2.1 dX8_rings_0 rfl (lv_at hl 0 rfl) ?_
  refine lv_iconst (pc := 1) (v := 0) X.1 X.2.1 dX8_rings_1 (by decide) ?_
  obtain ⟨z1, ez1, h⟩ := bd_some h
  refine M_puti (pc := 2) X G 7 ez1 (by decide) (by decide +kernel) fl_X8_98 dX8_rings_2 (fun H locs G => ?_)
  refine lv_aload_n (pc := 5) X.1 X.2.1 dX8_rings_5 rfl (lv_at hl 0 rfl) ?_
  obtain ⟨z3, x2, ex2, h⟩ := bn2_some h
  refine M_calli (pc := 6) (z1 := z3) (v := x2) (As := []) (rest := []) X G (rm := rm8_inRings) rfl rfl (c8_inRings l D κ A ad r0 z1  (z3, x2) ex2) g_X8_260 hd_yX8_inRings ⟨Nat.le_of_ble_eq_true rfl, Nat.le_of_ble_eq_true rfl⟩ rfl hl rfl (lv_room (Nat.le_of_ble_eq_true rfl)) dX8_rings_6 ⟨Nat.le_of_ble_eq_true rfl, Nat.le_of_ble_eq_true rfl⟩ (fun H locs G => ?_)
  have h := Option.some.inj h
  exact m_iret (pc := 9) X G hr hlk dX8_rings_9 (congrArg Prod.snd h) (congrArg (fun q : MS × Int32 => celM κ ad r0 q.1) h)

abbrev rm8_all : Room := { frames := 1, cells := 0, slots := 0, locals := 21 }
noncomputable def F8_all (z : MS)  : Option (Int32) :=
  Loop (fun (q : Int32 × Int32) => (fun (x1 : Int32) (x2 : Int32) =>
  if 26 ≤ x2 then
  some (.inr x1)
  else
  bn (F8_isDefined z x2) fun x4 =>
  jp (fun (x7 : Int32) => bd (x1 ||| x7) fun x8 =>
  bd (x2 + 1) fun x9 =>
  some (.inl (x8, x9))) fun k5 =>
  if x4 = 0 then
  k5 0
  else
  k5 ((1 : Int32) <<< (x2 &&& 31))) q.1 q.2) (0, 0)
set_option maxHeartbeats 4000000 in
set_option maxRecDepth 100000 in
theorem c8_all (l : Launch) (D : va_G) (κ : Nat → ClassId) (A : Nat → Prop) (ad : Nat → Nat) (r0 : Nat → Option va_E) (z : MS)  (res : Int32) (h : F8_all z  = some res) : Met l yX8_all (gw yX8_all cX8_all 3 (some (FieldType.int))) rm8_all (va_Pc [.ref (ad 43)] (MW D κ A ad (celM κ ad r0 z))) (QI D κ A ad (celM κ ad r0 z) res) 0 0 A := by
  refine met_of (own := RX8) (by decide +kernel) rfl (Nat.le_of_ble_eq_true rfl) ?_
  intro p e s m below meth c ls X hr hlk G hl
  have hl : lv_has ls 3 [(0, .ref (ad 43))] := hl
  unfold F8_all at h
  refine lv_iconst (pc := 0) (v := 0) X.1 X.2.1 dX8_all_0 (by decide) ?_
  refine lv_istore_n (pc := 1) (lv' := [(1, .int 0), (0, .ref (ad 43))]) X.1 X.2.1 dX8_all_1 rfl hl (by decide) rfl (fun ls hl => ?_)
  refine lv_iconst (pc := 2) (v := 0) X.1 X.2.1 dX8_all_2 (by decide) ?_
  refine lv_istore_n (pc := 3) (lv' := [(2, .int 0), (1, .int 0), (0, .ref (ad 43))]) X.1 X.2.1 dX8_all_3 rfl hl (by decide) rfl (fun ls hl => ?_)
  refine Loop_ind (P := fun (q : Int32 × Int32) => ∀ (H : Heap) (locs : List Loc) (ls : Array Slot), Mm D κ A ad (celM κ ad r0 z) s H locs → lv_has ls 3 [(0, .ref (ad 43)), (1, .int q.1), (2, .int q.2)] → W p l e rm8_all s m [.ref (ad 43)].toArray below meth c H locs 0 0 (MQ below (QI D κ A ad (celM κ ad r0 z) res) [.ref (ad 43)].toArray s 0 0 A) (F0 m 4 ls [])) ?_ h _ _ ls G (lv_sub hl [2, 1, 0] rfl)
  intro q y1 h ih1 hz1 H locs ls G hl
  obtain ⟨x1, x2⟩ := q
  try dsimp only at h ih1 G hl ⊢
  refine lv_iload_n (pc := 4) X.1 X.2.1 dX8_all_4 rfl (lv_at hl 2 rfl) ?_
  refine lv_bipush (pc := 5) (v := 26) X.1 X.2.1 dX8_all_5 (by decide) ?_
  refine lv_icmp_ge (pc := 7) (tgt := 34) X.1 X.2.1 dX8_all_7 (by decide) (fun hc3 => ?_) (fun hc3 => ?_)
  · have h := it_pos h hc3
    refine lv_iload_n (pc := 34) X.1 X.2.1 dX8_all_34 rfl (lv_at hl 1 rfl) ?_
    have h := Option.some.inj h
    have h := hz1 _ h.symm
    exact m_iret (pc := 35) X G hr hlk dX8_all_35 h rfl
  · have h := it_neg h hc3
    refine lv_iload_n (pc := 10) X.1 X.2.1 dX8_all_10 rfl (lv_at hl 1 rfl) ?_
    refine lv_aload_n (pc := 11) X.1 X.2.1 dX8_all_11 rfl (lv_at hl 0 rfl) ?_
    refine lv_iload_n (pc := 12) X.1 X.2.1 dX8_all_12 rfl (lv_at hl 2 rfl) ?_
    obtain ⟨x4, ex4, h⟩ := bn_some h
    refine M_calli (pc := 13) (z1 := z) (v := x4) (As := [.int x2]) (rest := [.int x1]) X G (rm := rm8_isDefined) rfl rfl (c8_isDefined l D κ A ad r0 z x2 x4 ex4) g_X8_112 hd_yX8_isDefined ⟨Nat.le_of_ble_eq_true rfl, Nat.le_of_ble_eq_true rfl⟩ rfl hl rfl (lv_room (Nat.le_of_ble_eq_true rfl)) dX8_all_13 ⟨Nat.le_of_ble_eq_true rfl, Nat.le_of_ble_eq_true rfl⟩ (fun H locs G => ?_)
    obtain ⟨k5, ek5, h⟩ := jp_some h
    have hk5 : ∀ (x7 : Int32) (H : Heap) (locs : List Loc) (ls : Array Slot), k5 x7 = some y1 → Mm D κ A ad (celM κ ad r0 z) s H locs → lv_has ls 3 [(0, .ref (ad 43)), (2, .int x2)] → W p l e rm8_all s m [.ref (ad 43)].toArray below meth c H locs 0 0 (MQ below (QI D κ A ad (celM κ ad r0 z) res) [.ref (ad 43)].toArray s 0 0 A) (F0 m 26 ls [.int x7, .int x1]) := by
      intro x7 H locs ls h G hl
      rw [ek5] at h
      try dsimp only at h
      refine lv_ior (pc := 26) X.1 X.2.1 dX8_all_26 ?_
      refine lv_topi (fun x8 ex8 => ?_)
      have h := bd_at h ex8
      refine lv_istore_n (pc := 27) (lv' := [(1, .int x8), (0, .ref (ad 43)), (2, .int x2)]) X.1 X.2.1 dX8_all_27 rfl hl (by decide) rfl (fun ls hl => ?_)
      obtain ⟨x9, ex9, h⟩ := bd_some h
      refine lv_iinc (pc := 28) (v := x9) (lv' := [(2, .int x9), (1, .int x8), (0, .ref (ad 43))]) X.1 X.2.1 dX8_all_28 hl (k := 2) rfl (by rw [ex9]; rfl) (by decide) rfl (fun ls hl => ?_)
      refine lv_goto (pc := 31) (tgt := 4) X.1 X.2.1 dX8_all_31 (by decide) ?_
      have h := Option.some.inj h
      exact ih1 _ h.symm _ _ ls G (lv_sub hl [2, 1, 0] rfl)
    refine lv_if_eq (pc := 16) (tgt := 25) X.1 X.2.1 dX8_all_16 (by decide) (fun hc6 => ?_) (fun hc6 => ?_)
    · have h := it_pos h hc6
      refine lv_iconst (pc := 25) (v := 0) X.1 X.2.1 dX8_all_25 (by decide) ?_
      exact hk5 0 _ _ ls h G (lv_sub hl [0, 2] rfl)
    · have h := it_neg h hc6
      refine lv_iconst (pc := 19) (v := 1) X.1 X.2.1 dX8_all_19 (by decide) ?_
      refine lv_iload_n (pc := 20) X.1 X.2.1 dX8_all_20 rfl (lv_at hl 2 rfl) ?_
      refine lv_ishl (pc := 21) X.1 X.2.1 dX8_all_21 ?_
      refine lv_goto (pc := 22) (tgt := 26) X.1 X.2.1 dX8_all_22 (by decide) ?_
      exact hk5 ((1 : Int32) <<< (x2 &&& 31)) _ _ ls h G (lv_sub hl [0, 2] rfl)

abbrev rm8_missing : Room := { frames := 3, cells := 0, slots := 0, locals := 66 }
noncomputable def F8_missing (z : MS)  : Option (MS × Int32) :=
  bd (up2 z 43 7 0) fun z1 =>
  Loop (fun (q : Int32 × Int32) => (fun (x2 : Int32) (x3 : Int32) =>
  if 26 ≤ x3 then
  bn (F8_all z1) fun x5 =>
  some (.inr (z1, x2 &&& (x5 ^^^ (-1))))
  else
  bn (F8_called z1 x3) fun x6 =>
  bd (x2 ||| x6) fun x7 =>
  bd (x3 + 1) fun x8 =>
  some (.inl (x7, x8))) q.1 q.2) (0, 0)
set_option maxHeartbeats 4000000 in
set_option maxRecDepth 100000 in
theorem c8_missing (l : Launch) (D : va_G) (κ : Nat → ClassId) (A : Nat → Prop) (ad : Nat → Nat) (r0 : Nat → Option va_E) (z : MS)  (res : MS × Int32) (h : F8_missing z  = some res) : Met l yX8_missing (gw yX8_missing cX8_missing 3 (some (FieldType.int))) rm8_missing (va_Pc [.ref (ad 43)] (MW D κ A ad (celM κ ad r0 z))) (QI D κ A ad (celM κ ad r0 res.1) res.2) 0 0 A := by
  refine met_of (own := RX8) (by decide +kernel) rfl (Nat.le_of_ble_eq_true rfl) ?_
  intro p e s m below meth c ls X hr hlk G hl
  have hl : lv_has ls 3 [(0, .ref (ad 43))] := hl
  unfold F8_missing at h
  refine lv_aload_n (pc := 0) X.1 X.2.1 dX8_missing_0 rfl (lv_at hl 0 rfl) ?_
  refine lv_iconst (pc := 1) (v := 0) X.1 X.2.1 dX8_missing_1 (by decide) ?_
  obtain ⟨z1, ez1, h⟩ := bd_some h
  refine M_puti (pc := 2) X G 7 ez1 (by decide) (by decide +kernel) fl_X8_98 dX8_missing_2 (fun H locs G => ?_)
  refine lv_iconst (pc := 5) (v := 0) X.1 X.2.1 dX8_missing_5 (by decide) ?_
  refine lv_istore_n (pc := 6) (lv' := [(1, .int 0), (0, .ref (ad 43))]) X.1 X.2.1 dX8_missing_6 rfl hl (by decide) rfl (fun ls hl => ?_)
  refine lv_iconst (pc := 7) (v := 0) X.1 X.2.1 dX8_missing_7 (by decide) ?_
  refine lv_istore_n (pc := 8) (lv' := [(2, .int 0), (1, .int 0), (0, .ref (ad 43))]) X.1 X.2.1 dX8_missing_8 rfl hl (by decide) rfl (fun ls hl => ?_)
  refine Loop_ind (P := fun (q : Int32 × Int32) => ∀ (H : Heap) (locs : List Loc) (ls : Array Slot), Mm D κ A ad (celM κ ad r0 z1) s H locs → lv_has ls 3 [(0, .ref (ad 43)), (1, .int q.1), (2, .int q.2)] → W p l e rm8_missing s m [.ref (ad 43)].toArray below meth c H locs 0 0 (MQ below (QI D κ A ad (celM κ ad r0 res.1) res.2) [.ref (ad 43)].toArray s 0 0 A) (F0 m 9 ls [])) ?_ h _ _ ls G (lv_sub hl [2, 1, 0] rfl)
  intro q y1 h ih1 hz1 H locs ls G hl
  obtain ⟨x2, x3⟩ := q
  try dsimp only at h ih1 G hl ⊢
  refine lv_iload_n (pc := 9) X.1 X.2.1 dX8_missing_9 rfl (lv_at hl 2 rfl) ?_
  refine lv_bipush (pc := 10) (v := 26) X.1 X.2.1 dX8_missing_10 (by decide) ?_
  refine lv_icmp_ge (pc := 12) (tgt := 29) X.1 X.2.1 dX8_missing_12 (by decide) (fun hc4 => ?_) (fun hc4 => ?_)
  · have h := it_pos h hc4
    refine lv_iload_n (pc := 29) X.1 X.2.1 dX8_missing_29 rfl (lv_at hl 1 rfl) ?_
    refine lv_aload_n (pc := 30) X.1 X.2.1 dX8_missing_30 rfl (lv_at hl 0 rfl) ?_
    obtain ⟨x5, ex5, h⟩ := bn_some h
    refine M_calli (pc := 31) (z1 := z1) (v := x5) (As := []) (rest := [.int x2]) X G (rm := rm8_all) rfl rfl (c8_all l D κ A ad r0 z1  x5 ex5) g_X8_263 hd_yX8_all ⟨Nat.le_of_ble_eq_true rfl, Nat.le_of_ble_eq_true rfl⟩ rfl hl rfl (lv_room (Nat.le_of_ble_eq_true rfl)) dX8_missing_31 ⟨Nat.le_of_ble_eq_true rfl, Nat.le_of_ble_eq_true rfl⟩ (fun H locs G => ?_)
    refine lv_iconst (pc := 34) (v := (-1)) X.1 X.2.1 dX8_missing_34 (by decide) ?_
    refine lv_ixor (pc := 35) X.1 X.2.1 dX8_missing_35 ?_
    refine lv_iand (pc := 36) X.1 X.2.1 dX8_missing_36 ?_
    have h := Option.some.inj h
    have h := hz1 _ h.symm
    exact m_iret (pc := 37) X G hr hlk dX8_missing_37 (congrArg Prod.snd h) (congrArg (fun q : MS × Int32 => celM κ ad r0 q.1) h)
  · have h := it_neg h hc4
    refine lv_iload_n (pc := 15) X.1 X.2.1 dX8_missing_15 rfl (lv_at hl 1 rfl) ?_
    refine lv_aload_n (pc := 16) X.1 X.2.1 dX8_missing_16 rfl (lv_at hl 0 rfl) ?_
    refine lv_iload_n (pc := 17) X.1 X.2.1 dX8_missing_17 rfl (lv_at hl 2 rfl) ?_
    obtain ⟨x6, ex6, h⟩ := bn_some h
    refine M_calli (pc := 18) (z1 := z1) (v := x6) (As := [.int x3]) (rest := [.int x2]) X G (rm := rm8_called) rfl rfl (c8_called l D κ A ad r0 z1 x3 x6 ex6) g_X8_248 hd_yX8_called ⟨Nat.le_of_ble_eq_true rfl, Nat.le_of_ble_eq_true rfl⟩ rfl hl rfl (lv_room (Nat.le_of_ble_eq_true rfl)) dX8_missing_18 ⟨Nat.le_of_ble_eq_true rfl, Nat.le_of_ble_eq_true rfl⟩ (fun H locs G => ?_)
    refine lv_ior (pc := 21) X.1 X.2.1 dX8_missing_21 ?_
    refine lv_topi (fun x7 ex7 => ?_)
    have h := bd_at h ex7
    refine lv_istore_n (pc := 22) (lv' := [(1, .int x7), (0, .ref (ad 43)), (2, .int x3)]) X.1 X.2.1 dX8_missing_22 rfl hl (by decide) rfl (fun ls hl => ?_)
    obtain ⟨x8, ex8, h⟩ := bd_some h
    refine lv_iinc (pc := 23) (v := x8) (lv' := [(2, .int x8), (1, .int x7), (0, .ref (ad 43))]) X.1 X.2.1 dX8_missing_23 hl (k := 2) rfl (by rw [ex8]; rfl) (by decide) rfl (fun ls hl => ?_)
    refine lv_goto (pc := 26) (tgt := 9) X.1 X.2.1 dX8_missing_26 (by decide) ?_
    have h := Option.some.inj h
    exact ih1 _ h.symm _ _ ls G (lv_sub hl [2, 1, 0] rfl)

abbrev rm8_chain : Room := { frames := 5, cells := 0, slots := 0, locals := 109 }
noncomputable def F8_chain (z : MS) (p0 : Int32) : Option (MS × Int32) :=
  bn (F8_isLetter p0) fun x1 =>
  jp (fun (x4 : Int32) => bn2 (F8_refused z x4) fun z6 x5 =>
  if x5 = 0 then
  bn (F8_isDefined z6 p0) fun x8 =>
  if ¬ x8 = 0 then
  bn2 (F8_inRings z6) fun z11 x10 =>
  bn (F8_reached z11 p0) fun x12 =>
  if ((x12 ||| ((1 : Int32) <<< (p0 &&& 31))) &&& x10) = 0 then
  Loop (fun (q : Int32 × MS) => (fun (x14 : Int32) (z15 : MS) =>
  if 26 ≤ x14 then
  Loop (fun (q : Int32 × MS) => (fun (x17 : Int32) (z18 : MS) =>
  if 26 ≤ x17 then
  rd (z18 41) 26 p0 fun x20 =>
  some (.inr (.inr (z18, x20)))
  else
  Loop (fun (q : Int32 × MS) => (fun (x21 : Int32) (z22 : MS) =>
  if 26 ≤ x21 then
  bd (x17 + 1) fun x24 =>
  some (.inr (.inl (x24, z22)))
  else
  Loop (fun (q : Int32 × MS) => (fun (x25 : Int32) (z26 : MS) =>
  if 26 ≤ x25 then
  bd (x21 + 1) fun x28 =>
  some (.inr (.inl (x28, z26)))
  else
  rd (z26 40) 26 x21 fun x29 =>
  jp (fun (x40 : Int32) => jp (fun (x45 : Int32) => wr z26 41 26 x21 x45 fun z46 =>
  bd (x25 + 1) fun x47 =>
  some (.inl (x47, z46))) fun k41 =>
  if x40 = 0 then
  rd (z26 41) 26 x21 fun x43 =>
  k41 x43
  else
  rd (z26 41) 26 x25 fun x44 =>
  k41 (x44 + 1)) fun k30 =>
  jp (fun (_ : Unit) => k30 0) fun k31 =>
  if ¬ ((x29 >>> (x25 &&& 31)) &&& 1) = 1 then
  k31 ()
  else
  bn (F8_isDefined z26 x25) fun x33 =>
  if x33 = 0 then
  k31 ()
  else
  rd (z26 41) 26 x25 fun x35 =>
  rd (z26 41) 26 x21 fun x36 =>
  if x35 < x36 then
  k31 ()
  else
  rd (z26 41) 26 x25 fun x38 =>
  if 26 ≤ x38 then
  k31 ()
  else
  k30 1) q.1 q.2) (0, z22)) q.1 q.2) (0, z18)) q.1 q.2) (0, z15)
  else
  bn (F8_isDefined z15 x14) fun x48 =>
  jp (fun (x51 : Int32) => wr z15 41 26 x14 x51 fun z52 =>
  bd (x14 + 1) fun x53 =>
  some (.inl (x53, z52))) fun k49 =>
  if x48 = 0 then
  k49 0
  else
  k49 1) q.1 q.2) (0, z11)
  else
  some (z11, (-1))
  else
  some (z6, 0)
  else
  some (z6, 0)) fun k2 =>
  if x1 = 0 then
  k2 1
  else
  k2 0
set_option maxHeartbeats 4000000 in
set_option maxRecDepth 100000 in
theorem c8_chain (l : Launch) (D : va_G) (κ : Nat → ClassId) (A : Nat → Prop) (ad : Nat → Nat) (r0 : Nat → Option va_E) (z : MS) (p0 : Int32) (res : MS × Int32) (h : F8_chain z p0 = some res) : Met l yX8_chain (gw yX8_chain cX8_chain 7 (some (FieldType.int))) rm8_chain (va_Pc [.ref (ad 43), .int p0] (MW D κ A ad (celM κ ad r0 z))) (QI D κ A ad (celM κ ad r0 res.1) res.2) 0 0 A := by
  refine met_of (own := RX8) (by decide +kernel) rfl (Nat.le_of_ble_eq_true rfl) ?_
  intro p e s m below meth c ls X hr hlk G hl
  have hl : lv_has ls 7 [(0, .ref (ad 43)), (1, .int p0)] := hl
  unfold F8_chain at h
  refine lv_aload_n (pc := 0) X.1 X.2.1 dX8_chain_0 rfl (lv_at hl 0 rfl) ?_
  refine lv_iload_n (pc := 1) X.1 X.2.1 dX8_chain_1 rfl (lv_at hl 1 rfl) ?_
  obtain ⟨x1, ex1, h⟩ := bn_some h
  refine m_callsi0 (pc := 2) (v := x1) (As := [.int p0]) (rest := [.ref (ad 43)]) X G (rm := rm8_isLetter) rfl rfl (c8_isLetter l D κ A ad (celM κ ad r0 z) p0 x1 ex1) g_X8_132 hs_yX8_isLetter ⟨Nat.le_of_ble_eq_true rfl, Nat.le_of_ble_eq_true rfl⟩ rfl hl rfl (lv_room (Nat.le_of_ble_eq_true rfl)) dX8_chain_2 ⟨Nat.le_of_ble_eq_true rfl, Nat.le_of_ble_eq_true rfl⟩ (fun H locs G => ?_)
  obtain ⟨k2, ek2, h⟩ := jp_some h
  have hk2 : ∀ (x4 : Int32) (H : Heap) (locs : List Loc) (ls : Array Slot), k2 x4 = some res → Mm D κ A ad (celM κ ad r0 z) s H locs → lv_has ls 7 [(0, .ref (ad 43)), (1, .int p0)] → W p l e rm8_chain s m [.ref (ad 43), .int p0].toArray below meth c H locs 0 0 (MQ below (QI D κ A ad (celM κ ad r0 res.1) res.2) [.ref (ad 43), .int p0].toArray s 0 0 A) (F0 m 13 ls [.int x4, .ref (ad 43)]) := by
    intro x4 H locs ls h G hl
    rw [ek2] at h
    try dsimp only at h
    obtain ⟨z6, x5, ex5, h⟩ := bn2_some h
    refine M_calli (pc := 13) (z1 := z6) (v := x5) (As := [.int x4]) (rest := []) X G (rm := rm8_refused) rfl rfl (c8_refused l D κ A ad r0 z x4 (z6, x5) ex5) g_X8_116 hd_yX8_refused ⟨Nat.le_of_ble_eq_true rfl, Nat.le_of_ble_eq_true rfl⟩ rfl hl rfl (lv_room (Nat.le_of_ble_eq_true rfl)) dX8_chain_13 ⟨Nat.le_of_ble_eq_true rfl, Nat.le_of_ble_eq_true rfl⟩ (fun H locs G => ?_)
    refine lv_if_eq (pc := 16) (tgt := 21) X.1 X.2.1 dX8_chain_16 (by decide) (fun hc7 => ?_) (fun hc7 => ?_)
    · have h := it_pos h hc7
      refine lv_aload_n (pc := 21) X.1 X.2.1 dX8_chain_21 rfl (lv_at hl 0 rfl) ?_
      refine lv_iload_n (pc := 22) X.1 X.2.1 dX8_chain_22 rfl (lv_at hl 1 rfl) ?_
      obtain ⟨x8, ex8, h⟩ := bn_some h
      refine M_calli (pc := 23) (z1 := z6) (v := x8) (As := [.int p0]) (rest := []) X G (rm := rm8_isDefined) rfl rfl (c8_isDefined l D κ A ad r0 z6 p0 x8 ex8) g_X8_112 hd_yX8_isDefined ⟨Nat.le_of_ble_eq_true rfl, Nat.le_of_ble_eq_true rfl⟩ rfl hl rfl (lv_room (Nat.le_of_ble_eq_true rfl)) dX8_chain_23 ⟨Nat.le_of_ble_eq_true rfl, Nat.le_of_ble_eq_true rfl⟩ (fun H locs G => ?_)
      refine lv_if_ne (pc := 26) (tgt := 31) X.1 X.2.1 dX8_chain_26 (by decide) (fun hc9 => ?_) (fun hc9 => ?_)
      · have h := it_pos h hc9
        refine lv_aload_n (pc := 31) X.1 X.2.1 dX8_chain_31 rfl (lv_at hl 0 rfl) ?_
        obtain ⟨z11, x10, ex10, h⟩ := bn2_some h
        refine M_calli (pc := 32) (z1 := z11) (v := x10) (As := []) (rest := []) X G (rm := rm8_inRings) rfl rfl (c8_inRings l D κ A ad r0 z6  (z11, x10) ex10) g_X8_260 hd_yX8_inRings ⟨Nat.le_of_ble_eq_true rfl, Nat.le_of_ble_eq_true rfl⟩ rfl hl rfl (lv_room (Nat.le_of_ble_eq_true rfl)) dX8_chain_32 ⟨Nat.le_of_ble_eq_true rfl, Nat.le_of_ble_eq_true rfl⟩ (fun H locs G => ?_)
        refine lv_istore_n (pc := 35) (lv' := [(2, .int x10), (0, .ref (ad 43)), (1, .int p0)]) X.1 X.2.1 dX8_chain_35 rfl hl (by decide) rfl (fun ls hl => ?_)
        refine lv_aload_n (pc := 36) X.1 X.2.1 dX8_chain_36 rfl (lv_at hl 1 rfl) ?_
        refine lv_iload_n (pc := 37) X.1 X.2.1 dX8_chain_37 rfl (lv_at hl 2 rfl) ?_
        obtain ⟨x12, ex12, h⟩ := bn_some h
        refine M_calli (pc := 38) (z1 := z11) (v := x12) (As := [.int p0]) (rest := []) X G (rm := rm8_reached) rfl rfl (c8_reached l D κ A ad r0 z11 p0 x12 ex12) g_X8_251 hd_yX8_reached ⟨Nat.le_of_ble_eq_true rfl, Nat.le_of_ble_eq_true rfl⟩ rfl hl rfl (lv_room (Nat.le_of_ble_eq_true rfl)) dX8_chain_38 ⟨Nat.le_of_ble_eq_true rfl, Nat.le_of_ble_eq_true rfl⟩ (fun H locs G => ?_)
        refine lv_iconst (pc := 41) (v := 1) X.1 X.2.1 dX8_chain_41 (by decide) ?_
        refine lv_iload_n (pc := 42) X.1 X.2.1 dX8_chain_42 rfl (lv_at hl 2 rfl) ?_
        refine lv_ishl (pc := 43) X.1 X.2.1 dX8_chain_43 ?_
        refine lv_ior (pc := 44) X.1 X.2.1 dX8_chain_44 ?_
        refine lv_iload_n (pc := 45) X.1 X.2.1 dX8_chain_45 rfl (lv_at hl 0 rfl) ?_
        refine lv_iand (pc := 46) X.1 X.2.1 dX8_chain_46 ?_
        refine lv_if_eq (pc := 47) (tgt := 52) X.1 X.2.1 dX8_chain_47 (by decide) (fun hc13 => ?_) (fun hc13 => ?_)
        · have h := it_pos h hc13
          refine lv_iconst (pc := 52) (v := 0) X.1 X.2.1 dX8_chain_52 (by decide) ?_
          refine lv_istore_n (pc := 53) (lv' := [(3, .int 0), (2, .int x10), (0, .ref (ad 43)), (1, .int p0)]) X.1 X.2.1 dX8_chain_53 rfl hl (by decide) rfl (fun ls hl => ?_)
          refine Loop_ind (P := fun (q : Int32 × MS) => ∀ (H : Heap) (locs : List Loc) (ls : Array Slot), Mm D κ A ad (celM κ ad r0 q.2) s H locs → lv_has ls 7 [(0, .ref (ad 43)), (1, .int p0), (3, .int q.1)] → W p l e rm8_chain s m [.ref (ad 43), .int p0].toArray below meth c H locs 0 0 (MQ below (QI D κ A ad (celM κ ad r0 res.1) res.2) [.ref (ad 43), .int p0].toArray s 0 0 A) (F0 m 54 ls [])) ?_ h _ _ ls G (lv_sub hl [2, 3, 0] rfl)
          intro q y1 h ih1 hz1 H locs ls G hl
          obtain ⟨x14, z15⟩ := q
          try dsimp only at h ih1 G hl ⊢
          refine lv_iload_n (pc := 54) X.1 X.2.1 dX8_chain_54 rfl (lv_at hl 2 rfl) ?_
          refine lv_bipush (pc := 55) (v := 26) X.1 X.2.1 dX8_chain_55 (by decide) ?_
          refine lv_icmp_ge (pc := 57) (tgt := 85) X.1 X.2.1 dX8_chain_57 (by decide) (fun hc16 => ?_) (fun hc16 => ?_)
          · have h := it_pos h hc16
            refine lv_iconst (pc := 85) (v := 0) X.1 X.2.1 dX8_chain_85 (by decide) ?_
            refine lv_istore_n (pc := 86) (lv' := [(3, .int 0), (0, .ref (ad 43)), (1, .int p0)]) X.1 X.2.1 dX8_chain_86 rfl hl (by decide) rfl (fun ls hl => ?_)
            refine Loop_ind (P := fun (q : Int32 × MS) => ∀ (H : Heap) (locs : List Loc) (ls : Array Slot), Mm D κ A ad (celM κ ad r0 q.2) s H locs → lv_has ls 7 [(0, .ref (ad 43)), (1, .int p0), (3, .int q.1)] → W p l e rm8_chain s m [.ref (ad 43), .int p0].toArray below meth c H locs 0 0 (MQ below (QI D κ A ad (celM κ ad r0 res.1) res.2) [.ref (ad 43), .int p0].toArray s 0 0 A) (F0 m 87 ls [])) ?_ h _ _ ls G (lv_sub hl [1, 2, 0] rfl)
            intro q y2 h ih2 hz2 H locs ls G hl
            obtain ⟨x17, z18⟩ := q
            try dsimp only at h ih2 G hl ⊢
            refine lv_iload_n (pc := 87) X.1 X.2.1 dX8_chain_87 rfl (lv_at hl 2 rfl) ?_
            refine lv_bipush (pc := 88) (v := 26) X.1 X.2.1 dX8_chain_88 (by decide) ?_
            refine lv_icmp_ge (pc := 90) (tgt := 223) X.1 X.2.1 dX8_chain_90 (by decide) (fun hc19 => ?_) (fun hc19 => ?_)
            · have h := it_pos h hc19
              refine lv_aload_n (pc := 223) X.1 X.2.1 dX8_chain_223 rfl (lv_at hl 0 rfl) ?_
              refine M_getr (pc := 224) X G 41 (by decide) (by decide +kernel) fl_X8_92 dX8_chain_224 ?_
              refine lv_iload_n (pc := 227) X.1 X.2.1 dX8_chain_227 rfl (lv_at hl 1 rfl) ?_
              obtain ⟨hix20, h⟩ := rd_some h
              refine M_iald (pc := 228) X G (i := 41) (n := 26) (by decide +kernel) (by decide) rfl hix20 dX8_chain_228 ?_
              refine lv_topi (fun x20 ex20 => ?_)
              rw [← ex20] at h
              have h := Option.some.inj h
              have h := hz2 _ h.symm
              have h := hz1 _ h.symm
              exact m_iret (pc := 229) X G hr hlk dX8_chain_229 (congrArg Prod.snd h) (congrArg (fun q : MS × Int32 => celM κ ad r0 q.1) h)
            · have h := it_neg h hc19
              refine lv_iconst (pc := 93) (v := 0) X.1 X.2.1 dX8_chain_93 (by decide) ?_
              refine lv_istore (pc := 94) (lv' := [(4, .int 0), (0, .ref (ad 43)), (1, .int p0), (3, .int x17)]) X.1 X.2.1 dX8_chain_94 hl (by decide) rfl (fun ls hl => ?_)
              refine Loop_ind (P := fun (q : Int32 × MS) => ∀ (H : Heap) (locs : List Loc) (ls : Array Slot), Mm D κ A ad (celM κ ad r0 q.2) s H locs → lv_has ls 7 [(0, .ref (ad 43)), (1, .int p0), (3, .int x17), (4, .int q.1)] → W p l e rm8_chain s m [.ref (ad 43), .int p0].toArray below meth c H locs 0 0 (MQ below (QI D κ A ad (celM κ ad r0 res.1) res.2) [.ref (ad 43), .int p0].toArray s 0 0 A) (F0 m 96 ls [])) ?_ h _ _ ls G (lv_sub hl [1, 2, 3, 0] rfl)
              intro q y3 h ih3 hz3 H locs ls G hl
              obtain ⟨x21, z22⟩ := q
              try dsimp only at h ih3 G hl ⊢
              refine lv_iload (pc := 96) X.1 X.2.1 dX8_chain_96 (lv_at hl 3 rfl) ?_
              refine lv_bipush (pc := 98) (v := 26) X.1 X.2.1 dX8_chain_98 (by decide) ?_
              refine lv_icmp_ge (pc := 100) (tgt := 217) X.1 X.2.1 dX8_chain_100 (by decide) (fun hc23 => ?_) (fun hc23 => ?_)
              · have h := it_pos h hc23
                obtain ⟨x24, ex24, h⟩ := bd_some h
                refine lv_iinc (pc := 217) (v := x24) (lv' := [(3, .int x24), (0, .ref (ad 43)), (1, .int p0), (4, .int x21)]) X.1 X.2.1 dX8_chain_217 hl (k := 2) rfl (by rw [ex24]; rfl) (by decide) rfl (fun ls hl => ?_)
                refine lv_goto (pc := 220) (tgt := 87) X.1 X.2.1 dX8_chain_220 (by decide) ?_
                have h := Option.some.inj h
                have h := hz3 _ h.symm
                exact ih2 _ h.symm _ _ ls G (lv_sub hl [1, 2, 0] rfl)
              · have h := it_neg h hc23
                refine lv_iconst (pc := 103) (v := 0) X.1 X.2.1 dX8_chain_103 (by decide) ?_
                refine lv_istore (pc := 104) (lv' := [(5, .int 0), (0, .ref (ad 43)), (1, .int p0), (3, .int x17), (4, .int x21)]) X.1 X.2.1 dX8_chain_104 hl (by decide) rfl (fun ls hl => ?_)
                refine Loop_ind (P := fun (q : Int32 × MS) => ∀ (H : Heap) (locs : List Loc) (ls : Array Slot), Mm D κ A ad (celM κ ad r0 q.2) s H locs → lv_has ls 7 [(0, .ref (ad 43)), (1, .int p0), (3, .int x17), (4, .int x21), (5, .int q.1)] → W p l e rm8_chain s m [.ref (ad 43), .int p0].toArray below meth c H locs 0 0 (MQ below (QI D κ A ad (celM κ ad r0 res.1) res.2) [.ref (ad 43), .int p0].toArray s 0 0 A) (F0 m 106 ls [])) ?_ h _ _ ls G (lv_sub hl [1, 2, 3, 4, 0] rfl)
                intro q y4 h ih4 hz4 H locs ls G hl
                obtain ⟨x25, z26⟩ := q
                try dsimp only at h ih4 G hl ⊢
                refine lv_iload (pc := 106) X.1 X.2.1 dX8_chain_106 (lv_at hl 4 rfl) ?_
                refine lv_bipush (pc := 108) (v := 26) X.1 X.2.1 dX8_chain_108 (by decide) ?_
                refine lv_icmp_ge (pc := 110) (tgt := 211) X.1 X.2.1 dX8_chain_110 (by decide) (fun hc27 => ?_) (fun hc27 => ?_)
                · have h := it_pos h hc27
                  obtain ⟨x28, ex28, h⟩ := bd_some h
                  refine lv_iinc (pc := 211) (v := x28) (lv' := [(4, .int x28), (0, .ref (ad 43)), (1, .int p0), (3, .int x17), (5, .int x25)]) X.1 X.2.1 dX8_chain_211 hl (k := 3) rfl (by rw [ex28]; rfl) (by decide) rfl (fun ls hl => ?_)
                  refine lv_goto (pc := 214) (tgt := 96) X.1 X.2.1 dX8_chain_214 (by decide) ?_
                  have h := Option.some.inj h
                  have h := hz4 _ h.symm
                  exact ih3 _ h.symm _ _ ls G (lv_sub hl [1, 2, 3, 0] rfl)
                · have h := it_neg h hc27
                  refine lv_aload_n (pc := 113) X.1 X.2.1 dX8_chain_113 rfl (lv_at hl 0 rfl) ?_
                  refine M_getr (pc := 114) X G 40 (by decide) (by decide +kernel) fl_X8_89 dX8_chain_114 ?_
                  refine lv_iload (pc := 117) X.1 X.2.1 dX8_chain_117 (lv_at hl 3 rfl) ?_
                  obtain ⟨hix29, h⟩ := rd_some h
                  refine M_iald (pc := 119) X G (i := 40) (n := 26) (by decide +kernel) (by decide) rfl hix29 dX8_chain_119 ?_
                  refine lv_topi (fun x29 ex29 => ?_)
                  rw [← ex29] at h
                  refine lv_iload (pc := 120) X.1 X.2.1 dX8_chain_120 (lv_at hl 4 rfl) ?_
                  refine lv_ishr (pc := 122) X.1 X.2.1 dX8_chain_122 ?_
                  refine lv_iconst (pc := 123) (v := 1) X.1 X.2.1 dX8_chain_123 (by decide) ?_
                  refine lv_iand (pc := 124) X.1 X.2.1 dX8_chain_124 ?_
                  refine lv_iconst (pc := 125) (v := 1) X.1 X.2.1 dX8_chain_125 (by decide) ?_
                  obtain ⟨k30, ek30, h⟩ := jp_some h
                  have hk30 : ∀ (x40 : Int32) (H : Heap) (locs : List Loc) (ls : Array Slot), k30 x40 = some y4 → Mm D κ A ad (celM κ ad r0 z26) s H locs → lv_has ls 7 [(0, .ref (ad 43)), (1, .int p0), (3, .int x17), (4, .int x21), (5, .int x25)] → W p l e rm8_chain s m [.ref (ad 43), .int p0].toArray below meth c H locs 0 0 (MQ below (QI D κ A ad (celM κ ad r0 res.1) res.2) [.ref (ad 43), .int p0].toArray s 0 0 A) (F0 m 172 ls [.int x40]) := by
                    intro x40 H locs ls h G hl
                    rw [ek30] at h
                    try dsimp only at h
                    refine lv_istore (pc := 172) (lv' := [(6, .int x40), (0, .ref (ad 43)), (1, .int p0), (3, .int x17), (4, .int x21), (5, .int x25)]) X.1 X.2.1 dX8_chain_172 hl (by decide) rfl (fun ls hl => ?_)
                    refine lv_aload_n (pc := 174) X.1 X.2.1 dX8_chain_174 rfl (lv_at hl 1 rfl) ?_
                    refine M_getr (pc := 175) X G 41 (by decide) (by decide +kernel) fl_X8_92 dX8_chain_175 ?_
                    refine lv_iload (pc := 178) X.1 X.2.1 dX8_chain_178 (lv_at hl 4 rfl) ?_
                    refine lv_iload (pc := 180) X.1 X.2.1 dX8_chain_180 (lv_at hl 0 rfl) ?_
                    obtain ⟨k41, ek41, h⟩ := jp_some h
                    have hk41 : ∀ (x45 : Int32) (H : Heap) (locs : List Loc) (ls : Array Slot), k41 x45 = some y4 → Mm D κ A ad (celM κ ad r0 z26) s H locs → lv_has ls 7 [(0, .ref (ad 43)), (1, .int p0), (3, .int x17), (4, .int x21), (5, .int x25)] → W p l e rm8_chain s m [.ref (ad 43), .int p0].toArray below meth c H locs 0 0 (MQ below (QI D κ A ad (celM κ ad r0 res.1) res.2) [.ref (ad 43), .int p0].toArray s 0 0 A) (F0 m 204 ls [.int x45, .int x21, .ref (ad 41)]) := by
                      intro x45 H locs ls h G hl
                      rw [ek41] at h
                      try dsimp only at h
                      obtain ⟨hiz46, z46, ez46, h⟩ := wr_some h
                      refine M_iast (pc := 204) X G (i := 41) (n := 26) ez46 (by decide +kernel) (by decide) rfl hiz46 dX8_chain_204 (fun H locs G => ?_)
                      obtain ⟨x47, ex47, h⟩ := bd_some h
                      refine lv_iinc (pc := 205) (v := x47) (lv' := [(5, .int x47), (0, .ref (ad 43)), (1, .int p0), (3, .int x17), (4, .int x21)]) X.1 X.2.1 dX8_chain_205 hl (k := 4) rfl (by rw [ex47]; rfl) (by decide) rfl (fun ls hl => ?_)
                      refine lv_goto (pc := 208) (tgt := 106) X.1 X.2.1 dX8_chain_208 (by decide) ?_
                      have h := Option.some.inj h
                      exact ih4 _ h.symm _ _ ls G (lv_sub hl [1, 2, 3, 4, 0] rfl)
                    refine lv_if_eq (pc := 182) (tgt := 197) X.1 X.2.1 dX8_chain_182 (by decide) (fun hc42 => ?_) (fun hc42 => ?_)
                    · have h := it_pos h hc42
                      refine lv_aload_n (pc := 197) X.1 X.2.1 dX8_chain_197 rfl (lv_at hl 1 rfl) ?_
                      refine M_getr (pc := 198) X G 41 (by decide) (by decide +kernel) fl_X8_92 dX8_chain_198 ?_
                      refine lv_iload (pc := 201) X.1 X.2.1 dX8_chain_201 (lv_at hl 4 rfl) ?_
                      obtain ⟨hix43, h⟩ := rd_some h
                      refine M_iald (pc := 203) X G (i := 41) (n := 26) (by decide +kernel) (by decide) rfl hix43 dX8_chain_203 ?_
                      refine lv_topi (fun x43 ex43 => ?_)
                      rw [← ex43] at h
                      exact hk41 x43 _ _ ls h G (lv_sub hl [1, 2, 3, 4, 5] rfl)
                    · have h := it_neg h hc42
                      refine lv_aload_n (pc := 185) X.1 X.2.1 dX8_chain_185 rfl (lv_at hl 1 rfl) ?_
                      refine M_getr (pc := 186) X G 41 (by decide) (by decide +kernel) fl_X8_92 dX8_chain_186 ?_
                      refine lv_iload (pc := 189) X.1 X.2.1 dX8_chain_189 (lv_at hl 5 rfl) ?_
                      obtain ⟨hix44, h⟩ := rd_some h
                      refine M_iald (pc := 191) X G (i := 41) (n := 26) (by decide +kernel) (by decide) rfl hix44 dX8_chain_191 ?_
                      refine lv_topi (fun x44 ex44 => ?_)
                      rw [← ex44] at h
                      refine lv_iconst (pc := 192) (v := 1) X.1 X.2.1 dX8_chain_192 (by decide) ?_
                      refine lv_iadd (pc := 193) X.1 X.2.1 dX8_chain_193 ?_
                      refine lv_goto (pc := 194) (tgt := 204) X.1 X.2.1 dX8_chain_194 (by decide) ?_
                      exact hk41 (x44 + 1) _ _ ls h G (lv_sub hl [1, 2, 3, 4, 5] rfl)
                  obtain ⟨k31, ek31, h⟩ := jp_some h
                  have hk31 : ∀  (H : Heap) (locs : List Loc) (ls : Array Slot), k31 () = some y4 → Mm D κ A ad (celM κ ad r0 z26) s H locs → lv_has ls 7 [(0, .ref (ad 43)), (1, .int p0), (3, .int x17), (4, .int x21), (5, .int x25)] → W p l e rm8_chain s m [.ref (ad 43), .int p0].toArray below meth c H locs 0 0 (MQ below (QI D κ A ad (celM κ ad r0 res.1) res.2) [.ref (ad 43), .int p0].toArray s 0 0 A) (F0 m 171 ls []) := by
                    intro  H locs ls h G hl
                    rw [ek31] at h
                    try dsimp only at h
                    refine lv_iconst (pc := 171) (v := 0) X.1 X.2.1 dX8_chain_171 (by decide) ?_
                    exact hk30 0 _ _ ls h G (lv_sub hl [0, 1, 2, 3, 4] rfl)
                  refine lv_icmp_ne (pc := 126) (tgt := 171) X.1 X.2.1 dX8_chain_126 (by decide) (fun hc32 => ?_) (fun hc32 => ?_)
                  · have h := it_pos h hc32
                    exact hk31  _ _ ls h G (lv_sub hl [0, 1, 2, 3, 4] rfl)
                  · have h := it_neg h (fun q => q hc32)
                    refine lv_aload_n (pc := 129) X.1 X.2.1 dX8_chain_129 rfl (lv_at hl 0 rfl) ?_
                    refine lv_iload (pc := 130) X.1 X.2.1 dX8_chain_130 (lv_at hl 4 rfl) ?_
                    obtain ⟨x33, ex33, h⟩ := bn_some h
                    refine M_calli (pc := 132) (z1 := z26) (v := x33) (As := [.int x25]) (rest := []) X G (rm := rm8_isDefined) rfl rfl (c8_isDefined l D κ A ad r0 z26 x25 x33 ex33) g_X8_112 hd_yX8_isDefined ⟨Nat.le_of_ble_eq_true rfl, Nat.le_of_ble_eq_true rfl⟩ rfl hl rfl (lv_room (Nat.le_of_ble_eq_true rfl)) dX8_chain_132 ⟨Nat.le_of_ble_eq_true rfl, Nat.le_of_ble_eq_true rfl⟩ (fun H locs G => ?_)
                    refine lv_if_eq (pc := 135) (tgt := 171) X.1 X.2.1 dX8_chain_135 (by decide) (fun hc34 => ?_) (fun hc34 => ?_)
                    · have h := it_pos h hc34
                      exact hk31  _ _ ls h G (lv_sub hl [0, 1, 2, 3, 4] rfl)
                    · have h := it_neg h hc34
                      refine lv_aload_n (pc := 138) X.1 X.2.1 dX8_chain_138 rfl (lv_at hl 0 rfl) ?_
                      refine M_getr (pc := 139) X G 41 (by decide) (by decide +kernel) fl_X8_92 dX8_chain_139 ?_
                      refine lv_iload (pc := 142) X.1 X.2.1 dX8_chain_142 (lv_at hl 4 rfl) ?_
                      obtain ⟨hix35, h⟩ := rd_some h
                      refine M_iald (pc := 144) X G (i := 41) (n := 26) (by decide +kernel) (by decide) rfl hix35 dX8_chain_144 ?_
                      refine lv_topi (fun x35 ex35 => ?_)
                      rw [← ex35] at h
                      refine lv_aload_n (pc := 145) X.1 X.2.1 dX8_chain_145 rfl (lv_at hl 0 rfl) ?_
                      refine M_getr (pc := 146) X G 41 (by decide) (by decide +kernel) fl_X8_92 dX8_chain_146 ?_
                      refine lv_iload (pc := 149) X.1 X.2.1 dX8_chain_149 (lv_at hl 3 rfl) ?_
                      obtain ⟨hix36, h⟩ := rd_some h
                      refine M_iald (pc := 151) X G (i := 41) (n := 26) (by decide +kernel) (by decide) rfl hix36 dX8_chain_151 ?_
                      refine lv_topi (fun x36 ex36 => ?_)
                      rw [← ex36] at h
                      refine lv_icmp_lt (pc := 152) (tgt := 171) X.1 X.2.1 dX8_chain_152 (by decide) (fun hc37 => ?_) (fun hc37 => ?_)
                      · have h := it_pos h hc37
                        exact hk31  _ _ ls h G (lv_sub hl [0, 1, 2, 3, 4] rfl)
                      · have h := it_neg h hc37
                        refine lv_aload_n (pc := 155) X.1 X.2.1 dX8_chain_155 rfl (lv_at hl 0 rfl) ?_
                        refine M_getr (pc := 156) X G 41 (by decide) (by decide +kernel) fl_X8_92 dX8_chain_156 ?_
                        refine lv_iload (pc := 159) X.1 X.2.1 dX8_chain_159 (lv_at hl 4 rfl) ?_
                        obtain ⟨hix38, h⟩ := rd_some h
                        refine M_iald (pc := 161) X G (i := 41) (n := 26) (by decide +kernel) (by decide) rfl hix38 dX8_chain_161 ?_
                        refine lv_topi (fun x38 ex38 => ?_)
                        rw [← ex38] at h
                        refine lv_bipush (pc := 162) (v := 26) X.1 X.2.1 dX8_chain_162 (by decide) ?_
                        refine lv_icmp_ge (pc := 164) (tgt := 171) X.1 X.2.1 dX8_chain_164 (by decide) (fun hc39 => ?_) (fun hc39 => ?_)
                        · have h := it_pos h hc39
                          exact hk31  _ _ ls h G (lv_sub hl [0, 1, 2, 3, 4] rfl)
                        · have h := it_neg h hc39
                          refine lv_iconst (pc := 167) (v := 1) X.1 X.2.1 dX8_chain_167 (by decide) ?_
                          refine lv_goto (pc := 168) (tgt := 172) X.1 X.2.1 dX8_chain_168 (by decide) ?_
                          exact hk30 1 _ _ ls h G (lv_sub hl [0, 1, 2, 3, 4] rfl)
          · have h := it_neg h hc16
            refine lv_aload_n (pc := 60) X.1 X.2.1 dX8_chain_60 rfl (lv_at hl 0 rfl) ?_
            refine M_getr (pc := 61) X G 41 (by decide) (by decide +kernel) fl_X8_92 dX8_chain_61 ?_
            refine lv_iload_n (pc := 64) X.1 X.2.1 dX8_chain_64 rfl (lv_at hl 2 rfl) ?_
            refine lv_aload_n (pc := 65) X.1 X.2.1 dX8_chain_65 rfl (lv_at hl 0 rfl) ?_
            refine lv_iload_n (pc := 66) X.1 X.2.1 dX8_chain_66 rfl (lv_at hl 2 rfl) ?_
            obtain ⟨x48, ex48, h⟩ := bn_some h
            refine M_calli (pc := 67) (z1 := z15) (v := x48) (As := [.int x14]) (rest := [.int x14, .ref (ad 41)]) X G (rm := rm8_isDefined) rfl rfl (c8_isDefined l D κ A ad r0 z15 x14 x48 ex48) g_X8_112 hd_yX8_isDefined ⟨Nat.le_of_ble_eq_true rfl, Nat.le_of_ble_eq_true rfl⟩ rfl hl rfl (lv_room (Nat.le_of_ble_eq_true rfl)) dX8_chain_67 ⟨Nat.le_of_ble_eq_true rfl, Nat.le_of_ble_eq_true rfl⟩ (fun H locs G => ?_)
            obtain ⟨k49, ek49, h⟩ := jp_some h
            have hk49 : ∀ (x51 : Int32) (H : Heap) (locs : List Loc) (ls : Array Slot), k49 x51 = some y1 → Mm D κ A ad (celM κ ad r0 z15) s H locs → lv_has ls 7 [(0, .ref (ad 43)), (1, .int p0), (3, .int x14)] → W p l e rm8_chain s m [.ref (ad 43), .int p0].toArray below meth c H locs 0 0 (MQ below (QI D κ A ad (celM κ ad r0 res.1) res.2) [.ref (ad 43), .int p0].toArray s 0 0 A) (F0 m 78 ls [.int x51, .int x14, .ref (ad 41)]) := by
              intro x51 H locs ls h G hl
              rw [ek49] at h
              try dsimp only at h
              obtain ⟨hiz52, z52, ez52, h⟩ := wr_some h
              refine M_iast (pc := 78) X G (i := 41) (n := 26) ez52 (by decide +kernel) (by decide) rfl hiz52 dX8_chain_78 (fun H locs G => ?_)
              obtain ⟨x53, ex53, h⟩ := bd_some h
              refine lv_iinc (pc := 79) (v := x53) (lv' := [(3, .int x53), (0, .ref (ad 43)), (1, .int p0)]) X.1 X.2.1 dX8_chain_79 hl (k := 2) rfl (by rw [ex53]; rfl) (by decide) rfl (fun ls hl => ?_)
              refine lv_goto (pc := 82) (tgt := 54) X.1 X.2.1 dX8_chain_82 (by decide) ?_
              have h := Option.some.inj h
              exact ih1 _ h.symm _ _ ls G (lv_sub hl [1, 2, 0] rfl)
            refine lv_if_eq (pc := 70) (tgt := 77) X.1 X.2.1 dX8_chain_70 (by decide) (fun hc50 => ?_) (fun hc50 => ?_)
            · have h := it_pos h hc50
              refine lv_iconst (pc := 77) (v := 0) X.1 X.2.1 dX8_chain_77 (by decide) ?_
              exact hk49 0 _ _ ls h G (lv_sub hl [0, 1, 2] rfl)
            · have h := it_neg h hc50
              refine lv_iconst (pc := 73) (v := 1) X.1 X.2.1 dX8_chain_73 (by decide) ?_
              refine lv_goto (pc := 74) (tgt := 78) X.1 X.2.1 dX8_chain_74 (by decide) ?_
              exact hk49 1 _ _ ls h G (lv_sub hl [0, 1, 2] rfl)
        · have h := it_neg h hc13
          refine lv_iconst (pc := 50) (v := (-1)) X.1 X.2.1 dX8_chain_50 (by decide) ?_
          have h := Option.some.inj h
          exact m_iret (pc := 51) X G hr hlk dX8_chain_51 (congrArg Prod.snd h) (congrArg (fun q : MS × Int32 => celM κ ad r0 q.1) h)
      · have h := it_neg h (fun q => q hc9)
        refine lv_iconst (pc := 29) (v := 0) X.1 X.2.1 dX8_chain_29 (by decide) ?_
        have h := Option.some.inj h
        exact m_iret (pc := 30) X G hr hlk dX8_chain_30 (congrArg Prod.snd h) (congrArg (fun q : MS × Int32 => celM κ ad r0 q.1) h)
    · have h := it_neg h hc7
      refine lv_iconst (pc := 19) (v := 0) X.1 X.2.1 dX8_chain_19 (by decide) ?_
      have h := Option.some.inj h
      exact m_iret (pc := 20) X G hr hlk dX8_chain_20 (congrArg Prod.snd h) (congrArg (fun q : MS × Int32 => celM κ ad r0 q.1) h)
  refine lv_if_eq (pc := 5) (tgt := 12) X.1 X.2.1 dX8_chain_5 (by decide) (fun hc3 => ?_) (fun hc3 => ?_)
  · have h := it_pos h hc3
    refine lv_iconst (pc := 12) (v := 1) X.1 X.2.1 dX8_chain_12 (by decide) ?_
    exact hk2 1 _ _ ls h G (lv_sub hl [0, 1] rfl)
  · have h := it_neg h hc3
    refine lv_iconst (pc := 8) (v := 0) X.1 X.2.1 dX8_chain_8 (by decide) ?_
    refine lv_goto (pc := 9) (tgt := 13) X.1 X.2.1 dX8_chain_9 (by decide) ?_
    exact hk2 0 _ _ ls h G (lv_sub hl [0, 1] rfl)
