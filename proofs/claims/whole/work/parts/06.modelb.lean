/-! THE REFERENCE, laid by wip/whole/walk.py: F8_: what a method does; c8_: the machine does it -/
abbrev rm8_isWhole : Room := { frames := 3, cells := 0, slots := 0, locals := 66 }
noncomputable def F8_isWhole (z : MS)  : Option (MS × Int32) :=
  bn2 (F8_error z) fun z2 x1 =>
  jp (fun (x7 : Int32) => bz x7 (some (z2, x7))) fun k3 =>
  jp (fun (_ : Unit) => k3 0) fun k4 =>
  if ¬ x1 = (z2 43 6) then
  k4 ()
  else
  if ¬ (z2 43 9) = 0 then
  k4 ()
  else
  k3 1
set_option maxHeartbeats 4000000 in
set_option maxRecDepth 100000 in
theorem c8_isWhole (l : Launch) (D : va_G) (κ : Nat → ClassId) (A : Nat → Prop) (ad : Nat → Nat) (r0 : Nat → Option va_E) (z : MS)  (res : MS × Int32) (h : F8_isWhole z  = some res) : Met l yX8_isWhole (gw yX8_isWhole cX8_isWhole 1 (some (FieldType.boolean))) rm8_isWhole (va_Pc [.ref (ad 43)] (MW D κ A ad (celM κ ad r0 z))) (QI D κ A ad (celM κ ad r0 res.1) res.2) 0 0 A := by
  refine met_of (own := RX8) (by decide +kernel) rfl (Nat.le_of_ble_eq_true rfl) ?_
  intro p e s m below meth c ls X hr hlk G hl
  have hl : lv_has ls 1 [(0, .ref (ad 43))] := hl
  unfold F8_isWhole at h
  refine lv_aload_n (pc := 0) X.1 X.2.1 dX8_isWhole_0 rfl (lv_at hl 0 rfl) ?_
  obtain ⟨z2, x1, ex1, h⟩ := bn2_some h
  refine M_calli (pc := 1) (z1 := z2) (v := x1) (As := []) (rest := []) X G (rm := rm8_error) rfl rfl (c8_error l D κ A ad r0 z  (z2, x1) ex1) g_X8_128 hd_yX8_error ⟨Nat.le_of_ble_eq_true rfl, Nat.le_of_ble_eq_true rfl⟩ rfl hl rfl (lv_room (Nat.le_of_ble_eq_true rfl)) dX8_isWhole_1 ⟨Nat.le_of_ble_eq_true rfl, Nat.le_of_ble_eq_true rfl⟩ (fun H locs G => ?_)
  refine lv_aload_n (pc := 4) X.1 X.2.1 dX8_isWhole_4 rfl (lv_at hl 0 rfl) ?_
  refine M_geti (pc := 5) X G 6 (by decide) (by decide +kernel) fl_X8_106 dX8_isWhole_5 ?_
  obtain ⟨k3, ek3, h⟩ := jp_some h
  have hk3 : ∀ (x7 : Int32) (H : Heap) (locs : List Loc) (ls : Array Slot), k3 x7 = some res → Mm D κ A ad (celM κ ad r0 z2) s H locs → lv_has ls 1 [] → W p l e rm8_isWhole s m [.ref (ad 43)].toArray below meth c H locs 0 0 (MQ below (QI D κ A ad (celM κ ad r0 res.1) res.2) [.ref (ad 43)].toArray s 0 0 A) (F0 m 23 ls [.int x7]) := by
    intro x7 H locs ls h G hl
    rw [ek3] at h
    try dsimp only at h
    obtain ⟨hb, h⟩ := bz_some h
    have h := Option.some.inj h
    exact m_zret (pc := 23) X G hr hlk dX8_isWhole_23 hb (congrArg Prod.snd h) (congrArg (fun q : MS × Int32 => celM κ ad r0 q.1) h)
  obtain ⟨k4, ek4, h⟩ := jp_some h
  have hk4 : ∀  (H : Heap) (locs : List Loc) (ls : Array Slot), k4 () = some res → Mm D κ A ad (celM κ ad r0 z2) s H locs → lv_has ls 1 [] → W p l e rm8_isWhole s m [.ref (ad 43)].toArray below meth c H locs 0 0 (MQ below (QI D κ A ad (celM κ ad r0 res.1) res.2) [.ref (ad 43)].toArray s 0 0 A) (F0 m 22 ls []) := by
    intro  H locs ls h G hl
    rw [ek4] at h
    try dsimp only at h
    refine lv_iconst (pc := 22) (v := 0) X.1 X.2.1 dX8_isWhole_22 (by decide) ?_
    exact hk3 0 _ _ ls h G (lv_sub hl [] rfl)
  refine lv_icmp_ne (pc := 8) (tgt := 22) X.1 X.2.1 dX8_isWhole_8 (by decide) (fun hc5 => ?_) (fun hc5 => ?_)
  · have h := it_pos h hc5
    exact hk4  _ _ ls h G (lv_sub hl [] rfl)
  · have h := it_neg h (fun q => q hc5)
    refine lv_aload_n (pc := 11) X.1 X.2.1 dX8_isWhole_11 rfl (lv_at hl 0 rfl) ?_
    refine M_geti (pc := 12) X G 9 (by decide) (by decide +kernel) fl_X8_119 dX8_isWhole_12 ?_
    refine lv_if_ne (pc := 15) (tgt := 22) X.1 X.2.1 dX8_isWhole_15 (by decide) (fun hc6 => ?_) (fun hc6 => ?_)
    · have h := it_pos h hc6
      exact hk4  _ _ ls h G (lv_sub hl [] rfl)
    · have h := it_neg h (fun q => q hc6)
      refine lv_iconst (pc := 18) (v := 1) X.1 X.2.1 dX8_isWhole_18 (by decide) ?_
      refine lv_goto (pc := 19) (tgt := 23) X.1 X.2.1 dX8_isWhole_19 (by decide) ?_
      exact hk3 1 _ _ ls h G (lv_sub hl [] rfl)

abbrev rm8_firstError : Room := { frames := 3, cells := 0, slots := 0, locals := 66 }
noncomputable def F8_firstError (z : MS)  : Option (MS × Int32) :=
  bd (up2 z 43 7 0) fun z1 =>
  bn2 (F8_error z1) fun z3 x2 =>
  some (z3, x2)
set_option maxHeartbeats 4000000 in
set_option maxRecDepth 100000 in
theorem c8_firstError (l : Launch) (D : va_G) (κ : Nat → ClassId) (A : Nat → Prop) (ad : Nat → Nat) (r0 : Nat → Option va_E) (z : MS)  (res : MS × Int32) (h : F8_firstError z  = some res) : Met l yX8_firstError (gw yX8_firstError cX8_firstError 1 (some (FieldType.int))) rm8_firstError (va_Pc [.ref (ad 43)] (MW D κ A ad (celM κ ad r0 z))) (QI D κ A ad (celM κ ad r0 res.1) res.2) 0 0 A := by
  refine met_of (own := RX8) (by decide +kernel) rfl (Nat.le_of_ble_eq_true rfl) ?_
  intro p e s m below meth c ls X hr hlk G hl
  have hl : lv_has ls 1 [(0, .ref (ad 43))] := hl
  unfold F8_firstError at h
  refine lv_aload_n (pc := 0) X.1 X.2.1 dX8_firstError_0 rfl (lv_at hl 0 rfl) ?_
  refine lv_iconst (pc := 1) (v := 0) X.1 X.2.1 dX8_firstError_1 (by decide) ?_
  obtain ⟨z1, ez1, h⟩ := bd_some h
  refine M_puti (pc := 2) X G 7 ez1 (by decide) (by decide +kernel) fl_X8_98 dX8_firstError_2 (fun H locs G => ?_)
  refine lv_aload_n (pc := 5) X.1 X.2.1 dX8_firstError_5 rfl (lv_at hl 0 rfl) ?_
  obtain ⟨z3, x2, ex2, h⟩ := bn2_some h
  refine M_calli (pc := 6) (z1 := z3) (v := x2) (As := []) (rest := []) X G (rm := rm8_error) rfl rfl (c8_error l D κ A ad r0 z1  (z3, x2) ex2) g_X8_128 hd_yX8_error ⟨Nat.le_of_ble_eq_true rfl, Nat.le_of_ble_eq_true rfl⟩ rfl hl rfl (lv_room (Nat.le_of_ble_eq_true rfl)) dX8_firstError_6 ⟨Nat.le_of_ble_eq_true rfl, Nat.le_of_ble_eq_true rfl⟩ (fun H locs G => ?_)
  have h := Option.some.inj h
  exact m_iret (pc := 9) X G hr hlk dX8_firstError_9 (congrArg Prod.snd h) (congrArg (fun q : MS × Int32 => celM κ ad r0 q.1) h)

abbrev rm8_load : Room := { frames := 2, cells := 0, slots := 0, locals := 42 }
noncomputable def F8_load (z : MS) (p0 : Int32) : Option (MS × Int32) :=
  bn (F8_isLetter p0) fun x1 =>
  jp (fun (x6 : Int32) => bn2 (F8_refused z x6) fun z8 x7 =>
  if x7 = 0 then
  rd (z8 0) 2153 p0 fun x10 =>
  bd (up2 z8 43 6 x10) fun z11 =>
  Loop (fun (q : Int32 × MS) => (fun (x12 : Int32) (z13 : MS) =>
  if (z13 43 6) ≤ x12 then
  some (.inr (z13, z13 43 6))
  else
  rd (z13 0) 2153 ((26 + (60 * p0)) + x12) fun x15 =>
  wr z13 5 60 x12 x15 fun z16 =>
  bd (x12 + 1) fun x17 =>
  some (.inl (x17, z16))) q.1 q.2) (0, z11)
  else
  some (z8, 0)) fun k2 =>
  if ¬ x1 = 0 then
  bn (F8_isDefined z p0) fun x4 =>
  if x4 = 0 then
  k2 2
  else
  k2 0
  else
  k2 1
set_option maxHeartbeats 4000000 in
set_option maxRecDepth 100000 in
theorem c8_load (l : Launch) (D : va_G) (κ : Nat → ClassId) (A : Nat → Prop) (ad : Nat → Nat) (r0 : Nat → Option va_E) (z : MS) (p0 : Int32) (res : MS × Int32) (h : F8_load z p0 = some res) : Met l yX8_load (gw yX8_load cX8_load 3 (some (FieldType.int))) rm8_load (va_Pc [.ref (ad 43), .int p0] (MW D κ A ad (celM κ ad r0 z))) (QI D κ A ad (celM κ ad r0 res.1) res.2) 0 0 A := by
  refine met_of (own := RX8) (by decide +kernel) rfl (Nat.le_of_ble_eq_true rfl) ?_
  intro p e s m below meth c ls X hr hlk G hl
  have hl : lv_has ls 3 [(0, .ref (ad 43)), (1, .int p0)] := hl
  unfold F8_load at h
  refine lv_aload_n (pc := 0) X.1 X.2.1 dX8_load_0 rfl (lv_at hl 0 rfl) ?_
  refine lv_iload_n (pc := 1) X.1 X.2.1 dX8_load_1 rfl (lv_at hl 1 rfl) ?_
  obtain ⟨x1, ex1, h⟩ := bn_some h
  refine m_callsi0 (pc := 2) (v := x1) (As := [.int p0]) (rest := [.ref (ad 43)]) X G (rm := rm8_isLetter) rfl rfl (c8_isLetter l D κ A ad (celM κ ad r0 z) p0 x1 ex1) g_X8_132 hs_yX8_isLetter ⟨Nat.le_of_ble_eq_true rfl, Nat.le_of_ble_eq_true rfl⟩ rfl hl rfl (lv_room (Nat.le_of_ble_eq_true rfl)) dX8_load_2 ⟨Nat.le_of_ble_eq_true rfl, Nat.le_of_ble_eq_true rfl⟩ (fun H locs G => ?_)
  obtain ⟨k2, ek2, h⟩ := jp_some h
  have hk2 : ∀ (x6 : Int32) (H : Heap) (locs : List Loc) (ls : Array Slot), k2 x6 = some res → Mm D κ A ad (celM κ ad r0 z) s H locs → lv_has ls 3 [(0, .ref (ad 43)), (1, .int p0)] → W p l e rm8_load s m [.ref (ad 43), .int p0].toArray below meth c H locs 0 0 (MQ below (QI D κ A ad (celM κ ad r0 res.1) res.2) [.ref (ad 43), .int p0].toArray s 0 0 A) (F0 m 25 ls [.int x6, .ref (ad 43)]) := by
    intro x6 H locs ls h G hl
    rw [ek2] at h
    try dsimp only at h
    obtain ⟨z8, x7, ex7, h⟩ := bn2_some h
    refine M_calli (pc := 25) (z1 := z8) (v := x7) (As := [.int x6]) (rest := []) X G (rm := rm8_refused) rfl rfl (c8_refused l D κ A ad r0 z x6 (z8, x7) ex7) g_X8_116 hd_yX8_refused ⟨Nat.le_of_ble_eq_true rfl, Nat.le_of_ble_eq_true rfl⟩ rfl hl rfl (lv_room (Nat.le_of_ble_eq_true rfl)) dX8_load_25 ⟨Nat.le_of_ble_eq_true rfl, Nat.le_of_ble_eq_true rfl⟩ (fun H locs G => ?_)
    refine lv_if_eq (pc := 28) (tgt := 33) X.1 X.2.1 dX8_load_28 (by decide) (fun hc9 => ?_) (fun hc9 => ?_)
    · have h := it_pos h hc9
      refine lv_aload_n (pc := 33) X.1 X.2.1 dX8_load_33 rfl (lv_at hl 0 rfl) ?_
      refine lv_aload_n (pc := 34) X.1 X.2.1 dX8_load_34 rfl (lv_at hl 0 rfl) ?_
      refine M_getr (pc := 35) X G 0 (by decide) (by decide +kernel) fl_X8_7 dX8_load_35 ?_
      refine lv_iload_n (pc := 38) X.1 X.2.1 dX8_load_38 rfl (lv_at hl 1 rfl) ?_
      obtain ⟨hix10, h⟩ := rd_some h
      refine M_iald (pc := 39) X G (i := 0) (n := 2153) (by decide +kernel) (by decide) rfl hix10 dX8_load_39 ?_
      refine lv_topi (fun x10 ex10 => ?_)
      rw [← ex10] at h
      obtain ⟨z11, ez11, h⟩ := bd_some h
      refine M_puti (pc := 40) X G 6 ez11 (by decide) (by decide +kernel) fl_X8_106 dX8_load_40 (fun H locs G => ?_)
      refine lv_iconst (pc := 43) (v := 0) X.1 X.2.1 dX8_load_43 (by decide) ?_
      refine lv_istore_n (pc := 44) (lv' := [(2, .int 0), (0, .ref (ad 43)), (1, .int p0)]) X.1 X.2.1 dX8_load_44 rfl hl (by decide) rfl (fun ls hl => ?_)
      refine Loop_ind (P := fun (q : Int32 × MS) => ∀ (H : Heap) (locs : List Loc) (ls : Array Slot), Mm D κ A ad (celM κ ad r0 q.2) s H locs → lv_has ls 3 [(0, .ref (ad 43)), (1, .int p0), (2, .int q.1)] → W p l e rm8_load s m [.ref (ad 43), .int p0].toArray below meth c H locs 0 0 (MQ below (QI D κ A ad (celM κ ad r0 res.1) res.2) [.ref (ad 43), .int p0].toArray s 0 0 A) (F0 m 45 ls [])) ?_ h _ _ ls G (lv_sub hl [1, 2, 0] rfl)
      intro q y1 h ih1 hz1 H locs ls G hl
      obtain ⟨x12, z13⟩ := q
      try dsimp only at h ih1 G hl ⊢
      refine lv_iload_n (pc := 45) X.1 X.2.1 dX8_load_45 rfl (lv_at hl 2 rfl) ?_
      refine lv_aload_n (pc := 46) X.1 X.2.1 dX8_load_46 rfl (lv_at hl 0 rfl) ?_
      refine M_geti (pc := 47) X G 6 (by decide) (by decide +kernel) fl_X8_106 dX8_load_47 ?_
      refine lv_icmp_ge (pc := 50) (tgt := 79) X.1 X.2.1 dX8_load_50 (by decide) (fun hc14 => ?_) (fun hc14 => ?_)
      · have h := it_pos h hc14
        refine lv_aload_n (pc := 79) X.1 X.2.1 dX8_load_79 rfl (lv_at hl 0 rfl) ?_
        refine M_geti (pc := 80) X G 6 (by decide) (by decide +kernel) fl_X8_106 dX8_load_80 ?_
        have h := Option.some.inj h
        have h := hz1 _ h.symm
        exact m_iret (pc := 83) X G hr hlk dX8_load_83 (congrArg Prod.snd h) (congrArg (fun q : MS × Int32 => celM κ ad r0 q.1) h)
      · have h := it_neg h hc14
        refine lv_aload_n (pc := 53) X.1 X.2.1 dX8_load_53 rfl (lv_at hl 0 rfl) ?_
        refine M_getr (pc := 54) X G 5 (by decide) (by decide +kernel) fl_X8_23 dX8_load_54 ?_
        refine lv_iload_n (pc := 57) X.1 X.2.1 dX8_load_57 rfl (lv_at hl 2 rfl) ?_
        refine lv_aload_n (pc := 58) X.1 X.2.1 dX8_load_58 rfl (lv_at hl 0 rfl) ?_
        refine M_getr (pc := 59) X G 0 (by decide) (by decide +kernel) fl_X8_7 dX8_load_59 ?_
        refine lv_bipush (pc := 62) (v := 26) X.1 X.2.1 dX8_load_62 (by decide) ?_
        refine lv_bipush (pc := 64) (v := 60) X.1 X.2.1 dX8_load_64 (by decide) ?_
        refine lv_iload_n (pc := 66) X.1 X.2.1 dX8_load_66 rfl (lv_at hl 1 rfl) ?_
        refine lv_imul (pc := 67) X.1 X.2.1 dX8_load_67 ?_
        refine lv_iadd (pc := 68) X.1 X.2.1 dX8_load_68 ?_
        refine lv_iload_n (pc := 69) X.1 X.2.1 dX8_load_69 rfl (lv_at hl 2 rfl) ?_
        refine lv_iadd (pc := 70) X.1 X.2.1 dX8_load_70 ?_
        obtain ⟨hix15, h⟩ := rd_some h
        refine M_iald (pc := 71) X G (i := 0) (n := 2153) (by decide +kernel) (by decide) rfl hix15 dX8_load_71 ?_
        refine lv_topi (fun x15 ex15 => ?_)
        rw [← ex15] at h
        obtain ⟨hiz16, z16, ez16, h⟩ := wr_some h
        refine M_iast (pc := 72) X G (i := 5) (n := 60) ez16 (by decide +kernel) (by decide) rfl hiz16 dX8_load_72 (fun H locs G => ?_)
        obtain ⟨x17, ex17, h⟩ := bd_some h
        refine lv_iinc (pc := 73) (v := x17) (lv' := [(2, .int x17), (0, .ref (ad 43)), (1, .int p0)]) X.1 X.2.1 dX8_load_73 hl (k := 2) rfl (by rw [ex17]; rfl) (by decide) rfl (fun ls hl => ?_)
        refine lv_goto (pc := 76) (tgt := 45) X.1 X.2.1 dX8_load_76 (by decide) ?_
        have h := Option.some.inj h
        exact ih1 _ h.symm _ _ ls G (lv_sub hl [1, 2, 0] rfl)
    · have h := it_neg h hc9
      refine lv_iconst (pc := 31) (v := 0) X.1 X.2.1 dX8_load_31 (by decide) ?_
      have h := Option.some.inj h
      exact m_iret (pc := 32) X G hr hlk dX8_load_32 (congrArg Prod.snd h) (congrArg (fun q : MS × Int32 => celM κ ad r0 q.1) h)
  refine lv_if_ne (pc := 5) (tgt := 12) X.1 X.2.1 dX8_load_5 (by decide) (fun hc3 => ?_) (fun hc3 => ?_)
  · have h := it_pos h hc3
    refine lv_aload_n (pc := 12) X.1 X.2.1 dX8_load_12 rfl (lv_at hl 0 rfl) ?_
    refine lv_iload_n (pc := 13) X.1 X.2.1 dX8_load_13 rfl (lv_at hl 1 rfl) ?_
    obtain ⟨x4, ex4, h⟩ := bn_some h
    refine M_calli (pc := 14) (z1 := z) (v := x4) (As := [.int p0]) (rest := [.ref (ad 43)]) X G (rm := rm8_isDefined) rfl rfl (c8_isDefined l D κ A ad r0 z p0 x4 ex4) g_X8_112 hd_yX8_isDefined ⟨Nat.le_of_ble_eq_true rfl, Nat.le_of_ble_eq_true rfl⟩ rfl hl rfl (lv_room (Nat.le_of_ble_eq_true rfl)) dX8_load_14 ⟨Nat.le_of_ble_eq_true rfl, Nat.le_of_ble_eq_true rfl⟩ (fun H locs G => ?_)
    refine lv_if_eq (pc := 17) (tgt := 24) X.1 X.2.1 dX8_load_17 (by decide) (fun hc5 => ?_) (fun hc5 => ?_)
    · have h := it_pos h hc5
      refine lv_iconst (pc := 24) (v := 2) X.1 X.2.1 dX8_load_24 (by decide) ?_
      exact hk2 2 _ _ ls h G (lv_sub hl [0, 1] rfl)
    · have h := it_neg h hc5
      refine lv_iconst (pc := 20) (v := 0) X.1 X.2.1 dX8_load_20 (by decide) ?_
      refine lv_goto (pc := 21) (tgt := 25) X.1 X.2.1 dX8_load_21 (by decide) ?_
      exact hk2 0 _ _ ls h G (lv_sub hl [0, 1] rfl)
  · have h := it_neg h (fun q => q hc3)
    refine lv_iconst (pc := 8) (v := 1) X.1 X.2.1 dX8_load_8 (by decide) ?_
    refine lv_goto (pc := 9) (tgt := 25) X.1 X.2.1 dX8_load_9 (by decide) ?_
    exact hk2 1 _ _ ls h G (lv_sub hl [0, 1] rfl)

abbrev rm8_holesOf : Room := { frames := 1, cells := 0, slots := 0, locals := 22 }
noncomputable def F8_holesOf (z : MS) (p0 p1 : Int32) : Option (Int32) :=
  Loop (fun (q : Int32 × Int32) => (fun (x1 : Int32) (x2 : Int32) =>
  if p1 ≤ x2 then
  some (.inr x1)
  else
  bn (F8_signOf z p0 x2) fun x4 =>
  jp (fun (x7 : Int32) => bd (x1 + x7) fun x8 =>
  bd (x2 + 1) fun x9 =>
  some (.inl (x8, x9))) fun k5 =>
  if ¬ x4 = 63 then
  k5 0
  else
  k5 1) q.1 q.2) (0, 0)
set_option maxHeartbeats 4000000 in
set_option maxRecDepth 100000 in
theorem c8_holesOf (l : Launch) (D : va_G) (κ : Nat → ClassId) (A : Nat → Prop) (ad : Nat → Nat) (r0 : Nat → Option va_E) (z : MS) (p0 p1 : Int32) (res : Int32) (h : F8_holesOf z p0 p1 = some res) : Met l yX8_holesOf (gw yX8_holesOf cX8_holesOf 5 (some (FieldType.int))) rm8_holesOf (va_Pc [.ref (ad 43), .int p0, .int p1] (MW D κ A ad (celM κ ad r0 z))) (QI D κ A ad (celM κ ad r0 z) res) 0 0 A := by
  refine met_of (own := RX8) (by decide +kernel) rfl (Nat.le_of_ble_eq_true rfl) ?_
  intro p e s m below meth c ls X hr hlk G hl
  have hl : lv_has ls 5 [(0, .ref (ad 43)), (1, .int p0), (2, .int p1)] := hl
  unfold F8_holesOf at h
  refine lv_iconst (pc := 0) (v := 0) X.1 X.2.1 dX8_holesOf_0 (by decide) ?_
  refine lv_istore_n (pc := 1) (lv' := [(3, .int 0), (0, .ref (ad 43)), (1, .int p0), (2, .int p1)]) X.1 X.2.1 dX8_holesOf_1 rfl hl (by decide) rfl (fun ls hl => ?_)
  refine lv_iconst (pc := 2) (v := 0) X.1 X.2.1 dX8_holesOf_2 (by decide) ?_
  refine lv_istore (pc := 3) (lv' := [(4, .int 0), (3, .int 0), (0, .ref (ad 43)), (1, .int p0), (2, .int p1)]) X.1 X.2.1 dX8_holesOf_3 hl (by decide) rfl (fun ls hl => ?_)
  refine Loop_ind (P := fun (q : Int32 × Int32) => ∀ (H : Heap) (locs : List Loc) (ls : Array Slot), Mm D κ A ad (celM κ ad r0 z) s H locs → lv_has ls 5 [(0, .ref (ad 43)), (1, .int p0), (2, .int p1), (3, .int q.1), (4, .int q.2)] → W p l e rm8_holesOf s m [.ref (ad 43), .int p0, .int p1].toArray below meth c H locs 0 0 (MQ below (QI D κ A ad (celM κ ad r0 z) res) [.ref (ad 43), .int p0, .int p1].toArray s 0 0 A) (F0 m 5 ls [])) ?_ h _ _ ls G (lv_sub hl [2, 3, 4, 1, 0] rfl)
  intro q y1 h ih1 hz1 H locs ls G hl
  obtain ⟨x1, x2⟩ := q
  try dsimp only at h ih1 G hl ⊢
  refine lv_iload (pc := 5) X.1 X.2.1 dX8_holesOf_5 (lv_at hl 4 rfl) ?_
  refine lv_iload_n (pc := 7) X.1 X.2.1 dX8_holesOf_7 rfl (lv_at hl 2 rfl) ?_
  refine lv_icmp_ge (pc := 8) (tgt := 37) X.1 X.2.1 dX8_holesOf_8 (by decide) (fun hc3 => ?_) (fun hc3 => ?_)
  · have h := it_pos h hc3
    refine lv_iload_n (pc := 37) X.1 X.2.1 dX8_holesOf_37 rfl (lv_at hl 3 rfl) ?_
    have h := Option.some.inj h
    have h := hz1 _ h.symm
    exact m_iret (pc := 38) X G hr hlk dX8_holesOf_38 h rfl
  · have h := it_neg h hc3
    refine lv_iload_n (pc := 11) X.1 X.2.1 dX8_holesOf_11 rfl (lv_at hl 3 rfl) ?_
    refine lv_aload_n (pc := 12) X.1 X.2.1 dX8_holesOf_12 rfl (lv_at hl 0 rfl) ?_
    refine lv_iload_n (pc := 13) X.1 X.2.1 dX8_holesOf_13 rfl (lv_at hl 1 rfl) ?_
    refine lv_iload (pc := 14) X.1 X.2.1 dX8_holesOf_14 (lv_at hl 4 rfl) ?_
    obtain ⟨x4, ex4, h⟩ := bn_some h
    refine M_calli (pc := 16) (z1 := z) (v := x4) (As := [.int p0, .int x2]) (rest := [.int x1]) X G (rm := rm8_signOf) rfl rfl (c8_signOf l D κ A ad r0 z p0 x2 x4 ex4) g_X8_135 hd_yX8_signOf ⟨Nat.le_of_ble_eq_true rfl, Nat.le_of_ble_eq_true rfl⟩ rfl hl rfl (lv_room (Nat.le_of_ble_eq_true rfl)) dX8_holesOf_16 ⟨Nat.le_of_ble_eq_true rfl, Nat.le_of_ble_eq_true rfl⟩ (fun H locs G => ?_)
    refine lv_bipush (pc := 19) (v := 63) X.1 X.2.1 dX8_holesOf_19 (by decide) ?_
    obtain ⟨k5, ek5, h⟩ := jp_some h
    have hk5 : ∀ (x7 : Int32) (H : Heap) (locs : List Loc) (ls : Array Slot), k5 x7 = some y1 → Mm D κ A ad (celM κ ad r0 z) s H locs → lv_has ls 5 [(0, .ref (ad 43)), (1, .int p0), (2, .int p1), (4, .int x2)] → W p l e rm8_holesOf s m [.ref (ad 43), .int p0, .int p1].toArray below meth c H locs 0 0 (MQ below (QI D κ A ad (celM κ ad r0 z) res) [.ref (ad 43), .int p0, .int p1].toArray s 0 0 A) (F0 m 29 ls [.int x7, .int x1]) := by
      intro x7 H locs ls h G hl
      rw [ek5] at h
      try dsimp only at h
      refine lv_iadd (pc := 29) X.1 X.2.1 dX8_holesOf_29 ?_
      refine lv_topi (fun x8 ex8 => ?_)
      have h := bd_at h ex8
      refine lv_istore_n (pc := 30) (lv' := [(3, .int x8), (0, .ref (ad 43)), (1, .int p0), (2, .int p1), (4, .int x2)]) X.1 X.2.1 dX8_holesOf_30 rfl hl (by decide) rfl (fun ls hl => ?_)
      obtain ⟨x9, ex9, h⟩ := bd_some h
      refine lv_iinc (pc := 31) (v := x9) (lv' := [(4, .int x9), (3, .int x8), (0, .ref (ad 43)), (1, .int p0), (2, .int p1)]) X.1 X.2.1 dX8_holesOf_31 hl (k := 4) rfl (by rw [ex9]; rfl) (by decide) rfl (fun ls hl => ?_)
      refine lv_goto (pc := 34) (tgt := 5) X.1 X.2.1 dX8_holesOf_34 (by decide) ?_
      have h := Option.some.inj h
      exact ih1 _ h.symm _ _ ls G (lv_sub hl [2, 3, 4, 1, 0] rfl)
    refine lv_icmp_ne (pc := 21) (tgt := 28) X.1 X.2.1 dX8_holesOf_21 (by decide) (fun hc6 => ?_) (fun hc6 => ?_)
    · have h := it_pos h hc6
      refine lv_iconst (pc := 28) (v := 0) X.1 X.2.1 dX8_holesOf_28 (by decide) ?_
      exact hk5 0 _ _ ls h G (lv_sub hl [0, 1, 2, 4] rfl)
    · have h := it_neg h (fun q => q hc6)
      refine lv_iconst (pc := 24) (v := 1) X.1 X.2.1 dX8_holesOf_24 (by decide) ?_
      refine lv_goto (pc := 25) (tgt := 29) X.1 X.2.1 dX8_holesOf_25 (by decide) ?_
      exact hk5 1 _ _ ls h G (lv_sub hl [0, 1, 2, 4] rfl)

abbrev rm8_lays : Room := { frames := 0, cells := 0, slots := 0, locals := 0 }
noncomputable def F8_lays (z : MS) (p0 : Int32) : Option (MS) :=
  wr z 0 2153 p0 (z 43 6) fun z1 =>
  Loop (fun (q : Int32 × MS) => (fun (x2 : Int32) (z3 : MS) =>
  if 60 ≤ x2 then
  some (.inr z3)
  else
  jp (fun (x8 : Int32) => wr z3 0 2153 ((26 + (60 * p0)) + x2) x8 fun z9 =>
  bd (x2 + 1) fun x10 =>
  some (.inl (x10, z9))) fun k5 =>
  if (z3 43 6) ≤ x2 then
  k5 0
  else
  rd (z3 5) 60 x2 fun x7 =>
  k5 x7) q.1 q.2) (0, z1)
set_option maxHeartbeats 4000000 in
set_option maxRecDepth 100000 in
theorem c8_lays (l : Launch) (D : va_G) (κ : Nat → ClassId) (A : Nat → Prop) (ad : Nat → Nat) (r0 : Nat → Option va_E) (z : MS) (p0 : Int32) (res : MS) (h : F8_lays z p0 = some res) : Met l yX8_lays (gw yX8_lays cX8_lays 3 none) rm8_lays (va_Pc [.ref (ad 43), .int p0] (MW D κ A ad (celM κ ad r0 z))) (QV D κ A ad (celM κ ad r0 res)) 0 0 A := by
  refine met_of (own := RX8) (by decide +kernel) rfl (Nat.le_of_ble_eq_true rfl) ?_
  intro p e s m below meth c ls X hr hlk G hl
  have hl : lv_has ls 3 [(0, .ref (ad 43)), (1, .int p0)] := hl
  unfold F8_lays at h
  refine lv_aload_n (pc := 0) X.1 X.2.1 dX8_lays_0 rfl (lv_at hl 0 rfl) ?_
  refine M_getr (pc := 1) X G 0 (by decide) (by decide +kernel) fl_X8_7 dX8_lays_1 ?_
  refine lv_iload_n (pc := 4) X.1 X.2.1 dX8_lays_4 rfl (lv_at hl 1 rfl) ?_
  refine lv_aload_n (pc := 5) X.1 X.2.1 dX8_lays_5 rfl (lv_at hl 0 rfl) ?_
  refine M_geti (pc := 6) X G 6 (by decide) (by decide +kernel) fl_X8_106 dX8_lays_6 ?_
  obtain ⟨hiz1, z1, ez1, h⟩ := wr_some h
  refine M_iast (pc := 9) X G (i := 0) (n := 2153) ez1 (by decide +kernel) (by decide) rfl hiz1 dX8_lays_9 (fun H locs G => ?_)
  refine lv_iconst (pc := 10) (v := 0) X.1 X.2.1 dX8_lays_10 (by decide) ?_
  refine lv_istore_n (pc := 11) (lv' := [(2, .int 0), (0, .ref (ad 43)), (1, .int p0)]) X.1 X.2.1 dX8_lays_11 rfl hl (by decide) rfl (fun ls hl => ?_)
  refine Loop_ind (P := fun (q : Int32 × MS) => ∀ (H : Heap) (locs : List Loc) (ls : Array Slot), Mm D κ A ad (celM κ ad r0 q.2) s H locs → lv_has ls 3 [(0, .ref (ad 43)), (1, .int p0), (2, .int q.1)] → W p l e rm8_lays s m [.ref (ad 43), .int p0].toArray below meth c H locs 0 0 (MQ below (QV D κ A ad (celM κ ad r0 res)) [.ref (ad 43), .int p0].toArray s 0 0 A) (F0 m 12 ls [])) ?_ h _ _ ls G (lv_sub hl [1, 2, 0] rfl)
  intro q y1 h ih1 hz1 H locs ls G hl
  obtain ⟨x2, z3⟩ := q
  try dsimp only at h ih1 G hl ⊢
  refine lv_iload_n (pc := 12) X.1 X.2.1 dX8_lays_12 rfl (lv_at hl 2 rfl) ?_
  refine lv_bipush (pc := 13) (v := 60) X.1 X.2.1 dX8_lays_13 (by decide) ?_
  refine lv_icmp_ge (pc := 15) (tgt := 56) X.1 X.2.1 dX8_lays_15 (by decide) (fun hc4 => ?_) (fun hc4 => ?_)
  · have h := it_pos h hc4
    have h := Option.some.inj h
    have h := hz1 _ h.symm
    exact m_vret (pc := 56) X G hr hlk dX8_lays_56 (congrArg (celM κ ad r0) h)
  · have h := it_neg h hc4
    refine lv_aload_n (pc := 18) X.1 X.2.1 dX8_lays_18 rfl (lv_at hl 0 rfl) ?_
    refine M_getr (pc := 19) X G 0 (by decide) (by decide +kernel) fl_X8_7 dX8_lays_19 ?_
    refine lv_bipush (pc := 22) (v := 26) X.1 X.2.1 dX8_lays_22 (by decide) ?_
    refine lv_bipush (pc := 24) (v := 60) X.1 X.2.1 dX8_lays_24 (by decide) ?_
    refine lv_iload_n (pc := 26) X.1 X.2.1 dX8_lays_26 rfl (lv_at hl 1 rfl) ?_
    refine lv_imul (pc := 27) X.1 X.2.1 dX8_lays_27 ?_
    refine lv_iadd (pc := 28) X.1 X.2.1 dX8_lays_28 ?_
    refine lv_iload_n (pc := 29) X.1 X.2.1 dX8_lays_29 rfl (lv_at hl 2 rfl) ?_
    refine lv_iadd (pc := 30) X.1 X.2.1 dX8_lays_30 ?_
    refine lv_iload_n (pc := 31) X.1 X.2.1 dX8_lays_31 rfl (lv_at hl 2 rfl) ?_
    refine lv_aload_n (pc := 32) X.1 X.2.1 dX8_lays_32 rfl (lv_at hl 0 rfl) ?_
    refine M_geti (pc := 33) X G 6 (by decide) (by decide +kernel) fl_X8_106 dX8_lays_33 ?_
    obtain ⟨k5, ek5, h⟩ := jp_some h
    have hk5 : ∀ (x8 : Int32) (H : Heap) (locs : List Loc) (ls : Array Slot), k5 x8 = some y1 → Mm D κ A ad (celM κ ad r0 z3) s H locs → lv_has ls 3 [(0, .ref (ad 43)), (1, .int p0), (2, .int x2)] → W p l e rm8_lays s m [.ref (ad 43), .int p0].toArray below meth c H locs 0 0 (MQ below (QV D κ A ad (celM κ ad r0 res)) [.ref (ad 43), .int p0].toArray s 0 0 A) (F0 m 49 ls [.int x8, .int ((26 + (60 * p0)) + x2), .ref (ad 0)]) := by
      intro x8 H locs ls h G hl
      rw [ek5] at h
      try dsimp only at h
      obtain ⟨hiz9, z9, ez9, h⟩ := wr_some h
      refine M_iast (pc := 49) X G (i := 0) (n := 2153) ez9 (by decide +kernel) (by decide) rfl hiz9 dX8_lays_49 (fun H locs G => ?_)
      obtain ⟨x10, ex10, h⟩ := bd_some h
      refine lv_iinc (pc := 50) (v := x10) (lv' := [(2, .int x10), (0, .ref (ad 43)), (1, .int p0)]) X.1 X.2.1 dX8_lays_50 hl (k := 2) rfl (by rw [ex10]; rfl) (by decide) rfl (fun ls hl => ?_)
      refine lv_goto (pc := 53) (tgt := 12) X.1 X.2.1 dX8_lays_53 (by decide) ?_
      have h := Option.some.inj h
      exact ih1 _ h.symm _ _ ls G (lv_sub hl [1, 2, 0] rfl)
    refine lv_icmp_ge (pc := 36) (tgt := 48) X.1 X.2.1 dX8_lays_36 (by decide) (fun hc6 => ?_) (fun hc6 => ?_)
    · have h := it_pos h hc6
      refine lv_iconst (pc := 48) (v := 0) X.1 X.2.1 dX8_lays_48 (by decide) ?_
      exact hk5 0 _ _ ls h G (lv_sub hl [0, 1, 2] rfl)
    · have h := it_neg h hc6
      refine lv_aload_n (pc := 39) X.1 X.2.1 dX8_lays_39 rfl (lv_at hl 0 rfl) ?_
      refine M_getr (pc := 40) X G 5 (by decide) (by decide +kernel) fl_X8_23 dX8_lays_40 ?_
      refine lv_iload_n (pc := 43) X.1 X.2.1 dX8_lays_43 rfl (lv_at hl 2 rfl) ?_
      obtain ⟨hix7, h⟩ := rd_some h
      refine M_iald (pc := 44) X G (i := 5) (n := 60) (by decide +kernel) (by decide) rfl hix7 dX8_lays_44 ?_
      refine lv_topi (fun x7 ex7 => ?_)
      rw [← ex7] at h
      refine lv_goto (pc := 45) (tgt := 49) X.1 X.2.1 dX8_lays_45 (by decide) ?_
      exact hk5 x7 _ _ ls h G (lv_sub hl [0, 1, 2] rfl)

abbrev rm8_define : Room := { frames := 4, cells := 0, slots := 0, locals := 86 }
noncomputable def F8_define (z : MS) (p0 : Int32) : Option (MS × Int32) :=
  bn (F8_isLetter p0) fun x1 =>
  jp (fun (x7 : Int32) (z8 : MS) => bn2 (F8_refused z8 x7) fun z10 x9 =>
  if x9 = 0 then
  bn (F8_saves z10) fun z12 =>
  bn (F8_lays z12 p0) fun z13 =>
  bd (up2 z13 43 6 0) fun z14 =>
  rd (z14 0) 2153 p0 fun x15 =>
  bn (F8_holesOf z14 p0 x15) fun x16 =>
  some (z14, x16)
  else
  some (z10, 0)) fun k2 =>
  if ¬ x1 = 0 then
  bn2 (F8_isWhole z) fun z5 x4 =>
  if x4 = 0 then
  k2 2 z5
  else
  k2 0 z5
  else
  k2 1 z
set_option maxHeartbeats 4000000 in
set_option maxRecDepth 100000 in
theorem c8_define (l : Launch) (D : va_G) (κ : Nat → ClassId) (A : Nat → Prop) (ad : Nat → Nat) (r0 : Nat → Option va_E) (z : MS) (p0 : Int32) (res : MS × Int32) (h : F8_define z p0 = some res) : Met l yX8_define (gw yX8_define cX8_define 2 (some (FieldType.int))) rm8_define (va_Pc [.ref (ad 43), .int p0] (MW D κ A ad (celM κ ad r0 z))) (QI D κ A ad (celM κ ad r0 res.1) res.2) 0 0 A := by
  refine met_of (own := RX8) (by decide +kernel) rfl (Nat.le_of_ble_eq_true rfl) ?_
  intro p e s m below meth c ls X hr hlk G hl
  have hl : lv_has ls 2 [(0, .ref (ad 43)), (1, .int p0)] := hl
  unfold F8_define at h
  refine lv_aload_n (pc := 0) X.1 X.2.1 dX8_define_0 rfl (lv_at hl 0 rfl) ?_
  refine lv_iload_n (pc := 1) X.1 X.2.1 dX8_define_1 rfl (lv_at hl 1 rfl) ?_
  obtain ⟨x1, ex1, h⟩ := bn_some h
  refine m_callsi0 (pc := 2) (v := x1) (As := [.int p0]) (rest := [.ref (ad 43)]) X G (rm := rm8_isLetter) rfl rfl (c8_isLetter l D κ A ad (celM κ ad r0 z) p0 x1 ex1) g_X8_132 hs_yX8_isLetter ⟨Nat.le_of_ble_eq_true rfl, Nat.le_of_ble_eq_true rfl⟩ rfl hl rfl (lv_room (Nat.le_of_ble_eq_true rfl)) dX8_define_2 ⟨Nat.le_of_ble_eq_true rfl, Nat.le_of_ble_eq_true rfl⟩ (fun H locs G => ?_)
  obtain ⟨k2, ek2, h⟩ := jp_some h
  have hk2 : ∀ (x7 : Int32) (z8 : MS) (H : Heap) (locs : List Loc) (ls : Array Slot), k2 x7 z8 = some res → Mm D κ A ad (celM κ ad r0 z8) s H locs → lv_has ls 2 [(0, .ref (ad 43)), (1, .int p0)] → W p l e rm8_define s m [.ref (ad 43), .int p0].toArray below meth c H locs 0 0 (MQ below (QI D κ A ad (celM κ ad r0 res.1) res.2) [.ref (ad 43), .int p0].toArray s 0 0 A) (F0 m 24 ls [.int x7, .ref (ad 43)]) := by
    intro x7 z8 H locs ls h G hl
    rw [ek2] at h
    try dsimp only at h
    obtain ⟨z10, x9, ex9, h⟩ := bn2_some h
    refine M_calli (pc := 24) (z1 := z10) (v := x9) (As := [.int x7]) (rest := []) X G (rm := rm8_refused) rfl rfl (c8_refused l D κ A ad r0 z8 x7 (z10, x9) ex9) g_X8_116 hd_yX8_refused ⟨Nat.le_of_ble_eq_true rfl, Nat.le_of_ble_eq_true rfl⟩ rfl hl rfl (lv_room (Nat.le_of_ble_eq_true rfl)) dX8_define_24 ⟨Nat.le_of_ble_eq_true rfl, Nat.le_of_ble_eq_true rfl⟩ (fun H locs G => ?_)
    refine lv_if_eq (pc := 27) (tgt := 32) X.1 X.2.1 dX8_define_27 (by decide) (fun hc11 => ?_) (fun hc11 => ?_)
    · have h := it_pos h hc11
      refine lv_aload_n (pc := 32) X.1 X.2.1 dX8_define_32 rfl (lv_at hl 0 rfl) ?_
      obtain ⟨z12, ez12, h⟩ := bn_some h
      refine M_callv (pc := 33) (z1 := z12) (As := []) (rest := []) X G (rm := rm8_saves) rfl rfl (c8_saves l D κ A ad r0 z10  z12 ez12) g_X8_143 hd_yX8_saves ⟨Nat.le_of_ble_eq_true rfl, Nat.le_of_ble_eq_true rfl⟩ rfl hl rfl (lv_room (Nat.le_of_ble_eq_true rfl)) dX8_define_33 ⟨Nat.le_of_ble_eq_true rfl, Nat.le_of_ble_eq_true rfl⟩ (fun H locs G => ?_)
      refine lv_aload_n (pc := 36) X.1 X.2.1 dX8_define_36 rfl (lv_at hl 0 rfl) ?_
      refine lv_iload_n (pc := 37) X.1 X.2.1 dX8_define_37 rfl (lv_at hl 1 rfl) ?_
      obtain ⟨z13, ez13, h⟩ := bn_some h
      refine M_callv (pc := 38) (z1 := z13) (As := [.int p0]) (rest := []) X G (rm := rm8_lays) rfl rfl (c8_lays l D κ A ad r0 z12 p0 z13 ez13) g_X8_146 hd_yX8_lays ⟨Nat.le_of_ble_eq_true rfl, Nat.le_of_ble_eq_true rfl⟩ rfl hl rfl (lv_room (Nat.le_of_ble_eq_true rfl)) dX8_define_38 ⟨Nat.le_of_ble_eq_true rfl, Nat.le_of_ble_eq_true rfl⟩ (fun H locs G => ?_)
      refine lv_aload_n (pc := 41) X.1 X.2.1 dX8_define_41 rfl (lv_at hl 0 rfl) ?_
      refine lv_iconst (pc := 42) (v := 0) X.1 X.2.1 dX8_define_42 (by decide) ?_
      obtain ⟨z14, ez14, h⟩ := bd_some h
      refine M_puti (pc := 43) X G 6 ez14 (by decide) (by decide +kernel) fl_X8_106 dX8_define_43 (fun H locs G => ?_)
      refine lv_aload_n (pc := 46) X.1 X.2.1 dX8_define_46 rfl (lv_at hl 0 rfl) ?_
      refine lv_iload_n (pc := 47) X.1 X.2.1 dX8_define_47 rfl (lv_at hl 1 rfl) ?_
      refine lv_aload_n (pc := 48) X.1 X.2.1 dX8_define_48 rfl (lv_at hl 0 rfl) ?_
      refine M_getr (pc := 49) X G 0 (by decide) (by decide +kernel) fl_X8_7 dX8_define_49 ?_
      refine lv_iload_n (pc := 52) X.1 X.2.1 dX8_define_52 rfl (lv_at hl 1 rfl) ?_
      obtain ⟨hix15, h⟩ := rd_some h
      refine M_iald (pc := 53) X G (i := 0) (n := 2153) (by decide +kernel) (by decide) rfl hix15 dX8_define_53 ?_
      refine lv_topi (fun x15 ex15 => ?_)
      rw [← ex15] at h
      obtain ⟨x16, ex16, h⟩ := bn_some h
      refine M_calli (pc := 54) (z1 := z14) (v := x16) (As := [.int p0, .int x15]) (rest := []) X G (rm := rm8_holesOf) rfl rfl (c8_holesOf l D κ A ad r0 z14 p0 x15 x16 ex16) g_X8_150 hd_yX8_holesOf ⟨Nat.le_of_ble_eq_true rfl, Nat.le_of_ble_eq_true rfl⟩ rfl hl rfl (lv_room (Nat.le_of_ble_eq_true rfl)) dX8_define_54 ⟨Nat.le_of_ble_eq_true rfl, Nat.le_of_ble_eq_true rfl⟩ (fun H locs G => ?_)
      have h := Option.some.inj h
      exact m_iret (pc := 57) X G hr hlk dX8_define_57 (congrArg Prod.snd h) (congrArg (fun q : MS × Int32 => celM κ ad r0 q.1) h)
    · have h := it_neg h hc11
      refine lv_iconst (pc := 30) (v := 0) X.1 X.2.1 dX8_define_30 (by decide) ?_
      have h := Option.some.inj h
      exact m_iret (pc := 31) X G hr hlk dX8_define_31 (congrArg Prod.snd h) (congrArg (fun q : MS × Int32 => celM κ ad r0 q.1) h)
  refine lv_if_ne (pc := 5) (tgt := 12) X.1 X.2.1 dX8_define_5 (by decide) (fun hc3 => ?_) (fun hc3 => ?_)
  · have h := it_pos h hc3
    refine lv_aload_n (pc := 12) X.1 X.2.1 dX8_define_12 rfl (lv_at hl 0 rfl) ?_
    obtain ⟨z5, x4, ex4, h⟩ := bn2_some h
    refine M_calli (pc := 13) (z1 := z5) (v := x4) (As := []) (rest := [.ref (ad 43)]) X G (rm := rm8_isWhole) rfl rfl (c8_isWhole l D κ A ad r0 z  (z5, x4) ex4) g_X8_139 hd_yX8_isWhole ⟨Nat.le_of_ble_eq_true rfl, Nat.le_of_ble_eq_true rfl⟩ rfl hl rfl (lv_room (Nat.le_of_ble_eq_true rfl)) dX8_define_13 ⟨Nat.le_of_ble_eq_true rfl, Nat.le_of_ble_eq_true rfl⟩ (fun H locs G => ?_)
    refine lv_if_eq (pc := 16) (tgt := 23) X.1 X.2.1 dX8_define_16 (by decide) (fun hc6 => ?_) (fun hc6 => ?_)
    · have h := it_pos h hc6
      refine lv_iconst (pc := 23) (v := 2) X.1 X.2.1 dX8_define_23 (by decide) ?_
      exact hk2 2 z5 _ _ ls h G (lv_sub hl [0, 1] rfl)
    · have h := it_neg h hc6
      refine lv_iconst (pc := 19) (v := 0) X.1 X.2.1 dX8_define_19 (by decide) ?_
      refine lv_goto (pc := 20) (tgt := 24) X.1 X.2.1 dX8_define_20 (by decide) ?_
      exact hk2 0 z5 _ _ ls h G (lv_sub hl [0, 1] rfl)
  · have h := it_neg h (fun q => q hc3)
    refine lv_iconst (pc := 8) (v := 1) X.1 X.2.1 dX8_define_8 (by decide) ?_
    refine lv_goto (pc := 9) (tgt := 24) X.1 X.2.1 dX8_define_9 (by decide) ?_
    exact hk2 1 z _ _ ls h G (lv_sub hl [0, 1] rfl)

abbrev rm8_remove : Room := { frames := 2, cells := 0, slots := 0, locals := 43 }
noncomputable def F8_remove (z : MS) (p0 : Int32) : Option (MS × Int32) :=
  bn (F8_isLetter p0) fun x1 =>
  jp (fun (x6 : Int32) => bn2 (F8_refused z x6) fun z8 x7 =>
  if x7 = 0 then
  bn (F8_saves z8) fun z10 =>
  wr z10 0 2153 p0 (-1) fun z11 =>
  bn (F8_defined z11) fun x12 =>
  some (z11, x12)
  else
  some (z8, 0)) fun k2 =>
  if ¬ x1 = 0 then
  bn (F8_isDefined z p0) fun x4 =>
  if x4 = 0 then
  k2 2
  else
  k2 0
  else
  k2 1
set_option maxHeartbeats 4000000 in
set_option maxRecDepth 100000 in
theorem c8_remove (l : Launch) (D : va_G) (κ : Nat → ClassId) (A : Nat → Prop) (ad : Nat → Nat) (r0 : Nat → Option va_E) (z : MS) (p0 : Int32) (res : MS × Int32) (h : F8_remove z p0 = some res) : Met l yX8_remove (gw yX8_remove cX8_remove 2 (some (FieldType.int))) rm8_remove (va_Pc [.ref (ad 43), .int p0] (MW D κ A ad (celM κ ad r0 z))) (QI D κ A ad (celM κ ad r0 res.1) res.2) 0 0 A := by
  refine met_of (own := RX8) (by decide +kernel) rfl (Nat.le_of_ble_eq_true rfl) ?_
  intro p e s m below meth c ls X hr hlk G hl
  have hl : lv_has ls 2 [(0, .ref (ad 43)), (1, .int p0)] := hl
  unfold F8_remove at h
  refine lv_aload_n (pc := 0) X.1 X.2.1 dX8_remove_0 rfl (lv_at hl 0 rfl) ?_
  refine lv_iload_n (pc := 1) X.1 X.2.1 dX8_remove_1 rfl (lv_at hl 1 rfl) ?_
  obtain ⟨x1, ex1, h⟩ := bn_some h
  refine m_callsi0 (pc := 2) (v := x1) (As := [.int p0]) (rest := [.ref (ad 43)]) X G (rm := rm8_isLetter) rfl rfl (c8_isLetter l D κ A ad (celM κ ad r0 z) p0 x1 ex1) g_X8_132 hs_yX8_isLetter ⟨Nat.le_of_ble_eq_true rfl, Nat.le_of_ble_eq_true rfl⟩ rfl hl rfl (lv_room (Nat.le_of_ble_eq_true rfl)) dX8_remove_2 ⟨Nat.le_of_ble_eq_true rfl, Nat.le_of_ble_eq_true rfl⟩ (fun H locs G => ?_)
  obtain ⟨k2, ek2, h⟩ := jp_some h
  have hk2 : ∀ (x6 : Int32) (H : Heap) (locs : List Loc) (ls : Array Slot), k2 x6 = some res → Mm D κ A ad (celM κ ad r0 z) s H locs → lv_has ls 2 [(0, .ref (ad 43)), (1, .int p0)] → W p l e rm8_remove s m [.ref (ad 43), .int p0].toArray below meth c H locs 0 0 (MQ below (QI D κ A ad (celM κ ad r0 res.1) res.2) [.ref (ad 43), .int p0].toArray s 0 0 A) (F0 m 25 ls [.int x6, .ref (ad 43)]) := by
    intro x6 H locs ls h G hl
    rw [ek2] at h
    try dsimp only at h
    obtain ⟨z8, x7, ex7, h⟩ := bn2_some h
    refine M_calli (pc := 25) (z1 := z8) (v := x7) (As := [.int x6]) (rest := []) X G (rm := rm8_refused) rfl rfl (c8_refused l D κ A ad r0 z x6 (z8, x7) ex7) g_X8_116 hd_yX8_refused ⟨Nat.le_of_ble_eq_true rfl, Nat.le_of_ble_eq_true rfl⟩ rfl hl rfl (lv_room (Nat.le_of_ble_eq_true rfl)) dX8_remove_25 ⟨Nat.le_of_ble_eq_true rfl, Nat.le_of_ble_eq_true rfl⟩ (fun H locs G => ?_)
    refine lv_if_eq (pc := 28) (tgt := 33) X.1 X.2.1 dX8_remove_28 (by decide) (fun hc9 => ?_) (fun hc9 => ?_)
    · have h := it_pos h hc9
      refine lv_aload_n (pc := 33) X.1 X.2.1 dX8_remove_33 rfl (lv_at hl 0 rfl) ?_
      obtain ⟨z10, ez10, h⟩ := bn_some h
      refine M_callv (pc := 34) (z1 := z10) (As := []) (rest := []) X G (rm := rm8_saves) rfl rfl (c8_saves l D κ A ad r0 z8  z10 ez10) g_X8_143 hd_yX8_saves ⟨Nat.le_of_ble_eq_true rfl, Nat.le_of_ble_eq_true rfl⟩ rfl hl rfl (lv_room (Nat.le_of_ble_eq_true rfl)) dX8_remove_34 ⟨Nat.le_of_ble_eq_true rfl, Nat.le_of_ble_eq_true rfl⟩ (fun H locs G => ?_)
      refine lv_aload_n (pc := 37) X.1 X.2.1 dX8_remove_37 rfl (lv_at hl 0 rfl) ?_
      refine M_getr (pc := 38) X G 0 (by decide) (by decide +kernel) fl_X8_7 dX8_remove_38 ?_
      refine lv_iload_n (pc := 41) X.1 X.2.1 dX8_remove_41 rfl (lv_at hl 1 rfl) ?_
      refine lv_iconst (pc := 42) (v := (-1)) X.1 X.2.1 dX8_remove_42 (by decide) ?_
      obtain ⟨hiz11, z11, ez11, h⟩ := wr_some h
      refine M_iast (pc := 43) X G (i := 0) (n := 2153) ez11 (by decide +kernel) (by decide) rfl hiz11 dX8_remove_43 (fun H locs G => ?_)
      refine lv_aload_n (pc := 44) X.1 X.2.1 dX8_remove_44 rfl (lv_at hl 0 rfl) ?_
      obtain ⟨x12, ex12, h⟩ := bn_some h
      refine M_calli (pc := 45) (z1 := z11) (v := x12) (As := []) (rest := []) X G (rm := rm8_defined) rfl rfl (c8_defined l D κ A ad r0 z11  x12 ex12) g_X8_153 hd_yX8_defined ⟨Nat.le_of_ble_eq_true rfl, Nat.le_of_ble_eq_true rfl⟩ rfl hl rfl (lv_room (Nat.le_of_ble_eq_true rfl)) dX8_remove_45 ⟨Nat.le_of_ble_eq_true rfl, Nat.le_of_ble_eq_true rfl⟩ (fun H locs G => ?_)
      have h := Option.some.inj h
      exact m_iret (pc := 48) X G hr hlk dX8_remove_48 (congrArg Prod.snd h) (congrArg (fun q : MS × Int32 => celM κ ad r0 q.1) h)
    · have h := it_neg h hc9
      refine lv_iconst (pc := 31) (v := 0) X.1 X.2.1 dX8_remove_31 (by decide) ?_
      have h := Option.some.inj h
      exact m_iret (pc := 32) X G hr hlk dX8_remove_32 (congrArg Prod.snd h) (congrArg (fun q : MS × Int32 => celM κ ad r0 q.1) h)
  refine lv_if_ne (pc := 5) (tgt := 12) X.1 X.2.1 dX8_remove_5 (by decide) (fun hc3 => ?_) (fun hc3 => ?_)
  · have h := it_pos h hc3
    refine lv_aload_n (pc := 12) X.1 X.2.1 dX8_remove_12 rfl (lv_at hl 0 rfl) ?_
    refine lv_iload_n (pc := 13) X.1 X.2.1 dX8_remove_13 rfl (lv_at hl 1 rfl) ?_
    obtain ⟨x4, ex4, h⟩ := bn_some h
    refine M_calli (pc := 14) (z1 := z) (v := x4) (As := [.int p0]) (rest := [.ref (ad 43)]) X G (rm := rm8_isDefined) rfl rfl (c8_isDefined l D κ A ad r0 z p0 x4 ex4) g_X8_112 hd_yX8_isDefined ⟨Nat.le_of_ble_eq_true rfl, Nat.le_of_ble_eq_true rfl⟩ rfl hl rfl (lv_room (Nat.le_of_ble_eq_true rfl)) dX8_remove_14 ⟨Nat.le_of_ble_eq_true rfl, Nat.le_of_ble_eq_true rfl⟩ (fun H locs G => ?_)
    refine lv_if_eq (pc := 17) (tgt := 24) X.1 X.2.1 dX8_remove_17 (by decide) (fun hc5 => ?_) (fun hc5 => ?_)
    · have h := it_pos h hc5
      refine lv_iconst (pc := 24) (v := 2) X.1 X.2.1 dX8_remove_24 (by decide) ?_
      exact hk2 2 _ _ ls h G (lv_sub hl [0, 1] rfl)
    · have h := it_neg h hc5
      refine lv_iconst (pc := 20) (v := 0) X.1 X.2.1 dX8_remove_20 (by decide) ?_
      refine lv_goto (pc := 21) (tgt := 25) X.1 X.2.1 dX8_remove_21 (by decide) ?_
      exact hk2 0 _ _ ls h G (lv_sub hl [0, 1] rfl)
  · have h := it_neg h (fun q => q hc3)
    refine lv_iconst (pc := 8) (v := 1) X.1 X.2.1 dX8_remove_8 (by decide) ?_
    refine lv_goto (pc := 9) (tgt := 25) X.1 X.2.1 dX8_remove_9 (by decide) ?_
    exact hk2 1 _ _ ls h G (lv_sub hl [0, 1] rfl)

abbrev rm8_exchange : Room := { frames := 2, cells := 0, slots := 0, locals := 42 }
noncomputable def F8_exchange (z : MS) (p0 p1 : Int32) : Option (MS × Int32) :=
  bn (F8_isLetter p0) fun x1 =>
  jp (fun (x7 : Int32) => bn2 (F8_refused z x7) fun z9 x8 =>
  if x8 = 0 then
  bn (F8_saves z9) fun z11 =>
  rd (z11 0) 2153 p0 fun x12 =>
  rd (z11 0) 2153 p1 fun x13 =>
  wr z11 0 2153 p0 x13 fun z14 =>
  wr z14 0 2153 p1 x12 fun z15 =>
  Loop (fun (q : Int32 × MS) => (fun (x16 : Int32) (z17 : MS) =>
  if 60 ≤ x16 then
  bn (F8_isDefined z17 p0) fun x19 =>
  jp (fun (x22 : Int32) => bn (F8_isDefined z17 p1) fun x23 =>
  jp (fun (x26 : Int32) => some (.inr (z17, x22 + x26))) fun k24 =>
  if x23 = 0 then
  k24 0
  else
  k24 1) fun k20 =>
  if x19 = 0 then
  k20 0
  else
  k20 1
  else
  rd (z17 0) 2153 ((26 + (60 * p0)) + x16) fun x27 =>
  rd (z17 0) 2153 ((26 + (60 * p1)) + x16) fun x28 =>
  wr z17 0 2153 ((26 + (60 * p0)) + x16) x28 fun z29 =>
  wr z29 0 2153 ((26 + (60 * p1)) + x16) x27 fun z30 =>
  bd (x16 + 1) fun x31 =>
  some (.inl (x31, z30))) q.1 q.2) (0, z15)
  else
  some (z9, 0)) fun k2 =>
  jp (fun (_ : Unit) => k2 1) fun k3 =>
  if x1 = 0 then
  k3 ()
  else
  bn (F8_isLetter p1) fun x5 =>
  if x5 = 0 then
  k3 ()
  else
  k2 0
set_option maxHeartbeats 4000000 in
set_option maxRecDepth 100000 in
theorem c8_exchange (l : Launch) (D : va_G) (κ : Nat → ClassId) (A : Nat → Prop) (ad : Nat → Nat) (r0 : Nat → Option va_E) (z : MS) (p0 p1 : Int32) (res : MS × Int32) (h : F8_exchange z p0 p1 = some res) : Met l yX8_exchange (gw yX8_exchange cX8_exchange 6 (some (FieldType.int))) rm8_exchange (va_Pc [.ref (ad 43), .int p0, .int p1] (MW D κ A ad (celM κ ad r0 z))) (QI D κ A ad (celM κ ad r0 res.1) res.2) 0 0 A := by
  refine met_of (own := RX8) (by decide +kernel) rfl (Nat.le_of_ble_eq_true rfl) ?_
  intro p e s m below meth c ls X hr hlk G hl
  have hl : lv_has ls 6 [(0, .ref (ad 43)), (1, .int p0), (2, .int p1)] := hl
  unfold F8_exchange at h
  refine lv_aload_n (pc := 0) X.1 X.2.1 dX8_exchange_0 rfl (lv_at hl 0 rfl) ?_
  refine lv_iload_n (pc := 1) X.1 X.2.1 dX8_exchange_1 rfl (lv_at hl 1 rfl) ?_
  obtain ⟨x1, ex1, h⟩ := bn_some h
  refine m_callsi0 (pc := 2) (v := x1) (As := [.int p0]) (rest := [.ref (ad 43)]) X G (rm := rm8_isLetter) rfl rfl (c8_isLetter l D κ A ad (celM κ ad r0 z) p0 x1 ex1) g_X8_132 hs_yX8_isLetter ⟨Nat.le_of_ble_eq_true rfl, Nat.le_of_ble_eq_true rfl⟩ rfl hl rfl (lv_room (Nat.le_of_ble_eq_true rfl)) dX8_exchange_2 ⟨Nat.le_of_ble_eq_true rfl, Nat.le_of_ble_eq_true rfl⟩ (fun H locs G => ?_)
  obtain ⟨k2, ek2, h⟩ := jp_some h
  have hk2 : ∀ (x7 : Int32) (H : Heap) (locs : List Loc) (ls : Array Slot), k2 x7 = some res → Mm D κ A ad (celM κ ad r0 z) s H locs → lv_has ls 6 [(0, .ref (ad 43)), (1, .int p0), (2, .int p1)] → W p l e rm8_exchange s m [.ref (ad 43), .int p0, .int p1].toArray below meth c H locs 0 0 (MQ below (QI D κ A ad (celM κ ad r0 res.1) res.2) [.ref (ad 43), .int p0, .int p1].toArray s 0 0 A) (F0 m 20 ls [.int x7, .ref (ad 43)]) := by
    intro x7 H locs ls h G hl
    rw [ek2] at h
    try dsimp only at h
    obtain ⟨z9, x8, ex8, h⟩ := bn2_some h
    refine M_calli (pc := 20) (z1 := z9) (v := x8) (As := [.int x7]) (rest := []) X G (rm := rm8_refused) rfl rfl (c8_refused l D κ A ad r0 z x7 (z9, x8) ex8) g_X8_116 hd_yX8_refused ⟨Nat.le_of_ble_eq_true rfl, Nat.le_of_ble_eq_true rfl⟩ rfl hl rfl (lv_room (Nat.le_of_ble_eq_true rfl)) dX8_exchange_20 ⟨Nat.le_of_ble_eq_true rfl, Nat.le_of_ble_eq_true rfl⟩ (fun H locs G => ?_)
    refine lv_if_eq (pc := 23) (tgt := 28) X.1 X.2.1 dX8_exchange_23 (by decide) (fun hc10 => ?_) (fun hc10 => ?_)
    · have h := it_pos h hc10
      refine lv_aload_n (pc := 28) X.1 X.2.1 dX8_exchange_28 rfl (lv_at hl 0 rfl) ?_
      obtain ⟨z11, ez11, h⟩ := bn_some h
      refine M_callv (pc := 29) (z1 := z11) (As := []) (rest := []) X G (rm := rm8_saves) rfl rfl (c8_saves l D κ A ad r0 z9  z11 ez11) g_X8_143 hd_yX8_saves ⟨Nat.le_of_ble_eq_true rfl, Nat.le_of_ble_eq_true rfl⟩ rfl hl rfl (lv_room (Nat.le_of_ble_eq_true rfl)) dX8_exchange_29 ⟨Nat.le_of_ble_eq_true rfl, Nat.le_of_ble_eq_true rfl⟩ (fun H locs G => ?_)
      refine lv_aload_n (pc := 32) X.1 X.2.1 dX8_exchange_32 rfl (lv_at hl 0 rfl) ?_
      refine M_getr (pc := 33) X G 0 (by decide) (by decide +kernel) fl_X8_7 dX8_exchange_33 ?_
      refine lv_iload_n (pc := 36) X.1 X.2.1 dX8_exchange_36 rfl (lv_at hl 1 rfl) ?_
      obtain ⟨hix12, h⟩ := rd_some h
      refine M_iald (pc := 37) X G (i := 0) (n := 2153) (by decide +kernel) (by decide) rfl hix12 dX8_exchange_37 ?_
      refine lv_topi (fun x12 ex12 => ?_)
      rw [← ex12] at h
      refine lv_istore_n (pc := 38) (lv' := [(3, .int x12), (0, .ref (ad 43)), (1, .int p0), (2, .int p1)]) X.1 X.2.1 dX8_exchange_38 rfl hl (by decide) rfl (fun ls hl => ?_)
      refine lv_aload_n (pc := 39) X.1 X.2.1 dX8_exchange_39 rfl (lv_at hl 1 rfl) ?_
      refine M_getr (pc := 40) X G 0 (by decide) (by decide +kernel) fl_X8_7 dX8_exchange_40 ?_
      refine lv_iload_n (pc := 43) X.1 X.2.1 dX8_exchange_43 rfl (lv_at hl 2 rfl) ?_
      refine lv_aload_n (pc := 44) X.1 X.2.1 dX8_exchange_44 rfl (lv_at hl 1 rfl) ?_
      refine M_getr (pc := 45) X G 0 (by decide) (by decide +kernel) fl_X8_7 dX8_exchange_45 ?_
      refine lv_iload_n (pc := 48) X.1 X.2.1 dX8_exchange_48 rfl (lv_at hl 3 rfl) ?_
      obtain ⟨hix13, h⟩ := rd_some h
      refine M_iald (pc := 49) X G (i := 0) (n := 2153) (by decide +kernel) (by decide) rfl hix13 dX8_exchange_49 ?_
      refine lv_topi (fun x13 ex13 => ?_)
      rw [← ex13] at h
      obtain ⟨hiz14, z14, ez14, h⟩ := wr_some h
      refine M_iast (pc := 50) X G (i := 0) (n := 2153) ez14 (by decide +kernel) (by decide) rfl hiz14 dX8_exchange_50 (fun H locs G => ?_)
      refine lv_aload_n (pc := 51) X.1 X.2.1 dX8_exchange_51 rfl (lv_at hl 1 rfl) ?_
      refine M_getr (pc := 52) X G 0 (by decide) (by decide +kernel) fl_X8_7 dX8_exchange_52 ?_
      refine lv_iload_n (pc := 55) X.1 X.2.1 dX8_exchange_55 rfl (lv_at hl 3 rfl) ?_
      refine lv_iload_n (pc := 56) X.1 X.2.1 dX8_exchange_56 rfl (lv_at hl 0 rfl) ?_
      obtain ⟨hiz15, z15, ez15, h⟩ := wr_some h
      refine M_iast (pc := 57) X G (i := 0) (n := 2153) ez15 (by decide +kernel) (by decide) rfl hiz15 dX8_exchange_57 (fun H locs G => ?_)
      refine lv_iconst (pc := 58) (v := 0) X.1 X.2.1 dX8_exchange_58 (by decide) ?_
      refine lv_istore (pc := 59) (lv' := [(4, .int 0), (3, .int x12), (0, .ref (ad 43)), (1, .int p0), (2, .int p1)]) X.1 X.2.1 dX8_exchange_59 hl (by decide) rfl (fun ls hl => ?_)
      refine Loop_ind (P := fun (q : Int32 × MS) => ∀ (H : Heap) (locs : List Loc) (ls : Array Slot), Mm D κ A ad (celM κ ad r0 q.2) s H locs → lv_has ls 6 [(0, .ref (ad 43)), (1, .int p0), (2, .int p1), (4, .int q.1)] → W p l e rm8_exchange s m [.ref (ad 43), .int p0, .int p1].toArray below meth c H locs 0 0 (MQ below (QI D κ A ad (celM κ ad r0 res.1) res.2) [.ref (ad 43), .int p0, .int p1].toArray s 0 0 A) (F0 m 61 ls [])) ?_ h _ _ ls G (lv_sub hl [2, 3, 4, 0] rfl)
      intro q y1 h ih1 hz1 H locs ls G hl
      obtain ⟨x16, z17⟩ := q
      try dsimp only at h ih1 G hl ⊢
      refine lv_iload (pc := 61) X.1 X.2.1 dX8_exchange_61 (lv_at hl 3 rfl) ?_
      refine lv_bipush (pc := 63) (v := 60) X.1 X.2.1 dX8_exchange_63 (by decide) ?_
      refine lv_icmp_ge (pc := 65) (tgt := 138) X.1 X.2.1 dX8_exchange_65 (by decide) (fun hc18 => ?_) (fun hc18 => ?_)
      · have h := it_pos h hc18
        refine lv_aload_n (pc := 138) X.1 X.2.1 dX8_exchange_138 rfl (lv_at hl 0 rfl) ?_
        refine lv_iload_n (pc := 139) X.1 X.2.1 dX8_exchange_139 rfl (lv_at hl 1 rfl) ?_
        obtain ⟨x19, ex19, h⟩ := bn_some h
        refine M_calli (pc := 140) (z1 := z17) (v := x19) (As := [.int p0]) (rest := []) X G (rm := rm8_isDefined) rfl rfl (c8_isDefined l D κ A ad r0 z17 p0 x19 ex19) g_X8_112 hd_yX8_isDefined ⟨Nat.le_of_ble_eq_true rfl, Nat.le_of_ble_eq_true rfl⟩ rfl hl rfl (lv_room (Nat.le_of_ble_eq_true rfl)) dX8_exchange_140 ⟨Nat.le_of_ble_eq_true rfl, Nat.le_of_ble_eq_true rfl⟩ (fun H locs G => ?_)
        obtain ⟨k20, ek20, h⟩ := jp_some h
        have hk20 : ∀ (x22 : Int32) (H : Heap) (locs : List Loc) (ls : Array Slot), k20 x22 = some y1 → Mm D κ A ad (celM κ ad r0 z17) s H locs → lv_has ls 6 [(0, .ref (ad 43)), (2, .int p1)] → W p l e rm8_exchange s m [.ref (ad 43), .int p0, .int p1].toArray below meth c H locs 0 0 (MQ below (QI D κ A ad (celM κ ad r0 res.1) res.2) [.ref (ad 43), .int p0, .int p1].toArray s 0 0 A) (F0 m 151 ls [.int x22]) := by
          intro x22 H locs ls h G hl
          rw [ek20] at h
          try dsimp only at h
          refine lv_aload_n (pc := 151) X.1 X.2.1 dX8_exchange_151 rfl (lv_at hl 0 rfl) ?_
          refine lv_iload_n (pc := 152) X.1 X.2.1 dX8_exchange_152 rfl (lv_at hl 1 rfl) ?_
          obtain ⟨x23, ex23, h⟩ := bn_some h
          refine M_calli (pc := 153) (z1 := z17) (v := x23) (As := [.int p1]) (rest := [.int x22]) X G (rm := rm8_isDefined) rfl rfl (c8_isDefined l D κ A ad r0 z17 p1 x23 ex23) g_X8_112 hd_yX8_isDefined ⟨Nat.le_of_ble_eq_true rfl, Nat.le_of_ble_eq_true rfl⟩ rfl hl rfl (lv_room (Nat.le_of_ble_eq_true rfl)) dX8_exchange_153 ⟨Nat.le_of_ble_eq_true rfl, Nat.le_of_ble_eq_true rfl⟩ (fun H locs G => ?_)
          obtain ⟨k24, ek24, h⟩ := jp_some h
          have hk24 : ∀ (x26 : Int32) (H : Heap) (locs : List Loc) (ls : Array Slot), k24 x26 = some y1 → Mm D κ A ad (celM κ ad r0 z17) s H locs → lv_has ls 6 [] → W p l e rm8_exchange s m [.ref (ad 43), .int p0, .int p1].toArray below meth c H locs 0 0 (MQ below (QI D κ A ad (celM κ ad r0 res.1) res.2) [.ref (ad 43), .int p0, .int p1].toArray s 0 0 A) (F0 m 164 ls [.int x26, .int x22]) := by
            intro x26 H locs ls h G hl
            rw [ek24] at h
            try dsimp only at h
            refine lv_iadd (pc := 164) X.1 X.2.1 dX8_exchange_164 ?_
            have h := Option.some.inj h
            have h := hz1 _ h.symm
            exact m_iret (pc := 165) X G hr hlk dX8_exchange_165 (congrArg Prod.snd h) (congrArg (fun q : MS × Int32 => celM κ ad r0 q.1) h)
          refine lv_if_eq (pc := 156) (tgt := 163) X.1 X.2.1 dX8_exchange_156 (by decide) (fun hc25 => ?_) (fun hc25 => ?_)
          · have h := it_pos h hc25
            refine lv_iconst (pc := 163) (v := 0) X.1 X.2.1 dX8_exchange_163 (by decide) ?_
            exact hk24 0 _ _ ls h G (lv_sub hl [] rfl)
          · have h := it_neg h hc25
            refine lv_iconst (pc := 159) (v := 1) X.1 X.2.1 dX8_exchange_159 (by decide) ?_
            refine lv_goto (pc := 160) (tgt := 164) X.1 X.2.1 dX8_exchange_160 (by decide) ?_
            exact hk24 1 _ _ ls h G (lv_sub hl [] rfl)
        refine lv_if_eq (pc := 143) (tgt := 150) X.1 X.2.1 dX8_exchange_143 (by decide) (fun hc21 => ?_) (fun hc21 => ?_)
        · have h := it_pos h hc21
          refine lv_iconst (pc := 150) (v := 0) X.1 X.2.1 dX8_exchange_150 (by decide) ?_
          exact hk20 0 _ _ ls h G (lv_sub hl [0, 2] rfl)
        · have h := it_neg h hc21
          refine lv_iconst (pc := 146) (v := 1) X.1 X.2.1 dX8_exchange_146 (by decide) ?_
          refine lv_goto (pc := 147) (tgt := 151) X.1 X.2.1 dX8_exchange_147 (by decide) ?_
          exact hk20 1 _ _ ls h G (lv_sub hl [0, 2] rfl)
      · have h := it_neg h hc18
        refine lv_aload_n (pc := 68) X.1 X.2.1 dX8_exchange_68 rfl (lv_at hl 0 rfl) ?_
        refine M_getr (pc := 69) X G 0 (by decide) (by decide +kernel) fl_X8_7 dX8_exchange_69 ?_
        refine lv_bipush (pc := 72) (v := 26) X.1 X.2.1 dX8_exchange_72 (by decide) ?_
        refine lv_bipush (pc := 74) (v := 60) X.1 X.2.1 dX8_exchange_74 (by decide) ?_
        refine lv_iload_n (pc := 76) X.1 X.2.1 dX8_exchange_76 rfl (lv_at hl 1 rfl) ?_
        refine lv_imul (pc := 77) X.1 X.2.1 dX8_exchange_77 ?_
        refine lv_iadd (pc := 78) X.1 X.2.1 dX8_exchange_78 ?_
        refine lv_iload (pc := 79) X.1 X.2.1 dX8_exchange_79 (lv_at hl 3 rfl) ?_
        refine lv_iadd (pc := 81) X.1 X.2.1 dX8_exchange_81 ?_
        obtain ⟨hix27, h⟩ := rd_some h
        refine M_iald (pc := 82) X G (i := 0) (n := 2153) (by decide +kernel) (by decide) rfl hix27 dX8_exchange_82 ?_
        refine lv_topi (fun x27 ex27 => ?_)
        rw [← ex27] at h
        refine lv_istore (pc := 83) (lv' := [(5, .int x27), (0, .ref (ad 43)), (1, .int p0), (2, .int p1), (4, .int x16)]) X.1 X.2.1 dX8_exchange_83 hl (by decide) rfl (fun ls hl => ?_)
        refine lv_aload_n (pc := 85) X.1 X.2.1 dX8_exchange_85 rfl (lv_at hl 1 rfl) ?_
        refine M_getr (pc := 86) X G 0 (by decide) (by decide +kernel) fl_X8_7 dX8_exchange_86 ?_
        refine lv_bipush (pc := 89) (v := 26) X.1 X.2.1 dX8_exchange_89 (by decide) ?_
        refine lv_bipush (pc := 91) (v := 60) X.1 X.2.1 dX8_exchange_91 (by decide) ?_
        refine lv_iload_n (pc := 93) X.1 X.2.1 dX8_exchange_93 rfl (lv_at hl 2 rfl) ?_
        refine lv_imul (pc := 94) X.1 X.2.1 dX8_exchange_94 ?_
        refine lv_iadd (pc := 95) X.1 X.2.1 dX8_exchange_95 ?_
        refine lv_iload (pc := 96) X.1 X.2.1 dX8_exchange_96 (lv_at hl 4 rfl) ?_
        refine lv_iadd (pc := 98) X.1 X.2.1 dX8_exchange_98 ?_
        refine lv_aload_n (pc := 99) X.1 X.2.1 dX8_exchange_99 rfl (lv_at hl 1 rfl) ?_
        refine M_getr (pc := 100) X G 0 (by decide) (by decide +kernel) fl_X8_7 dX8_exchange_100 ?_
        refine lv_bipush (pc := 103) (v := 26) X.1 X.2.1 dX8_exchange_103 (by decide) ?_
        refine lv_bipush (pc := 105) (v := 60) X.1 X.2.1 dX8_exchange_105 (by decide) ?_
        refine lv_iload_n (pc := 107) X.1 X.2.1 dX8_exchange_107 rfl (lv_at hl 3 rfl) ?_
        refine lv_imul (pc := 108) X.1 X.2.1 dX8_exchange_108 ?_
        refine lv_iadd (pc := 109) X.1 X.2.1 dX8_exchange_109 ?_
        refine lv_iload (pc := 110) X.1 X.2.1 dX8_exchange_110 (lv_at hl 4 rfl) ?_
        refine lv_iadd (pc := 112) X.1 X.2.1 dX8_exchange_112 ?_
        obtain ⟨hix28, h⟩ := rd_some h
        refine M_iald (pc := 113) X G (i := 0) (n := 2153) (by decide +kernel) (by decide) rfl hix28 dX8_exchange_113 ?_
        refine lv_topi (fun x28 ex28 => ?_)
        rw [← ex28] at h
        obtain ⟨hiz29, z29, ez29, h⟩ := wr_some h
        refine M_iast (pc := 114) X G (i := 0) (n := 2153) ez29 (by decide +kernel) (by decide) rfl hiz29 dX8_exchange_114 (fun H locs G => ?_)
        refine lv_aload_n (pc := 115) X.1 X.2.1 dX8_exchange_115 rfl (lv_at hl 1 rfl) ?_
        refine M_getr (pc := 116) X G 0 (by decide) (by decide +kernel) fl_X8_7 dX8_exchange_116 ?_
        refine lv_bipush (pc := 119) (v := 26) X.1 X.2.1 dX8_exchange_119 (by decide) ?_
        refine lv_bipush (pc := 121) (v := 60) X.1 X.2.1 dX8_exchange_121 (by decide) ?_
        refine lv_iload_n (pc := 123) X.1 X.2.1 dX8_exchange_123 rfl (lv_at hl 3 rfl) ?_
        refine lv_imul (pc := 124) X.1 X.2.1 dX8_exchange_124 ?_
        refine lv_iadd (pc := 125) X.1 X.2.1 dX8_exchange_125 ?_
        refine lv_iload (pc := 126) X.1 X.2.1 dX8_exchange_126 (lv_at hl 4 rfl) ?_
        refine lv_iadd (pc := 128) X.1 X.2.1 dX8_exchange_128 ?_
        refine lv_iload (pc := 129) X.1 X.2.1 dX8_exchange_129 (lv_at hl 0 rfl) ?_
        obtain ⟨hiz30, z30, ez30, h⟩ := wr_some h
        refine M_iast (pc := 131) X G (i := 0) (n := 2153) ez30 (by decide +kernel) (by decide) rfl hiz30 dX8_exchange_131 (fun H locs G => ?_)
        obtain ⟨x31, ex31, h⟩ := bd_some h
        refine lv_iinc (pc := 132) (v := x31) (lv' := [(4, .int x31), (5, .int x27), (0, .ref (ad 43)), (1, .int p0), (2, .int p1)]) X.1 X.2.1 dX8_exchange_132 hl (k := 4) rfl (by rw [ex31]; rfl) (by decide) rfl (fun ls hl => ?_)
        refine lv_goto (pc := 135) (tgt := 61) X.1 X.2.1 dX8_exchange_135 (by decide) ?_
        have h := Option.some.inj h
        exact ih1 _ h.symm _ _ ls G (lv_sub hl [2, 3, 4, 0] rfl)
    · have h := it_neg h hc10
      refine lv_iconst (pc := 26) (v := 0) X.1 X.2.1 dX8_exchange_26 (by decide) ?_
      have h := Option.some.inj h
      exact m_iret (pc := 27) X G hr hlk dX8_exchange_27 (congrArg Prod.snd h) (congrArg (fun q : MS × Int32 => celM κ ad r0 q.1) h)
  obtain ⟨k3, ek3, h⟩ := jp_some h
  have hk3 : ∀  (H : Heap) (locs : List Loc) (ls : Array Slot), k3 () = some res → Mm D κ A ad (celM κ ad r0 z) s H locs → lv_has ls 6 [(0, .ref (ad 43)), (1, .int p0), (2, .int p1)] → W p l e rm8_exchange s m [.ref (ad 43), .int p0, .int p1].toArray below meth c H locs 0 0 (MQ below (QI D κ A ad (celM κ ad r0 res.1) res.2) [.ref (ad 43), .int p0, .int p1].toArray s 0 0 A) (F0 m 19 ls [.ref (ad 43)]) := by
    intro  H locs ls h G hl
    rw [ek3] at h
    try dsimp only at h
    refine lv_iconst (pc := 19) (v := 1) X.1 X.2.1 dX8_exchange_19 (by decide) ?_
    exact hk2 1 _ _ ls h G (lv_sub hl [0, 1, 2] rfl)
  refine lv_if_eq (pc := 5) (tgt := 19) X.1 X.2.1 dX8_exchange_5 (by decide) (fun hc4 => ?_) (fun hc4 => ?_)
  · have h := it_pos h hc4
    exact hk3  _ _ ls h G (lv_sub hl [0, 1, 2] rfl)
  · have h := it_neg h hc4
    refine lv_iload_n (pc := 8) X.1 X.2.1 dX8_exchange_8 rfl (lv_at hl 2 rfl) ?_
    obtain ⟨x5, ex5, h⟩ := bn_some h
    refine m_callsi0 (pc := 9) (v := x5) (As := [.int p1]) (rest := [.ref (ad 43)]) X G (rm := rm8_isLetter) rfl rfl (c8_isLetter l D κ A ad (celM κ ad r0 z) p1 x5 ex5) g_X8_132 hs_yX8_isLetter ⟨Nat.le_of_ble_eq_true rfl, Nat.le_of_ble_eq_true rfl⟩ rfl hl rfl (lv_room (Nat.le_of_ble_eq_true rfl)) dX8_exchange_9 ⟨Nat.le_of_ble_eq_true rfl, Nat.le_of_ble_eq_true rfl⟩ (fun H locs G => ?_)
    refine lv_if_eq (pc := 12) (tgt := 19) X.1 X.2.1 dX8_exchange_12 (by decide) (fun hc6 => ?_) (fun hc6 => ?_)
    · have h := it_pos h hc6
      exact hk3  _ _ ls h G (lv_sub hl [0, 1, 2] rfl)
    · have h := it_neg h hc6
      refine lv_iconst (pc := 15) (v := 0) X.1 X.2.1 dX8_exchange_15 (by decide) ?_
      refine lv_goto (pc := 16) (tgt := 20) X.1 X.2.1 dX8_exchange_16 (by decide) ?_
      exact hk2 0 _ _ ls h G (lv_sub hl [0, 1, 2] rfl)

abbrev rm8_set : Room := { frames := 1, cells := 0, slots := 0, locals := 22 }
noncomputable def F8_set (z : MS) (p0 : Int32) : Option (MS × Int32) :=
  bn (F8_in p0 1 12) fun x1 =>
  jp (fun (x4 : Int32) => bn2 (F8_refused z x4) fun z6 x5 =>
  if x5 = 0 then
  bn (F8_saves z6) fun z8 =>
  rd (z8 0) 2153 (1586 : Int32) fun x9 =>
  wr z8 0 2153 1586 p0 fun z10 =>
  some (z10, x9)
  else
  some (z6, 0)) fun k2 =>
  if x1 = 0 then
  k2 1
  else
  k2 0
set_option maxHeartbeats 4000000 in
set_option maxRecDepth 100000 in
theorem c8_set (l : Launch) (D : va_G) (κ : Nat → ClassId) (A : Nat → Prop) (ad : Nat → Nat) (r0 : Nat → Option va_E) (z : MS) (p0 : Int32) (res : MS × Int32) (h : F8_set z p0 = some res) : Met l yX8_set (gw yX8_set cX8_set 3 (some (FieldType.int))) rm8_set (va_Pc [.ref (ad 43), .int p0] (MW D κ A ad (celM κ ad r0 z))) (QI D κ A ad (celM κ ad r0 res.1) res.2) 0 0 A := by
  refine met_of (own := RX8) (by decide +kernel) rfl (Nat.le_of_ble_eq_true rfl) ?_
  intro p e s m below meth c ls X hr hlk G hl
  have hl : lv_has ls 3 [(0, .ref (ad 43)), (1, .int p0)] := hl
  unfold F8_set at h
  refine lv_aload_n (pc := 0) X.1 X.2.1 dX8_set_0 rfl (lv_at hl 0 rfl) ?_
  refine lv_iload_n (pc := 1) X.1 X.2.1 dX8_set_1 rfl (lv_at hl 1 rfl) ?_
  refine lv_iconst (pc := 2) (v := 1) X.1 X.2.1 dX8_set_2 (by decide) ?_
  refine lv_bipush (pc := 3) (v := 12) X.1 X.2.1 dX8_set_3 (by decide) ?_
  obtain ⟨x1, ex1, h⟩ := bn_some h
  refine m_callsi0 (pc := 5) (v := x1) (As := [.int p0, .int 1, .int 12]) (rest := [.ref (ad 43)]) X G (rm := rm8_in) rfl rfl (c8_in l D κ A ad (celM κ ad r0 z) p0 1 12 x1 ex1) g_X8_102 hs_yX8_in ⟨Nat.le_of_ble_eq_true rfl, Nat.le_of_ble_eq_true rfl⟩ rfl hl rfl (lv_room (Nat.le_of_ble_eq_true rfl)) dX8_set_5 ⟨Nat.le_of_ble_eq_true rfl, Nat.le_of_ble_eq_true rfl⟩ (fun H locs G => ?_)
  obtain ⟨k2, ek2, h⟩ := jp_some h
  have hk2 : ∀ (x4 : Int32) (H : Heap) (locs : List Loc) (ls : Array Slot), k2 x4 = some res → Mm D κ A ad (celM κ ad r0 z) s H locs → lv_has ls 3 [(0, .ref (ad 43)), (1, .int p0)] → W p l e rm8_set s m [.ref (ad 43), .int p0].toArray below meth c H locs 0 0 (MQ below (QI D κ A ad (celM κ ad r0 res.1) res.2) [.ref (ad 43), .int p0].toArray s 0 0 A) (F0 m 16 ls [.int x4, .ref (ad 43)]) := by
    intro x4 H locs ls h G hl
    rw [ek2] at h
    try dsimp only at h
    obtain ⟨z6, x5, ex5, h⟩ := bn2_some h
    refine M_calli (pc := 16) (z1 := z6) (v := x5) (As := [.int x4]) (rest := []) X G (rm := rm8_refused) rfl rfl (c8_refused l D κ A ad r0 z x4 (z6, x5) ex5) g_X8_116 hd_yX8_refused ⟨Nat.le_of_ble_eq_true rfl, Nat.le_of_ble_eq_true rfl⟩ rfl hl rfl (lv_room (Nat.le_of_ble_eq_true rfl)) dX8_set_16 ⟨Nat.le_of_ble_eq_true rfl, Nat.le_of_ble_eq_true rfl⟩ (fun H locs G => ?_)
    refine lv_if_eq (pc := 19) (tgt := 24) X.1 X.2.1 dX8_set_19 (by decide) (fun hc7 => ?_) (fun hc7 => ?_)
    · have h := it_pos h hc7
      refine lv_aload_n (pc := 24) X.1 X.2.1 dX8_set_24 rfl (lv_at hl 0 rfl) ?_
      obtain ⟨z8, ez8, h⟩ := bn_some h
      refine M_callv (pc := 25) (z1 := z8) (As := []) (rest := []) X G (rm := rm8_saves) rfl rfl (c8_saves l D κ A ad r0 z6  z8 ez8) g_X8_143 hd_yX8_saves ⟨Nat.le_of_ble_eq_true rfl, Nat.le_of_ble_eq_true rfl⟩ rfl hl rfl (lv_room (Nat.le_of_ble_eq_true rfl)) dX8_set_25 ⟨Nat.le_of_ble_eq_true rfl, Nat.le_of_ble_eq_true rfl⟩ (fun H locs G => ?_)
      refine lv_aload_n (pc := 28) X.1 X.2.1 dX8_set_28 rfl (lv_at hl 0 rfl) ?_
      refine M_getr (pc := 29) X G 0 (by decide) (by decide +kernel) fl_X8_7 dX8_set_29 ?_
      refine lv_sipush (pc := 32) (v := 1586) X.1 X.2.1 dX8_set_32 (by decide) ?_
      obtain ⟨hix9, h⟩ := rd_some h
      refine M_iald (pc := 35) X G (i := 0) (n := 2153) (by decide +kernel) (by decide) rfl hix9 dX8_set_35 ?_
      refine lv_topi (fun x9 ex9 => ?_)
      rw [← ex9] at h
      refine lv_istore_n (pc := 36) (lv' := [(2, .int x9), (0, .ref (ad 43)), (1, .int p0)]) X.1 X.2.1 dX8_set_36 rfl hl (by decide) rfl (fun ls hl => ?_)
      refine lv_aload_n (pc := 37) X.1 X.2.1 dX8_set_37 rfl (lv_at hl 1 rfl) ?_
      refine M_getr (pc := 38) X G 0 (by decide) (by decide +kernel) fl_X8_7 dX8_set_38 ?_
      refine lv_sipush (pc := 41) (v := 1586) X.1 X.2.1 dX8_set_41 (by decide) ?_
      refine lv_iload_n (pc := 44) X.1 X.2.1 dX8_set_44 rfl (lv_at hl 2 rfl) ?_
      obtain ⟨hiz10, z10, ez10, h⟩ := wr_some h
      refine M_iast (pc := 45) X G (i := 0) (n := 2153) ez10 (by decide +kernel) (by decide) rfl hiz10 dX8_set_45 (fun H locs G => ?_)
      refine lv_iload_n (pc := 46) X.1 X.2.1 dX8_set_46 rfl (lv_at hl 0 rfl) ?_
      have h := Option.some.inj h
      exact m_iret (pc := 47) X G hr hlk dX8_set_47 (congrArg Prod.snd h) (congrArg (fun q : MS × Int32 => celM κ ad r0 q.1) h)
    · have h := it_neg h hc7
      refine lv_iconst (pc := 22) (v := 0) X.1 X.2.1 dX8_set_22 (by decide) ?_
      have h := Option.some.inj h
      exact m_iret (pc := 23) X G hr hlk dX8_set_23 (congrArg Prod.snd h) (congrArg (fun q : MS × Int32 => celM κ ad r0 q.1) h)
  refine lv_if_eq (pc := 8) (tgt := 15) X.1 X.2.1 dX8_set_8 (by decide) (fun hc3 => ?_) (fun hc3 => ?_)
  · have h := it_pos h hc3
    refine lv_iconst (pc := 15) (v := 1) X.1 X.2.1 dX8_set_15 (by decide) ?_
    exact hk2 1 _ _ ls h G (lv_sub hl [0, 1] rfl)
  · have h := it_neg h hc3
    refine lv_iconst (pc := 11) (v := 0) X.1 X.2.1 dX8_set_11 (by decide) ?_
    refine lv_goto (pc := 12) (tgt := 16) X.1 X.2.1 dX8_set_12 (by decide) ?_
    exact hk2 0 _ _ ls h G (lv_sub hl [0, 1] rfl)
