/-! THE LAW'S OWN METHODS, laid by wip/p27/walkl.py -/
abbrev rmL_hangs : Room := { frames := 55, cells := 0, slots := 0, locals := 1761 }
noncomputable def FL_hangs (E : Nat → Int32 → Int32 → Option Int32) (dM : UInt64) : Option (Int32) :=
  bn (E 0 0 0) fun x2 =>
  bn (E 0 7 0) fun x8 =>
  bn (E 0 5 0) fun x14 =>
  jp (fun (x77 : Int32) => Loop (fun (q : Int32 × Int32 × Int32) => (fun (x86 : Int32) (x87 : Int32) (x88 : Int32) =>
  jp (fun (_ : Unit) => jp (fun (x181 : Int32) => Loop (fun (q : Int32 × Int32 × Int32 × Int32) => (fun (x194 : Int32) (x195 : Int32) (x196 : Int32) (x197 : Int32) =>
  jp (fun (_ : Unit) => jp (fun (x408 : Int32) => Loop (fun (q : Int32 × Int32 × Int32 × Int32 × Int32) => (fun (x423 : Int32) (x424 : Int32) (x425 : Int32) (x426 : Int32) (x427 : Int32) =>
  jp (fun (_ : Unit) => jp (fun (x773 : Int32) => bz x773 (some (.inr (.inr (.inr x773))))) fun k719 =>
  jp (fun (_ : Unit) => k719 0) fun k721 =>
  if x423 = 0 then
  k721 ()
  else
  bn (E 3 0 0) fun x727 =>
  if ¬ x424 = x727 then
  k721 ()
  else
  bn (E 3 5 0) fun x734 =>
  if ¬ x425 = x734 then
  k721 ()
  else
  jp (fun (d750 : UInt64) => if ¬ (Op.cmpValue (FP.dcmp dM d750) .l) = 0 then
  k721 ()
  else
  bn (E 9 0 0) fun x759 =>
  bn (E 3 1 0) fun x763 =>
  if ¬ (x759 &&& x763) = 0 then
  k721 ()
  else
  k719 1) fun k744 =>
  if ¬ x424 = 0 then
  pr (dvok x426 x424) <|
  k744 (FP.ddiv (FP.i2d x426) (FP.i2d x424))
  else
  k744 FP.dconst0) fun k432 =>
  if (26 : Int32) ≤ x427 then
  k432 ()
  else
  if x423 = 0 then
  k432 ()
  else
  bn (E 3 1 0) fun x441 =>
  jp (fun (x449 : Int32) => jp (fun (x461 : Int32) => bd (x424 + x461) fun x466 =>
  jp (fun (x479 : Int32) => bd (x425 + x479) fun x484 =>
  jp (fun (x497 : Int32) => bd (x426 + x497) fun x502 =>
  bn (E 8 0 0) fun x507 =>
  bd ((x507 >>> (x427 &&& 31)) &&& 1) fun x510 =>
  jp (fun (x634 : Int32) => jp (fun (x704 : Int32) => bd (x427 + 1) fun x711 =>
  some (.inl (x704, x466, x484, x502, x711))) fun k641 =>
  jp (fun (_ : Unit) => k641 0) fun k643 =>
  if x634 = 0 then
  k643 ()
  else
  bn (E 5 x427 0) fun x649 =>
  bn (E 5 x427 1) fun x653 =>
  if ¬ (x649 &&& (x653 ^^^ (-1))) = 0 then
  k643 ()
  else
  bn (E 5 x427 2) fun x660 =>
  bn (E 5 x427 3) fun x664 =>
  if ¬ (x660 &&& (x664 ^^^ (-1))) = 0 then
  k643 ()
  else
  bn (E 5 x427 1) fun x671 =>
  if ¬ ((x671 >>> (x427 &&& 31)) &&& 1) = x510 then
  k643 ()
  else
  bn (E 5 x427 3) fun x678 =>
  if ¬ ((x678 >>> (x427 &&& 31)) &&& 1) = x510 then
  k643 ()
  else
  jp (fun (_ : Unit) => k641 1) fun k684 =>
  if x510 = 0 then
  k684 ()
  else
  bn (E 6 x427 0) fun x690 =>
  if ¬ x690 = (-1) then
  k643 ()
  else
  k684 ()) fun k514 =>
  if x449 = 0 then
  bn (E 4 x427 0) fun x520 =>
  jp (fun (_ : Unit) => k514 0) fun k523 =>
  if ¬ x520 = (-1) then
  k523 ()
  else
  bn (E 5 x427 0) fun x529 =>
  if ¬ x529 = 0 then
  k523 ()
  else
  bn (E 5 x427 1) fun x536 =>
  if ¬ x536 = 0 then
  k523 ()
  else
  bn (E 6 x427 0) fun x543 =>
  if ¬ x543 = 0 then
  k523 ()
  else
  bn (E 7 x427 3) fun x550 =>
  if ¬ x550 = (-1) then
  k523 ()
  else
  k514 1
  else
  bn (E 4 x427 0) fun x561 =>
  bn (E 4 x427 1) fun x565 =>
  bn (E 4 x427 2) fun x569 =>
  bn (E 4 x427 5) fun x573 =>
  jp (fun (_ : Unit) => k514 0) fun k576 =>
  if x561 < ((x565 + x569) + x573) then
  k576 ()
  else
  bn (E 4 x427 4) fun x582 =>
  bn (E 4 x427 2) fun x586 =>
  if x586 < x582 then
  k576 ()
  else
  bn (E 4 x427 2) fun x593 =>
  jp (fun (x601 : Int32) => bn (E 5 x427 0) fun x607 =>
  jp (fun (x615 : Int32) => if ¬ x601 = x615 then
  k576 ()
  else
  bn (E 6 x427 0) fun x624 =>
  if x624 = 0 then
  k576 ()
  else
  k514 1) fun k610 =>
  if x607 = 0 then
  k610 0
  else
  k610 1) fun k596 =>
  if x593 ≤ 0 then
  k596 0
  else
  k596 1) fun k488 =>
  if x449 = 0 then
  k488 0
  else
  bn (E 4 x427 1) fun x494 =>
  k488 x494) fun k470 =>
  if x449 = 0 then
  k470 0
  else
  bn (E 4 x427 2) fun x476 =>
  k470 x476) fun k456 =>
  if x449 = 0 then
  k456 0
  else
  k456 1) fun k444 =>
  if ¬ ((x441 >>> (x427 &&& 31)) &&& 1) = 1 then
  k444 0
  else
  k444 1) q.1 q.2.1 q.2.2.1 q.2.2.2.1 q.2.2.2.2) (x408, 0, 0, 0, 0)) fun k368 =>
  jp (fun (_ : Unit) => k368 0) fun k370 =>
  if x194 = 0 then
  k370 ()
  else
  jp (fun (_ : Unit) => k368 1) fun k375 =>
  if (60 : Int32) ≤ x8 then
  if x14 < x195 then
  k370 ()
  else
  bn (E 0 6 0) fun x384 =>
  if x384 < x196 then
  k370 ()
  else
  k375 ()
  else
  if ¬ x195 = x14 then
  k370 ()
  else
  bn (E 0 6 0) fun x394 =>
  if ¬ x196 = x394 then
  k370 ()
  else
  k375 ()) fun k202 =>
  if x8 ≤ x197 then
  k202 ()
  else
  if x194 = 0 then
  k202 ()
  else
  bn (E 2 x197 1) fun x211 =>
  bn (E 2 x197 2) fun x217 =>
  jp (fun (x318 : Int32) => jp (fun (x330 : Int32) => bd (x195 + x330) fun x335 =>
  jp (fun (x353 : Int32) => bd (x197 + 1) fun x360 =>
  some (.inl (x318, x335, x353, x360))) fun k339 =>
  jp (fun (_ : Unit) => k339 x196) fun k341 =>
  if ¬ x211 = 0 then
  k341 ()
  else
  if (x217 + 1) ≤ x196 then
  k341 ()
  else
  k339 (x217 + 1)) fun k325 =>
  if ¬ x211 = 0 then
  k325 0
  else
  k325 1) fun k222 =>
  jp (fun (_ : Unit) => k222 0) fun k224 =>
  if x211 < 0 then
  k224 ()
  else
  if (4 : Int32) ≤ x211 then
  k224 ()
  else
  bn (E 2 x197 0) fun x233 =>
  if x233 < 0 then
  k224 ()
  else
  bn (E 2 x197 0) fun x240 =>
  if (26 : Int32) ≤ x240 then
  k224 ()
  else
  if x217 < 0 then
  k224 ()
  else
  if (12 : Int32) < x217 then
  k224 ()
  else
  bn (E 2 x197 3) fun x253 =>
  if x253 < 0 then
  k224 ()
  else
  bn (E 2 x197 3) fun x260 =>
  if (6 : Int32) < x260 then
  k224 ()
  else
  jp (fun (_ : Unit) => bn (E 2 x197 4) fun x290 =>
  if (200 : Int32) < x290 then
  k224 ()
  else
  bn (E 2 x197 5) fun x297 =>
  if x297 < 0 then
  k224 ()
  else
  bn (E 2 x197 5) fun x304 =>
  bn (E 2 x197 3) fun x308 =>
  if ((200 : Int32) * x308) < x304 then
  k224 ()
  else
  k222 1) fun k266 =>
  if ¬ x211 = 0 then
  bn (E 2 x197 4) fun x272 =>
  if ¬ x272 = 1 then
  k224 ()
  else
  k266 ()
  else
  bn (E 2 x197 4) fun x279 =>
  if x279 < 0 then
  k224 ()
  else
  k266 ()) q.1 q.2.1 q.2.2.1 q.2.2.2) (x181, 0, 0, 0)) fun k151 =>
  jp (fun (_ : Unit) => k151 0) fun k153 =>
  if x77 = 0 then
  k153 ()
  else
  bn (E 0 1 0) fun x159 =>
  bn (E 0 2 0) fun x163 =>
  bn (E 0 3 0) fun x167 =>
  bn (E 0 4 0) fun x171 =>
  if ¬ ((((x87 + x159) + x163) + x167) + x171) = x86 then
  k153 ()
  else
  k151 1) fun k93 =>
  if x2 ≤ x88 then
  k93 ()
  else
  if x77 = 0 then
  k93 ()
  else
  bn (E 1 x88 0) fun x102 =>
  jp (fun (x130 : Int32) => bd (x87 + x130) fun x135 =>
  bd (x86 + 1) fun x139 =>
  bd (x88 + 1) fun x143 =>
  some (.inl (x139, x135, x143))) fun k107 =>
  jp (fun (_ : Unit) => k107 1) fun k109 =>
  jp (fun (_ : Unit) => if ¬ x102 = 95 then
  k107 0
  else
  k109 ()) fun k111 =>
  if x102 < 97 then
  k111 ()
  else
  if x102 ≤ 122 then
  k109 ()
  else
  k111 ()) q.1 q.2.1 q.2.2) (0, 0, 0)) fun k23 =>
  jp (fun (_ : Unit) => k23 0) fun k25 =>
  if x2 < 0 then
  k25 ()
  else
  if (200 : Int32) < x2 then
  k25 ()
  else
  if x8 < 0 then
  k25 ()
  else
  if (60 : Int32) < x8 then
  k25 ()
  else
  if x14 < 0 then
  k25 ()
  else
  if (60 : Int32) < x14 then
  k25 ()
  else
  bn (E 0 6 0) fun x46 =>
  if x46 < 0 then
  k25 ()
  else
  bn (E 0 6 0) fun x53 =>
  if (12 : Int32) < x53 then
  k25 ()
  else
  bn (E 1 x2 0) fun x60 =>
  if ¬ x60 = (-1) then
  k25 ()
  else
  bn (E 2 x8 0) fun x67 =>
  if ¬ x67 = (-1) then
  k25 ()
  else
  k23 1
set_option maxHeartbeats 4000000 in
set_option maxRecDepth 100000 in
theorem mL_hangs (l : Launch) (D : va_G) (κ : Nat → ClassId) (A : Nat → Prop) (o : Nat) (P : BS → Prop) (E : Nat → Int32 → Int32 → Option Int32) (dM : UInt64) (hE : ∀ m x y v, E m x y = some v → QH P m x y v) (hD : ∀ b, P b → F7_meanHoles b = some dM) (res : Int32) (h : FL_hangs E dM = some res) : Met l yL_hangs (gw yL_hangs cL_hangs 15 (some (FieldType.boolean))) rmL_hangs (va_Pc [.ref o] (WB D κ A (B1 D κ A o P))) (QW A (B1 D κ A o P) res) 0 0 A := by
  refine met_ofG (own := RL) (by decide +kernel) rfl (Nat.le_of_ble_eq_true rfl) ?_
  intro p e s m below meth c ls X hr hlk G hl
  have G : Wo D κ A (B1 D κ A o P) s s.heap [] := G
  have hl : lv_has ls 15 [(0, .ref o)] := hl
  unfold FL_hangs at h
  refine lv_aload_n (pc := 0) X.1 X.2.1 dL_hangs_0 rfl (lv_at hl 0 rfl) ?_
  refine lv_iconst (pc := 1) (v := 0) X.1 X.2.1 dL_hangs_1 (by decide) ?_
  obtain ⟨x2, e1, h3⟩ := bn_some h
  refine w_callH (pc := 2) (v := x2) (B' := (B1 D κ A o P)) (As := [.ref o, .int 0]) (rest := []) X G (rm := rmLn_result) rfl rfl (bn_result l D κ A o P P 0 x2 (qh_result (hE 0 0 0 x2 e1))) gL_106 hsL_result ⟨Nat.le_of_ble_eq_true rfl, Nat.le_of_ble_eq_true rfl⟩ rfl hl rfl (lv_room (Nat.le_of_ble_eq_true rfl)) dL_hangs_2 ⟨Nat.le_of_ble_eq_true rfl, Nat.le_of_ble_eq_true rfl⟩ (fun H locs G4 => ?_)
  refine lv_istore_n (pc := 5) (lv' := [(1, .int x2), (0, .ref o)]) X.1 X.2.1 dL_hangs_5 rfl hl (by decide) rfl (fun ls5 hl6 => ?_)
  refine lv_aload_n (pc := 6) X.1 X.2.1 dL_hangs_6 rfl (lv_at hl6 1 rfl) ?_
  refine lv_bipush (pc := 7) (v := 7) X.1 X.2.1 dL_hangs_7 (by decide) ?_
  obtain ⟨x8, e7, h9⟩ := bn_some h3
  refine w_callH (pc := 9) (v := x8) (B' := (B1 D κ A o P)) (As := [.ref o, .int 7]) (rest := []) X G4 (rm := rmLn_result) rfl rfl (bn_result l D κ A o P P 7 x8 (qh_result (hE 0 7 0 x8 e7))) gL_106 hsL_result ⟨Nat.le_of_ble_eq_true rfl, Nat.le_of_ble_eq_true rfl⟩ rfl hl6 rfl (lv_room (Nat.le_of_ble_eq_true rfl)) dL_hangs_9 ⟨Nat.le_of_ble_eq_true rfl, Nat.le_of_ble_eq_true rfl⟩ (fun H locs G10 => ?_)
  refine lv_istore_n (pc := 12) (lv' := [(2, .int x8), (1, .int x2), (0, .ref o)]) X.1 X.2.1 dL_hangs_12 rfl hl6 (by decide) rfl (fun ls11 hl12 => ?_)
  refine lv_aload_n (pc := 13) X.1 X.2.1 dL_hangs_13 rfl (lv_at hl12 2 rfl) ?_
  refine lv_iconst (pc := 14) (v := 5) X.1 X.2.1 dL_hangs_14 (by decide) ?_
  obtain ⟨x14, e13, h15⟩ := bn_some h9
  refine w_callH (pc := 15) (v := x14) (B' := (B1 D κ A o P)) (As := [.ref o, .int 5]) (rest := []) X G10 (rm := rmLn_result) rfl rfl (bn_result l D κ A o P P 5 x14 (qh_result (hE 0 5 0 x14 e13))) gL_106 hsL_result ⟨Nat.le_of_ble_eq_true rfl, Nat.le_of_ble_eq_true rfl⟩ rfl hl12 rfl (lv_room (Nat.le_of_ble_eq_true rfl)) dL_hangs_15 ⟨Nat.le_of_ble_eq_true rfl, Nat.le_of_ble_eq_true rfl⟩ (fun H locs G16 => ?_)
  refine lv_istore_n (pc := 18) (lv' := [(3, .int x14), (2, .int x8), (1, .int x2), (0, .ref o)]) X.1 X.2.1 dL_hangs_18 rfl hl12 (by decide) rfl (fun ls17 hl18 => ?_)
  refine lv_iconst (pc := 19) (v := 0) X.1 X.2.1 dL_hangs_19 (by decide) ?_
  refine lv_istore (pc := 20) (lv' := [(4, .int 0), (3, .int x14), (2, .int x8), (1, .int x2), (0, .ref o)]) X.1 X.2.1 dL_hangs_20 hl18 (by decide) rfl (fun ls19 hl20 => ?_)
  refine lv_iconst (pc := 22) (v := 0) X.1 X.2.1 dL_hangs_22 (by decide) ?_
  refine lv_istore (pc := 23) (lv' := [(5, .int 0), (4, .int 0), (3, .int x14), (2, .int x8), (1, .int x2), (0, .ref o)]) X.1 X.2.1 dL_hangs_23 hl20 (by decide) rfl (fun ls21 hl22 => ?_)
  refine lv_iload_n (pc := 25) X.1 X.2.1 dL_hangs_25 rfl (lv_at hl22 4 rfl) ?_
  obtain ⟨k23, ek23, h24⟩ := jp_some h15
  have hk23 : ∀ (x77 : Int32) (H : Heap) (locs : List Loc) (ls : Array Slot), k23 x77 = some res → Wo D κ A (B1 D κ A o P) s H locs → lv_has ls 15 [(0, .ref o), (1, .int x2), (2, .int x8), (3, .int x14), (4, .int 0), (5, .int 0)] → W p l e rmL_hangs s m [.ref o].toArray below meth c H locs 0 0 (MQ below (QW A (B1 D κ A o P) res) [.ref o].toArray s 0 0 A) (F0 m 100 ls [.int x77]) := by
    intro x77 H locs ls81 h78 G79 hl80
    rw [ek23] at h78
    try dsimp only at h78
    refine lv_istore (pc := 100) (lv' := [(6, .int x77), (0, .ref o), (1, .int x2), (2, .int x8), (3, .int x14), (4, .int 0), (5, .int 0)]) X.1 X.2.1 dL_hangs_100 hl80 (by decide) rfl (fun ls82 hl83 => ?_)
    refine lv_iconst (pc := 102) (v := 0) X.1 X.2.1 dL_hangs_102 (by decide) ?_
    refine lv_istore (pc := 103) (lv' := [(7, .int 0), (6, .int x77), (0, .ref o), (1, .int x2), (2, .int x8), (3, .int x14), (4, .int 0), (5, .int 0)]) X.1 X.2.1 dL_hangs_103 hl83 (by decide) rfl (fun ls84 hl85 => ?_)
    refine Loop_ind (P := fun (q : Int32 × Int32 × Int32) => ∀ (H : Heap) (locs : List Loc) (ls : Array Slot), Wo D κ A (B1 D κ A o P) s H locs → lv_has ls 15 [(0, .ref o), (1, .int x2), (2, .int x8), (3, .int x14), (4, .int q.1), (5, .int q.2.1), (6, .int x77), (7, .int q.2.2)] → W p l e rmL_hangs s m [.ref o].toArray below meth c H locs 0 0 (MQ below (QW A (B1 D κ A o P) res) [.ref o].toArray s 0 0 A) (F0 m 105 ls [])) ?_ h78 _ _ ls84 G79 (lv_sub hl85 [2, 3, 4, 5, 6, 7, 1, 0] rfl)
    intro q y1 h89 ih1 hz1 H locs ls92 G90 hl91
    obtain ⟨x86, x87, x88⟩ := q
    try dsimp only at h89 ih1 G90 hl91 ⊢
    refine lv_iload (pc := 105) X.1 X.2.1 dL_hangs_105 (lv_at hl91 7 rfl) ?_
    refine lv_iload_n (pc := 107) X.1 X.2.1 dL_hangs_107 rfl (lv_at hl91 1 rfl) ?_
    obtain ⟨k93, ek93, h94⟩ := jp_some h89
    have hk93 : ∀  (H : Heap) (locs : List Loc) (ls : Array Slot), k93 () = some y1 → Wo D κ A (B1 D κ A o P) s H locs → lv_has ls 15 [(0, .ref o), (2, .int x8), (3, .int x14), (4, .int x86), (5, .int x87), (6, .int x77)] → W p l e rmL_hangs s m [.ref o].toArray below meth c H locs 0 0 (MQ below (QW A (B1 D κ A o P) res) [.ref o].toArray s 0 0 A) (F0 m 164 ls []) := by
      intro  H locs ls150 h147 G148 hl149
      rw [ek93] at h147
      try dsimp only at h147
      refine lv_iload (pc := 164) X.1 X.2.1 dL_hangs_164 (lv_at hl149 5 rfl) ?_
      obtain ⟨k151, ek151, h152⟩ := jp_some h147
      have hk151 : ∀ (x181 : Int32) (H : Heap) (locs : List Loc) (ls : Array Slot), k151 x181 = some y1 → Wo D κ A (B1 D κ A o P) s H locs → lv_has ls 15 [(0, .ref o), (2, .int x8), (3, .int x14)] → W p l e rmL_hangs s m [.ref o].toArray below meth c H locs 0 0 (MQ below (QW A (B1 D κ A o P) res) [.ref o].toArray s 0 0 A) (F0 m 205 ls [.int x181]) := by
        intro x181 H locs ls185 h182 G183 hl184
        rw [ek151] at h182
        try dsimp only at h182
        refine lv_istore (pc := 205) (lv' := [(6, .int x181), (0, .ref o), (2, .int x8), (3, .int x14)]) X.1 X.2.1 dL_hangs_205 hl184 (by decide) rfl (fun ls186 hl187 => ?_)
        refine lv_iconst (pc := 207) (v := 0) X.1 X.2.1 dL_hangs_207 (by decide) ?_
        refine lv_istore (pc := 208) (lv' := [(7, .int 0), (6, .int x181), (0, .ref o), (2, .int x8), (3, .int x14)]) X.1 X.2.1 dL_hangs_208 hl187 (by decide) rfl (fun ls188 hl189 => ?_)
        refine lv_iconst (pc := 210) (v := 0) X.1 X.2.1 dL_hangs_210 (by decide) ?_
        refine lv_istore (pc := 211) (lv' := [(8, .int 0), (7, .int 0), (6, .int x181), (0, .ref o), (2, .int x8), (3, .int x14)]) X.1 X.2.1 dL_hangs_211 hl189 (by decide) rfl (fun ls190 hl191 => ?_)
        refine lv_iconst (pc := 213) (v := 0) X.1 X.2.1 dL_hangs_213 (by decide) ?_
        refine lv_istore (pc := 214) (lv' := [(9, .int 0), (8, .int 0), (7, .int 0), (6, .int x181), (0, .ref o), (2, .int x8), (3, .int x14)]) X.1 X.2.1 dL_hangs_214 hl191 (by decide) rfl (fun ls192 hl193 => ?_)
        refine Loop_ind (P := fun (q : Int32 × Int32 × Int32 × Int32) => ∀ (H : Heap) (locs : List Loc) (ls : Array Slot), Wo D κ A (B1 D κ A o P) s H locs → lv_has ls 15 [(0, .ref o), (2, .int x8), (3, .int x14), (6, .int q.1), (7, .int q.2.1), (8, .int q.2.2.1), (9, .int q.2.2.2)] → W p l e rmL_hangs s m [.ref o].toArray below meth c H locs 0 0 (MQ below (QW A (B1 D κ A o P) res) [.ref o].toArray s 0 0 A) (F0 m 216 ls [])) ?_ h182 _ _ ls192 G183 (lv_sub hl193 [4, 5, 6, 3, 2, 1, 0] rfl)
        intro q y2 h198 ih2 hz2 H locs ls201 G199 hl200
        obtain ⟨x194, x195, x196, x197⟩ := q
        try dsimp only at h198 ih2 G199 hl200 ⊢
        refine lv_iload (pc := 216) X.1 X.2.1 dL_hangs_216 (lv_at hl200 6 rfl) ?_
        refine lv_iload_n (pc := 218) X.1 X.2.1 dL_hangs_218 rfl (lv_at hl200 1 rfl) ?_
        obtain ⟨k202, ek202, h203⟩ := jp_some h198
        have hk202 : ∀  (H : Heap) (locs : List Loc) (ls : Array Slot), k202 () = some y2 → Wo D κ A (B1 D κ A o P) s H locs → lv_has ls 15 [(0, .ref o), (2, .int x8), (3, .int x14), (6, .int x194), (7, .int x195), (8, .int x196)] → W p l e rmL_hangs s m [.ref o].toArray below meth c H locs 0 0 (MQ below (QW A (B1 D κ A o P) res) [.ref o].toArray s 0 0 A) (F0 m 438 ls []) := by
          intro  H locs ls367 h364 G365 hl366
          rw [ek202] at h364
          try dsimp only at h364
          refine lv_iload (pc := 438) X.1 X.2.1 dL_hangs_438 (lv_at hl366 3 rfl) ?_
          obtain ⟨k368, ek368, h369⟩ := jp_some h364
          have hk368 : ∀ (x408 : Int32) (H : Heap) (locs : List Loc) (ls : Array Slot), k368 x408 = some y2 → Wo D κ A (B1 D κ A o P) s H locs → lv_has ls 15 [(0, .ref o)] → W p l e rmL_hangs s m [.ref o].toArray below meth c H locs 0 0 (MQ below (QW A (B1 D κ A o P) res) [.ref o].toArray s 0 0 A) (F0 m 491 ls [.int x408]) := by
            intro x408 H locs ls412 h409 G410 hl411
            rw [ek368] at h409
            try dsimp only at h409
            refine lv_istore (pc := 491) (lv' := [(6, .int x408), (0, .ref o)]) X.1 X.2.1 dL_hangs_491 hl411 (by decide) rfl (fun ls413 hl414 => ?_)
            refine lv_iconst (pc := 493) (v := 0) X.1 X.2.1 dL_hangs_493 (by decide) ?_
            refine lv_istore (pc := 494) (lv' := [(9, .int 0), (6, .int x408), (0, .ref o)]) X.1 X.2.1 dL_hangs_494 hl414 (by decide) rfl (fun ls415 hl416 => ?_)
            refine lv_iconst (pc := 496) (v := 0) X.1 X.2.1 dL_hangs_496 (by decide) ?_
            refine lv_istore (pc := 497) (lv' := [(10, .int 0), (9, .int 0), (6, .int x408), (0, .ref o)]) X.1 X.2.1 dL_hangs_497 hl416 (by decide) rfl (fun ls417 hl418 => ?_)
            refine lv_iconst (pc := 499) (v := 0) X.1 X.2.1 dL_hangs_499 (by decide) ?_
            refine lv_istore (pc := 500) (lv' := [(11, .int 0), (10, .int 0), (9, .int 0), (6, .int x408), (0, .ref o)]) X.1 X.2.1 dL_hangs_500 hl418 (by decide) rfl (fun ls419 hl420 => ?_)
            refine lv_iconst (pc := 502) (v := 0) X.1 X.2.1 dL_hangs_502 (by decide) ?_
            refine lv_istore (pc := 503) (lv' := [(12, .int 0), (11, .int 0), (10, .int 0), (9, .int 0), (6, .int x408), (0, .ref o)]) X.1 X.2.1 dL_hangs_503 hl420 (by decide) rfl (fun ls421 hl422 => ?_)
            refine Loop_ind (P := fun (q : Int32 × Int32 × Int32 × Int32 × Int32) => ∀ (H : Heap) (locs : List Loc) (ls : Array Slot), Wo D κ A (B1 D κ A o P) s H locs → lv_has ls 15 [(0, .ref o), (6, .int q.1), (9, .int q.2.1), (10, .int q.2.2.1), (11, .int q.2.2.2.1), (12, .int q.2.2.2.2)] → W p l e rmL_hangs s m [.ref o].toArray below meth c H locs 0 0 (MQ below (QW A (B1 D κ A o P) res) [.ref o].toArray s 0 0 A) (F0 m 505 ls [])) ?_ h409 _ _ ls421 G410 (lv_sub hl422 [5, 4, 3, 2, 1, 0] rfl)
            intro q y3 h428 ih3 hz3 H locs ls431 G429 hl430
            obtain ⟨x423, x424, x425, x426, x427⟩ := q
            try dsimp only at h428 ih3 G429 hl430 ⊢
            refine lv_iload (pc := 505) X.1 X.2.1 dL_hangs_505 (lv_at hl430 5 rfl) ?_
            refine lv_bipush (pc := 507) (v := 26) X.1 X.2.1 dL_hangs_507 (by decide) ?_
            obtain ⟨k432, ek432, h433⟩ := jp_some h428
            have hk432 : ∀  (H : Heap) (locs : List Loc) (ls : Array Slot), k432 () = some y3 → Wo D κ A (B1 D κ A o P) s H locs → lv_has ls 15 [(0, .ref o), (6, .int x423), (9, .int x424), (10, .int x425), (11, .int x426)] → W p l e rmL_hangs s m [.ref o].toArray below meth c H locs 0 0 (MQ below (QW A (B1 D κ A o P) res) [.ref o].toArray s 0 0 A) (F0 m 876 ls []) := by
              intro  H locs ls718 h715 G716 hl717
              rw [ek432] at h715
              try dsimp only at h715
              refine lv_iload (pc := 876) X.1 X.2.1 dL_hangs_876 (lv_at hl717 1 rfl) ?_
              obtain ⟨k719, ek719, h720⟩ := jp_some h715
              have hk719 : ∀ (x773 : Int32) (H : Heap) (locs : List Loc) (ls : Array Slot), k719 x773 = some y3 → Wo D κ A (B1 D κ A o P) s H locs → lv_has ls 15 [] → W p l e rmL_hangs s m [.ref o].toArray below meth c H locs 0 0 (MQ below (QW A (B1 D κ A o P) res) [.ref o].toArray s 0 0 A) (F0 m 943 ls [.int x773]) := by
                intro x773 H locs ls777 h774 G775 hl776
                rw [ek719] at h774
                try dsimp only at h774
                obtain ⟨hb, h774_b⟩ := bz_some h774
                have h774_b_i := Option.some.inj h774_b
                have h774_b_i_3 := hz3 _ h774_b_i.symm
                have h774_b_i_3_2 := hz2 _ h774_b_i_3.symm
                have h774_b_i_3_2_1 := hz1 _ h774_b_i_3_2.symm
                exact w_zret (pc := 943) X G775 hr hlk dL_hangs_943 hb h774_b_i_3_2_1 rfl (Nat.le_of_ble_eq_true rfl) (Nat.le_of_ble_eq_true rfl)
              obtain ⟨k721, ek721, h722⟩ := jp_some h720
              have hk721 : ∀  (H : Heap) (locs : List Loc) (ls : Array Slot), k721 () = some y3 → Wo D κ A (B1 D κ A o P) s H locs → lv_has ls 15 [] → W p l e rmL_hangs s m [.ref o].toArray below meth c H locs 0 0 (MQ below (QW A (B1 D κ A o P) res) [.ref o].toArray s 0 0 A) (F0 m 942 ls []) := by
                intro  H locs ls772 h769 G770 hl771
                rw [ek721] at h769
                try dsimp only at h769
                refine lv_iconst (pc := 942) (v := 0) X.1 X.2.1 dL_hangs_942 (by decide) ?_
                exact hk719 0 _ _ ls772 h769 G770 (lv_sub hl771 [] rfl)
              refine lv_if_eq (pc := 878) (tgt := 942) X.1 X.2.1 dL_hangs_878 (by decide) (fun hc723 => ?_) (fun hc723 => ?_)
              · have h724 := it_pos h722 hc723
                exact hk721  _ _ ls718 h724 G716 (lv_sub hl717 [] rfl)
              · have h725 := it_neg h722 hc723
                refine lv_iload (pc := 881) X.1 X.2.1 dL_hangs_881 (lv_at hl717 2 rfl) ?_
                refine lv_aload_n (pc := 883) X.1 X.2.1 dL_hangs_883 rfl (lv_at hl717 0 rfl) ?_
                refine lv_iconst (pc := 884) (v := 0) X.1 X.2.1 dL_hangs_884 (by decide) ?_
                obtain ⟨x727, e726, h728⟩ := bn_some h725
                refine w_callH (pc := 885) (v := x727) (B' := (B1 D κ A o P)) (As := [.ref o, .int 0]) (rest := [.int x424]) X G716 (rm := rmLn_count) rfl rfl (bn_count l D κ A o P P 0 x727 (qh_count (hE 3 0 0 x727 e726))) gL_112 hsL_count ⟨Nat.le_of_ble_eq_true rfl, Nat.le_of_ble_eq_true rfl⟩ rfl hl717 rfl (lv_room (Nat.le_of_ble_eq_true rfl)) dL_hangs_885 ⟨Nat.le_of_ble_eq_true rfl, Nat.le_of_ble_eq_true rfl⟩ (fun H locs G729 => ?_)
                refine lv_icmp_ne (pc := 888) (tgt := 942) X.1 X.2.1 dL_hangs_888 (by decide) (fun hc730 => ?_) (fun hc730 => ?_)
                · have h731 := it_pos h728 hc730
                  exact hk721  _ _ ls718 h731 G729 (lv_sub hl717 [] rfl)
                · have h732 := it_neg h728 (fun q => q hc730)
                  refine lv_iload (pc := 891) X.1 X.2.1 dL_hangs_891 (lv_at hl717 3 rfl) ?_
                  refine lv_aload_n (pc := 893) X.1 X.2.1 dL_hangs_893 rfl (lv_at hl717 0 rfl) ?_
                  refine lv_iconst (pc := 894) (v := 5) X.1 X.2.1 dL_hangs_894 (by decide) ?_
                  obtain ⟨x734, e733, h735⟩ := bn_some h732
                  refine w_callH (pc := 895) (v := x734) (B' := (B1 D κ A o P)) (As := [.ref o, .int 5]) (rest := [.int x425]) X G729 (rm := rmLn_count) rfl rfl (bn_count l D κ A o P P 5 x734 (qh_count (hE 3 5 0 x734 e733))) gL_112 hsL_count ⟨Nat.le_of_ble_eq_true rfl, Nat.le_of_ble_eq_true rfl⟩ rfl hl717 rfl (lv_room (Nat.le_of_ble_eq_true rfl)) dL_hangs_895 ⟨Nat.le_of_ble_eq_true rfl, Nat.le_of_ble_eq_true rfl⟩ (fun H locs G736 => ?_)
                  refine lv_icmp_ne (pc := 898) (tgt := 942) X.1 X.2.1 dL_hangs_898 (by decide) (fun hc737 => ?_) (fun hc737 => ?_)
                  · have h738 := it_pos h735 hc737
                    exact hk721  _ _ ls718 h738 G736 (lv_sub hl717 [] rfl)
                  · have h739 := it_neg h735 (fun q => q hc737)
                    refine lv_aload_n (pc := 901) X.1 X.2.1 dL_hangs_901 rfl (lv_at hl717 0 rfl) ?_
                    refine w_callD (pc := 902) (v := dM) (rest := []) X G736 rfl rfl (rm := rm7_meanHoles) (fun ad b hP => c7_meanHoles l D κ A ad nuW b dM (hD b hP)) g_L_125 hd_yX7_meanHoles ⟨Nat.le_of_ble_eq_true rfl, Nat.le_of_ble_eq_true rfl⟩ rfl hl717 rfl (lv_room (Nat.le_of_ble_eq_true rfl)) dL_hangs_902 ⟨Nat.le_of_ble_eq_true rfl, Nat.le_of_ble_eq_true rfl⟩ (fun H locs G743 => ?_)
                    refine lv_iload (pc := 905) X.1 X.2.1 dL_hangs_905 (lv_at hl717 2 rfl) ?_
                    obtain ⟨k744, ek744, h745⟩ := jp_some h739
                    have hk744 : ∀ (d750 : UInt64) (H : Heap) (locs : List Loc) (ls : Array Slot), k744 d750 = some y3 → Wo D κ A (B1 D κ A o P) s H locs → lv_has ls 15 [(0, .ref o)] → W p l e rmL_hangs s m [.ref o].toArray below meth c H locs 0 0 (MQ below (QW A (B1 D κ A o P) res) [.ref o].toArray s 0 0 A) (F0 m 921 ls [.double d750, .double dM]) := by
                      intro d750 H locs ls754 h751 G752 hl753
                      rw [ek744] at h751
                      try dsimp only at h751
                      refine lv_dcmp (pc := 921) X.1 X.2.1 dL_hangs_921 ?_
                      refine lv_if_ne (pc := 922) (tgt := 942) X.1 X.2.1 dL_hangs_922 (by decide) (fun hc755 => ?_) (fun hc755 => ?_)
                      · have h756 := it_pos h751 hc755
                        exact hk721  _ _ ls754 h756 G752 (lv_sub hl753 [] rfl)
                      · have h757 := it_neg h751 (fun q => q hc755)
                        refine lv_aload_n (pc := 925) X.1 X.2.1 dL_hangs_925 rfl (lv_at hl753 0 rfl) ?_
                        obtain ⟨x759, e758, h760⟩ := bn_some h757
                        refine w_callV (pc := 926) (v := x759) (B' := (B1 D κ A o P)) (As := []) (rest := []) X G752 (rm := rm7_missing) rfl rfl (bv_missing l D κ A o P P x759 (qh_missing (hE 9 0 0 x759 e758))) (B1.rcv G752) g_L_129 hd_yX7_missing ⟨Nat.le_of_ble_eq_true rfl, Nat.le_of_ble_eq_true rfl⟩ rfl hl753 rfl (lv_room (Nat.le_of_ble_eq_true rfl)) dL_hangs_926 ⟨Nat.le_of_ble_eq_true rfl, Nat.le_of_ble_eq_true rfl⟩ (fun H locs G761 => ?_)
                        refine lv_aload_n (pc := 929) X.1 X.2.1 dL_hangs_929 rfl (lv_at hl753 0 rfl) ?_
                        refine lv_iconst (pc := 930) (v := 1) X.1 X.2.1 dL_hangs_930 (by decide) ?_
                        obtain ⟨x763, e762, h764⟩ := bn_some h760
                        refine w_callH (pc := 931) (v := x763) (B' := (B1 D κ A o P)) (As := [.ref o, .int 1]) (rest := [.int x759]) X G761 (rm := rmLn_count) rfl rfl (bn_count l D κ A o P P 1 x763 (qh_count (hE 3 1 0 x763 e762))) gL_112 hsL_count ⟨Nat.le_of_ble_eq_true rfl, Nat.le_of_ble_eq_true rfl⟩ rfl hl753 rfl (lv_room (Nat.le_of_ble_eq_true rfl)) dL_hangs_931 ⟨Nat.le_of_ble_eq_true rfl, Nat.le_of_ble_eq_true rfl⟩ (fun H locs G765 => ?_)
                        refine lv_iand (pc := 934) X.1 X.2.1 dL_hangs_934 ?_
                        refine lv_if_ne (pc := 935) (tgt := 942) X.1 X.2.1 dL_hangs_935 (by decide) (fun hc766 => ?_) (fun hc766 => ?_)
                        · have h767 := it_pos h764 hc766
                          exact hk721  _ _ ls754 h767 G765 (lv_sub hl753 [] rfl)
                        · have h768 := it_neg h764 (fun q => q hc766)
                          refine lv_iconst (pc := 938) (v := 1) X.1 X.2.1 dL_hangs_938 (by decide) ?_
                          refine lv_goto (pc := 939) (tgt := 943) X.1 X.2.1 dL_hangs_939 (by decide) ?_
                          exact hk719 1 _ _ ls754 h768 G765 (lv_sub hl753 [] rfl)
                    refine lv_if_ne (pc := 907) (tgt := 914) X.1 X.2.1 dL_hangs_907 (by decide) (fun hc746 => ?_) (fun hc746 => ?_)
                    · have h747 := it_pos h745 hc746
                      refine lv_iload (pc := 914) X.1 X.2.1 dL_hangs_914 (lv_at hl717 4 rfl) ?_
                      refine lv_i2d (pc := 916) X.1 X.2.1 dL_hangs_916 ?_
                      refine lv_iload (pc := 917) X.1 X.2.1 dL_hangs_917 (lv_at hl717 2 rfl) ?_
                      refine lv_i2d (pc := 919) X.1 X.2.1 dL_hangs_919 ?_
                      obtain ⟨dv, h749⟩ := pr_some h747
                      refine lv_ddiv (pc := 920) X.1 X.2.1 dL_hangs_920 (mean_n64 dv) ?_
                      exact hk744 (FP.ddiv (FP.i2d x426) (FP.i2d x424)) _ _ ls718 h749 G743 (lv_sub hl717 [0] rfl)
                    · have h748 := it_neg h745 (fun q => q hc746)
                      refine lv_dconst0 (pc := 910) X.1 X.2.1 dL_hangs_910 ?_
                      refine lv_goto (pc := 911) (tgt := 921) X.1 X.2.1 dL_hangs_911 (by decide) ?_
                      exact hk744 FP.dconst0 _ _ ls718 h748 G743 (lv_sub hl717 [0] rfl)
            refine lv_icmp_ge (pc := 509) (tgt := 876) X.1 X.2.1 dL_hangs_509 (by decide) (fun hc434 => ?_) (fun hc434 => ?_)
            · have h435 := it_pos h433 hc434
              exact hk432  _ _ ls431 h435 G429 (lv_sub hl430 [0, 1, 2, 3, 4] rfl)
            · have h436 := it_neg h433 hc434
              refine lv_iload (pc := 512) X.1 X.2.1 dL_hangs_512 (lv_at hl430 1 rfl) ?_
              refine lv_if_eq (pc := 514) (tgt := 876) X.1 X.2.1 dL_hangs_514 (by decide) (fun hc437 => ?_) (fun hc437 => ?_)
              · have h438 := it_pos h436 hc437
                exact hk432  _ _ ls431 h438 G429 (lv_sub hl430 [0, 1, 2, 3, 4] rfl)
              · have h439 := it_neg h436 hc437
                refine lv_aload_n (pc := 517) X.1 X.2.1 dL_hangs_517 rfl (lv_at hl430 0 rfl) ?_
                refine lv_iconst (pc := 518) (v := 1) X.1 X.2.1 dL_hangs_518 (by decide) ?_
                obtain ⟨x441, e440, h442⟩ := bn_some h439
                refine w_callH (pc := 519) (v := x441) (B' := (B1 D κ A o P)) (As := [.ref o, .int 1]) (rest := []) X G429 (rm := rmLn_count) rfl rfl (bn_count l D κ A o P P 1 x441 (qh_count (hE 3 1 0 x441 e440))) gL_112 hsL_count ⟨Nat.le_of_ble_eq_true rfl, Nat.le_of_ble_eq_true rfl⟩ rfl hl430 rfl (lv_room (Nat.le_of_ble_eq_true rfl)) dL_hangs_519 ⟨Nat.le_of_ble_eq_true rfl, Nat.le_of_ble_eq_true rfl⟩ (fun H locs G443 => ?_)
                refine lv_iload (pc := 522) X.1 X.2.1 dL_hangs_522 (lv_at hl430 5 rfl) ?_
                refine lv_ishr (pc := 524) X.1 X.2.1 dL_hangs_524 ?_
                refine lv_iconst (pc := 525) (v := 1) X.1 X.2.1 dL_hangs_525 (by decide) ?_
                refine lv_iand (pc := 526) X.1 X.2.1 dL_hangs_526 ?_
                refine lv_iconst (pc := 527) (v := 1) X.1 X.2.1 dL_hangs_527 (by decide) ?_
                obtain ⟨k444, ek444, h445⟩ := jp_some h442
                have hk444 : ∀ (x449 : Int32) (H : Heap) (locs : List Loc) (ls : Array Slot), k444 x449 = some y3 → Wo D κ A (B1 D κ A o P) s H locs → lv_has ls 15 [(0, .ref o), (9, .int x424), (10, .int x425), (11, .int x426), (12, .int x427)] → W p l e rmL_hangs s m [.ref o].toArray below meth c H locs 0 0 (MQ below (QW A (B1 D κ A o P) res) [.ref o].toArray s 0 0 A) (F0 m 536 ls [.int x449]) := by
                  intro x449 H locs ls453 h450 G451 hl452
                  rw [ek444] at h450
                  try dsimp only at h450
                  refine lv_istore (pc := 536) (lv' := [(13, .int x449), (0, .ref o), (9, .int x424), (10, .int x425), (11, .int x426), (12, .int x427)]) X.1 X.2.1 dL_hangs_536 hl452 (by decide) rfl (fun ls454 hl455 => ?_)
                  refine lv_iload (pc := 538) X.1 X.2.1 dL_hangs_538 (lv_at hl455 2 rfl) ?_
                  refine lv_iload (pc := 540) X.1 X.2.1 dL_hangs_540 (lv_at hl455 0 rfl) ?_
                  obtain ⟨k456, ek456, h457⟩ := jp_some h450
                  have hk456 : ∀ (x461 : Int32) (H : Heap) (locs : List Loc) (ls : Array Slot), k456 x461 = some y3 → Wo D κ A (B1 D κ A o P) s H locs → lv_has ls 15 [(0, .ref o), (10, .int x425), (11, .int x426), (12, .int x427), (13, .int x449)] → W p l e rmL_hangs s m [.ref o].toArray below meth c H locs 0 0 (MQ below (QW A (B1 D κ A o P) res) [.ref o].toArray s 0 0 A) (F0 m 550 ls [.int x461, .int x424]) := by
                    intro x461 H locs ls465 h462 G463 hl464
                    rw [ek456] at h462
                    try dsimp only at h462
                    refine lv_iadd (pc := 550) X.1 X.2.1 dL_hangs_550 ?_
                    refine lv_topi (fun x466 ex466 => ?_)
                    have h467 := bd_at h462 ex466
                    refine lv_istore (pc := 551) (lv' := [(9, .int x466), (0, .ref o), (10, .int x425), (11, .int x426), (12, .int x427), (13, .int x449)]) X.1 X.2.1 dL_hangs_551 hl464 (by decide) rfl (fun ls468 hl469 => ?_)
                    refine lv_iload (pc := 553) X.1 X.2.1 dL_hangs_553 (lv_at hl469 2 rfl) ?_
                    refine lv_iload (pc := 555) X.1 X.2.1 dL_hangs_555 (lv_at hl469 5 rfl) ?_
                    obtain ⟨k470, ek470, h471⟩ := jp_some h467
                    have hk470 : ∀ (x479 : Int32) (H : Heap) (locs : List Loc) (ls : Array Slot), k470 x479 = some y3 → Wo D κ A (B1 D κ A o P) s H locs → lv_has ls 15 [(0, .ref o), (9, .int x466), (11, .int x426), (12, .int x427), (13, .int x449)] → W p l e rmL_hangs s m [.ref o].toArray below meth c H locs 0 0 (MQ below (QW A (B1 D κ A o P) res) [.ref o].toArray s 0 0 A) (F0 m 571 ls [.int x479, .int x425]) := by
                      intro x479 H locs ls483 h480 G481 hl482
                      rw [ek470] at h480
                      try dsimp only at h480
                      refine lv_iadd (pc := 571) X.1 X.2.1 dL_hangs_571 ?_
                      refine lv_topi (fun x484 ex484 => ?_)
                      have h485 := bd_at h480 ex484
                      refine lv_istore (pc := 572) (lv' := [(10, .int x484), (0, .ref o), (9, .int x466), (11, .int x426), (12, .int x427), (13, .int x449)]) X.1 X.2.1 dL_hangs_572 hl482 (by decide) rfl (fun ls486 hl487 => ?_)
                      refine lv_iload (pc := 574) X.1 X.2.1 dL_hangs_574 (lv_at hl487 3 rfl) ?_
                      refine lv_iload (pc := 576) X.1 X.2.1 dL_hangs_576 (lv_at hl487 5 rfl) ?_
                      obtain ⟨k488, ek488, h489⟩ := jp_some h485
                      have hk488 : ∀ (x497 : Int32) (H : Heap) (locs : List Loc) (ls : Array Slot), k488 x497 = some y3 → Wo D κ A (B1 D κ A o P) s H locs → lv_has ls 15 [(0, .ref o), (9, .int x466), (10, .int x484), (12, .int x427), (13, .int x449)] → W p l e rmL_hangs s m [.ref o].toArray below meth c H locs 0 0 (MQ below (QW A (B1 D κ A o P) res) [.ref o].toArray s 0 0 A) (F0 m 592 ls [.int x497, .int x426]) := by
                        intro x497 H locs ls501 h498 G499 hl500
                        rw [ek488] at h498
                        try dsimp only at h498
                        refine lv_iadd (pc := 592) X.1 X.2.1 dL_hangs_592 ?_
                        refine lv_topi (fun x502 ex502 => ?_)
                        have h503 := bd_at h498 ex502
                        refine lv_istore (pc := 593) (lv' := [(11, .int x502), (0, .ref o), (9, .int x466), (10, .int x484), (12, .int x427), (13, .int x449)]) X.1 X.2.1 dL_hangs_593 hl500 (by decide) rfl (fun ls504 hl505 => ?_)
                        refine lv_aload_n (pc := 595) X.1 X.2.1 dL_hangs_595 rfl (lv_at hl505 1 rfl) ?_
                        obtain ⟨x507, e506, h508⟩ := bn_some h503
                        refine w_callV (pc := 596) (v := x507) (B' := (B1 D κ A o P)) (As := []) (rest := []) X G499 (rm := rm7_rings) rfl rfl (bv_rings l D κ A o P P x507 (qh_rings (hE 8 0 0 x507 e506))) (B1.rcv G499) g_L_116 hd_yX7_rings ⟨Nat.le_of_ble_eq_true rfl, Nat.le_of_ble_eq_true rfl⟩ rfl hl505 rfl (lv_room (Nat.le_of_ble_eq_true rfl)) dL_hangs_596 ⟨Nat.le_of_ble_eq_true rfl, Nat.le_of_ble_eq_true rfl⟩ (fun H locs G509 => ?_)
                        refine lv_iload (pc := 599) X.1 X.2.1 dL_hangs_599 (lv_at hl505 4 rfl) ?_
                        refine lv_ishr (pc := 601) X.1 X.2.1 dL_hangs_601 ?_
                        refine lv_iconst (pc := 602) (v := 1) X.1 X.2.1 dL_hangs_602 (by decide) ?_
                        refine lv_iand (pc := 603) X.1 X.2.1 dL_hangs_603 ?_
                        refine lv_topi (fun x510 ex510 => ?_)
                        have h511 := bd_at h508 ex510
                        refine lv_istore (pc := 604) (lv' := [(14, .int x510), (11, .int x502), (0, .ref o), (9, .int x466), (10, .int x484), (12, .int x427), (13, .int x449)]) X.1 X.2.1 dL_hangs_604 hl505 (by decide) rfl (fun ls512 hl513 => ?_)
                        refine lv_iload (pc := 606) X.1 X.2.1 dL_hangs_606 (lv_at hl513 6 rfl) ?_
                        obtain ⟨k514, ek514, h515⟩ := jp_some h511
                        have hk514 : ∀ (x634 : Int32) (H : Heap) (locs : List Loc) (ls : Array Slot), k514 x634 = some y3 → Wo D κ A (B1 D κ A o P) s H locs → lv_has ls 15 [(0, .ref o), (9, .int x466), (10, .int x484), (11, .int x502), (12, .int x427), (14, .int x510)] → W p l e rmL_hangs s m [.ref o].toArray below meth c H locs 0 0 (MQ below (QW A (B1 D κ A o P) res) [.ref o].toArray s 0 0 A) (F0 m 767 ls [.int x634]) := by
                          intro x634 H locs ls638 h635 G636 hl637
                          rw [ek514] at h635
                          try dsimp only at h635
                          refine lv_istore (pc := 767) (lv' := [(6, .int x634), (0, .ref o), (9, .int x466), (10, .int x484), (11, .int x502), (12, .int x427), (14, .int x510)]) X.1 X.2.1 dL_hangs_767 hl637 (by decide) rfl (fun ls639 hl640 => ?_)
                          refine lv_iload (pc := 769) X.1 X.2.1 dL_hangs_769 (lv_at hl640 0 rfl) ?_
                          obtain ⟨k641, ek641, h642⟩ := jp_some h635
                          have hk641 : ∀ (x704 : Int32) (H : Heap) (locs : List Loc) (ls : Array Slot), k641 x704 = some y3 → Wo D κ A (B1 D κ A o P) s H locs → lv_has ls 15 [(0, .ref o), (9, .int x466), (10, .int x484), (11, .int x502), (12, .int x427)] → W p l e rmL_hangs s m [.ref o].toArray below meth c H locs 0 0 (MQ below (QW A (B1 D κ A o P) res) [.ref o].toArray s 0 0 A) (F0 m 868 ls [.int x704]) := by
                            intro x704 H locs ls708 h705 G706 hl707
                            rw [ek641] at h705
                            try dsimp only at h705
                            refine lv_istore (pc := 868) (lv' := [(6, .int x704), (0, .ref o), (9, .int x466), (10, .int x484), (11, .int x502), (12, .int x427)]) X.1 X.2.1 dL_hangs_868 hl707 (by decide) rfl (fun ls709 hl710 => ?_)
                            obtain ⟨x711, ex711, h714⟩ := bd_some h705
                            refine lv_iinc (pc := 870) (v := x711) (lv' := [(12, .int x711), (6, .int x704), (0, .ref o), (9, .int x466), (10, .int x484), (11, .int x502)]) X.1 X.2.1 dL_hangs_870 hl710 (k := 5) rfl (by rw [ex711]; rfl) (by decide) rfl (fun ls712 hl713 => ?_)
                            refine lv_goto (pc := 873) (tgt := 505) X.1 X.2.1 dL_hangs_873 (by decide) ?_
                            have h714_i := Option.some.inj h714
                            exact ih3 _ h714_i.symm _ _ ls712 G706 (lv_sub hl713 [2, 1, 3, 4, 5, 0] rfl)
                          obtain ⟨k643, ek643, h644⟩ := jp_some h642
                          have hk643 : ∀  (H : Heap) (locs : List Loc) (ls : Array Slot), k643 () = some y3 → Wo D κ A (B1 D κ A o P) s H locs → lv_has ls 15 [(0, .ref o), (9, .int x466), (10, .int x484), (11, .int x502), (12, .int x427)] → W p l e rmL_hangs s m [.ref o].toArray below meth c H locs 0 0 (MQ below (QW A (B1 D κ A o P) res) [.ref o].toArray s 0 0 A) (F0 m 867 ls []) := by
                            intro  H locs ls703 h700 G701 hl702
                            rw [ek643] at h700
                            try dsimp only at h700
                            refine lv_iconst (pc := 867) (v := 0) X.1 X.2.1 dL_hangs_867 (by decide) ?_
                            exact hk641 0 _ _ ls703 h700 G701 (lv_sub hl702 [0, 1, 2, 3, 4] rfl)
                          refine lv_if_eq (pc := 771) (tgt := 867) X.1 X.2.1 dL_hangs_771 (by decide) (fun hc645 => ?_) (fun hc645 => ?_)
                          · have h646 := it_pos h644 hc645
                            exact hk643  _ _ ls639 h646 G636 (lv_sub hl640 [1, 2, 3, 4, 5] rfl)
                          · have h647 := it_neg h644 hc645
                            refine lv_aload_n (pc := 774) X.1 X.2.1 dL_hangs_774 rfl (lv_at hl640 1 rfl) ?_
                            refine lv_iload (pc := 775) X.1 X.2.1 dL_hangs_775 (lv_at hl640 5 rfl) ?_
                            refine lv_iconst (pc := 777) (v := 0) X.1 X.2.1 dL_hangs_777 (by decide) ?_
                            obtain ⟨x649, e648, h650⟩ := bn_some h647
                            refine w_callH (pc := 778) (v := x649) (B' := (B1 D κ A o P)) (As := [.ref o, .int x427, .int 0]) (rest := []) X G636 (rm := rmLn_uses) rfl rfl (bn_uses l D κ A o P P x427 0 x649 (qh_uses (hE 5 x427 0 x649 e648))) gL_119 hsL_uses ⟨Nat.le_of_ble_eq_true rfl, Nat.le_of_ble_eq_true rfl⟩ rfl hl640 rfl (lv_room (Nat.le_of_ble_eq_true rfl)) dL_hangs_778 ⟨Nat.le_of_ble_eq_true rfl, Nat.le_of_ble_eq_true rfl⟩ (fun H locs G651 => ?_)
                            refine lv_aload_n (pc := 781) X.1 X.2.1 dL_hangs_781 rfl (lv_at hl640 1 rfl) ?_
                            refine lv_iload (pc := 782) X.1 X.2.1 dL_hangs_782 (lv_at hl640 5 rfl) ?_
                            refine lv_iconst (pc := 784) (v := 1) X.1 X.2.1 dL_hangs_784 (by decide) ?_
                            obtain ⟨x653, e652, h654⟩ := bn_some h650
                            refine w_callH (pc := 785) (v := x653) (B' := (B1 D κ A o P)) (As := [.ref o, .int x427, .int 1]) (rest := [.int x649]) X G651 (rm := rmLn_uses) rfl rfl (bn_uses l D κ A o P P x427 1 x653 (qh_uses (hE 5 x427 1 x653 e652))) gL_119 hsL_uses ⟨Nat.le_of_ble_eq_true rfl, Nat.le_of_ble_eq_true rfl⟩ rfl hl640 rfl (lv_room (Nat.le_of_ble_eq_true rfl)) dL_hangs_785 ⟨Nat.le_of_ble_eq_true rfl, Nat.le_of_ble_eq_true rfl⟩ (fun H locs G655 => ?_)
                            refine lv_iconst (pc := 788) (v := (-1)) X.1 X.2.1 dL_hangs_788 (by decide) ?_
                            refine lv_ixor (pc := 789) X.1 X.2.1 dL_hangs_789 ?_
                            refine lv_iand (pc := 790) X.1 X.2.1 dL_hangs_790 ?_
                            refine lv_if_ne (pc := 791) (tgt := 867) X.1 X.2.1 dL_hangs_791 (by decide) (fun hc656 => ?_) (fun hc656 => ?_)
                            · have h657 := it_pos h654 hc656
                              exact hk643  _ _ ls639 h657 G655 (lv_sub hl640 [1, 2, 3, 4, 5] rfl)
                            · have h658 := it_neg h654 (fun q => q hc656)
                              refine lv_aload_n (pc := 794) X.1 X.2.1 dL_hangs_794 rfl (lv_at hl640 1 rfl) ?_
                              refine lv_iload (pc := 795) X.1 X.2.1 dL_hangs_795 (lv_at hl640 5 rfl) ?_
                              refine lv_iconst (pc := 797) (v := 2) X.1 X.2.1 dL_hangs_797 (by decide) ?_
                              obtain ⟨x660, e659, h661⟩ := bn_some h658
                              refine w_callH (pc := 798) (v := x660) (B' := (B1 D κ A o P)) (As := [.ref o, .int x427, .int 2]) (rest := []) X G655 (rm := rmLn_uses) rfl rfl (bn_uses l D κ A o P P x427 2 x660 (qh_uses (hE 5 x427 2 x660 e659))) gL_119 hsL_uses ⟨Nat.le_of_ble_eq_true rfl, Nat.le_of_ble_eq_true rfl⟩ rfl hl640 rfl (lv_room (Nat.le_of_ble_eq_true rfl)) dL_hangs_798 ⟨Nat.le_of_ble_eq_true rfl, Nat.le_of_ble_eq_true rfl⟩ (fun H locs G662 => ?_)
                              refine lv_aload_n (pc := 801) X.1 X.2.1 dL_hangs_801 rfl (lv_at hl640 1 rfl) ?_
                              refine lv_iload (pc := 802) X.1 X.2.1 dL_hangs_802 (lv_at hl640 5 rfl) ?_
                              refine lv_iconst (pc := 804) (v := 3) X.1 X.2.1 dL_hangs_804 (by decide) ?_
                              obtain ⟨x664, e663, h665⟩ := bn_some h661
                              refine w_callH (pc := 805) (v := x664) (B' := (B1 D κ A o P)) (As := [.ref o, .int x427, .int 3]) (rest := [.int x660]) X G662 (rm := rmLn_uses) rfl rfl (bn_uses l D κ A o P P x427 3 x664 (qh_uses (hE 5 x427 3 x664 e663))) gL_119 hsL_uses ⟨Nat.le_of_ble_eq_true rfl, Nat.le_of_ble_eq_true rfl⟩ rfl hl640 rfl (lv_room (Nat.le_of_ble_eq_true rfl)) dL_hangs_805 ⟨Nat.le_of_ble_eq_true rfl, Nat.le_of_ble_eq_true rfl⟩ (fun H locs G666 => ?_)
                              refine lv_iconst (pc := 808) (v := (-1)) X.1 X.2.1 dL_hangs_808 (by decide) ?_
                              refine lv_ixor (pc := 809) X.1 X.2.1 dL_hangs_809 ?_
                              refine lv_iand (pc := 810) X.1 X.2.1 dL_hangs_810 ?_
                              refine lv_if_ne (pc := 811) (tgt := 867) X.1 X.2.1 dL_hangs_811 (by decide) (fun hc667 => ?_) (fun hc667 => ?_)
                              · have h668 := it_pos h665 hc667
                                exact hk643  _ _ ls639 h668 G666 (lv_sub hl640 [1, 2, 3, 4, 5] rfl)
                              · have h669 := it_neg h665 (fun q => q hc667)
                                refine lv_aload_n (pc := 814) X.1 X.2.1 dL_hangs_814 rfl (lv_at hl640 1 rfl) ?_
                                refine lv_iload (pc := 815) X.1 X.2.1 dL_hangs_815 (lv_at hl640 5 rfl) ?_
                                refine lv_iconst (pc := 817) (v := 1) X.1 X.2.1 dL_hangs_817 (by decide) ?_
                                obtain ⟨x671, e670, h672⟩ := bn_some h669
                                refine w_callH (pc := 818) (v := x671) (B' := (B1 D κ A o P)) (As := [.ref o, .int x427, .int 1]) (rest := []) X G666 (rm := rmLn_uses) rfl rfl (bn_uses l D κ A o P P x427 1 x671 (qh_uses (hE 5 x427 1 x671 e670))) gL_119 hsL_uses ⟨Nat.le_of_ble_eq_true rfl, Nat.le_of_ble_eq_true rfl⟩ rfl hl640 rfl (lv_room (Nat.le_of_ble_eq_true rfl)) dL_hangs_818 ⟨Nat.le_of_ble_eq_true rfl, Nat.le_of_ble_eq_true rfl⟩ (fun H locs G673 => ?_)
                                refine lv_iload (pc := 821) X.1 X.2.1 dL_hangs_821 (lv_at hl640 5 rfl) ?_
                                refine lv_ishr (pc := 823) X.1 X.2.1 dL_hangs_823 ?_
                                refine lv_iconst (pc := 824) (v := 1) X.1 X.2.1 dL_hangs_824 (by decide) ?_
                                refine lv_iand (pc := 825) X.1 X.2.1 dL_hangs_825 ?_
                                refine lv_iload (pc := 826) X.1 X.2.1 dL_hangs_826 (lv_at hl640 6 rfl) ?_
                                refine lv_icmp_ne (pc := 828) (tgt := 867) X.1 X.2.1 dL_hangs_828 (by decide) (fun hc674 => ?_) (fun hc674 => ?_)
                                · have h675 := it_pos h672 hc674
                                  exact hk643  _ _ ls639 h675 G673 (lv_sub hl640 [1, 2, 3, 4, 5] rfl)
                                · have h676 := it_neg h672 (fun q => q hc674)
                                  refine lv_aload_n (pc := 831) X.1 X.2.1 dL_hangs_831 rfl (lv_at hl640 1 rfl) ?_
                                  refine lv_iload (pc := 832) X.1 X.2.1 dL_hangs_832 (lv_at hl640 5 rfl) ?_
                                  refine lv_iconst (pc := 834) (v := 3) X.1 X.2.1 dL_hangs_834 (by decide) ?_
                                  obtain ⟨x678, e677, h679⟩ := bn_some h676
                                  refine w_callH (pc := 835) (v := x678) (B' := (B1 D κ A o P)) (As := [.ref o, .int x427, .int 3]) (rest := []) X G673 (rm := rmLn_uses) rfl rfl (bn_uses l D κ A o P P x427 3 x678 (qh_uses (hE 5 x427 3 x678 e677))) gL_119 hsL_uses ⟨Nat.le_of_ble_eq_true rfl, Nat.le_of_ble_eq_true rfl⟩ rfl hl640 rfl (lv_room (Nat.le_of_ble_eq_true rfl)) dL_hangs_835 ⟨Nat.le_of_ble_eq_true rfl, Nat.le_of_ble_eq_true rfl⟩ (fun H locs G680 => ?_)
                                  refine lv_iload (pc := 838) X.1 X.2.1 dL_hangs_838 (lv_at hl640 5 rfl) ?_
                                  refine lv_ishr (pc := 840) X.1 X.2.1 dL_hangs_840 ?_
                                  refine lv_iconst (pc := 841) (v := 1) X.1 X.2.1 dL_hangs_841 (by decide) ?_
                                  refine lv_iand (pc := 842) X.1 X.2.1 dL_hangs_842 ?_
                                  refine lv_iload (pc := 843) X.1 X.2.1 dL_hangs_843 (lv_at hl640 6 rfl) ?_
                                  refine lv_icmp_ne (pc := 845) (tgt := 867) X.1 X.2.1 dL_hangs_845 (by decide) (fun hc681 => ?_) (fun hc681 => ?_)
                                  · have h682 := it_pos h679 hc681
                                    exact hk643  _ _ ls639 h682 G680 (lv_sub hl640 [1, 2, 3, 4, 5] rfl)
                                  · have h683 := it_neg h679 (fun q => q hc681)
                                    refine lv_iload (pc := 848) X.1 X.2.1 dL_hangs_848 (lv_at hl640 6 rfl) ?_
                                    obtain ⟨k684, ek684, h685⟩ := jp_some h683
                                    have hk684 : ∀  (H : Heap) (locs : List Loc) (ls : Array Slot), k684 () = some y3 → Wo D κ A (B1 D κ A o P) s H locs → lv_has ls 15 [(0, .ref o), (9, .int x466), (10, .int x484), (11, .int x502), (12, .int x427)] → W p l e rmL_hangs s m [.ref o].toArray below meth c H locs 0 0 (MQ below (QW A (B1 D κ A o P) res) [.ref o].toArray s 0 0 A) (F0 m 863 ls []) := by
                                      intro  H locs ls699 h696 G697 hl698
                                      rw [ek684] at h696
                                      try dsimp only at h696
                                      refine lv_iconst (pc := 863) (v := 1) X.1 X.2.1 dL_hangs_863 (by decide) ?_
                                      refine lv_goto (pc := 864) (tgt := 868) X.1 X.2.1 dL_hangs_864 (by decide) ?_
                                      exact hk641 1 _ _ ls699 h696 G697 (lv_sub hl698 [0, 1, 2, 3, 4] rfl)
                                    refine lv_if_eq (pc := 850) (tgt := 863) X.1 X.2.1 dL_hangs_850 (by decide) (fun hc686 => ?_) (fun hc686 => ?_)
                                    · have h687 := it_pos h685 hc686
                                      exact hk684  _ _ ls639 h687 G680 (lv_sub hl640 [1, 2, 3, 4, 5] rfl)
                                    · have h688 := it_neg h685 hc686
                                      refine lv_aload_n (pc := 853) X.1 X.2.1 dL_hangs_853 rfl (lv_at hl640 1 rfl) ?_
                                      refine lv_iload (pc := 854) X.1 X.2.1 dL_hangs_854 (lv_at hl640 5 rfl) ?_
                                      obtain ⟨x690, e689, h691⟩ := bn_some h688
                                      refine w_callH (pc := 856) (v := x690) (B' := (B1 D κ A o P)) (As := [.ref o, .int x427]) (rest := []) X G680 (rm := rmLn_chain) rfl rfl (bn_chain l D κ A o P P x427 x690 (qh_chain (hE 6 x427 0 x690 e689))) gL_121 hsL_chain ⟨Nat.le_of_ble_eq_true rfl, Nat.le_of_ble_eq_true rfl⟩ rfl hl640 rfl (lv_room (Nat.le_of_ble_eq_true rfl)) dL_hangs_856 ⟨Nat.le_of_ble_eq_true rfl, Nat.le_of_ble_eq_true rfl⟩ (fun H locs G692 => ?_)
                                      refine lv_iconst (pc := 859) (v := (-1)) X.1 X.2.1 dL_hangs_859 (by decide) ?_
                                      refine lv_icmp_ne (pc := 860) (tgt := 867) X.1 X.2.1 dL_hangs_860 (by decide) (fun hc693 => ?_) (fun hc693 => ?_)
                                      · have h694 := it_pos h691 hc693
                                        exact hk643  _ _ ls639 h694 G692 (lv_sub hl640 [1, 2, 3, 4, 5] rfl)
                                      · have h695 := it_neg h691 (fun q => q hc693)
                                        exact hk684  _ _ ls639 h695 G692 (lv_sub hl640 [1, 2, 3, 4, 5] rfl)
                        refine lv_if_eq (pc := 608) (tgt := 711) X.1 X.2.1 dL_hangs_608 (by decide) (fun hc516 => ?_) (fun hc516 => ?_)
                        · have h517 := it_pos h515 hc516
                          refine lv_aload_n (pc := 711) X.1 X.2.1 dL_hangs_711 rfl (lv_at hl513 2 rfl) ?_
                          refine lv_iload (pc := 712) X.1 X.2.1 dL_hangs_712 (lv_at hl513 5 rfl) ?_
                          refine lv_iconst (pc := 714) (v := 0) X.1 X.2.1 dL_hangs_714 (by decide) ?_
                          obtain ⟨x520, e519, h521⟩ := bn_some h517
                          refine w_callH (pc := 715) (v := x520) (B' := (B1 D κ A o P)) (As := [.ref o, .int x427, .int 0]) (rest := []) X G509 (rm := rmLn_body) rfl rfl (bn_body l D κ A o P P x427 0 x520 (qh_body (hE 4 x427 0 x520 e519))) gL_114 hsL_body ⟨Nat.le_of_ble_eq_true rfl, Nat.le_of_ble_eq_true rfl⟩ rfl hl513 rfl (lv_room (Nat.le_of_ble_eq_true rfl)) dL_hangs_715 ⟨Nat.le_of_ble_eq_true rfl, Nat.le_of_ble_eq_true rfl⟩ (fun H locs G522 => ?_)
                          refine lv_iconst (pc := 718) (v := (-1)) X.1 X.2.1 dL_hangs_718 (by decide) ?_
                          obtain ⟨k523, ek523, h524⟩ := jp_some h521
                          have hk523 : ∀  (H : Heap) (locs : List Loc) (ls : Array Slot), k523 () = some y3 → Wo D κ A (B1 D κ A o P) s H locs → lv_has ls 15 [(0, .ref o), (9, .int x466), (10, .int x484), (11, .int x502), (12, .int x427), (14, .int x510)] → W p l e rmL_hangs s m [.ref o].toArray below meth c H locs 0 0 (MQ below (QW A (B1 D κ A o P) res) [.ref o].toArray s 0 0 A) (F0 m 766 ls []) := by
                            intro  H locs ls559 h556 G557 hl558
                            rw [ek523] at h556
                            try dsimp only at h556
                            refine lv_iconst (pc := 766) (v := 0) X.1 X.2.1 dL_hangs_766 (by decide) ?_
                            exact hk514 0 _ _ ls559 h556 G557 (lv_sub hl558 [0, 1, 2, 3, 4, 5] rfl)
                          refine lv_icmp_ne (pc := 719) (tgt := 766) X.1 X.2.1 dL_hangs_719 (by decide) (fun hc525 => ?_) (fun hc525 => ?_)
                          · have h526 := it_pos h524 hc525
                            exact hk523  _ _ ls512 h526 G522 (lv_sub hl513 [2, 3, 4, 1, 5, 0] rfl)
                          · have h527 := it_neg h524 (fun q => q hc525)
                            refine lv_aload_n (pc := 722) X.1 X.2.1 dL_hangs_722 rfl (lv_at hl513 2 rfl) ?_
                            refine lv_iload (pc := 723) X.1 X.2.1 dL_hangs_723 (lv_at hl513 5 rfl) ?_
                            refine lv_iconst (pc := 725) (v := 0) X.1 X.2.1 dL_hangs_725 (by decide) ?_
                            obtain ⟨x529, e528, h530⟩ := bn_some h527
                            refine w_callH (pc := 726) (v := x529) (B' := (B1 D κ A o P)) (As := [.ref o, .int x427, .int 0]) (rest := []) X G522 (rm := rmLn_uses) rfl rfl (bn_uses l D κ A o P P x427 0 x529 (qh_uses (hE 5 x427 0 x529 e528))) gL_119 hsL_uses ⟨Nat.le_of_ble_eq_true rfl, Nat.le_of_ble_eq_true rfl⟩ rfl hl513 rfl (lv_room (Nat.le_of_ble_eq_true rfl)) dL_hangs_726 ⟨Nat.le_of_ble_eq_true rfl, Nat.le_of_ble_eq_true rfl⟩ (fun H locs G531 => ?_)
                            refine lv_if_ne (pc := 729) (tgt := 766) X.1 X.2.1 dL_hangs_729 (by decide) (fun hc532 => ?_) (fun hc532 => ?_)
                            · have h533 := it_pos h530 hc532
                              exact hk523  _ _ ls512 h533 G531 (lv_sub hl513 [2, 3, 4, 1, 5, 0] rfl)
                            · have h534 := it_neg h530 (fun q => q hc532)
                              refine lv_aload_n (pc := 732) X.1 X.2.1 dL_hangs_732 rfl (lv_at hl513 2 rfl) ?_
                              refine lv_iload (pc := 733) X.1 X.2.1 dL_hangs_733 (lv_at hl513 5 rfl) ?_
                              refine lv_iconst (pc := 735) (v := 1) X.1 X.2.1 dL_hangs_735 (by decide) ?_
                              obtain ⟨x536, e535, h537⟩ := bn_some h534
                              refine w_callH (pc := 736) (v := x536) (B' := (B1 D κ A o P)) (As := [.ref o, .int x427, .int 1]) (rest := []) X G531 (rm := rmLn_uses) rfl rfl (bn_uses l D κ A o P P x427 1 x536 (qh_uses (hE 5 x427 1 x536 e535))) gL_119 hsL_uses ⟨Nat.le_of_ble_eq_true rfl, Nat.le_of_ble_eq_true rfl⟩ rfl hl513 rfl (lv_room (Nat.le_of_ble_eq_true rfl)) dL_hangs_736 ⟨Nat.le_of_ble_eq_true rfl, Nat.le_of_ble_eq_true rfl⟩ (fun H locs G538 => ?_)
                              refine lv_if_ne (pc := 739) (tgt := 766) X.1 X.2.1 dL_hangs_739 (by decide) (fun hc539 => ?_) (fun hc539 => ?_)
                              · have h540 := it_pos h537 hc539
                                exact hk523  _ _ ls512 h540 G538 (lv_sub hl513 [2, 3, 4, 1, 5, 0] rfl)
                              · have h541 := it_neg h537 (fun q => q hc539)
                                refine lv_aload_n (pc := 742) X.1 X.2.1 dL_hangs_742 rfl (lv_at hl513 2 rfl) ?_
                                refine lv_iload (pc := 743) X.1 X.2.1 dL_hangs_743 (lv_at hl513 5 rfl) ?_
                                obtain ⟨x543, e542, h544⟩ := bn_some h541
                                refine w_callH (pc := 745) (v := x543) (B' := (B1 D κ A o P)) (As := [.ref o, .int x427]) (rest := []) X G538 (rm := rmLn_chain) rfl rfl (bn_chain l D κ A o P P x427 x543 (qh_chain (hE 6 x427 0 x543 e542))) gL_121 hsL_chain ⟨Nat.le_of_ble_eq_true rfl, Nat.le_of_ble_eq_true rfl⟩ rfl hl513 rfl (lv_room (Nat.le_of_ble_eq_true rfl)) dL_hangs_745 ⟨Nat.le_of_ble_eq_true rfl, Nat.le_of_ble_eq_true rfl⟩ (fun H locs G545 => ?_)
                                refine lv_if_ne (pc := 748) (tgt := 766) X.1 X.2.1 dL_hangs_748 (by decide) (fun hc546 => ?_) (fun hc546 => ?_)
                                · have h547 := it_pos h544 hc546
                                  exact hk523  _ _ ls512 h547 G545 (lv_sub hl513 [2, 3, 4, 1, 5, 0] rfl)
                                · have h548 := it_neg h544 (fun q => q hc546)
                                  refine lv_aload_n (pc := 751) X.1 X.2.1 dL_hangs_751 rfl (lv_at hl513 2 rfl) ?_
                                  refine lv_iload (pc := 752) X.1 X.2.1 dL_hangs_752 (lv_at hl513 5 rfl) ?_
                                  refine lv_iconst (pc := 754) (v := 3) X.1 X.2.1 dL_hangs_754 (by decide) ?_
                                  obtain ⟨x550, e549, h551⟩ := bn_some h548
                                  refine w_callH (pc := 755) (v := x550) (B' := (B1 D κ A o P)) (As := [.ref o, .int x427, .int 3]) (rest := []) X G545 (rm := rmLn_lengthOf) rfl rfl (bn_lengthOf l D κ A o P P x427 3 x550 (qh_lengthOf (hE 7 x427 3 x550 e549))) gL_123 hsL_lengthOf ⟨Nat.le_of_ble_eq_true rfl, Nat.le_of_ble_eq_true rfl⟩ rfl hl513 rfl (lv_room (Nat.le_of_ble_eq_true rfl)) dL_hangs_755 ⟨Nat.le_of_ble_eq_true rfl, Nat.le_of_ble_eq_true rfl⟩ (fun H locs G552 => ?_)
                                  refine lv_iconst (pc := 758) (v := (-1)) X.1 X.2.1 dL_hangs_758 (by decide) ?_
                                  refine lv_icmp_ne (pc := 759) (tgt := 766) X.1 X.2.1 dL_hangs_759 (by decide) (fun hc553 => ?_) (fun hc553 => ?_)
                                  · have h554 := it_pos h551 hc553
                                    exact hk523  _ _ ls512 h554 G552 (lv_sub hl513 [2, 3, 4, 1, 5, 0] rfl)
                                  · have h555 := it_neg h551 (fun q => q hc553)
                                    refine lv_iconst (pc := 762) (v := 1) X.1 X.2.1 dL_hangs_762 (by decide) ?_
                                    refine lv_goto (pc := 763) (tgt := 767) X.1 X.2.1 dL_hangs_763 (by decide) ?_
                                    exact hk514 1 _ _ ls512 h555 G552 (lv_sub hl513 [2, 3, 4, 1, 5, 0] rfl)
                        · have h518 := it_neg h515 hc516
                          refine lv_aload_n (pc := 611) X.1 X.2.1 dL_hangs_611 rfl (lv_at hl513 2 rfl) ?_
                          refine lv_iload (pc := 612) X.1 X.2.1 dL_hangs_612 (lv_at hl513 5 rfl) ?_
                          refine lv_iconst (pc := 614) (v := 0) X.1 X.2.1 dL_hangs_614 (by decide) ?_
                          obtain ⟨x561, e560, h562⟩ := bn_some h518
                          refine w_callH (pc := 615) (v := x561) (B' := (B1 D κ A o P)) (As := [.ref o, .int x427, .int 0]) (rest := []) X G509 (rm := rmLn_body) rfl rfl (bn_body l D κ A o P P x427 0 x561 (qh_body (hE 4 x427 0 x561 e560))) gL_114 hsL_body ⟨Nat.le_of_ble_eq_true rfl, Nat.le_of_ble_eq_true rfl⟩ rfl hl513 rfl (lv_room (Nat.le_of_ble_eq_true rfl)) dL_hangs_615 ⟨Nat.le_of_ble_eq_true rfl, Nat.le_of_ble_eq_true rfl⟩ (fun H locs G563 => ?_)
                          refine lv_aload_n (pc := 618) X.1 X.2.1 dL_hangs_618 rfl (lv_at hl513 2 rfl) ?_
                          refine lv_iload (pc := 619) X.1 X.2.1 dL_hangs_619 (lv_at hl513 5 rfl) ?_
                          refine lv_iconst (pc := 621) (v := 1) X.1 X.2.1 dL_hangs_621 (by decide) ?_
                          obtain ⟨x565, e564, h566⟩ := bn_some h562
                          refine w_callH (pc := 622) (v := x565) (B' := (B1 D κ A o P)) (As := [.ref o, .int x427, .int 1]) (rest := [.int x561]) X G563 (rm := rmLn_body) rfl rfl (bn_body l D κ A o P P x427 1 x565 (qh_body (hE 4 x427 1 x565 e564))) gL_114 hsL_body ⟨Nat.le_of_ble_eq_true rfl, Nat.le_of_ble_eq_true rfl⟩ rfl hl513 rfl (lv_room (Nat.le_of_ble_eq_true rfl)) dL_hangs_622 ⟨Nat.le_of_ble_eq_true rfl, Nat.le_of_ble_eq_true rfl⟩ (fun H locs G567 => ?_)
                          refine lv_aload_n (pc := 625) X.1 X.2.1 dL_hangs_625 rfl (lv_at hl513 2 rfl) ?_
                          refine lv_iload (pc := 626) X.1 X.2.1 dL_hangs_626 (lv_at hl513 5 rfl) ?_
                          refine lv_iconst (pc := 628) (v := 2) X.1 X.2.1 dL_hangs_628 (by decide) ?_
                          obtain ⟨x569, e568, h570⟩ := bn_some h566
                          refine w_callH (pc := 629) (v := x569) (B' := (B1 D κ A o P)) (As := [.ref o, .int x427, .int 2]) (rest := [.int x565, .int x561]) X G567 (rm := rmLn_body) rfl rfl (bn_body l D κ A o P P x427 2 x569 (qh_body (hE 4 x427 2 x569 e568))) gL_114 hsL_body ⟨Nat.le_of_ble_eq_true rfl, Nat.le_of_ble_eq_true rfl⟩ rfl hl513 rfl (lv_room (Nat.le_of_ble_eq_true rfl)) dL_hangs_629 ⟨Nat.le_of_ble_eq_true rfl, Nat.le_of_ble_eq_true rfl⟩ (fun H locs G571 => ?_)
                          refine lv_iadd (pc := 632) X.1 X.2.1 dL_hangs_632 ?_
                          refine lv_aload_n (pc := 633) X.1 X.2.1 dL_hangs_633 rfl (lv_at hl513 2 rfl) ?_
                          refine lv_iload (pc := 634) X.1 X.2.1 dL_hangs_634 (lv_at hl513 5 rfl) ?_
                          refine lv_iconst (pc := 636) (v := 5) X.1 X.2.1 dL_hangs_636 (by decide) ?_
                          obtain ⟨x573, e572, h574⟩ := bn_some h570
                          refine w_callH (pc := 637) (v := x573) (B' := (B1 D κ A o P)) (As := [.ref o, .int x427, .int 5]) (rest := [.int (x565 + x569), .int x561]) X G571 (rm := rmLn_body) rfl rfl (bn_body l D κ A o P P x427 5 x573 (qh_body (hE 4 x427 5 x573 e572))) gL_114 hsL_body ⟨Nat.le_of_ble_eq_true rfl, Nat.le_of_ble_eq_true rfl⟩ rfl hl513 rfl (lv_room (Nat.le_of_ble_eq_true rfl)) dL_hangs_637 ⟨Nat.le_of_ble_eq_true rfl, Nat.le_of_ble_eq_true rfl⟩ (fun H locs G575 => ?_)
                          refine lv_iadd (pc := 640) X.1 X.2.1 dL_hangs_640 ?_
                          obtain ⟨k576, ek576, h577⟩ := jp_some h574
                          have hk576 : ∀  (H : Heap) (locs : List Loc) (ls : Array Slot), k576 () = some y3 → Wo D κ A (B1 D κ A o P) s H locs → lv_has ls 15 [(0, .ref o), (9, .int x466), (10, .int x484), (11, .int x502), (12, .int x427), (14, .int x510)] → W p l e rmL_hangs s m [.ref o].toArray below meth c H locs 0 0 (MQ below (QW A (B1 D κ A o P) res) [.ref o].toArray s 0 0 A) (F0 m 707 ls []) := by
                            intro  H locs ls633 h630 G631 hl632
                            rw [ek576] at h630
                            try dsimp only at h630
                            refine lv_iconst (pc := 707) (v := 0) X.1 X.2.1 dL_hangs_707 (by decide) ?_
                            refine lv_goto (pc := 708) (tgt := 767) X.1 X.2.1 dL_hangs_708 (by decide) ?_
                            exact hk514 0 _ _ ls633 h630 G631 (lv_sub hl632 [0, 1, 2, 3, 4, 5] rfl)
                          refine lv_icmp_lt (pc := 641) (tgt := 707) X.1 X.2.1 dL_hangs_641 (by decide) (fun hc578 => ?_) (fun hc578 => ?_)
                          · have h579 := it_pos h577 hc578
                            exact hk576  _ _ ls512 h579 G575 (lv_sub hl513 [2, 3, 4, 1, 5, 0] rfl)
                          · have h580 := it_neg h577 hc578
                            refine lv_aload_n (pc := 644) X.1 X.2.1 dL_hangs_644 rfl (lv_at hl513 2 rfl) ?_
                            refine lv_iload (pc := 645) X.1 X.2.1 dL_hangs_645 (lv_at hl513 5 rfl) ?_
                            refine lv_iconst (pc := 647) (v := 4) X.1 X.2.1 dL_hangs_647 (by decide) ?_
                            obtain ⟨x582, e581, h583⟩ := bn_some h580
                            refine w_callH (pc := 648) (v := x582) (B' := (B1 D κ A o P)) (As := [.ref o, .int x427, .int 4]) (rest := []) X G575 (rm := rmLn_body) rfl rfl (bn_body l D κ A o P P x427 4 x582 (qh_body (hE 4 x427 4 x582 e581))) gL_114 hsL_body ⟨Nat.le_of_ble_eq_true rfl, Nat.le_of_ble_eq_true rfl⟩ rfl hl513 rfl (lv_room (Nat.le_of_ble_eq_true rfl)) dL_hangs_648 ⟨Nat.le_of_ble_eq_true rfl, Nat.le_of_ble_eq_true rfl⟩ (fun H locs G584 => ?_)
                            refine lv_aload_n (pc := 651) X.1 X.2.1 dL_hangs_651 rfl (lv_at hl513 2 rfl) ?_
                            refine lv_iload (pc := 652) X.1 X.2.1 dL_hangs_652 (lv_at hl513 5 rfl) ?_
                            refine lv_iconst (pc := 654) (v := 2) X.1 X.2.1 dL_hangs_654 (by decide) ?_
                            obtain ⟨x586, e585, h587⟩ := bn_some h583
                            refine w_callH (pc := 655) (v := x586) (B' := (B1 D κ A o P)) (As := [.ref o, .int x427, .int 2]) (rest := [.int x582]) X G584 (rm := rmLn_body) rfl rfl (bn_body l D κ A o P P x427 2 x586 (qh_body (hE 4 x427 2 x586 e585))) gL_114 hsL_body ⟨Nat.le_of_ble_eq_true rfl, Nat.le_of_ble_eq_true rfl⟩ rfl hl513 rfl (lv_room (Nat.le_of_ble_eq_true rfl)) dL_hangs_655 ⟨Nat.le_of_ble_eq_true rfl, Nat.le_of_ble_eq_true rfl⟩ (fun H locs G588 => ?_)
                            refine lv_icmp_gt (pc := 658) (tgt := 707) X.1 X.2.1 dL_hangs_658 (by decide) (fun hc589 => ?_) (fun hc589 => ?_)
                            · have h590 := it_pos h587 hc589
                              exact hk576  _ _ ls512 h590 G588 (lv_sub hl513 [2, 3, 4, 1, 5, 0] rfl)
                            · have h591 := it_neg h587 hc589
                              refine lv_aload_n (pc := 661) X.1 X.2.1 dL_hangs_661 rfl (lv_at hl513 2 rfl) ?_
                              refine lv_iload (pc := 662) X.1 X.2.1 dL_hangs_662 (lv_at hl513 5 rfl) ?_
                              refine lv_iconst (pc := 664) (v := 2) X.1 X.2.1 dL_hangs_664 (by decide) ?_
                              obtain ⟨x593, e592, h594⟩ := bn_some h591
                              refine w_callH (pc := 665) (v := x593) (B' := (B1 D κ A o P)) (As := [.ref o, .int x427, .int 2]) (rest := []) X G588 (rm := rmLn_body) rfl rfl (bn_body l D κ A o P P x427 2 x593 (qh_body (hE 4 x427 2 x593 e592))) gL_114 hsL_body ⟨Nat.le_of_ble_eq_true rfl, Nat.le_of_ble_eq_true rfl⟩ rfl hl513 rfl (lv_room (Nat.le_of_ble_eq_true rfl)) dL_hangs_665 ⟨Nat.le_of_ble_eq_true rfl, Nat.le_of_ble_eq_true rfl⟩ (fun H locs G595 => ?_)
                              obtain ⟨k596, ek596, h597⟩ := jp_some h594
                              have hk596 : ∀ (x601 : Int32) (H : Heap) (locs : List Loc) (ls : Array Slot), k596 x601 = some y3 → Wo D κ A (B1 D κ A o P) s H locs → lv_has ls 15 [(0, .ref o), (9, .int x466), (10, .int x484), (11, .int x502), (12, .int x427), (14, .int x510)] → W p l e rmL_hangs s m [.ref o].toArray below meth c H locs 0 0 (MQ below (QW A (B1 D κ A o P) res) [.ref o].toArray s 0 0 A) (F0 m 676 ls [.int x601]) := by
                                intro x601 H locs ls605 h602 G603 hl604
                                rw [ek596] at h602
                                try dsimp only at h602
                                refine lv_aload_n (pc := 676) X.1 X.2.1 dL_hangs_676 rfl (lv_at hl604 0 rfl) ?_
                                refine lv_iload (pc := 677) X.1 X.2.1 dL_hangs_677 (lv_at hl604 4 rfl) ?_
                                refine lv_iconst (pc := 679) (v := 0) X.1 X.2.1 dL_hangs_679 (by decide) ?_
                                obtain ⟨x607, e606, h608⟩ := bn_some h602
                                refine w_callH (pc := 680) (v := x607) (B' := (B1 D κ A o P)) (As := [.ref o, .int x427, .int 0]) (rest := [.int x601]) X G603 (rm := rmLn_uses) rfl rfl (bn_uses l D κ A o P P x427 0 x607 (qh_uses (hE 5 x427 0 x607 e606))) gL_119 hsL_uses ⟨Nat.le_of_ble_eq_true rfl, Nat.le_of_ble_eq_true rfl⟩ rfl hl604 rfl (lv_room (Nat.le_of_ble_eq_true rfl)) dL_hangs_680 ⟨Nat.le_of_ble_eq_true rfl, Nat.le_of_ble_eq_true rfl⟩ (fun H locs G609 => ?_)
                                obtain ⟨k610, ek610, h611⟩ := jp_some h608
                                have hk610 : ∀ (x615 : Int32) (H : Heap) (locs : List Loc) (ls : Array Slot), k610 x615 = some y3 → Wo D κ A (B1 D κ A o P) s H locs → lv_has ls 15 [(0, .ref o), (9, .int x466), (10, .int x484), (11, .int x502), (12, .int x427), (14, .int x510)] → W p l e rmL_hangs s m [.ref o].toArray below meth c H locs 0 0 (MQ below (QW A (B1 D κ A o P) res) [.ref o].toArray s 0 0 A) (F0 m 691 ls [.int x615, .int x601]) := by
                                  intro x615 H locs ls619 h616 G617 hl618
                                  rw [ek610] at h616
                                  try dsimp only at h616
                                  refine lv_icmp_ne (pc := 691) (tgt := 707) X.1 X.2.1 dL_hangs_691 (by decide) (fun hc620 => ?_) (fun hc620 => ?_)
                                  · have h621 := it_pos h616 hc620
                                    exact hk576  _ _ ls619 h621 G617 (lv_sub hl618 [0, 1, 2, 3, 4, 5] rfl)
                                  · have h622 := it_neg h616 (fun q => q hc620)
                                    refine lv_aload_n (pc := 694) X.1 X.2.1 dL_hangs_694 rfl (lv_at hl618 0 rfl) ?_
                                    refine lv_iload (pc := 695) X.1 X.2.1 dL_hangs_695 (lv_at hl618 4 rfl) ?_
                                    obtain ⟨x624, e623, h625⟩ := bn_some h622
                                    refine w_callH (pc := 697) (v := x624) (B' := (B1 D κ A o P)) (As := [.ref o, .int x427]) (rest := []) X G617 (rm := rmLn_chain) rfl rfl (bn_chain l D κ A o P P x427 x624 (qh_chain (hE 6 x427 0 x624 e623))) gL_121 hsL_chain ⟨Nat.le_of_ble_eq_true rfl, Nat.le_of_ble_eq_true rfl⟩ rfl hl618 rfl (lv_room (Nat.le_of_ble_eq_true rfl)) dL_hangs_697 ⟨Nat.le_of_ble_eq_true rfl, Nat.le_of_ble_eq_true rfl⟩ (fun H locs G626 => ?_)
                                    refine lv_if_eq (pc := 700) (tgt := 707) X.1 X.2.1 dL_hangs_700 (by decide) (fun hc627 => ?_) (fun hc627 => ?_)
                                    · have h628 := it_pos h625 hc627
                                      exact hk576  _ _ ls619 h628 G626 (lv_sub hl618 [0, 1, 2, 3, 4, 5] rfl)
                                    · have h629 := it_neg h625 hc627
                                      refine lv_iconst (pc := 703) (v := 1) X.1 X.2.1 dL_hangs_703 (by decide) ?_
                                      refine lv_goto (pc := 704) (tgt := 767) X.1 X.2.1 dL_hangs_704 (by decide) ?_
                                      exact hk514 1 _ _ ls619 h629 G626 (lv_sub hl618 [0, 1, 2, 3, 4, 5] rfl)
                                refine lv_if_eq (pc := 683) (tgt := 690) X.1 X.2.1 dL_hangs_683 (by decide) (fun hc612 => ?_) (fun hc612 => ?_)
                                · have h613 := it_pos h611 hc612
                                  refine lv_iconst (pc := 690) (v := 0) X.1 X.2.1 dL_hangs_690 (by decide) ?_
                                  exact hk610 0 _ _ ls605 h613 G609 (lv_sub hl604 [0, 1, 2, 3, 4, 5] rfl)
                                · have h614 := it_neg h611 hc612
                                  refine lv_iconst (pc := 686) (v := 1) X.1 X.2.1 dL_hangs_686 (by decide) ?_
                                  refine lv_goto (pc := 687) (tgt := 691) X.1 X.2.1 dL_hangs_687 (by decide) ?_
                                  exact hk610 1 _ _ ls605 h614 G609 (lv_sub hl604 [0, 1, 2, 3, 4, 5] rfl)
                              refine lv_if_le (pc := 668) (tgt := 675) X.1 X.2.1 dL_hangs_668 (by decide) (fun hc598 => ?_) (fun hc598 => ?_)
                              · have h599 := it_pos h597 hc598
                                refine lv_iconst (pc := 675) (v := 0) X.1 X.2.1 dL_hangs_675 (by decide) ?_
                                exact hk596 0 _ _ ls512 h599 G595 (lv_sub hl513 [2, 3, 4, 1, 5, 0] rfl)
                              · have h600 := it_neg h597 hc598
                                refine lv_iconst (pc := 671) (v := 1) X.1 X.2.1 dL_hangs_671 (by decide) ?_
                                refine lv_goto (pc := 672) (tgt := 676) X.1 X.2.1 dL_hangs_672 (by decide) ?_
                                exact hk596 1 _ _ ls512 h600 G595 (lv_sub hl513 [2, 3, 4, 1, 5, 0] rfl)
                      refine lv_if_eq (pc := 578) (tgt := 591) X.1 X.2.1 dL_hangs_578 (by decide) (fun hc490 => ?_) (fun hc490 => ?_)
                      · have h491 := it_pos h489 hc490
                        refine lv_iconst (pc := 591) (v := 0) X.1 X.2.1 dL_hangs_591 (by decide) ?_
                        exact hk488 0 _ _ ls486 h491 G481 (lv_sub hl487 [1, 2, 0, 4, 5] rfl)
                      · have h492 := it_neg h489 hc490
                        refine lv_aload_n (pc := 581) X.1 X.2.1 dL_hangs_581 rfl (lv_at hl487 1 rfl) ?_
                        refine lv_iload (pc := 582) X.1 X.2.1 dL_hangs_582 (lv_at hl487 4 rfl) ?_
                        refine lv_iconst (pc := 584) (v := 1) X.1 X.2.1 dL_hangs_584 (by decide) ?_
                        obtain ⟨x494, e493, h495⟩ := bn_some h492
                        refine w_callH (pc := 585) (v := x494) (B' := (B1 D κ A o P)) (As := [.ref o, .int x427, .int 1]) (rest := [.int x426]) X G481 (rm := rmLn_body) rfl rfl (bn_body l D κ A o P P x427 1 x494 (qh_body (hE 4 x427 1 x494 e493))) gL_114 hsL_body ⟨Nat.le_of_ble_eq_true rfl, Nat.le_of_ble_eq_true rfl⟩ rfl hl487 rfl (lv_room (Nat.le_of_ble_eq_true rfl)) dL_hangs_585 ⟨Nat.le_of_ble_eq_true rfl, Nat.le_of_ble_eq_true rfl⟩ (fun H locs G496 => ?_)
                        refine lv_goto (pc := 588) (tgt := 592) X.1 X.2.1 dL_hangs_588 (by decide) ?_
                        exact hk488 x494 _ _ ls486 h495 G496 (lv_sub hl487 [1, 2, 0, 4, 5] rfl)
                    refine lv_if_eq (pc := 557) (tgt := 570) X.1 X.2.1 dL_hangs_557 (by decide) (fun hc472 => ?_) (fun hc472 => ?_)
                    · have h473 := it_pos h471 hc472
                      refine lv_iconst (pc := 570) (v := 0) X.1 X.2.1 dL_hangs_570 (by decide) ?_
                      exact hk470 0 _ _ ls468 h473 G463 (lv_sub hl469 [1, 0, 3, 4, 5] rfl)
                    · have h474 := it_neg h471 hc472
                      refine lv_aload_n (pc := 560) X.1 X.2.1 dL_hangs_560 rfl (lv_at hl469 1 rfl) ?_
                      refine lv_iload (pc := 561) X.1 X.2.1 dL_hangs_561 (lv_at hl469 4 rfl) ?_
                      refine lv_iconst (pc := 563) (v := 2) X.1 X.2.1 dL_hangs_563 (by decide) ?_
                      obtain ⟨x476, e475, h477⟩ := bn_some h474
                      refine w_callH (pc := 564) (v := x476) (B' := (B1 D κ A o P)) (As := [.ref o, .int x427, .int 2]) (rest := [.int x425]) X G463 (rm := rmLn_body) rfl rfl (bn_body l D κ A o P P x427 2 x476 (qh_body (hE 4 x427 2 x476 e475))) gL_114 hsL_body ⟨Nat.le_of_ble_eq_true rfl, Nat.le_of_ble_eq_true rfl⟩ rfl hl469 rfl (lv_room (Nat.le_of_ble_eq_true rfl)) dL_hangs_564 ⟨Nat.le_of_ble_eq_true rfl, Nat.le_of_ble_eq_true rfl⟩ (fun H locs G478 => ?_)
                      refine lv_goto (pc := 567) (tgt := 571) X.1 X.2.1 dL_hangs_567 (by decide) ?_
                      exact hk470 x476 _ _ ls468 h477 G478 (lv_sub hl469 [1, 0, 3, 4, 5] rfl)
                  refine lv_if_eq (pc := 542) (tgt := 549) X.1 X.2.1 dL_hangs_542 (by decide) (fun hc458 => ?_) (fun hc458 => ?_)
                  · have h459 := it_pos h457 hc458
                    refine lv_iconst (pc := 549) (v := 0) X.1 X.2.1 dL_hangs_549 (by decide) ?_
                    exact hk456 0 _ _ ls454 h459 G451 (lv_sub hl455 [1, 3, 4, 5, 0] rfl)
                  · have h460 := it_neg h457 hc458
                    refine lv_iconst (pc := 545) (v := 1) X.1 X.2.1 dL_hangs_545 (by decide) ?_
                    refine lv_goto (pc := 546) (tgt := 550) X.1 X.2.1 dL_hangs_546 (by decide) ?_
                    exact hk456 1 _ _ ls454 h460 G451 (lv_sub hl455 [1, 3, 4, 5, 0] rfl)
                refine lv_icmp_ne (pc := 528) (tgt := 535) X.1 X.2.1 dL_hangs_528 (by decide) (fun hc446 => ?_) (fun hc446 => ?_)
                · have h447 := it_pos h445 hc446
                  refine lv_iconst (pc := 535) (v := 0) X.1 X.2.1 dL_hangs_535 (by decide) ?_
                  exact hk444 0 _ _ ls431 h447 G443 (lv_sub hl430 [0, 2, 3, 4, 5] rfl)
                · have h448 := it_neg h445 (fun q => q hc446)
                  refine lv_iconst (pc := 531) (v := 1) X.1 X.2.1 dL_hangs_531 (by decide) ?_
                  refine lv_goto (pc := 532) (tgt := 536) X.1 X.2.1 dL_hangs_532 (by decide) ?_
                  exact hk444 1 _ _ ls431 h448 G443 (lv_sub hl430 [0, 2, 3, 4, 5] rfl)
          obtain ⟨k370, ek370, h371⟩ := jp_some h369
          have hk370 : ∀  (H : Heap) (locs : List Loc) (ls : Array Slot), k370 () = some y2 → Wo D κ A (B1 D κ A o P) s H locs → lv_has ls 15 [(0, .ref o)] → W p l e rmL_hangs s m [.ref o].toArray below meth c H locs 0 0 (MQ below (QW A (B1 D κ A o P) res) [.ref o].toArray s 0 0 A) (F0 m 490 ls []) := by
            intro  H locs ls407 h404 G405 hl406
            rw [ek370] at h404
            try dsimp only at h404
            refine lv_iconst (pc := 490) (v := 0) X.1 X.2.1 dL_hangs_490 (by decide) ?_
            exact hk368 0 _ _ ls407 h404 G405 (lv_sub hl406 [0] rfl)
          refine lv_if_eq (pc := 440) (tgt := 490) X.1 X.2.1 dL_hangs_440 (by decide) (fun hc372 => ?_) (fun hc372 => ?_)
          · have h373 := it_pos h371 hc372
            exact hk370  _ _ ls367 h373 G365 (lv_sub hl366 [0] rfl)
          · have h374 := it_neg h371 hc372
            refine lv_iload_n (pc := 443) X.1 X.2.1 dL_hangs_443 rfl (lv_at hl366 1 rfl) ?_
            refine lv_bipush (pc := 444) (v := 60) X.1 X.2.1 dL_hangs_444 (by decide) ?_
            obtain ⟨k375, ek375, h376⟩ := jp_some h374
            have hk375 : ∀  (H : Heap) (locs : List Loc) (ls : Array Slot), k375 () = some y2 → Wo D κ A (B1 D κ A o P) s H locs → lv_has ls 15 [(0, .ref o)] → W p l e rmL_hangs s m [.ref o].toArray below meth c H locs 0 0 (MQ below (QW A (B1 D κ A o P) res) [.ref o].toArray s 0 0 A) (F0 m 486 ls []) := by
              intro  H locs ls403 h400 G401 hl402
              rw [ek375] at h400
              try dsimp only at h400
              refine lv_iconst (pc := 486) (v := 1) X.1 X.2.1 dL_hangs_486 (by decide) ?_
              refine lv_goto (pc := 487) (tgt := 491) X.1 X.2.1 dL_hangs_487 (by decide) ?_
              exact hk368 1 _ _ ls403 h400 G401 (lv_sub hl402 [0] rfl)
            refine lv_icmp_ge (pc := 446) (tgt := 469) X.1 X.2.1 dL_hangs_446 (by decide) (fun hc377 => ?_) (fun hc377 => ?_)
            · have h378 := it_pos h376 hc377
              refine lv_iload (pc := 469) X.1 X.2.1 dL_hangs_469 (lv_at hl366 4 rfl) ?_
              refine lv_iload_n (pc := 471) X.1 X.2.1 dL_hangs_471 rfl (lv_at hl366 2 rfl) ?_
              refine lv_icmp_gt (pc := 472) (tgt := 490) X.1 X.2.1 dL_hangs_472 (by decide) (fun hc380 => ?_) (fun hc380 => ?_)
              · have h381 := it_pos h378 hc380
                exact hk370  _ _ ls367 h381 G365 (lv_sub hl366 [0] rfl)
              · have h382 := it_neg h378 hc380
                refine lv_iload (pc := 475) X.1 X.2.1 dL_hangs_475 (lv_at hl366 5 rfl) ?_
                refine lv_aload_n (pc := 477) X.1 X.2.1 dL_hangs_477 rfl (lv_at hl366 0 rfl) ?_
                refine lv_bipush (pc := 478) (v := 6) X.1 X.2.1 dL_hangs_478 (by decide) ?_
                obtain ⟨x384, e383, h385⟩ := bn_some h382
                refine w_callH (pc := 480) (v := x384) (B' := (B1 D κ A o P)) (As := [.ref o, .int 6]) (rest := [.int x196]) X G365 (rm := rmLn_result) rfl rfl (bn_result l D κ A o P P 6 x384 (qh_result (hE 0 6 0 x384 e383))) gL_106 hsL_result ⟨Nat.le_of_ble_eq_true rfl, Nat.le_of_ble_eq_true rfl⟩ rfl hl366 rfl (lv_room (Nat.le_of_ble_eq_true rfl)) dL_hangs_480 ⟨Nat.le_of_ble_eq_true rfl, Nat.le_of_ble_eq_true rfl⟩ (fun H locs G386 => ?_)
                refine lv_icmp_gt (pc := 483) (tgt := 490) X.1 X.2.1 dL_hangs_483 (by decide) (fun hc387 => ?_) (fun hc387 => ?_)
                · have h388 := it_pos h385 hc387
                  exact hk370  _ _ ls367 h388 G386 (lv_sub hl366 [0] rfl)
                · have h389 := it_neg h385 hc387
                  exact hk375  _ _ ls367 h389 G386 (lv_sub hl366 [0] rfl)
            · have h379 := it_neg h376 hc377
              refine lv_iload (pc := 449) X.1 X.2.1 dL_hangs_449 (lv_at hl366 4 rfl) ?_
              refine lv_iload_n (pc := 451) X.1 X.2.1 dL_hangs_451 rfl (lv_at hl366 2 rfl) ?_
              refine lv_icmp_ne (pc := 452) (tgt := 490) X.1 X.2.1 dL_hangs_452 (by decide) (fun hc390 => ?_) (fun hc390 => ?_)
              · have h391 := it_pos h379 hc390
                exact hk370  _ _ ls367 h391 G365 (lv_sub hl366 [0] rfl)
              · have h392 := it_neg h379 (fun q => q hc390)
                refine lv_iload (pc := 455) X.1 X.2.1 dL_hangs_455 (lv_at hl366 5 rfl) ?_
                refine lv_aload_n (pc := 457) X.1 X.2.1 dL_hangs_457 rfl (lv_at hl366 0 rfl) ?_
                refine lv_bipush (pc := 458) (v := 6) X.1 X.2.1 dL_hangs_458 (by decide) ?_
                obtain ⟨x394, e393, h395⟩ := bn_some h392
                refine w_callH (pc := 460) (v := x394) (B' := (B1 D κ A o P)) (As := [.ref o, .int 6]) (rest := [.int x196]) X G365 (rm := rmLn_result) rfl rfl (bn_result l D κ A o P P 6 x394 (qh_result (hE 0 6 0 x394 e393))) gL_106 hsL_result ⟨Nat.le_of_ble_eq_true rfl, Nat.le_of_ble_eq_true rfl⟩ rfl hl366 rfl (lv_room (Nat.le_of_ble_eq_true rfl)) dL_hangs_460 ⟨Nat.le_of_ble_eq_true rfl, Nat.le_of_ble_eq_true rfl⟩ (fun H locs G396 => ?_)
                refine lv_icmp_ne (pc := 463) (tgt := 490) X.1 X.2.1 dL_hangs_463 (by decide) (fun hc397 => ?_) (fun hc397 => ?_)
                · have h398 := it_pos h395 hc397
                  exact hk370  _ _ ls367 h398 G396 (lv_sub hl366 [0] rfl)
                · have h399 := it_neg h395 (fun q => q hc397)
                  refine lv_goto (pc := 466) (tgt := 486) X.1 X.2.1 dL_hangs_466 (by decide) ?_
                  exact hk375  _ _ ls367 h399 G396 (lv_sub hl366 [0] rfl)
        refine lv_icmp_ge (pc := 219) (tgt := 438) X.1 X.2.1 dL_hangs_219 (by decide) (fun hc204 => ?_) (fun hc204 => ?_)
        · have h205 := it_pos h203 hc204
          exact hk202  _ _ ls201 h205 G199 (lv_sub hl200 [0, 1, 2, 3, 4, 5] rfl)
        · have h206 := it_neg h203 hc204
          refine lv_iload (pc := 222) X.1 X.2.1 dL_hangs_222 (lv_at hl200 3 rfl) ?_
          refine lv_if_eq (pc := 224) (tgt := 438) X.1 X.2.1 dL_hangs_224 (by decide) (fun hc207 => ?_) (fun hc207 => ?_)
          · have h208 := it_pos h206 hc207
            exact hk202  _ _ ls201 h208 G199 (lv_sub hl200 [0, 1, 2, 3, 4, 5] rfl)
          · have h209 := it_neg h206 hc207
            refine lv_aload_n (pc := 227) X.1 X.2.1 dL_hangs_227 rfl (lv_at hl200 0 rfl) ?_
            refine lv_iload (pc := 228) X.1 X.2.1 dL_hangs_228 (lv_at hl200 6 rfl) ?_
            refine lv_iconst (pc := 230) (v := 1) X.1 X.2.1 dL_hangs_230 (by decide) ?_
            obtain ⟨x211, e210, h212⟩ := bn_some h209
            refine w_callH (pc := 231) (v := x211) (B' := (B1 D κ A o P)) (As := [.ref o, .int x197, .int 1]) (rest := []) X G199 (rm := rmLn_trace) rfl rfl (bn_trace l D κ A o P P x197 1 x211 (qh_trace (hE 2 x197 1 x211 e210))) gL_110 hsL_trace ⟨Nat.le_of_ble_eq_true rfl, Nat.le_of_ble_eq_true rfl⟩ rfl hl200 rfl (lv_room (Nat.le_of_ble_eq_true rfl)) dL_hangs_231 ⟨Nat.le_of_ble_eq_true rfl, Nat.le_of_ble_eq_true rfl⟩ (fun H locs G213 => ?_)
            refine lv_istore (pc := 234) (lv' := [(10, .int x211), (0, .ref o), (2, .int x8), (3, .int x14), (6, .int x194), (7, .int x195), (8, .int x196), (9, .int x197)]) X.1 X.2.1 dL_hangs_234 hl200 (by decide) rfl (fun ls214 hl215 => ?_)
            refine lv_aload_n (pc := 236) X.1 X.2.1 dL_hangs_236 rfl (lv_at hl215 1 rfl) ?_
            refine lv_iload (pc := 237) X.1 X.2.1 dL_hangs_237 (lv_at hl215 7 rfl) ?_
            refine lv_iconst (pc := 239) (v := 2) X.1 X.2.1 dL_hangs_239 (by decide) ?_
            obtain ⟨x217, e216, h218⟩ := bn_some h212
            refine w_callH (pc := 240) (v := x217) (B' := (B1 D κ A o P)) (As := [.ref o, .int x197, .int 2]) (rest := []) X G213 (rm := rmLn_trace) rfl rfl (bn_trace l D κ A o P P x197 2 x217 (qh_trace (hE 2 x197 2 x217 e216))) gL_110 hsL_trace ⟨Nat.le_of_ble_eq_true rfl, Nat.le_of_ble_eq_true rfl⟩ rfl hl215 rfl (lv_room (Nat.le_of_ble_eq_true rfl)) dL_hangs_240 ⟨Nat.le_of_ble_eq_true rfl, Nat.le_of_ble_eq_true rfl⟩ (fun H locs G219 => ?_)
            refine lv_istore (pc := 243) (lv' := [(11, .int x217), (10, .int x211), (0, .ref o), (2, .int x8), (3, .int x14), (6, .int x194), (7, .int x195), (8, .int x196), (9, .int x197)]) X.1 X.2.1 dL_hangs_243 hl215 (by decide) rfl (fun ls220 hl221 => ?_)
            refine lv_iload (pc := 245) X.1 X.2.1 dL_hangs_245 (lv_at hl221 1 rfl) ?_
            obtain ⟨k222, ek222, h223⟩ := jp_some h218
            have hk222 : ∀ (x318 : Int32) (H : Heap) (locs : List Loc) (ls : Array Slot), k222 x318 = some y2 → Wo D κ A (B1 D κ A o P) s H locs → lv_has ls 15 [(0, .ref o), (2, .int x8), (3, .int x14), (7, .int x195), (8, .int x196), (9, .int x197), (10, .int x211), (11, .int x217)] → W p l e rmL_hangs s m [.ref o].toArray below meth c H locs 0 0 (MQ below (QW A (B1 D κ A o P) res) [.ref o].toArray s 0 0 A) (F0 m 390 ls [.int x318]) := by
              intro x318 H locs ls322 h319 G320 hl321
              rw [ek222] at h319
              try dsimp only at h319
              refine lv_istore (pc := 390) (lv' := [(6, .int x318), (0, .ref o), (2, .int x8), (3, .int x14), (7, .int x195), (8, .int x196), (9, .int x197), (10, .int x211), (11, .int x217)]) X.1 X.2.1 dL_hangs_390 hl321 (by decide) rfl (fun ls323 hl324 => ?_)
              refine lv_iload (pc := 392) X.1 X.2.1 dL_hangs_392 (lv_at hl324 4 rfl) ?_
              refine lv_iload (pc := 394) X.1 X.2.1 dL_hangs_394 (lv_at hl324 7 rfl) ?_
              obtain ⟨k325, ek325, h326⟩ := jp_some h319
              have hk325 : ∀ (x330 : Int32) (H : Heap) (locs : List Loc) (ls : Array Slot), k325 x330 = some y2 → Wo D κ A (B1 D κ A o P) s H locs → lv_has ls 15 [(0, .ref o), (2, .int x8), (3, .int x14), (6, .int x318), (8, .int x196), (9, .int x197), (10, .int x211), (11, .int x217)] → W p l e rmL_hangs s m [.ref o].toArray below meth c H locs 0 0 (MQ below (QW A (B1 D κ A o P) res) [.ref o].toArray s 0 0 A) (F0 m 404 ls [.int x330, .int x195]) := by
                intro x330 H locs ls334 h331 G332 hl333
                rw [ek325] at h331
                try dsimp only at h331
                refine lv_iadd (pc := 404) X.1 X.2.1 dL_hangs_404 ?_
                refine lv_topi (fun x335 ex335 => ?_)
                have h336 := bd_at h331 ex335
                refine lv_istore (pc := 405) (lv' := [(7, .int x335), (0, .ref o), (2, .int x8), (3, .int x14), (6, .int x318), (8, .int x196), (9, .int x197), (10, .int x211), (11, .int x217)]) X.1 X.2.1 dL_hangs_405 hl333 (by decide) rfl (fun ls337 hl338 => ?_)
                refine lv_iload (pc := 407) X.1 X.2.1 dL_hangs_407 (lv_at hl338 7 rfl) ?_
                obtain ⟨k339, ek339, h340⟩ := jp_some h336
                have hk339 : ∀ (x353 : Int32) (H : Heap) (locs : List Loc) (ls : Array Slot), k339 x353 = some y2 → Wo D κ A (B1 D κ A o P) s H locs → lv_has ls 15 [(0, .ref o), (2, .int x8), (3, .int x14), (6, .int x318), (7, .int x335), (9, .int x197)] → W p l e rmL_hangs s m [.ref o].toArray below meth c H locs 0 0 (MQ below (QW A (B1 D κ A o P) res) [.ref o].toArray s 0 0 A) (F0 m 430 ls [.int x353]) := by
                  intro x353 H locs ls357 h354 G355 hl356
                  rw [ek339] at h354
                  try dsimp only at h354
                  refine lv_istore (pc := 430) (lv' := [(8, .int x353), (0, .ref o), (2, .int x8), (3, .int x14), (6, .int x318), (7, .int x335), (9, .int x197)]) X.1 X.2.1 dL_hangs_430 hl356 (by decide) rfl (fun ls358 hl359 => ?_)
                  obtain ⟨x360, ex360, h363⟩ := bd_some h354
                  refine lv_iinc (pc := 432) (v := x360) (lv' := [(9, .int x360), (8, .int x353), (0, .ref o), (2, .int x8), (3, .int x14), (6, .int x318), (7, .int x335)]) X.1 X.2.1 dL_hangs_432 hl359 (k := 6) rfl (by rw [ex360]; rfl) (by decide) rfl (fun ls361 hl362 => ?_)
                  refine lv_goto (pc := 435) (tgt := 216) X.1 X.2.1 dL_hangs_435 (by decide) ?_
                  have h363_i := Option.some.inj h363
                  exact ih2 _ h363_i.symm _ _ ls361 G355 (lv_sub hl362 [2, 3, 4, 5, 6, 1, 0] rfl)
                obtain ⟨k341, ek341, h342⟩ := jp_some h340
                have hk341 : ∀  (H : Heap) (locs : List Loc) (ls : Array Slot), k341 () = some y2 → Wo D κ A (B1 D κ A o P) s H locs → lv_has ls 15 [(0, .ref o), (2, .int x8), (3, .int x14), (6, .int x318), (7, .int x335), (8, .int x196), (9, .int x197)] → W p l e rmL_hangs s m [.ref o].toArray below meth c H locs 0 0 (MQ below (QW A (B1 D κ A o P) res) [.ref o].toArray s 0 0 A) (F0 m 428 ls []) := by
                  intro  H locs ls352 h349 G350 hl351
                  rw [ek341] at h349
                  try dsimp only at h349
                  refine lv_iload (pc := 428) X.1 X.2.1 dL_hangs_428 (lv_at hl351 5 rfl) ?_
                  exact hk339 x196 _ _ ls352 h349 G350 (lv_sub hl351 [0, 1, 2, 3, 4, 6] rfl)
                refine lv_if_ne (pc := 409) (tgt := 428) X.1 X.2.1 dL_hangs_409 (by decide) (fun hc343 => ?_) (fun hc343 => ?_)
                · have h344 := it_pos h342 hc343
                  exact hk341  _ _ ls337 h344 G332 (lv_sub hl338 [1, 2, 3, 4, 0, 5, 6] rfl)
                · have h345 := it_neg h342 (fun q => q hc343)
                  refine lv_iload (pc := 412) X.1 X.2.1 dL_hangs_412 (lv_at hl338 8 rfl) ?_
                  refine lv_iconst (pc := 414) (v := 1) X.1 X.2.1 dL_hangs_414 (by decide) ?_
                  refine lv_iadd (pc := 415) X.1 X.2.1 dL_hangs_415 ?_
                  refine lv_iload (pc := 416) X.1 X.2.1 dL_hangs_416 (lv_at hl338 5 rfl) ?_
                  refine lv_icmp_le (pc := 418) (tgt := 428) X.1 X.2.1 dL_hangs_418 (by decide) (fun hc346 => ?_) (fun hc346 => ?_)
                  · have h347 := it_pos h345 hc346
                    exact hk341  _ _ ls337 h347 G332 (lv_sub hl338 [1, 2, 3, 4, 0, 5, 6] rfl)
                  · have h348 := it_neg h345 hc346
                    refine lv_iload (pc := 421) X.1 X.2.1 dL_hangs_421 (lv_at hl338 8 rfl) ?_
                    refine lv_iconst (pc := 423) (v := 1) X.1 X.2.1 dL_hangs_423 (by decide) ?_
                    refine lv_iadd (pc := 424) X.1 X.2.1 dL_hangs_424 ?_
                    refine lv_goto (pc := 425) (tgt := 430) X.1 X.2.1 dL_hangs_425 (by decide) ?_
                    exact hk339 (x217 + 1) _ _ ls337 h348 G332 (lv_sub hl338 [1, 2, 3, 4, 0, 6] rfl)
              refine lv_if_ne (pc := 396) (tgt := 403) X.1 X.2.1 dL_hangs_396 (by decide) (fun hc327 => ?_) (fun hc327 => ?_)
              · have h328 := it_pos h326 hc327
                refine lv_iconst (pc := 403) (v := 0) X.1 X.2.1 dL_hangs_403 (by decide) ?_
                exact hk325 0 _ _ ls323 h328 G320 (lv_sub hl324 [1, 2, 3, 0, 5, 6, 7, 8] rfl)
              · have h329 := it_neg h326 (fun q => q hc327)
                refine lv_iconst (pc := 399) (v := 1) X.1 X.2.1 dL_hangs_399 (by decide) ?_
                refine lv_goto (pc := 400) (tgt := 404) X.1 X.2.1 dL_hangs_400 (by decide) ?_
                exact hk325 1 _ _ ls323 h329 G320 (lv_sub hl324 [1, 2, 3, 0, 5, 6, 7, 8] rfl)
            obtain ⟨k224, ek224, h225⟩ := jp_some h223
            have hk224 : ∀  (H : Heap) (locs : List Loc) (ls : Array Slot), k224 () = some y2 → Wo D κ A (B1 D κ A o P) s H locs → lv_has ls 15 [(0, .ref o), (2, .int x8), (3, .int x14), (7, .int x195), (8, .int x196), (9, .int x197), (10, .int x211), (11, .int x217)] → W p l e rmL_hangs s m [.ref o].toArray below meth c H locs 0 0 (MQ below (QW A (B1 D κ A o P) res) [.ref o].toArray s 0 0 A) (F0 m 389 ls []) := by
              intro  H locs ls317 h314 G315 hl316
              rw [ek224] at h314
              try dsimp only at h314
              refine lv_iconst (pc := 389) (v := 0) X.1 X.2.1 dL_hangs_389 (by decide) ?_
              exact hk222 0 _ _ ls317 h314 G315 (lv_sub hl316 [0, 1, 2, 3, 4, 5, 6, 7] rfl)
            refine lv_if_lt (pc := 247) (tgt := 389) X.1 X.2.1 dL_hangs_247 (by decide) (fun hc226 => ?_) (fun hc226 => ?_)
            · have h227 := it_pos h225 hc226
              exact hk224  _ _ ls220 h227 G219 (lv_sub hl221 [2, 3, 4, 6, 7, 8, 1, 0] rfl)
            · have h228 := it_neg h225 hc226
              refine lv_iload (pc := 250) X.1 X.2.1 dL_hangs_250 (lv_at hl221 1 rfl) ?_
              refine lv_iconst (pc := 252) (v := 4) X.1 X.2.1 dL_hangs_252 (by decide) ?_
              refine lv_icmp_ge (pc := 253) (tgt := 389) X.1 X.2.1 dL_hangs_253 (by decide) (fun hc229 => ?_) (fun hc229 => ?_)
              · have h230 := it_pos h228 hc229
                exact hk224  _ _ ls220 h230 G219 (lv_sub hl221 [2, 3, 4, 6, 7, 8, 1, 0] rfl)
              · have h231 := it_neg h228 hc229
                refine lv_aload_n (pc := 256) X.1 X.2.1 dL_hangs_256 rfl (lv_at hl221 2 rfl) ?_
                refine lv_iload (pc := 257) X.1 X.2.1 dL_hangs_257 (lv_at hl221 8 rfl) ?_
                refine lv_iconst (pc := 259) (v := 0) X.1 X.2.1 dL_hangs_259 (by decide) ?_
                obtain ⟨x233, e232, h234⟩ := bn_some h231
                refine w_callH (pc := 260) (v := x233) (B' := (B1 D κ A o P)) (As := [.ref o, .int x197, .int 0]) (rest := []) X G219 (rm := rmLn_trace) rfl rfl (bn_trace l D κ A o P P x197 0 x233 (qh_trace (hE 2 x197 0 x233 e232))) gL_110 hsL_trace ⟨Nat.le_of_ble_eq_true rfl, Nat.le_of_ble_eq_true rfl⟩ rfl hl221 rfl (lv_room (Nat.le_of_ble_eq_true rfl)) dL_hangs_260 ⟨Nat.le_of_ble_eq_true rfl, Nat.le_of_ble_eq_true rfl⟩ (fun H locs G235 => ?_)
                refine lv_if_lt (pc := 263) (tgt := 389) X.1 X.2.1 dL_hangs_263 (by decide) (fun hc236 => ?_) (fun hc236 => ?_)
                · have h237 := it_pos h234 hc236
                  exact hk224  _ _ ls220 h237 G235 (lv_sub hl221 [2, 3, 4, 6, 7, 8, 1, 0] rfl)
                · have h238 := it_neg h234 hc236
                  refine lv_aload_n (pc := 266) X.1 X.2.1 dL_hangs_266 rfl (lv_at hl221 2 rfl) ?_
                  refine lv_iload (pc := 267) X.1 X.2.1 dL_hangs_267 (lv_at hl221 8 rfl) ?_
                  refine lv_iconst (pc := 269) (v := 0) X.1 X.2.1 dL_hangs_269 (by decide) ?_
                  obtain ⟨x240, e239, h241⟩ := bn_some h238
                  refine w_callH (pc := 270) (v := x240) (B' := (B1 D κ A o P)) (As := [.ref o, .int x197, .int 0]) (rest := []) X G235 (rm := rmLn_trace) rfl rfl (bn_trace l D κ A o P P x197 0 x240 (qh_trace (hE 2 x197 0 x240 e239))) gL_110 hsL_trace ⟨Nat.le_of_ble_eq_true rfl, Nat.le_of_ble_eq_true rfl⟩ rfl hl221 rfl (lv_room (Nat.le_of_ble_eq_true rfl)) dL_hangs_270 ⟨Nat.le_of_ble_eq_true rfl, Nat.le_of_ble_eq_true rfl⟩ (fun H locs G242 => ?_)
                  refine lv_bipush (pc := 273) (v := 26) X.1 X.2.1 dL_hangs_273 (by decide) ?_
                  refine lv_icmp_ge (pc := 275) (tgt := 389) X.1 X.2.1 dL_hangs_275 (by decide) (fun hc243 => ?_) (fun hc243 => ?_)
                  · have h244 := it_pos h241 hc243
                    exact hk224  _ _ ls220 h244 G242 (lv_sub hl221 [2, 3, 4, 6, 7, 8, 1, 0] rfl)
                  · have h245 := it_neg h241 hc243
                    refine lv_iload (pc := 278) X.1 X.2.1 dL_hangs_278 (lv_at hl221 0 rfl) ?_
                    refine lv_if_lt (pc := 280) (tgt := 389) X.1 X.2.1 dL_hangs_280 (by decide) (fun hc246 => ?_) (fun hc246 => ?_)
                    · have h247 := it_pos h245 hc246
                      exact hk224  _ _ ls220 h247 G242 (lv_sub hl221 [2, 3, 4, 6, 7, 8, 1, 0] rfl)
                    · have h248 := it_neg h245 hc246
                      refine lv_iload (pc := 283) X.1 X.2.1 dL_hangs_283 (lv_at hl221 0 rfl) ?_
                      refine lv_bipush (pc := 285) (v := 12) X.1 X.2.1 dL_hangs_285 (by decide) ?_
                      refine lv_icmp_gt (pc := 287) (tgt := 389) X.1 X.2.1 dL_hangs_287 (by decide) (fun hc249 => ?_) (fun hc249 => ?_)
                      · have h250 := it_pos h248 hc249
                        exact hk224  _ _ ls220 h250 G242 (lv_sub hl221 [2, 3, 4, 6, 7, 8, 1, 0] rfl)
                      · have h251 := it_neg h248 hc249
                        refine lv_aload_n (pc := 290) X.1 X.2.1 dL_hangs_290 rfl (lv_at hl221 2 rfl) ?_
                        refine lv_iload (pc := 291) X.1 X.2.1 dL_hangs_291 (lv_at hl221 8 rfl) ?_
                        refine lv_iconst (pc := 293) (v := 3) X.1 X.2.1 dL_hangs_293 (by decide) ?_
                        obtain ⟨x253, e252, h254⟩ := bn_some h251
                        refine w_callH (pc := 294) (v := x253) (B' := (B1 D κ A o P)) (As := [.ref o, .int x197, .int 3]) (rest := []) X G242 (rm := rmLn_trace) rfl rfl (bn_trace l D κ A o P P x197 3 x253 (qh_trace (hE 2 x197 3 x253 e252))) gL_110 hsL_trace ⟨Nat.le_of_ble_eq_true rfl, Nat.le_of_ble_eq_true rfl⟩ rfl hl221 rfl (lv_room (Nat.le_of_ble_eq_true rfl)) dL_hangs_294 ⟨Nat.le_of_ble_eq_true rfl, Nat.le_of_ble_eq_true rfl⟩ (fun H locs G255 => ?_)
                        refine lv_if_lt (pc := 297) (tgt := 389) X.1 X.2.1 dL_hangs_297 (by decide) (fun hc256 => ?_) (fun hc256 => ?_)
                        · have h257 := it_pos h254 hc256
                          exact hk224  _ _ ls220 h257 G255 (lv_sub hl221 [2, 3, 4, 6, 7, 8, 1, 0] rfl)
                        · have h258 := it_neg h254 hc256
                          refine lv_aload_n (pc := 300) X.1 X.2.1 dL_hangs_300 rfl (lv_at hl221 2 rfl) ?_
                          refine lv_iload (pc := 301) X.1 X.2.1 dL_hangs_301 (lv_at hl221 8 rfl) ?_
                          refine lv_iconst (pc := 303) (v := 3) X.1 X.2.1 dL_hangs_303 (by decide) ?_
                          obtain ⟨x260, e259, h261⟩ := bn_some h258
                          refine w_callH (pc := 304) (v := x260) (B' := (B1 D κ A o P)) (As := [.ref o, .int x197, .int 3]) (rest := []) X G255 (rm := rmLn_trace) rfl rfl (bn_trace l D κ A o P P x197 3 x260 (qh_trace (hE 2 x197 3 x260 e259))) gL_110 hsL_trace ⟨Nat.le_of_ble_eq_true rfl, Nat.le_of_ble_eq_true rfl⟩ rfl hl221 rfl (lv_room (Nat.le_of_ble_eq_true rfl)) dL_hangs_304 ⟨Nat.le_of_ble_eq_true rfl, Nat.le_of_ble_eq_true rfl⟩ (fun H locs G262 => ?_)
                          refine lv_bipush (pc := 307) (v := 6) X.1 X.2.1 dL_hangs_307 (by decide) ?_
                          refine lv_icmp_gt (pc := 309) (tgt := 389) X.1 X.2.1 dL_hangs_309 (by decide) (fun hc263 => ?_) (fun hc263 => ?_)
                          · have h264 := it_pos h261 hc263
                            exact hk224  _ _ ls220 h264 G262 (lv_sub hl221 [2, 3, 4, 6, 7, 8, 1, 0] rfl)
                          · have h265 := it_neg h261 hc263
                            refine lv_iload (pc := 312) X.1 X.2.1 dL_hangs_312 (lv_at hl221 1 rfl) ?_
                            obtain ⟨k266, ek266, h267⟩ := jp_some h265
                            have hk266 : ∀  (H : Heap) (locs : List Loc) (ls : Array Slot), k266 () = some y2 → Wo D κ A (B1 D κ A o P) s H locs → lv_has ls 15 [(0, .ref o), (2, .int x8), (3, .int x14), (7, .int x195), (8, .int x196), (9, .int x197), (10, .int x211), (11, .int x217)] → W p l e rmL_hangs s m [.ref o].toArray below meth c H locs 0 0 (MQ below (QW A (B1 D κ A o P) res) [.ref o].toArray s 0 0 A) (F0 m 341 ls []) := by
                              intro  H locs ls288 h285 G286 hl287
                              rw [ek266] at h285
                              try dsimp only at h285
                              refine lv_aload_n (pc := 341) X.1 X.2.1 dL_hangs_341 rfl (lv_at hl287 0 rfl) ?_
                              refine lv_iload (pc := 342) X.1 X.2.1 dL_hangs_342 (lv_at hl287 5 rfl) ?_
                              refine lv_iconst (pc := 344) (v := 4) X.1 X.2.1 dL_hangs_344 (by decide) ?_
                              obtain ⟨x290, e289, h291⟩ := bn_some h285
                              refine w_callH (pc := 345) (v := x290) (B' := (B1 D κ A o P)) (As := [.ref o, .int x197, .int 4]) (rest := []) X G286 (rm := rmLn_trace) rfl rfl (bn_trace l D κ A o P P x197 4 x290 (qh_trace (hE 2 x197 4 x290 e289))) gL_110 hsL_trace ⟨Nat.le_of_ble_eq_true rfl, Nat.le_of_ble_eq_true rfl⟩ rfl hl287 rfl (lv_room (Nat.le_of_ble_eq_true rfl)) dL_hangs_345 ⟨Nat.le_of_ble_eq_true rfl, Nat.le_of_ble_eq_true rfl⟩ (fun H locs G292 => ?_)
                              refine lv_sipush (pc := 348) (v := 200) X.1 X.2.1 dL_hangs_348 (by decide) ?_
                              refine lv_icmp_gt (pc := 351) (tgt := 389) X.1 X.2.1 dL_hangs_351 (by decide) (fun hc293 => ?_) (fun hc293 => ?_)
                              · have h294 := it_pos h291 hc293
                                exact hk224  _ _ ls288 h294 G292 (lv_sub hl287 [0, 1, 2, 3, 4, 5, 6, 7] rfl)
                              · have h295 := it_neg h291 hc293
                                refine lv_aload_n (pc := 354) X.1 X.2.1 dL_hangs_354 rfl (lv_at hl287 0 rfl) ?_
                                refine lv_iload (pc := 355) X.1 X.2.1 dL_hangs_355 (lv_at hl287 5 rfl) ?_
                                refine lv_iconst (pc := 357) (v := 5) X.1 X.2.1 dL_hangs_357 (by decide) ?_
                                obtain ⟨x297, e296, h298⟩ := bn_some h295
                                refine w_callH (pc := 358) (v := x297) (B' := (B1 D κ A o P)) (As := [.ref o, .int x197, .int 5]) (rest := []) X G292 (rm := rmLn_trace) rfl rfl (bn_trace l D κ A o P P x197 5 x297 (qh_trace (hE 2 x197 5 x297 e296))) gL_110 hsL_trace ⟨Nat.le_of_ble_eq_true rfl, Nat.le_of_ble_eq_true rfl⟩ rfl hl287 rfl (lv_room (Nat.le_of_ble_eq_true rfl)) dL_hangs_358 ⟨Nat.le_of_ble_eq_true rfl, Nat.le_of_ble_eq_true rfl⟩ (fun H locs G299 => ?_)
                                refine lv_if_lt (pc := 361) (tgt := 389) X.1 X.2.1 dL_hangs_361 (by decide) (fun hc300 => ?_) (fun hc300 => ?_)
                                · have h301 := it_pos h298 hc300
                                  exact hk224  _ _ ls288 h301 G299 (lv_sub hl287 [0, 1, 2, 3, 4, 5, 6, 7] rfl)
                                · have h302 := it_neg h298 hc300
                                  refine lv_aload_n (pc := 364) X.1 X.2.1 dL_hangs_364 rfl (lv_at hl287 0 rfl) ?_
                                  refine lv_iload (pc := 365) X.1 X.2.1 dL_hangs_365 (lv_at hl287 5 rfl) ?_
                                  refine lv_iconst (pc := 367) (v := 5) X.1 X.2.1 dL_hangs_367 (by decide) ?_
                                  obtain ⟨x304, e303, h305⟩ := bn_some h302
                                  refine w_callH (pc := 368) (v := x304) (B' := (B1 D κ A o P)) (As := [.ref o, .int x197, .int 5]) (rest := []) X G299 (rm := rmLn_trace) rfl rfl (bn_trace l D κ A o P P x197 5 x304 (qh_trace (hE 2 x197 5 x304 e303))) gL_110 hsL_trace ⟨Nat.le_of_ble_eq_true rfl, Nat.le_of_ble_eq_true rfl⟩ rfl hl287 rfl (lv_room (Nat.le_of_ble_eq_true rfl)) dL_hangs_368 ⟨Nat.le_of_ble_eq_true rfl, Nat.le_of_ble_eq_true rfl⟩ (fun H locs G306 => ?_)
                                  refine lv_sipush (pc := 371) (v := 200) X.1 X.2.1 dL_hangs_371 (by decide) ?_
                                  refine lv_aload_n (pc := 374) X.1 X.2.1 dL_hangs_374 rfl (lv_at hl287 0 rfl) ?_
                                  refine lv_iload (pc := 375) X.1 X.2.1 dL_hangs_375 (lv_at hl287 5 rfl) ?_
                                  refine lv_iconst (pc := 377) (v := 3) X.1 X.2.1 dL_hangs_377 (by decide) ?_
                                  obtain ⟨x308, e307, h309⟩ := bn_some h305
                                  refine w_callH (pc := 378) (v := x308) (B' := (B1 D κ A o P)) (As := [.ref o, .int x197, .int 3]) (rest := [.int 200, .int x304]) X G306 (rm := rmLn_trace) rfl rfl (bn_trace l D κ A o P P x197 3 x308 (qh_trace (hE 2 x197 3 x308 e307))) gL_110 hsL_trace ⟨Nat.le_of_ble_eq_true rfl, Nat.le_of_ble_eq_true rfl⟩ rfl hl287 rfl (lv_room (Nat.le_of_ble_eq_true rfl)) dL_hangs_378 ⟨Nat.le_of_ble_eq_true rfl, Nat.le_of_ble_eq_true rfl⟩ (fun H locs G310 => ?_)
                                  refine lv_imul (pc := 381) X.1 X.2.1 dL_hangs_381 ?_
                                  refine lv_icmp_gt (pc := 382) (tgt := 389) X.1 X.2.1 dL_hangs_382 (by decide) (fun hc311 => ?_) (fun hc311 => ?_)
                                  · have h312 := it_pos h309 hc311
                                    exact hk224  _ _ ls288 h312 G310 (lv_sub hl287 [0, 1, 2, 3, 4, 5, 6, 7] rfl)
                                  · have h313 := it_neg h309 hc311
                                    refine lv_iconst (pc := 385) (v := 1) X.1 X.2.1 dL_hangs_385 (by decide) ?_
                                    refine lv_goto (pc := 386) (tgt := 390) X.1 X.2.1 dL_hangs_386 (by decide) ?_
                                    exact hk222 1 _ _ ls288 h313 G310 (lv_sub hl287 [0, 1, 2, 3, 4, 5, 6, 7] rfl)
                            refine lv_if_ne (pc := 314) (tgt := 330) X.1 X.2.1 dL_hangs_314 (by decide) (fun hc268 => ?_) (fun hc268 => ?_)
                            · have h269 := it_pos h267 hc268
                              refine lv_aload_n (pc := 330) X.1 X.2.1 dL_hangs_330 rfl (lv_at hl221 2 rfl) ?_
                              refine lv_iload (pc := 331) X.1 X.2.1 dL_hangs_331 (lv_at hl221 8 rfl) ?_
                              refine lv_iconst (pc := 333) (v := 4) X.1 X.2.1 dL_hangs_333 (by decide) ?_
                              obtain ⟨x272, e271, h273⟩ := bn_some h269
                              refine w_callH (pc := 334) (v := x272) (B' := (B1 D κ A o P)) (As := [.ref o, .int x197, .int 4]) (rest := []) X G262 (rm := rmLn_trace) rfl rfl (bn_trace l D κ A o P P x197 4 x272 (qh_trace (hE 2 x197 4 x272 e271))) gL_110 hsL_trace ⟨Nat.le_of_ble_eq_true rfl, Nat.le_of_ble_eq_true rfl⟩ rfl hl221 rfl (lv_room (Nat.le_of_ble_eq_true rfl)) dL_hangs_334 ⟨Nat.le_of_ble_eq_true rfl, Nat.le_of_ble_eq_true rfl⟩ (fun H locs G274 => ?_)
                              refine lv_iconst (pc := 337) (v := 1) X.1 X.2.1 dL_hangs_337 (by decide) ?_
                              refine lv_icmp_ne (pc := 338) (tgt := 389) X.1 X.2.1 dL_hangs_338 (by decide) (fun hc275 => ?_) (fun hc275 => ?_)
                              · have h276 := it_pos h273 hc275
                                exact hk224  _ _ ls220 h276 G274 (lv_sub hl221 [2, 3, 4, 6, 7, 8, 1, 0] rfl)
                              · have h277 := it_neg h273 (fun q => q hc275)
                                exact hk266  _ _ ls220 h277 G274 (lv_sub hl221 [2, 3, 4, 6, 7, 8, 1, 0] rfl)
                            · have h270 := it_neg h267 (fun q => q hc268)
                              refine lv_aload_n (pc := 317) X.1 X.2.1 dL_hangs_317 rfl (lv_at hl221 2 rfl) ?_
                              refine lv_iload (pc := 318) X.1 X.2.1 dL_hangs_318 (lv_at hl221 8 rfl) ?_
                              refine lv_iconst (pc := 320) (v := 4) X.1 X.2.1 dL_hangs_320 (by decide) ?_
                              obtain ⟨x279, e278, h280⟩ := bn_some h270
                              refine w_callH (pc := 321) (v := x279) (B' := (B1 D κ A o P)) (As := [.ref o, .int x197, .int 4]) (rest := []) X G262 (rm := rmLn_trace) rfl rfl (bn_trace l D κ A o P P x197 4 x279 (qh_trace (hE 2 x197 4 x279 e278))) gL_110 hsL_trace ⟨Nat.le_of_ble_eq_true rfl, Nat.le_of_ble_eq_true rfl⟩ rfl hl221 rfl (lv_room (Nat.le_of_ble_eq_true rfl)) dL_hangs_321 ⟨Nat.le_of_ble_eq_true rfl, Nat.le_of_ble_eq_true rfl⟩ (fun H locs G281 => ?_)
                              refine lv_if_lt (pc := 324) (tgt := 389) X.1 X.2.1 dL_hangs_324 (by decide) (fun hc282 => ?_) (fun hc282 => ?_)
                              · have h283 := it_pos h280 hc282
                                exact hk224  _ _ ls220 h283 G281 (lv_sub hl221 [2, 3, 4, 6, 7, 8, 1, 0] rfl)
                              · have h284 := it_neg h280 hc282
                                refine lv_goto (pc := 327) (tgt := 341) X.1 X.2.1 dL_hangs_327 (by decide) ?_
                                exact hk266  _ _ ls220 h284 G281 (lv_sub hl221 [2, 3, 4, 6, 7, 8, 1, 0] rfl)
      obtain ⟨k153, ek153, h154⟩ := jp_some h152
      have hk153 : ∀  (H : Heap) (locs : List Loc) (ls : Array Slot), k153 () = some y1 → Wo D κ A (B1 D κ A o P) s H locs → lv_has ls 15 [(0, .ref o), (2, .int x8), (3, .int x14)] → W p l e rmL_hangs s m [.ref o].toArray below meth c H locs 0 0 (MQ below (QW A (B1 D κ A o P) res) [.ref o].toArray s 0 0 A) (F0 m 204 ls []) := by
        intro  H locs ls180 h177 G178 hl179
        rw [ek153] at h177
        try dsimp only at h177
        refine lv_iconst (pc := 204) (v := 0) X.1 X.2.1 dL_hangs_204 (by decide) ?_
        exact hk151 0 _ _ ls180 h177 G178 (lv_sub hl179 [0, 1, 2] rfl)
      refine lv_if_eq (pc := 166) (tgt := 204) X.1 X.2.1 dL_hangs_166 (by decide) (fun hc155 => ?_) (fun hc155 => ?_)
      · have h156 := it_pos h154 hc155
        exact hk153  _ _ ls150 h156 G148 (lv_sub hl149 [0, 1, 2] rfl)
      · have h157 := it_neg h154 hc155
        refine lv_iload (pc := 169) X.1 X.2.1 dL_hangs_169 (lv_at hl149 4 rfl) ?_
        refine lv_aload_n (pc := 171) X.1 X.2.1 dL_hangs_171 rfl (lv_at hl149 0 rfl) ?_
        refine lv_iconst (pc := 172) (v := 1) X.1 X.2.1 dL_hangs_172 (by decide) ?_
        obtain ⟨x159, e158, h160⟩ := bn_some h157
        refine w_callH (pc := 173) (v := x159) (B' := (B1 D κ A o P)) (As := [.ref o, .int 1]) (rest := [.int x87]) X G148 (rm := rmLn_result) rfl rfl (bn_result l D κ A o P P 1 x159 (qh_result (hE 0 1 0 x159 e158))) gL_106 hsL_result ⟨Nat.le_of_ble_eq_true rfl, Nat.le_of_ble_eq_true rfl⟩ rfl hl149 rfl (lv_room (Nat.le_of_ble_eq_true rfl)) dL_hangs_173 ⟨Nat.le_of_ble_eq_true rfl, Nat.le_of_ble_eq_true rfl⟩ (fun H locs G161 => ?_)
        refine lv_iadd (pc := 176) X.1 X.2.1 dL_hangs_176 ?_
        refine lv_aload_n (pc := 177) X.1 X.2.1 dL_hangs_177 rfl (lv_at hl149 0 rfl) ?_
        refine lv_iconst (pc := 178) (v := 2) X.1 X.2.1 dL_hangs_178 (by decide) ?_
        obtain ⟨x163, e162, h164⟩ := bn_some h160
        refine w_callH (pc := 179) (v := x163) (B' := (B1 D κ A o P)) (As := [.ref o, .int 2]) (rest := [.int (x87 + x159)]) X G161 (rm := rmLn_result) rfl rfl (bn_result l D κ A o P P 2 x163 (qh_result (hE 0 2 0 x163 e162))) gL_106 hsL_result ⟨Nat.le_of_ble_eq_true rfl, Nat.le_of_ble_eq_true rfl⟩ rfl hl149 rfl (lv_room (Nat.le_of_ble_eq_true rfl)) dL_hangs_179 ⟨Nat.le_of_ble_eq_true rfl, Nat.le_of_ble_eq_true rfl⟩ (fun H locs G165 => ?_)
        refine lv_iadd (pc := 182) X.1 X.2.1 dL_hangs_182 ?_
        refine lv_aload_n (pc := 183) X.1 X.2.1 dL_hangs_183 rfl (lv_at hl149 0 rfl) ?_
        refine lv_iconst (pc := 184) (v := 3) X.1 X.2.1 dL_hangs_184 (by decide) ?_
        obtain ⟨x167, e166, h168⟩ := bn_some h164
        refine w_callH (pc := 185) (v := x167) (B' := (B1 D κ A o P)) (As := [.ref o, .int 3]) (rest := [.int ((x87 + x159) + x163)]) X G165 (rm := rmLn_result) rfl rfl (bn_result l D κ A o P P 3 x167 (qh_result (hE 0 3 0 x167 e166))) gL_106 hsL_result ⟨Nat.le_of_ble_eq_true rfl, Nat.le_of_ble_eq_true rfl⟩ rfl hl149 rfl (lv_room (Nat.le_of_ble_eq_true rfl)) dL_hangs_185 ⟨Nat.le_of_ble_eq_true rfl, Nat.le_of_ble_eq_true rfl⟩ (fun H locs G169 => ?_)
        refine lv_iadd (pc := 188) X.1 X.2.1 dL_hangs_188 ?_
        refine lv_aload_n (pc := 189) X.1 X.2.1 dL_hangs_189 rfl (lv_at hl149 0 rfl) ?_
        refine lv_iconst (pc := 190) (v := 4) X.1 X.2.1 dL_hangs_190 (by decide) ?_
        obtain ⟨x171, e170, h172⟩ := bn_some h168
        refine w_callH (pc := 191) (v := x171) (B' := (B1 D κ A o P)) (As := [.ref o, .int 4]) (rest := [.int (((x87 + x159) + x163) + x167)]) X G169 (rm := rmLn_result) rfl rfl (bn_result l D κ A o P P 4 x171 (qh_result (hE 0 4 0 x171 e170))) gL_106 hsL_result ⟨Nat.le_of_ble_eq_true rfl, Nat.le_of_ble_eq_true rfl⟩ rfl hl149 rfl (lv_room (Nat.le_of_ble_eq_true rfl)) dL_hangs_191 ⟨Nat.le_of_ble_eq_true rfl, Nat.le_of_ble_eq_true rfl⟩ (fun H locs G173 => ?_)
        refine lv_iadd (pc := 194) X.1 X.2.1 dL_hangs_194 ?_
        refine lv_iload (pc := 195) X.1 X.2.1 dL_hangs_195 (lv_at hl149 3 rfl) ?_
        refine lv_icmp_ne (pc := 197) (tgt := 204) X.1 X.2.1 dL_hangs_197 (by decide) (fun hc174 => ?_) (fun hc174 => ?_)
        · have h175 := it_pos h172 hc174
          exact hk153  _ _ ls150 h175 G173 (lv_sub hl149 [0, 1, 2] rfl)
        · have h176 := it_neg h172 (fun q => q hc174)
          refine lv_iconst (pc := 200) (v := 1) X.1 X.2.1 dL_hangs_200 (by decide) ?_
          refine lv_goto (pc := 201) (tgt := 205) X.1 X.2.1 dL_hangs_201 (by decide) ?_
          exact hk151 1 _ _ ls150 h176 G173 (lv_sub hl149 [0, 1, 2] rfl)
    refine lv_icmp_ge (pc := 108) (tgt := 164) X.1 X.2.1 dL_hangs_108 (by decide) (fun hc95 => ?_) (fun hc95 => ?_)
    · have h96 := it_pos h94 hc95
      exact hk93  _ _ ls92 h96 G90 (lv_sub hl91 [0, 2, 3, 4, 5, 6] rfl)
    · have h97 := it_neg h94 hc95
      refine lv_iload (pc := 111) X.1 X.2.1 dL_hangs_111 (lv_at hl91 6 rfl) ?_
      refine lv_if_eq (pc := 113) (tgt := 164) X.1 X.2.1 dL_hangs_113 (by decide) (fun hc98 => ?_) (fun hc98 => ?_)
      · have h99 := it_pos h97 hc98
        exact hk93  _ _ ls92 h99 G90 (lv_sub hl91 [0, 2, 3, 4, 5, 6] rfl)
      · have h100 := it_neg h97 hc98
        refine lv_aload_n (pc := 116) X.1 X.2.1 dL_hangs_116 rfl (lv_at hl91 0 rfl) ?_
        refine lv_iload (pc := 117) X.1 X.2.1 dL_hangs_117 (lv_at hl91 7 rfl) ?_
        obtain ⟨x102, e101, h103⟩ := bn_some h100
        refine w_callH (pc := 119) (v := x102) (B' := (B1 D κ A o P)) (As := [.ref o, .int x88]) (rest := []) X G90 (rm := rmLn_sign) rfl rfl (bn_sign l D κ A o P P x88 x102 (qh_sign (hE 1 x88 0 x102 e101))) gL_108 hsL_sign ⟨Nat.le_of_ble_eq_true rfl, Nat.le_of_ble_eq_true rfl⟩ rfl hl91 rfl (lv_room (Nat.le_of_ble_eq_true rfl)) dL_hangs_119 ⟨Nat.le_of_ble_eq_true rfl, Nat.le_of_ble_eq_true rfl⟩ (fun H locs G104 => ?_)
        refine lv_istore (pc := 122) (lv' := [(8, .int x102), (0, .ref o), (1, .int x2), (2, .int x8), (3, .int x14), (4, .int x86), (5, .int x87), (6, .int x77), (7, .int x88)]) X.1 X.2.1 dL_hangs_122 hl91 (by decide) rfl (fun ls105 hl106 => ?_)
        refine lv_iload (pc := 124) X.1 X.2.1 dL_hangs_124 (lv_at hl106 6 rfl) ?_
        refine lv_iload (pc := 126) X.1 X.2.1 dL_hangs_126 (lv_at hl106 0 rfl) ?_
        refine lv_bipush (pc := 128) (v := 97) X.1 X.2.1 dL_hangs_128 (by decide) ?_
        obtain ⟨k107, ek107, h108⟩ := jp_some h103
        have hk107 : ∀ (x130 : Int32) (H : Heap) (locs : List Loc) (ls : Array Slot), k107 x130 = some y1 → Wo D κ A (B1 D κ A o P) s H locs → lv_has ls 15 [(0, .ref o), (1, .int x2), (2, .int x8), (3, .int x14), (4, .int x86), (6, .int x77), (7, .int x88)] → W p l e rmL_hangs s m [.ref o].toArray below meth c H locs 0 0 (MQ below (QW A (B1 D κ A o P) res) [.ref o].toArray s 0 0 A) (F0 m 152 ls [.int x130, .int x87]) := by
          intro x130 H locs ls134 h131 G132 hl133
          rw [ek107] at h131
          try dsimp only at h131
          refine lv_iadd (pc := 152) X.1 X.2.1 dL_hangs_152 ?_
          refine lv_topi (fun x135 ex135 => ?_)
          have h136 := bd_at h131 ex135
          refine lv_istore (pc := 153) (lv' := [(5, .int x135), (0, .ref o), (1, .int x2), (2, .int x8), (3, .int x14), (4, .int x86), (6, .int x77), (7, .int x88)]) X.1 X.2.1 dL_hangs_153 hl133 (by decide) rfl (fun ls137 hl138 => ?_)
          obtain ⟨x139, ex139, h142⟩ := bd_some h136
          refine lv_iinc (pc := 155) (v := x139) (lv' := [(4, .int x139), (5, .int x135), (0, .ref o), (1, .int x2), (2, .int x8), (3, .int x14), (6, .int x77), (7, .int x88)]) X.1 X.2.1 dL_hangs_155 hl138 (k := 5) rfl (by rw [ex139]; rfl) (by decide) rfl (fun ls140 hl141 => ?_)
          obtain ⟨x143, ex143, h146⟩ := bd_some h142
          refine lv_iinc (pc := 158) (v := x143) (lv' := [(7, .int x143), (4, .int x139), (5, .int x135), (0, .ref o), (1, .int x2), (2, .int x8), (3, .int x14), (6, .int x77)]) X.1 X.2.1 dL_hangs_158 hl141 (k := 7) rfl (by rw [ex143]; rfl) (by decide) rfl (fun ls144 hl145 => ?_)
          refine lv_goto (pc := 161) (tgt := 105) X.1 X.2.1 dL_hangs_161 (by decide) ?_
          have h146_i := Option.some.inj h146
          exact ih1 _ h146_i.symm _ _ ls144 G132 (lv_sub hl145 [3, 4, 5, 6, 1, 2, 7, 0] rfl)
        obtain ⟨k109, ek109, h110⟩ := jp_some h108
        have hk109 : ∀  (H : Heap) (locs : List Loc) (ls : Array Slot), k109 () = some y1 → Wo D κ A (B1 D κ A o P) s H locs → lv_has ls 15 [(0, .ref o), (1, .int x2), (2, .int x8), (3, .int x14), (4, .int x86), (6, .int x77), (7, .int x88)] → W p l e rmL_hangs s m [.ref o].toArray below meth c H locs 0 0 (MQ below (QW A (B1 D κ A o P) res) [.ref o].toArray s 0 0 A) (F0 m 147 ls [.int x87]) := by
          intro  H locs ls129 h126 G127 hl128
          rw [ek109] at h126
          try dsimp only at h126
          refine lv_iconst (pc := 147) (v := 1) X.1 X.2.1 dL_hangs_147 (by decide) ?_
          refine lv_goto (pc := 148) (tgt := 152) X.1 X.2.1 dL_hangs_148 (by decide) ?_
          exact hk107 1 _ _ ls129 h126 G127 (lv_sub hl128 [0, 1, 2, 3, 4, 5, 6] rfl)
        obtain ⟨k111, ek111, h112⟩ := jp_some h110
        have hk111 : ∀  (H : Heap) (locs : List Loc) (ls : Array Slot), k111 () = some y1 → Wo D κ A (B1 D κ A o P) s H locs → lv_has ls 15 [(0, .ref o), (1, .int x2), (2, .int x8), (3, .int x14), (4, .int x86), (6, .int x77), (7, .int x88), (8, .int x102)] → W p l e rmL_hangs s m [.ref o].toArray below meth c H locs 0 0 (MQ below (QW A (B1 D κ A o P) res) [.ref o].toArray s 0 0 A) (F0 m 140 ls [.int x87]) := by
          intro  H locs ls122 h119 G120 hl121
          rw [ek111] at h119
          try dsimp only at h119
          refine lv_iload (pc := 140) X.1 X.2.1 dL_hangs_140 (lv_at hl121 7 rfl) ?_
          refine lv_bipush (pc := 142) (v := 95) X.1 X.2.1 dL_hangs_142 (by decide) ?_
          refine lv_icmp_ne (pc := 144) (tgt := 151) X.1 X.2.1 dL_hangs_144 (by decide) (fun hc123 => ?_) (fun hc123 => ?_)
          · have h124 := it_pos h119 hc123
            refine lv_iconst (pc := 151) (v := 0) X.1 X.2.1 dL_hangs_151 (by decide) ?_
            exact hk107 0 _ _ ls122 h124 G120 (lv_sub hl121 [0, 1, 2, 3, 4, 5, 6] rfl)
          · have h125 := it_neg h119 (fun q => q hc123)
            exact hk109  _ _ ls122 h125 G120 (lv_sub hl121 [0, 1, 2, 3, 4, 5, 6] rfl)
        refine lv_icmp_lt (pc := 130) (tgt := 140) X.1 X.2.1 dL_hangs_130 (by decide) (fun hc113 => ?_) (fun hc113 => ?_)
        · have h114 := it_pos h112 hc113
          exact hk111  _ _ ls105 h114 G104 (lv_sub hl106 [1, 2, 3, 4, 5, 7, 8, 0] rfl)
        · have h115 := it_neg h112 hc113
          refine lv_iload (pc := 133) X.1 X.2.1 dL_hangs_133 (lv_at hl106 0 rfl) ?_
          refine lv_bipush (pc := 135) (v := 122) X.1 X.2.1 dL_hangs_135 (by decide) ?_
          refine lv_icmp_le (pc := 137) (tgt := 147) X.1 X.2.1 dL_hangs_137 (by decide) (fun hc116 => ?_) (fun hc116 => ?_)
          · have h117 := it_pos h115 hc116
            exact hk109  _ _ ls105 h117 G104 (lv_sub hl106 [1, 2, 3, 4, 5, 7, 8] rfl)
          · have h118 := it_neg h115 hc116
            exact hk111  _ _ ls105 h118 G104 (lv_sub hl106 [1, 2, 3, 4, 5, 7, 8, 0] rfl)
  obtain ⟨k25, ek25, h26⟩ := jp_some h24
  have hk25 : ∀  (H : Heap) (locs : List Loc) (ls : Array Slot), k25 () = some res → Wo D κ A (B1 D κ A o P) s H locs → lv_has ls 15 [(0, .ref o), (1, .int x2), (2, .int x8), (3, .int x14), (4, .int 0), (5, .int 0)] → W p l e rmL_hangs s m [.ref o].toArray below meth c H locs 0 0 (MQ below (QW A (B1 D κ A o P) res) [.ref o].toArray s 0 0 A) (F0 m 99 ls []) := by
    intro  H locs ls76 h73 G74 hl75
    rw [ek25] at h73
    try dsimp only at h73
    refine lv_iconst (pc := 99) (v := 0) X.1 X.2.1 dL_hangs_99 (by decide) ?_
    exact hk23 0 _ _ ls76 h73 G74 (lv_sub hl75 [0, 1, 2, 3, 4, 5] rfl)
  refine lv_if_lt (pc := 26) (tgt := 99) X.1 X.2.1 dL_hangs_26 (by decide) (fun hc27 => ?_) (fun hc27 => ?_)
  · have h28 := it_pos h26 hc27
    exact hk25  _ _ ls21 h28 G16 (lv_sub hl22 [5, 4, 3, 2, 1, 0] rfl)
  · have h29 := it_neg h26 hc27
    refine lv_iload_n (pc := 29) X.1 X.2.1 dL_hangs_29 rfl (lv_at hl22 4 rfl) ?_
    refine lv_sipush (pc := 30) (v := 200) X.1 X.2.1 dL_hangs_30 (by decide) ?_
    refine lv_icmp_gt (pc := 33) (tgt := 99) X.1 X.2.1 dL_hangs_33 (by decide) (fun hc30 => ?_) (fun hc30 => ?_)
    · have h31 := it_pos h29 hc30
      exact hk25  _ _ ls21 h31 G16 (lv_sub hl22 [5, 4, 3, 2, 1, 0] rfl)
    · have h32 := it_neg h29 hc30
      refine lv_iload_n (pc := 36) X.1 X.2.1 dL_hangs_36 rfl (lv_at hl22 3 rfl) ?_
      refine lv_if_lt (pc := 37) (tgt := 99) X.1 X.2.1 dL_hangs_37 (by decide) (fun hc33 => ?_) (fun hc33 => ?_)
      · have h34 := it_pos h32 hc33
        exact hk25  _ _ ls21 h34 G16 (lv_sub hl22 [5, 4, 3, 2, 1, 0] rfl)
      · have h35 := it_neg h32 hc33
        refine lv_iload_n (pc := 40) X.1 X.2.1 dL_hangs_40 rfl (lv_at hl22 3 rfl) ?_
        refine lv_bipush (pc := 41) (v := 60) X.1 X.2.1 dL_hangs_41 (by decide) ?_
        refine lv_icmp_gt (pc := 43) (tgt := 99) X.1 X.2.1 dL_hangs_43 (by decide) (fun hc36 => ?_) (fun hc36 => ?_)
        · have h37 := it_pos h35 hc36
          exact hk25  _ _ ls21 h37 G16 (lv_sub hl22 [5, 4, 3, 2, 1, 0] rfl)
        · have h38 := it_neg h35 hc36
          refine lv_iload_n (pc := 46) X.1 X.2.1 dL_hangs_46 rfl (lv_at hl22 2 rfl) ?_
          refine lv_if_lt (pc := 47) (tgt := 99) X.1 X.2.1 dL_hangs_47 (by decide) (fun hc39 => ?_) (fun hc39 => ?_)
          · have h40 := it_pos h38 hc39
            exact hk25  _ _ ls21 h40 G16 (lv_sub hl22 [5, 4, 3, 2, 1, 0] rfl)
          · have h41 := it_neg h38 hc39
            refine lv_iload_n (pc := 50) X.1 X.2.1 dL_hangs_50 rfl (lv_at hl22 2 rfl) ?_
            refine lv_bipush (pc := 51) (v := 60) X.1 X.2.1 dL_hangs_51 (by decide) ?_
            refine lv_icmp_gt (pc := 53) (tgt := 99) X.1 X.2.1 dL_hangs_53 (by decide) (fun hc42 => ?_) (fun hc42 => ?_)
            · have h43 := it_pos h41 hc42
              exact hk25  _ _ ls21 h43 G16 (lv_sub hl22 [5, 4, 3, 2, 1, 0] rfl)
            · have h44 := it_neg h41 hc42
              refine lv_aload_n (pc := 56) X.1 X.2.1 dL_hangs_56 rfl (lv_at hl22 5 rfl) ?_
              refine lv_bipush (pc := 57) (v := 6) X.1 X.2.1 dL_hangs_57 (by decide) ?_
              obtain ⟨x46, e45, h47⟩ := bn_some h44
              refine w_callH (pc := 59) (v := x46) (B' := (B1 D κ A o P)) (As := [.ref o, .int 6]) (rest := []) X G16 (rm := rmLn_result) rfl rfl (bn_result l D κ A o P P 6 x46 (qh_result (hE 0 6 0 x46 e45))) gL_106 hsL_result ⟨Nat.le_of_ble_eq_true rfl, Nat.le_of_ble_eq_true rfl⟩ rfl hl22 rfl (lv_room (Nat.le_of_ble_eq_true rfl)) dL_hangs_59 ⟨Nat.le_of_ble_eq_true rfl, Nat.le_of_ble_eq_true rfl⟩ (fun H locs G48 => ?_)
              refine lv_if_lt (pc := 62) (tgt := 99) X.1 X.2.1 dL_hangs_62 (by decide) (fun hc49 => ?_) (fun hc49 => ?_)
              · have h50 := it_pos h47 hc49
                exact hk25  _ _ ls21 h50 G48 (lv_sub hl22 [5, 4, 3, 2, 1, 0] rfl)
              · have h51 := it_neg h47 hc49
                refine lv_aload_n (pc := 65) X.1 X.2.1 dL_hangs_65 rfl (lv_at hl22 5 rfl) ?_
                refine lv_bipush (pc := 66) (v := 6) X.1 X.2.1 dL_hangs_66 (by decide) ?_
                obtain ⟨x53, e52, h54⟩ := bn_some h51
                refine w_callH (pc := 68) (v := x53) (B' := (B1 D κ A o P)) (As := [.ref o, .int 6]) (rest := []) X G48 (rm := rmLn_result) rfl rfl (bn_result l D κ A o P P 6 x53 (qh_result (hE 0 6 0 x53 e52))) gL_106 hsL_result ⟨Nat.le_of_ble_eq_true rfl, Nat.le_of_ble_eq_true rfl⟩ rfl hl22 rfl (lv_room (Nat.le_of_ble_eq_true rfl)) dL_hangs_68 ⟨Nat.le_of_ble_eq_true rfl, Nat.le_of_ble_eq_true rfl⟩ (fun H locs G55 => ?_)
                refine lv_bipush (pc := 71) (v := 12) X.1 X.2.1 dL_hangs_71 (by decide) ?_
                refine lv_icmp_gt (pc := 73) (tgt := 99) X.1 X.2.1 dL_hangs_73 (by decide) (fun hc56 => ?_) (fun hc56 => ?_)
                · have h57 := it_pos h54 hc56
                  exact hk25  _ _ ls21 h57 G55 (lv_sub hl22 [5, 4, 3, 2, 1, 0] rfl)
                · have h58 := it_neg h54 hc56
                  refine lv_aload_n (pc := 76) X.1 X.2.1 dL_hangs_76 rfl (lv_at hl22 5 rfl) ?_
                  refine lv_iload_n (pc := 77) X.1 X.2.1 dL_hangs_77 rfl (lv_at hl22 4 rfl) ?_
                  obtain ⟨x60, e59, h61⟩ := bn_some h58
                  refine w_callH (pc := 78) (v := x60) (B' := (B1 D κ A o P)) (As := [.ref o, .int x2]) (rest := []) X G55 (rm := rmLn_sign) rfl rfl (bn_sign l D κ A o P P x2 x60 (qh_sign (hE 1 x2 0 x60 e59))) gL_108 hsL_sign ⟨Nat.le_of_ble_eq_true rfl, Nat.le_of_ble_eq_true rfl⟩ rfl hl22 rfl (lv_room (Nat.le_of_ble_eq_true rfl)) dL_hangs_78 ⟨Nat.le_of_ble_eq_true rfl, Nat.le_of_ble_eq_true rfl⟩ (fun H locs G62 => ?_)
                  refine lv_iconst (pc := 81) (v := (-1)) X.1 X.2.1 dL_hangs_81 (by decide) ?_
                  refine lv_icmp_ne (pc := 82) (tgt := 99) X.1 X.2.1 dL_hangs_82 (by decide) (fun hc63 => ?_) (fun hc63 => ?_)
                  · have h64 := it_pos h61 hc63
                    exact hk25  _ _ ls21 h64 G62 (lv_sub hl22 [5, 4, 3, 2, 1, 0] rfl)
                  · have h65 := it_neg h61 (fun q => q hc63)
                    refine lv_aload_n (pc := 85) X.1 X.2.1 dL_hangs_85 rfl (lv_at hl22 5 rfl) ?_
                    refine lv_iload_n (pc := 86) X.1 X.2.1 dL_hangs_86 rfl (lv_at hl22 3 rfl) ?_
                    refine lv_iconst (pc := 87) (v := 0) X.1 X.2.1 dL_hangs_87 (by decide) ?_
                    obtain ⟨x67, e66, h68⟩ := bn_some h65
                    refine w_callH (pc := 88) (v := x67) (B' := (B1 D κ A o P)) (As := [.ref o, .int x8, .int 0]) (rest := []) X G62 (rm := rmLn_trace) rfl rfl (bn_trace l D κ A o P P x8 0 x67 (qh_trace (hE 2 x8 0 x67 e66))) gL_110 hsL_trace ⟨Nat.le_of_ble_eq_true rfl, Nat.le_of_ble_eq_true rfl⟩ rfl hl22 rfl (lv_room (Nat.le_of_ble_eq_true rfl)) dL_hangs_88 ⟨Nat.le_of_ble_eq_true rfl, Nat.le_of_ble_eq_true rfl⟩ (fun H locs G69 => ?_)
                    refine lv_iconst (pc := 91) (v := (-1)) X.1 X.2.1 dL_hangs_91 (by decide) ?_
                    refine lv_icmp_ne (pc := 92) (tgt := 99) X.1 X.2.1 dL_hangs_92 (by decide) (fun hc70 => ?_) (fun hc70 => ?_)
                    · have h71 := it_pos h68 hc70
                      exact hk25  _ _ ls21 h71 G69 (lv_sub hl22 [5, 4, 3, 2, 1, 0] rfl)
                    · have h72 := it_neg h68 (fun q => q hc70)
                      refine lv_iconst (pc := 95) (v := 1) X.1 X.2.1 dL_hangs_95 (by decide) ?_
                      refine lv_goto (pc := 96) (tgt := 100) X.1 X.2.1 dL_hangs_96 (by decide) ?_
                      exact hk23 1 _ _ ls21 h72 G69 (lv_sub hl22 [5, 4, 3, 2, 1, 0] rfl)
