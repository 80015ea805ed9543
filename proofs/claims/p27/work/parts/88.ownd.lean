/-! THE LAW'S OWN METHODS, laid by wip/p27/walkl.py -/
abbrev rmL_refuses : Room := { frames := 55, cells := 92, slots := 657, locals := 1761 }
noncomputable def FL_refuses (E : Nat → Int32 → Int32 → Option Int32) (p1 : Int32) : Option (Int32) :=
  jp (fun (x6 : Int32) => bn (E 0 x6 0) fun x14 =>
  jp (fun (x196 : Int32) => jp (fun (x235 : Int32) => bz x235 (some x235)) fun k203 =>
  jp (fun (_ : Unit) => k203 0) fun k205 =>
  if x196 = 0 then
  k205 ()
  else
  bn (E 0 25 0) fun x211 =>
  if ¬ x211 = (-2) then
  k205 ()
  else
  bn (E 4 25 0) fun x218 =>
  if ¬ x218 = (-2) then
  k205 ()
  else
  bn (E 16 x6 0) fun x225 =>
  if ¬ x225 = (-3) then
  k205 ()
  else
  k203 1) fun k17 =>
  jp (fun (_ : Unit) => k17 0) fun k19 =>
  if ¬ x14 = (-3) then
  k19 ()
  else
  bn (E 1 x6 0) fun x25 =>
  if ¬ x25 = (-3) then
  k19 ()
  else
  bn (E 1 0 x6) fun x32 =>
  if ¬ x32 = (-3) then
  k19 ()
  else
  bn (E 2 0 0) fun x39 =>
  if ¬ x39 = (-2) then
  k19 ()
  else
  bn (E 2 ((13 : Int32) + p1) 0) fun x46 =>
  if ¬ x46 = (-2) then
  k19 ()
  else
  bn (E 3 ((32 : Int32) - p1) 0) fun x53 =>
  if ¬ x53 = (-2) then
  k19 ()
  else
  bn (E 3 ((127 : Int32) + p1) 0) fun x60 =>
  if ¬ x60 = (-2) then
  k19 ()
  else
  bn (E 4 x6 0) fun x67 =>
  if ¬ x67 = (-3) then
  k19 ()
  else
  bn (E 5 ((2 : Int32) + p1) 0) fun x74 =>
  if ¬ x74 = (-2) then
  k19 ()
  else
  bn (E 5 (((-1) : Int32) - p1) 0) fun x81 =>
  if ¬ x81 = (-2) then
  k19 ()
  else
  bn (E 6 ((2 : Int32) + p1) 0) fun x88 =>
  if ¬ x88 = (-2) then
  k19 ()
  else
  bn (E 7 x6 0) fun x95 =>
  if ¬ x95 = (-3) then
  k19 ()
  else
  bn (E 7 0 ((6 : Int32) + p1)) fun x102 =>
  if ¬ x102 = (-2) then
  k19 ()
  else
  bn (E 8 x6 0) fun x109 =>
  if ¬ x109 = (-3) then
  k19 ()
  else
  bn (E 8 0 (((-1) : Int32) - p1)) fun x116 =>
  if ¬ x116 = (-2) then
  k19 ()
  else
  bn (E 9 x6 0) fun x123 =>
  if ¬ x123 = (-3) then
  k19 ()
  else
  bn (E 10 x6 0) fun x130 =>
  if ¬ x130 = (-3) then
  k19 ()
  else
  bn (E 11 (((-1) : Int32) - p1) 0) fun x137 =>
  if ¬ x137 = (-2) then
  k19 ()
  else
  bn (E 12 ((8 : Int32) + p1) 0) fun x144 =>
  if ¬ x144 = (-2) then
  k19 ()
  else
  bn (E 13 (((-1) : Int32) - p1) 0) fun x151 =>
  if ¬ x151 = (-2) then
  k19 ()
  else
  bn (E 13 0 ((6 : Int32) + p1)) fun x158 =>
  if ¬ x158 = (-2) then
  k19 ()
  else
  bn (E 14 x6 0) fun x165 =>
  if ¬ x165 = (-3) then
  k19 ()
  else
  bn (E 14 0 ((21 : Int32) + p1)) fun x172 =>
  if ¬ x172 = (-2) then
  k19 ()
  else
  bn (E 15 ((8 : Int32) + p1) 0) fun x179 =>
  if ¬ x179 = (-2) then
  k19 ()
  else
  bn (E 15 (((-1) : Int32) - p1) 0) fun x186 =>
  if ¬ x186 = (-2) then
  k19 ()
  else
  k17 1) fun k1 =>
  if ¬ (p1 - p1 / 2 * 2) = 0 then
  k1 (((-1) : Int32) - p1)
  else
  k1 ((26 : Int32) + p1)
set_option maxHeartbeats 4000000 in
set_option maxRecDepth 100000 in
theorem mL_refuses (l : Launch) (hfl : l.stackTraces = false) (D : va_G) (κ : Nat → ClassId) (A : Nat → Prop) (o : Nat) (P : BS → Prop) (E : Nat → Int32 → Int32 → Option Int32) (hE : ∀ m x y v, E m x y = some v → RH P m x y v) (p1 : Int32) (res : Int32) (h : FL_refuses E p1 = some res) : Met l yL_refuses (gw yL_refuses cL_refuses 4 (some (FieldType.boolean))) rmL_refuses (va_Pc [.ref o, .int p1] (WB D κ A (B1 D κ A o P))) (QW A (B1 D κ A o P) res) 92 657 A := by
  refine met_ofG (own := RL) (by decide +kernel) rfl (Nat.le_of_ble_eq_true rfl) ?_
  intro p e s m below meth c ls X hr hlk G hl
  have G : Wo D κ A (B1 D κ A o P) s s.heap [] := G
  have hl : lv_has ls 4 [(0, .ref o), (1, .int p1)] := hl
  unfold FL_refuses at h
  refine lv_iload_n (pc := 0) X.1 X.2.1 dL_refuses_0 rfl (lv_at hl 1 rfl) ?_
  refine lv_iconst (pc := 1) (v := 2) X.1 X.2.1 dL_refuses_1 (by decide) ?_
  refine lv_irem (pc := 2) X.1 X.2.1 dL_refuses_2 (by decide) ?_
  obtain ⟨k1, ek1, h2⟩ := jp_some h
  have hk1 : ∀ (x6 : Int32) (H : Heap) (locs : List Loc) (ls : Array Slot), k1 x6 = some res → Wo D κ A (B1 D κ A o P) s H locs → lv_has ls 4 [(0, .ref o), (1, .int p1)] → W p l e rmL_refuses s m [.ref o, .int p1].toArray below meth c H locs 0 0 (MQ below (QW A (B1 D κ A o P) res) [.ref o, .int p1].toArray s 92 657 A) (F0 m 16 ls [.int x6]) := by
    intro x6 H locs ls10 h7 G8 hl9
    rw [ek1] at h7
    try dsimp only at h7
    refine lv_istore_n (pc := 16) (lv' := [(2, .int x6), (0, .ref o), (1, .int p1)]) X.1 X.2.1 dL_refuses_16 rfl hl9 (by decide) rfl (fun ls11 hl12 => ?_)
    refine lv_aload_n (pc := 17) X.1 X.2.1 dL_refuses_17 rfl (lv_at hl12 1 rfl) ?_
    refine lv_iload_n (pc := 18) X.1 X.2.1 dL_refuses_18 rfl (lv_at hl12 0 rfl) ?_
    obtain ⟨x14, e13, h15⟩ := bn_some h7
    refine w_callH (pc := 19) (v := x14) (B' := (B1 D κ A o P)) (As := [.ref o, .int x6]) (rest := []) X G8 (rm := rmL_remove) rfl rfl (bg_remove l hfl D κ A o P P x6 x14 (rh_remove (hE 0 x6 0 x14 e13))) gL_85 hsL_remove ⟨Nat.le_of_ble_eq_true rfl, Nat.le_of_ble_eq_true rfl⟩ rfl hl12 rfl (lv_room (Nat.le_of_ble_eq_true rfl)) dL_refuses_19 ⟨Nat.le_of_ble_eq_true rfl, Nat.le_of_ble_eq_true rfl⟩ (fun H locs G16 => ?_)
    refine lv_bipush (pc := 22) (v := (-3)) X.1 X.2.1 dL_refuses_22 (by decide) ?_
    obtain ⟨k17, ek17, h18⟩ := jp_some h15
    have hk17 : ∀ (x196 : Int32) (H : Heap) (locs : List Loc) (ls : Array Slot), k17 x196 = some res → Wo D κ A (B1 D κ A o P) s H locs → lv_has ls 4 [(0, .ref o), (2, .int x6)] → W p l e rmL_refuses s m [.ref o, .int p1].toArray below meth c H locs 74 484 (MQ below (QW A (B1 D κ A o P) res) [.ref o, .int p1].toArray s 92 657 A) (F0 m 320 ls [.int x196]) := by
      intro x196 H locs ls200 h197 G198 hl199
      rw [ek17] at h197
      try dsimp only at h197
      refine lv_istore_n (pc := 320) (lv' := [(3, .int x196), (0, .ref o), (2, .int x6)]) X.1 X.2.1 dL_refuses_320 rfl hl199 (by decide) rfl (fun ls201 hl202 => ?_)
      refine lv_iload_n (pc := 321) X.1 X.2.1 dL_refuses_321 rfl (lv_at hl202 0 rfl) ?_
      obtain ⟨k203, ek203, h204⟩ := jp_some h197
      have hk203 : ∀ (x235 : Int32) (H : Heap) (locs : List Loc) (ls : Array Slot), k203 x235 = some res → Wo D κ A (B1 D κ A o P) s H locs → lv_has ls 4 [] → W p l e rmL_refuses s m [.ref o, .int p1].toArray below meth c H locs 92 657 (MQ below (QW A (B1 D κ A o P) res) [.ref o, .int p1].toArray s 92 657 A) (F0 m 362 ls [.int x235]) := by
        intro x235 H locs ls239 h236 G237 hl238
        rw [ek203] at h236
        try dsimp only at h236
        obtain ⟨hb, h236_b⟩ := bz_some h236
        have h236_b_i := Option.some.inj h236_b
        exact w_zret (pc := 362) X G237 hr hlk dL_refuses_362 hb h236_b_i rfl (Nat.le_of_ble_eq_true rfl) (Nat.le_of_ble_eq_true rfl)
      obtain ⟨k205, ek205, h206⟩ := jp_some h204
      have hk205 : ∀  (H : Heap) (locs : List Loc) (ls : Array Slot), k205 () = some res → Wo D κ A (B1 D κ A o P) s H locs → lv_has ls 4 [] → W p l e rmL_refuses s m [.ref o, .int p1].toArray below meth c H locs 92 657 (MQ below (QW A (B1 D κ A o P) res) [.ref o, .int p1].toArray s 92 657 A) (F0 m 361 ls []) := by
        intro  H locs ls234 h231 G232 hl233
        rw [ek205] at h231
        try dsimp only at h231
        refine lv_iconst (pc := 361) (v := 0) X.1 X.2.1 dL_refuses_361 (by decide) ?_
        exact hk203 0 _ _ ls234 h231 G232 (lv_sub hl233 [] rfl)
      refine lv_if_eq (pc := 322) (tgt := 361) X.1 X.2.1 dL_refuses_322 (by decide) (fun hc207 => ?_) (fun hc207 => ?_)
      · have h208 := it_pos h206 hc207
        refine W.widen (k := 92) (n := 657) (Nat.le_of_ble_eq_true rfl) (Nat.le_of_ble_eq_true rfl) ?_
        exact hk205  _ _ ls201 h208 G198 (lv_sub hl202 [] rfl)
      · have h209 := it_neg h206 hc207
        refine lv_aload_n (pc := 325) X.1 X.2.1 dL_refuses_325 rfl (lv_at hl202 1 rfl) ?_
        refine lv_bipush (pc := 326) (v := 25) X.1 X.2.1 dL_refuses_326 (by decide) ?_
        obtain ⟨x211, e210, h212⟩ := bn_some h209
        refine w_callH (pc := 328) (v := x211) (B' := (B1 D κ A o P)) (As := [.ref o, .int 25]) (rest := []) X G198 (rm := rmL_remove) rfl rfl (bg_remove l hfl D κ A o P P 25 x211 (rh_remove (hE 0 25 0 x211 e210))) gL_85 hsL_remove ⟨Nat.le_of_ble_eq_true rfl, Nat.le_of_ble_eq_true rfl⟩ rfl hl202 rfl (lv_room (Nat.le_of_ble_eq_true rfl)) dL_refuses_328 ⟨Nat.le_of_ble_eq_true rfl, Nat.le_of_ble_eq_true rfl⟩ (fun H locs G213 => ?_)
        refine lv_bipush (pc := 331) (v := (-2)) X.1 X.2.1 dL_refuses_331 (by decide) ?_
        refine lv_icmp_ne (pc := 333) (tgt := 361) X.1 X.2.1 dL_refuses_333 (by decide) (fun hc214 => ?_) (fun hc214 => ?_)
        · have h215 := it_pos h212 hc214
          refine W.widen (k := 92) (n := 657) (Nat.le_of_ble_eq_true rfl) (Nat.le_of_ble_eq_true rfl) ?_
          exact hk205  _ _ ls201 h215 G213 (lv_sub hl202 [] rfl)
        · have h216 := it_neg h212 (fun q => q hc214)
          refine lv_aload_n (pc := 336) X.1 X.2.1 dL_refuses_336 rfl (lv_at hl202 1 rfl) ?_
          refine lv_bipush (pc := 337) (v := 25) X.1 X.2.1 dL_refuses_337 (by decide) ?_
          obtain ⟨x218, e217, h219⟩ := bn_some h216
          refine w_callH (pc := 339) (v := x218) (B' := (B1 D κ A o P)) (As := [.ref o, .int 25]) (rest := []) X G213 (rm := rmL_load) rfl rfl (bg_load l hfl D κ A o P P 25 x218 (rh_load (hE 4 25 0 x218 e217))) gL_132 hsL_load ⟨Nat.le_of_ble_eq_true rfl, Nat.le_of_ble_eq_true rfl⟩ rfl hl202 rfl (lv_room (Nat.le_of_ble_eq_true rfl)) dL_refuses_339 ⟨Nat.le_of_ble_eq_true rfl, Nat.le_of_ble_eq_true rfl⟩ (fun H locs G220 => ?_)
          refine lv_bipush (pc := 342) (v := (-2)) X.1 X.2.1 dL_refuses_342 (by decide) ?_
          refine lv_icmp_ne (pc := 344) (tgt := 361) X.1 X.2.1 dL_refuses_344 (by decide) (fun hc221 => ?_) (fun hc221 => ?_)
          · have h222 := it_pos h219 hc221
            refine W.widen (k := 92) (n := 657) (Nat.le_of_ble_eq_true rfl) (Nat.le_of_ble_eq_true rfl) ?_
            exact hk205  _ _ ls201 h222 G220 (lv_sub hl202 [] rfl)
          · have h223 := it_neg h219 (fun q => q hc221)
            refine lv_aload_n (pc := 347) X.1 X.2.1 dL_refuses_347 rfl (lv_at hl202 1 rfl) ?_
            refine lv_iload_n (pc := 348) X.1 X.2.1 dL_refuses_348 rfl (lv_at hl202 2 rfl) ?_
            obtain ⟨x225, e224, h226⟩ := bn_some h223
            refine w_callH (pc := 349) (v := x225) (B' := (B1 D κ A o P)) (As := [.ref o, .int x6]) (rest := []) X G220 (rm := rmL_define) rfl rfl (bg_define l hfl D κ A o P P x6 x225 (rh_define (hE 16 x6 0 x225 e224))) gL_102 hsL_define ⟨Nat.le_of_ble_eq_true rfl, Nat.le_of_ble_eq_true rfl⟩ rfl hl202 rfl (lv_room (Nat.le_of_ble_eq_true rfl)) dL_refuses_349 ⟨Nat.le_of_ble_eq_true rfl, Nat.le_of_ble_eq_true rfl⟩ (fun H locs G227 => ?_)
            refine lv_bipush (pc := 352) (v := (-3)) X.1 X.2.1 dL_refuses_352 (by decide) ?_
            refine lv_icmp_ne (pc := 354) (tgt := 361) X.1 X.2.1 dL_refuses_354 (by decide) (fun hc228 => ?_) (fun hc228 => ?_)
            · have h229 := it_pos h226 hc228
              exact hk205  _ _ ls201 h229 G227 (lv_sub hl202 [] rfl)
            · have h230 := it_neg h226 (fun q => q hc228)
              refine lv_iconst (pc := 357) (v := 1) X.1 X.2.1 dL_refuses_357 (by decide) ?_
              refine lv_goto (pc := 358) (tgt := 362) X.1 X.2.1 dL_refuses_358 (by decide) ?_
              exact hk203 1 _ _ ls201 h230 G227 (lv_sub hl202 [] rfl)
    obtain ⟨k19, ek19, h20⟩ := jp_some h18
    have hk19 : ∀  (H : Heap) (locs : List Loc) (ls : Array Slot), k19 () = some res → Wo D κ A (B1 D κ A o P) s H locs → lv_has ls 4 [(0, .ref o), (2, .int x6)] → W p l e rmL_refuses s m [.ref o, .int p1].toArray below meth c H locs 74 484 (MQ below (QW A (B1 D κ A o P) res) [.ref o, .int p1].toArray s 92 657 A) (F0 m 319 ls []) := by
      intro  H locs ls195 h192 G193 hl194
      rw [ek19] at h192
      try dsimp only at h192
      refine lv_iconst (pc := 319) (v := 0) X.1 X.2.1 dL_refuses_319 (by decide) ?_
      exact hk17 0 _ _ ls195 h192 G193 (lv_sub hl194 [0, 1] rfl)
    refine lv_icmp_ne (pc := 24) (tgt := 319) X.1 X.2.1 dL_refuses_24 (by decide) (fun hc21 => ?_) (fun hc21 => ?_)
    · have h22 := it_pos h20 hc21
      refine W.widen (k := 74) (n := 484) (Nat.le_of_ble_eq_true rfl) (Nat.le_of_ble_eq_true rfl) ?_
      exact hk19  _ _ ls11 h22 G16 (lv_sub hl12 [1, 0] rfl)
    · have h23 := it_neg h20 (fun q => q hc21)
      refine lv_aload_n (pc := 27) X.1 X.2.1 dL_refuses_27 rfl (lv_at hl12 1 rfl) ?_
      refine lv_iload_n (pc := 28) X.1 X.2.1 dL_refuses_28 rfl (lv_at hl12 0 rfl) ?_
      refine lv_iconst (pc := 29) (v := 0) X.1 X.2.1 dL_refuses_29 (by decide) ?_
      obtain ⟨x25, e24, h26⟩ := bn_some h23
      refine w_callH (pc := 30) (v := x25) (B' := (B1 D κ A o P)) (As := [.ref o, .int x6, .int 0]) (rest := []) X G16 (rm := rmL_exchange) rfl rfl (bg_exchange l hfl D κ A o P P x6 0 x25 (rh_exchange (hE 1 x6 0 x25 e24))) gL_87 hsL_exchange ⟨Nat.le_of_ble_eq_true rfl, Nat.le_of_ble_eq_true rfl⟩ rfl hl12 rfl (lv_room (Nat.le_of_ble_eq_true rfl)) dL_refuses_30 ⟨Nat.le_of_ble_eq_true rfl, Nat.le_of_ble_eq_true rfl⟩ (fun H locs G27 => ?_)
      refine lv_bipush (pc := 33) (v := (-3)) X.1 X.2.1 dL_refuses_33 (by decide) ?_
      refine lv_icmp_ne (pc := 35) (tgt := 319) X.1 X.2.1 dL_refuses_35 (by decide) (fun hc28 => ?_) (fun hc28 => ?_)
      · have h29 := it_pos h26 hc28
        refine W.widen (k := 74) (n := 484) (Nat.le_of_ble_eq_true rfl) (Nat.le_of_ble_eq_true rfl) ?_
        exact hk19  _ _ ls11 h29 G27 (lv_sub hl12 [1, 0] rfl)
      · have h30 := it_neg h26 (fun q => q hc28)
        refine lv_aload_n (pc := 38) X.1 X.2.1 dL_refuses_38 rfl (lv_at hl12 1 rfl) ?_
        refine lv_iconst (pc := 39) (v := 0) X.1 X.2.1 dL_refuses_39 (by decide) ?_
        refine lv_iload_n (pc := 40) X.1 X.2.1 dL_refuses_40 rfl (lv_at hl12 0 rfl) ?_
        obtain ⟨x32, e31, h33⟩ := bn_some h30
        refine w_callH (pc := 41) (v := x32) (B' := (B1 D κ A o P)) (As := [.ref o, .int 0, .int x6]) (rest := []) X G27 (rm := rmL_exchange) rfl rfl (bg_exchange l hfl D κ A o P P 0 x6 x32 (rh_exchange (hE 1 0 x6 x32 e31))) gL_87 hsL_exchange ⟨Nat.le_of_ble_eq_true rfl, Nat.le_of_ble_eq_true rfl⟩ rfl hl12 rfl (lv_room (Nat.le_of_ble_eq_true rfl)) dL_refuses_41 ⟨Nat.le_of_ble_eq_true rfl, Nat.le_of_ble_eq_true rfl⟩ (fun H locs G34 => ?_)
        refine lv_bipush (pc := 44) (v := (-3)) X.1 X.2.1 dL_refuses_44 (by decide) ?_
        refine lv_icmp_ne (pc := 46) (tgt := 319) X.1 X.2.1 dL_refuses_46 (by decide) (fun hc35 => ?_) (fun hc35 => ?_)
        · have h36 := it_pos h33 hc35
          refine W.widen (k := 74) (n := 484) (Nat.le_of_ble_eq_true rfl) (Nat.le_of_ble_eq_true rfl) ?_
          exact hk19  _ _ ls11 h36 G34 (lv_sub hl12 [1, 0] rfl)
        · have h37 := it_neg h33 (fun q => q hc35)
          refine lv_aload_n (pc := 49) X.1 X.2.1 dL_refuses_49 rfl (lv_at hl12 1 rfl) ?_
          refine lv_iconst (pc := 50) (v := 0) X.1 X.2.1 dL_refuses_50 (by decide) ?_
          obtain ⟨x39, e38, h40⟩ := bn_some h37
          refine w_callH (pc := 51) (v := x39) (B' := (B1 D κ A o P)) (As := [.ref o, .int 0]) (rest := []) X G34 (rm := rmL_set) rfl rfl (bg_set l hfl D κ A o P P 0 x39 (rh_set (hE 2 0 0 x39 e38))) gL_90 hsL_set ⟨Nat.le_of_ble_eq_true rfl, Nat.le_of_ble_eq_true rfl⟩ rfl hl12 rfl (lv_room (Nat.le_of_ble_eq_true rfl)) dL_refuses_51 ⟨Nat.le_of_ble_eq_true rfl, Nat.le_of_ble_eq_true rfl⟩ (fun H locs G41 => ?_)
          refine lv_bipush (pc := 54) (v := (-2)) X.1 X.2.1 dL_refuses_54 (by decide) ?_
          refine lv_icmp_ne (pc := 56) (tgt := 319) X.1 X.2.1 dL_refuses_56 (by decide) (fun hc42 => ?_) (fun hc42 => ?_)
          · have h43 := it_pos h40 hc42
            refine W.widen (k := 74) (n := 484) (Nat.le_of_ble_eq_true rfl) (Nat.le_of_ble_eq_true rfl) ?_
            exact hk19  _ _ ls11 h43 G41 (lv_sub hl12 [1, 0] rfl)
          · have h44 := it_neg h40 (fun q => q hc42)
            refine lv_aload_n (pc := 59) X.1 X.2.1 dL_refuses_59 rfl (lv_at hl12 1 rfl) ?_
            refine lv_bipush (pc := 60) (v := 13) X.1 X.2.1 dL_refuses_60 (by decide) ?_
            refine lv_iload_n (pc := 62) X.1 X.2.1 dL_refuses_62 rfl (lv_at hl12 2 rfl) ?_
            refine lv_iadd (pc := 63) X.1 X.2.1 dL_refuses_63 ?_
            obtain ⟨x46, e45, h47⟩ := bn_some h44
            refine w_callH (pc := 64) (v := x46) (B' := (B1 D κ A o P)) (As := [.ref o, .int ((13 : Int32) + p1)]) (rest := []) X G41 (rm := rmL_set) rfl rfl (bg_set l hfl D κ A o P P ((13 : Int32) + p1) x46 (rh_set (hE 2 ((13 : Int32) + p1) 0 x46 e45))) gL_90 hsL_set ⟨Nat.le_of_ble_eq_true rfl, Nat.le_of_ble_eq_true rfl⟩ rfl hl12 rfl (lv_room (Nat.le_of_ble_eq_true rfl)) dL_refuses_64 ⟨Nat.le_of_ble_eq_true rfl, Nat.le_of_ble_eq_true rfl⟩ (fun H locs G48 => ?_)
            refine lv_bipush (pc := 67) (v := (-2)) X.1 X.2.1 dL_refuses_67 (by decide) ?_
            refine lv_icmp_ne (pc := 69) (tgt := 319) X.1 X.2.1 dL_refuses_69 (by decide) (fun hc49 => ?_) (fun hc49 => ?_)
            · have h50 := it_pos h47 hc49
              refine W.widen (k := 74) (n := 484) (Nat.le_of_ble_eq_true rfl) (Nat.le_of_ble_eq_true rfl) ?_
              exact hk19  _ _ ls11 h50 G48 (lv_sub hl12 [1, 0] rfl)
            · have h51 := it_neg h47 (fun q => q hc49)
              refine lv_aload_n (pc := 72) X.1 X.2.1 dL_refuses_72 rfl (lv_at hl12 1 rfl) ?_
              refine lv_bipush (pc := 73) (v := 32) X.1 X.2.1 dL_refuses_73 (by decide) ?_
              refine lv_iload_n (pc := 75) X.1 X.2.1 dL_refuses_75 rfl (lv_at hl12 2 rfl) ?_
              refine lv_isub (pc := 76) X.1 X.2.1 dL_refuses_76 ?_
              obtain ⟨x53, e52, h54⟩ := bn_some h51
              refine w_callH (pc := 77) (v := x53) (B' := (B1 D κ A o P)) (As := [.ref o, .int ((32 : Int32) - p1)]) (rest := []) X G48 (rm := rmL_append) rfl rfl (bg_append l hfl D κ A o P P ((32 : Int32) - p1) x53 (rh_append (hE 3 ((32 : Int32) - p1) 0 x53 e52))) gL_80 hsL_append ⟨Nat.le_of_ble_eq_true rfl, Nat.le_of_ble_eq_true rfl⟩ rfl hl12 rfl (lv_room (Nat.le_of_ble_eq_true rfl)) dL_refuses_77 ⟨Nat.le_of_ble_eq_true rfl, Nat.le_of_ble_eq_true rfl⟩ (fun H locs G55 => ?_)
              refine lv_bipush (pc := 80) (v := (-2)) X.1 X.2.1 dL_refuses_80 (by decide) ?_
              refine lv_icmp_ne (pc := 82) (tgt := 319) X.1 X.2.1 dL_refuses_82 (by decide) (fun hc56 => ?_) (fun hc56 => ?_)
              · have h57 := it_pos h54 hc56
                refine W.widen (k := 74) (n := 484) (Nat.le_of_ble_eq_true rfl) (Nat.le_of_ble_eq_true rfl) ?_
                exact hk19  _ _ ls11 h57 G55 (lv_sub hl12 [1, 0] rfl)
              · have h58 := it_neg h54 (fun q => q hc56)
                refine lv_aload_n (pc := 85) X.1 X.2.1 dL_refuses_85 rfl (lv_at hl12 1 rfl) ?_
                refine lv_bipush (pc := 86) (v := 127) X.1 X.2.1 dL_refuses_86 (by decide) ?_
                refine lv_iload_n (pc := 88) X.1 X.2.1 dL_refuses_88 rfl (lv_at hl12 2 rfl) ?_
                refine lv_iadd (pc := 89) X.1 X.2.1 dL_refuses_89 ?_
                obtain ⟨x60, e59, h61⟩ := bn_some h58
                refine w_callH (pc := 90) (v := x60) (B' := (B1 D κ A o P)) (As := [.ref o, .int ((127 : Int32) + p1)]) (rest := []) X G55 (rm := rmL_append) rfl rfl (bg_append l hfl D κ A o P P ((127 : Int32) + p1) x60 (rh_append (hE 3 ((127 : Int32) + p1) 0 x60 e59))) gL_80 hsL_append ⟨Nat.le_of_ble_eq_true rfl, Nat.le_of_ble_eq_true rfl⟩ rfl hl12 rfl (lv_room (Nat.le_of_ble_eq_true rfl)) dL_refuses_90 ⟨Nat.le_of_ble_eq_true rfl, Nat.le_of_ble_eq_true rfl⟩ (fun H locs G62 => ?_)
                refine lv_bipush (pc := 93) (v := (-2)) X.1 X.2.1 dL_refuses_93 (by decide) ?_
                refine lv_icmp_ne (pc := 95) (tgt := 319) X.1 X.2.1 dL_refuses_95 (by decide) (fun hc63 => ?_) (fun hc63 => ?_)
                · have h64 := it_pos h61 hc63
                  refine W.widen (k := 74) (n := 484) (Nat.le_of_ble_eq_true rfl) (Nat.le_of_ble_eq_true rfl) ?_
                  exact hk19  _ _ ls11 h64 G62 (lv_sub hl12 [1, 0] rfl)
                · have h65 := it_neg h61 (fun q => q hc63)
                  refine lv_aload_n (pc := 98) X.1 X.2.1 dL_refuses_98 rfl (lv_at hl12 1 rfl) ?_
                  refine lv_iload_n (pc := 99) X.1 X.2.1 dL_refuses_99 rfl (lv_at hl12 0 rfl) ?_
                  obtain ⟨x67, e66, h68⟩ := bn_some h65
                  refine w_callH (pc := 100) (v := x67) (B' := (B1 D κ A o P)) (As := [.ref o, .int x6]) (rest := []) X G62 (rm := rmL_load) rfl rfl (bg_load l hfl D κ A o P P x6 x67 (rh_load (hE 4 x6 0 x67 e66))) gL_132 hsL_load ⟨Nat.le_of_ble_eq_true rfl, Nat.le_of_ble_eq_true rfl⟩ rfl hl12 rfl (lv_room (Nat.le_of_ble_eq_true rfl)) dL_refuses_100 ⟨Nat.le_of_ble_eq_true rfl, Nat.le_of_ble_eq_true rfl⟩ (fun H locs G69 => ?_)
                  refine lv_bipush (pc := 103) (v := (-3)) X.1 X.2.1 dL_refuses_103 (by decide) ?_
                  refine lv_icmp_ne (pc := 105) (tgt := 319) X.1 X.2.1 dL_refuses_105 (by decide) (fun hc70 => ?_) (fun hc70 => ?_)
                  · have h71 := it_pos h68 hc70
                    refine W.widen (k := 74) (n := 484) (Nat.le_of_ble_eq_true rfl) (Nat.le_of_ble_eq_true rfl) ?_
                    exact hk19  _ _ ls11 h71 G69 (lv_sub hl12 [1, 0] rfl)
                  · have h72 := it_neg h68 (fun q => q hc70)
                    refine lv_aload_n (pc := 108) X.1 X.2.1 dL_refuses_108 rfl (lv_at hl12 1 rfl) ?_
                    refine lv_iconst (pc := 109) (v := 2) X.1 X.2.1 dL_refuses_109 (by decide) ?_
                    refine lv_iload_n (pc := 110) X.1 X.2.1 dL_refuses_110 rfl (lv_at hl12 2 rfl) ?_
                    refine lv_iadd (pc := 111) X.1 X.2.1 dL_refuses_111 ?_
                    obtain ⟨x74, e73, h75⟩ := bn_some h72
                    refine w_callH (pc := 112) (v := x74) (B' := (B1 D κ A o P)) (As := [.ref o, .int ((2 : Int32) + p1)]) (rest := []) X G69 (rm := rmL_keep) rfl rfl (bg_keep l hfl D κ A o P P ((2 : Int32) + p1) x74 (rh_keep (hE 5 ((2 : Int32) + p1) 0 x74 e73))) gL_95 hsL_keep ⟨Nat.le_of_ble_eq_true rfl, Nat.le_of_ble_eq_true rfl⟩ rfl hl12 rfl (lv_room (Nat.le_of_ble_eq_true rfl)) dL_refuses_112 ⟨Nat.le_of_ble_eq_true rfl, Nat.le_of_ble_eq_true rfl⟩ (fun H locs G76 => ?_)
                    refine lv_bipush (pc := 115) (v := (-2)) X.1 X.2.1 dL_refuses_115 (by decide) ?_
                    refine lv_icmp_ne (pc := 117) (tgt := 319) X.1 X.2.1 dL_refuses_117 (by decide) (fun hc77 => ?_) (fun hc77 => ?_)
                    · have h78 := it_pos h75 hc77
                      refine W.widen (k := 74) (n := 484) (Nat.le_of_ble_eq_true rfl) (Nat.le_of_ble_eq_true rfl) ?_
                      exact hk19  _ _ ls11 h78 G76 (lv_sub hl12 [1, 0] rfl)
                    · have h79 := it_neg h75 (fun q => q hc77)
                      refine lv_aload_n (pc := 120) X.1 X.2.1 dL_refuses_120 rfl (lv_at hl12 1 rfl) ?_
                      refine lv_iconst (pc := 121) (v := (-1)) X.1 X.2.1 dL_refuses_121 (by decide) ?_
                      refine lv_iload_n (pc := 122) X.1 X.2.1 dL_refuses_122 rfl (lv_at hl12 2 rfl) ?_
                      refine lv_isub (pc := 123) X.1 X.2.1 dL_refuses_123 ?_
                      obtain ⟨x81, e80, h82⟩ := bn_some h79
                      refine w_callH (pc := 124) (v := x81) (B' := (B1 D κ A o P)) (As := [.ref o, .int (((-1) : Int32) - p1)]) (rest := []) X G76 (rm := rmL_keep) rfl rfl (bg_keep l hfl D κ A o P P (((-1) : Int32) - p1) x81 (rh_keep (hE 5 (((-1) : Int32) - p1) 0 x81 e80))) gL_95 hsL_keep ⟨Nat.le_of_ble_eq_true rfl, Nat.le_of_ble_eq_true rfl⟩ rfl hl12 rfl (lv_room (Nat.le_of_ble_eq_true rfl)) dL_refuses_124 ⟨Nat.le_of_ble_eq_true rfl, Nat.le_of_ble_eq_true rfl⟩ (fun H locs G83 => ?_)
                      refine lv_bipush (pc := 127) (v := (-2)) X.1 X.2.1 dL_refuses_127 (by decide) ?_
                      refine lv_icmp_ne (pc := 129) (tgt := 319) X.1 X.2.1 dL_refuses_129 (by decide) (fun hc84 => ?_) (fun hc84 => ?_)
                      · have h85 := it_pos h82 hc84
                        refine W.widen (k := 74) (n := 484) (Nat.le_of_ble_eq_true rfl) (Nat.le_of_ble_eq_true rfl) ?_
                        exact hk19  _ _ ls11 h85 G83 (lv_sub hl12 [1, 0] rfl)
                      · have h86 := it_neg h82 (fun q => q hc84)
                        refine lv_aload_n (pc := 132) X.1 X.2.1 dL_refuses_132 rfl (lv_at hl12 1 rfl) ?_
                        refine lv_iconst (pc := 133) (v := 2) X.1 X.2.1 dL_refuses_133 (by decide) ?_
                        refine lv_iload_n (pc := 134) X.1 X.2.1 dL_refuses_134 rfl (lv_at hl12 2 rfl) ?_
                        refine lv_iadd (pc := 135) X.1 X.2.1 dL_refuses_135 ?_
                        obtain ⟨x88, e87, h89⟩ := bn_some h86
                        refine w_callH (pc := 136) (v := x88) (B' := (B1 D κ A o P)) (As := [.ref o, .int ((2 : Int32) + p1)]) (rest := []) X G83 (rm := rmL_goBack) rfl rfl (bg_goBack l hfl D κ A o P P ((2 : Int32) + p1) x88 (rh_goBack (hE 6 ((2 : Int32) + p1) 0 x88 e87))) gL_97 hsL_goBack ⟨Nat.le_of_ble_eq_true rfl, Nat.le_of_ble_eq_true rfl⟩ rfl hl12 rfl (lv_room (Nat.le_of_ble_eq_true rfl)) dL_refuses_136 ⟨Nat.le_of_ble_eq_true rfl, Nat.le_of_ble_eq_true rfl⟩ (fun H locs G90 => ?_)
                        refine lv_bipush (pc := 139) (v := (-2)) X.1 X.2.1 dL_refuses_139 (by decide) ?_
                        refine lv_icmp_ne (pc := 141) (tgt := 319) X.1 X.2.1 dL_refuses_141 (by decide) (fun hc91 => ?_) (fun hc91 => ?_)
                        · have h92 := it_pos h89 hc91
                          refine W.widen (k := 74) (n := 484) (Nat.le_of_ble_eq_true rfl) (Nat.le_of_ble_eq_true rfl) ?_
                          exact hk19  _ _ ls11 h92 G90 (lv_sub hl12 [1, 0] rfl)
                        · have h93 := it_neg h89 (fun q => q hc91)
                          refine lv_aload_n (pc := 144) X.1 X.2.1 dL_refuses_144 rfl (lv_at hl12 1 rfl) ?_
                          refine lv_iload_n (pc := 145) X.1 X.2.1 dL_refuses_145 rfl (lv_at hl12 0 rfl) ?_
                          refine lv_iconst (pc := 146) (v := 0) X.1 X.2.1 dL_refuses_146 (by decide) ?_
                          obtain ⟨x95, e94, h96⟩ := bn_some h93
                          refine w_callH (pc := 147) (v := x95) (B' := (B1 D κ A o P)) (As := [.ref o, .int x6, .int 0]) (rest := []) X G90 (rm := rmL_body) rfl rfl (bg_body l hfl D κ A o P P x6 0 x95 (rh_body (hE 7 x6 0 x95 e94))) gL_114 hsL_body ⟨Nat.le_of_ble_eq_true rfl, Nat.le_of_ble_eq_true rfl⟩ rfl hl12 rfl (lv_room (Nat.le_of_ble_eq_true rfl)) dL_refuses_147 ⟨Nat.le_of_ble_eq_true rfl, Nat.le_of_ble_eq_true rfl⟩ (fun H locs G97 => ?_)
                          refine lv_bipush (pc := 150) (v := (-3)) X.1 X.2.1 dL_refuses_150 (by decide) ?_
                          refine lv_icmp_ne (pc := 152) (tgt := 319) X.1 X.2.1 dL_refuses_152 (by decide) (fun hc98 => ?_) (fun hc98 => ?_)
                          · have h99 := it_pos h96 hc98
                            refine W.widen (k := 74) (n := 484) (Nat.le_of_ble_eq_true rfl) (Nat.le_of_ble_eq_true rfl) ?_
                            exact hk19  _ _ ls11 h99 G97 (lv_sub hl12 [1, 0] rfl)
                          · have h100 := it_neg h96 (fun q => q hc98)
                            refine lv_aload_n (pc := 155) X.1 X.2.1 dL_refuses_155 rfl (lv_at hl12 1 rfl) ?_
                            refine lv_iconst (pc := 156) (v := 0) X.1 X.2.1 dL_refuses_156 (by decide) ?_
                            refine lv_bipush (pc := 157) (v := 6) X.1 X.2.1 dL_refuses_157 (by decide) ?_
                            refine lv_iload_n (pc := 159) X.1 X.2.1 dL_refuses_159 rfl (lv_at hl12 2 rfl) ?_
                            refine lv_iadd (pc := 160) X.1 X.2.1 dL_refuses_160 ?_
                            obtain ⟨x102, e101, h103⟩ := bn_some h100
                            refine w_callH (pc := 161) (v := x102) (B' := (B1 D κ A o P)) (As := [.ref o, .int 0, .int ((6 : Int32) + p1)]) (rest := []) X G97 (rm := rmL_body) rfl rfl (bg_body l hfl D κ A o P P 0 ((6 : Int32) + p1) x102 (rh_body (hE 7 0 ((6 : Int32) + p1) x102 e101))) gL_114 hsL_body ⟨Nat.le_of_ble_eq_true rfl, Nat.le_of_ble_eq_true rfl⟩ rfl hl12 rfl (lv_room (Nat.le_of_ble_eq_true rfl)) dL_refuses_161 ⟨Nat.le_of_ble_eq_true rfl, Nat.le_of_ble_eq_true rfl⟩ (fun H locs G104 => ?_)
                            refine lv_bipush (pc := 164) (v := (-2)) X.1 X.2.1 dL_refuses_164 (by decide) ?_
                            refine lv_icmp_ne (pc := 166) (tgt := 319) X.1 X.2.1 dL_refuses_166 (by decide) (fun hc105 => ?_) (fun hc105 => ?_)
                            · have h106 := it_pos h103 hc105
                              refine W.widen (k := 74) (n := 484) (Nat.le_of_ble_eq_true rfl) (Nat.le_of_ble_eq_true rfl) ?_
                              exact hk19  _ _ ls11 h106 G104 (lv_sub hl12 [1, 0] rfl)
                            · have h107 := it_neg h103 (fun q => q hc105)
                              refine lv_aload_n (pc := 169) X.1 X.2.1 dL_refuses_169 rfl (lv_at hl12 1 rfl) ?_
                              refine lv_iload_n (pc := 170) X.1 X.2.1 dL_refuses_170 rfl (lv_at hl12 0 rfl) ?_
                              refine lv_iconst (pc := 171) (v := 0) X.1 X.2.1 dL_refuses_171 (by decide) ?_
                              obtain ⟨x109, e108, h110⟩ := bn_some h107
                              refine w_callH (pc := 172) (v := x109) (B' := (B1 D κ A o P)) (As := [.ref o, .int x6, .int 0]) (rest := []) X G104 (rm := rmL_uses) rfl rfl (bg_uses l hfl D κ A o P P x6 0 x109 (rh_uses (hE 8 x6 0 x109 e108))) gL_119 hsL_uses ⟨Nat.le_of_ble_eq_true rfl, Nat.le_of_ble_eq_true rfl⟩ rfl hl12 rfl (lv_room (Nat.le_of_ble_eq_true rfl)) dL_refuses_172 ⟨Nat.le_of_ble_eq_true rfl, Nat.le_of_ble_eq_true rfl⟩ (fun H locs G111 => ?_)
                              refine lv_bipush (pc := 175) (v := (-3)) X.1 X.2.1 dL_refuses_175 (by decide) ?_
                              refine lv_icmp_ne (pc := 177) (tgt := 319) X.1 X.2.1 dL_refuses_177 (by decide) (fun hc112 => ?_) (fun hc112 => ?_)
                              · have h113 := it_pos h110 hc112
                                refine W.widen (k := 74) (n := 484) (Nat.le_of_ble_eq_true rfl) (Nat.le_of_ble_eq_true rfl) ?_
                                exact hk19  _ _ ls11 h113 G111 (lv_sub hl12 [1, 0] rfl)
                              · have h114 := it_neg h110 (fun q => q hc112)
                                refine lv_aload_n (pc := 180) X.1 X.2.1 dL_refuses_180 rfl (lv_at hl12 1 rfl) ?_
                                refine lv_iconst (pc := 181) (v := 0) X.1 X.2.1 dL_refuses_181 (by decide) ?_
                                refine lv_iconst (pc := 182) (v := (-1)) X.1 X.2.1 dL_refuses_182 (by decide) ?_
                                refine lv_iload_n (pc := 183) X.1 X.2.1 dL_refuses_183 rfl (lv_at hl12 2 rfl) ?_
                                refine lv_isub (pc := 184) X.1 X.2.1 dL_refuses_184 ?_
                                obtain ⟨x116, e115, h117⟩ := bn_some h114
                                refine w_callH (pc := 185) (v := x116) (B' := (B1 D κ A o P)) (As := [.ref o, .int 0, .int (((-1) : Int32) - p1)]) (rest := []) X G111 (rm := rmL_uses) rfl rfl (bg_uses l hfl D κ A o P P 0 (((-1) : Int32) - p1) x116 (rh_uses (hE 8 0 (((-1) : Int32) - p1) x116 e115))) gL_119 hsL_uses ⟨Nat.le_of_ble_eq_true rfl, Nat.le_of_ble_eq_true rfl⟩ rfl hl12 rfl (lv_room (Nat.le_of_ble_eq_true rfl)) dL_refuses_185 ⟨Nat.le_of_ble_eq_true rfl, Nat.le_of_ble_eq_true rfl⟩ (fun H locs G118 => ?_)
                                refine lv_bipush (pc := 188) (v := (-2)) X.1 X.2.1 dL_refuses_188 (by decide) ?_
                                refine lv_icmp_ne (pc := 190) (tgt := 319) X.1 X.2.1 dL_refuses_190 (by decide) (fun hc119 => ?_) (fun hc119 => ?_)
                                · have h120 := it_pos h117 hc119
                                  refine W.widen (k := 74) (n := 484) (Nat.le_of_ble_eq_true rfl) (Nat.le_of_ble_eq_true rfl) ?_
                                  exact hk19  _ _ ls11 h120 G118 (lv_sub hl12 [1, 0] rfl)
                                · have h121 := it_neg h117 (fun q => q hc119)
                                  refine lv_aload_n (pc := 193) X.1 X.2.1 dL_refuses_193 rfl (lv_at hl12 1 rfl) ?_
                                  refine lv_iload_n (pc := 194) X.1 X.2.1 dL_refuses_194 rfl (lv_at hl12 0 rfl) ?_
                                  obtain ⟨x123, e122, h124⟩ := bn_some h121
                                  refine w_callH (pc := 195) (v := x123) (B' := (B1 D κ A o P)) (As := [.ref o, .int x6]) (rest := []) X G118 (rm := rmL_chain) rfl rfl (bg_chain l hfl D κ A o P P x6 x123 (rh_chain (hE 9 x6 0 x123 e122))) gL_121 hsL_chain ⟨Nat.le_of_ble_eq_true rfl, Nat.le_of_ble_eq_true rfl⟩ rfl hl12 rfl (lv_room (Nat.le_of_ble_eq_true rfl)) dL_refuses_195 ⟨Nat.le_of_ble_eq_true rfl, Nat.le_of_ble_eq_true rfl⟩ (fun H locs G125 => ?_)
                                  refine lv_bipush (pc := 198) (v := (-3)) X.1 X.2.1 dL_refuses_198 (by decide) ?_
                                  refine lv_icmp_ne (pc := 200) (tgt := 319) X.1 X.2.1 dL_refuses_200 (by decide) (fun hc126 => ?_) (fun hc126 => ?_)
                                  · have h127 := it_pos h124 hc126
                                    refine W.widen (k := 74) (n := 484) (Nat.le_of_ble_eq_true rfl) (Nat.le_of_ble_eq_true rfl) ?_
                                    exact hk19  _ _ ls11 h127 G125 (lv_sub hl12 [1, 0] rfl)
                                  · have h128 := it_neg h124 (fun q => q hc126)
                                    refine lv_aload_n (pc := 203) X.1 X.2.1 dL_refuses_203 rfl (lv_at hl12 1 rfl) ?_
                                    refine lv_iload_n (pc := 204) X.1 X.2.1 dL_refuses_204 rfl (lv_at hl12 0 rfl) ?_
                                    obtain ⟨x130, e129, h131⟩ := bn_some h128
                                    refine w_callH (pc := 205) (v := x130) (B' := (B1 D κ A o P)) (As := [.ref o, .int x6]) (rest := []) X G125 (rm := rmL_ifDefined) rfl rfl (bg_ifDefined l hfl D κ A o P P x6 x130 (rh_ifDefined (hE 10 x6 0 x130 e129))) gL_134 hsL_ifDefined ⟨Nat.le_of_ble_eq_true rfl, Nat.le_of_ble_eq_true rfl⟩ rfl hl12 rfl (lv_room (Nat.le_of_ble_eq_true rfl)) dL_refuses_205 ⟨Nat.le_of_ble_eq_true rfl, Nat.le_of_ble_eq_true rfl⟩ (fun H locs G132 => ?_)
                                    refine lv_bipush (pc := 208) (v := (-3)) X.1 X.2.1 dL_refuses_208 (by decide) ?_
                                    refine lv_icmp_ne (pc := 210) (tgt := 319) X.1 X.2.1 dL_refuses_210 (by decide) (fun hc133 => ?_) (fun hc133 => ?_)
                                    · have h134 := it_pos h131 hc133
                                      refine W.widen (k := 74) (n := 484) (Nat.le_of_ble_eq_true rfl) (Nat.le_of_ble_eq_true rfl) ?_
                                      exact hk19  _ _ ls11 h134 G132 (lv_sub hl12 [1, 0] rfl)
                                    · have h135 := it_neg h131 (fun q => q hc133)
                                      refine lv_aload_n (pc := 213) X.1 X.2.1 dL_refuses_213 rfl (lv_at hl12 1 rfl) ?_
                                      refine lv_iconst (pc := 214) (v := (-1)) X.1 X.2.1 dL_refuses_214 (by decide) ?_
                                      refine lv_iload_n (pc := 215) X.1 X.2.1 dL_refuses_215 rfl (lv_at hl12 2 rfl) ?_
                                      refine lv_isub (pc := 216) X.1 X.2.1 dL_refuses_216 ?_
                                      obtain ⟨x137, e136, h138⟩ := bn_some h135
                                      refine w_callH (pc := 217) (v := x137) (B' := (B1 D κ A o P)) (As := [.ref o, .int (((-1) : Int32) - p1)]) (rest := []) X G132 (rm := rmL_sign) rfl rfl (bg_sign l hfl D κ A o P P (((-1) : Int32) - p1) x137 (rh_sign (hE 11 (((-1) : Int32) - p1) 0 x137 e136))) gL_108 hsL_sign ⟨Nat.le_of_ble_eq_true rfl, Nat.le_of_ble_eq_true rfl⟩ rfl hl12 rfl (lv_room (Nat.le_of_ble_eq_true rfl)) dL_refuses_217 ⟨Nat.le_of_ble_eq_true rfl, Nat.le_of_ble_eq_true rfl⟩ (fun H locs G139 => ?_)
                                      refine lv_bipush (pc := 220) (v := (-2)) X.1 X.2.1 dL_refuses_220 (by decide) ?_
                                      refine lv_icmp_ne (pc := 222) (tgt := 319) X.1 X.2.1 dL_refuses_222 (by decide) (fun hc140 => ?_) (fun hc140 => ?_)
                                      · have h141 := it_pos h138 hc140
                                        refine W.widen (k := 74) (n := 484) (Nat.le_of_ble_eq_true rfl) (Nat.le_of_ble_eq_true rfl) ?_
                                        exact hk19  _ _ ls11 h141 G139 (lv_sub hl12 [1, 0] rfl)
                                      · have h142 := it_neg h138 (fun q => q hc140)
                                        refine lv_aload_n (pc := 225) X.1 X.2.1 dL_refuses_225 rfl (lv_at hl12 1 rfl) ?_
                                        refine lv_bipush (pc := 226) (v := 8) X.1 X.2.1 dL_refuses_226 (by decide) ?_
                                        refine lv_iload_n (pc := 228) X.1 X.2.1 dL_refuses_228 rfl (lv_at hl12 2 rfl) ?_
                                        refine lv_iadd (pc := 229) X.1 X.2.1 dL_refuses_229 ?_
                                        obtain ⟨x144, e143, h145⟩ := bn_some h142
                                        refine w_callH (pc := 230) (v := x144) (B' := (B1 D κ A o P)) (As := [.ref o, .int ((8 : Int32) + p1)]) (rest := []) X G139 (rm := rmL_result) rfl rfl (bg_result l hfl D κ A o P P ((8 : Int32) + p1) x144 (rh_result (hE 12 ((8 : Int32) + p1) 0 x144 e143))) gL_106 hsL_result ⟨Nat.le_of_ble_eq_true rfl, Nat.le_of_ble_eq_true rfl⟩ rfl hl12 rfl (lv_room (Nat.le_of_ble_eq_true rfl)) dL_refuses_230 ⟨Nat.le_of_ble_eq_true rfl, Nat.le_of_ble_eq_true rfl⟩ (fun H locs G146 => ?_)
                                        refine lv_bipush (pc := 233) (v := (-2)) X.1 X.2.1 dL_refuses_233 (by decide) ?_
                                        refine lv_icmp_ne (pc := 235) (tgt := 319) X.1 X.2.1 dL_refuses_235 (by decide) (fun hc147 => ?_) (fun hc147 => ?_)
                                        · have h148 := it_pos h145 hc147
                                          refine W.widen (k := 74) (n := 484) (Nat.le_of_ble_eq_true rfl) (Nat.le_of_ble_eq_true rfl) ?_
                                          exact hk19  _ _ ls11 h148 G146 (lv_sub hl12 [1, 0] rfl)
                                        · have h149 := it_neg h145 (fun q => q hc147)
                                          refine lv_aload_n (pc := 238) X.1 X.2.1 dL_refuses_238 rfl (lv_at hl12 1 rfl) ?_
                                          refine lv_iconst (pc := 239) (v := (-1)) X.1 X.2.1 dL_refuses_239 (by decide) ?_
                                          refine lv_iload_n (pc := 240) X.1 X.2.1 dL_refuses_240 rfl (lv_at hl12 2 rfl) ?_
                                          refine lv_isub (pc := 241) X.1 X.2.1 dL_refuses_241 ?_
                                          refine lv_iconst (pc := 242) (v := 0) X.1 X.2.1 dL_refuses_242 (by decide) ?_
                                          obtain ⟨x151, e150, h152⟩ := bn_some h149
                                          refine w_callH (pc := 243) (v := x151) (B' := (B1 D κ A o P)) (As := [.ref o, .int (((-1) : Int32) - p1), .int 0]) (rest := []) X G146 (rm := rmL_trace) rfl rfl (bg_trace l hfl D κ A o P P (((-1) : Int32) - p1) 0 x151 (rh_trace (hE 13 (((-1) : Int32) - p1) 0 x151 e150))) gL_110 hsL_trace ⟨Nat.le_of_ble_eq_true rfl, Nat.le_of_ble_eq_true rfl⟩ rfl hl12 rfl (lv_room (Nat.le_of_ble_eq_true rfl)) dL_refuses_243 ⟨Nat.le_of_ble_eq_true rfl, Nat.le_of_ble_eq_true rfl⟩ (fun H locs G153 => ?_)
                                          refine lv_bipush (pc := 246) (v := (-2)) X.1 X.2.1 dL_refuses_246 (by decide) ?_
                                          refine lv_icmp_ne (pc := 248) (tgt := 319) X.1 X.2.1 dL_refuses_248 (by decide) (fun hc154 => ?_) (fun hc154 => ?_)
                                          · have h155 := it_pos h152 hc154
                                            refine W.widen (k := 74) (n := 484) (Nat.le_of_ble_eq_true rfl) (Nat.le_of_ble_eq_true rfl) ?_
                                            exact hk19  _ _ ls11 h155 G153 (lv_sub hl12 [1, 0] rfl)
                                          · have h156 := it_neg h152 (fun q => q hc154)
                                            refine lv_aload_n (pc := 251) X.1 X.2.1 dL_refuses_251 rfl (lv_at hl12 1 rfl) ?_
                                            refine lv_iconst (pc := 252) (v := 0) X.1 X.2.1 dL_refuses_252 (by decide) ?_
                                            refine lv_bipush (pc := 253) (v := 6) X.1 X.2.1 dL_refuses_253 (by decide) ?_
                                            refine lv_iload_n (pc := 255) X.1 X.2.1 dL_refuses_255 rfl (lv_at hl12 2 rfl) ?_
                                            refine lv_iadd (pc := 256) X.1 X.2.1 dL_refuses_256 ?_
                                            obtain ⟨x158, e157, h159⟩ := bn_some h156
                                            refine w_callH (pc := 257) (v := x158) (B' := (B1 D κ A o P)) (As := [.ref o, .int 0, .int ((6 : Int32) + p1)]) (rest := []) X G153 (rm := rmL_trace) rfl rfl (bg_trace l hfl D κ A o P P 0 ((6 : Int32) + p1) x158 (rh_trace (hE 13 0 ((6 : Int32) + p1) x158 e157))) gL_110 hsL_trace ⟨Nat.le_of_ble_eq_true rfl, Nat.le_of_ble_eq_true rfl⟩ rfl hl12 rfl (lv_room (Nat.le_of_ble_eq_true rfl)) dL_refuses_257 ⟨Nat.le_of_ble_eq_true rfl, Nat.le_of_ble_eq_true rfl⟩ (fun H locs G160 => ?_)
                                            refine lv_bipush (pc := 260) (v := (-2)) X.1 X.2.1 dL_refuses_260 (by decide) ?_
                                            refine lv_icmp_ne (pc := 262) (tgt := 319) X.1 X.2.1 dL_refuses_262 (by decide) (fun hc161 => ?_) (fun hc161 => ?_)
                                            · have h162 := it_pos h159 hc161
                                              refine W.widen (k := 74) (n := 484) (Nat.le_of_ble_eq_true rfl) (Nat.le_of_ble_eq_true rfl) ?_
                                              exact hk19  _ _ ls11 h162 G160 (lv_sub hl12 [1, 0] rfl)
                                            · have h163 := it_neg h159 (fun q => q hc161)
                                              refine lv_aload_n (pc := 265) X.1 X.2.1 dL_refuses_265 rfl (lv_at hl12 1 rfl) ?_
                                              refine lv_iload_n (pc := 266) X.1 X.2.1 dL_refuses_266 rfl (lv_at hl12 0 rfl) ?_
                                              refine lv_iconst (pc := 267) (v := 0) X.1 X.2.1 dL_refuses_267 (by decide) ?_
                                              obtain ⟨x165, e164, h166⟩ := bn_some h163
                                              refine w_callH (pc := 268) (v := x165) (B' := (B1 D κ A o P)) (As := [.ref o, .int x6, .int 0]) (rest := []) X G160 (rm := rmL_lengthOf) rfl rfl (bg_lengthOf l hfl D κ A o P P x6 0 x165 (rh_lengthOf (hE 14 x6 0 x165 e164))) gL_123 hsL_lengthOf ⟨Nat.le_of_ble_eq_true rfl, Nat.le_of_ble_eq_true rfl⟩ rfl hl12 rfl (lv_room (Nat.le_of_ble_eq_true rfl)) dL_refuses_268 ⟨Nat.le_of_ble_eq_true rfl, Nat.le_of_ble_eq_true rfl⟩ (fun H locs G167 => ?_)
                                              refine lv_bipush (pc := 271) (v := (-3)) X.1 X.2.1 dL_refuses_271 (by decide) ?_
                                              refine lv_icmp_ne (pc := 273) (tgt := 319) X.1 X.2.1 dL_refuses_273 (by decide) (fun hc168 => ?_) (fun hc168 => ?_)
                                              · have h169 := it_pos h166 hc168
                                                refine W.widen (k := 74) (n := 484) (Nat.le_of_ble_eq_true rfl) (Nat.le_of_ble_eq_true rfl) ?_
                                                exact hk19  _ _ ls11 h169 G167 (lv_sub hl12 [1, 0] rfl)
                                              · have h170 := it_neg h166 (fun q => q hc168)
                                                refine lv_aload_n (pc := 276) X.1 X.2.1 dL_refuses_276 rfl (lv_at hl12 1 rfl) ?_
                                                refine lv_iconst (pc := 277) (v := 0) X.1 X.2.1 dL_refuses_277 (by decide) ?_
                                                refine lv_bipush (pc := 278) (v := 21) X.1 X.2.1 dL_refuses_278 (by decide) ?_
                                                refine lv_iload_n (pc := 280) X.1 X.2.1 dL_refuses_280 rfl (lv_at hl12 2 rfl) ?_
                                                refine lv_iadd (pc := 281) X.1 X.2.1 dL_refuses_281 ?_
                                                obtain ⟨x172, e171, h173⟩ := bn_some h170
                                                refine w_callH (pc := 282) (v := x172) (B' := (B1 D κ A o P)) (As := [.ref o, .int 0, .int ((21 : Int32) + p1)]) (rest := []) X G167 (rm := rmL_lengthOf) rfl rfl (bg_lengthOf l hfl D κ A o P P 0 ((21 : Int32) + p1) x172 (rh_lengthOf (hE 14 0 ((21 : Int32) + p1) x172 e171))) gL_123 hsL_lengthOf ⟨Nat.le_of_ble_eq_true rfl, Nat.le_of_ble_eq_true rfl⟩ rfl hl12 rfl (lv_room (Nat.le_of_ble_eq_true rfl)) dL_refuses_282 ⟨Nat.le_of_ble_eq_true rfl, Nat.le_of_ble_eq_true rfl⟩ (fun H locs G174 => ?_)
                                                refine lv_bipush (pc := 285) (v := (-2)) X.1 X.2.1 dL_refuses_285 (by decide) ?_
                                                refine lv_icmp_ne (pc := 287) (tgt := 319) X.1 X.2.1 dL_refuses_287 (by decide) (fun hc175 => ?_) (fun hc175 => ?_)
                                                · have h176 := it_pos h173 hc175
                                                  refine W.widen (k := 74) (n := 484) (Nat.le_of_ble_eq_true rfl) (Nat.le_of_ble_eq_true rfl) ?_
                                                  exact hk19  _ _ ls11 h176 G174 (lv_sub hl12 [1, 0] rfl)
                                                · have h177 := it_neg h173 (fun q => q hc175)
                                                  refine lv_aload_n (pc := 290) X.1 X.2.1 dL_refuses_290 rfl (lv_at hl12 1 rfl) ?_
                                                  refine lv_bipush (pc := 291) (v := 8) X.1 X.2.1 dL_refuses_291 (by decide) ?_
                                                  refine lv_iload_n (pc := 293) X.1 X.2.1 dL_refuses_293 rfl (lv_at hl12 2 rfl) ?_
                                                  refine lv_iadd (pc := 294) X.1 X.2.1 dL_refuses_294 ?_
                                                  obtain ⟨x179, e178, h180⟩ := bn_some h177
                                                  refine w_callH (pc := 295) (v := x179) (B' := (B1 D κ A o P)) (As := [.ref o, .int ((8 : Int32) + p1)]) (rest := []) X G174 (rm := rmL_count) rfl rfl (bg_count l hfl D κ A o P P ((8 : Int32) + p1) x179 (rh_count (hE 15 ((8 : Int32) + p1) 0 x179 e178))) gL_112 hsL_count ⟨Nat.le_of_ble_eq_true rfl, Nat.le_of_ble_eq_true rfl⟩ rfl hl12 rfl (lv_room (Nat.le_of_ble_eq_true rfl)) dL_refuses_295 ⟨Nat.le_of_ble_eq_true rfl, Nat.le_of_ble_eq_true rfl⟩ (fun H locs G181 => ?_)
                                                  refine lv_bipush (pc := 298) (v := (-2)) X.1 X.2.1 dL_refuses_298 (by decide) ?_
                                                  refine lv_icmp_ne (pc := 300) (tgt := 319) X.1 X.2.1 dL_refuses_300 (by decide) (fun hc182 => ?_) (fun hc182 => ?_)
                                                  · have h183 := it_pos h180 hc182
                                                    refine W.widen (k := 74) (n := 484) (Nat.le_of_ble_eq_true rfl) (Nat.le_of_ble_eq_true rfl) ?_
                                                    exact hk19  _ _ ls11 h183 G181 (lv_sub hl12 [1, 0] rfl)
                                                  · have h184 := it_neg h180 (fun q => q hc182)
                                                    refine lv_aload_n (pc := 303) X.1 X.2.1 dL_refuses_303 rfl (lv_at hl12 1 rfl) ?_
                                                    refine lv_iconst (pc := 304) (v := (-1)) X.1 X.2.1 dL_refuses_304 (by decide) ?_
                                                    refine lv_iload_n (pc := 305) X.1 X.2.1 dL_refuses_305 rfl (lv_at hl12 2 rfl) ?_
                                                    refine lv_isub (pc := 306) X.1 X.2.1 dL_refuses_306 ?_
                                                    obtain ⟨x186, e185, h187⟩ := bn_some h184
                                                    refine w_callH (pc := 307) (v := x186) (B' := (B1 D κ A o P)) (As := [.ref o, .int (((-1) : Int32) - p1)]) (rest := []) X G181 (rm := rmL_count) rfl rfl (bg_count l hfl D κ A o P P (((-1) : Int32) - p1) x186 (rh_count (hE 15 (((-1) : Int32) - p1) 0 x186 e185))) gL_112 hsL_count ⟨Nat.le_of_ble_eq_true rfl, Nat.le_of_ble_eq_true rfl⟩ rfl hl12 rfl (lv_room (Nat.le_of_ble_eq_true rfl)) dL_refuses_307 ⟨Nat.le_of_ble_eq_true rfl, Nat.le_of_ble_eq_true rfl⟩ (fun H locs G188 => ?_)
                                                    refine lv_bipush (pc := 310) (v := (-2)) X.1 X.2.1 dL_refuses_310 (by decide) ?_
                                                    refine lv_icmp_ne (pc := 312) (tgt := 319) X.1 X.2.1 dL_refuses_312 (by decide) (fun hc189 => ?_) (fun hc189 => ?_)
                                                    · have h190 := it_pos h187 hc189
                                                      exact hk19  _ _ ls11 h190 G188 (lv_sub hl12 [1, 0] rfl)
                                                    · have h191 := it_neg h187 (fun q => q hc189)
                                                      refine lv_iconst (pc := 315) (v := 1) X.1 X.2.1 dL_refuses_315 (by decide) ?_
                                                      refine lv_goto (pc := 316) (tgt := 320) X.1 X.2.1 dL_refuses_316 (by decide) ?_
                                                      exact hk17 1 _ _ ls11 h191 G188 (lv_sub hl12 [1, 0] rfl)
  refine lv_if_ne (pc := 3) (tgt := 13) X.1 X.2.1 dL_refuses_3 (by decide) (fun hc3 => ?_) (fun hc3 => ?_)
  · have h4 := it_pos h2 hc3
    refine lv_iconst (pc := 13) (v := (-1)) X.1 X.2.1 dL_refuses_13 (by decide) ?_
    refine lv_iload_n (pc := 14) X.1 X.2.1 dL_refuses_14 rfl (lv_at hl 1 rfl) ?_
    refine lv_isub (pc := 15) X.1 X.2.1 dL_refuses_15 ?_
    exact hk1 (((-1) : Int32) - p1) _ _ ls h4 G (lv_sub hl [0, 1] rfl)
  · have h5 := it_neg h2 (fun q => q hc3)
    refine lv_bipush (pc := 6) (v := 26) X.1 X.2.1 dL_refuses_6 (by decide) ?_
    refine lv_iload_n (pc := 8) X.1 X.2.1 dL_refuses_8 rfl (lv_at hl 1 rfl) ?_
    refine lv_iadd (pc := 9) X.1 X.2.1 dL_refuses_9 ?_
    refine lv_goto (pc := 10) (tgt := 16) X.1 X.2.1 dL_refuses_10 (by decide) ?_
    exact hk1 ((26 : Int32) + p1) _ _ ls h5 G (lv_sub hl [0, 1] rfl)
