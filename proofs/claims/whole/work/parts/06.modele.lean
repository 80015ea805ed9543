/-! THE REFERENCE, laid by wip/whole/walk.py: F8_: what a method does; c8_: the machine does it -/
abbrev rm8_calls : Room := { frames := 2, cells := 0, slots := 0, locals := 45 }
noncomputable def F8_calls (z : MS) (p0 : Int32) : Option (MS) :=
  rd (z 31) 430 (z 43 32) fun x1 =>
  rd (z 29) 430 (z 43 32) fun x2 =>
  bn (F8_skips z) fun z3 =>
  Loop (fun (q : Int32 × Int32 × Int32) => (fun (x4 : Int32) (x5 : Int32) (x6 : Int32) =>
  if x6 < 0 then
  bn (F8_isDefined z3 p0) fun x8 =>
  jp (fun (_ : Unit) => bn (F8_isDefined z3 p0) fun x19 =>
  jp (fun (x23 : Int32) => bn (F8_puts z3 x23) fun z24 =>
  some (.inr z24)) fun k20 =>
  if ¬ x19 = 0 then
  if x4 = 0 then
  k20 37
  else
  k20 35
  else
  k20 36) fun k9 =>
  if x8 = 0 then
  k9 ()
  else
  if ¬ x4 = 0 then
  k9 ()
  else
  rd (z3 0) 2153 (1586 : Int32) fun x12 =>
  if ¬ x5 = x12 then
  wr z3 33 62 (z3 43 38) p0 fun z14 =>
  wr z14 34 62 (z14 43 38) x2 fun z15 =>
  wr z15 35 62 (z15 43 38) x1 fun z16 =>
  bn (F8_enters z16 p0 0 (z16 43 38)) fun z17 =>
  bd (up2 z17 43 38 ((z17 43 38) + 1)) fun z18 =>
  some (.inr z18)
  else
  k9 ()
  else
  jp (fun (x30 : Int32) => bd (x5 + 1) fun x31 =>
  rd (z3 35) 62 x6 fun x32 =>
  some (.inl (x30, x31, x32))) fun k25 =>
  jp (fun (_ : Unit) => k25 1) fun k26 =>
  if ¬ x4 = 0 then
  k26 ()
  else
  rd (z3 33) 62 x6 fun x28 =>
  if ¬ x28 = p0 then
  k25 0
  else
  k26 ()) q.1 q.2.1 q.2.2) (0, 0, x1)
set_option maxHeartbeats 4000000 in
set_option maxRecDepth 100000 in
theorem c8_calls (l : Launch) (D : va_G) (κ : Nat → ClassId) (A : Nat → Prop) (ad : Nat → Nat) (r0 : Nat → Option va_E) (z : MS) (p0 : Int32) (res : MS) (h : F8_calls z p0 = some res) : Met l yX8_calls (gw yX8_calls cX8_calls 7 none) rm8_calls (va_Pc [.ref (ad 43), .int p0] (MW D κ A ad (celM κ ad r0 z))) (QV D κ A ad (celM κ ad r0 res)) 0 0 A := by
  refine met_of (own := RX8) (by decide +kernel) rfl (Nat.le_of_ble_eq_true rfl) ?_
  intro p e s m below meth c ls X hr hlk G hl
  have hl : lv_has ls 7 [(0, .ref (ad 43)), (1, .int p0)] := hl
  unfold F8_calls at h
  refine lv_aload_n (pc := 0) X.1 X.2.1 dX8_calls_0 rfl (lv_at hl 0 rfl) ?_
  refine M_getr (pc := 1) X G 31 (by decide) (by decide +kernel) fl_X8_71 dX8_calls_1 ?_
  refine lv_aload_n (pc := 4) X.1 X.2.1 dX8_calls_4 rfl (lv_at hl 0 rfl) ?_
  refine M_geti (pc := 5) X G 32 (by decide) (by decide +kernel) fl_X8_208 dX8_calls_5 ?_
  obtain ⟨hix1, h⟩ := rd_some h
  refine M_iald (pc := 8) X G (i := 31) (n := 430) (by decide +kernel) (by decide) rfl hix1 dX8_calls_8 ?_
  refine lv_topi (fun x1 ex1 => ?_)
  rw [← ex1] at h
  refine lv_istore_n (pc := 9) (lv' := [(2, .int x1), (0, .ref (ad 43)), (1, .int p0)]) X.1 X.2.1 dX8_calls_9 rfl hl (by decide) rfl (fun ls hl => ?_)
  refine lv_aload_n (pc := 10) X.1 X.2.1 dX8_calls_10 rfl (lv_at hl 1 rfl) ?_
  refine M_getr (pc := 11) X G 29 (by decide) (by decide +kernel) fl_X8_65 dX8_calls_11 ?_
  refine lv_aload_n (pc := 14) X.1 X.2.1 dX8_calls_14 rfl (lv_at hl 1 rfl) ?_
  refine M_geti (pc := 15) X G 32 (by decide) (by decide +kernel) fl_X8_208 dX8_calls_15 ?_
  obtain ⟨hix2, h⟩ := rd_some h
  refine M_iald (pc := 18) X G (i := 29) (n := 430) (by decide +kernel) (by decide) rfl hix2 dX8_calls_18 ?_
  refine lv_topi (fun x2 ex2 => ?_)
  rw [← ex2] at h
  refine lv_istore_n (pc := 19) (lv' := [(3, .int x2), (2, .int x1), (0, .ref (ad 43)), (1, .int p0)]) X.1 X.2.1 dX8_calls_19 rfl hl (by decide) rfl (fun ls hl => ?_)
  refine lv_aload_n (pc := 20) X.1 X.2.1 dX8_calls_20 rfl (lv_at hl 2 rfl) ?_
  obtain ⟨z3, ez3, h⟩ := bn_some h
  refine M_callv (pc := 21) (z1 := z3) (As := []) (rest := []) X G (rm := rm8_skips) rfl rfl (c8_skips l D κ A ad r0 z  z3 ez3) g_X8_214 hd_yX8_skips ⟨Nat.le_of_ble_eq_true rfl, Nat.le_of_ble_eq_true rfl⟩ rfl hl rfl (lv_room (Nat.le_of_ble_eq_true rfl)) dX8_calls_21 ⟨Nat.le_of_ble_eq_true rfl, Nat.le_of_ble_eq_true rfl⟩ (fun H locs G => ?_)
  refine lv_iconst (pc := 24) (v := 0) X.1 X.2.1 dX8_calls_24 (by decide) ?_
  refine lv_istore (pc := 25) (lv' := [(4, .int 0), (3, .int x2), (2, .int x1), (0, .ref (ad 43)), (1, .int p0)]) X.1 X.2.1 dX8_calls_25 hl (by decide) rfl (fun ls hl => ?_)
  refine lv_iconst (pc := 27) (v := 0) X.1 X.2.1 dX8_calls_27 (by decide) ?_
  refine lv_istore (pc := 28) (lv' := [(5, .int 0), (4, .int 0), (3, .int x2), (2, .int x1), (0, .ref (ad 43)), (1, .int p0)]) X.1 X.2.1 dX8_calls_28 hl (by decide) rfl (fun ls hl => ?_)
  refine lv_iload_n (pc := 30) X.1 X.2.1 dX8_calls_30 rfl (lv_at hl 3 rfl) ?_
  refine lv_istore (pc := 31) (lv' := [(6, .int x1), (5, .int 0), (4, .int 0), (3, .int x2), (2, .int x1), (0, .ref (ad 43)), (1, .int p0)]) X.1 X.2.1 dX8_calls_31 hl (by decide) rfl (fun ls hl => ?_)
  refine Loop_ind (P := fun (q : Int32 × Int32 × Int32) => ∀ (H : Heap) (locs : List Loc) (ls : Array Slot), Mm D κ A ad (celM κ ad r0 z3) s H locs → lv_has ls 7 [(0, .ref (ad 43)), (1, .int p0), (2, .int x1), (3, .int x2), (4, .int q.1), (5, .int q.2.1), (6, .int q.2.2)] → W p l e rm8_calls s m [.ref (ad 43), .int p0].toArray below meth c H locs 0 0 (MQ below (QV D κ A ad (celM κ ad r0 res)) [.ref (ad 43), .int p0].toArray s 0 0 A) (F0 m 33 ls [])) ?_ h _ _ ls G (lv_sub hl [5, 6, 4, 3, 2, 1, 0] rfl)
  intro q y1 h ih1 hz1 H locs ls G hl
  obtain ⟨x4, x5, x6⟩ := q
  try dsimp only at h ih1 G hl ⊢
  refine lv_iload (pc := 33) X.1 X.2.1 dX8_calls_33 (lv_at hl 6 rfl) ?_
  refine lv_if_lt (pc := 35) (tgt := 76) X.1 X.2.1 dX8_calls_35 (by decide) (fun hc7 => ?_) (fun hc7 => ?_)
  · have h := it_pos h hc7
    refine lv_aload_n (pc := 76) X.1 X.2.1 dX8_calls_76 rfl (lv_at hl 0 rfl) ?_
    refine lv_iload_n (pc := 77) X.1 X.2.1 dX8_calls_77 rfl (lv_at hl 1 rfl) ?_
    obtain ⟨x8, ex8, h⟩ := bn_some h
    refine M_calli (pc := 78) (z1 := z3) (v := x8) (As := [.int p0]) (rest := []) X G (rm := rm8_isDefined) rfl rfl (c8_isDefined l D κ A ad r0 z3 p0 x8 ex8) g_X8_112 hd_yX8_isDefined ⟨Nat.le_of_ble_eq_true rfl, Nat.le_of_ble_eq_true rfl⟩ rfl hl rfl (lv_room (Nat.le_of_ble_eq_true rfl)) dX8_calls_78 ⟨Nat.le_of_ble_eq_true rfl, Nat.le_of_ble_eq_true rfl⟩ (fun H locs G => ?_)
    obtain ⟨k9, ek9, h⟩ := jp_some h
    have hk9 : ∀  (H : Heap) (locs : List Loc) (ls : Array Slot), k9 () = some y1 → Mm D κ A ad (celM κ ad r0 z3) s H locs → lv_has ls 7 [(0, .ref (ad 43)), (1, .int p0), (4, .int x4)] → W p l e rm8_calls s m [.ref (ad 43), .int p0].toArray below meth c H locs 0 0 (MQ below (QV D κ A ad (celM κ ad r0 res)) [.ref (ad 43), .int p0].toArray s 0 0 A) (F0 m 102 ls []) := by
      intro  H locs ls h G hl
      rw [ek9] at h
      try dsimp only at h
      refine lv_aload_n (pc := 102) X.1 X.2.1 dX8_calls_102 rfl (lv_at hl 0 rfl) ?_
      refine lv_aload_n (pc := 103) X.1 X.2.1 dX8_calls_103 rfl (lv_at hl 0 rfl) ?_
      refine lv_iload_n (pc := 104) X.1 X.2.1 dX8_calls_104 rfl (lv_at hl 1 rfl) ?_
      obtain ⟨x19, ex19, h⟩ := bn_some h
      refine M_calli (pc := 105) (z1 := z3) (v := x19) (As := [.int p0]) (rest := [.ref (ad 43)]) X G (rm := rm8_isDefined) rfl rfl (c8_isDefined l D κ A ad r0 z3 p0 x19 ex19) g_X8_112 hd_yX8_isDefined ⟨Nat.le_of_ble_eq_true rfl, Nat.le_of_ble_eq_true rfl⟩ rfl hl rfl (lv_room (Nat.le_of_ble_eq_true rfl)) dX8_calls_105 ⟨Nat.le_of_ble_eq_true rfl, Nat.le_of_ble_eq_true rfl⟩ (fun H locs G => ?_)
      obtain ⟨k20, ek20, h⟩ := jp_some h
      have hk20 : ∀ (x23 : Int32) (H : Heap) (locs : List Loc) (ls : Array Slot), k20 x23 = some y1 → Mm D κ A ad (celM κ ad r0 z3) s H locs → lv_has ls 7 [] → W p l e rm8_calls s m [.ref (ad 43), .int p0].toArray below meth c H locs 0 0 (MQ below (QV D κ A ad (celM κ ad r0 res)) [.ref (ad 43), .int p0].toArray s 0 0 A) (F0 m 128 ls [.int x23, .ref (ad 43)]) := by
        intro x23 H locs ls h G hl
        rw [ek20] at h
        try dsimp only at h
        obtain ⟨z24, ez24, h⟩ := bn_some h
        refine M_callv (pc := 128) (z1 := z24) (As := [.int x23]) (rest := []) X G (rm := rm8_puts) rfl rfl (c8_puts l D κ A ad r0 z3 x23 z24 ez24) g_X8_217 hd_yX8_puts ⟨Nat.le_of_ble_eq_true rfl, Nat.le_of_ble_eq_true rfl⟩ rfl hl rfl (lv_room (Nat.le_of_ble_eq_true rfl)) dX8_calls_128 ⟨Nat.le_of_ble_eq_true rfl, Nat.le_of_ble_eq_true rfl⟩ (fun H locs G => ?_)
        have h := Option.some.inj h
        have h := hz1 _ h.symm
        exact m_vret (pc := 131) X G hr hlk dX8_calls_131 (congrArg (celM κ ad r0) h)
      refine lv_if_ne (pc := 108) (tgt := 116) X.1 X.2.1 dX8_calls_108 (by decide) (fun hc21 => ?_) (fun hc21 => ?_)
      · have h := it_pos h hc21
        refine lv_iload (pc := 116) X.1 X.2.1 dX8_calls_116 (lv_at hl 2 rfl) ?_
        refine lv_if_eq (pc := 118) (tgt := 126) X.1 X.2.1 dX8_calls_118 (by decide) (fun hc22 => ?_) (fun hc22 => ?_)
        · have h := it_pos h hc22
          refine lv_bipush (pc := 126) (v := 37) X.1 X.2.1 dX8_calls_126 (by decide) ?_
          exact hk20 37 _ _ ls h G (lv_sub hl [] rfl)
        · have h := it_neg h hc22
          refine lv_bipush (pc := 121) (v := 35) X.1 X.2.1 dX8_calls_121 (by decide) ?_
          refine lv_goto (pc := 123) (tgt := 128) X.1 X.2.1 dX8_calls_123 (by decide) ?_
          exact hk20 35 _ _ ls h G (lv_sub hl [] rfl)
      · have h := it_neg h (fun q => q hc21)
        refine lv_bipush (pc := 111) (v := 36) X.1 X.2.1 dX8_calls_111 (by decide) ?_
        refine lv_goto (pc := 113) (tgt := 128) X.1 X.2.1 dX8_calls_113 (by decide) ?_
        exact hk20 36 _ _ ls h G (lv_sub hl [] rfl)
    refine lv_if_eq (pc := 81) (tgt := 102) X.1 X.2.1 dX8_calls_81 (by decide) (fun hc10 => ?_) (fun hc10 => ?_)
    · have h := it_pos h hc10
      exact hk9  _ _ ls h G (lv_sub hl [0, 1, 4] rfl)
    · have h := it_neg h hc10
      refine lv_iload (pc := 84) X.1 X.2.1 dX8_calls_84 (lv_at hl 4 rfl) ?_
      refine lv_if_ne (pc := 86) (tgt := 102) X.1 X.2.1 dX8_calls_86 (by decide) (fun hc11 => ?_) (fun hc11 => ?_)
      · have h := it_pos h hc11
        exact hk9  _ _ ls h G (lv_sub hl [0, 1, 4] rfl)
      · have h := it_neg h (fun q => q hc11)
        refine lv_iload (pc := 89) X.1 X.2.1 dX8_calls_89 (lv_at hl 5 rfl) ?_
        refine lv_aload_n (pc := 91) X.1 X.2.1 dX8_calls_91 rfl (lv_at hl 0 rfl) ?_
        refine M_getr (pc := 92) X G 0 (by decide) (by decide +kernel) fl_X8_7 dX8_calls_92 ?_
        refine lv_sipush (pc := 95) (v := 1586) X.1 X.2.1 dX8_calls_95 (by decide) ?_
        obtain ⟨hix12, h⟩ := rd_some h
        refine M_iald (pc := 98) X G (i := 0) (n := 2153) (by decide +kernel) (by decide) rfl hix12 dX8_calls_98 ?_
        refine lv_topi (fun x12 ex12 => ?_)
        rw [← ex12] at h
        refine lv_icmp_ne (pc := 99) (tgt := 132) X.1 X.2.1 dX8_calls_99 (by decide) (fun hc13 => ?_) (fun hc13 => ?_)
        · have h := it_pos h hc13
          refine lv_aload_n (pc := 132) X.1 X.2.1 dX8_calls_132 rfl (lv_at hl 0 rfl) ?_
          refine M_getr (pc := 133) X G 33 (by decide) (by decide +kernel) fl_X8_74 dX8_calls_133 ?_
          refine lv_aload_n (pc := 136) X.1 X.2.1 dX8_calls_136 rfl (lv_at hl 0 rfl) ?_
          refine M_geti (pc := 137) X G 38 (by decide) (by decide +kernel) fl_X8_211 dX8_calls_137 ?_
          refine lv_iload_n (pc := 140) X.1 X.2.1 dX8_calls_140 rfl (lv_at hl 1 rfl) ?_
          obtain ⟨hiz14, z14, ez14, h⟩ := wr_some h
          refine M_iast (pc := 141) X G (i := 33) (n := 62) ez14 (by decide +kernel) (by decide) rfl hiz14 dX8_calls_141 (fun H locs G => ?_)
          refine lv_aload_n (pc := 142) X.1 X.2.1 dX8_calls_142 rfl (lv_at hl 0 rfl) ?_
          refine M_getr (pc := 143) X G 34 (by decide) (by decide +kernel) fl_X8_77 dX8_calls_143 ?_
          refine lv_aload_n (pc := 146) X.1 X.2.1 dX8_calls_146 rfl (lv_at hl 0 rfl) ?_
          refine M_geti (pc := 147) X G 38 (by decide) (by decide +kernel) fl_X8_211 dX8_calls_147 ?_
          refine lv_iload_n (pc := 150) X.1 X.2.1 dX8_calls_150 rfl (lv_at hl 3 rfl) ?_
          obtain ⟨hiz15, z15, ez15, h⟩ := wr_some h
          refine M_iast (pc := 151) X G (i := 34) (n := 62) ez15 (by decide +kernel) (by decide) rfl hiz15 dX8_calls_151 (fun H locs G => ?_)
          refine lv_aload_n (pc := 152) X.1 X.2.1 dX8_calls_152 rfl (lv_at hl 0 rfl) ?_
          refine M_getr (pc := 153) X G 35 (by decide) (by decide +kernel) fl_X8_80 dX8_calls_153 ?_
          refine lv_aload_n (pc := 156) X.1 X.2.1 dX8_calls_156 rfl (lv_at hl 0 rfl) ?_
          refine M_geti (pc := 157) X G 38 (by decide) (by decide +kernel) fl_X8_211 dX8_calls_157 ?_
          refine lv_iload_n (pc := 160) X.1 X.2.1 dX8_calls_160 rfl (lv_at hl 2 rfl) ?_
          obtain ⟨hiz16, z16, ez16, h⟩ := wr_some h
          refine M_iast (pc := 161) X G (i := 35) (n := 62) ez16 (by decide +kernel) (by decide) rfl hiz16 dX8_calls_161 (fun H locs G => ?_)
          refine lv_aload_n (pc := 162) X.1 X.2.1 dX8_calls_162 rfl (lv_at hl 0 rfl) ?_
          refine lv_iload_n (pc := 163) X.1 X.2.1 dX8_calls_163 rfl (lv_at hl 1 rfl) ?_
          refine lv_iconst (pc := 164) (v := 0) X.1 X.2.1 dX8_calls_164 (by decide) ?_
          refine lv_aload_n (pc := 165) X.1 X.2.1 dX8_calls_165 rfl (lv_at hl 0 rfl) ?_
          refine M_geti (pc := 166) X G 38 (by decide) (by decide +kernel) fl_X8_211 dX8_calls_166 ?_
          obtain ⟨z17, ez17, h⟩ := bn_some h
          refine M_callv (pc := 169) (z1 := z17) (As := [.int p0, .int 0, .int (z16 43 38)]) (rest := []) X G (rm := rm8_enters) rfl rfl (c8_enters l D κ A ad r0 z16 p0 0 (z16 43 38) z17 ez17) g_X8_220 hd_yX8_enters ⟨Nat.le_of_ble_eq_true rfl, Nat.le_of_ble_eq_true rfl⟩ rfl hl rfl (lv_room (Nat.le_of_ble_eq_true rfl)) dX8_calls_169 ⟨Nat.le_of_ble_eq_true rfl, Nat.le_of_ble_eq_true rfl⟩ (fun H locs G => ?_)
          refine lv_aload_n (pc := 172) X.1 X.2.1 dX8_calls_172 rfl (lv_at hl 0 rfl) ?_
          refine lv_dup (pc := 173) X.1 X.2.1 dX8_calls_173 rfl ?_
          refine M_geti (pc := 174) X G 38 (by decide) (by decide +kernel) fl_X8_211 dX8_calls_174 ?_
          refine lv_iconst (pc := 177) (v := 1) X.1 X.2.1 dX8_calls_177 (by decide) ?_
          refine lv_iadd (pc := 178) X.1 X.2.1 dX8_calls_178 ?_
          obtain ⟨z18, ez18, h⟩ := bd_some h
          refine M_puti (pc := 179) X G 38 ez18 (by decide) (by decide +kernel) fl_X8_211 dX8_calls_179 (fun H locs G => ?_)
          have h := Option.some.inj h
          have h := hz1 _ h.symm
          exact m_vret (pc := 182) X G hr hlk dX8_calls_182 (congrArg (celM κ ad r0) h)
        · have h := it_neg h (fun q => q hc13)
          exact hk9  _ _ ls h G (lv_sub hl [0, 1, 4] rfl)
  · have h := it_neg h hc7
    refine lv_iload (pc := 38) X.1 X.2.1 dX8_calls_38 (lv_at hl 4 rfl) ?_
    obtain ⟨k25, ek25, h⟩ := jp_some h
    have hk25 : ∀ (x30 : Int32) (H : Heap) (locs : List Loc) (ls : Array Slot), k25 x30 = some y1 → Mm D κ A ad (celM κ ad r0 z3) s H locs → lv_has ls 7 [(0, .ref (ad 43)), (1, .int p0), (2, .int x1), (3, .int x2), (5, .int x5), (6, .int x6)] → W p l e rm8_calls s m [.ref (ad 43), .int p0].toArray below meth c H locs 0 0 (MQ below (QV D κ A ad (celM κ ad r0 res)) [.ref (ad 43), .int p0].toArray s 0 0 A) (F0 m 59 ls [.int x30]) := by
      intro x30 H locs ls h G hl
      rw [ek25] at h
      try dsimp only at h
      refine lv_istore (pc := 59) (lv' := [(4, .int x30), (0, .ref (ad 43)), (1, .int p0), (2, .int x1), (3, .int x2), (5, .int x5), (6, .int x6)]) X.1 X.2.1 dX8_calls_59 hl (by decide) rfl (fun ls hl => ?_)
      obtain ⟨x31, ex31, h⟩ := bd_some h
      refine lv_iinc (pc := 61) (v := x31) (lv' := [(5, .int x31), (4, .int x30), (0, .ref (ad 43)), (1, .int p0), (2, .int x1), (3, .int x2), (6, .int x6)]) X.1 X.2.1 dX8_calls_61 hl (k := 5) rfl (by rw [ex31]; rfl) (by decide) rfl (fun ls hl => ?_)
      refine lv_aload_n (pc := 64) X.1 X.2.1 dX8_calls_64 rfl (lv_at hl 2 rfl) ?_
      refine M_getr (pc := 65) X G 35 (by decide) (by decide +kernel) fl_X8_80 dX8_calls_65 ?_
      refine lv_iload (pc := 68) X.1 X.2.1 dX8_calls_68 (lv_at hl 6 rfl) ?_
      obtain ⟨hix32, h⟩ := rd_some h
      refine M_iald (pc := 70) X G (i := 35) (n := 62) (by decide +kernel) (by decide) rfl hix32 dX8_calls_70 ?_
      refine lv_topi (fun x32 ex32 => ?_)
      rw [← ex32] at h
      refine lv_istore (pc := 71) (lv' := [(6, .int x32), (5, .int x31), (4, .int x30), (0, .ref (ad 43)), (1, .int p0), (2, .int x1), (3, .int x2)]) X.1 X.2.1 dX8_calls_71 hl (by decide) rfl (fun ls hl => ?_)
      refine lv_goto (pc := 73) (tgt := 33) X.1 X.2.1 dX8_calls_73 (by decide) ?_
      have h := Option.some.inj h
      exact ih1 _ h.symm _ _ ls G (lv_sub hl [3, 4, 5, 6, 2, 1, 0] rfl)
    obtain ⟨k26, ek26, h⟩ := jp_some h
    have hk26 : ∀  (H : Heap) (locs : List Loc) (ls : Array Slot), k26 () = some y1 → Mm D κ A ad (celM κ ad r0 z3) s H locs → lv_has ls 7 [(0, .ref (ad 43)), (1, .int p0), (2, .int x1), (3, .int x2), (5, .int x5), (6, .int x6)] → W p l e rm8_calls s m [.ref (ad 43), .int p0].toArray below meth c H locs 0 0 (MQ below (QV D κ A ad (celM κ ad r0 res)) [.ref (ad 43), .int p0].toArray s 0 0 A) (F0 m 54 ls []) := by
      intro  H locs ls h G hl
      rw [ek26] at h
      try dsimp only at h
      refine lv_iconst (pc := 54) (v := 1) X.1 X.2.1 dX8_calls_54 (by decide) ?_
      refine lv_goto (pc := 55) (tgt := 59) X.1 X.2.1 dX8_calls_55 (by decide) ?_
      exact hk25 1 _ _ ls h G (lv_sub hl [0, 1, 2, 3, 4, 5] rfl)
    refine lv_if_ne (pc := 40) (tgt := 54) X.1 X.2.1 dX8_calls_40 (by decide) (fun hc27 => ?_) (fun hc27 => ?_)
    · have h := it_pos h hc27
      exact hk26  _ _ ls h G (lv_sub hl [0, 1, 2, 3, 5, 6] rfl)
    · have h := it_neg h (fun q => q hc27)
      refine lv_aload_n (pc := 43) X.1 X.2.1 dX8_calls_43 rfl (lv_at hl 0 rfl) ?_
      refine M_getr (pc := 44) X G 33 (by decide) (by decide +kernel) fl_X8_74 dX8_calls_44 ?_
      refine lv_iload (pc := 47) X.1 X.2.1 dX8_calls_47 (lv_at hl 6 rfl) ?_
      obtain ⟨hix28, h⟩ := rd_some h
      refine M_iald (pc := 49) X G (i := 33) (n := 62) (by decide +kernel) (by decide) rfl hix28 dX8_calls_49 ?_
      refine lv_topi (fun x28 ex28 => ?_)
      rw [← ex28] at h
      refine lv_iload_n (pc := 50) X.1 X.2.1 dX8_calls_50 rfl (lv_at hl 1 rfl) ?_
      refine lv_icmp_ne (pc := 51) (tgt := 58) X.1 X.2.1 dX8_calls_51 (by decide) (fun hc29 => ?_) (fun hc29 => ?_)
      · have h := it_pos h hc29
        refine lv_iconst (pc := 58) (v := 0) X.1 X.2.1 dX8_calls_58 (by decide) ?_
        exact hk25 0 _ _ ls h G (lv_sub hl [0, 1, 2, 3, 5, 6] rfl)
      · have h := it_neg h (fun q => q hc29)
        exact hk26  _ _ ls h G (lv_sub hl [0, 1, 2, 3, 5, 6] rfl)

abbrev rm8_fills : Room := { frames := 2, cells := 0, slots := 0, locals := 46 }
noncomputable def F8_fills (z : MS)  : Option (MS) :=
  rd (z 31) 430 (z 43 32) fun x1 =>
  rd (z 29) 430 (z 43 32) fun x2 =>
  rd (z 30) 430 (z 43 32) fun x3 =>
  bn (F8_holesOf z x2 (x3 - 1)) fun x4 =>
  jp (fun (z14 : MS) => some z14) fun k5 =>
  if (0 : Int32) ≤ x1 then
  rd (z 36) 62 x1 fun x7 =>
  if x7 ≤ x4 then
  k5 z
  else
  rd (z 34) 62 x1 fun x9 =>
  rd (z 37) 372 ((6 * x1) + x4) fun x10 =>
  rd (z 35) 62 x1 fun x11 =>
  bn (F8_enters z x9 x10 x11) fun z12 =>
  k5 z12
  else
  bn (F8_puts z 63) fun z13 =>
  k5 z13
set_option maxHeartbeats 4000000 in
set_option maxRecDepth 100000 in
theorem c8_fills (l : Launch) (D : va_G) (κ : Nat → ClassId) (A : Nat → Prop) (ad : Nat → Nat) (r0 : Nat → Option va_E) (z : MS)  (res : MS) (h : F8_fills z  = some res) : Met l yX8_fills (gw yX8_fills cX8_fills 3 none) rm8_fills (va_Pc [.ref (ad 43)] (MW D κ A ad (celM κ ad r0 z))) (QV D κ A ad (celM κ ad r0 res)) 0 0 A := by
  refine met_of (own := RX8) (by decide +kernel) rfl (Nat.le_of_ble_eq_true rfl) ?_
  intro p e s m below meth c ls X hr hlk G hl
  have hl : lv_has ls 3 [(0, .ref (ad 43))] := hl
  unfold F8_fills at h
  refine lv_aload_n (pc := 0) X.1 X.2.1 dX8_fills_0 rfl (lv_at hl 0 rfl) ?_
  refine M_getr (pc := 1) X G 31 (by decide) (by decide +kernel) fl_X8_71 dX8_fills_1 ?_
  refine lv_aload_n (pc := 4) X.1 X.2.1 dX8_fills_4 rfl (lv_at hl 0 rfl) ?_
  refine M_geti (pc := 5) X G 32 (by decide) (by decide +kernel) fl_X8_208 dX8_fills_5 ?_
  obtain ⟨hix1, h⟩ := rd_some h
  refine M_iald (pc := 8) X G (i := 31) (n := 430) (by decide +kernel) (by decide) rfl hix1 dX8_fills_8 ?_
  refine lv_topi (fun x1 ex1 => ?_)
  rw [← ex1] at h
  refine lv_istore_n (pc := 9) (lv' := [(1, .int x1), (0, .ref (ad 43))]) X.1 X.2.1 dX8_fills_9 rfl hl (by decide) rfl (fun ls hl => ?_)
  refine lv_aload_n (pc := 10) X.1 X.2.1 dX8_fills_10 rfl (lv_at hl 1 rfl) ?_
  refine lv_aload_n (pc := 11) X.1 X.2.1 dX8_fills_11 rfl (lv_at hl 1 rfl) ?_
  refine M_getr (pc := 12) X G 29 (by decide) (by decide +kernel) fl_X8_65 dX8_fills_12 ?_
  refine lv_aload_n (pc := 15) X.1 X.2.1 dX8_fills_15 rfl (lv_at hl 1 rfl) ?_
  refine M_geti (pc := 16) X G 32 (by decide) (by decide +kernel) fl_X8_208 dX8_fills_16 ?_
  obtain ⟨hix2, h⟩ := rd_some h
  refine M_iald (pc := 19) X G (i := 29) (n := 430) (by decide +kernel) (by decide) rfl hix2 dX8_fills_19 ?_
  refine lv_topi (fun x2 ex2 => ?_)
  rw [← ex2] at h
  refine lv_aload_n (pc := 20) X.1 X.2.1 dX8_fills_20 rfl (lv_at hl 1 rfl) ?_
  refine M_getr (pc := 21) X G 30 (by decide) (by decide +kernel) fl_X8_68 dX8_fills_21 ?_
  refine lv_aload_n (pc := 24) X.1 X.2.1 dX8_fills_24 rfl (lv_at hl 1 rfl) ?_
  refine M_geti (pc := 25) X G 32 (by decide) (by decide +kernel) fl_X8_208 dX8_fills_25 ?_
  obtain ⟨hix3, h⟩ := rd_some h
  refine M_iald (pc := 28) X G (i := 30) (n := 430) (by decide +kernel) (by decide) rfl hix3 dX8_fills_28 ?_
  refine lv_topi (fun x3 ex3 => ?_)
  rw [← ex3] at h
  refine lv_iconst (pc := 29) (v := 1) X.1 X.2.1 dX8_fills_29 (by decide) ?_
  refine lv_isub (pc := 30) X.1 X.2.1 dX8_fills_30 ?_
  obtain ⟨x4, ex4, h⟩ := bn_some h
  refine M_calli (pc := 31) (z1 := z) (v := x4) (As := [.int x2, .int (x3 - 1)]) (rest := []) X G (rm := rm8_holesOf) rfl rfl (c8_holesOf l D κ A ad r0 z x2 (x3 - 1) x4 ex4) g_X8_150 hd_yX8_holesOf ⟨Nat.le_of_ble_eq_true rfl, Nat.le_of_ble_eq_true rfl⟩ rfl hl rfl (lv_room (Nat.le_of_ble_eq_true rfl)) dX8_fills_31 ⟨Nat.le_of_ble_eq_true rfl, Nat.le_of_ble_eq_true rfl⟩ (fun H locs G => ?_)
  refine lv_istore_n (pc := 34) (lv' := [(2, .int x4), (1, .int x1), (0, .ref (ad 43))]) X.1 X.2.1 dX8_fills_34 rfl hl (by decide) rfl (fun ls hl => ?_)
  refine lv_iload_n (pc := 35) X.1 X.2.1 dX8_fills_35 rfl (lv_at hl 1 rfl) ?_
  obtain ⟨k5, ek5, h⟩ := jp_some h
  have hk5 : ∀ (z14 : MS) (H : Heap) (locs : List Loc) (ls : Array Slot), k5 z14 = some res → Mm D κ A ad (celM κ ad r0 z14) s H locs → lv_has ls 3 [] → W p l e rm8_fills s m [.ref (ad 43)].toArray below meth c H locs 0 0 (MQ below (QV D κ A ad (celM κ ad r0 res)) [.ref (ad 43)].toArray s 0 0 A) (F0 m 85 ls []) := by
    intro z14 H locs ls h G hl
    rw [ek5] at h
    try dsimp only at h
    have h := Option.some.inj h
    exact m_vret (pc := 85) X G hr hlk dX8_fills_85 (congrArg (celM κ ad r0) h)
  refine lv_if_ge (pc := 36) (tgt := 48) X.1 X.2.1 dX8_fills_36 (by decide) (fun hc6 => ?_) (fun hc6 => ?_)
  · have h := it_pos h hc6
    refine lv_iload_n (pc := 48) X.1 X.2.1 dX8_fills_48 rfl (lv_at hl 0 rfl) ?_
    refine lv_aload_n (pc := 49) X.1 X.2.1 dX8_fills_49 rfl (lv_at hl 2 rfl) ?_
    refine M_getr (pc := 50) X G 36 (by decide) (by decide +kernel) fl_X8_83 dX8_fills_50 ?_
    refine lv_iload_n (pc := 53) X.1 X.2.1 dX8_fills_53 rfl (lv_at hl 1 rfl) ?_
    obtain ⟨hix7, h⟩ := rd_some h
    refine M_iald (pc := 54) X G (i := 36) (n := 62) (by decide +kernel) (by decide) rfl hix7 dX8_fills_54 ?_
    refine lv_topi (fun x7 ex7 => ?_)
    rw [← ex7] at h
    refine lv_icmp_ge (pc := 55) (tgt := 85) X.1 X.2.1 dX8_fills_55 (by decide) (fun hc8 => ?_) (fun hc8 => ?_)
    · have h := it_pos h hc8
      exact hk5 z _ _ ls h G (lv_sub hl [] rfl)
    · have h := it_neg h hc8
      refine lv_aload_n (pc := 58) X.1 X.2.1 dX8_fills_58 rfl (lv_at hl 2 rfl) ?_
      refine lv_aload_n (pc := 59) X.1 X.2.1 dX8_fills_59 rfl (lv_at hl 2 rfl) ?_
      refine M_getr (pc := 60) X G 34 (by decide) (by decide +kernel) fl_X8_77 dX8_fills_60 ?_
      refine lv_iload_n (pc := 63) X.1 X.2.1 dX8_fills_63 rfl (lv_at hl 1 rfl) ?_
      obtain ⟨hix9, h⟩ := rd_some h
      refine M_iald (pc := 64) X G (i := 34) (n := 62) (by decide +kernel) (by decide) rfl hix9 dX8_fills_64 ?_
      refine lv_topi (fun x9 ex9 => ?_)
      rw [← ex9] at h
      refine lv_aload_n (pc := 65) X.1 X.2.1 dX8_fills_65 rfl (lv_at hl 2 rfl) ?_
      refine M_getr (pc := 66) X G 37 (by decide) (by decide +kernel) fl_X8_86 dX8_fills_66 ?_
      refine lv_bipush (pc := 69) (v := 6) X.1 X.2.1 dX8_fills_69 (by decide) ?_
      refine lv_iload_n (pc := 71) X.1 X.2.1 dX8_fills_71 rfl (lv_at hl 1 rfl) ?_
      refine lv_imul (pc := 72) X.1 X.2.1 dX8_fills_72 ?_
      refine lv_iload_n (pc := 73) X.1 X.2.1 dX8_fills_73 rfl (lv_at hl 0 rfl) ?_
      refine lv_iadd (pc := 74) X.1 X.2.1 dX8_fills_74 ?_
      obtain ⟨hix10, h⟩ := rd_some h
      refine M_iald (pc := 75) X G (i := 37) (n := 372) (by decide +kernel) (by decide) rfl hix10 dX8_fills_75 ?_
      refine lv_topi (fun x10 ex10 => ?_)
      rw [← ex10] at h
      refine lv_aload_n (pc := 76) X.1 X.2.1 dX8_fills_76 rfl (lv_at hl 2 rfl) ?_
      refine M_getr (pc := 77) X G 35 (by decide) (by decide +kernel) fl_X8_80 dX8_fills_77 ?_
      refine lv_iload_n (pc := 80) X.1 X.2.1 dX8_fills_80 rfl (lv_at hl 1 rfl) ?_
      obtain ⟨hix11, h⟩ := rd_some h
      refine M_iald (pc := 81) X G (i := 35) (n := 62) (by decide +kernel) (by decide) rfl hix11 dX8_fills_81 ?_
      refine lv_topi (fun x11 ex11 => ?_)
      rw [← ex11] at h
      obtain ⟨z12, ez12, h⟩ := bn_some h
      refine M_callv (pc := 82) (z1 := z12) (As := [.int x9, .int x10, .int x11]) (rest := []) X G (rm := rm8_enters) rfl rfl (c8_enters l D κ A ad r0 z x9 x10 x11 z12 ez12) g_X8_220 hd_yX8_enters ⟨Nat.le_of_ble_eq_true rfl, Nat.le_of_ble_eq_true rfl⟩ rfl hl rfl (lv_room (Nat.le_of_ble_eq_true rfl)) dX8_fills_82 ⟨Nat.le_of_ble_eq_true rfl, Nat.le_of_ble_eq_true rfl⟩ (fun H locs G => ?_)
      exact hk5 z12 _ _ ls h G (lv_sub hl [] rfl)
  · have h := it_neg h hc6
    refine lv_aload_n (pc := 39) X.1 X.2.1 dX8_fills_39 rfl (lv_at hl 2 rfl) ?_
    refine lv_bipush (pc := 40) (v := 63) X.1 X.2.1 dX8_fills_40 (by decide) ?_
    obtain ⟨z13, ez13, h⟩ := bn_some h
    refine M_callv (pc := 42) (z1 := z13) (As := [.int 63]) (rest := []) X G (rm := rm8_puts) rfl rfl (c8_puts l D κ A ad r0 z 63 z13 ez13) g_X8_217 hd_yX8_puts ⟨Nat.le_of_ble_eq_true rfl, Nat.le_of_ble_eq_true rfl⟩ rfl hl rfl (lv_room (Nat.le_of_ble_eq_true rfl)) dX8_fills_42 ⟨Nat.le_of_ble_eq_true rfl, Nat.le_of_ble_eq_true rfl⟩ (fun H locs G => ?_)
    refine lv_goto (pc := 45) (tgt := 85) X.1 X.2.1 dX8_fills_45 (by decide) ?_
    exact hk5 z13 _ _ ls h G (lv_sub hl [] rfl)

abbrev rm8_spells : Room := { frames := 3, cells := 0, slots := 0, locals := 71 }
noncomputable def F8_spells (z : MS)  : Option (MS) :=
  bd (up2 z 43 39 0) fun z1 =>
  bd (up2 z1 43 38 0) fun z2 =>
  bd (up2 z2 43 32 (-1)) fun z3 =>
  bn (F8_enters z3 26 0 (-1)) fun z4 =>
  Loop (fun (q : MS) => (fun (z5 : MS) =>
  if (z5 43 32) < 0 then
  some (.inr z5)
  else
  rd (z5 30) 430 (z5 43 32) fun x7 =>
  rd (z5 29) 430 (z5 43 32) fun x8 =>
  bn (F8_longOf z5 x8) fun x9 =>
  jp (fun (x15 : Int32) => jp (fun (z29 : MS) => some (.inl (z29))) fun k16 =>
  jp (fun (_ : Unit) => bd (up2 z5 43 32 ((z5 43 32) - 1)) fun z28 =>
  k16 z28) fun k17 =>
  if x15 = 44 then
  k17 ()
  else
  if ¬ x15 = 41 then
  rd (z5 30) 430 (z5 43 32) fun x20 =>
  wr z5 30 430 (z5 43 32) (x20 + 1) fun z21 =>
  bn (F8_isCall x15) fun x22 =>
  if x22 = 0 then
  if ¬ x15 = 63 then
  bn (F8_puts z21 x15) fun z25 =>
  k16 z25
  else
  bn (F8_fills z21) fun z26 =>
  k16 z26
  else
  bn (F8_calls z21 (x15 - 65)) fun z27 =>
  k16 z27
  else
  k17 ()) fun k10 =>
  if x9 ≤ x7 then
  k10 41
  else
  rd (z5 29) 430 (z5 43 32) fun x12 =>
  rd (z5 30) 430 (z5 43 32) fun x13 =>
  bn (F8_signOf z5 x12 x13) fun x14 =>
  k10 x14) q) (z4)
set_option maxHeartbeats 4000000 in
set_option maxRecDepth 100000 in
theorem c8_spells (l : Launch) (D : va_G) (κ : Nat → ClassId) (A : Nat → Prop) (ad : Nat → Nat) (r0 : Nat → Option va_E) (z : MS)  (res : MS) (h : F8_spells z  = some res) : Met l yX8_spells (gw yX8_spells cX8_spells 2 none) rm8_spells (va_Pc [.ref (ad 43)] (MW D κ A ad (celM κ ad r0 z))) (QV D κ A ad (celM κ ad r0 res)) 0 0 A := by
  refine met_of (own := RX8) (by decide +kernel) rfl (Nat.le_of_ble_eq_true rfl) ?_
  intro p e s m below meth c ls X hr hlk G hl
  have hl : lv_has ls 2 [(0, .ref (ad 43))] := hl
  unfold F8_spells at h
  refine lv_aload_n (pc := 0) X.1 X.2.1 dX8_spells_0 rfl (lv_at hl 0 rfl) ?_
  refine lv_iconst (pc := 1) (v := 0) X.1 X.2.1 dX8_spells_1 (by decide) ?_
  obtain ⟨z1, ez1, h⟩ := bd_some h
  refine M_puti (pc := 2) X G 39 ez1 (by decide) (by decide +kernel) fl_X8_205 dX8_spells_2 (fun H locs G => ?_)
  refine lv_aload_n (pc := 5) X.1 X.2.1 dX8_spells_5 rfl (lv_at hl 0 rfl) ?_
  refine lv_iconst (pc := 6) (v := 0) X.1 X.2.1 dX8_spells_6 (by decide) ?_
  obtain ⟨z2, ez2, h⟩ := bd_some h
  refine M_puti (pc := 7) X G 38 ez2 (by decide) (by decide +kernel) fl_X8_211 dX8_spells_7 (fun H locs G => ?_)
  refine lv_aload_n (pc := 10) X.1 X.2.1 dX8_spells_10 rfl (lv_at hl 0 rfl) ?_
  refine lv_iconst (pc := 11) (v := (-1)) X.1 X.2.1 dX8_spells_11 (by decide) ?_
  obtain ⟨z3, ez3, h⟩ := bd_some h
  refine M_puti (pc := 12) X G 32 ez3 (by decide) (by decide +kernel) fl_X8_208 dX8_spells_12 (fun H locs G => ?_)
  refine lv_aload_n (pc := 15) X.1 X.2.1 dX8_spells_15 rfl (lv_at hl 0 rfl) ?_
  refine lv_bipush (pc := 16) (v := 26) X.1 X.2.1 dX8_spells_16 (by decide) ?_
  refine lv_iconst (pc := 18) (v := 0) X.1 X.2.1 dX8_spells_18 (by decide) ?_
  refine lv_iconst (pc := 19) (v := (-1)) X.1 X.2.1 dX8_spells_19 (by decide) ?_
  obtain ⟨z4, ez4, h⟩ := bn_some h
  refine M_callv (pc := 20) (z1 := z4) (As := [.int 26, .int 0, .int (-1)]) (rest := []) X G (rm := rm8_enters) rfl rfl (c8_enters l D κ A ad r0 z3 26 0 (-1) z4 ez4) g_X8_220 hd_yX8_enters ⟨Nat.le_of_ble_eq_true rfl, Nat.le_of_ble_eq_true rfl⟩ rfl hl rfl (lv_room (Nat.le_of_ble_eq_true rfl)) dX8_spells_20 ⟨Nat.le_of_ble_eq_true rfl, Nat.le_of_ble_eq_true rfl⟩ (fun H locs G => ?_)
  refine Loop_ind (P := fun (q : MS) => ∀ (H : Heap) (locs : List Loc) (ls : Array Slot), Mm D κ A ad (celM κ ad r0 q) s H locs → lv_has ls 2 [(0, .ref (ad 43))] → W p l e rm8_spells s m [.ref (ad 43)].toArray below meth c H locs 0 0 (MQ below (QV D κ A ad (celM κ ad r0 res)) [.ref (ad 43)].toArray s 0 0 A) (F0 m 23 ls [])) ?_ h _ _ ls G (lv_sub hl [0] rfl)
  intro z5 y1 h ih1 hz1 H locs ls G hl
  try dsimp only at h ih1 G hl ⊢
  refine lv_aload_n (pc := 23) X.1 X.2.1 dX8_spells_23 rfl (lv_at hl 0 rfl) ?_
  refine M_geti (pc := 24) X G 32 (by decide) (by decide +kernel) fl_X8_208 dX8_spells_24 ?_
  refine lv_if_lt (pc := 27) (tgt := 160) X.1 X.2.1 dX8_spells_27 (by decide) (fun hc6 => ?_) (fun hc6 => ?_)
  · have h := it_pos h hc6
    have h := Option.some.inj h
    have h := hz1 _ h.symm
    exact m_vret (pc := 160) X G hr hlk dX8_spells_160 (congrArg (celM κ ad r0) h)
  · have h := it_neg h hc6
    refine lv_aload_n (pc := 30) X.1 X.2.1 dX8_spells_30 rfl (lv_at hl 0 rfl) ?_
    refine M_getr (pc := 31) X G 30 (by decide) (by decide +kernel) fl_X8_68 dX8_spells_31 ?_
    refine lv_aload_n (pc := 34) X.1 X.2.1 dX8_spells_34 rfl (lv_at hl 0 rfl) ?_
    refine M_geti (pc := 35) X G 32 (by decide) (by decide +kernel) fl_X8_208 dX8_spells_35 ?_
    obtain ⟨hix7, h⟩ := rd_some h
    refine M_iald (pc := 38) X G (i := 30) (n := 430) (by decide +kernel) (by decide) rfl hix7 dX8_spells_38 ?_
    refine lv_topi (fun x7 ex7 => ?_)
    rw [← ex7] at h
    refine lv_aload_n (pc := 39) X.1 X.2.1 dX8_spells_39 rfl (lv_at hl 0 rfl) ?_
    refine lv_aload_n (pc := 40) X.1 X.2.1 dX8_spells_40 rfl (lv_at hl 0 rfl) ?_
    refine M_getr (pc := 41) X G 29 (by decide) (by decide +kernel) fl_X8_65 dX8_spells_41 ?_
    refine lv_aload_n (pc := 44) X.1 X.2.1 dX8_spells_44 rfl (lv_at hl 0 rfl) ?_
    refine M_geti (pc := 45) X G 32 (by decide) (by decide +kernel) fl_X8_208 dX8_spells_45 ?_
    obtain ⟨hix8, h⟩ := rd_some h
    refine M_iald (pc := 48) X G (i := 29) (n := 430) (by decide +kernel) (by decide) rfl hix8 dX8_spells_48 ?_
    refine lv_topi (fun x8 ex8 => ?_)
    rw [← ex8] at h
    obtain ⟨x9, ex9, h⟩ := bn_some h
    refine M_calli (pc := 49) (z1 := z5) (v := x9) (As := [.int x8]) (rest := [.int x7]) X G (rm := rm8_longOf) rfl rfl (c8_longOf l D κ A ad r0 z5 x8 x9 ex9) g_X8_191 hd_yX8_longOf ⟨Nat.le_of_ble_eq_true rfl, Nat.le_of_ble_eq_true rfl⟩ rfl hl rfl (lv_room (Nat.le_of_ble_eq_true rfl)) dX8_spells_49 ⟨Nat.le_of_ble_eq_true rfl, Nat.le_of_ble_eq_true rfl⟩ (fun H locs G => ?_)
    obtain ⟨k10, ek10, h⟩ := jp_some h
    have hk10 : ∀ (x15 : Int32) (H : Heap) (locs : List Loc) (ls : Array Slot), k10 x15 = some y1 → Mm D κ A ad (celM κ ad r0 z5) s H locs → lv_has ls 2 [(0, .ref (ad 43))] → W p l e rm8_spells s m [.ref (ad 43)].toArray below meth c H locs 0 0 (MQ below (QV D κ A ad (celM κ ad r0 res)) [.ref (ad 43)].toArray s 0 0 A) (F0 m 82 ls [.int x15]) := by
      intro x15 H locs ls h G hl
      rw [ek10] at h
      try dsimp only at h
      refine lv_istore_n (pc := 82) (lv' := [(1, .int x15), (0, .ref (ad 43))]) X.1 X.2.1 dX8_spells_82 rfl hl (by decide) rfl (fun ls hl => ?_)
      refine lv_iload_n (pc := 83) X.1 X.2.1 dX8_spells_83 rfl (lv_at hl 0 rfl) ?_
      refine lv_bipush (pc := 84) (v := 44) X.1 X.2.1 dX8_spells_84 (by decide) ?_
      obtain ⟨k16, ek16, h⟩ := jp_some h
      have hk16 : ∀ (z29 : MS) (H : Heap) (locs : List Loc) (ls : Array Slot), k16 z29 = some y1 → Mm D κ A ad (celM κ ad r0 z29) s H locs → lv_has ls 2 [(0, .ref (ad 43))] → W p l e rm8_spells s m [.ref (ad 43)].toArray below meth c H locs 0 0 (MQ below (QV D κ A ad (celM κ ad r0 res)) [.ref (ad 43)].toArray s 0 0 A) (F0 m 157 ls []) := by
        intro z29 H locs ls h G hl
        rw [ek16] at h
        try dsimp only at h
        refine lv_goto (pc := 157) (tgt := 23) X.1 X.2.1 dX8_spells_157 (by decide) ?_
        have h := Option.some.inj h
        exact ih1 _ h.symm _ _ ls G (lv_sub hl [0] rfl)
      obtain ⟨k17, ek17, h⟩ := jp_some h
      have hk17 : ∀  (H : Heap) (locs : List Loc) (ls : Array Slot), k17 () = some y1 → Mm D κ A ad (celM κ ad r0 z5) s H locs → lv_has ls 2 [(0, .ref (ad 43))] → W p l e rm8_spells s m [.ref (ad 43)].toArray below meth c H locs 0 0 (MQ below (QV D κ A ad (celM κ ad r0 res)) [.ref (ad 43)].toArray s 0 0 A) (F0 m 95 ls []) := by
        intro  H locs ls h G hl
        rw [ek17] at h
        try dsimp only at h
        refine lv_aload_n (pc := 95) X.1 X.2.1 dX8_spells_95 rfl (lv_at hl 0 rfl) ?_
        refine lv_dup (pc := 96) X.1 X.2.1 dX8_spells_96 rfl ?_
        refine M_geti (pc := 97) X G 32 (by decide) (by decide +kernel) fl_X8_208 dX8_spells_97 ?_
        refine lv_iconst (pc := 100) (v := 1) X.1 X.2.1 dX8_spells_100 (by decide) ?_
        refine lv_isub (pc := 101) X.1 X.2.1 dX8_spells_101 ?_
        obtain ⟨z28, ez28, h⟩ := bd_some h
        refine M_puti (pc := 102) X G 32 ez28 (by decide) (by decide +kernel) fl_X8_208 dX8_spells_102 (fun H locs G => ?_)
        refine lv_goto (pc := 105) (tgt := 157) X.1 X.2.1 dX8_spells_105 (by decide) ?_
        exact hk16 z28 _ _ ls h G (lv_sub hl [0] rfl)
      refine lv_icmp_eq (pc := 86) (tgt := 95) X.1 X.2.1 dX8_spells_86 (by decide) (fun hc18 => ?_) (fun hc18 => ?_)
      · have h := it_pos h hc18
        exact hk17  _ _ ls h G (lv_sub hl [1] rfl)
      · have h := it_neg h hc18
        refine lv_iload_n (pc := 89) X.1 X.2.1 dX8_spells_89 rfl (lv_at hl 0 rfl) ?_
        refine lv_bipush (pc := 90) (v := 41) X.1 X.2.1 dX8_spells_90 (by decide) ?_
        refine lv_icmp_ne (pc := 92) (tgt := 108) X.1 X.2.1 dX8_spells_92 (by decide) (fun hc19 => ?_) (fun hc19 => ?_)
        · have h := it_pos h hc19
          refine lv_aload_n (pc := 108) X.1 X.2.1 dX8_spells_108 rfl (lv_at hl 1 rfl) ?_
          refine M_getr (pc := 109) X G 30 (by decide) (by decide +kernel) fl_X8_68 dX8_spells_109 ?_
          refine lv_aload_n (pc := 112) X.1 X.2.1 dX8_spells_112 rfl (lv_at hl 1 rfl) ?_
          refine M_geti (pc := 113) X G 32 (by decide) (by decide +kernel) fl_X8_208 dX8_spells_113 ?_
          refine lv_dup2_11 (pc := 116) X.1 X.2.1 dX8_spells_116 rfl rfl ?_
          obtain ⟨hix20, h⟩ := rd_some h
          refine M_iald (pc := 117) X G (i := 30) (n := 430) (by decide +kernel) (by decide) rfl hix20 dX8_spells_117 ?_
          refine lv_topi (fun x20 ex20 => ?_)
          rw [← ex20] at h
          refine lv_iconst (pc := 118) (v := 1) X.1 X.2.1 dX8_spells_118 (by decide) ?_
          refine lv_iadd (pc := 119) X.1 X.2.1 dX8_spells_119 ?_
          obtain ⟨hiz21, z21, ez21, h⟩ := wr_some h
          refine M_iast (pc := 120) X G (i := 30) (n := 430) ez21 (by decide +kernel) (by decide) rfl hiz21 dX8_spells_120 (fun H locs G => ?_)
          refine lv_iload_n (pc := 121) X.1 X.2.1 dX8_spells_121 rfl (lv_at hl 0 rfl) ?_
          obtain ⟨x22, ex22, h⟩ := bn_some h
          refine m_callsi0 (pc := 122) (v := x22) (As := [.int x15]) (rest := []) X G (rm := rm8_isCall) rfl rfl (c8_isCall l D κ A ad (celM κ ad r0 z21) x15 x22 ex22) g_X8_125 hs_yX8_isCall ⟨Nat.le_of_ble_eq_true rfl, Nat.le_of_ble_eq_true rfl⟩ rfl hl rfl (lv_room (Nat.le_of_ble_eq_true rfl)) dX8_spells_122 ⟨Nat.le_of_ble_eq_true rfl, Nat.le_of_ble_eq_true rfl⟩ (fun H locs G => ?_)
          refine lv_if_eq (pc := 125) (tgt := 139) X.1 X.2.1 dX8_spells_125 (by decide) (fun hc23 => ?_) (fun hc23 => ?_)
          · have h := it_pos h hc23
            refine lv_iload_n (pc := 139) X.1 X.2.1 dX8_spells_139 rfl (lv_at hl 0 rfl) ?_
            refine lv_bipush (pc := 140) (v := 63) X.1 X.2.1 dX8_spells_140 (by decide) ?_
            refine lv_icmp_ne (pc := 142) (tgt := 152) X.1 X.2.1 dX8_spells_142 (by decide) (fun hc24 => ?_) (fun hc24 => ?_)
            · have h := it_pos h hc24
              refine lv_aload_n (pc := 152) X.1 X.2.1 dX8_spells_152 rfl (lv_at hl 1 rfl) ?_
              refine lv_iload_n (pc := 153) X.1 X.2.1 dX8_spells_153 rfl (lv_at hl 0 rfl) ?_
              obtain ⟨z25, ez25, h⟩ := bn_some h
              refine M_callv (pc := 154) (z1 := z25) (As := [.int x15]) (rest := []) X G (rm := rm8_puts) rfl rfl (c8_puts l D κ A ad r0 z21 x15 z25 ez25) g_X8_217 hd_yX8_puts ⟨Nat.le_of_ble_eq_true rfl, Nat.le_of_ble_eq_true rfl⟩ rfl hl rfl (lv_room (Nat.le_of_ble_eq_true rfl)) dX8_spells_154 ⟨Nat.le_of_ble_eq_true rfl, Nat.le_of_ble_eq_true rfl⟩ (fun H locs G => ?_)
              exact hk16 z25 _ _ ls h G (lv_sub hl [1] rfl)
            · have h := it_neg h (fun q => q hc24)
              refine lv_aload_n (pc := 145) X.1 X.2.1 dX8_spells_145 rfl (lv_at hl 1 rfl) ?_
              obtain ⟨z26, ez26, h⟩ := bn_some h
              refine M_callv (pc := 146) (z1 := z26) (As := []) (rest := []) X G (rm := rm8_fills) rfl rfl (c8_fills l D κ A ad r0 z21  z26 ez26) g_X8_226 hd_yX8_fills ⟨Nat.le_of_ble_eq_true rfl, Nat.le_of_ble_eq_true rfl⟩ rfl hl rfl (lv_room (Nat.le_of_ble_eq_true rfl)) dX8_spells_146 ⟨Nat.le_of_ble_eq_true rfl, Nat.le_of_ble_eq_true rfl⟩ (fun H locs G => ?_)
              refine lv_goto (pc := 149) (tgt := 157) X.1 X.2.1 dX8_spells_149 (by decide) ?_
              exact hk16 z26 _ _ ls h G (lv_sub hl [1] rfl)
          · have h := it_neg h hc23
            refine lv_aload_n (pc := 128) X.1 X.2.1 dX8_spells_128 rfl (lv_at hl 1 rfl) ?_
            refine lv_iload_n (pc := 129) X.1 X.2.1 dX8_spells_129 rfl (lv_at hl 0 rfl) ?_
            refine lv_bipush (pc := 130) (v := 65) X.1 X.2.1 dX8_spells_130 (by decide) ?_
            refine lv_isub (pc := 132) X.1 X.2.1 dX8_spells_132 ?_
            obtain ⟨z27, ez27, h⟩ := bn_some h
            refine M_callv (pc := 133) (z1 := z27) (As := [.int (x15 - 65)]) (rest := []) X G (rm := rm8_calls) rfl rfl (c8_calls l D κ A ad r0 z21 (x15 - 65) z27 ez27) g_X8_224 hd_yX8_calls ⟨Nat.le_of_ble_eq_true rfl, Nat.le_of_ble_eq_true rfl⟩ rfl hl rfl (lv_room (Nat.le_of_ble_eq_true rfl)) dX8_spells_133 ⟨Nat.le_of_ble_eq_true rfl, Nat.le_of_ble_eq_true rfl⟩ (fun H locs G => ?_)
            refine lv_goto (pc := 136) (tgt := 157) X.1 X.2.1 dX8_spells_136 (by decide) ?_
            exact hk16 z27 _ _ ls h G (lv_sub hl [1] rfl)
        · have h := it_neg h (fun q => q hc19)
          exact hk17  _ _ ls h G (lv_sub hl [1] rfl)
    refine lv_icmp_ge (pc := 52) (tgt := 80) X.1 X.2.1 dX8_spells_52 (by decide) (fun hc11 => ?_) (fun hc11 => ?_)
    · have h := it_pos h hc11
      refine lv_bipush (pc := 80) (v := 41) X.1 X.2.1 dX8_spells_80 (by decide) ?_
      exact hk10 41 _ _ ls h G (lv_sub hl [0] rfl)
    · have h := it_neg h hc11
      refine lv_aload_n (pc := 55) X.1 X.2.1 dX8_spells_55 rfl (lv_at hl 0 rfl) ?_
      refine lv_aload_n (pc := 56) X.1 X.2.1 dX8_spells_56 rfl (lv_at hl 0 rfl) ?_
      refine M_getr (pc := 57) X G 29 (by decide) (by decide +kernel) fl_X8_65 dX8_spells_57 ?_
      refine lv_aload_n (pc := 60) X.1 X.2.1 dX8_spells_60 rfl (lv_at hl 0 rfl) ?_
      refine M_geti (pc := 61) X G 32 (by decide) (by decide +kernel) fl_X8_208 dX8_spells_61 ?_
      obtain ⟨hix12, h⟩ := rd_some h
      refine M_iald (pc := 64) X G (i := 29) (n := 430) (by decide +kernel) (by decide) rfl hix12 dX8_spells_64 ?_
      refine lv_topi (fun x12 ex12 => ?_)
      rw [← ex12] at h
      refine lv_aload_n (pc := 65) X.1 X.2.1 dX8_spells_65 rfl (lv_at hl 0 rfl) ?_
      refine M_getr (pc := 66) X G 30 (by decide) (by decide +kernel) fl_X8_68 dX8_spells_66 ?_
      refine lv_aload_n (pc := 69) X.1 X.2.1 dX8_spells_69 rfl (lv_at hl 0 rfl) ?_
      refine M_geti (pc := 70) X G 32 (by decide) (by decide +kernel) fl_X8_208 dX8_spells_70 ?_
      obtain ⟨hix13, h⟩ := rd_some h
      refine M_iald (pc := 73) X G (i := 30) (n := 430) (by decide +kernel) (by decide) rfl hix13 dX8_spells_73 ?_
      refine lv_topi (fun x13 ex13 => ?_)
      rw [← ex13] at h
      obtain ⟨x14, ex14, h⟩ := bn_some h
      refine M_calli (pc := 74) (z1 := z5) (v := x14) (As := [.int x12, .int x13]) (rest := []) X G (rm := rm8_signOf) rfl rfl (c8_signOf l D κ A ad r0 z5 x12 x13 x14 ex14) g_X8_135 hd_yX8_signOf ⟨Nat.le_of_ble_eq_true rfl, Nat.le_of_ble_eq_true rfl⟩ rfl hl rfl (lv_room (Nat.le_of_ble_eq_true rfl)) dX8_spells_74 ⟨Nat.le_of_ble_eq_true rfl, Nat.le_of_ble_eq_true rfl⟩ (fun H locs G => ?_)
      refine lv_goto (pc := 77) (tgt := 82) X.1 X.2.1 dX8_spells_77 (by decide) ?_
      exact hk10 x14 _ _ ls h G (lv_sub hl [0] rfl)

abbrev rm8_expand : Room := { frames := 4, cells := 0, slots := 0, locals := 93 }
noncomputable def F8_expand (z : MS)  : Option (MS × Int32) :=
  bn2 (F8_isWhole z) fun z2 x1 =>
  jp (fun (x5 : Int32) => bn2 (F8_refused z2 x5) fun z7 x6 =>
  if x6 = 0 then
  bn (F8_saves z7) fun z9 =>
  bn (F8_begins z9 26) fun z10 =>
  bn2 (F8_measures z10) fun z12 x11 =>
  if ¬ x11 = 0 then
  Loop (fun (q : Int32 × MS) => (fun (x14 : Int32) (z15 : MS) =>
  if 360 ≤ x14 then
  wr z15 0 2153 1792 (z15 43 28) fun z17 =>
  wr z17 0 2153 1788 (z17 43 25) fun z18 =>
  wr z18 0 2153 1789 (z18 43 26) fun z19 =>
  rd (z19 0) 2153 (1790 : Int32) fun x20 =>
  wr z19 0 2153 1790 (x20 + 1) fun z21 =>
  bn (F8_spells z21) fun z22 =>
  wr z22 0 2153 1587 (z22 43 39) fun z23 =>
  some (.inr (z23, z23 43 39))
  else
  jp (fun (x27 : Int32) => wr z15 0 2153 (1793 + x14) x27 fun z28 =>
  bd (x14 + 1) fun x29 =>
  some (.inl (x29, z28))) fun k24 =>
  if (6 * (z15 43 28)) ≤ x14 then
  k24 0
  else
  rd (z15 27) 360 x14 fun x26 =>
  k24 x26) q.1 q.2) (0, z12)
  else
  rd (z12 0) 2153 (1791 : Int32) fun x30 =>
  wr z12 0 2153 1791 (x30 + 1) fun z31 =>
  some (z31, (-1))
  else
  some (z7, 0)) fun k3 =>
  if x1 = 0 then
  k3 1
  else
  k3 0
set_option maxHeartbeats 4000000 in
set_option maxRecDepth 100000 in
theorem c8_expand (l : Launch) (D : va_G) (κ : Nat → ClassId) (A : Nat → Prop) (ad : Nat → Nat) (r0 : Nat → Option va_E) (z : MS)  (res : MS × Int32) (h : F8_expand z  = some res) : Met l yX8_expand (gw yX8_expand cX8_expand 2 (some (FieldType.int))) rm8_expand (va_Pc [.ref (ad 43)] (MW D κ A ad (celM κ ad r0 z))) (QI D κ A ad (celM κ ad r0 res.1) res.2) 0 0 A := by
  refine met_of (own := RX8) (by decide +kernel) rfl (Nat.le_of_ble_eq_true rfl) ?_
  intro p e s m below meth c ls X hr hlk G hl
  have hl : lv_has ls 2 [(0, .ref (ad 43))] := hl
  unfold F8_expand at h
  refine lv_aload_n (pc := 0) X.1 X.2.1 dX8_expand_0 rfl (lv_at hl 0 rfl) ?_
  refine lv_aload_n (pc := 1) X.1 X.2.1 dX8_expand_1 rfl (lv_at hl 0 rfl) ?_
  obtain ⟨z2, x1, ex1, h⟩ := bn2_some h
  refine M_calli (pc := 2) (z1 := z2) (v := x1) (As := []) (rest := [.ref (ad 43)]) X G (rm := rm8_isWhole) rfl rfl (c8_isWhole l D κ A ad r0 z  (z2, x1) ex1) g_X8_139 hd_yX8_isWhole ⟨Nat.le_of_ble_eq_true rfl, Nat.le_of_ble_eq_true rfl⟩ rfl hl rfl (lv_room (Nat.le_of_ble_eq_true rfl)) dX8_expand_2 ⟨Nat.le_of_ble_eq_true rfl, Nat.le_of_ble_eq_true rfl⟩ (fun H locs G => ?_)
  obtain ⟨k3, ek3, h⟩ := jp_some h
  have hk3 : ∀ (x5 : Int32) (H : Heap) (locs : List Loc) (ls : Array Slot), k3 x5 = some res → Mm D κ A ad (celM κ ad r0 z2) s H locs → lv_has ls 2 [(0, .ref (ad 43))] → W p l e rm8_expand s m [.ref (ad 43)].toArray below meth c H locs 0 0 (MQ below (QI D κ A ad (celM κ ad r0 res.1) res.2) [.ref (ad 43)].toArray s 0 0 A) (F0 m 13 ls [.int x5, .ref (ad 43)]) := by
    intro x5 H locs ls h G hl
    rw [ek3] at h
    try dsimp only at h
    obtain ⟨z7, x6, ex6, h⟩ := bn2_some h
    refine M_calli (pc := 13) (z1 := z7) (v := x6) (As := [.int x5]) (rest := []) X G (rm := rm8_refused) rfl rfl (c8_refused l D κ A ad r0 z2 x5 (z7, x6) ex6) g_X8_116 hd_yX8_refused ⟨Nat.le_of_ble_eq_true rfl, Nat.le_of_ble_eq_true rfl⟩ rfl hl rfl (lv_room (Nat.le_of_ble_eq_true rfl)) dX8_expand_13 ⟨Nat.le_of_ble_eq_true rfl, Nat.le_of_ble_eq_true rfl⟩ (fun H locs G => ?_)
    refine lv_if_eq (pc := 16) (tgt := 21) X.1 X.2.1 dX8_expand_16 (by decide) (fun hc8 => ?_) (fun hc8 => ?_)
    · have h := it_pos h hc8
      refine lv_aload_n (pc := 21) X.1 X.2.1 dX8_expand_21 rfl (lv_at hl 0 rfl) ?_
      obtain ⟨z9, ez9, h⟩ := bn_some h
      refine M_callv (pc := 22) (z1 := z9) (As := []) (rest := []) X G (rm := rm8_saves) rfl rfl (c8_saves l D κ A ad r0 z7  z9 ez9) g_X8_143 hd_yX8_saves ⟨Nat.le_of_ble_eq_true rfl, Nat.le_of_ble_eq_true rfl⟩ rfl hl rfl (lv_room (Nat.le_of_ble_eq_true rfl)) dX8_expand_22 ⟨Nat.le_of_ble_eq_true rfl, Nat.le_of_ble_eq_true rfl⟩ (fun H locs G => ?_)
      refine lv_aload_n (pc := 25) X.1 X.2.1 dX8_expand_25 rfl (lv_at hl 0 rfl) ?_
      refine lv_bipush (pc := 26) (v := 26) X.1 X.2.1 dX8_expand_26 (by decide) ?_
      obtain ⟨z10, ez10, h⟩ := bn_some h
      refine M_callv (pc := 28) (z1 := z10) (As := [.int 26]) (rest := []) X G (rm := rm8_begins) rfl rfl (c8_begins l D κ A ad r0 z9 26 z10 ez10) g_X8_229 hd_yX8_begins ⟨Nat.le_of_ble_eq_true rfl, Nat.le_of_ble_eq_true rfl⟩ rfl hl rfl (lv_room (Nat.le_of_ble_eq_true rfl)) dX8_expand_28 ⟨Nat.le_of_ble_eq_true rfl, Nat.le_of_ble_eq_true rfl⟩ (fun H locs G => ?_)
      refine lv_aload_n (pc := 31) X.1 X.2.1 dX8_expand_31 rfl (lv_at hl 0 rfl) ?_
      obtain ⟨z12, x11, ex11, h⟩ := bn2_some h
      refine M_calli (pc := 32) (z1 := z12) (v := x11) (As := []) (rest := []) X G (rm := rm8_measures) rfl rfl (c8_measures l D κ A ad r0 z10  (z12, x11) ex11) g_X8_232 hd_yX8_measures ⟨Nat.le_of_ble_eq_true rfl, Nat.le_of_ble_eq_true rfl⟩ rfl hl rfl (lv_room (Nat.le_of_ble_eq_true rfl)) dX8_expand_32 ⟨Nat.le_of_ble_eq_true rfl, Nat.le_of_ble_eq_true rfl⟩ (fun H locs G => ?_)
      refine lv_if_ne (pc := 35) (tgt := 52) X.1 X.2.1 dX8_expand_35 (by decide) (fun hc13 => ?_) (fun hc13 => ?_)
      · have h := it_pos h hc13
        refine lv_iconst (pc := 52) (v := 0) X.1 X.2.1 dX8_expand_52 (by decide) ?_
        refine lv_istore_n (pc := 53) (lv' := [(1, .int 0), (0, .ref (ad 43))]) X.1 X.2.1 dX8_expand_53 rfl hl (by decide) rfl (fun ls hl => ?_)
        refine Loop_ind (P := fun (q : Int32 × MS) => ∀ (H : Heap) (locs : List Loc) (ls : Array Slot), Mm D κ A ad (celM κ ad r0 q.2) s H locs → lv_has ls 2 [(0, .ref (ad 43)), (1, .int q.1)] → W p l e rm8_expand s m [.ref (ad 43)].toArray below meth c H locs 0 0 (MQ below (QI D κ A ad (celM κ ad r0 res.1) res.2) [.ref (ad 43)].toArray s 0 0 A) (F0 m 54 ls [])) ?_ h _ _ ls G (lv_sub hl [1, 0] rfl)
        intro q y1 h ih1 hz1 H locs ls G hl
        obtain ⟨x14, z15⟩ := q
        try dsimp only at h ih1 G hl ⊢
        refine lv_iload_n (pc := 54) X.1 X.2.1 dX8_expand_54 rfl (lv_at hl 1 rfl) ?_
        refine lv_sipush (pc := 55) (v := 360) X.1 X.2.1 dX8_expand_55 (by decide) ?_
        refine lv_icmp_ge (pc := 58) (tgt := 98) X.1 X.2.1 dX8_expand_58 (by decide) (fun hc16 => ?_) (fun hc16 => ?_)
        · have h := it_pos h hc16
          refine lv_aload_n (pc := 98) X.1 X.2.1 dX8_expand_98 rfl (lv_at hl 0 rfl) ?_
          refine M_getr (pc := 99) X G 0 (by decide) (by decide +kernel) fl_X8_7 dX8_expand_99 ?_
          refine lv_sipush (pc := 102) (v := 1792) X.1 X.2.1 dX8_expand_102 (by decide) ?_
          refine lv_aload_n (pc := 105) X.1 X.2.1 dX8_expand_105 rfl (lv_at hl 0 rfl) ?_
          refine M_geti (pc := 106) X G 28 (by decide) (by decide +kernel) fl_X8_163 dX8_expand_106 ?_
          obtain ⟨hiz17, z17, ez17, h⟩ := wr_some h
          refine M_iast (pc := 109) X G (i := 0) (n := 2153) ez17 (by decide +kernel) (by decide) rfl hiz17 dX8_expand_109 (fun H locs G => ?_)
          refine lv_aload_n (pc := 110) X.1 X.2.1 dX8_expand_110 rfl (lv_at hl 0 rfl) ?_
          refine M_getr (pc := 111) X G 0 (by decide) (by decide +kernel) fl_X8_7 dX8_expand_111 ?_
          refine lv_sipush (pc := 114) (v := 1788) X.1 X.2.1 dX8_expand_114 (by decide) ?_
          refine lv_aload_n (pc := 117) X.1 X.2.1 dX8_expand_117 rfl (lv_at hl 0 rfl) ?_
          refine M_geti (pc := 118) X G 25 (by decide) (by decide +kernel) fl_X8_169 dX8_expand_118 ?_
          obtain ⟨hiz18, z18, ez18, h⟩ := wr_some h
          refine M_iast (pc := 121) X G (i := 0) (n := 2153) ez18 (by decide +kernel) (by decide) rfl hiz18 dX8_expand_121 (fun H locs G => ?_)
          refine lv_aload_n (pc := 122) X.1 X.2.1 dX8_expand_122 rfl (lv_at hl 0 rfl) ?_
          refine M_getr (pc := 123) X G 0 (by decide) (by decide +kernel) fl_X8_7 dX8_expand_123 ?_
          refine lv_sipush (pc := 126) (v := 1789) X.1 X.2.1 dX8_expand_126 (by decide) ?_
          refine lv_aload_n (pc := 129) X.1 X.2.1 dX8_expand_129 rfl (lv_at hl 0 rfl) ?_
          refine M_geti (pc := 130) X G 26 (by decide) (by decide +kernel) fl_X8_172 dX8_expand_130 ?_
          obtain ⟨hiz19, z19, ez19, h⟩ := wr_some h
          refine M_iast (pc := 133) X G (i := 0) (n := 2153) ez19 (by decide +kernel) (by decide) rfl hiz19 dX8_expand_133 (fun H locs G => ?_)
          refine lv_aload_n (pc := 134) X.1 X.2.1 dX8_expand_134 rfl (lv_at hl 0 rfl) ?_
          refine M_getr (pc := 135) X G 0 (by decide) (by decide +kernel) fl_X8_7 dX8_expand_135 ?_
          refine lv_sipush (pc := 138) (v := 1790) X.1 X.2.1 dX8_expand_138 (by decide) ?_
          refine lv_dup2_11 (pc := 141) X.1 X.2.1 dX8_expand_141 rfl rfl ?_
          obtain ⟨hix20, h⟩ := rd_some h
          refine M_iald (pc := 142) X G (i := 0) (n := 2153) (by decide +kernel) (by decide) rfl hix20 dX8_expand_142 ?_
          refine lv_topi (fun x20 ex20 => ?_)
          rw [← ex20] at h
          refine lv_iconst (pc := 143) (v := 1) X.1 X.2.1 dX8_expand_143 (by decide) ?_
          refine lv_iadd (pc := 144) X.1 X.2.1 dX8_expand_144 ?_
          obtain ⟨hiz21, z21, ez21, h⟩ := wr_some h
          refine M_iast (pc := 145) X G (i := 0) (n := 2153) ez21 (by decide +kernel) (by decide) rfl hiz21 dX8_expand_145 (fun H locs G => ?_)
          refine lv_aload_n (pc := 146) X.1 X.2.1 dX8_expand_146 rfl (lv_at hl 0 rfl) ?_
          obtain ⟨z22, ez22, h⟩ := bn_some h
          refine M_callv (pc := 147) (z1 := z22) (As := []) (rest := []) X G (rm := rm8_spells) rfl rfl (c8_spells l D κ A ad r0 z21  z22 ez22) g_X8_235 hd_yX8_spells ⟨Nat.le_of_ble_eq_true rfl, Nat.le_of_ble_eq_true rfl⟩ rfl hl rfl (lv_room (Nat.le_of_ble_eq_true rfl)) dX8_expand_147 ⟨Nat.le_of_ble_eq_true rfl, Nat.le_of_ble_eq_true rfl⟩ (fun H locs G => ?_)
          refine lv_aload_n (pc := 150) X.1 X.2.1 dX8_expand_150 rfl (lv_at hl 0 rfl) ?_
          refine M_getr (pc := 151) X G 0 (by decide) (by decide +kernel) fl_X8_7 dX8_expand_151 ?_
          refine lv_sipush (pc := 154) (v := 1587) X.1 X.2.1 dX8_expand_154 (by decide) ?_
          refine lv_aload_n (pc := 157) X.1 X.2.1 dX8_expand_157 rfl (lv_at hl 0 rfl) ?_
          refine M_geti (pc := 158) X G 39 (by decide) (by decide +kernel) fl_X8_205 dX8_expand_158 ?_
          obtain ⟨hiz23, z23, ez23, h⟩ := wr_some h
          refine M_iast (pc := 161) X G (i := 0) (n := 2153) ez23 (by decide +kernel) (by decide) rfl hiz23 dX8_expand_161 (fun H locs G => ?_)
          refine lv_aload_n (pc := 162) X.1 X.2.1 dX8_expand_162 rfl (lv_at hl 0 rfl) ?_
          refine M_geti (pc := 163) X G 39 (by decide) (by decide +kernel) fl_X8_205 dX8_expand_163 ?_
          have h := Option.some.inj h
          have h := hz1 _ h.symm
          exact m_iret (pc := 166) X G hr hlk dX8_expand_166 (congrArg Prod.snd h) (congrArg (fun q : MS × Int32 => celM κ ad r0 q.1) h)
        · have h := it_neg h hc16
          refine lv_aload_n (pc := 61) X.1 X.2.1 dX8_expand_61 rfl (lv_at hl 0 rfl) ?_
          refine M_getr (pc := 62) X G 0 (by decide) (by decide +kernel) fl_X8_7 dX8_expand_62 ?_
          refine lv_sipush (pc := 65) (v := 1793) X.1 X.2.1 dX8_expand_65 (by decide) ?_
          refine lv_iload_n (pc := 68) X.1 X.2.1 dX8_expand_68 rfl (lv_at hl 1 rfl) ?_
          refine lv_iadd (pc := 69) X.1 X.2.1 dX8_expand_69 ?_
          refine lv_iload_n (pc := 70) X.1 X.2.1 dX8_expand_70 rfl (lv_at hl 1 rfl) ?_
          refine lv_bipush (pc := 71) (v := 6) X.1 X.2.1 dX8_expand_71 (by decide) ?_
          refine lv_aload_n (pc := 73) X.1 X.2.1 dX8_expand_73 rfl (lv_at hl 0 rfl) ?_
          refine M_geti (pc := 74) X G 28 (by decide) (by decide +kernel) fl_X8_163 dX8_expand_74 ?_
          refine lv_imul (pc := 77) X.1 X.2.1 dX8_expand_77 ?_
          obtain ⟨k24, ek24, h⟩ := jp_some h
          have hk24 : ∀ (x27 : Int32) (H : Heap) (locs : List Loc) (ls : Array Slot), k24 x27 = some y1 → Mm D κ A ad (celM κ ad r0 z15) s H locs → lv_has ls 2 [(0, .ref (ad 43)), (1, .int x14)] → W p l e rm8_expand s m [.ref (ad 43)].toArray below meth c H locs 0 0 (MQ below (QI D κ A ad (celM κ ad r0 res.1) res.2) [.ref (ad 43)].toArray s 0 0 A) (F0 m 91 ls [.int x27, .int (1793 + x14), .ref (ad 0)]) := by
            intro x27 H locs ls h G hl
            rw [ek24] at h
            try dsimp only at h
            obtain ⟨hiz28, z28, ez28, h⟩ := wr_some h
            refine M_iast (pc := 91) X G (i := 0) (n := 2153) ez28 (by decide +kernel) (by decide) rfl hiz28 dX8_expand_91 (fun H locs G => ?_)
            obtain ⟨x29, ex29, h⟩ := bd_some h
            refine lv_iinc (pc := 92) (v := x29) (lv' := [(1, .int x29), (0, .ref (ad 43))]) X.1 X.2.1 dX8_expand_92 hl (k := 1) rfl (by rw [ex29]; rfl) (by decide) rfl (fun ls hl => ?_)
            refine lv_goto (pc := 95) (tgt := 54) X.1 X.2.1 dX8_expand_95 (by decide) ?_
            have h := Option.some.inj h
            exact ih1 _ h.symm _ _ ls G (lv_sub hl [1, 0] rfl)
          refine lv_icmp_ge (pc := 78) (tgt := 90) X.1 X.2.1 dX8_expand_78 (by decide) (fun hc25 => ?_) (fun hc25 => ?_)
          · have h := it_pos h hc25
            refine lv_iconst (pc := 90) (v := 0) X.1 X.2.1 dX8_expand_90 (by decide) ?_
            exact hk24 0 _ _ ls h G (lv_sub hl [0, 1] rfl)
          · have h := it_neg h hc25
            refine lv_aload_n (pc := 81) X.1 X.2.1 dX8_expand_81 rfl (lv_at hl 0 rfl) ?_
            refine M_getr (pc := 82) X G 27 (by decide) (by decide +kernel) fl_X8_62 dX8_expand_82 ?_
            refine lv_iload_n (pc := 85) X.1 X.2.1 dX8_expand_85 rfl (lv_at hl 1 rfl) ?_
            obtain ⟨hix26, h⟩ := rd_some h
            refine M_iald (pc := 86) X G (i := 27) (n := 360) (by decide +kernel) (by decide) rfl hix26 dX8_expand_86 ?_
            refine lv_topi (fun x26 ex26 => ?_)
            rw [← ex26] at h
            refine lv_goto (pc := 87) (tgt := 91) X.1 X.2.1 dX8_expand_87 (by decide) ?_
            exact hk24 x26 _ _ ls h G (lv_sub hl [0, 1] rfl)
      · have h := it_neg h (fun q => q hc13)
        refine lv_aload_n (pc := 38) X.1 X.2.1 dX8_expand_38 rfl (lv_at hl 0 rfl) ?_
        refine M_getr (pc := 39) X G 0 (by decide) (by decide +kernel) fl_X8_7 dX8_expand_39 ?_
        refine lv_sipush (pc := 42) (v := 1791) X.1 X.2.1 dX8_expand_42 (by decide) ?_
        refine lv_dup2_11 (pc := 45) X.1 X.2.1 dX8_expand_45 rfl rfl ?_
        obtain ⟨hix30, h⟩ := rd_some h
        refine M_iald (pc := 46) X G (i := 0) (n := 2153) (by decide +kernel) (by decide) rfl hix30 dX8_expand_46 ?_
        refine lv_topi (fun x30 ex30 => ?_)
        rw [← ex30] at h
        refine lv_iconst (pc := 47) (v := 1) X.1 X.2.1 dX8_expand_47 (by decide) ?_
        refine lv_iadd (pc := 48) X.1 X.2.1 dX8_expand_48 ?_
        obtain ⟨hiz31, z31, ez31, h⟩ := wr_some h
        refine M_iast (pc := 49) X G (i := 0) (n := 2153) ez31 (by decide +kernel) (by decide) rfl hiz31 dX8_expand_49 (fun H locs G => ?_)
        refine lv_iconst (pc := 50) (v := (-1)) X.1 X.2.1 dX8_expand_50 (by decide) ?_
        have h := Option.some.inj h
        exact m_iret (pc := 51) X G hr hlk dX8_expand_51 (congrArg Prod.snd h) (congrArg (fun q : MS × Int32 => celM κ ad r0 q.1) h)
    · have h := it_neg h hc8
      refine lv_iconst (pc := 19) (v := 0) X.1 X.2.1 dX8_expand_19 (by decide) ?_
      have h := Option.some.inj h
      exact m_iret (pc := 20) X G hr hlk dX8_expand_20 (congrArg Prod.snd h) (congrArg (fun q : MS × Int32 => celM κ ad r0 q.1) h)
  refine lv_if_eq (pc := 5) (tgt := 12) X.1 X.2.1 dX8_expand_5 (by decide) (fun hc4 => ?_) (fun hc4 => ?_)
  · have h := it_pos h hc4
    refine lv_iconst (pc := 12) (v := 1) X.1 X.2.1 dX8_expand_12 (by decide) ?_
    exact hk3 1 _ _ ls h G (lv_sub hl [0] rfl)
  · have h := it_neg h hc4
    refine lv_iconst (pc := 8) (v := 0) X.1 X.2.1 dX8_expand_8 (by decide) ?_
    refine lv_goto (pc := 9) (tgt := 13) X.1 X.2.1 dX8_expand_9 (by decide) ?_
    exact hk3 0 _ _ ls h G (lv_sub hl [0] rfl)

abbrev rm8_undo : Room := { frames := 1, cells := 0, slots := 0, locals := 21 }
noncomputable def F8_undo (z : MS)  : Option (MS × Int32) :=
  jp (fun (x3 : Int32) => bn2 (F8_refused z x3) fun z5 x4 =>
  if x4 = 0 then
  bd (up2 z5 43 2 ((z5 43 2) - 1)) fun z7 =>
  Loop (fun (q : Int32 × MS) => (fun (x8 : Int32) (z9 : MS) =>
  if 2153 ≤ x8 then
  some (.inr (z9, z9 43 2))
  else
  rd (z9 1) 12918 ((2153 * (z9 43 2)) + x8) fun x11 =>
  wr z9 0 2153 x8 x11 fun z12 =>
  bd (x8 + 1) fun x13 =>
  some (.inl (x13, z12))) q.1 q.2) (0, z7)
  else
  some (z5, 0)) fun k1 =>
  if ¬ (z 43 2) = 0 then
  k1 0
  else
  k1 1
set_option maxHeartbeats 4000000 in
set_option maxRecDepth 100000 in
theorem c8_undo (l : Launch) (D : va_G) (κ : Nat → ClassId) (A : Nat → Prop) (ad : Nat → Nat) (r0 : Nat → Option va_E) (z : MS)  (res : MS × Int32) (h : F8_undo z  = some res) : Met l yX8_undo (gw yX8_undo cX8_undo 2 (some (FieldType.int))) rm8_undo (va_Pc [.ref (ad 43)] (MW D κ A ad (celM κ ad r0 z))) (QI D κ A ad (celM κ ad r0 res.1) res.2) 0 0 A := by
  refine met_of (own := RX8) (by decide +kernel) rfl (Nat.le_of_ble_eq_true rfl) ?_
  intro p e s m below meth c ls X hr hlk G hl
  have hl : lv_has ls 2 [(0, .ref (ad 43))] := hl
  unfold F8_undo at h
  refine lv_aload_n (pc := 0) X.1 X.2.1 dX8_undo_0 rfl (lv_at hl 0 rfl) ?_
  refine lv_aload_n (pc := 1) X.1 X.2.1 dX8_undo_1 rfl (lv_at hl 0 rfl) ?_
  refine M_geti (pc := 2) X G 2 (by decide) (by decide +kernel) fl_X8_109 dX8_undo_2 ?_
  obtain ⟨k1, ek1, h⟩ := jp_some h
  have hk1 : ∀ (x3 : Int32) (H : Heap) (locs : List Loc) (ls : Array Slot), k1 x3 = some res → Mm D κ A ad (celM κ ad r0 z) s H locs → lv_has ls 2 [(0, .ref (ad 43))] → W p l e rm8_undo s m [.ref (ad 43)].toArray below meth c H locs 0 0 (MQ below (QI D κ A ad (celM κ ad r0 res.1) res.2) [.ref (ad 43)].toArray s 0 0 A) (F0 m 13 ls [.int x3, .ref (ad 43)]) := by
    intro x3 H locs ls h G hl
    rw [ek1] at h
    try dsimp only at h
    obtain ⟨z5, x4, ex4, h⟩ := bn2_some h
    refine M_calli (pc := 13) (z1 := z5) (v := x4) (As := [.int x3]) (rest := []) X G (rm := rm8_refused) rfl rfl (c8_refused l D κ A ad r0 z x3 (z5, x4) ex4) g_X8_116 hd_yX8_refused ⟨Nat.le_of_ble_eq_true rfl, Nat.le_of_ble_eq_true rfl⟩ rfl hl rfl (lv_room (Nat.le_of_ble_eq_true rfl)) dX8_undo_13 ⟨Nat.le_of_ble_eq_true rfl, Nat.le_of_ble_eq_true rfl⟩ (fun H locs G => ?_)
    refine lv_if_eq (pc := 16) (tgt := 21) X.1 X.2.1 dX8_undo_16 (by decide) (fun hc6 => ?_) (fun hc6 => ?_)
    · have h := it_pos h hc6
      refine lv_aload_n (pc := 21) X.1 X.2.1 dX8_undo_21 rfl (lv_at hl 0 rfl) ?_
      refine lv_dup (pc := 22) X.1 X.2.1 dX8_undo_22 rfl ?_
      refine M_geti (pc := 23) X G 2 (by decide) (by decide +kernel) fl_X8_109 dX8_undo_23 ?_
      refine lv_iconst (pc := 26) (v := 1) X.1 X.2.1 dX8_undo_26 (by decide) ?_
      refine lv_isub (pc := 27) X.1 X.2.1 dX8_undo_27 ?_
      obtain ⟨z7, ez7, h⟩ := bd_some h
      refine M_puti (pc := 28) X G 2 ez7 (by decide) (by decide +kernel) fl_X8_109 dX8_undo_28 (fun H locs G => ?_)
      refine lv_iconst (pc := 31) (v := 0) X.1 X.2.1 dX8_undo_31 (by decide) ?_
      refine lv_istore_n (pc := 32) (lv' := [(1, .int 0), (0, .ref (ad 43))]) X.1 X.2.1 dX8_undo_32 rfl hl (by decide) rfl (fun ls hl => ?_)
      refine Loop_ind (P := fun (q : Int32 × MS) => ∀ (H : Heap) (locs : List Loc) (ls : Array Slot), Mm D κ A ad (celM κ ad r0 q.2) s H locs → lv_has ls 2 [(0, .ref (ad 43)), (1, .int q.1)] → W p l e rm8_undo s m [.ref (ad 43)].toArray below meth c H locs 0 0 (MQ below (QI D κ A ad (celM κ ad r0 res.1) res.2) [.ref (ad 43)].toArray s 0 0 A) (F0 m 33 ls [])) ?_ h _ _ ls G (lv_sub hl [1, 0] rfl)
      intro q y1 h ih1 hz1 H locs ls G hl
      obtain ⟨x8, z9⟩ := q
      try dsimp only at h ih1 G hl ⊢
      refine lv_iload_n (pc := 33) X.1 X.2.1 dX8_undo_33 rfl (lv_at hl 1 rfl) ?_
      refine lv_sipush (pc := 34) (v := 2153) X.1 X.2.1 dX8_undo_34 (by decide) ?_
      refine lv_icmp_ge (pc := 37) (tgt := 67) X.1 X.2.1 dX8_undo_37 (by decide) (fun hc10 => ?_) (fun hc10 => ?_)
      · have h := it_pos h hc10
        refine lv_aload_n (pc := 67) X.1 X.2.1 dX8_undo_67 rfl (lv_at hl 0 rfl) ?_
        refine M_geti (pc := 68) X G 2 (by decide) (by decide +kernel) fl_X8_109 dX8_undo_68 ?_
        have h := Option.some.inj h
        have h := hz1 _ h.symm
        exact m_iret (pc := 71) X G hr hlk dX8_undo_71 (congrArg Prod.snd h) (congrArg (fun q : MS × Int32 => celM κ ad r0 q.1) h)
      · have h := it_neg h hc10
        refine lv_aload_n (pc := 40) X.1 X.2.1 dX8_undo_40 rfl (lv_at hl 0 rfl) ?_
        refine M_getr (pc := 41) X G 0 (by decide) (by decide +kernel) fl_X8_7 dX8_undo_41 ?_
        refine lv_iload_n (pc := 44) X.1 X.2.1 dX8_undo_44 rfl (lv_at hl 1 rfl) ?_
        refine lv_aload_n (pc := 45) X.1 X.2.1 dX8_undo_45 rfl (lv_at hl 0 rfl) ?_
        refine M_getr (pc := 46) X G 1 (by decide) (by decide +kernel) fl_X8_13 dX8_undo_46 ?_
        refine lv_sipush (pc := 49) (v := 2153) X.1 X.2.1 dX8_undo_49 (by decide) ?_
        refine lv_aload_n (pc := 52) X.1 X.2.1 dX8_undo_52 rfl (lv_at hl 0 rfl) ?_
        refine M_geti (pc := 53) X G 2 (by decide) (by decide +kernel) fl_X8_109 dX8_undo_53 ?_
        refine lv_imul (pc := 56) X.1 X.2.1 dX8_undo_56 ?_
        refine lv_iload_n (pc := 57) X.1 X.2.1 dX8_undo_57 rfl (lv_at hl 1 rfl) ?_
        refine lv_iadd (pc := 58) X.1 X.2.1 dX8_undo_58 ?_
        obtain ⟨hix11, h⟩ := rd_some h
        refine M_iald (pc := 59) X G (i := 1) (n := 12918) (by decide +kernel) (by decide) rfl hix11 dX8_undo_59 ?_
        refine lv_topi (fun x11 ex11 => ?_)
        rw [← ex11] at h
        obtain ⟨hiz12, z12, ez12, h⟩ := wr_some h
        refine M_iast (pc := 60) X G (i := 0) (n := 2153) ez12 (by decide +kernel) (by decide) rfl hiz12 dX8_undo_60 (fun H locs G => ?_)
        obtain ⟨x13, ex13, h⟩ := bd_some h
        refine lv_iinc (pc := 61) (v := x13) (lv' := [(1, .int x13), (0, .ref (ad 43))]) X.1 X.2.1 dX8_undo_61 hl (k := 1) rfl (by rw [ex13]; rfl) (by decide) rfl (fun ls hl => ?_)
        refine lv_goto (pc := 64) (tgt := 33) X.1 X.2.1 dX8_undo_64 (by decide) ?_
        have h := Option.some.inj h
        exact ih1 _ h.symm _ _ ls G (lv_sub hl [1, 0] rfl)
    · have h := it_neg h hc6
      refine lv_iconst (pc := 19) (v := 0) X.1 X.2.1 dX8_undo_19 (by decide) ?_
      have h := Option.some.inj h
      exact m_iret (pc := 20) X G hr hlk dX8_undo_20 (congrArg Prod.snd h) (congrArg (fun q : MS × Int32 => celM κ ad r0 q.1) h)
  refine lv_if_ne (pc := 5) (tgt := 12) X.1 X.2.1 dX8_undo_5 (by decide) (fun hc2 => ?_) (fun hc2 => ?_)
  · have h := it_pos h hc2
    refine lv_iconst (pc := 12) (v := 0) X.1 X.2.1 dX8_undo_12 (by decide) ?_
    exact hk1 0 _ _ ls h G (lv_sub hl [0] rfl)
  · have h := it_neg h (fun q => q hc2)
    refine lv_iconst (pc := 8) (v := 1) X.1 X.2.1 dX8_undo_8 (by decide) ?_
    refine lv_goto (pc := 9) (tgt := 13) X.1 X.2.1 dX8_undo_9 (by decide) ?_
    exact hk1 1 _ _ ls h G (lv_sub hl [0] rfl)
