/-! THE LAW: its loop, its start, its end; laid by wip/p27/mkwalk.py -/
theorem dc0 : Op.cmpValue (FP.dcmp FP.dconst0 FP.dconst0) .l = 0 := cmp0 (by unfold vf_n64; decide +kernel)
theorem B2.imp {D : va_G} {κ : Nat → ClassId} {A : Nat → Prop} {o q : Nat} {P1 P2 R1 R2 : BS → Prop} {H : Heap} (h : B2 D κ A o q P1 P2 H) (g1 : ∀ b, P1 b → R1 b) (g2 : ∀ b, P2 b → R2 b) : B2 D κ A o q R1 R2 H := by
  obtain ⟨ad1, ad2, b1, b2, h1, h2, h3, h4, h5⟩ := h
  exact ⟨ad1, ad2, b1, b2, h1, h2, g1 _ h3, g2 _ h4, h5⟩
section LP
variable {p : Program} {l : Launch} {e : Env} {s : State} {m : MethodId} {args : Array Value} {below : List Frame} {meth : Method} {c : Code} {Q : State → Prop}
variable {D : va_G} {κ : Nat → ClassId} {A : Nat → Prop} {bs L o q : Nat} {xs : Nat → Int32}
set_option maxHeartbeats 4000000 in
set_option maxRecDepth 100000 in
theorem law_loop (X : CallFix p m c cL_law 7 s args G0 RL) (hfl : l.stackTraces = false) (hX : va_X bs L xs s s.heap) (hbl : bs < s.heap.size) (hbA : ¬ A bs) (hL : L ≤ 260)
    (hend : ∀ (z : MS) (cells slots : Nat) (H : Heap) (locs : List Loc) (ls : Array Slot), cells ≤ 3500 → slots ≤ 125000 → Wo D κ A (B2 D κ A o q (Inv z) (Inv z)) s H locs → lv_has ls 7 [(3, .int 1), (2, .ref q), (1, .ref o), (0, .ref bs)] → W p l e room_1 s m args below meth c H locs cells slots Q (F0 m 180 ls [])) :
    ∀ (n j : Nat) (z : MS) (cells slots : Nat) (H : Heap) (locs : List Loc) (ls : Array Slot), n + j = 30 → cells ≤ 100 + 110 * j → slots ≤ 64000 + 1867 * j → Wo D κ A (B2 D κ A o q (Inv z) (Inv z)) s H locs → lv_has ls 7 [(4, .int (nI j)), (3, .int 1), (2, .ref q), (1, .ref o), (0, .ref bs)] → W p l e room_1 s m args below meth c H locs cells slots Q (F0 m 86 ls []) := by
  intro n
  induction n with
  | zero =>
    intro j z cells slots H locs ls hj hc hs G hl
    refine lv_iload (pc := 86) X.1 X.2.1 dL_law_86 (lv_at hl 0 rfl) ?_
    refine lv_bipush (pc := 88) (v := 30) X.1 X.2.1 dL_law_88 (by decide) ?_
    refine lv_icmp_ge (pc := 90) (tgt := 180) X.1 X.2.1 dL_law_90 (by decide) (fun _ => ?_) (fun hq => absurd (nI_le (a := 30) (b := j) (by omega) (by omega)) hq)
    exact hend z cells slots H locs ls (by omega) (by omega) G (lv_sub hl [1, 2, 3, 4] rfl)
  | succ n ih =>
    intro j z cells slots H locs ls hj hc hs G hl
    refine lv_iload (pc := 86) X.1 X.2.1 dL_law_86 (lv_at hl 0 rfl) ?_
    refine lv_bipush (pc := 88) (v := 30) X.1 X.2.1 dL_law_88 (by decide) ?_
    refine lv_icmp_ge (pc := 90) (tgt := 180) X.1 X.2.1 dL_law_90 (by decide) (fun hq => absurd hq (nI_ge (a := j) (b := 30) (by omega) (by decide))) (fun _ => ?_)
    refine lv_iload_n (pc := 93) X.1 X.2.1 dL_law_93 rfl (lv_at hl 1 rfl) ?_
    refine lv_if_eq (pc := 94) (tgt := 180) X.1 X.2.1 dL_law_94 (by decide) (fun hq => absurd hq one_ne) (fun _ => ?_)
    refine lv_aload_n (pc := 97) X.1 X.2.1 dL_law_97 rfl (lv_at hl 4 rfl) ?_
    refine lv_iload (pc := 98) X.1 X.2.1 dL_law_98 (lv_at hl 0 rfl) ?_
    refine w_cell (pc := 100) (rest := []) X G hX hbl hbA hL (k := j) (by omega) g_L_144 ⟨Nat.le_of_ble_eq_true rfl, Nat.le_of_ble_eq_true rfl⟩ hl (lv_room (Nat.le_of_ble_eq_true rfl)) dL_law_100 ⟨by show cells ≤ 600172; omega, by show slots ≤ 7300668; omega⟩ (fun c0 H locs hc0 G => ?_)
    refine lv_istore (pc := 103) (lv' := [(5, .int (nI c0)), (4, .int (nI j)), (3, .int 1), (2, .ref q), (1, .ref o), (0, .ref bs)]) X.1 X.2.1 dL_law_103 hl (by decide) rfl (fun ls hl => ?_)
    refine lv_aload_n (pc := 105) X.1 X.2.1 dL_law_105 rfl (lv_at hl 4 rfl) ?_
    refine lv_iload (pc := 106) X.1 X.2.1 dL_law_106 (lv_at hl 0 rfl) ?_
    obtain ⟨b1, hb1⟩ : ∃ b, Inv z b := by
      obtain ⟨ad1, ad2, b1, b2, -, -, h3, -⟩ := G.cel
      exact ⟨b1, h3⟩
    obtain ⟨⟨z1, v⟩, er, b', hb'⟩ := acts_tot hb1 hc0
    refine w_callS (pc := 108) (v := v) (B' := B2 D κ A o q (Inv z1) (Inv z)) (As := [.ref o, .int (nI c0)]) (rest := []) X G (rm := rmL_acts) rfl rfl (met_two (fun A => mL_acts l hfl D κ A o Inv Inv_S z (nI c0) (z1, v) er)) g_L_148 hs_yL_acts ⟨Nat.le_of_ble_eq_true rfl, Nat.le_of_ble_eq_true rfl⟩ rfl hl rfl (lv_room (Nat.le_of_ble_eq_true rfl)) dL_law_108 ⟨by show cells + 9 ≤ 600172; omega, by show slots + 605 ≤ 7300668; omega⟩ (fun H locs G => ?_)
    refine lv_istore (pc := 111) (lv' := [(6, .int v), (5, .int (nI c0)), (4, .int (nI j)), (3, .int 1), (2, .ref q), (1, .ref o), (0, .ref bs)]) X.1 X.2.1 dL_law_111 hl (by decide) rfl (fun ls hl => ?_)
    have at168 : ∀ (cells' slots' : Nat) (H : Heap) (locs : List Loc), cells' ≤ cells + 110 → slots' ≤ slots + 1867 → Wo D κ A (B2 D κ A o q (Inv z1) (Inv z1)) s H locs → W p l e room_1 s m args below meth c H locs cells' slots' Q (F0 m 168 ls []) := by
      intro cells' slots' H locs h1 h2 G
      refine lv_iconst (pc := 168) (v := 1) X.1 X.2.1 dL_law_168 (by decide) ?_
      refine lv_goto (pc := 169) (tgt := 173) X.1 X.2.1 dL_law_169 (by decide) ?_
      refine lv_istore_n (pc := 173) (lv' := [(3, .int 1), (6, .int v), (5, .int (nI c0)), (4, .int (nI j)), (2, .ref q), (1, .ref o), (0, .ref bs)]) X.1 X.2.1 dL_law_173 rfl hl (by decide) rfl (fun ls hl => ?_)
      refine lv_iinc (pc := 174) (v := nI (j + 1)) (lv' := [(4, .int (nI (j + 1))), (3, .int 1), (6, .int v), (5, .int (nI c0)), (2, .ref q), (1, .ref o), (0, .ref bs)]) X.1 X.2.1 dL_law_174 hl (k := 3) rfl (nI_add j 1) (by decide) rfl (fun ls hl => ?_)
      refine lv_goto (pc := 177) (tgt := 86) X.1 X.2.1 dL_law_177 (by decide) ?_
      exact ih (j + 1) z1 _ _ H locs ls (by omega) (by omega) (by omega) G (lv_sub hl [0, 1, 4, 5, 6] rfl)
    have at132 : ∀ (cells' slots' : Nat) (H : Heap) (locs : List Loc), cells' ≤ cells + 101 → slots' ≤ slots + 1262 → Wo D κ A (B2 D κ A o q (Inv z1) (Inv z)) s H locs → W p l e room_1 s m args below meth c H locs cells' slots' Q (F0 m 132 ls []) := by
      intro cells' slots' H locs h1 h2 G
      refine lv_aload_n (pc := 132) X.1 X.2.1 dL_law_132 rfl (lv_at hl 4 rfl) ?_
      refine lv_iload (pc := 133) X.1 X.2.1 dL_law_133 (lv_at hl 1 rfl) ?_
      refine w_callS (pc := 135) (v := v) (B' := B2 D κ A o q (Inv z1) (Inv z1)) (As := [.ref q, .int (nI c0)]) (rest := []) X G (rm := rmL_acts) rfl rfl (met_two' (fun A => mL_acts l hfl D κ A q Inv Inv_S z (nI c0) (z1, v) er)) g_L_148 hs_yL_acts ⟨Nat.le_of_ble_eq_true rfl, Nat.le_of_ble_eq_true rfl⟩ rfl hl rfl (lv_room (Nat.le_of_ble_eq_true rfl)) dL_law_135 ⟨by show cells' + 9 ≤ 600172; omega, by show slots' + 605 ≤ 7300668; omega⟩ (fun H locs G => ?_)
      refine lv_iload (pc := 138) X.1 X.2.1 dL_law_138 (lv_at hl 0 rfl) ?_
      refine lv_icmp_ne (pc := 140) (tgt := 172) X.1 X.2.1 dL_law_140 (by decide) (fun hq => absurd rfl hq) (fun _ => ?_)
      refine lv_iload (pc := 143) X.1 X.2.1 dL_law_143 (lv_at hl 2 rfl) ?_
      refine lv_iconst (pc := 145) (v := 2) X.1 X.2.1 dL_law_145 (by decide) ?_
      refine lv_irem (pc := 146) X.1 X.2.1 dL_law_146 (by decide) ?_
      refine lv_if_ne (pc := 147) (tgt := 160) X.1 X.2.1 dL_law_147 (by decide) (fun _ => ?_) (fun _ => ?_)
      · refine lv_aload_n (pc := 160) X.1 X.2.1 dL_law_160 rfl (lv_at hl 5 rfl) ?_
        refine lv_aload_n (pc := 161) X.1 X.2.1 dL_law_161 rfl (lv_at hl 4 rfl) ?_
        refine w_callS (pc := 162) (v := 1) (B' := B2 D κ A o q (Inv z1) (Inv z1)) (As := [.ref o, .ref q]) (rest := []) X G (rm := rmL_same) rfl rfl (M_same l D κ A o q z1) g_L_156 hs_yL_same ⟨Nat.le_of_ble_eq_true rfl, Nat.le_of_ble_eq_true rfl⟩ rfl hl rfl (lv_room (Nat.le_of_ble_eq_true rfl)) dL_law_162 ⟨by show cells' + 9 + 0 ≤ 600172; omega, by show slots' + 605 + 0 ≤ 7300668; omega⟩ (fun H locs G => ?_)
        refine lv_if_eq (pc := 165) (tgt := 172) X.1 X.2.1 dL_law_165 (by decide) (fun hq => absurd hq one_ne) (fun _ => ?_)
        exact at168 _ _ H locs (by show cells' + 9 + 0 ≤ _; omega) (by show slots' + 605 + 0 ≤ _; omega) G
      · refine lv_aload_n (pc := 150) X.1 X.2.1 dL_law_150 rfl (lv_at hl 5 rfl) ?_
        refine w_callS (pc := 151) (v := 1) (B' := B2 D κ A o q (Inv z1) (Inv z1)) (As := [.ref o]) (rest := []) X G (rm := rmL_hangs) rfl rfl (met_two (fun A => M_hangs l D κ A o z1)) g_L_140 hs_yL_hangs ⟨Nat.le_of_ble_eq_true rfl, Nat.le_of_ble_eq_true rfl⟩ rfl hl rfl (lv_room (Nat.le_of_ble_eq_true rfl)) dL_law_151 ⟨by show cells' + 9 + 0 ≤ 600172; omega, by show slots' + 605 + 0 ≤ 7300668; omega⟩ (fun H locs G => ?_)
        refine lv_if_eq (pc := 154) (tgt := 172) X.1 X.2.1 dL_law_154 (by decide) (fun hq => absurd hq one_ne) (fun _ => ?_)
        refine lv_goto (pc := 157) (tgt := 168) X.1 X.2.1 dL_law_157 (by decide) ?_
        exact at168 _ _ H locs (by show cells' + 9 + 0 ≤ _; omega) (by show slots' + 605 + 0 ≤ _; omega) G
    refine lv_iload (pc := 113) X.1 X.2.1 dL_law_113 (lv_at hl 2 rfl) ?_
    refine lv_iconst (pc := 115) (v := 3) X.1 X.2.1 dL_law_115 (by decide) ?_
    refine lv_irem (pc := 116) X.1 X.2.1 dL_law_116 (by decide) ?_
    refine lv_if_gt (pc := 117) (tgt := 132) X.1 X.2.1 dL_law_117 (by decide) (fun _ => ?_) (fun _ => ?_)
    · exact at132 _ _ H locs (by show cells + 9 ≤ _; omega) (by show slots + 605 ≤ _; omega) G
    · refine lv_aload_n (pc := 120) X.1 X.2.1 dL_law_120 rfl (lv_at hl 4 rfl) ?_
      refine lv_iload (pc := 121) X.1 X.2.1 dL_law_121 (lv_at hl 1 rfl) ?_
      refine lv_ldc (pc := 123) (v := 100000) X.1 X.2.1 X.2.2.2.1 (X.2.2.2.2 _ wc_L_151) dL_law_123 ?_
      refine lv_irem (pc := 125) X.1 X.2.1 dL_law_125 (by decide) ?_
      rw [show nI c0 - nI c0 / 100000 * 100000 = nI (c0 % 100000) from nI_rem (d := 100000) hc0 (by decide)]
      refine w_callS (pc := 126) (v := 1) (B' := B2 D κ A o q (Inv z1) (Inv z)) (As := [.ref q, .int (nI (c0 % 100000))]) (rest := []) X G (rm := rmL_refuses) rfl rfl (met_two' (fun A => M_refuses l D κ A q hfl z (Nat.mod_lt _ (by decide)))) g_L_152 hs_yL_refuses ⟨Nat.le_of_ble_eq_true rfl, Nat.le_of_ble_eq_true rfl⟩ rfl hl rfl (lv_room (Nat.le_of_ble_eq_true rfl)) dL_law_126 ⟨by show cells + 9 + 92 ≤ 600172; omega, by show slots + 605 + 657 ≤ 7300668; omega⟩ (fun H locs G => ?_)
      refine lv_if_eq (pc := 129) (tgt := 172) X.1 X.2.1 dL_law_129 (by decide) (fun hq => absurd hq one_ne) (fun _ => ?_)
      exact at132 _ _ H locs (by show cells + 9 + 92 ≤ _; omega) (by show slots + 605 + 657 ≤ _; omega) G
end LP
set_option maxHeartbeats 8000000 in
set_option maxRecDepth 100000 in
theorem whole_start {p : Program} {e : Env} {s : State} {m : MethodId} {below : List Frame} {meth : Method} {c : Code} (l : Launch) (hflags : l.flags = flags0) {b L : Nat} {xs : Nat → Int32} (hL : L ≤ 260) (C0 : lw_At p s m meth c b L xs) : W p l e room_1 s m #[Value.ref b] below meth c s.heap [] 0 0 (lw_Z below #[Value.ref b] s) (entryFrame m ([Value.ref b] : List Value).toArray 7) := by
  obtain ⟨hx, hb, hr, hml, hown, hts, hX, hbl, hlocks, hgv⟩ := id C0
  have hfl : l.stackTraces = false := by unfold Launch.stackTraces; rw [hflags]; decide +kernel
  obtain ⟨D, κ, hK⟩ := entry_K hts
  have hTH := entry_TH hts hgv
  have hbA : ¬ (fun q : Nat => s.heap.size ≤ q) b := Nat.not_le.mpr hbl
  have X : CallFix p m c cL_law 7 s #[Value.ref b] G0 RL := ⟨hx, hb, hml, hown, fun w hw => hts w (List.mem_filter.mp hw).1⟩
  have G : Mm D κ (fun q : Nat => s.heap.size ≤ q) (fun _ => 0) (fun _ => none) s s.heap [] := ⟨hK, fun i e h => (by cases h), fun i j e e' h => (by cases h), fun q h => h, va_S.rf, hTH⟩
  have hd0 := Drawn.sameBut.refl s.drawn lw_cs
  have hl := lv_entry ([.ref b]) (n := 7) (Nat.le_of_ble_eq_true rfl)
  rw [lg_entry_eq]
  generalize (lg_sl ([.ref b]) ++ List.replicate (7 - (lg_sl ([.ref b])).length) Slot.unset).toArray = ls at hl ⊢
  have hl : lv_has ls 7 [(0, .ref b)] := hl
  refine m_new (pc := 0) X G 50 (ci := 7) (N := 7) (C := RX7) (T := TX7) (ty := tyX7) (fs := [.null, .null, .null, .null, .null, .null, .int 0]) rfl rfl wl_X7 tyX7_ok (by decide +kernel) cl_L_10 ins_X7 ini_X7 (Nat.le_of_ble_eq_true rfl) (Nat.le_of_ble_eq_true rfl) dL_law_0 (fun a7 H G => ?_)
  refine lv_dup (pc := 3) X.1 X.2.1 dL_law_3 rfl ?_
  have e7 : a7 = upA (fun _ => 0) 50 a7 50 := upA_s.symm
  refine m_callC (pc := 4) (As := []) (rest := [.ref a7]) (n := 0) (a := a7) X G (rm := rm7_init) (by have q := c7_init l D κ (fun q : Nat => s.heap.size ≤ q) (upA (fun _ => 0) 50 a7) (upO (fun _ => none) 50 (.inr (7, [.null, .null, .null, .null, .null, .null, .int 0]))) (upO_n (by decide)) (upO_n (by decide)) (upO_n (by decide)) (upO_n (by decide)) (upO_n (by decide)) (upO_n (by decide)) (upO_n (by decide)) (upO_n (by decide)) (upO_n (by decide)) (upO_n (by decide)) (upO_n (by decide)) (upO_n (by decide)) (upO_n (by decide)) (upO_n (by decide)) (upO_n (by decide)) (upO_n (by decide)) (upO_n (by decide)) (upO_n (by decide)) (upO_n (by decide)) (upO_n (by decide)) upO_s; rw [← e7] at q; exact q) ml_L_136 rfl im_yX7_init ini_X7 cd_yX7_init (by decide +kernel) ⟨Nat.le_of_ble_eq_true rfl, Nat.le_of_ble_eq_true rfl⟩ rfl hl rfl (lv_room (Nat.le_of_ble_eq_true rfl)) dL_law_4 ⟨Nat.le_of_ble_eq_true rfl, Nat.le_of_ble_eq_true rfl⟩ (fun ad1 H locs hok1 G => ?_)
  have f50 : a7 = ad1 50 := e7.trans (hok1 50 (by decide)).symm
  have G : Mm D κ (fun q : Nat => s.heap.size ≤ q) ad1 (celB κ ad1 nuW b0_7) s H locs := G.same b0_world
  rw [f50]
  obtain ⟨o, ho⟩ : ∃ o, o = ad1 50 := ⟨_, rfl⟩
  refine lv_astore_n (pc := 7) (lv' := [(1, .ref (ad1 50)), (0, .ref b)]) X.1 X.2.1 dL_law_7 rfl hl (by decide) rfl (fun ls hl => ?_)
  refine second_book X G hl (Nat.le_of_ble_eq_true rfl) (Nat.le_of_ble_eq_true rfl) (fun q H locs G => ?_)
  rw [← ho] at hl G
  obtain ⟨A, hA⟩ : ∃ A : Nat → Prop, A = fun q : Nat => s.heap.size ≤ q := ⟨_, rfl⟩
  rw [← hA] at G hbA
  refine lv_astore_n (pc := 15) (lv' := [(2, .ref q), (1, .ref o), (0, .ref b)]) X.1 X.2.1 dL_law_15 rfl hl (by decide) rfl (fun ls hl => ?_)
  refine lv_aload_n (pc := 16) X.1 X.2.1 dL_law_16 rfl (lv_at hl 1 rfl) ?_
  refine w_callH (pc := 17) (v := -2) (B' := B2 D κ A o q P0 P0) (As := [.ref o]) (rest := []) X G (rm := rmL_undo) rfl rfl (met_two (fun A => bg_undo l hfl D κ A o P0 P0 (-2) (fun b h => ⟨b, P0_undo h, h⟩))) gL_92 hsL_undo ⟨Nat.le_of_ble_eq_true rfl, Nat.le_of_ble_eq_true rfl⟩ rfl hl rfl (lv_room (Nat.le_of_ble_eq_true rfl)) dL_law_17 ⟨Nat.le_of_ble_eq_true rfl, Nat.le_of_ble_eq_true rfl⟩ (fun H locs G => ?_)
  refine lv_bipush (pc := 20) (v := (-2)) X.1 X.2.1 dL_law_20 (by decide) ?_
  refine lv_icmp_ne (pc := 22) (tgt := 81) X.1 X.2.1 dL_law_22 (by decide) (fun hq => absurd rfl hq) (fun _ => ?_)
  refine lv_aload_n (pc := 25) X.1 X.2.1 dL_law_25 rfl (lv_at hl 1 rfl) ?_
  refine lv_iconst (pc := 26) (v := 0) X.1 X.2.1 dL_law_26 (by decide) ?_
  refine w_callH (pc := 27) (v := -3) (B' := B2 D κ A o q P0 P0) (As := [.ref o, .int 0]) (rest := []) X G (rm := rmL_goBack) rfl rfl (met_two (fun A => bg_goBack l hfl D κ A o P0 P0 0 (-3) (fun b h => ⟨b, P0_goBack h, h⟩))) gL_97 hsL_goBack ⟨Nat.le_of_ble_eq_true rfl, Nat.le_of_ble_eq_true rfl⟩ rfl hl rfl (lv_room (Nat.le_of_ble_eq_true rfl)) dL_law_27 ⟨Nat.le_of_ble_eq_true rfl, Nat.le_of_ble_eq_true rfl⟩ (fun H locs G => ?_)
  refine lv_bipush (pc := 30) (v := (-3)) X.1 X.2.1 dL_law_30 (by decide) ?_
  refine lv_icmp_ne (pc := 32) (tgt := 81) X.1 X.2.1 dL_law_32 (by decide) (fun hq => absurd rfl hq) (fun _ => ?_)
  refine lv_aload_n (pc := 35) X.1 X.2.1 dL_law_35 rfl (lv_at hl 1 rfl) ?_
  refine lv_iconst (pc := 36) (v := 2) X.1 X.2.1 dL_law_36 (by decide) ?_
  refine w_callH (pc := 37) (v := 8) (B' := B2 D κ A o q P0 P0) (As := [.ref o, .int 2]) (rest := []) X G (rm := rmLn_count) rfl rfl (met_two (fun A => bn_count l D κ A o P0 P0 2 8 (fun b h => ⟨b, P0_count h, h⟩))) gL_112 hsL_count ⟨Nat.le_of_ble_eq_true rfl, Nat.le_of_ble_eq_true rfl⟩ rfl hl rfl (lv_room (Nat.le_of_ble_eq_true rfl)) dL_law_37 ⟨Nat.le_of_ble_eq_true rfl, Nat.le_of_ble_eq_true rfl⟩ (fun H locs G => ?_)
  refine lv_bipush (pc := 40) (v := 8) X.1 X.2.1 dL_law_40 (by decide) ?_
  refine lv_icmp_ne (pc := 42) (tgt := 81) X.1 X.2.1 dL_law_42 (by decide) (fun hq => absurd rfl hq) (fun _ => ?_)
  refine lv_aload_n (pc := 45) X.1 X.2.1 dL_law_45 rfl (lv_at hl 1 rfl) ?_
  refine w_callVD (pc := 46) (v := FP.dconst0) (B' := B2 D κ A o q P0 P0) (As := []) (rest := []) X G (rm := rm7_meanHoles) rfl rfl (met_twoD (fun A => met_lift0D (fun ad b h50 hP => ⟨b, hP, c7_meanHoles l D κ A ad nuW b FP.dconst0 (P0_mean hP)⟩))) (B1.rcv (G.imp (fun h => h.left))) g_L_125 hd_yX7_meanHoles ⟨Nat.le_of_ble_eq_true rfl, Nat.le_of_ble_eq_true rfl⟩ rfl hl rfl (lv_room (Nat.le_of_ble_eq_true rfl)) dL_law_46 ⟨Nat.le_of_ble_eq_true rfl, Nat.le_of_ble_eq_true rfl⟩ (fun H locs G => ?_)
  refine lv_dconst0 (pc := 49) X.1 X.2.1 dL_law_49 ?_
  refine lv_dcmp (pc := 50) X.1 X.2.1 dL_law_50 ?_
  refine lv_if_ne (pc := 51) (tgt := 81) X.1 X.2.1 dL_law_51 (by decide) (fun hq => absurd dc0 hq) (fun _ => ?_)
  refine lv_aload_n (pc := 54) X.1 X.2.1 dL_law_54 rfl (lv_at hl 1 rfl) ?_
  refine lv_bipush (pc := 55) (v := 7) X.1 X.2.1 dL_law_55 (by decide) ?_
  refine w_callH (pc := 57) (v := 0) (B' := B2 D κ A o q P0 P0) (As := [.ref o, .int 7]) (rest := []) X G (rm := rmLn_result) rfl rfl (met_two (fun A => bn_result l D κ A o P0 P0 7 0 (fun b h => ⟨b, P0_result h, h⟩))) gL_106 hsL_result ⟨Nat.le_of_ble_eq_true rfl, Nat.le_of_ble_eq_true rfl⟩ rfl hl rfl (lv_room (Nat.le_of_ble_eq_true rfl)) dL_law_57 ⟨Nat.le_of_ble_eq_true rfl, Nat.le_of_ble_eq_true rfl⟩ (fun H locs G => ?_)
  refine lv_if_ne (pc := 60) (tgt := 81) X.1 X.2.1 dL_law_60 (by decide) (fun hq => absurd rfl hq) (fun _ => ?_)
  refine lv_aload_n (pc := 63) X.1 X.2.1 dL_law_63 rfl (lv_at hl 1 rfl) ?_
  refine w_callV (pc := 64) (v := 0) (B' := B2 D κ A o q P0 P0) (As := []) (rest := []) X G (rm := rm7_firstError) rfl rfl (met_two (fun A => bv_firstError l D κ A o P0 P0 0 (fun b h => P0_first h))) (B1.rcv (G.imp (fun h => h.left))) g_L_137 hd_yX7_firstError ⟨Nat.le_of_ble_eq_true rfl, Nat.le_of_ble_eq_true rfl⟩ rfl hl rfl (lv_room (Nat.le_of_ble_eq_true rfl)) dL_law_64 ⟨Nat.le_of_ble_eq_true rfl, Nat.le_of_ble_eq_true rfl⟩ (fun H locs G => ?_)
  refine lv_if_ne (pc := 67) (tgt := 81) X.1 X.2.1 dL_law_67 (by decide) (fun hq => absurd rfl hq) (fun _ => ?_)
  have G : Wo D κ A (B2 D κ A o q (Inv z0_8) (Inv z0_8)) s H locs := G.imp (fun h => h.imp (fun _ h => h.inv) (fun _ h => h.inv))
  refine lv_aload_n (pc := 70) X.1 X.2.1 dL_law_70 rfl (lv_at hl 1 rfl) ?_
  refine w_callS (pc := 71) (v := 1) (B' := B2 D κ A o q (Inv z0_8) (Inv z0_8)) (As := [.ref o]) (rest := []) X G (rm := rmL_hangs) rfl rfl (met_two (fun A => M_hangs l D κ A o z0_8)) g_L_140 hs_yL_hangs ⟨Nat.le_of_ble_eq_true rfl, Nat.le_of_ble_eq_true rfl⟩ rfl hl rfl (lv_room (Nat.le_of_ble_eq_true rfl)) dL_law_71 ⟨Nat.le_of_ble_eq_true rfl, Nat.le_of_ble_eq_true rfl⟩ (fun H locs G => ?_)
  refine lv_if_eq (pc := 74) (tgt := 81) X.1 X.2.1 dL_law_74 (by decide) (fun hq => absurd hq one_ne) (fun _ => ?_)
  refine lv_iconst (pc := 77) (v := 1) X.1 X.2.1 dL_law_77 (by decide) ?_
  refine lv_goto (pc := 78) (tgt := 82) X.1 X.2.1 dL_law_78 (by decide) ?_
  refine lv_istore_n (pc := 82) (lv' := [(3, .int 1), (2, .ref q), (1, .ref o), (0, .ref b)]) X.1 X.2.1 dL_law_82 rfl hl (by decide) rfl (fun ls hl => ?_)
  refine lv_iconst (pc := 83) (v := 0) X.1 X.2.1 dL_law_83 (by decide) ?_
  refine lv_istore (pc := 84) (lv' := [(4, .int (nI 0)), (3, .int 1), (2, .ref q), (1, .ref o), (0, .ref b)]) X.1 X.2.1 dL_law_84 hl (by decide) rfl (fun ls hl => ?_)
  refine law_loop X hfl hX hbl hbA hL (fun z cells slots H locs ls hc hs G hl => ?_) 30 0 z0_8 _ _ H locs ls (by decide) (Nat.le_of_ble_eq_true rfl) (Nat.le_of_ble_eq_true rfl) G hl
  refine lv_iload_n (pc := 180) X.1 X.2.1 dL_law_180 rfl (lv_at hl 0 rfl) ?_
  refine lv_if_eq (pc := 181) (tgt := 248) X.1 X.2.1 dL_law_181 (by decide) (fun hq => absurd hq one_ne) (fun _ => ?_)
  refine lv_aload_n (pc := 184) X.1 X.2.1 dL_law_184 rfl (lv_at hl 2 rfl) ?_
  refine lv_aload_n (pc := 185) X.1 X.2.1 dL_law_185 rfl (lv_at hl 1 rfl) ?_
  refine w_callS (pc := 186) (v := 1) (B' := B2 D κ A o q (Inv z) (Inv z)) (As := [.ref o, .ref q]) (rest := []) X G (rm := rmL_same) rfl rfl (M_same l D κ A o q z) g_L_156 hs_yL_same ⟨Nat.le_of_ble_eq_true rfl, Nat.le_of_ble_eq_true rfl⟩ rfl hl rfl (lv_room (Nat.le_of_ble_eq_true rfl)) dL_law_186 ⟨by show cells + 0 ≤ 600172; omega, by show slots + 0 ≤ 7300668; omega⟩ (fun H locs G => ?_)
  refine lv_if_eq (pc := 189) (tgt := 248) X.1 X.2.1 dL_law_189 (by decide) (fun hq => absurd hq one_ne) (fun _ => ?_)
  refine lv_aload_n (pc := 192) X.1 X.2.1 dL_law_192 rfl (lv_at hl 1 rfl) ?_
  refine w_callS (pc := 193) (v := 1) (B' := B2 D κ A o q (Inv z) (Inv z)) (As := [.ref q]) (rest := []) X G (rm := rmL_hangs) rfl rfl (met_two' (fun A => M_hangs l D κ A q z)) g_L_140 hs_yL_hangs ⟨Nat.le_of_ble_eq_true rfl, Nat.le_of_ble_eq_true rfl⟩ rfl hl rfl (lv_room (Nat.le_of_ble_eq_true rfl)) dL_law_193 ⟨by show cells + 0 + 0 ≤ 600172; omega, by show slots + 0 + 0 ≤ 7300668; omega⟩ (fun H locs G => ?_)
  refine lv_if_eq (pc := 196) (tgt := 248) X.1 X.2.1 dL_law_196 (by decide) (fun hq => absurd hq one_ne) (fun _ => ?_)
  refine W.widen (k := cells) (n := slots) (Nat.le_refl _) (Nat.le_refl _) ?_
  refine lv_aload_n (pc := 199) X.1 X.2.1 dL_law_199 rfl (lv_at hl 2 rfl) ?_
  refine lv_aload_n (pc := 200) X.1 X.2.1 dL_law_200 rfl (lv_at hl 3 rfl) ?_
  refine lv_bipush (pc := 201) (v := 30) X.1 X.2.1 dL_law_201 (by decide) ?_
  refine w_cell (pc := 203) (rest := [.ref o]) X G hX hbl hbA hL (k := 30) (by decide) g_L_144 ⟨Nat.le_of_ble_eq_true rfl, Nat.le_of_ble_eq_true rfl⟩ hl (lv_room (Nat.le_of_ble_eq_true rfl)) dL_law_203 ⟨by show cells ≤ 600172; omega, by show slots ≤ 7300668; omega⟩ (fun c1 H locs hc1 G => ?_)
  refine lv_bipush (pc := 206) (v := 6) X.1 X.2.1 dL_law_206 (by decide) ?_
  refine lv_irem (pc := 208) X.1 X.2.1 dL_law_208 (by decide) ?_
  rw [show nI c1 - nI c1 / 6 * 6 = nI (c1 % 6) from nI_rem (d := 6) hc1 (by decide)]
  refine lv_aload_n (pc := 209) X.1 X.2.1 dL_law_209 rfl (lv_at hl 3 rfl) ?_
  refine lv_bipush (pc := 210) (v := 30) X.1 X.2.1 dL_law_210 (by decide) ?_
  refine w_cell (pc := 212) (rest := [.int (nI (c1 % 6)), .ref o]) X G hX hbl hbA hL (k := 30) (by decide) g_L_144 ⟨Nat.le_of_ble_eq_true rfl, Nat.le_of_ble_eq_true rfl⟩ hl (lv_room (Nat.le_of_ble_eq_true rfl)) dL_law_212 ⟨by show cells ≤ 600172; omega, by show slots ≤ 7300668; omega⟩ (fun c2 H locs hc2 G => ?_)
  refine lv_bipush (pc := 215) (v := 8) X.1 X.2.1 dL_law_215 (by decide) ?_
  refine lv_idiv (pc := 217) X.1 X.2.1 dL_law_217 (by decide) ?_
  rw [show nI c2 / 8 = nI (c2 / 8) from nI_quo (d := 8) hc2 (by decide)]
  refine lv_bipush (pc := 218) (v := 9) X.1 X.2.1 dL_law_218 (by decide) ?_
  refine lv_irem (pc := 220) X.1 X.2.1 dL_law_220 (by decide) ?_
  rw [show nI (c2 / 8) - nI (c2 / 8) / 9 * 9 = nI (c2 / 8 % 9) from nI_rem (d := 9) (by omega) (by decide)]
  have ex : ∀ z', Wo D κ A (B2 D κ A o q (Inv z') (Inv z)) s H locs → ∃ b, Inv z' b := by
    intro z' G
    obtain ⟨ad1, ad2, b1, b2, -, -, h3, -⟩ := G.cel
    exact ⟨b1, h3⟩
  obtain ⟨b1, hb1⟩ := ex z G
  obtain ⟨⟨z1, v1⟩, er1, ev1, b1', hb1'⟩ := len_tot hb1 (k := c1 % 6) (len := c2 / 8 % 9) (by omega) (by omega)
  dsimp only at ev1
  subst ev1
  refine w_callS (pc := 221) (v := 1) (B' := B2 D κ A o q (Inv z1) (Inv z)) (As := [.ref o, .int (nI (c1 % 6)), .int (nI (c2 / 8 % 9))]) (rest := []) X G (rm := rmL_isLength) rfl rfl (met_two (fun A => mL_isLength l hfl D κ A o Inv Inv_S z (nI (c1 % 6)) (nI (c2 / 8 % 9)) (z1, 1) er1)) g_L_160 hs_yL_isLength ⟨Nat.le_of_ble_eq_true rfl, Nat.le_of_ble_eq_true rfl⟩ rfl hl rfl (lv_room (Nat.le_of_ble_eq_true rfl)) dL_law_221 ⟨by show cells + 10 ≤ 600172; omega, by show slots + 611 ≤ 7300668; omega⟩ (fun H locs G => ?_)
  refine lv_if_eq (pc := 224) (tgt := 248) X.1 X.2.1 dL_law_224 (by decide) (fun hq => absurd hq one_ne) (fun _ => ?_)
  refine lv_aload_n (pc := 227) X.1 X.2.1 dL_law_227 rfl (lv_at hl 2 rfl) ?_
  refine lv_aload_n (pc := 228) X.1 X.2.1 dL_law_228 rfl (lv_at hl 3 rfl) ?_
  refine lv_bipush (pc := 229) (v := 31) X.1 X.2.1 dL_law_229 (by decide) ?_
  refine w_cell (pc := 231) (rest := [.ref o]) X G hX hbl hbA hL (k := 31) (by decide) g_L_144 ⟨Nat.le_of_ble_eq_true rfl, Nat.le_of_ble_eq_true rfl⟩ hl (lv_room (Nat.le_of_ble_eq_true rfl)) dL_law_231 ⟨by show cells + 10 ≤ 600172; omega, by show slots + 611 ≤ 7300668; omega⟩ (fun c3 H locs hc3 G => ?_)
  refine lv_bipush (pc := 234) (v := 6) X.1 X.2.1 dL_law_234 (by decide) ?_
  refine lv_irem (pc := 236) X.1 X.2.1 dL_law_236 (by decide) ?_
  rw [show nI c3 - nI c3 / 6 * 6 = nI (c3 % 6) from nI_rem (d := 6) hc3 (by decide)]
  refine lv_iconst (pc := 237) (v := 1) X.1 X.2.1 dL_law_237 (by decide) ?_
  obtain ⟨b2, hb2⟩ : ∃ b, Inv z1 b := by
    obtain ⟨ad1, ad2, b1, b2, -, -, h3, -⟩ := G.cel
    exact ⟨b1, h3⟩
  obtain ⟨⟨z2, v2⟩, er2, ev2, b2', hb2'⟩ := len_tot hb2 (k := c3 % 6) (len := 1) (by omega) (by decide)
  dsimp only at ev2
  subst ev2
  refine w_callS (pc := 238) (v := 1) (B' := B2 D κ A o q (Inv z2) (Inv z)) (As := [.ref o, .int (nI (c3 % 6)), .int 1]) (rest := []) X G (rm := rmL_isLength) rfl rfl (met_two (fun A => mL_isLength l hfl D κ A o Inv Inv_S z1 (nI (c3 % 6)) (nI 1) (z2, 1) er2)) g_L_160 hs_yL_isLength ⟨Nat.le_of_ble_eq_true rfl, Nat.le_of_ble_eq_true rfl⟩ rfl hl rfl (lv_room (Nat.le_of_ble_eq_true rfl)) dL_law_238 ⟨by show cells + 10 + 10 ≤ 600172; omega, by show slots + 611 + 611 ≤ 7300668; omega⟩ (fun H locs G => ?_)
  refine lv_if_eq (pc := 241) (tgt := 248) X.1 X.2.1 dL_law_241 (by decide) (fun hq => absurd hq one_ne) (fun _ => ?_)
  refine lv_iconst (pc := 244) (v := 1) X.1 X.2.1 dL_law_244 (by decide) ?_
  refine lv_goto (pc := 245) (tgt := 249) X.1 X.2.1 dL_law_245 (by decide) ?_
  have hS := G.S
  rw [hA] at hS
  refine va_forget (fun q hq => hS.2.2 q hq) ?_
  refine W.widen (k := 600172) (n := 7300668) (by show cells + 10 + 10 ≤ _; omega) (by show slots + 611 + 611 ≤ _; omega) ?_
  refine W.base ?_
  exact lw_ret hd0 hx hb hr hlocks dL_law_249
