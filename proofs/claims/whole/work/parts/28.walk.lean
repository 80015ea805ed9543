/-! THE WALK FROM THE ENTRY, out of any Inv that LawOK holds of -/
set_option maxHeartbeats 8000000 in
set_option maxRecDepth 100000 in
theorem whole_of {Inv : MS → BS → Prop} (HO : LawOK Inv) (h0 : Inv z0_8 b0_7) {p : Program} {e : Env} {s : State} {m : MethodId} {below : List Frame} {meth : Method} {c : Code} (l : Launch) (hflags : l.flags = flags0) {b L : Nat} {xs : Nat → Int32} (hL : L ≤ 1536) (C0 : lw_At p s m meth c b L xs) : W p l e room_1 s m #[Value.ref b] below meth c s.heap [] 0 0 (lw_Z below #[Value.ref b] s) (entryFrame m ([Value.ref b] : List Value).toArray 9) := by
  obtain ⟨hx, hb, hr, hml, hown, hts, hX, hbl, hlocks, hgv⟩ := id C0
  have hfl : l.stackTraces = false := by unfold Launch.stackTraces; rw [hflags]; decide +kernel
  obtain ⟨D, κ, hK⟩ := entry_K hts
  have hTH := entry_TH hts hgv
  have hbA : ¬ (fun q : Nat => s.heap.size ≤ q) b := Nat.not_le.mpr hbl
  have X : CallFix p m c cL_law 9 s #[Value.ref b] G0 RL := ⟨hx, hb, hml, hown, fun w hw => hts w (List.mem_filter.mp hw).1⟩
  have G : Mm D κ (fun q : Nat => s.heap.size ≤ q) (fun _ => 0) (fun _ => none) s s.heap [] := ⟨hK, fun i e h => (by cases h), fun i j e e' h => (by cases h), fun q h => h, va_S.rf, hTH⟩
  have hd0 := Drawn.sameBut.refl s.drawn lw_cs
  have hl := lv_entry ([.ref b]) (n := 9) (Nat.le_of_ble_eq_true rfl)
  rw [lg_entry_eq]
  generalize (lg_sl ([.ref b]) ++ List.replicate (9 - (lg_sl ([.ref b])).length) Slot.unset).toArray = ls at hl ⊢
  have hl : lv_has ls 9 [(0, .ref b)] := hl
  refine m_new (pc := 0) X G 50 (ci := 7) (N := 7) (C := RX7) (T := TX7) (ty := tyX7) (fs := [.null, .null, .null, .null, .null, .null, .int 0]) rfl rfl wl_X7 tyX7_ok (by decide +kernel) cl_L_8 ins_X7 ini_X7 (Nat.le_of_ble_eq_true rfl) (Nat.le_of_ble_eq_true rfl) dL_law_0 (fun a7 H G => ?_)
  refine lv_dup (pc := 3) X.1 X.2.1 dL_law_3 rfl ?_
  have e7 : a7 = upA (fun _ => 0) 50 a7 50 := upA_s.symm
  refine m_callC (pc := 4) (As := []) (rest := [.ref a7]) (n := 0) (a := a7) X G (rm := rm7_init) (by have q := c7_init l D κ (fun q : Nat => s.heap.size ≤ q) (upA (fun _ => 0) 50 a7) (upO (fun _ => none) 50 (.inr (7, [.null, .null, .null, .null, .null, .null, .int 0]))) (upO_n (by decide)) (upO_n (by decide)) (upO_n (by decide)) (upO_n (by decide)) (upO_n (by decide)) (upO_n (by decide)) (upO_n (by decide)) (upO_n (by decide)) (upO_n (by decide)) (upO_n (by decide)) (upO_n (by decide)) (upO_n (by decide)) (upO_n (by decide)) (upO_n (by decide)) (upO_n (by decide)) (upO_n (by decide)) (upO_n (by decide)) (upO_n (by decide)) (upO_n (by decide)) (upO_n (by decide)) upO_s; rw [← e7] at q; exact q) ml_L_75 rfl im_yX7_init ini_X7 cd_yX7_init (by decide +kernel) ⟨Nat.le_of_ble_eq_true rfl, Nat.le_of_ble_eq_true rfl⟩ rfl hl rfl (lv_room (Nat.le_of_ble_eq_true rfl)) dL_law_4 ⟨Nat.le_of_ble_eq_true rfl, Nat.le_of_ble_eq_true rfl⟩ (fun ad1 H locs hok1 G => ?_)
  have f50 : a7 = ad1 50 := e7.trans (hok1 50 (by decide)).symm
  have G : Mm D κ (fun q : Nat => s.heap.size ≤ q) ad1 (celB κ ad1 (fun _ => none) b0_7) s H locs := G.same b0_world
  refine lv_astore_n (pc := 7) (lv' := [(1, .ref a7), (0, .ref b)]) X.1 X.2.1 dL_law_7 rfl hl (by decide) rfl (fun ls hl => ?_)
  refine m_new (pc := 8) X G 43 (ci := 8) (N := 43) (C := RX8) (T := TX8) (ty := tyX8) (fs := [.null, .null, .int 0, .null, .null, .null, .int 0, .int 0, .null, .int 0, .null, .null, .null, .null, .null, .null, .null, .int 0, .int 0, .null, .null, .null, .int 0, .null, .int 0, .int 0, .int 0, .null, .int 0, .null, .null, .null, .int 0, .null, .null, .null, .null, .null, .int 0, .int 0, .null, .null, .null]) rfl rfl wl_X8 tyX8_ok (by decide +kernel) cl_L_76 ins_X8 ini_X8 (Nat.le_of_ble_eq_true rfl) (Nat.le_of_ble_eq_true rfl) dL_law_8 (fun a8 H G => ?_)
  refine lv_dup (pc := 11) X.1 X.2.1 dL_law_11 rfl ?_
  have e8 : a8 = upA ad1 43 a8 43 := upA_s.symm
  refine m_callC (pc := 12) (As := []) (rest := [.ref a8]) (n := 0) (a := a8) X G (rm := rm8_init) (by have q := c8_init l D κ (fun q : Nat => s.heap.size ≤ q) (upA ad1 43 a8) (upO (celB κ ad1 (fun _ => none) b0_7) 43 (.inr (8, [.null, .null, .int 0, .null, .null, .null, .int 0, .int 0, .null, .int 0, .null, .null, .null, .null, .null, .null, .null, .int 0, .int 0, .null, .null, .null, .int 0, .null, .int 0, .int 0, .int 0, .null, .int 0, .null, .null, .null, .int 0, .null, .null, .null, .null, .null, .int 0, .int 0, .null, .null, .null]))) upO_s (upO_n (by decide)) (upO_n (by decide)) (upO_n (by decide)) (upO_n (by decide)) (upO_n (by decide)) (upO_n (by decide)) (upO_n (by decide)) (upO_n (by decide)) (upO_n (by decide)) (upO_n (by decide)) (upO_n (by decide)) (upO_n (by decide)) (upO_n (by decide)) (upO_n (by decide)) (upO_n (by decide)) (upO_n (by decide)) (upO_n (by decide)) (upO_n (by decide)) (upO_n (by decide)) (upO_n (by decide)) (upO_n (by decide)) (upO_n (by decide)) (upO_n (by decide)) (upO_n (by decide)) (upO_n (by decide)) (upO_n (by decide)) (upO_n (by decide)) (upO_n (by decide)) (upO_n (by decide)); rw [← e8] at q; exact q) ml_L_78 rfl im_yX8_init ini_X8 cd_yX8_init (by decide +kernel) ⟨Nat.le_of_ble_eq_true rfl, Nat.le_of_ble_eq_true rfl⟩ rfl hl rfl (lv_room (Nat.le_of_ble_eq_true rfl)) dL_law_12 ⟨Nat.le_of_ble_eq_true rfl, Nat.le_of_ble_eq_true rfl⟩ (fun ad2 H locs hok2 G => ?_)
  have f43 : a8 = ad2 43 := e8.trans (hok2 43 (by decide)).symm
  refine lv_astore_n (pc := 15) (lv' := [(2, .ref a8), (1, .ref a7), (0, .ref b)]) X.1 X.2.1 dL_law_15 rfl hl (by decide) rfl (fun ls hl => ?_)
  refine lv_iconst (pc := 16) (v := 1) X.1 X.2.1 dL_law_16 (by decide) ?_
  refine m_newL (pc := 17) X G 44 (N := 1) (by unfold celM; rw [if_neg (by decide), isA8_ge (by decide)]; rfl) w_arrL (by decide) (by decide) (by decide) (Nat.le_of_ble_eq_true rfl) (Nat.le_of_ble_eq_true rfl) dL_law_17 (fun a9 H G => ?_)
  refine lv_astore_n (pc := 19) (lv' := [(3, .ref a9), (2, .ref a8), (1, .ref a7), (0, .ref b)]) X.1 X.2.1 dL_law_19 rfl hl (by decide) rfl (fun ls hl => ?_)
  refine lv_iconst (pc := 20) (v := 0) X.1 X.2.1 dL_law_20 (by decide) ?_
  refine lv_istore (pc := 21) (lv' := [(4, .int (nI (3 * 0))), (3, .ref a9), (2, .ref a8), (1, .ref a7), (0, .ref b)]) X.1 X.2.1 dL_law_21 hl (by decide) rfl (fun ls hl => ?_)
  obtain ⟨ad3, had3⟩ : ∃ q, q = upA ad2 44 a9 := ⟨_, rfl⟩
  rw [← had3] at G
  have g44 : a9 = ad3 44 := by rw [had3, upA_s]
  have n8 : ∀ j, 43 < j → j ∉ ([0, 1, 3, 4, 5, 8, 10, 11, 12, 13, 14, 15, 16, 19, 20, 21, 23, 27, 29, 30, 31, 33, 34, 35, 36, 37, 40, 41, 42] : List Nat) := by
    intro j hj h
    simp only [List.mem_cons, List.not_mem_nil, or_false] at h
    omega
  have g43 : a8 = ad3 43 := by rw [had3, upA_n (by decide)]; exact f43
  have hag : ∀ j, 45 ≤ j → ad3 j = ad1 j := by
    intro j hj
    rw [had3, upA_n (by omega), hok2 j (n8 j (by omega)), upA_n (by omega)]
  have g50 : a7 = ad3 50 := f50.trans (hag 50 (by decide)).symm
  have hA3 : ∀ j, 50 ≤ j → celB κ ad3 (fun _ => none) b0_7 j = celB κ ad1 (fun _ => none) b0_7 j := by
    intro j hj
    unfold celB
    rw [if_neg (show ¬ j < 50 by omega), if_neg (show ¬ j < 50 by omega)]
    by_cases d : lvB b0_7.2.2 j = true
    · rw [if_pos d, if_pos d]
      refine congrArg some ?_
      unfold cellB objB
      have e1 : (fun k => (b0_7.2.1 j k).map ad3) = fun k => (b0_7.2.1 j k).map ad1 := by
        funext k
        cases e : b0_7.2.1 j k with
        | none => rfl
        | some t =>
          have q := lvB_ge (b0_closed j k t e)
          exact congrArg some (hag t (by omega))
      have e2 : (List.range (nfB (kd j))).map (fvB ad3 b0_7 j (kd j)) = (List.range (nfB (kd j))).map (fvB ad1 b0_7 j (kd j)) := by
        refine List.map_congr_left fun k _ => ?_
        unfold fvB
        cases e : ctB j (kd j) k with
        | some q =>
          have hq : 45 ≤ q := by
            rcases ct_live d e with h | h
            · have d' := lvB_ge d
              unfold ctB at e
              split at e <;> first | (cases e; omega) | cases e
            · have := lvB_ge h; omega
          exact congrArg Value.ref (hag q hq)
        | none =>
          dsimp only
          by_cases hm : mrB (kd j) k = true
          · rw [if_pos hm, if_pos hm]
            exact congrArg va_rf (congrFun e1 k)
          · rw [if_neg hm, if_neg hm]
      rw [e1, e2]
    · rw [if_neg d, if_neg d]
  have G : Mm D κ (fun q : Nat => s.heap.size ≤ q) ad3 (LM κ ad3 z0_8 0 b0_7) s H locs := G.same (fun j => by
    by_cases c4 : j = 44
    · subst c4
      rw [upO_s]
      rfl
    · rw [upO_n c4]
      by_cases c5 : j < 50
      · unfold LM celB celO celM
        rw [if_pos c5, if_neg c4]
        have e8' : obj8 ad3 z0_8 = obj8 ad2 z0_8 := obj8_ad (fun k hk => by rw [had3, upA_n (by omega)])
        by_cases c43 : j = 43
        · rw [if_pos c43, if_pos c43, e8']
        · rw [if_neg c43, if_neg c43]
          by_cases ca : isA8 j = true
          · rw [if_pos ca, if_pos ca]
          · rw [if_neg ca, if_neg ca, upO_n c43]
            rw [if_pos c5]
            rfl
      · have q1 : celM κ ad2 (upO (celB κ ad1 (fun _ => none) b0_7) 43 (.inr (8, [.null, .null, .int 0, .null, .null, .null, .int 0, .int 0, .null, .int 0, .null, .null, .null, .null, .null, .null, .null, .int 0, .int 0, .null, .null, .null, .int 0, .null, .int 0, .int 0, .int 0, .null, .int 0, .null, .null, .null, .int 0, .null, .null, .null, .null, .null, .int 0, .int 0, .null, .null, .null]))) z0_8 j = celB κ ad1 (fun _ => none) b0_7 j := by
          unfold celM
          rw [if_neg (by omega), if_neg (by rw [isA8_ge (by omega)]; decide), upO_n (by omega)]
        rw [q1, ← hA3 j (by omega)]
        unfold LM celB
        rw [if_neg c5, if_neg c5])
  rw [g44, g43, g50] at hl
  refine law_loop HO X hfl hX hbl hbA hL (fun cells slots H locs ls hc hs hS => ?_) (L / 3) 0 ad3 z0_8 0 b0_7 _ _ H locs ls (by omega) h0 (by show 52 + _ ≤ _; omega) (by show 57101 + _ ≤ _; omega) G (lv_sub hl [0, 4, 3, 2, 1] rfl)
  refine lv_iconst (pc := 1347) (v := 1) X.1 X.2.1 dL_law_1347 (by decide) ?_
  refine va_forget (fun q hq => hS.2.2 q hq) ?_
  refine W.widen (k := 601024) (n := 7293034) hc hs ?_
  refine W.base ?_
  exact lw_ret hd0 hx hb hr hlocks dL_law_1348
