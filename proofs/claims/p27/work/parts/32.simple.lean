/-! PURE: the calls of the buffer, and what is told of the result -/
theorem okT_mk {F7 : Option (BS × (Nat ⊕ Int32))} {F8 : Option (MS × Int32)} {ks : List Nat} {Iv : MS → BS → Prop} {b' : BS} {z' : MS} {v : Int32} (h7 : F7 = some (b', .inr v)) (h8 : F8 = some (z', v)) (ht : z' 43 7 = 0) (hI : Iv z' b') : okT Iv F7 F8 ks :=
  ⟨_, _, _, h7, h8, (fun k h => by cases h), ht, (fun r h => by cases h; rfl), hI⟩
theorem okT_x {F7 : Option (BS × (Nat ⊕ Int32))} {F8 : Option (MS × Int32)} {ks : List Nat} {Iv : MS → BS → Prop} {b' : BS} {z' : MS} {v : Int32} {k : Nat} (h7 : F7 = some (b', .inl k)) (h8 : F8 = some (z', v)) (hk : k ∈ ks) (ht : z' 43 7 = codeOf (ks.headD 0) (.inl k)) (hI : Iv z' b') : okT Iv F7 F8 ks :=
  ⟨_, _, _, h7, h8, (fun k' h => by cases h; exact hk), ht, (fun r h => by cases h), hI⟩
theorem setI_at (b : BS) (i k : Nat) (v : Int32) : (setI b i k v).1 i k = v := by
  show up2 b.1 i k v i k = v
  rw [up2_at, if_pos ⟨rfl, rfl⟩]
theorem setI_ne (b : BS) {i k j l : Nat} {v : Int32} (h : ¬ (j = i ∧ l = k)) : (setI b i k v).1 j l = b.1 j l := by
  show up2 b.1 i k v j l = _
  rw [up2_at, if_neg h]
theorem setI_row (b : BS) {i k j : Nat} {v : Int32} (h : j ≠ i) : (setI b i k v).1 j = b.1 j := up2_ne _ h
theorem rfs7 (z : MS) (w : Int32) : rfs z w 43 7 = w := by unfold rfs; rw [up2_same]; simp [upd]
theorem rfs_ne (z : MS) (w : Int32) {k : Nat} (h : k ≠ 7) : rfs z w 43 k = z 43 k := by unfold rfs; rw [up2_same]; simp [upd, h]
theorem rfs_a (z : MS) (w : Int32) {a : Nat} (h : a ≠ 43) : rfs z w a = z a := up2_ne _ h
theorem Inv.rfs {z : MS} {b : BS} (h : Inv z b) (w : Int32) : Inv (rfs z w) b := h.sm (SmZ.rfs z w) (SmB.rf b)
theorem S_clearBuffer {z : MS} {b : BS} (h : Inv z b) : okP Inv (F7_clearBuffer b) (F8_clearBuffer z) := by
  obtain ⟨t, a, p, s, hB, -⟩ := id h
  refine ⟨setI b 50 6 0, up2 (rfs z 0) 43 6 0, nI t.length, ?_, ?_, ?_⟩
  · unfold F7_clearBuffer; simp only [bd]; rw [hB.2.2.2.1]
  · unfold F8_clearBuffer; simp only [bd]
    have : up2 z 43 7 0 43 6 = nI t.length := (rfs_ne z 0 (by decide)).trans hB.2.1
    rw [this]; rfl
  · refine h.buf (t := []) ?_ ?_ ?_
    · exact ⟨rfl, rfl, rfl, rfl, rfl⟩
    · exact ⟨rfl, fun j hj => up2_ne _ (by omega)⟩
    · refine ⟨Nat.zero_le _, ?_, fun j hj => absurd hj (by simp), ?_, fun j hj => absurd hj (by simp)⟩
      · rw [up2_at, if_pos ⟨rfl, rfl⟩]; rfl
      · exact setI_at _ _ _ _
theorem hold_push {f : Nat → Int32} {t : Tx} {c : Int32} (h : hold f t) : hold (upd f t.length c) (t ++ [c]) := by
  intro j hj
  rw [List.length_append, List.length_singleton] at hj
  unfold upd
  by_cases e : j = t.length
  · subst e
    rw [if_pos rfl, List.getD_eq_getElem?_getD, List.getElem?_append_right (Nat.le_refl _), Nat.sub_self]; rfl
  · rw [if_neg e, h j (by omega), List.getD_eq_getElem?_getD, List.getD_eq_getElem?_getD, List.getElem?_append_left (by omega)]
theorem S_append {z : MS} {b : BS} (h : Inv z b) (c : Int32) : okT Inv (F7_append b c) (F8_append z c) [2, 3] := by
  obtain ⟨t, a, p, s, hB, -⟩ := id h
  obtain ⟨h1, h2, h3, h4, h5⟩ := hB
  have e8 : F8_append z c = (if inB c 33 126 = true then (if t.length = 60 then some (rfs z 2, 0) else some (up2 (up2 (rfs z 0) 5 t.length c) 43 6 (nI (t.length + 1)), nI (t.length + 1))) else some (rfs z 1, 0)) := by
    unfold F8_append
    rw [F8_in_eq]
    simp only [bn, jp]
    by_cases hc : inB c 33 126 = true
    · rw [if_pos (bI_n.mpr hc), if_pos hc]
      by_cases hl : t.length = 60
      · rw [if_pos hl, if_neg (fun q => q (by rw [h2, hl]; rfl)), F8_refusedP _ _ (by decide)]
        simp only [bn2]; rw [if_neg (by decide)]
      · rw [if_neg hl, if_pos (by rw [h2]; intro q; exact hl ((nI_eq (by omega) (by decide)).mp (q.trans (rfl : (60 : Int32) = nI 60)))), F8_refused0]
        simp only [bn2]
        rw [if_pos (by decide), rfs_ne _ _ (by decide), h2, wr_nI (by omega) (by decide)]
        simp only [bd]
        rw [up2_ne _ (by decide), rfs_ne _ _ (by decide), h2, nI_1, up2_at, if_pos ⟨rfl, rfl⟩]
    · rw [if_neg (fun q => hc (bI_n.mp q)), if_neg hc, F8_refusedP _ _ (by decide)]
      simp only [bn2]; rw [if_neg (by decide)]
  have e7 : F7_append b c = (if inB c 33 126 = true then (if t.length = 60 then some (b, .inl 3) else some (setI (setI b 51 t.length c) 50 6 (nI (t.length + 1)), .inr (nI (t.length + 1)))) else some (b, .inl 2)) := by
    unfold F7_append
    simp only [jp]
    by_cases hc : inB c 33 126 = true
    · rw [if_pos hc]
      unfold inB at hc
      rw [Bool.and_eq_true, decide_eq_true_iff, decide_eq_true_iff] at hc
      rw [if_neg (Int32.not_lt.mpr hc.1), if_pos hc.2, h4, if_neg (nI_pos (by omega))]
      by_cases hl : t.length = 60
      · rw [if_pos hl, if_neg (nI_nlt (by omega) (by omega))]
      · rw [if_neg hl, if_pos (nI_lt (by omega) (by decide)), wb_lit rfl (by omega) (by decide)]
        simp only [bd]
        have e : (setI b 51 t.length c).1 50 6 = nI t.length := by
          show up2 b.1 51 t.length c 50 6 = _
          rw [up2_ne _ (by decide), h4]
        rw [e, nI_1]
        rw [setI_at]
    · rw [if_neg hc]
      by_cases h1 : c < 33
      · rw [if_pos h1]
      · rw [if_neg h1, if_neg]
        intro h2
        refine hc ?_
        unfold inB
        rw [decide_eq_true (Int32.not_lt.mp h1), decide_eq_true h2]; rfl
  by_cases hc : inB c 33 126 = true
  · by_cases hl : t.length = 60
    · rw [if_pos hc, if_pos hl] at e7 e8
      exact okT_x e7 e8 (by decide) (rfs7 _ _) (h.rfs 2)
    · rw [if_pos hc, if_neg hl] at e7 e8
      refine okT_mk e7 e8 ?_ (h.buf (t := t ++ [c]) ?_ ?_ ?_)
      · rw [up2_at, if_neg (by decide), up2_ne _ (by decide)]; exact rfs7 _ _
      · exact ⟨rfl, rfl, rfl, rfl, rfl⟩
      · refine ⟨rfl, fun j hj => ?_⟩
        show up2 (up2 b.1 51 t.length c) 50 6 (nI (t.length + 1)) j = _
        rw [up2_ne _ (by omega), up2_ne _ (by omega)]
      · refine ⟨by simp; omega, ?_, ?_, ?_, ?_⟩
        · rw [up2_at, if_pos ⟨rfl, rfl⟩]; simp
        · rw [up2_ne _ (by decide), up2_same]
          exact hold_push h3
        · rw [setI_at]; simp
        · show hold (up2 (up2 b.1 51 t.length c) 50 6 (nI (t.length + 1)) 51) _
          rw [up2_ne _ (by decide), up2_same]
          exact hold_push h5
  · rw [if_neg hc] at e7 e8
    exact okT_x e7 e8 (by decide) (rfs7 _ _) (h.rfs 1)
theorem lnB_dyn {n : Nat → Nat} {i : Nat} (h : 100 ≤ i) : lnB n i = n i := by
  unfold lnB
  repeat' (first | rw [if_pos (by omega)] | rw [if_neg (by omega)])
theorem F8_isDefined_eq {z : MS} {a : AS} (hz : ZS (z 0) a) {k : Nat} (hk : k < 26) (hl : ∀ t, a.1 k = some t → t.length ≤ 60) : F8_isDefined z (nI k) = some (bI (a.1 k).isSome) := by
  unfold F8_isDefined
  rw [rd_nI (by omega) (by decide), hz.1 k hk]
  simp only [jp]
  cases e : a.1 k with
  | none => dsimp only; rw [if_pos (by decide), bz0]; rfl
  | some t => dsimp only; rw [if_neg (nI_pos (by have := hl t e; omega)), bz1]; rfl
theorem F5_definitionOf_eq {b : BS} {i k : Nat} (hi : okB b.2.2 i 5 = true) (hk : k < 26) : F5_definitionOf b i (nI k) = some (b.2.1 (i + 1) k) := by
  unfold F5_definitionOf
  rw [F7_isLetter_eq, nI_letter hk]
  simp only [bn, jp]
  rw [if_neg (by decide), ck_t hi, ro_lit rfl hk (by decide)]
theorem S_load {z : MS} {b : BS} (h : Inv z b) (x : Int32) : okT Inv (F7_load b x) (F8_load z x) [1, 3] := by
  obtain ⟨t0, a, p, s, hB, hW, hZ, hS, -⟩ := id h
  by_cases hx : inB x 0 25 = true
  · obtain ⟨k, hk, rfl⟩ := letter_nI hx
    have hdf := F8_isDefined_eq hZ hk (fun t e => (hW.1 k t e).2)
    have hdo := F5_definitionOf_eq hS.1 hk
    have hD := hS.2.1 k hk
    cases e : a.1 k with
    | none =>
      rw [e] at hD hdf
      dsimp only at hD
      refine okT_x (b' := b) (k := 3) (z' := rfs z 2) (v := 0) ?_ ?_ (by decide) (rfs7 _ _) (h.rfs 2)
      · unfold F7_load F7_requireDefinition
        rw [requireLetter_ok hx, hdo, hD]
        rfl
      · unfold F8_load
        rw [F8_isLetter_eq, hx]
        simp only [bn, jp, hdf]
        rw [if_pos (by decide), if_pos (by decide), F8_refusedP _ _ (by decide)]
        simp only [bn2]; rw [if_neg (by decide)]
    | some t =>
      rw [e] at hD hdf
      obtain ⟨xx, hx1, hx2⟩ := hD
      obtain ⟨g1, g2, g3, -⟩ := hx2
      have hl60 : t.length ≤ 60 := (hW.1 k t e).2
      have hxx : 100 ≤ xx := (kd6 (okB_2 g1)).1
      have hz0 : z 0 k = nI t.length := by have q := hZ.1 k hk; rw [e] at q; exact q
      have hzt := hZ.2.1 k hk t e
      let sB : Nat → Int32 × BS := fun j => (nI j, (fun u => if u = 51 then (fun i => if i < j then t.getD i 0 else b.1 51 i) else b.1 u, b.2))
      let sZ : Nat → Int32 × MS := fun j => (nI j, fun u => if u = 5 then (fun i => if i < j then t.getD i 0 else z 5 i) else up2 (rfs z 0) 43 6 (nI t.length) u)
      have szr : ∀ j u, u ≠ 5 → (sZ j).2 u = up2 (rfs z 0) 43 6 (nI t.length) u := fun j u h => if_neg h
      have sz5 : ∀ j i, i < j → (sZ j).2 5 i = t.getD i 0 := fun j i h => if_pos h
      have e7 : F7_load b (nI k) = some (setI (sB t.length).2 50 6 (nI t.length), .inr (nI t.length)) := by
        unfold F7_load F7_requireDefinition
        rw [requireLetter_ok hx, hdo, hx1]
        simp only [bx, bn, on, de]
        rw [ck_t g1]
        simp only [bd]
        rw [lnB_dyn (by omega), g2, if_neg (nI_nlt (by omega) (by omega))]
        have e0 : ((0 : Int32), b) = sB 0 := by
          show _ = (nI 0, _)
          refine Prod.ext rfl (Prod.ext ?_ rfl)
          funext u
          by_cases hu : u = 51
          · subst hu; simp
          · simp [hu]
        rw [e0]
        refine Loop_seq sB t.length (fun j hj => ?_) ?_
        · show (if nI t.length ≤ nI j then _ else _) = _
          rw [if_neg (nI_ge hj (by omega))]
          rw [ck_t (by exact g1)]
          show rd ((sB j).2.1 (xx + 1)) _ (nI j) _ = _
          have e1 : (sB j).2.1 (xx + 1) = b.1 (xx + 1) := if_neg (by omega)
          rw [e1, rd_nI (by show j < lnB b.2.2 (xx + 1); rw [lnB_dyn (by omega), g2]; exact hj) (by show lnB b.2.2 (xx + 1) < _; rw [lnB_dyn (by omega), g2]; omega), wb_lit rfl (by omega) (by decide)]
          show some (Sum.inl (nI j + 1, _)) = some (Sum.inl (nI (j + 1), _))
          rw [nI_1, g3 j hj]
          refine congrArg (fun q => some (Sum.inl (nI (j + 1), q))) (Prod.ext ?_ rfl)
          funext u
          show up2 (sB j).2.1 51 j _ u = _
          by_cases hu : u = 51
          · subst hu
            rw [up2_same]
            funext i
            show (if i = j then _ else (if i < j then _ else _)) = (if i < j + 1 then _ else _)
            by_cases hi : i = j
            · subst hi; simp
            · rw [if_neg hi]
              by_cases hi2 : i < j
              · rw [if_pos hi2, if_pos (by omega)]
              · rw [if_neg hi2, if_neg (by omega)]
          · rw [up2_ne _ hu]
            show (if u = 51 then _ else _) = (if u = 51 then _ else _)
            rw [if_neg hu, if_neg hu]
        · show (if nI t.length ≤ nI t.length then _ else _) = _
          rw [if_pos (nI_le (Nat.le_refl _) (by omega))]
          show some (Sum.inr (setI _ 50 6 _, Sum.inr ((setI _ 50 6 _).1 50 6))) = _
          rw [setI_at]
      have e8 : F8_load z (nI k) = some ((sZ t.length).2, nI t.length) := by
        unfold F8_load
        rw [F8_isLetter_eq, hx]
        simp only [bn, jp, hdf]
        rw [if_pos (by decide), if_neg ((bI_n (p := (some t).isSome)).mpr rfl), F8_refused0]
        simp only [bn2]
        rw [if_pos (by decide), rd_nI (by omega) (by decide), rfs_a _ _ (by decide), hz0]
        simp only [bd]
        have e0 : ((0 : Int32), up2 (rfs z 0) 43 6 (nI t.length)) = sZ 0 := by
          show _ = (nI 0, _)
          refine Prod.ext rfl ?_
          funext u
          by_cases hu : u = 5
          · subst hu
            show up2 (rfs z 0) 43 6 (nI t.length) 5 = _
            rw [up2_ne _ (by decide), rfs_a _ _ (by decide)]
            simp
          · simp [hu]
        rw [e0]
        have e6 : ∀ j, (sZ j).2 43 6 = nI t.length := fun j => by
          rw [szr j 43 (by decide), up2_at, if_pos ⟨rfl, rfl⟩]
        have ez0 : ∀ j, (sZ j).2 0 = z 0 := fun j => by
          rw [szr j 0 (by decide), up2_ne _ (by decide), rfs_a _ _ (by decide)]
        refine Loop_seq sZ t.length (fun j hj => ?_) ?_
        · show (if (sZ j).2 43 6 ≤ nI j then _ else _) = _
          rw [e6, if_neg (nI_ge hj (by omega))]
          have ei : (26 + (60 * nI k)) + nI j = nI (26 + 60 * k + j) := by
            show (nI 26 + (nI 60 * nI k)) + nI j = _
            rw [nI_mul, nI_add, nI_add]
          show rd ((sZ j).2 0) 2153 ((26 + (60 * nI k)) + nI j) _ = _
          rw [rd_lit ei (by omega) (by decide), ez0, wr_nI (by omega) (by decide)]
          show some (Sum.inl (nI j + 1, _)) = some (Sum.inl (nI (j + 1), _))
          rw [nI_1]
          have hv : z 0 (26 + 60 * k + j) = t.getD j 0 := hzt j hj
          rw [hv]
          refine congrArg (fun q => some (Sum.inl (nI (j + 1), q))) ?_
          funext u
          by_cases hu : u = 5
          · subst hu
            rw [up2_same]
            funext i
            show (if i = j then _ else (if i < j then _ else _)) = (if i < j + 1 then _ else _)
            by_cases hi : i = j
            · subst hi; simp
            · rw [if_neg hi]
              by_cases hi2 : i < j
              · rw [if_pos hi2, if_pos (by omega)]
              · rw [if_neg hi2, if_neg (by omega)]
          · rw [up2_ne _ hu]
            show (if u = 5 then _ else _) = (if u = 5 then _ else _)
            rw [if_neg hu, if_neg hu]
        · show (if (sZ t.length).2 43 6 ≤ nI t.length then _ else _) = _
          rw [e6, if_pos (nI_le (Nat.le_refl _) (by omega))]
      refine okT_mk e7 e8 ?_ (h.buf (t := t) ?_ ?_ ?_)
      · rw [szr _ 43 (by decide), up2_at, if_neg (by decide)]; exact rfs7 _ _
      · exact ⟨rfl, rfl, rfl, rfl, rfl⟩
      · refine ⟨rfl, fun j hj => ?_⟩
        show up2 (sB t.length).2.1 50 6 (nI t.length) j = _
        rw [up2_ne _ (by omega)]
        show (if j = 51 then _ else _) = _
        rw [if_neg (by omega)]
      · refine ⟨hl60, ?_, ?_, ?_, ?_⟩
        · rw [szr _ 43 (by decide), up2_at, if_pos ⟨rfl, rfl⟩]
        · exact fun j hj => sz5 _ _ hj
        · exact setI_at _ _ _ _
        · intro j hj
          show up2 (sB t.length).2.1 50 6 (nI t.length) 51 j = _
          rw [up2_ne _ (by decide)]
          exact if_pos hj
  · have hx' : inB x 0 25 = false := by simpa using hx
    refine okT_x (b' := b) (k := 1) (z' := rfs z 1) (v := 0) ?_ ?_ (by decide) (rfs7 _ _) (h.rfs 1)
    · unfold F7_load; rw [requireLetter_no hx']; rfl
    · unfold F8_load
      rw [F8_isLetter_eq, hx']
      simp only [bn, jp]
      rw [if_neg (by decide), F8_refusedP _ _ (by decide)]
      simp only [bn2]; rw [if_neg (by decide)]
