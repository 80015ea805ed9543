/-! PURE: the class's expansion, operation by operation -/
def Sx (b b' : BS) : Prop := b'.2 = b.2 ∧ ∀ j, (j < 57 ∨ 62 < j) → b'.1 j = b.1 j
theorem Sx.rf (b : BS) : Sx b b := ⟨rfl, fun _ _ => rfl⟩
theorem Sx.tr {b b1 b2 : BS} (h : Sx b b1) (g : Sx b1 b2) : Sx b b2 := ⟨g.1.trans h.1, fun j hj => (g.2 j hj).trans (h.2 j hj)⟩
theorem Sx.up (b : BS) {a k : Nat} {v : Int32} (h : 57 ≤ a ∧ a ≤ 62) : Sx b (setI b a k v) := ⟨rfl, fun j hj => setI_other _ (by omega)⟩
theorem Sx.sm {b b' : BS} (h : Sx b b') : SmB b b' := ⟨h.1, fun j hj => h.2 j (by omega)⟩
/-- what lies below stays -/
def Lo (b b' : BS) (Wb Mb base : Nat) : Prop := (∀ i, i < Wb → b'.1 60 i = b.1 60 i ∧ b'.1 61 i = b.1 61 i) ∧ (∀ i, i < Mb → b'.1 59 i = b.1 59 i) ∧ ∀ i, i < base → b'.1 58 i = b.1 58 i
theorem Lo.rf (b : BS) (W M s : Nat) : Lo b b W M s := ⟨fun _ _ => ⟨rfl, rfl⟩, fun _ _ => rfl, fun _ _ => rfl⟩
theorem Lo.tr {b b1 b2 : BS} {W M s : Nat} (h : Lo b b1 W M s) (g : Lo b1 b2 W M s) : Lo b b2 W M s :=
  ⟨fun i hi => ⟨(g.1 i hi).1.trans (h.1 i hi).1, (g.1 i hi).2.trans (h.1 i hi).2⟩, fun i hi => (g.2.1 i hi).trans (h.2.1 i hi), fun i hi => (g.2.2 i hi).trans (h.2.2 i hi)⟩
theorem Lo.le {b b' : BS} {W M s W' M' s' : Nat} (h : Lo b b' W M s) (hW : W' ≤ W) (hM : M' ≤ M) (hs : s' ≤ s) : Lo b b' W' M' s' :=
  ⟨fun i hi => h.1 i (by omega), fun i hi => h.2.1 i (by omega), fun i hi => h.2.2 i (by omega)⟩
/-- expanded, deepest, trace and who is open -/
def CG (b : BS) (G : Gl) (O : List Nat) : Prop :=
  b.1 57 8 = nI (G.2.2.1.length / 6) ∧ b.1 57 9 = nI G.1 ∧ b.1 57 10 = nI G.2.1 ∧ (∀ k, k < 26 → tb (b.1 57 11) k = decide (k ∈ O)) ∧ hold (b.1 62) G.2.2.1 ∧ G.2.2.1.length % 6 = 0 ∧ G.2.2.1.length ≤ 360 ∧ G.1 ≤ 60 ∧ G.2.1 ≤ 13
theorem CG.keep {b b' : BS} {G : Gl} {O : List Nat} (h : CG b G O) (h62 : b'.1 62 = b.1 62) (h57 : ∀ k, 8 ≤ k → k ≤ 11 → b'.1 57 k = b.1 57 k) : CG b' G O := by
  obtain ⟨g1, g2, g3, g4, g5, g6⟩ := h
  refine ⟨(h57 8 (by decide) (by decide)).trans g1, (h57 9 (by decide) (by decide)).trans g2, (h57 10 (by decide) (by decide)).trans g3, fun k hk => ?_, ?_, g6⟩
  · rw [h57 11 (by decide) (by decide)]; exact g4 k hk
  · rw [h62]; exact g5
def CS (b : BS) (kp : Bool) (Mb base : Nat) (P : List Tx) (Wn : Nat) (G : Gl) (O : List Nat) : Prop :=
  b.1 57 5 = nI (base + fl P) ∧ b.1 57 6 = nI (Mb + P.length) ∧ b.1 57 7 = nI Wn ∧ b.1 57 12 = bI kp ∧ b.1 57 13 = 0 ∧
  (∀ i, i < P.length → b.1 59 (Mb + i) = nI (base + fl (P.take i))) ∧ (kp = true → hold (fun i => b.1 58 (base + i)) P.flatten) ∧ CG b G O
theorem hold_app {f : Nat → Int32} {t u : Tx} : hold f (t ++ u) ↔ hold f t ∧ hold (fun i => f (t.length + i)) u := by
  constructor
  · intro h
    refine ⟨fun j hj => ?_, fun j hj => ?_⟩
    · have := h j (by rw [List.length_append]; omega)
      rw [this, List.getD_eq_getElem?_getD, List.getD_eq_getElem?_getD, List.getElem?_append_left hj]
    · have := h (t.length + j) (by rw [List.length_append]; omega)
      dsimp only
      rw [this, List.getD_eq_getElem?_getD, List.getD_eq_getElem?_getD, List.getElem?_append_right (by omega), Nat.add_sub_cancel_left]
  · rintro ⟨h1, h2⟩ j hj
    rw [List.length_append] at hj
    by_cases c : j < t.length
    · rw [h1 j c, List.getD_eq_getElem?_getD, List.getD_eq_getElem?_getD, List.getElem?_append_left c]
    · have := h2 (j - t.length) (by omega)
      dsimp only at this
      rw [show t.length + (j - t.length) = j by omega] at this
      rw [this, List.getD_eq_getElem?_getD, List.getD_eq_getElem?_getD, List.getElem?_append_right (by omega)]
theorem hold_nil (f : Nat → Int32) : hold f [] := fun j hj => absurd hj (by simp)
theorem setMark_eq {b : BS} {kp : Bool} {Mb base : Nat} {P : List Tx} {Wn : Nat} {G : Gl} {O : List Nat} (h : CS b kp Mb base P Wn G O) (hM : Mb + P.length < 854) : ∃ b', F1_setMark b = some b' ∧ Sx b b' ∧ CS b' kp Mb base (P ++ [[]]) Wn G O ∧ Lo b b' 10000 (Mb + P.length) 100000 := by
  obtain ⟨h1, h2, h3, h4, h5, h6, h7, h8⟩ := h
  refine ⟨setI (setI b 59 (Mb + P.length) (nI (base + fl P))) 57 6 (nI (Mb + P.length + 1)), ?_, (Sx.up b (by decide)).tr (Sx.up _ (by decide)), ⟨?_, ?_, ?_, ?_, ?_, fun i hi => ?_, fun hk => ?_, h8.keep ?_ (fun k q1 q2 => ?_)⟩, ⟨fun i hi => ⟨?_, ?_⟩, fun i hi => ?_, fun i hi => ?_⟩⟩
  · unfold F1_setMark
    refine jp_go <| if_no (by rw [h2]; exact nI_pos (by omega)) <| if_go (by rw [h2]; exact nI_lt (by omega) (by decide)) <| wb_go h2 hM (by decide) <| bd_go ?_
    rw [h1, setI_other _ (by decide), h2, nI_1]
  · rw [setI_ne _ (by omega), setI_other _ (by decide), h1, fl_app, fl_one]; rfl
  · rw [setI_at, List.length_append]; rfl
  · rw [setI_ne _ (by omega), setI_other _ (by decide), h3]
  · rw [setI_ne _ (by omega), setI_other _ (by decide), h4]
  · rw [setI_ne _ (by omega), setI_other _ (by decide), h5]
  · rw [List.length_append] at hi
    rw [setI_other _ (by decide), setI_row_at]
    by_cases c : i = P.length
    · rw [if_pos (by rw [c]), c, List.take_left]
    · have hi' : i < P.length := by
        have : ([[]] : List Tx).length = 1 := rfl
        omega
      rw [if_neg (by omega), h6 i hi', List.take_append_of_le_length (by omega)]
  · have e : (P ++ [[]]).flatten = P.flatten := by simp
    rw [e, setI_other _ (by decide), setI_other _ (by decide)]
    exact h7 hk
  · rw [setI_other _ (by decide), setI_other _ (by decide)]
  · rw [setI_ne _ (by omega), setI_other _ (by decide)]
  · rw [setI_other _ (by decide), setI_other _ (by decide)]
  · rw [setI_other _ (by decide), setI_other _ (by decide)]
  · rw [setI_other _ (by decide), setI_row_at, if_neg (by omega)]
  · rw [setI_other _ (by decide), setI_other _ (by decide)]
theorem nI_add_sub {a b c : Nat} (h : a + b = c) : nI c - nI a = nI b := by
  rw [nI_sub _ _ (by omega)]; congr 1; omega
theorem takesMore_eq {b : BS} {kp : Bool} {Mb base : Nat} {Q : List Tx} {w : Tx} {Wn : Nat} {G : Gl} {O : List Nat} (h : CS b kp Mb base (Q ++ [w]) Wn G O) (hM : Mb + Q.length < 854) {n : Nat} (hb : base + fl (Q ++ [w]) + n < 2 ^ 30) (hc : w.length + n ≤ 200 → base + fl (Q ++ [w]) + n ≤ 28380) : F1_takesMore b (nI n) = some (bI (decide (w.length + n ≤ 200))) := by
  obtain ⟨h1, h2, h3, h4, h5, h6, h7, h8⟩ := h
  have hl : (Q ++ [w]).length = Q.length + 1 := by rw [List.length_append]; rfl
  have hm := h6 Q.length (by omega)
  rw [List.take_left] at hm
  have hf : fl (Q ++ [w]) = fl Q + w.length := by rw [fl_app, fl_one]
  unfold F1_takesMore
  rw [h2, hl, ← Nat.add_assoc, nI_pred]
  refine bd_go <| jp_go <| jp_go <| if_no (nI_pos (by omega)) <| if_no (nI_ge (b := 854) hM (by omega)) <| rd_go rfl hM (by decide) hm <| jp_go <| jp_go ?_
  rw [h1, nI_add, nI_add_sub (a := base + fl Q) (b := w.length + n) (by omega)]
  by_cases c : w.length + n ≤ 200
  · rw [decide_eq_true c]
    exact if_no (nI_nlt (a := 200) (by omega) (by omega)) <| if_no (nI_nlt (a := 28380) (hc c) (by omega)) bz1
  · rw [decide_eq_false c]
    exact if_go (nI_lt (a := 200) (by omega) (by omega)) bz0
/-- writing behind the last piece -/
theorem CS.grow {b b' : BS} {kp : Bool} {Mb base : Nat} {Q : List Tx} {w u : Tx} {Wn : Nat} {G : Gl} {O : List Nat} (h : CS b kp Mb base (Q ++ [w]) Wn G O) (h5 : b'.1 57 5 = nI (base + fl (Q ++ [w]) + u.length)) (hk : ∀ k, k ≠ 5 → b'.1 57 k = b.1 57 k) (h59 : b'.1 59 = b.1 59) (h62 : b'.1 62 = b.1 62) (h58 : kp = true → (∀ i, i < base + fl (Q ++ [w]) → b'.1 58 i = b.1 58 i) ∧ hold (fun i => b'.1 58 (base + fl (Q ++ [w]) + i)) u) : CS b' kp Mb base (Q ++ [w ++ u]) Wn G O := by
  obtain ⟨g1, g2, g3, g4, g5, g6, g7, g8⟩ := h
  have hl : (Q ++ [w]).length = Q.length + 1 := by rw [List.length_append]; rfl
  have hl2 : (Q ++ [w ++ u]).length = Q.length + 1 := by rw [List.length_append]; rfl
  refine ⟨?_, ?_, ?_, ?_, ?_, fun i hi => ?_, fun q => ?_, g8.keep h62 (fun k q1 q2 => hk k (by omega))⟩
  · rw [h5, fl_app, fl_app, fl_one, fl_one, List.length_append]; congr 1; omega
  · rw [hk 6 (by decide), g2, hl, hl2]
  · rw [hk 7 (by decide), g3]
  · rw [hk 12 (by decide), g4]
  · rw [hk 13 (by decide), g5]
  · rw [h59, g6 i (by omega), List.take_append_of_le_length (by omega), List.take_append_of_le_length (by omega)]
  · obtain ⟨q1, q2⟩ := h58 q
    have e : (Q ++ [w ++ u]).flatten = (Q ++ [w]).flatten ++ u := by simp
    rw [e, hold_app]
    refine ⟨hold_congr (fun j hj => q1 _ (by unfold fl; omega)) (g7 q), ?_⟩
    refine hold_congr (fun j hj => ?_) q2
    show b'.1 58 (base + ((Q ++ [w]).flatten.length + j)) = b'.1 58 (base + fl (Q ++ [w]) + j)
    rw [← Nat.add_assoc]; rfl
theorem writeSign_eq {b : BS} {kp : Bool} {Mb base : Nat} {Q : List Tx} {w : Tx} {Wn : Nat} {G : Gl} {O : List Nat} (c : Int32) (h : CS b kp Mb base (Q ++ [w]) Wn G O) (hM : Mb + Q.length < 854) (hb : base + fl (Q ++ [w]) + 1 ≤ 28380) : ∃ b', F1_writeSign b c = some b' ∧ Sx b b' ∧ (if ovr (w ++ [c]) = true then b'.1 57 13 = 1 else CS b' kp Mb base (Q ++ [w ++ [c]]) Wn G O ∧ Lo b b' 10000 10000 (base + fl (Q ++ [w]))) := by
  have tm := takesMore_eq (n := 1) h hM (by omega) (fun _ => by omega)
  have hk := h.2.2.2.1
  have h5 := h.1
  have hov : ovr (w ++ [c]) = decide (200 < w.length + 1) := by unfold ovr; rw [List.length_append]; rfl
  unfold F1_writeSign
  by_cases q : w.length + 1 ≤ 200
  · rw [decide_eq_true q] at tm
    rw [hov, decide_eq_false (by omega)]
    cases kp with
    | false =>
      refine ⟨setI b 57 5 (nI (base + fl (Q ++ [w]) + 1)), ?_, Sx.up b (by decide), ?_⟩
      · refine bn_go tm <| if_go (by decide) <| jp_go <| if_go hk <| bd_go ?_
        rw [h5, nI_1]
      · rw [if_neg (by decide)]
        refine ⟨h.grow (u := [c]) (setI_at _ _ _ _) (fun k q => setI_ne _ (by omega)) (setI_other _ (by decide)) (setI_other _ (by decide)) (fun q => by cases q), fun i _ => ⟨?_, ?_⟩, fun i _ => ?_, fun i _ => ?_⟩ <;> rw [setI_other _ (by decide)]
    | true =>
      refine ⟨setI (setI b 58 (base + fl (Q ++ [w])) c) 57 5 (nI (base + fl (Q ++ [w]) + 1)), ?_, (Sx.up b (by decide)).tr (Sx.up _ (by decide)), ?_⟩
      · refine bn_go tm <| if_go (by decide) <| jp_go <| if_no (by rw [hk]; decide) <| if_no (by rw [h5]; exact nI_pos (by omega)) <| wb_go h5 (by omega) (by decide) <| bd_go ?_
        rw [setI_other _ (by decide), h5, nI_1]
      · rw [if_neg (by decide)]
        refine ⟨h.grow (u := [c]) (setI_at _ _ _ _) (fun k q => by rw [setI_ne _ (by omega), setI_other _ (by decide)]) (by rw [setI_other _ (by decide), setI_other _ (by decide)]) (by rw [setI_other _ (by decide), setI_other _ (by decide)]) (fun _ => ⟨fun i hi => ?_, fun j hj => ?_⟩), fun i _ => ⟨?_, ?_⟩, fun i _ => ?_, fun i hi => ?_⟩
        · rw [setI_other _ (by decide), setI_row_at, if_neg (by omega)]
        · have : j = 0 := by simp at hj; exact hj
          subst this
          show (setI (setI b 58 (base + fl (Q ++ [w])) c) 57 5 (nI (base + fl (Q ++ [w]) + 1))).1 58 (base + fl (Q ++ [w]) + 0) = c
          rw [setI_other _ (by decide), setI_row_at, if_pos (by omega)]
        · rw [setI_other _ (by decide), setI_other _ (by decide)]
        · rw [setI_other _ (by decide), setI_other _ (by decide)]
        · rw [setI_other _ (by decide), setI_other _ (by decide)]
        · rw [setI_other _ (by decide), setI_row_at, if_neg (by omega)]
  · rw [decide_eq_false q] at tm
    rw [hov, decide_eq_true (by omega)]
    refine ⟨setI b 57 13 1, bn_go tm <| if_no (by decide) <| bz_go (Or.inr rfl) <| bd_go rfl, Sx.up b (by decide), ?_⟩
    rw [if_pos rfl]; exact setI_at _ _ _ _
/-- signs moved -/
theorem moveSigns_eq {b : BS} {kp : Bool} (hk : b.1 57 12 = bI kp) {s d n : Nat} (hs : s + n ≤ 28380) (hd : d + n ≤ 28380) (hov : d ≤ s ∨ s + n ≤ d) : ∃ b', F1_moveSigns b (nI s) (nI d) (nI n) = some b' ∧ b'.2 = b.2 ∧ (∀ u, u ≠ 58 → b'.1 u = b.1 u) ∧ (∀ i, i < d → b'.1 58 i = b.1 58 i) ∧ (kp = true → ∀ i, i < n → b'.1 58 (d + i) = b.1 58 (s + i)) := by
  unfold F1_moveSigns
  cases kp with
  | false => exact ⟨b, jp_go <| if_go hk rfl, rfl, fun _ _ => rfl, fun _ _ => rfl, fun q => by cases q⟩
  | true =>
    refine ex_go (jp_go <| if_no (by rw [hk]; decide) <| if_no (nI_pos (by omega)) <| if_go (nI_pos' (by omega)) rfl) ?_
    refine Loop_inv (fun j q => q.1 = nI j ∧ q.2.2 = b.2 ∧ (∀ u, u ≠ 58 → q.2.1 u = b.1 u) ∧ (∀ i, i < d ∨ d + j ≤ i → q.2.1 58 i = b.1 58 i) ∧ ∀ i, i < j → q.2.1 58 (d + i) = b.1 58 (s + i)) n _ ?_ ?_ _ ?_
    · rintro j ⟨x, c⟩ hj ⟨rfl, h2, h3, h4, h5⟩
      dsimp only at h2 h3 h4 h5
      refine ⟨(nI (j + 1), setI c 58 (d + j) (b.1 58 (s + j))), ?_, rfl, h2, fun u hu => ?_, fun i hi => ?_, fun i hi => ?_⟩
      · refine jp_go <| if_no (nI_ge hj (by omega)) <| if_no (show ¬ (28380 : Int32) ≤ nI s + nI j by rw [nI_add]; exact nI_ge (b := 28380) (by omega) (by omega)) <| if_no (show ¬ (28380 : Int32) ≤ nI d + nI j by rw [nI_add]; exact nI_ge (b := 28380) (by omega) (by omega)) <| rd_go (k := s + j) (v := b.1 58 (s + j)) (nI_add _ _) (by omega) (by decide) ?_ <| wb_go (k := d + j) (nI_add _ _) (by omega) (by decide) <| bd_go ?_
        · exact h4 _ (by omega)
        · rw [nI_1]
      · dsimp only; rw [setI_other _ hu]; exact h3 u hu
      · dsimp only; rw [setI_row_at, if_neg (by omega)]; exact h4 i (by omega)
      · dsimp only
        rw [setI_row_at]
        by_cases q : i = j
        · rw [if_pos (by omega), q]
        · rw [if_neg (by omega)]; exact h5 i (by omega)
    · rintro ⟨x, c⟩ ⟨rfl, h2, h3, h4, h5⟩
      exact ⟨c, jp_go <| if_go (nI_le (Nat.le_refl _) (by omega)) rfl, h2, h3, fun i hi => h4 i (Or.inl hi), fun _ => h5⟩
    · exact ⟨rfl, rfl, fun _ _ => rfl, fun _ _ => rfl, fun i hi => absurd hi (by omega)⟩
theorem writeCopy_eq {b : BS} {kp : Bool} {Mb base : Nat} {Q : List Tx} {w u : Tx} {Wn : Nat} {G : Gl} {O : List Nat} {s : Nat} (h : CS b kp Mb base (Q ++ [w]) Wn G O) (hM : Mb + Q.length < 854) (hb : base + fl (Q ++ [w]) + u.length ≤ 28380) (hs : s + u.length ≤ base) (hu : kp = true → hold (fun i => b.1 58 (s + i)) u) : ∃ b', F1_writeCopy b (nI s) (nI u.length) = some b' ∧ Sx b b' ∧ (if ovr (w ++ u) = true then b'.1 57 13 = 1 else CS b' kp Mb base (Q ++ [w ++ u]) Wn G O ∧ Lo b b' 10000 10000 (base + fl (Q ++ [w]))) := by
  have tm := takesMore_eq (n := u.length) h hM (by omega) (fun _ => by omega)
  have hk := h.2.2.2.1
  have h5 := h.1
  have hov : ovr (w ++ u) = decide (200 < w.length + u.length) := by unfold ovr; rw [List.length_append]
  unfold F1_writeCopy
  by_cases q : w.length + u.length ≤ 200
  · rw [decide_eq_true q] at tm
    rw [hov, decide_eq_false (by omega)]
    obtain ⟨b1, e1, m1, m2, m3, m4⟩ := moveSigns_eq hk (s := s) (d := base + fl (Q ++ [w])) (n := u.length) (by omega) hb (Or.inr (by omega))
    refine ⟨setI b1 57 5 (nI (base + fl (Q ++ [w]) + u.length)), ?_, ⟨m1, fun j hj => by rw [setI_other _ (by omega), m2 j (by omega)]⟩, ?_⟩
    · refine bn_go tm <| if_go (by decide) <| bn_go (by rw [h5]; exact e1) <| bd_go ?_
      rw [m2 57 (by decide), h5, nI_add]
    · rw [if_neg (by decide)]
      refine ⟨h.grow (setI_at _ _ _ _) (fun k q => by rw [setI_ne _ (by omega), m2 57 (by decide)]) (by rw [setI_other _ (by decide), m2 59 (by decide)]) (by rw [setI_other _ (by decide), m2 62 (by decide)]) (fun hkp => ⟨fun i hi => ?_, fun j hj => ?_⟩), fun i _ => ⟨?_, ?_⟩, fun i _ => ?_, fun i hi => ?_⟩
      · rw [setI_other _ (by decide)]; exact m3 i hi
      · show (setI b1 57 5 _).1 58 _ = _
        rw [setI_other _ (by decide), m4 hkp j hj]
        exact hu hkp j hj
      · rw [setI_other _ (by decide), m2 60 (by decide)]
      · rw [setI_other _ (by decide), m2 61 (by decide)]
      · rw [setI_other _ (by decide), m2 59 (by decide)]
      · rw [setI_other _ (by decide)]; exact m3 i hi
  · rw [decide_eq_false q] at tm
    rw [hov, decide_eq_true (by omega)]
    refine ⟨setI b 57 13 1, bn_go tm <| if_no (by decide) <| bz_go (Or.inr rfl) <| bd_go rfl, Sx.up b (by decide), ?_⟩
    rw [if_pos rfl]; exact setI_at _ _ _ _
