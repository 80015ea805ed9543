/-! THE CLASS'S WORLD GROWS: new states, texts, outcomes; addresses of what lived before stay -/
def Closed (b : BS) : Prop := ∀ i k t, b.2.1 i k = some t → lvB b.2.2 t = true
def Ag (n : Nat → Nat) (ad ad' : Nat → Nat) : Prop := ∀ i, (i < 66 ∨ lvB n i = true) → ad' i = ad i
def Gr (b b' : BS) : Prop := ∀ i, lvB b.2.2 i = true → lvB b'.2.2 i = true
theorem Gr.rf (b : BS) : Gr b b := fun _ h => h
theorem Gr.tr {b b1 b2 : BS} (h : Gr b b1) (h1 : Gr b1 b2) : Gr b b2 := fun i q => h1 i (h i q)
theorem Gr.eq {b b1 : BS} (h : b1.2.2 = b.2.2) : Gr b b1 := fun i q => by rw [h]; exact q
theorem Ag.rf (n : Nat → Nat) (ad : Nat → Nat) : Ag n ad ad := fun _ _ => rfl
theorem Ag.tr {b b1 : BS} {ad ad1 ad2 : Nat → Nat} (h : Ag b.2.2 ad ad1) (g : Gr b b1) (h1 : Ag b1.2.2 ad1 ad2) : Ag b.2.2 ad ad2 := fun i q => (h1 i (q.imp id (g i))).trans (h i q)
noncomputable def pr {ρ : Type} (p : Prop) (K : Option ρ) : Option ρ := by
  classical
  exact if p then K else none
theorem pr_some {ρ : Type} {p : Prop} {K : Option ρ} {y : ρ} (h : pr p K = some y) : p ∧ K = some y := by
  unfold pr at h
  by_cases c : p
  · rw [if_pos c] at h; exact ⟨c, h⟩
  · rw [if_neg c] at h; cases h
theorem pr_in {ρ : Type} {p : Prop} {K : Option ρ} (h : p) : pr p K = K := if_pos h
theorem lvB_iff (n : Nat → Nat) (i : Nat) : lvB n i = true ↔ (50 ≤ i ∧ i < 66) ∨ (70 ≤ i ∧ i < 72) ∨ (72 ≤ i ∧ i < 88 ∧ n (i - i % 2) = 1) ∨ (100 ≤ i ∧ (i - 100) % 5 < 2 ∧ (i - 100) / 5 < n 0) ∨ (100 ≤ i ∧ 2 ≤ (i - 100) % 5 ∧ (i - 100) / 5 < n 1) := by
  unfold lvB
  by_cases h1 : i < 50
  · rw [if_pos h1]; constructor
    · intro h; cases h
    · intro h; omega
  rw [if_neg h1]
  by_cases h2 : i < 66
  · rw [if_pos h2]; exact ⟨fun _ => Or.inl ⟨by omega, h2⟩, fun _ => rfl⟩
  rw [if_neg h2]
  by_cases h3 : i < 70
  · rw [if_pos h3]; constructor
    · intro h; cases h
    · intro h; omega
  rw [if_neg h3]
  by_cases h4 : i < 88
  · rw [if_pos h4, Bool.or_eq_true, decide_eq_true_iff, decide_eq_true_iff]; constructor
    · rintro (h | h)
      · exact Or.inr (Or.inl ⟨by omega, h⟩)
      · by_cases c : i < 72
        · exact Or.inr (Or.inl ⟨by omega, c⟩)
        · exact Or.inr (Or.inr (Or.inl ⟨by omega, h4, h⟩))
    · rintro (h | h | h | h | h)
      · omega
      · exact Or.inl h.2
      · exact Or.inr h.2.2
      · omega
      · omega
  rw [if_neg h4]
  by_cases h5 : i < 100
  · rw [if_pos h5]; constructor
    · intro h; cases h
    · intro h; omega
  rw [if_neg h5]
  by_cases h6 : (i - 100) % 5 < 2
  · rw [if_pos h6, decide_eq_true_iff]; constructor
    · exact fun h => Or.inr (Or.inr (Or.inr (Or.inl ⟨by omega, h6, h⟩)))
    · rintro (h | h | h | h | h)
      · omega
      · omega
      · omega
      · exact h.2.2
      · omega
  · rw [if_neg h6, decide_eq_true_iff]; constructor
    · exact fun h => Or.inr (Or.inr (Or.inr (Or.inr ⟨by omega, by omega, h⟩)))
    · rintro (h | h | h | h | h)
      · omega
      · omega
      · omega
      · omega
      · exact h.2.2
theorem lvB_false {n : Nat → Nat} {i : Nat} (h : ¬ lvB n i = true) : lvB n i = false := by
  cases e : lvB n i with
  | false => rfl
  | true => exact absurd e h
theorem ct_live {n : Nat → Nat} {i k j : Nat} (hi : lvB n i = true) (hj : ctB i (kd i) k = some j) : j < 66 ∨ lvB n j = true := by
  obtain ⟨ci, hci⟩ : ∃ ci, ci = kd i := ⟨_, rfl⟩
  rw [← hci] at hj
  unfold ctB at hj
  split at hj <;> first | (cases hj; first | exact Or.inl (by decide) | exact Or.inr rfl | skip) | cases hj
  · exact Or.inr (okB_1 (ok5_arr (by unfold okB; rw [hi, ← hci]; rfl)))
  · exact Or.inr (okB_1 (ok6_arr (by unfold okB; rw [hi, ← hci]; rfl)))
  · exact Or.inr (okB_1 (ok3_arr (by unfold okB; rw [hi, ← hci]; rfl)))
  · exact Or.inr (okB_1 (ok3_arr2 (by unfold okB; rw [hi, ← hci]; rfl)))
theorem cell_keep {κ : Nat → ClassId} {ad ad' : Nat → Nat} {b b' : BS} {i : Nat} (hC : Closed b) (hA : Ag b.2.2 ad ad') (hi : lvB b.2.2 i = true) (h1 : b'.1 i = b.1 i) (h2 : b'.2.1 i = b.2.1 i) (h3 : lnB b'.2.2 i = lnB b.2.2 i) : cellB κ ad' b' i = cellB κ ad b i := by
  have e1 : (fun k => (b.2.1 i k).map ad') = fun k => (b.2.1 i k).map ad := by
    funext k
    cases e : b.2.1 i k with
    | none => rfl
    | some t => exact congrArg some (hA t (Or.inr (hC i k t e)))
  have e2 : objB ad' b' i (kd i) = objB ad b i (kd i) := by
    unfold objB
    refine List.map_congr_left fun k _ => ?_
    unfold fvB
    cases e : ctB i (kd i) k with
    | some j => exact congrArg Value.ref (hA j (ct_live hi e))
    | none =>
      simp only [h1, h2]
      by_cases hm : mrB (kd i) k = true
      · rw [if_pos hm, if_pos hm]
        exact congrArg va_rf (congrFun e1 k)
      · rw [if_neg hm, if_neg hm]
  unfold cellB
  rw [e2, h1, h2, h3, e1]
/-- a world and a greater one, at an id that is not new -/
theorem celB_keep {κ : Nat → ClassId} {ad ad' : Nat → Nat} {r0 : Nat → Option va_E} {b b' : BS} {i : Nat} (hC : Closed b) (hA : Ag b.2.2 ad ad') (h0 : lvB b'.2.2 i = lvB b.2.2 i) (h1 : b'.1 i = b.1 i) (h2 : b'.2.1 i = b.2.1 i) (h3 : lnB b'.2.2 i = lnB b.2.2 i) : celB κ ad' r0 b' i = celB κ ad r0 b i := by
  unfold celB
  by_cases c : i < 50
  · rw [if_pos c, if_pos c]
  · rw [if_neg c, if_neg c, h0]
    by_cases d : lvB b.2.2 i = true
    · rw [if_pos d, if_pos d, cell_keep hC hA d h1 h2 h3]
    · rw [if_neg d, if_neg d]
theorem celB_not {κ : Nat → ClassId} {ad : Nat → Nat} {r0 : Nat → Option va_E} {b : BS} {i : Nat} (h : 50 ≤ i) (hn : lvB b.2.2 i = false) : celB κ ad r0 b i = none := by
  unfold celB
  rw [if_neg (by omega), hn]
  rfl
/-- a new state at id i, with the outcome that is next -/
def nwS (b : BS) (i : Nat) : BS :=
  (fun x => if x = i then (fun k => if k = 2 then 8 else 0) else if x = 102 + 5 * b.2.2 1 ∨ x = 103 + 5 * b.2.2 1 ∨ x = 104 + 5 * b.2.2 1 then fun _ => 0 else b.1 x,
   fun x => if x = i then (fun k => if k = 1 then some (102 + 5 * b.2.2 1) else none) else if x = i + 1 then fun _ => none else b.2.1 x,
   fun x => if x = 1 then b.2.2 1 + 1 else if x = i then 1 else if x = 103 + 5 * b.2.2 1 ∨ x = 104 + 5 * b.2.2 1 then 0 else b.2.2 x)
def nwO (b : BS) (l1 l2 : Nat) (f1 f2 : Nat → Int32) (e d : Int32) : BS :=
  (fun x => if x = 102 + 5 * b.2.2 1 then (fun k => if k = 1 then e else if k = 2 then d else 0) else if x = 103 + 5 * b.2.2 1 then f1 else if x = 104 + 5 * b.2.2 1 then f2 else b.1 x,
   b.2.1,
   fun x => if x = 1 then b.2.2 1 + 1 else if x = 103 + 5 * b.2.2 1 then l1 else if x = 104 + 5 * b.2.2 1 then l2 else b.2.2 x)
def nwT (b : BS) (n : Nat) (f : Nat → Int32) : BS :=
  (fun x => if x = 100 + 5 * b.2.2 0 then (fun k => b.1 52 (k + 3)) else if x = 101 + 5 * b.2.2 0 then f else b.1 x,
   b.2.1,
   fun x => if x = 0 then b.2.2 0 + 1 else if x = 101 + 5 * b.2.2 0 then n else b.2.2 x)
theorem nwO_lv (b : BS) (l1 l2 : Nat) (f1 f2 : Nat → Int32) (e d : Int32) (j : Nat) : lvB (nwO b l1 l2 f1 f2 e d).2.2 j = true ↔ lvB b.2.2 j = true ∨ j = 102 + 5 * b.2.2 1 ∨ j = 103 + 5 * b.2.2 1 ∨ j = 104 + 5 * b.2.2 1 := by
  rw [lvB_iff, lvB_iff]
  have e0 : (nwO b l1 l2 f1 f2 e d).2.2 0 = b.2.2 0 := by simp only [nwO]; rw [if_neg (by omega), if_neg (by omega), if_neg (by omega)]
  have e1 : (nwO b l1 l2 f1 f2 e d).2.2 1 = b.2.2 1 + 1 := rfl
  have e2 : 72 ≤ j → j < 88 → (nwO b l1 l2 f1 f2 e d).2.2 (j - j % 2) = b.2.2 (j - j % 2) := by
    intro h1 h2; simp only [nwO]; rw [if_neg (by omega), if_neg (by omega), if_neg (by omega)]
  rw [e0, e1]
  constructor
  · rintro (h | h | h | h | h)
    · exact Or.inl (Or.inl h)
    · exact Or.inl (Or.inr (Or.inl h))
    · rw [e2 h.1 h.2.1] at h; exact Or.inl (Or.inr (Or.inr (Or.inl h)))
    · exact Or.inl (Or.inr (Or.inr (Or.inr (Or.inl h))))
    · by_cases c : (j - 100) / 5 < b.2.2 1
      · exact Or.inl (Or.inr (Or.inr (Or.inr (Or.inr ⟨h.1, h.2.1, c⟩))))
      · exact Or.inr (by omega)
  · rintro ((h | h | h | h | h) | h)
    · exact Or.inl h
    · exact Or.inr (Or.inl h)
    · exact Or.inr (Or.inr (Or.inl ⟨h.1, h.2.1, by rw [e2 h.1 h.2.1]; exact h.2.2⟩))
    · exact Or.inr (Or.inr (Or.inr (Or.inl h)))
    · exact Or.inr (Or.inr (Or.inr (Or.inr ⟨h.1, h.2.1, by omega⟩)))
    · exact Or.inr (Or.inr (Or.inr (Or.inr ⟨by omega, by omega, by omega⟩)))
theorem nwT_lv (b : BS) (n : Nat) (f : Nat → Int32) (j : Nat) : lvB (nwT b n f).2.2 j = true ↔ lvB b.2.2 j = true ∨ j = 100 + 5 * b.2.2 0 ∨ j = 101 + 5 * b.2.2 0 := by
  rw [lvB_iff, lvB_iff]
  have e0 : (nwT b n f).2.2 0 = b.2.2 0 + 1 := rfl
  have e1 : (nwT b n f).2.2 1 = b.2.2 1 := by simp only [nwT]; rw [if_neg (by omega), if_neg (by omega)]
  have e2 : 72 ≤ j → j < 88 → (nwT b n f).2.2 (j - j % 2) = b.2.2 (j - j % 2) := by
    intro h1 h2; simp only [nwT]; rw [if_neg (by omega), if_neg (by omega)]
  rw [e0, e1]
  constructor
  · rintro (h | h | h | h | h)
    · exact Or.inl (Or.inl h)
    · exact Or.inl (Or.inr (Or.inl h))
    · rw [e2 h.1 h.2.1] at h; exact Or.inl (Or.inr (Or.inr (Or.inl h)))
    · by_cases c : (j - 100) / 5 < b.2.2 0
      · exact Or.inl (Or.inr (Or.inr (Or.inr (Or.inl ⟨h.1, h.2.1, c⟩))))
      · exact Or.inr (by omega)
    · exact Or.inl (Or.inr (Or.inr (Or.inr (Or.inr h))))
  · rintro ((h | h | h | h | h) | h)
    · exact Or.inl h
    · exact Or.inr (Or.inl h)
    · exact Or.inr (Or.inr (Or.inl ⟨h.1, h.2.1, by rw [e2 h.1 h.2.1]; exact h.2.2⟩))
    · exact Or.inr (Or.inr (Or.inr (Or.inl ⟨h.1, h.2.1, by omega⟩)))
    · exact Or.inr (Or.inr (Or.inr (Or.inr h)))
    · exact Or.inr (Or.inr (Or.inr (Or.inl ⟨by omega, by omega, by omega⟩)))
theorem nwS_lv (b : BS) (i : Nat) (hi : 72 ≤ i ∧ i < 88 ∧ i % 2 = 0) (j : Nat) : lvB (nwS b i).2.2 j = true ↔ lvB b.2.2 j = true ∨ j = i ∨ j = i + 1 ∨ j = 102 + 5 * b.2.2 1 ∨ j = 103 + 5 * b.2.2 1 ∨ j = 104 + 5 * b.2.2 1 := by
  rw [lvB_iff, lvB_iff]
  have e0 : (nwS b i).2.2 0 = b.2.2 0 := by simp only [nwS]; rw [if_neg (by omega), if_neg (by omega), if_neg (by omega)]
  have e1 : (nwS b i).2.2 1 = b.2.2 1 + 1 := rfl
  have e2 : 72 ≤ j → j < 88 → j - j % 2 ≠ i → (nwS b i).2.2 (j - j % 2) = b.2.2 (j - j % 2) := by
    intro h1 h2 h3; simp only [nwS]; rw [if_neg (by omega), if_neg h3, if_neg (by omega)]
  have e3 : (nwS b i).2.2 i = 1 := by simp only [nwS]; rw [if_neg (by omega), if_pos trivial]
  rw [e0, e1]
  constructor
  · rintro (h | h | h | h | h)
    · exact Or.inl (Or.inl h)
    · exact Or.inl (Or.inr (Or.inl h))
    · by_cases c : j - j % 2 = i
      · exact Or.inr (by omega)
      · rw [e2 h.1 h.2.1 c] at h; exact Or.inl (Or.inr (Or.inr (Or.inl h)))
    · exact Or.inl (Or.inr (Or.inr (Or.inr (Or.inl h))))
    · by_cases c : (j - 100) / 5 < b.2.2 1
      · exact Or.inl (Or.inr (Or.inr (Or.inr (Or.inr ⟨h.1, h.2.1, c⟩))))
      · exact Or.inr (by omega)
  · rintro ((h | h | h | h | h) | h)
    · exact Or.inl h
    · exact Or.inr (Or.inl h)
    · by_cases c : j - j % 2 = i
      · exact Or.inr (Or.inr (Or.inl ⟨h.1, h.2.1, by rw [c]; exact e3⟩))
      · exact Or.inr (Or.inr (Or.inl ⟨h.1, h.2.1, by rw [e2 h.1 h.2.1 c]; exact h.2.2⟩))
    · exact Or.inr (Or.inr (Or.inr (Or.inl h)))
    · exact Or.inr (Or.inr (Or.inr (Or.inr ⟨h.1, h.2.1, by omega⟩)))
    · by_cases c : j = i ∨ j = i + 1
      · have c' : j - j % 2 = i := by omega
        exact Or.inr (Or.inr (Or.inl ⟨by omega, by omega, by rw [c']; exact e3⟩))
      · exact Or.inr (Or.inr (Or.inr (Or.inr ⟨by omega, by omega, by omega⟩)))
theorem lv_new1 (n : Nat → Nat) {j : Nat} (h : 102 + 5 * n 1 ≤ j) (h2 : 2 ≤ (j - 100) % 5) : lvB n j = false := by
  refine lvB_false fun q => ?_
  rw [lvB_iff] at q
  omega
theorem lv_new0 (n : Nat → Nat) {j : Nat} (h : 100 + 5 * n 0 ≤ j) (h2 : (j - 100) % 5 < 2) : lvB n j = false := by
  refine lvB_false fun q => ?_
  rw [lvB_iff] at q
  omega
theorem bool_iff {a b : Bool} (h : a = true ↔ b = true) : a = b := by
  cases a <;> cases b <;> simp_all
theorem celB_S {κ : Nat → ClassId} {ad ad' : Nat → Nat} {r0 : Nat → Option va_E} {b : BS} {i : Nat} (hC : Closed b) (hA : Ag b.2.2 ad ad') (hi : 72 ≤ i ∧ i < 88 ∧ i % 2 = 0) (hn : lvB b.2.2 i = false) {x1 x2 : va_E} (j : Nat) :
    celB κ ad' r0 (nwS b i) j = upO (upO (upO (upO (upO (upO (upO (celB κ ad r0 b) i x1) (i + 1) (.inl (κ 2, 26, .inr (.inr (.inr (.inr (fun _ => none))))))) (102 + 5 * b.2.2 1) x2) (103 + 5 * b.2.2 1) (.inl (κ 0, 0, .inl (fun _ => 0)))) (104 + 5 * b.2.2 1) (.inl (κ 0, 0, .inl (fun _ => 0)))) (102 + 5 * b.2.2 1) (.inr (3, [(.ref (ad' (103 + 5 * b.2.2 1))), .int 0, .int 0, (.ref (ad' (104 + 5 * b.2.2 1)))]))) i (.inr (5, [(.ref (ad' (i + 1))), (.ref (ad' (102 + 5 * b.2.2 1))), .int 8, .int 0, .int 0])) j := by
  have L := nwS_lv b i hi
  obtain ⟨o, ho⟩ : ∃ o, o = 102 + 5 * b.2.2 1 := ⟨_, rfl⟩
  have h3 : 103 + 5 * b.2.2 1 = o + 1 := by omega
  have h4 : 104 + 5 * b.2.2 1 = o + 2 := by omega
  rw [← ho, h3, h4]
  rw [← ho, h3, h4] at L
  have hk : 100 ≤ o ∧ (o - 100) % 5 = 2 := by omega
  by_cases c1 : j = i
  · subst c1
    rw [upO_s, celB_at ((L j).mpr (by omega))]
    have kj : kd j = 5 := by unfold kd; repeat' (first | rw [if_pos (by omega)] | rw [if_neg (by omega)])
    rw [cellB_o kj (by decide)]
    refine congrArg (fun q => some (Sum.inr (5, q))) ?_
    simp only [objB, nfB, List.range, List.range.loop, List.map, fvB, ctB, mrB, nwS, ← ho]
    simp [va_rf]
  rw [upO_n c1]
  by_cases c2 : j = o
  · subst c2
    rw [upO_s, celB_at ((L _).mpr (by omega))]
    have kj : kd j = 3 := by rw [kd_dyn hk.1, if_neg (by omega), if_pos hk.2]
    rw [cellB_o kj (by decide)]
    refine congrArg (fun q => some (Sum.inr (3, q))) ?_
    simp only [objB, nfB, List.range, List.range.loop, List.map, fvB, ctB, mrB, nwS, ← ho]
    simp [c1]
  rw [upO_n c2]
  by_cases c4 : j = o + 2
  · subst c4
    rw [upO_s, celB_at ((L _).mpr (by omega))]
    have kj : kd (o + 2) = 20 := by rw [kd_dyn (by omega), if_neg (by omega), if_neg (by omega)]
    rw [cellB_a kj]
    have el : lnB (nwS b i).2.2 (o + 2) = 0 := by
      unfold lnB
      repeat' (first | rw [if_pos (by omega)] | rw [if_neg (by omega)])
      simp only [nwS, h3, h4]
      rw [if_neg (by omega), if_neg (by omega), if_pos (by simp)]
    have ei : (nwS b i).1 (o + 2) = fun _ => 0 := by simp only [nwS, h3, h4, ← ho]; rw [if_neg c1, if_pos (by simp)]
    rw [el, ei]
  rw [upO_n c4]
  by_cases c3 : j = o + 1
  · subst c3
    rw [upO_s, celB_at ((L _).mpr (by omega))]
    have kj : kd (o + 1) = 20 := by rw [kd_dyn (by omega), if_neg (by omega), if_neg (by omega)]
    rw [cellB_a kj]
    have el : lnB (nwS b i).2.2 (o + 1) = 0 := by
      unfold lnB
      repeat' (first | rw [if_pos (by omega)] | rw [if_neg (by omega)])
      simp only [nwS, h3, h4]
      rw [if_neg (by omega), if_neg (by omega), if_pos (by simp)]
    have ei : (nwS b i).1 (o + 1) = fun _ => 0 := by simp only [nwS, h3, h4, ← ho]; rw [if_neg c1, if_pos (by simp)]
    rw [el, ei]
  rw [upO_n c3, upO_n c2]
  by_cases c5 : j = i + 1
  · subst c5
    rw [upO_s, celB_at ((L _).mpr (by omega))]
    have kj : kd (i + 1) = 22 := by
      unfold kd; repeat' (first | rw [if_pos (by omega)] | rw [if_neg (by omega)])
    rw [cellB_t kj]
    have el : lnB (nwS b i).2.2 (i + 1) = 26 := by
      unfold lnB
      repeat' (first | rw [if_pos (by omega)] | rw [if_neg (by omega)])
    have er : (nwS b i).2.1 (i + 1) = fun _ => none := by simp only [nwS]; rw [if_neg (by omega), if_pos trivial]
    rw [el, er]
    rfl
  rw [upO_n c5, upO_n c1]
  refine celB_keep hC hA (bool_iff ?_) ?_ ?_ ?_
  · rw [L]; constructor
    · rintro (h | h)
      · exact h
      · omega
    · exact Or.inl
  · simp only [nwS, ← ho, h3, h4]; rw [if_neg c1, if_neg (by omega)]
  · simp only [nwS]; rw [if_neg c1, if_neg c5]
  · unfold lnB
    by_cases q : j < 100
    · simp only [q, if_true]
    · have e : (nwS b i).2.2 j = b.2.2 j := by simp only [nwS, h3, h4]; rw [if_neg (by omega), if_neg c1, if_neg (by omega)]
      rw [e]
theorem celB_O {κ : Nat → ClassId} {ad ad' : Nat → Nat} {r0 : Nat → Option va_E} {b : BS} (hC : Closed b) (hA : Ag b.2.2 ad ad') {l1 l2 : Nat} {f1 f2 : Nat → Int32} {e d : Int32} {x1 : va_E} (j : Nat) :
    celB κ ad' r0 (nwO b l1 l2 f1 f2 e d) j = upO (upO (upO (upO (celB κ ad r0 b) (102 + 5 * b.2.2 1) x1) (103 + 5 * b.2.2 1) (.inl (κ 0, l1, .inl f1))) (104 + 5 * b.2.2 1) (.inl (κ 0, l2, .inl f2))) (102 + 5 * b.2.2 1) (.inr (3, [(.ref (ad' (103 + 5 * b.2.2 1))), .int e, .int d, (.ref (ad' (104 + 5 * b.2.2 1)))])) j := by
  have L := nwO_lv b l1 l2 f1 f2 e d
  obtain ⟨o, ho⟩ : ∃ o, o = 102 + 5 * b.2.2 1 := ⟨_, rfl⟩
  have h3 : 103 + 5 * b.2.2 1 = o + 1 := by omega
  have h4 : 104 + 5 * b.2.2 1 = o + 2 := by omega
  rw [← ho, h3, h4]
  rw [← ho, h3, h4] at L
  have hk : 100 ≤ o ∧ (o - 100) % 5 = 2 := by omega
  by_cases c2 : j = o
  · subst c2
    rw [upO_s, celB_at ((L _).mpr (by omega))]
    have kj : kd j = 3 := by rw [kd_dyn hk.1, if_neg (by omega), if_pos hk.2]
    rw [cellB_o kj (by decide)]
    refine congrArg (fun q => some (Sum.inr (3, q))) ?_
    simp only [objB, nfB, List.range, List.range.loop, List.map, fvB, ctB, mrB, nwO, ← ho]
    simp
  rw [upO_n c2]
  by_cases c4 : j = o + 2
  · subst c4
    rw [upO_s, celB_at ((L _).mpr (by omega))]
    have kj : kd (o + 2) = 20 := by rw [kd_dyn (by omega), if_neg (by omega), if_neg (by omega)]
    rw [cellB_a kj]
    have el : lnB (nwO b l1 l2 f1 f2 e d).2.2 (o + 2) = l2 := by
      unfold lnB
      repeat' (first | rw [if_pos (by omega)] | rw [if_neg (by omega)])
      simp only [nwO, h3, h4]
      rw [if_neg (by omega), if_neg (by omega), if_pos trivial]
    have ei : (nwO b l1 l2 f1 f2 e d).1 (o + 2) = f2 := by simp only [nwO, h3, h4, ← ho]; rw [if_neg c2, if_neg (by omega), if_pos trivial]
    rw [el, ei]
  rw [upO_n c4]
  by_cases c3 : j = o + 1
  · subst c3
    rw [upO_s, celB_at ((L _).mpr (by omega))]
    have kj : kd (o + 1) = 20 := by rw [kd_dyn (by omega), if_neg (by omega), if_neg (by omega)]
    rw [cellB_a kj]
    have el : lnB (nwO b l1 l2 f1 f2 e d).2.2 (o + 1) = l1 := by
      unfold lnB
      repeat' (first | rw [if_pos (by omega)] | rw [if_neg (by omega)])
      simp only [nwO, h3, h4]
      rw [if_neg (by omega), if_pos trivial]
    have ei : (nwO b l1 l2 f1 f2 e d).1 (o + 1) = f1 := by simp only [nwO, h3, h4, ← ho]; rw [if_neg c2, if_pos trivial]
    rw [el, ei]
  rw [upO_n c3, upO_n c2]
  refine celB_keep hC hA (bool_iff ?_) ?_ rfl ?_
  · rw [L]; constructor
    · rintro (h | h)
      · exact h
      · omega
    · exact Or.inl
  · simp only [nwO, ← ho, h3, h4]; rw [if_neg c2, if_neg c3, if_neg c4]
  · unfold lnB
    by_cases q : j < 100
    · simp only [q, if_true]
    · have e : (nwO b l1 l2 f1 f2 e d).2.2 j = b.2.2 j := by simp only [nwO, h3, h4]; rw [if_neg (by omega), if_neg c3, if_neg c4]
      rw [e]
theorem celB_T {κ : Nat → ClassId} {ad ad' : Nat → Nat} {r0 : Nat → Option va_E} {b : BS} (hC : Closed b) (hA : Ag b.2.2 ad ad') {n : Nat} {f : Nat → Int32} {x1 : va_E} (j : Nat) :
    celB κ ad' r0 (nwT b n f) j = upO (upO (upO (celB κ ad r0 b) (100 + 5 * b.2.2 0) x1) (101 + 5 * b.2.2 0) (.inl (κ 0, n, .inl f))) (100 + 5 * b.2.2 0) (.inr (6, [(.ref (ad' (101 + 5 * b.2.2 0))), .int (b.1 52 4), .int (b.1 52 5), .int (b.1 52 6), .int (b.1 52 7), .int (b.1 52 8), .int (b.1 52 9)])) j := by
  have L := nwT_lv b n f
  obtain ⟨o, ho⟩ : ∃ o, o = 100 + 5 * b.2.2 0 := ⟨_, rfl⟩
  have h3 : 101 + 5 * b.2.2 0 = o + 1 := by omega
  rw [← ho, h3]
  rw [← ho, h3] at L
  have hk : 100 ≤ o ∧ (o - 100) % 5 = 0 := by omega
  by_cases c2 : j = o
  · subst c2
    rw [upO_s, celB_at ((L _).mpr (by omega))]
    have kj : kd j = 6 := by rw [kd_dyn hk.1, if_pos hk.2]
    rw [cellB_o kj (by decide)]
    refine congrArg (fun q => some (Sum.inr (6, q))) ?_
    simp only [objB, nfB, List.range, List.range.loop, List.map, fvB, ctB, mrB, nwT, ← ho]
    simp
  rw [upO_n c2]
  by_cases c3 : j = o + 1
  · subst c3
    rw [upO_s, celB_at ((L _).mpr (by omega))]
    have kj : kd (o + 1) = 20 := by rw [kd_dyn (by omega), if_neg (by omega), if_neg (by omega)]
    rw [cellB_a kj]
    have el : lnB (nwT b n f).2.2 (o + 1) = n := by
      unfold lnB
      repeat' (first | rw [if_pos (by omega)] | rw [if_neg (by omega)])
      simp only [nwT, h3]
      rw [if_neg (by omega), if_pos trivial]
    have ei : (nwT b n f).1 (o + 1) = f := by simp only [nwT, h3, ← ho]; rw [if_neg c2, if_pos trivial]
    rw [el, ei]
  rw [upO_n c3, upO_n c2]
  refine celB_keep hC hA (bool_iff ?_) ?_ rfl ?_
  · rw [L]; constructor
    · rintro (h | h)
      · exact h
      · omega
    · exact Or.inl
  · simp only [nwT, ← ho, h3]; rw [if_neg c2, if_neg c3]
  · unfold lnB
    by_cases q : j < 100
    · simp only [q, if_true]
    · have e : (nwT b n f).2.2 j = b.2.2 j := by simp only [nwT, h3]; rw [if_neg (by omega), if_neg c3]
      rw [e]
