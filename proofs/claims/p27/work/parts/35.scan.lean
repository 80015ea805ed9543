/-! PURE: reading a text sign by sign -/
theorem inB_iff (x lo hi : Int32) : inB x lo hi = true ↔ lo.toInt ≤ x.toInt ∧ x.toInt ≤ hi.toInt := by
  unfold inB
  rw [Bool.and_eq_true, decide_eq_true_iff, decide_eq_true_iff, Int32.le_iff_toInt_le, Int32.le_iff_toInt_le]
theorem plB_iff (x : Int32) : plB x = true ↔ (97 ≤ x.toInt ∧ x.toInt ≤ 122) ∨ x = 95 := by
  unfold plB
  rw [Bool.or_eq_true, inB_iff, decide_eq_true_iff]; rfl
theorem ab_iff (x : Int32) : inB x 65 90 = true ↔ 65 ≤ x.toInt ∧ x.toInt ≤ 90 := inB_iff x 65 90
theorem pl_ab {c : Int32} (h : plB c = true) : inB c 65 90 = false := by
  cases e : inB c 65 90 with
  | false => rfl
  | true =>
    rw [ab_iff] at e
    rw [plB_iff] at h
    rcases h with h | rfl
    · omega
    · exact absurd e.2 (by decide)
theorem pl_ne {c : Int32} (h : plB c = true) : c ≠ 63 ∧ c ≠ 40 ∧ c ≠ 44 ∧ c ≠ 41 := by
  refine ⟨?_, ?_, ?_, ?_⟩ <;> (rintro rfl; exact absurd h (by decide))
theorem ab_ne {c : Int32} (h : inB c 65 90 = true) : c ≠ 63 ∧ c ≠ 40 ∧ c ≠ 44 ∧ c ≠ 41 := by
  refine ⟨?_, ?_, ?_, ?_⟩ <;> (rintro rfl; exact absurd h (by decide))
theorem not_t {p : Bool} (h : ¬ p = true) : p = false := by simpa using h
/-- the five ways on -/
theorem stp_some {c : Int32} {s s' : List Nat} {h h' : Bool} (e : stp c (s, h) = some (s', h')) :
    ((plB c = true ∨ c = 63) ∧ inB c 65 90 = false ∧ c ≠ 40 ∧ c ≠ 44 ∧ c ≠ 41 ∧ s' = s ∧ h' = false) ∨
    (plB c = false ∧ c ≠ 63 ∧ inB c 65 90 = true ∧ c ≠ 40 ∧ c ≠ 44 ∧ c ≠ 41 ∧ s' = s ∧ h' = true) ∨
    (c = 40 ∧ h = true ∧ s' = 1 :: s ∧ h' = false) ∨
    (∃ a r, c = 44 ∧ s = a :: r ∧ a < 6 ∧ s' = (a + 1) :: r ∧ h' = false) ∨
    (∃ a, c = 41 ∧ s = a :: s' ∧ h' = false) := by
  unfold stp at e
  by_cases h1 : plB c = true ∨ c = 63
  · rw [if_pos h1] at e
    cases e
    refine Or.inl ⟨h1, ?_⟩
    rcases h1 with h1 | rfl
    · exact ⟨pl_ab h1, (pl_ne h1).2.1, (pl_ne h1).2.2.1, (pl_ne h1).2.2.2, rfl, rfl⟩
    · exact ⟨by decide, by decide, by decide, by decide, rfl, rfl⟩
  · rw [if_neg h1] at e
    by_cases h2 : inB c 65 90 = true
    · rw [if_pos h2] at e
      cases e
      exact Or.inr (Or.inl ⟨not_t fun q => h1 (Or.inl q), (ab_ne h2).1, h2, (ab_ne h2).2.1, (ab_ne h2).2.2.1, (ab_ne h2).2.2.2, rfl, rfl⟩)
    · rw [if_neg h2] at e
      by_cases h3 : c = 40
      · rw [if_pos h3] at e
        cases h with
        | true => rw [if_pos rfl] at e; cases e; exact Or.inr (Or.inr (Or.inl ⟨h3, rfl, rfl, rfl⟩))
        | false => rw [if_neg (by simp)] at e; cases e
      · rw [if_neg h3] at e
        by_cases h4 : c = 44
        · rw [if_pos h4] at e
          cases s with
          | nil => cases e
          | cons a r =>
            dsimp only at e
            by_cases h5 : a < 6
            · rw [if_pos h5] at e; cases e
              exact Or.inr (Or.inr (Or.inr (Or.inl ⟨a, r, h4, rfl, h5, rfl, rfl⟩)))
            · rw [if_neg h5] at e; cases e
        · rw [if_neg h4] at e
          by_cases h5 : c = 41
          · rw [if_pos h5] at e
            cases s with
            | nil => cases e
            | cons a r =>
              cases e
              exact Or.inr (Or.inr (Or.inr (Or.inr ⟨a, h5, rfl, rfl⟩)))
          · rw [if_neg h5] at e; cases e
theorem stp_none {c : Int32} {s : List Nat} {h : Bool} (e : stp c (s, h) = none) :
    plB c = false ∧ c ≠ 63 ∧ inB c 65 90 = false ∧ ((c = 40 ∧ h = false) ∨ (c = 44 ∧ s = []) ∨ (∃ a r, c = 44 ∧ s = a :: r ∧ ¬ a < 6) ∨ (c = 41 ∧ s = []) ∨ (c ≠ 40 ∧ c ≠ 44 ∧ c ≠ 41)) := by
  unfold stp at e
  by_cases h1 : plB c = true ∨ c = 63
  · rw [if_pos h1] at e; cases e
  · rw [if_neg h1] at e
    refine ⟨not_t fun q => h1 (Or.inl q), fun q => h1 (Or.inr q), ?_⟩
    by_cases h2 : inB c 65 90 = true
    · rw [if_pos h2] at e; cases e
    · rw [if_neg h2] at e
      refine ⟨not_t h2, ?_⟩
      by_cases h3 : c = 40
      · rw [if_pos h3] at e
        cases h with
        | true => rw [if_pos rfl] at e; cases e
        | false => exact Or.inl ⟨h3, rfl⟩
      · rw [if_neg h3] at e
        by_cases h4 : c = 44
        · rw [if_pos h4] at e
          cases s with
          | nil => exact Or.inr (Or.inl ⟨h4, rfl⟩)
          | cons a r =>
            dsimp only at e
            by_cases h5 : a < 6
            · rw [if_pos h5] at e; cases e
            · exact Or.inr (Or.inr (Or.inl ⟨a, r, h4, rfl, h5⟩))
        · rw [if_neg h4] at e
          by_cases h5 : c = 41
          · rw [if_pos h5] at e
            cases s with
            | nil => exact Or.inr (Or.inr (Or.inr (Or.inl ⟨h5, rfl⟩)))
            | cons a r => cases e
          · exact Or.inr (Or.inr (Or.inr (Or.inr ⟨h3, h4, h5⟩)))
theorem scn_app (t u : Tx) (s : Sc) : scn (t ++ u) s = (scn t s).bind (scn u) := by
  induction t generalizing s with
  | nil => rfl
  | cons c t ih =>
    show (match stp c s with | none => none | some s' => scn (t ++ u) s') = _
    show _ = (match stp c s with | none => none | some s' => scn t s').bind (scn u)
    cases stp c s with
    | none => rfl
    | some s' => exact ih s'
theorem scn_len {t : Tx} {s s' : List Nat} {h h' : Bool} (e : scn t (s, h) = some (s', h')) : 2 * s'.length + (if h' = true then 1 else 0) ≤ 2 * s.length + (if h = true then 1 else 0) + t.length := by
  induction t generalizing s h with
  | nil => cases e; exact Nat.le_refl _
  | cons c t ih =>
    unfold scn at e
    cases e1 : stp c (s, h) with
    | none => rw [e1] at e; cases e
    | some q =>
      obtain ⟨s1, h1⟩ := q
      rw [e1] at e
      have q := ih e
      rw [List.length_cons]
      rcases stp_some e1 with ⟨-, -, -, -, -, rfl, rfl⟩ | ⟨-, -, -, -, -, -, rfl, rfl⟩ | ⟨-, rfl, rfl, rfl⟩ | ⟨a, r, -, rfl, -, rfl, rfl⟩ | ⟨a, -, rfl, rfl⟩
      · rw [if_neg Bool.false_ne_true] at q; omega
      · rw [if_pos rfl] at q; omega
      · rw [if_neg Bool.false_ne_true, List.length_cons] at q
        rw [if_pos (rfl : true = true)]; omega
      · rw [if_neg Bool.false_ne_true, List.length_cons] at q
        rw [List.length_cons]; omega
      · rw [if_neg Bool.false_ne_true] at q
        rw [List.length_cons]; omega
/-- all counts of arguments are 1 to 6 -/
theorem scn_cnt {t : Tx} {s s' : List Nat} {h h' : Bool} (e : scn t (s, h) = some (s', h')) (hs : ∀ a ∈ s, 1 ≤ a ∧ a ≤ 6) : ∀ a ∈ s', 1 ≤ a ∧ a ≤ 6 := by
  induction t generalizing s h with
  | nil => cases e; exact hs
  | cons c t ih =>
    unfold scn at e
    cases e1 : stp c (s, h) with
    | none => rw [e1] at e; cases e
    | some q =>
      obtain ⟨s1, h1⟩ := q
      rw [e1] at e
      refine ih e ?_
      rcases stp_some e1 with ⟨-, -, -, -, -, rfl, rfl⟩ | ⟨-, -, -, -, -, -, rfl, rfl⟩ | ⟨-, rfl, rfl, rfl⟩ | ⟨a, r, -, rfl, ha, rfl, rfl⟩ | ⟨a, -, rfl, rfl⟩
      · exact hs
      · exact hs
      · intro a ha
        rcases List.mem_cons.mp ha with rfl | ha
        · omega
        · exact hs a ha
      · intro b hb
        rcases List.mem_cons.mp hb with rfl | hb
        · omega
        · exact hs b (List.mem_cons_of_mem _ hb)
      · exact fun b hb => hs b (List.mem_cons_of_mem _ hb)
/-- a stack as a row: innermost last -/
def RS (f : Nat → Int32) : List Nat → Prop
  | [] => True
  | a :: r => f r.length = nI a ∧ RS f r
theorem RS.upd {f : Nat → Int32} {s : List Nat} {k : Nat} {v : Int32} (h : RS f s) (hk : s.length ≤ k) : RS (upd f k v) s := by
  induction s with
  | nil => trivial
  | cons a r ih =>
    rw [List.length_cons] at hk
    refine ⟨?_, ih h.2 (by omega)⟩
    show (if r.length = k then v else f r.length) = nI a
    rw [if_neg (by omega)]
    exact h.1
theorem msts_s {t : Tx} {j : Nat} (h : j < t.length) (s : List Nat × Nat × Nat) : msts (t.take (j + 1)) s = mst (t.getD j 0) (msts (t.take j) s) := by
  unfold msts
  rw [take_s h, List.foldl_append]; rfl
theorem scn_s {t : Tx} {j : Nat} (h : j < t.length) {s : Sc} {s1 : Sc} (e : scn (t.take j) s = some s1) : scn (t.take (j + 1)) s = stp (t.getD j 0) s1 := by
  rw [take_s h, scn_app, e]
  show scn [t.getD j 0] s1 = _
  unfold scn
  cases stp (t.getD j 0) s1 <;> rfl
theorem Cpl.pre {t : Tx} (h : Cpl t) (j : Nat) : ∃ s hd, scn (t.take j) ([], false) = some (s, hd) := by
  obtain ⟨hd, e⟩ := h
  rw [← List.take_append_drop j t, scn_app] at e
  cases e1 : scn (t.take j) ([], false) with
  | none => rw [e1] at e; cases e
  | some q => exact ⟨q.1, q.2, rfl⟩
theorem mst_stp {c : Int32} {s s' : List Nat} {h h' : Bool} {m n : Nat} (e : stp c (s, h) = some (s', h')) : (mst c (s, m, n)).1 = s' := by
  unfold mst
  rcases stp_some e with ⟨-, h2, h3, h4, h5, rfl, rfl⟩ | ⟨-, -, h2, h3, h4, h5, rfl, rfl⟩ | ⟨rfl, rfl, rfl, rfl⟩ | ⟨a, r, rfl, rfl, ha, rfl, rfl⟩ | ⟨a, rfl, rfl, rfl⟩
  · rw [if_neg (by rw [h2]; decide), if_neg h3, if_neg h4, if_neg h5]
  · rw [if_pos h2]
  · rw [if_neg (by decide), if_pos rfl]
  · rw [if_neg (by decide), if_neg (by decide), if_pos rfl]
  · rw [if_neg (by decide), if_neg (by decide), if_neg (by decide), if_pos rfl]; rfl
theorem msts_scn {t : Tx} {s s' : List Nat} {h h' : Bool} {m n : Nat} (e : scn t (s, h) = some (s', h')) : (msts t (s, m, n)).1 = s' := by
  induction t generalizing s h m n with
  | nil => cases e; rfl
  | cons c t ih =>
    unfold scn at e
    cases e1 : stp c (s, h) with
    | none => rw [e1] at e; cases e
    | some q =>
      obtain ⟨s1, h1⟩ := q
      rw [e1] at e
      have q := mst_stp (m := m) (n := n) e1
      show (msts t (mst c (s, m, n))).1 = s'
      obtain ⟨m1, n1, hm⟩ : ∃ m1 n1, mst c (s, m, n) = (s1, m1, n1) := ⟨_, _, Prod.ext q rfl⟩
      rw [hm]
      exact ih e
def mxl (s : List Nat) : Nat := s.foldr max 0
