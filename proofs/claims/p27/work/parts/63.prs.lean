/-! PURE: how a run goes on, its bottom piece grows, what stands open ends -/
theorem PrsOK.step {call : Nat → List Tx → Tx → Gl → Tx × Gl} {fill : Nat → Tx} {c : Int32} {v : Tx} {s : Lc × Gl} {hd : Bool} (h : PrsOK (c :: v) s.1.2.1 hd) :
    (∃ hd', runF call fill (c :: v) s = runF call fill v (oneF call fill c s) ∧ PrsOK v (oneF call fill c s).1.2.1 hd' ∧ (oneF call fill c s).1.2.2 = s.1.2.2 + (if c = 63 then 1 else 0)) ∨
    (∃ v', v = 40 :: v' ∧ inB c 65 90 = true ∧ runF call fill (c :: v) s = runF call fill v' (pshF c s) ∧ PrsOK v' (pshF c s).1.2.1 false) := by
  rcases h.way with ⟨hpl, hp'⟩ | ⟨rfl, hp'⟩ | ⟨hab, hnx, hp'⟩ | ⟨hab, v', hv', hp'⟩ | ⟨rfl, f, r, hst, hp'⟩ | ⟨rfl, f, r, hst, hf6, hp'⟩
  · have hnp := pl_ne hpl
    have ho : oneF call fill c s = ((s.1.1 ++ [c], s.1.2.1, s.1.2.2), bdd s.2 (ovr (s.1.1 ++ [c]))) := by
      unfold oneF
      rw [if_neg hnp.1, if_neg (by rw [pl_ab hpl]; decide), if_neg hnp.2.2.1, if_neg hnp.2.2.2]
    refine Or.inl ⟨false, runF_one (by rw [pl_ab hpl]; rintro ⟨q, -⟩; cases q), ?_, ?_⟩
    · rw [ho]; exact hp'
    · rw [ho, if_neg hnp.1]; rfl
  · have ho : oneF call fill 63 s = ((s.1.1 ++ fill s.1.2.2, s.1.2.1, s.1.2.2 + 1), bdd s.2 (ovr (s.1.1 ++ fill s.1.2.2))) := by
      unfold oneF; rw [if_pos rfl]
    refine Or.inl ⟨false, runF_one (by rintro ⟨q, -⟩; cases q), ?_, ?_⟩
    · rw [ho]; exact hp'
    · rw [ho, if_pos rfl]
  · have ho : oneF call fill c s = (((call (ltr c) [] s.1.1 s.2).1, s.1.2.1, s.1.2.2), (call (ltr c) [] s.1.1 s.2).2) := by
      unfold oneF; rw [if_neg (ab_ne hab).1, if_pos hab]
    refine Or.inl ⟨true, runF_one (by rintro ⟨-, q⟩; exact hnx q), ?_, ?_⟩
    · rw [ho]; exact hp'
    · rw [ho, if_neg (ab_ne hab).1]; rfl
  · subst hv'
    exact Or.inr ⟨v', rfl, hab, runF_psh hab, hp' _ rfl⟩
  · have ho : oneF call fill 44 s = (([], (f.1, f.2.1, f.2.2 ++ [s.1.1]) :: r, s.1.2.2), s.2) := by
      unfold oneF; rw [if_neg (by decide), if_neg (by decide), if_pos rfl, hst]
    refine Or.inl ⟨false, runF_one (by rintro ⟨q, -⟩; cases q), ?_, ?_⟩
    · rw [ho]; exact hp' _ (by rw [List.length_append]; rfl)
    · rw [ho, if_neg (by decide)]; rfl
  · have ho : oneF call fill 41 s = (((call f.1 (f.2.2 ++ [s.1.1]) f.2.1 s.2).1, r, s.1.2.2), (call f.1 (f.2.2 ++ [s.1.1]) f.2.1 s.2).2) := by
      unfold oneF; rw [if_neg (by decide), if_neg (by decide), if_neg (by decide), if_pos rfl, hst]
    refine Or.inl ⟨false, runF_one (by rintro ⟨q, -⟩; cases q), ?_, ?_⟩
    · rw [ho]; exact hp'
    · rw [ho, if_neg (by decide)]; rfl
theorem hls_cons (c : Int32) (v : Tx) : hls (c :: v) = (if c = 63 then 1 else 0) + hls v := by
  unfold hls
  rw [List.countP_cons]
  by_cases h : c = 63
  · rw [if_pos h, if_pos (by rw [decide_eq_true h]), Nat.add_comm]
  · rw [if_neg h, if_neg (by rw [decide_eq_false h]; decide), Nat.add_comm]
theorem runF_end {call : Nat → List Tx → Tx → Gl → Tx × Gl} {fill : Nat → Tx} (n : Nat) (v : Tx) (hn : v.length ≤ n) (s : Lc × Gl) (hd : Bool) (h : PrsOK v s.1.2.1 hd) : (runF call fill v s).1.2.1 = [] ∧ (runF call fill v s).1.2.2 = s.1.2.2 + hls v := by
  induction n generalizing v s hd with
  | zero =>
    cases v with
    | nil => exact ⟨h.nil, rfl⟩
    | cons c v => rw [List.length_cons] at hn; omega
  | succ n ih =>
    cases v with
    | nil => exact ⟨h.nil, rfl⟩
    | cons c v =>
      rw [List.length_cons] at hn
      rcases h.step (call := call) (fill := fill) with ⟨hd', e, hp, hh⟩ | ⟨v', rfl, hab, e, hp⟩
      · rw [e]
        obtain ⟨q1, q2⟩ := ih v (by omega) _ hd' hp
        refine ⟨q1, ?_⟩
        rw [q2, hh, hls_cons]; omega
      · rw [e]
        rw [List.length_cons] at hn
        obtain ⟨q1, q2⟩ := ih v' (by omega) _ false hp
        refine ⟨q1, ?_⟩
        rw [q2, hls_cons, hls_cons, if_neg (ab_ne hab).1, if_neg (by decide)]
        show s.1.2.2 + hls v' = _
        omega
/-- the bottom piece -/
def bt : List Fr → Tx → Tx
  | [], own => own
  | f :: r, _ => bt r f.2.1
theorem bt_le (r : List Fr) (w x : Tx) : (bt r w).length ≤ (bt r (w ++ x)).length := by
  cases r with
  | nil => show w.length ≤ (w ++ x).length; rw [List.length_append]; omega
  | cons f r => exact Nat.le_refl _
theorem oneF_bt {call : Nat → List Tx → Tx → Gl → Tx × Gl} (hc : ∀ k as own G, ∃ w, (call k as own G).1 = own ++ w) {fill : Nat → Tx} {c : Int32} {s : Lc × Gl} : (bt s.1.2.1 s.1.1).length ≤ (bt (oneF call fill c s).1.2.1 (oneF call fill c s).1.1).length := by
  unfold oneF
  by_cases h1 : c = 63
  · rw [if_pos h1]; exact bt_le _ _ _
  · rw [if_neg h1]
    by_cases h2 : inB c 65 90 = true
    · rw [if_pos h2]
      obtain ⟨w, hw⟩ := hc (ltr c) [] s.1.1 s.2
      dsimp only
      rw [hw]; exact bt_le _ _ _
    · rw [if_neg h2]
      by_cases h3 : c = 44
      · rw [if_pos h3]
        cases e : s.1.2.1 with
        | nil => dsimp only; rw [e]; exact Nat.le_refl _
        | cons f r => exact Nat.le_refl _
      · rw [if_neg h3]
        by_cases h4 : c = 41
        · rw [if_pos h4]
          cases e : s.1.2.1 with
          | nil => dsimp only; rw [e]; exact Nat.le_refl _
          | cons f r =>
            obtain ⟨w, hw⟩ := hc f.1 (f.2.2 ++ [s.1.1]) f.2.1 s.2
            dsimp only
            rw [hw]
            show (bt r f.2.1).length ≤ (bt r (f.2.1 ++ w)).length
            exact bt_le _ _ _
        · rw [if_neg h4]; exact bt_le _ _ _
theorem runF_bt {call : Nat → List Tx → Tx → Gl → Tx × Gl} (hc : ∀ k as own G, ∃ w, (call k as own G).1 = own ++ w) {fill : Nat → Tx} (n : Nat) (u : Tx) (hn : u.length ≤ n) (s : Lc × Gl) : (bt s.1.2.1 s.1.1).length ≤ (bt (runF call fill u s).1.2.1 (runF call fill u s).1.1).length := by
  induction n generalizing u s with
  | zero =>
    cases u with
    | nil => exact Nat.le_refl _
    | cons c r => rw [List.length_cons] at hn; omega
  | succ n ih =>
    cases u with
    | nil => exact Nat.le_refl _
    | cons c r =>
      rw [List.length_cons] at hn
      by_cases q : inB c 65 90 = true ∧ r.head? = some 40
      · cases r with
        | nil => cases q.2
        | cons e r =>
          obtain ⟨q1, q2⟩ := q
          cases q2
          rw [List.length_cons] at hn
          rw [runF_psh q1]
          exact ih r (by omega) (pshF c s)
      · rw [runF_one q]
        exact Nat.le_trans (oneF_bt hc) (ih r (by omega) _)
theorem callF_own (rec : List Nat → (Nat → Tx) → Tx → Gl → Tx × Gl) (D : Nat → Option Tx) (L : Nat) (O : List Nat) : ∀ k as own G, ∃ w, (callF rec D L O k as own G).1 = own ++ w := fun _ _ _ _ => ⟨_, rfl⟩
/-- it ends too long, if its bottom piece is that -/
theorem runF_long {rec : List Nat → (Nat → Tx) → Tx → Gl → Tx × Gl} {D : Nat → Option Tx} {L : Nat} {O : List Nat} {fill : Nat → Tx} {v : Tx} {s : Lc × Gl} {hd : Bool} (h : PrsOK v s.1.2.1 hd) : (bt s.1.2.1 s.1.1).length ≤ (runF (callF rec D L O) fill v s).1.1.length := by
  have q := runF_bt (callF_own rec D L O) (fill := fill) v.length v (Nat.le_refl _) s
  rw [(runF_end v.length v (Nat.le_refl _) s hd h).1] at q
  exact q
