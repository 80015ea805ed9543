/-! COMBINATORS: what a method does, as a function of options: none where the machine would throw or a loop would not end -/
abbrev MS : Type := Nat → Nat → Int32
def up2 (z : MS) (a k : Nat) (v : Int32) : MS := fun x => if x = a then upd (z a) k v else z x
theorem up2_same (z : MS) (a k : Nat) (v : Int32) : up2 z a k v a = upd (z a) k v := if_pos rfl
theorem up2_ne (z : MS) {a k b : Nat} {v : Int32} (h : b ≠ a) : up2 z a k v b = z b := if_neg h
theorem up2_at (z : MS) (a k : Nat) (v : Int32) (b j : Nat) : up2 z a k v b j = if b = a ∧ j = k then v else z b j := by
  unfold up2
  by_cases hb : b = a
  · subst hb
    by_cases hj : j = k
    · simp [upd, hj]
    · simp [upd, hj]
  · simp [hb]
def rd {ρ : Type} (f : Nat → Int32) (n : Nat) (x : Int32) (K : Int32 → Option ρ) : Option ρ := if x < 0 ∨ n ≤ x.toNatClampNeg then none else K (f x.toNatClampNeg)
def wr {ρ : Type} (z : MS) (a n : Nat) (x v : Int32) (K : MS → Option ρ) : Option ρ := if x < 0 ∨ n ≤ x.toNatClampNeg then none else K (up2 z a x.toNatClampNeg v)
def bd {α ρ : Type} (x : α) (K : α → Option ρ) : Option ρ := K x
def bz {ρ : Type} (v : Int32) (K : Option ρ) : Option ρ := if v = 0 ∨ v = 1 then K else none
def nz {ρ : Type} (v : Int32) (K : Option ρ) : Option ρ := if v = 0 then none else K
def jp {κ : Type} {ρ : Type} (k : κ) (f : κ → Option ρ) : Option ρ := f k
def bn {α ρ : Type} : Option α → (α → Option ρ) → Option ρ
  | none, _ => none
  | some a, K => K a
def bn2 {α β ρ : Type} : Option (α × β) → (α → β → Option ρ) → Option ρ
  | none, _ => none
  | some a, K => K a.1 a.2
def li {σ ρ : Type} : Option ρ → Option (σ ⊕ ρ)
  | none => none
  | some a => some (.inr a)
theorem rd_some {ρ : Type} {f : Nat → Int32} {n : Nat} {x : Int32} {K : Int32 → Option ρ} {y : ρ} (h : rd f n x K = some y) : vp_in x n ∧ K (f x.toNatClampNeg) = some y := by
  unfold rd at h
  by_cases c : x < 0 ∨ n ≤ x.toNatClampNeg
  · rw [if_pos c] at h; cases h
  · rw [if_neg c] at h; exact ⟨c, h⟩
theorem wr_some {ρ : Type} {z : MS} {a n : Nat} {x v : Int32} {K : MS → Option ρ} {y : ρ} (h : wr z a n x v K = some y) : vp_in x n ∧ ∃ z1, z1 = up2 z a x.toNatClampNeg v ∧ K z1 = some y := by
  unfold wr at h
  by_cases c : x < 0 ∨ n ≤ x.toNatClampNeg
  · rw [if_pos c] at h; cases h
  · rw [if_neg c] at h; exact ⟨c, _, rfl, h⟩
theorem bd_some {α ρ : Type} {x : α} {K : α → Option ρ} {y : ρ} (h : bd x K = some y) : ∃ a, a = x ∧ K a = some y := ⟨x, rfl, h⟩
theorem bd_at {α ρ : Type} {x a : α} {K : α → Option ρ} {y : ρ} (h : bd x K = some y) (e : a = x) : K a = some y := by rw [e]; exact h
theorem bz_some {ρ : Type} {v : Int32} {K : Option ρ} {y : ρ} (h : bz v K = some y) : (v = 0 ∨ v = 1) ∧ K = some y := by
  unfold bz at h
  by_cases c : v = 0 ∨ v = 1
  · rw [if_pos c] at h; exact ⟨c, h⟩
  · rw [if_neg c] at h; cases h
theorem nz_some {ρ : Type} {v : Int32} {K : Option ρ} {y : ρ} (h : nz v K = some y) : ¬ v = 0 ∧ K = some y := by
  unfold nz at h
  by_cases c : v = 0
  · rw [if_pos c] at h; cases h
  · rw [if_neg c] at h; exact ⟨c, h⟩
theorem jp_some {κ ρ : Type} {k : κ} {f : κ → Option ρ} {y : ρ} (h : jp k f = some y) : ∃ k', k' = k ∧ f k' = some y := ⟨k, rfl, h⟩
theorem bn_some {α ρ : Type} {x : Option α} {K : α → Option ρ} {y : ρ} (h : bn x K = some y) : ∃ a, x = some a ∧ K a = some y := by
  cases x with
  | none => cases h
  | some a => exact ⟨a, rfl, h⟩
theorem bn2_some {α β ρ : Type} {x : Option (α × β)} {K : α → β → Option ρ} {y : ρ} (h : bn2 x K = some y) : ∃ a b, x = some (a, b) ∧ K a b = some y := by
  cases x with
  | none => cases h
  | some a => exact ⟨a.1, a.2, rfl, h⟩
theorem li_some {σ ρ : Type} {x : Option ρ} {y : σ ⊕ ρ} (h : li x = some y) : ∃ y', x = some y' ∧ y = .inr y' := by
  cases x with
  | none => cases h
  | some a => exact ⟨a, rfl, (Option.some.inj h).symm⟩
theorem it_pos {α : Type} {c : Prop} [Decidable c] {a b y : α} (h : (if c then a else b) = y) (hc : c) : a = y := by rw [if_pos hc] at h; exact h
theorem it_neg {α : Type} {c : Prop} [Decidable c] {a b y : α} (h : (if c then a else b) = y) (hc : ¬ c) : b = y := by rw [if_neg hc] at h; exact h
def loopN {σ ρ : Type} (f : σ → Option (σ ⊕ ρ)) : Nat → σ → Option ρ
  | 0, _ => none
  | n + 1, s => match f s with
    | none => none
    | some (.inl s') => loopN f n s'
    | some (.inr r) => some r
noncomputable def Loop {σ ρ : Type} (f : σ → Option (σ ⊕ ρ)) (s : σ) : Option ρ := by
  classical
  exact if h : ∃ n, loopN f n s ≠ none then loopN f (Classical.choose h) s else none
theorem loopN_le {σ ρ : Type} {f : σ → Option (σ ⊕ ρ)} {r : ρ} : ∀ {n k : Nat} {s : σ}, n ≤ k → loopN f n s = some r → loopN f k s = some r
  | 0, _, _, _, h => by cases h
  | n + 1, 0, _, hk, _ => absurd hk (by omega)
  | n + 1, k + 1, s, hk, h => by
    unfold loopN at h ⊢
    cases hf : f s with
    | none => rw [hf] at h; cases h
    | some z =>
      rw [hf] at h
      cases z with
      | inl s' => exact loopN_le (Nat.le_of_succ_le_succ hk) h
      | inr r' => exact h
theorem Loop_some {σ ρ : Type} {f : σ → Option (σ ⊕ ρ)} {s : σ} {r : ρ} (h : Loop f s = some r) : ∃ n, loopN f n s = some r := by
  unfold Loop at h
  split at h
  · exact ⟨_, h⟩
  · cases h
theorem Loop_of {σ ρ : Type} {f : σ → Option (σ ⊕ ρ)} {s : σ} {r : ρ} {n : Nat} (h : loopN f n s = some r) : Loop f s = some r := by
  have hx : ∃ n, loopN f n s ≠ none := ⟨n, by rw [h]; exact fun q => by cases q⟩
  unfold Loop
  rw [dif_pos hx]
  have h2 := Classical.choose_spec hx
  cases h3 : loopN f (Classical.choose hx) s with
  | none => exact absurd h3 h2
  | some r' =>
    rcases Nat.le_total n (Classical.choose hx) with q | q
    · exact h3.symm.trans (loopN_le q h)
    · exact (loopN_le q h3).symm.trans h
/-- what holds behind each round, if it holds of what the round leaves, holds of the start -/
theorem Loop_ind {σ ρ : Type} {f : σ → Option (σ ⊕ ρ)} {r : ρ} {P : σ → Prop} (step : ∀ s z, f s = some z → (∀ s', z = .inl s' → P s') → (∀ r', z = .inr r' → r' = r) → P s) {s : σ} (h : Loop f s = some r) : P s := by
  have h2 := Loop_some h
  clear h
  obtain ⟨n, h⟩ := h2
  induction n generalizing s with
  | zero => cases h
  | succ n ih =>
    unfold loopN at h
    cases hf : f s with
    | none => rw [hf] at h; cases h
    | some z =>
      rw [hf] at h
      refine step s z hf (fun s' e => ?_) (fun r' e => ?_)
      · subst e; exact ih h
      · subst e; exact Option.some.inj h
/-- a loop that goes on, and one that ends -/
theorem Loop_inl {σ ρ : Type} {f : σ → Option (σ ⊕ ρ)} {s s' : σ} (h : f s = some (.inl s')) : Loop f s = Loop f s' := by
  cases h1 : Loop f s' with
  | some r =>
    obtain ⟨n, hn⟩ := Loop_some h1
    exact Loop_of (n := n + 1) (by unfold loopN; rw [h]; exact hn)
  | none =>
    cases h2 : Loop f s with
    | none => rfl
    | some r =>
      obtain ⟨n, hn⟩ := Loop_some h2
      cases n with
      | zero => cases hn
      | succ n =>
        unfold loopN at hn
        rw [h] at hn
        rw [Loop_of hn] at h1
        cases h1
theorem Loop_inr {σ ρ : Type} {f : σ → Option (σ ⊕ ρ)} {s : σ} {r : ρ} (h : f s = some (.inr r)) : Loop f s = some r := Loop_of (n := 1) (by unfold loopN; rw [h])
/-- total: an invariant and a measure that falls -/
theorem Loop_tot {σ ρ : Type} {f : σ → Option (σ ⊕ ρ)} (I : σ → Prop) (μ : σ → Nat) (Q : ρ → Prop) (hs : ∀ s, I s → (∃ s', f s = some (.inl s') ∧ I s' ∧ μ s' < μ s) ∨ ∃ r, f s = some (.inr r) ∧ Q r) : ∀ s, I s → ∃ r, Loop f s = some r ∧ Q r := by
  have key : ∀ (n : Nat) (s : σ), μ s < n → I s → ∃ r, Loop f s = some r ∧ Q r := by
    intro n
    induction n with
    | zero => intro s h; exact absurd h (by omega)
    | succ n ih =>
      intro s hm hI
      rcases hs s hI with ⟨s', h1, h2, h3⟩ | ⟨r, h1, h2⟩
      · rw [Loop_inl h1]
        exact ih s' (by omega) h2
      · exact ⟨r, Loop_inr h1, h2⟩
  exact fun s hI => key _ s (Nat.lt_succ_self _) hI
theorem rd_in {ρ : Type} {f : Nat → Int32} {n : Nat} {x : Int32} {K : Int32 → Option ρ} (h : vp_in x n) : rd f n x K = K (f x.toNatClampNeg) := if_neg h
theorem wr_in {ρ : Type} {z : MS} {a n : Nat} {x v : Int32} {K : MS → Option ρ} (h : vp_in x n) : wr z a n x v K = K (up2 z a x.toNatClampNeg v) := if_neg h
theorem rd_nI {ρ : Type} {f : Nat → Int32} {n k : Nat} {K : Int32 → Option ρ} (h : k < n) (hn : n < 2 ^ 31) : rd f n (nI k) K = K (f k) := by
  rw [rd_in (vp_in_nI h hn), nI_clamp (Nat.lt_trans h hn)]
theorem wr_nI {ρ : Type} {z : MS} {a n k : Nat} {v : Int32} {K : MS → Option ρ} (h : k < n) (hn : n < 2 ^ 31) : wr z a n (nI k) v K = K (up2 z a k v) := by
  rw [wr_in (vp_in_nI h hn), nI_clamp (Nat.lt_trans h hn)]
