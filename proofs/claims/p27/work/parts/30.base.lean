/-! PURE: loops that count, small facts -/
theorem Loop_seq {σ ρ : Type} {f : σ → Option (σ ⊕ ρ)} (s : Nat → σ) (N : Nat) (h : ∀ k, k < N → f (s k) = some (.inl (s (k + 1)))) {r : ρ} (he : f (s N) = some (.inr r)) : Loop f (s 0) = some r := by
  have key : ∀ n k, k + n = N → Loop f (s k) = some r := by
    intro n
    induction n with
    | zero => intro k hk; have : k = N := by omega
              subst this; exact Loop_inr he
    | succ n ih => intro k hk; rw [Loop_inl (h k (by omega))]; exact ih (k + 1) (by omega)
  exact key N 0 (by omega)
theorem Loop_go {σ ρ : Type} {f : σ → Option (σ ⊕ ρ)} (s : Nat → σ) (N : Nat) (h : ∀ k, k < N → f (s k) = some (.inl (s (k + 1)))) : Loop f (s 0) = Loop f (s N) := by
  have key : ∀ n k, k + n = N → Loop f (s k) = Loop f (s N) := by
    intro n
    induction n with
    | zero => intro k hk; have : k = N := by omega
              subst this; rfl
    | succ n ih => intro k hk; rw [Loop_inl (h k (by omega))]; exact ih (k + 1) (by omega)
  exact key N 0 (by omega)
theorem Loop_inv {σ ρ : Type} {f : σ → Option (σ ⊕ ρ)} (I : Nat → σ → Prop) (N : Nat) (Q : ρ → Prop) (h : ∀ k s, k < N → I k s → ∃ s', f s = some (.inl s') ∧ I (k + 1) s') (he : ∀ s, I N s → ∃ r, f s = some (.inr r) ∧ Q r) : ∀ s, I 0 s → ∃ r, Loop f s = some r ∧ Q r := by
  have key : ∀ n k s, k + n = N → I k s → ∃ r, Loop f s = some r ∧ Q r := by
    intro n
    induction n with
    | zero =>
      intro k s hk hI
      have : k = N := by omega
      subst this
      obtain ⟨r, h1, h2⟩ := he s hI
      exact ⟨r, Loop_inr h1, h2⟩
    | succ n ih =>
      intro k s hk hI
      obtain ⟨s', h1, h2⟩ := h k s (by omega) hI
      rw [Loop_inl h1]
      exact ih (k + 1) s' (by omega) h2
  exact fun s hI => key N 0 s (by omega) hI
theorem bz0 {ρ : Type} {K : Option ρ} : bz 0 K = K := if_pos (Or.inl rfl)
theorem bz1 {ρ : Type} {K : Option ρ} : bz 1 K = K := if_pos (Or.inr rfl)
/-- a truth as a number -/
def bI (p : Bool) : Int32 := if p then 1 else 0
theorem bI_t : bI true = 1 := rfl
theorem bI_f : bI false = 0 := rfl
theorem bI_0 {p : Bool} : bI p = 0 ↔ p = false := by cases p <;> simp [bI]
theorem bI_1 {p : Bool} : bI p = 1 ↔ p = true := by cases p <;> simp [bI]
theorem bI_n {p : Bool} : ¬ bI p = 0 ↔ p = true := by cases p <;> simp [bI]
theorem bzb {ρ : Type} {p : Bool} {K : Option ρ} : bz (bI p) K = K := by cases p <;> first | exact bz0 | exact bz1
theorem lt_nle {a b : Int32} : a < b ↔ ¬ b ≤ a := Int32.not_le.symm
def inB (x lo hi : Int32) : Bool := decide (lo ≤ x) && decide (x ≤ hi)
theorem F8_in_eq (x lo hi : Int32) : F8_in x lo hi = some (bI (inB x lo hi)) := by
  unfold F8_in inB
  simp only [jp]
  by_cases h1 : x < lo
  · rw [if_pos h1, bz0, decide_eq_false (Int32.not_le.mpr h1)]; rfl
  · rw [if_neg h1]
    by_cases h2 : hi < x
    · rw [if_pos h2, bz0, decide_eq_false (Int32.not_le.mpr h2), Bool.and_false]; rfl
    · rw [if_neg h2, bz1, decide_eq_true (Int32.not_lt.mp h1), decide_eq_true (Int32.not_lt.mp h2)]; rfl
theorem F8_isLetter_eq (x : Int32) : F8_isLetter x = some (bI (inB x 0 25)) := by
  unfold F8_isLetter; rw [F8_in_eq]; exact bzb
theorem F8_isCall_eq (x : Int32) : F8_isCall x = some (bI (inB x 65 90)) := by
  unfold F8_isCall; rw [F8_in_eq]; exact bzb
def plB (x : Int32) : Bool := inB x 97 122 || decide (x = 95)
theorem F8_isPlain_eq (x : Int32) : F8_isPlain x = some (bI (plB x)) := by
  unfold F8_isPlain plB
  rw [F8_in_eq]
  simp only [bn, jp]
  by_cases h : inB x 97 122 = true
  · rw [if_pos (bI_n.mpr h), bz1, h]; rfl
  · rw [if_neg (fun q => h (bI_n.mp q))]
    have h' : inB x 97 122 = false := by simpa using h
    rw [h', Bool.false_or]
    by_cases h2 : x = 95
    · rw [if_neg (fun q => q h2), bz1, decide_eq_true h2]; rfl
    · rw [if_pos h2, bz0, decide_eq_false h2]; rfl
theorem lt_lit {x : Int32} {a : Int32} (b : Int32) (h : b.toInt = a.toInt + 1) : x < b ↔ x ≤ a := by
  rw [Int32.lt_iff_toInt_lt, Int32.le_iff_toInt_le]; omega
theorem F7_isLetter_eq (x : Int32) : F7_isLetter x = some (bI (inB x 0 25)) := by
  unfold F7_isLetter inB
  simp only [jp]
  by_cases h1 : x < 0
  · rw [if_pos h1, bz0, decide_eq_false (Int32.not_le.mpr h1)]; rfl
  · rw [if_neg h1]
    by_cases h2 : 26 ≤ x
    · rw [if_pos h2, bz0, decide_eq_false (fun q => absurd ((lt_lit 26 (by decide)).mpr q) (Int32.not_lt.mpr h2)), Bool.and_false]; rfl
    · rw [if_neg h2, bz1, decide_eq_true (Int32.not_lt.mp h1), decide_eq_true ((lt_lit 26 (by decide)).mp (Int32.not_le.mp h2))]; rfl
theorem F7_isAbbreviation_eq (x : Int32) : F7_isAbbreviation x = some (bI (inB x 65 90)) := by
  unfold F7_isAbbreviation inB
  simp only [jp]
  by_cases h1 : x < 65
  · rw [if_pos h1, bz0, decide_eq_false (Int32.not_le.mpr h1)]; rfl
  · rw [if_neg h1]
    by_cases h2 : 90 < x
    · rw [if_pos h2, bz0, decide_eq_false (Int32.not_le.mpr h2), Bool.and_false]; rfl
    · rw [if_neg h2, bz1, decide_eq_true (Int32.not_lt.mp h1), decide_eq_true (Int32.not_lt.mp h2)]; rfl
theorem inB_nI {x : Int32} {n : Nat} {hi : Int32} (hh : hi.toInt = n) (h : inB x 0 hi = true) : ∃ k : Nat, k ≤ n ∧ x = nI k := by
  unfold inB at h
  rw [Bool.and_eq_true, decide_eq_true_iff, decide_eq_true_iff] at h
  exact nI_of2 hh (Int32.not_lt.mpr h.1) h.2
theorem inB_of {n k : Nat} {hi : Int32} (hh : hi.toInt = n) (hn : n < 2 ^ 31) (h : k ≤ n) : inB (nI k) 0 hi = true := by
  unfold inB
  rw [Bool.and_eq_true, decide_eq_true_iff, decide_eq_true_iff]
  refine ⟨nI_pos' (by omega), ?_⟩
  rw [Int32.le_iff_toInt_le, hh, nI_toInt (by omega)]
  omega
theorem letter_nI {x : Int32} (h : inB x 0 25 = true) : ∃ k : Nat, k < 26 ∧ x = nI k := by
  obtain ⟨k, hk, e⟩ := inB_nI (n := 25) rfl h
  exact ⟨k, by omega, e⟩
theorem nI_letter {k : Nat} (h : k < 26) : inB (nI k) 0 25 = true := inB_of (n := 25) rfl (by decide) (by omega)
/-- what 'refused' leaves -/
def rfs (z : MS) (w : Int32) : MS := up2 z 43 7 w
theorem F8_refused0 (z : MS) : F8_refused z 0 = some (rfs z 0, 0) := by
  unfold F8_refused
  simp only [bd, jp]
  rw [if_pos (by decide), bz0]; rfl
theorem F8_refusedP (z : MS) (w : Int32) (h : 0 < w) : F8_refused z w = some (rfs z w, 1) := by
  unfold F8_refused
  simp only [bd, jp]
  rw [if_neg (Int32.not_le.mpr h), bz1]; rfl
theorem requireLetter_ok {x : Int32} (h : inB x 0 25 = true) : F7_requireLetter x = some ((), .inr ()) := by
  unfold F7_requireLetter; rw [F7_isLetter_eq]; simp only [bn]; rw [if_pos (bI_n.mpr h)]
theorem requireLetter_no {x : Int32} (h : inB x 0 25 = false) : F7_requireLetter x = some ((), .inl 1) := by
  unfold F7_requireLetter; rw [F7_isLetter_eq]; simp only [bn]; rw [if_neg (by rw [h]; decide)]
theorem requireWhat_ok {x hi : Int32} (h : inB x 0 hi = true) : F7_requireWhat x hi = some ((), .inr ()) := by
  unfold F7_requireWhat
  simp only [jp]
  unfold inB at h
  rw [Bool.and_eq_true, decide_eq_true_iff, decide_eq_true_iff] at h
  rw [if_neg (Int32.not_lt.mpr h.1), if_pos h.2]
theorem requireWhat_no {x hi : Int32} (h : inB x 0 hi = false) : F7_requireWhat x hi = some ((), .inl 2) := by
  unfold F7_requireWhat
  simp only [jp]
  by_cases h1 : x < 0
  · rw [if_pos h1]
  · rw [if_neg h1]
    by_cases h2 : x ≤ hi
    · exfalso
      unfold inB at h
      rw [decide_eq_true (Int32.not_lt.mp h1), decide_eq_true h2] at h
      cases h
    · rw [if_neg h2]
theorem requireSlot_ok {x : Int32} (h : inB x 0 1 = true) : F7_requireSlot x = some ((), .inr ()) := by
  unfold F7_requireSlot
  simp only [jp]
  unfold inB at h
  rw [Bool.and_eq_true, decide_eq_true_iff, decide_eq_true_iff] at h
  rw [if_neg (Int32.not_lt.mpr h.1), if_pos ((lt_lit 2 (by decide)).mpr h.2)]
theorem requireSlot_no {x : Int32} (h : inB x 0 1 = false) : F7_requireSlot x = some ((), .inl 2) := by
  unfold F7_requireSlot
  simp only [jp]
  by_cases h1 : x < 0
  · rw [if_pos h1]
  · rw [if_neg h1]
    by_cases h2 : x < 2
    · exfalso
      unfold inB at h
      rw [decide_eq_true (Int32.not_lt.mp h1), decide_eq_true ((lt_lit 2 (by decide)).mp h2)] at h
      cases h
    · rw [if_neg h2]
theorem rd_lit {ρ : Type} {f : Nat → Int32} {n k : Nat} {x : Int32} {K : Int32 → Option ρ} (hx : x = nI k) (h : k < n) (hn : n < 2 ^ 31) : rd f n x K = K (f k) := by rw [hx]; exact rd_nI h hn
theorem wr_lit {ρ : Type} {z : MS} {a n k : Nat} {x v : Int32} {K : MS → Option ρ} (hx : x = nI k) (h : k < n) (hn : n < 2 ^ 31) : wr z a n x v K = K (up2 z a k v) := by rw [hx]; exact wr_nI h hn
theorem wb_lit {ρ : Type} {b : BS} {a n k : Nat} {x v : Int32} {K : BS → Option ρ} (hx : x = nI k) (h : k < n) (hn : n < 2 ^ 31) : wb b a n x v K = K (setI b a k v) := by
  subst hx
  unfold wb
  rw [if_neg (nI_in h hn), nI_clamp (by omega)]
theorem ro_lit {ρ : Type} {f : Nat → Option Nat} {n k : Nat} {x : Int32} {K : Option Nat → Option ρ} (hx : x = nI k) (h : k < n) (hn : n < 2 ^ 31) : ro f n x K = K (f k) := by
  subst hx
  unfold ro
  rw [if_neg (nI_in h hn), nI_clamp (by omega)]
theorem woc_lit {ρ : Type} {b : BS} {a n k : Nat} {x : Int32} {v : Option Nat} {ci : Nat} {K : BS → Option ρ} (hx : x = nI k) (h : k < n) (hn : n < 2 ^ 31) (hv : ∀ t, v = some t → okB b.2.2 t ci = true) : woc b a n x v ci K = K (setR b a k v) := by
  subst hx
  rw [woc_in (nI_in h hn) hv, nI_clamp (by omega)]
theorem ck_t {ρ : Type} {c : Bool} {K : Option ρ} (h : c = true) : ck c K = K := if_pos h
