/-! PURE: ifDefined -/
theorem F0_tryBody_eq {b b0 : BS} {D : Nat → Option Tx} (h : TkB b0 b D) {k : Nat} (hk : k < 26) (t : Tx) : ∃ b', F0_tryBody b (nI k) (cld t) = some b' ∧ b'.2 = b0.2 ∧ (∀ u, u ≠ 54 → u ≠ 55 → b'.1 u = b0.1 u) ∧ ∀ j, j < 26 → b'.1 55 j = gs (updF D k (some t)) j := by
  refine ⟨setI b 55 k (cld t), ?_, h.1, fun u h1 h2 => ?_, fun j hj => ?_⟩
  · unfold F0_tryBody
    exact bn_go (F7_isLetter_eq _) <| jp_go <| if_no (by rw [nI_letter hk]; decide) <| wb_go rfl hk (by decide) <| rfl
  · rw [setI_other _ h2]; exact h.2.1 u h1 h2
  · rw [setI_row_at]
    unfold gs updF
    rw [if_pos hj]
    by_cases c : j = k
    · rw [if_pos c, if_pos c]
    · rw [if_neg c, if_neg c]
      have := h.2.2.1 j hj
      unfold gs at this
      rw [if_pos hj] at this; exact this
