/-- the class's state at its start -/
def b0_7 : BS := (fun a k => if a = 70 ∧ k = 2 then 8 else 0, fun a k => if a = 70 ∧ k = 1 then some 102 else none, fun k => if k = 1 then 1 else 0)
theorem b0_closed : Closed b0_7 := by
  intro i k t h
  unfold b0_7 at h
  dsimp only at h
  by_cases c : i = 70 ∧ k = 1
  · rw [if_pos c] at h
    cases h
    rw [lvB_iff]
    exact Or.inr (Or.inr (Or.inr (Or.inr ⟨by omega, by omega, by show (102 - 100) / 5 < 1; omega⟩)))
  · rw [if_neg c] at h
    cases h
theorem b0_lv {j : Nat} : lvB b0_7.2.2 j = true ↔ (50 ≤ j ∧ j < 66) ∨ (70 ≤ j ∧ j < 72) ∨ (102 ≤ j ∧ j < 105) := by
  rw [lvB_iff]
  have e0 : b0_7.2.2 0 = 0 := rfl
  have e1 : b0_7.2.2 1 = 1 := rfl
  have e2 : 72 ≤ j → b0_7.2.2 (j - j % 2) = 0 := fun h => if_neg (by omega)
  rw [e0, e1]
  constructor
  · rintro (h | h | h | h | h)
    · exact Or.inl h
    · exact Or.inr (Or.inl h)
    · rw [e2 h.1] at h; omega
    · omega
    · omega
  · rintro (h | h | h)
    · exact Or.inl h
    · exact Or.inr (Or.inl h)
    · exact Or.inr (Or.inr (Or.inr (Or.inr ⟨by omega, by omega, by omega⟩)))
theorem b0_world {κ : Nat → ClassId} {ad' : Nat → Nat} {x0 : va_E} (j : Nat) : celB κ ad' (fun _ => none) b0_7 j = (upO (upO (upO (upO (upO (upO (upO (upO (upO (upO (upO (upO (upO (upO (upO (upO (upO (upO (upO (upO (upO (upO (upO (upO (upO (upO (upO (upO (fun _ => none) 50 x0) 70 (.inr (5, [.null, .null, .int 0, .int 0, .int 0]))) 71 (.inl (κ 2, 26, .inr (.inr (.inr (.inr (fun _ => none))))))) 102 (.inr (3, [.null, .int 0, .int 0, .null]))) 103 (.inl (κ 0, 0, .inl (fun _ => 0)))) 104 (.inl (κ 0, 0, .inl (fun _ => 0)))) 102 (.inr (3, [(.ref (ad' 103)), .int 0, .int 0, (.ref (ad' 104))]))) 70 (.inr (5, [(.ref (ad' 71)), (.ref (ad' 102)), .int 8, .int 0, .int 0]))) 63 (.inr (2, [.null, .null, .int 0, .int 0]))) 64 (.inl (κ 3, 6, .inr (.inr (.inr (.inr (fun _ => none))))))) 65 (.inl (κ 3, 2, .inr (.inr (.inr (.inr (fun _ => none))))))) 63 (.inr (2, [.ref (ad' 64), .ref (ad' 65), .int 0, .int 0]))) 51 (.inl (κ 0, 60, .inl (fun _ => 0)))) 52 (.inr (4, [.null, .int 0, .int 0, .int 0, .int 0, .int 0, .int 0, .int 0, .int 0, .int 0]))) 53 (.inl (κ 0, 60, .inl (fun _ => 0)))) 52 (.inr (4, [.ref (ad' 53), .int 0, .int 0, .int 0, .int 0, .int 0, .int 0, .int 0, .int 0, .int 0]))) 54 (.inr (0, [.null, .null, .int 0]))) 55 (.inl (κ 0, 26, .inl (fun _ => 0)))) 56 (.inl (κ 0, 26, .inl (fun _ => 0)))) 54 (.inr (0, [.ref (ad' 55), .ref (ad' 56), .int 0]))) 57 (.inr (1, [.null, .null, .null, .null, .null, .int 0, .int 0, .int 0, .int 0, .int 0, .int 0, .int 0, .int 0, .int 0]))) 58 (.inl (κ 0, 28380, .inl (fun _ => 0)))) 59 (.inl (κ 0, 854, .inl (fun _ => 0)))) 60 (.inl (κ 0, 780, .inl (fun _ => 0)))) 61 (.inl (κ 0, 780, .inl (fun _ => 0)))) 62 (.inl (κ 0, 360, .inl (fun _ => 0)))) 57 (.inr (1, [.ref (ad' 58), .ref (ad' 59), .ref (ad' 60), .ref (ad' 61), .ref (ad' 62), .int 0, .int 0, .int 0, .int 0, .int 0, .int 0, .int 0, .int 0, .int 0]))) 50 (.inr (7, [.ref (ad' 70), .ref (ad' 63), .ref (ad' 51), .ref (ad' 52), .ref (ad' 54), .ref (ad' 57), .int 0]))) j := by
  by_cases c : j < 50
  · have e : celB κ ad' (fun _ => none) b0_7 j = none := by unfold celB; rw [if_pos c]
    rw [e]
    simp only [upO, show ¬ j = 50 by omega, show ¬ j = 51 by omega, show ¬ j = 52 by omega, show ¬ j = 53 by omega, show ¬ j = 54 by omega, show ¬ j = 55 by omega, show ¬ j = 56 by omega, show ¬ j = 57 by omega, show ¬ j = 58 by omega, show ¬ j = 59 by omega, show ¬ j = 60 by omega, show ¬ j = 61 by omega, show ¬ j = 62 by omega, show ¬ j = 63 by omega, show ¬ j = 64 by omega, show ¬ j = 65 by omega, show ¬ j = 70 by omega, show ¬ j = 71 by omega, show ¬ j = 102 by omega, show ¬ j = 103 by omega, show ¬ j = 104 by omega, if_false]
  · by_cases d : lvB b0_7.2.2 j = true
    · rw [celB_at d]
      rw [b0_lv] at d
      rcases (show j = 50 ∨ j = 51 ∨ j = 52 ∨ j = 53 ∨ j = 54 ∨ j = 55 ∨ j = 56 ∨ j = 57 ∨ j = 58 ∨ j = 59 ∨ j = 60 ∨ j = 61 ∨ j = 62 ∨ j = 63 ∨ j = 64 ∨ j = 65 ∨ j = 70 ∨ j = 71 ∨ j = 102 ∨ j = 103 ∨ j = 104 by omega) with rfl | rfl | rfl | rfl | rfl | rfl | rfl | rfl | rfl | rfl | rfl | rfl | rfl | rfl | rfl | rfl | rfl | rfl | rfl | rfl | rfl
      · simp only [upO]; rfl
      · simp only [upO]; rfl
      · simp only [upO]; rfl
      · simp only [upO]; rfl
      · simp only [upO]; rfl
      · simp only [upO]; rfl
      · simp only [upO]; rfl
      · simp only [upO]; rfl
      · simp only [upO]; rfl
      · simp only [upO]; rfl
      · simp only [upO]; rfl
      · simp only [upO]; rfl
      · simp only [upO]; rfl
      · simp only [upO]; rfl
      · simp only [upO]; rfl
      · simp only [upO]; rfl
      · simp only [upO]; rfl
      · simp only [upO]; rfl
      · simp only [upO]; rfl
      · simp only [upO]; rfl
      · simp only [upO]; rfl
    · rw [celB_not (by omega) (lvB_false d)]
      rw [b0_lv] at d
      simp only [upO, show ¬ j = 50 by omega, show ¬ j = 51 by omega, show ¬ j = 52 by omega, show ¬ j = 53 by omega, show ¬ j = 54 by omega, show ¬ j = 55 by omega, show ¬ j = 56 by omega, show ¬ j = 57 by omega, show ¬ j = 58 by omega, show ¬ j = 59 by omega, show ¬ j = 60 by omega, show ¬ j = 61 by omega, show ¬ j = 62 by omega, show ¬ j = 63 by omega, show ¬ j = 64 by omega, show ¬ j = 65 by omega, show ¬ j = 70 by omega, show ¬ j = 71 by omega, show ¬ j = 102 by omega, show ¬ j = 103 by omega, show ¬ j = 104 by omega, if_false]
