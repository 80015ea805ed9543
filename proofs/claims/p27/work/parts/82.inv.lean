/-! PURE: the start, and all calls together -/
def a00 : AS := (fun _ => none, ([], [], 0, 0), 8, 0, 0)
theorem b0_ok (i ci : Nat) (h : (50 ≤ i ∧ i < 66) ∨ (70 ≤ i ∧ i < 72) ∨ (102 ≤ i ∧ i < 105)) (hk : kd i = ci) : okB b0_7.2.2 i ci = true := by
  unfold okB
  rw [b0_lv.mpr h, hk, decide_eq_true rfl]; rfl
theorem b0_not {i : Nat} (h : ¬ ((50 ≤ i ∧ i < 66) ∨ (70 ≤ i ∧ i < 72) ∨ (102 ≤ i ∧ i < 105))) : lvB b0_7.2.2 i = false := not_t (fun q => h (b0_lv.mp q))
theorem Inv_start : Inv z0_8 b0_7 := by
  refine ⟨[], a00, [], fun _ => none, ⟨Nat.zero_le _, rfl, hold_nil _, rfl, hold_nil _⟩, ⟨fun k t e => (by cases e), ⟨8, by decide, by decide, rfl⟩, Nat.zero_le _, Nat.zero_le _, rfl, rfl, fun x h => absurd h (by simp [a00]), 0, 0, by decide, by decide, rfl, rfl, fun j hj => absurd hj (Nat.not_lt_zero j), fun _ => ⟨rfl, rfl⟩, Nat.le_refl _, Nat.le_refl _⟩, ?_, ?_, ?_, ?_, b0_closed⟩
  · refine ⟨fun k hk => ?_, fun k hk t e => (by cases e), rfl, rfl, hold_nil _, rfl, rfl, rfl, rfl, rfl, hold_nil _⟩
    show (if (0 : Nat) = 0 then (if k = 1586 then (8 : Int32) else if k < 26 then (-1) else 0) else 0) = -1
    rw [if_pos rfl, if_neg (by omega), if_pos hk]
  · refine ⟨okL70 _, fun k hk => ?_, ⟨102, ?_, ⟨b0_ok 102 3 (by omega) rfl, rfl, hold_nil _, rfl, hold_nil _, ?_, ?_⟩⟩, ?_, ?_, ?_⟩
    · show (if 71 = 70 ∧ k = 1 then some 102 else none) = none
      rw [if_neg (by omega)]
    · show (if 70 = 70 ∧ 1 = 1 then some 102 else none) = some 102
      rw [if_pos ⟨rfl, rfl⟩]
    · show (if 102 = 70 ∧ 1 = 2 then (8 : Int32) else 0) = 0
      rw [if_neg (by omega)]
    · show (if 102 = 70 ∧ 2 = 2 then (8 : Int32) else 0) = 0
      rw [if_neg (by omega)]
    · show (if 70 = 70 ∧ 2 = 2 then (8 : Int32) else 0) = 8
      rw [if_pos ⟨rfl, rfl⟩]
    · show (if 70 = 70 ∧ 3 = 2 then (8 : Int32) else 0) = 0
      rw [if_neg (by omega)]
    · show (if 70 = 70 ∧ 4 = 2 then (8 : Int32) else 0) = 0
      rw [if_neg (by omega)]
  · refine ⟨Nat.zero_le _, rfl, ?_, fun i x e => absurd e (by simp), ⟨0, by decide, ?_, fun i x e => absurd e (by simp)⟩, fun k hk => Or.inl ⟨?_, b0_not (by omega)⟩⟩
    · show (if 63 = 70 ∧ 3 = 2 then (8 : Int32) else 0) = nI 0
      rw [if_neg (by omega)]; rfl
    · show (if 63 = 70 ∧ 2 = 2 then (8 : Int32) else 0) = nI 0
      rw [if_neg (by omega)]; rfl
    · show (if 64 = 70 ∧ k = 1 then some 102 else none) = none
      rw [if_neg (by omega)]
  · intro k hk
    refine ⟨rfl, ?_, b0_not (by omega)⟩
    show (if 65 = 70 ∧ k = 1 then some 102 else none) = none
    rw [if_neg (by omega)]
