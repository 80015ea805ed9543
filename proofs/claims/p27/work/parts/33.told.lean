/-! PURE: what is told of the result: sign, result, trace -/
theorem getD_lt {t : Tx} {j : Nat} (h : j < t.length) : t.getD j 0 = t[j] := by
  rw [List.getD_eq_getElem?_getD, List.getElem?_eq_getElem h]; rfl
theorem take_s {t : Tx} {j : Nat} (h : j < t.length) : t.take (j + 1) = t.take j ++ [t.getD j 0] := by
  rw [getD_lt h]; exact (List.take_append_getElem h).symm
theorem nI_bI (n : Nat) (p : Bool) : nI n + bI p = nI (n + if p = true then 1 else 0) := by
  cases p
  · show nI n + nI 0 = _; rw [nI_add]; rfl
  · show nI n + nI 1 = _; rw [nI_add]; rfl
theorem Loop_cnt {ρ : Type} {f : Int32 × Int32 → Option ((Int32 × Int32) ⊕ ρ)} (t : Tx) (p : Int32 → Bool) {r : ρ} (h : ∀ j m, j < t.length → f (m, nI j) = some (.inl (m + bI (p (t.getD j 0)), nI (j + 1)))) (he : f (nI (t.countP p), nI t.length) = some (.inr r)) : Loop f (0, 0) = some r := by
  have e0 : ((0 : Int32), (0 : Int32)) = (fun j => (nI ((t.take j).countP p), nI j)) 0 := by simp; rfl
  rw [e0]
  refine Loop_seq (fun j => (nI ((t.take j).countP p), nI j)) t.length (fun j hj => ?_) ?_
  · rw [h j _ hj, nI_bI]
    refine congrArg (fun q => some (Sum.inl (q, nI (j + 1)))) ?_
    show nI _ = nI _
    rw [take_s hj, List.countP_append, List.countP_singleton]
  · show f (nI ((t.take t.length).countP p), nI t.length) = _
    rw [List.take_length]; exact he
theorem nI_div6 (n : Nat) (h : n < 2 ^ 31) : nI n / 6 = nI (n / 6) := by
  apply Int32.toInt_inj.mp
  rw [nI_toInt (by omega), Int32.toInt_div, nI_toInt h]
  rw [show (6 : Int32).toInt = 6 from rfl]
  have : ((n : Int)).tdiv 6 = ((n / 6 : Nat) : Int) := by rw [Int.tdiv_eq_ediv_of_nonneg (by omega)]; omega
  rw [this]
  apply Int.bmod_eq_of_le <;> omega
theorem i7 (n : Nat) (x : Int32) (h : inB x 0 7 = true) : x = 0 ∨ x = 1 ∨ x = 2 ∨ x = 3 ∨ x = 4 ∨ x = 5 ∨ x = 6 ∨ x = 7 := by
  obtain ⟨k, hk, rfl⟩ := inB_nI (n := 7) rfl h
  rcases (show k = 0 ∨ k = 1 ∨ k = 2 ∨ k = 3 ∨ k = 4 ∨ k = 5 ∨ k = 6 ∨ k = 7 by omega) with rfl | rfl | rfl | rfl | rfl | rfl | rfl | rfl <;> decide
/-- what the outcome is in both worlds -/
theorem Inv.oc {z : MS} {b : BS} (h : Inv z b) : ∃ (a : AS) (o : Nat), WA a ∧ ZS (z 0) a ∧ b.2.1 70 1 = some o ∧ OCb b o a.2.1 ∧ 100 ≤ o := by
  obtain ⟨t, a, p, s, hB, hW, hZ, hS, -⟩ := id h
  obtain ⟨o, h1, h2⟩ := hS.2.2.1
  exact ⟨a, o, hW, hZ, h1, h2, (kd3 (okB_2 h2.1)).1⟩
theorem S_sign {z : MS} {b : BS} (h : Inv z b) (x : Int32) : okT Inv (F7_sign b x) (F8_sign z x) [2] := by
  obtain ⟨a, o, hW, hZ, ho, hO, h100⟩ := h.oc
  obtain ⟨-, -, hs200, -, -⟩ := hW
  by_cases hx : x < 0
  · refine okT_x (b' := b) (k := 2) (z' := rfs z 1) (v := 0) ?_ ?_ (by decide) (rfs7 _ _) (h.rfs 1)
    · unfold F7_sign; rw [if_neg (Int32.not_le.mpr hx)]
    · unfold F8_sign
      simp only [jp]
      rw [if_neg (Int32.not_le.mpr hx), F8_refusedP _ _ (by decide)]
      simp only [bn2]; rw [if_neg (by decide)]
  · obtain ⟨j, hj, rfl⟩ := nI_of hx
    have hln : lnB b.2.2 (o + 1) = a.2.1.1.length := (lnB_dyn (by omega)).trans hO.2.1
    have h8 : F8_sign z (nI j) = (if a.2.1.1.length ≤ j then some (rfs z 0, -1) else some (rfs z 0, a.2.1.1.getD j 0)) := by
      unfold F8_sign
      simp only [jp]
      rw [if_pos (nI_pos' hj), F8_refused0]
      simp only [bn2]
      rw [if_pos (by decide), rd_lit (x := 1587) (k := 1587) rfl (by omega) (by decide), rfs_a _ _ (by decide), hZ.2.2.2.1]
      by_cases c : a.2.1.1.length ≤ j
      · rw [if_pos c, if_pos ((nI_leI (by omega) hj).mpr c)]
      · rw [if_neg c, if_neg (fun q => c ((nI_leI (by omega) hj).mp q)), rd_lit (x := 1588 + nI j) (k := 1588 + j) (nI_add 1588 j) (by omega) (by decide)]
        have := hZ.2.2.2.2.1 j (by omega)
        dsimp only at this
        rw [this]
    have h7 : F7_sign b (nI j) = (if a.2.1.1.length ≤ j then some (b, .inr (-1)) else some (b, .inr (a.2.1.1.getD j 0))) := by
      unfold F7_sign
      rw [if_pos (nI_pos' hj)]
      simp only [bd, ho, de]
      rw [ck_t hO.1]
      simp only [jp]
      rw [hln]
      by_cases c : a.2.1.1.length ≤ j
      · rw [if_pos c, if_pos ((nI_leI (by omega) hj).mpr c)]
      · rw [if_neg c, if_neg (fun q => c ((nI_leI (by omega) hj).mp q)), rd_nI (by omega) (by omega), hO.2.2.1 j (by omega)]
    by_cases c : a.2.1.1.length ≤ j
    · rw [if_pos c] at h7 h8
      exact okT_mk h7 h8 (rfs7 _ _) (h.rfs 0)
    · rw [if_neg c] at h7 h8
      exact okT_mk h7 h8 (rfs7 _ _) (h.rfs 0)
theorem F8_signsAs_eq {z : MS} {a : AS} (hZ : ZS (z 0) a) (hs : a.2.1.1.length ≤ 200) (x : Int32) : F8_signsAs z x = some (nI (a.2.1.1.countP (fun c => decide (c = x)))) := by
  unfold F8_signsAs
  refine Loop_cnt a.2.1.1 (fun c => decide (c = x)) (fun j m hj => ?_) ?_
  · dsimp only
    rw [rd_lit (x := 1587) (k := 1587) rfl (by omega) (by decide), hZ.2.2.2.1, if_neg (nI_ge hj (by omega)), rd_lit (x := 1588 + nI j) (k := 1588 + j) (nI_add 1588 j) (by omega) (by decide)]
    have e := hZ.2.2.2.2.1 j hj
    dsimp only at e
    rw [e]
    simp only [jp, bd]
    by_cases c : a.2.1.1.getD j 0 = x
    · rw [if_neg (fun q => q c), nI_1, decide_eq_true c]; rfl
    · rw [if_pos c, nI_1, decide_eq_false c]; rfl
  · dsimp only
    rw [rd_lit (x := 1587) (k := 1587) rfl (by omega) (by decide), hZ.2.2.2.1, if_pos (nI_le (Nat.le_refl _) (by omega))]
theorem F3_occurrencesOf_eq {b : BS} {o : Nat} {c : Oc} (hO : OCb b o c) (hs : c.1.length ≤ 200) (x : Int32) : F3_occurrencesOf b o x = some (nI (c.1.countP (fun c => decide (c = x)))) := by
  have h100 : 100 ≤ o := (kd3 (okB_2 hO.1)).1
  have hln : lnB b.2.2 (o + 1) = c.1.length := (lnB_dyn (by omega)).trans hO.2.1
  unfold F3_occurrencesOf
  refine Loop_cnt c.1 (fun c => decide (c = x)) (fun j m hj => ?_) ?_
  · dsimp only
    rw [ck_t hO.1, hln, if_neg (nI_ge hj (by omega)), rd_nI hj (by omega), hO.2.2.1 j hj]
    simp only [jp, bd]
    by_cases d : c.1.getD j 0 = x
    · rw [if_neg (fun q => q d), nI_1, decide_eq_true d]; rfl
    · rw [if_pos d, nI_1, decide_eq_false d]
      refine congrArg (fun q => some (Sum.inl (q, nI (j + 1)))) ?_
      show m = m + 0
      exact (Int32.add_zero m).symm
  · dsimp only
    rw [ck_t hO.1, hln, if_pos (nI_le (Nat.le_refl _) (by omega))]
theorem S_result {z : MS} {b : BS} (h : Inv z b) (x : Int32) : okT Inv (F7_result b x) (F8_result z x) [2] := by
  obtain ⟨a, o, hW, hZ, ho, hO, h100⟩ := h.oc
  obtain ⟨-, -, hs200, ht360, ht6, -⟩ := hW
  have hln : lnB b.2.2 (o + 1) = a.2.1.1.length := (lnB_dyn (by omega)).trans hO.2.1
  have hln2 : lnB b.2.2 (o + 2) = a.2.1.2.1.length := (lnB_dyn (by omega)).trans hO.2.2.2.1
  by_cases hx : inB x 0 7 = true
  · have e7 : ∀ K : BS → Unit → Option (BS × (Nat ⊕ Int32)), bx (F7_requireWhat x 7) (fun u1 k2 => some (b, .inl k2)) (fun u1 v3 => K b v3) = K b () := fun K => by rw [requireWhat_ok hx]; rfl
    have hZr : ZS (rfs z 0 0) a := by rw [rfs_a _ _ (by decide)]; exact hZ
    have base8 : ∀ v, (F8_result z x = some (rfs z 0, v)) → (F7_result b x = some (b, .inr v)) → okT Inv (F7_result b x) (F8_result z x) [2] := fun v h8 h7 => okT_mk h7 h8 (rfs7 _ _) (h.rfs 0)
    have h8 : ∀ K, F8_result z x = some (rfs z 0, K) ↔ (if x = 0 then some (rfs z 0, nI a.2.1.1.length) else if x = 1 then some (rfs z 0, nI (a.2.1.1.countP (fun c => decide (c = 35)))) else if x = 2 then some (rfs z 0, nI (a.2.1.1.countP (fun c => decide (c = 37)))) else if x = 3 then some (rfs z 0, nI (a.2.1.1.countP (fun c => decide (c = 36)))) else if x = 4 then some (rfs z 0, nI (a.2.1.1.countP (fun c => decide (c = 63)))) else if x = 5 then some (rfs z 0, a.2.1.2.2.1) else if x = 6 then some (rfs z 0, a.2.1.2.2.2) else some (rfs z 0, nI (a.2.1.2.1.length / 6))) = some (rfs z 0, K) := fun K => by
      unfold F8_result
      rw [F8_in_eq, hx]
      simp only [bn, jp]
      rw [if_neg (by decide), F8_refused0]
      simp only [bn2]
      rw [if_pos (by decide), rd_lit (x := 1587) (k := 1587) rfl (by omega) (by decide), rd_lit (x := 1788) (k := 1788) rfl (by omega) (by decide), rd_lit (x := 1789) (k := 1789) rfl (by omega) (by decide), rd_lit (x := 1792) (k := 1792) rfl (by omega) (by decide), hZr.2.2.2.1, hZr.2.2.2.2.2.1, hZr.2.2.2.2.2.2.1, hZr.2.2.2.2.2.2.2.2.2.1, F8_signsAs_eq hZr hs200, F8_signsAs_eq hZr hs200, F8_signsAs_eq hZr hs200, F8_signsAs_eq hZr hs200]
    have h7 : F7_result b x = (if x = 0 then some (b, .inr (nI a.2.1.1.length)) else if x = 1 then some (b, .inr (nI (a.2.1.1.countP (fun c => decide (c = 35))))) else if x = 2 then some (b, .inr (nI (a.2.1.1.countP (fun c => decide (c = 37))))) else if x = 3 then some (b, .inr (nI (a.2.1.1.countP (fun c => decide (c = 36))))) else if x = 4 then some (b, .inr (nI (a.2.1.1.countP (fun c => decide (c = 63))))) else if x = 5 then some (b, .inr a.2.1.2.2.1) else if x = 6 then some (b, .inr a.2.1.2.2.2) else some (b, .inr (nI (a.2.1.2.1.length / 6)))) := by
      unfold F7_result F3_listedCalls
      rw [requireWhat_ok hx]
      simp only [bx, bd, ho, de]
      rw [ck_t hO.1, ck_t hO.1, ck_t hO.1, ck_t hO.1, ck_t hO.1, ck_t hO.1, ck_t hO.1, ck_t hO.1, ck_t hO.1, F3_occurrencesOf_eq hO hs200, F3_occurrencesOf_eq hO hs200, F3_occurrencesOf_eq hO hs200, F3_occurrencesOf_eq hO hs200, hln, hln2, hO.2.2.2.2.2.1, hO.2.2.2.2.2.2, nI_div6 _ (by omega)]
      simp only [bn]
    rcases i7 0 x hx with rfl | rfl | rfl | rfl | rfl | rfl | rfl | rfl
    · exact base8 _ ((h8 _).mpr rfl) h7
    · exact base8 _ ((h8 _).mpr rfl) h7
    · exact base8 _ ((h8 _).mpr rfl) h7
    · exact base8 _ ((h8 _).mpr rfl) h7
    · exact base8 _ ((h8 _).mpr rfl) h7
    · exact base8 _ ((h8 _).mpr rfl) h7
    · exact base8 _ ((h8 _).mpr rfl) h7
    · exact base8 _ ((h8 _).mpr rfl) h7
  · have hx' : inB x 0 7 = false := by simpa using hx
    refine okT_x (b' := b) (k := 2) (z' := rfs z 1) (v := 0) ?_ ?_ (by decide) (rfs7 _ _) (h.rfs 1)
    · unfold F7_result; rw [requireWhat_no hx']; rfl
    · unfold F8_result
      rw [F8_in_eq, hx']
      simp only [bn, jp]
      rw [if_pos (by decide), F8_refusedP _ _ (by decide)]
      simp only [bn2]; rw [if_neg (by decide)]
theorem S_trace {z : MS} {b : BS} (h : Inv z b) (x y : Int32) : okT Inv (F7_trace b x y) (F8_trace z x y) [2] := by
  obtain ⟨a, o, hW, hZ, ho, hO, h100⟩ := h.oc
  obtain ⟨-, -, -, ht360, ht6, -⟩ := hW
  have hln2 : lnB b.2.2 (o + 2) = a.2.1.2.1.length := (lnB_dyn (by omega)).trans hO.2.2.2.1
  by_cases hx : x < 0
  · refine okT_x (b' := b) (k := 2) (z' := rfs z 1) (v := 0) ?_ ?_ (by decide) (rfs7 _ _) (h.rfs 1)
    · unfold F7_trace; rw [if_neg (Int32.not_le.mpr hx)]
    · unfold F8_trace
      simp only [jp]
      rw [if_pos hx, F8_refusedP _ _ (by decide)]
      simp only [bn2]; rw [if_neg (by decide)]
  · obtain ⟨j, hj, rfl⟩ := nI_of hx
    by_cases hy : inB y 0 5 = true
    · obtain ⟨w, hw, rfl⟩ := inB_nI (n := 5) rfl hy
      have h8 : F8_trace z (nI j) (nI w) = (if a.2.1.2.1.length / 6 ≤ j then some (rfs z 0, -1) else some (rfs z 0, a.2.1.2.1.getD (6 * j + w) 0)) := by
        unfold F8_trace
        simp only [jp]
        rw [if_neg hx, F8_in_eq, hy]
        simp only [bn]
        rw [if_pos (by decide), F8_refused0]
        simp only [bn2]
        rw [if_pos (by decide), rd_lit (x := 1792) (k := 1792) rfl (by omega) (by decide), rfs_a _ _ (by decide), hZ.2.2.2.2.2.2.2.2.2.1]
        by_cases c : a.2.1.2.1.length / 6 ≤ j
        · rw [if_pos c, if_pos ((nI_leI (by omega) hj).mpr c)]
        · rw [if_neg c, if_neg (fun q => c ((nI_leI (by omega) hj).mp q)), rd_lit (x := (1793 + (6 * nI j)) + nI w) (k := 1793 + (6 * j + w)) (by show (nI 1793 + (nI 6 * nI j)) + nI w = _; rw [nI_mul, nI_add, nI_add, Nat.add_assoc]) (by omega) (by decide)]
          have := hZ.2.2.2.2.2.2.2.2.2.2 (6 * j + w) (by omega)
          dsimp only at this
          rw [this]
      have h7 : F7_trace b (nI j) (nI w) = (if a.2.1.2.1.length / 6 ≤ j then some (b, .inr (-1)) else some (b, .inr (a.2.1.2.1.getD (6 * j + w) 0))) := by
        unfold F7_trace
        rw [if_pos (nI_pos' hj), requireWhat_ok hy]
        simp only [bx, bd, ho, de]
        rw [ck_t hO.1]
        unfold F3_numberOfCall F3_listedCalls
        simp only [jp]
        rw [if_neg (nI_pos hj), ck_t hO.1, ck_t hO.1, hln2, nI_div6 _ (by omega)]
        simp only [bn]
        by_cases c : a.2.1.2.1.length / 6 ≤ j
        · rw [if_pos c, if_pos ((nI_leI (by omega) hj).mpr c)]
        · rw [if_neg c, if_neg (fun q => c ((nI_leI (by omega) hj).mp q)), if_neg (nI_pos (by omega)), if_pos (show nI w < 6 from nI_lt (b := 6) (by omega) (by decide)), rd_lit (x := (nI j * 6) + nI w) (k := 6 * j + w) (by show (nI j * nI 6) + nI w = _; rw [nI_mul, nI_add, Nat.mul_comm]) (by omega) (by omega), hO.2.2.2.2.1 _ (by omega)]
      by_cases c : a.2.1.2.1.length / 6 ≤ j
      · rw [if_pos c] at h7 h8
        exact okT_mk h7 h8 (rfs7 _ _) (h.rfs 0)
      · rw [if_neg c] at h7 h8
        exact okT_mk h7 h8 (rfs7 _ _) (h.rfs 0)
    · have hy' : inB y 0 5 = false := by simpa using hy
      refine okT_x (b' := b) (k := 2) (z' := rfs z 1) (v := 0) ?_ ?_ (by decide) (rfs7 _ _) (h.rfs 1)
      · unfold F7_trace; rw [if_pos (nI_pos' hj), requireWhat_no hy']; rfl
      · unfold F8_trace
        simp only [jp]
        rw [if_neg hx, F8_in_eq, hy']
        simp only [bn]
        rw [if_neg (by decide), F8_refusedP _ _ (by decide)]
        simp only [bn2]; rw [if_neg (by decide)]
