/-! PURE: the numbers of a text, as the reference counts them -/
/-- the text of source p in the reference -/
def SrcZ (z : MS) (p : Nat) (t : Tx) : Prop := t.length ≤ 60 ∧ (p = 26 ∧ z 43 6 = nI t.length ∧ hold (z 5) t ∨ p < 26 ∧ z 0 p = nI t.length ∧ hold (fun j => z 0 (26 + 60 * p + j)) t)
theorem ZS.src {z : MS} {a : AS} (hZ : ZS (z 0) a) (hW : WA a) {k : Nat} (hk : k < 26) {t : Tx} (e : a.1 k = some t) : SrcZ z k t := by
  refine ⟨(hW.1 k t e).2, Or.inr ⟨hk, ?_, hZ.2.1 k hk t e⟩⟩
  have q := hZ.1 k hk; rw [e] at q; exact q
theorem nI_neq {a b : Nat} (ha : a < 2 ^ 31) (hb : b < 2 ^ 31) (h : a ≠ b) : ¬ nI a = nI b := fun q => h ((nI_eq ha hb).mp q)
theorem F8_signOf_eq {z : MS} {p : Nat} {t : Tx} (h : SrcZ z p t) {j : Nat} (hj : j < t.length) : F8_signOf z (nI p) (nI j) = some (t.getD j 0) := by
  obtain ⟨h60, h | h⟩ := h
  · obtain ⟨rfl, h1, h2⟩ := h
    unfold F8_signOf
    simp only [jp]
    rw [if_neg (fun q => q rfl), rd_nI (by omega) (by decide), h2 j hj]
  · obtain ⟨hp, h1, h2⟩ := h
    unfold F8_signOf
    simp only [jp]
    rw [if_pos (show ¬ nI p = 26 from nI_neq (b := 26) (by omega) (by decide) (by omega)), rd_lit (x := (26 + (60 * nI p)) + nI j) (k := 26 + 60 * p + j) (by show (nI 26 + (nI 60 * nI p)) + nI j = _; rw [nI_mul, nI_add, nI_add]) (by omega) (by decide)]
    have := h2 j hj
    dsimp only at this
    rw [this]
theorem F8_longOf_eq {z : MS} {p : Nat} {t : Tx} (h : SrcZ z p t) : F8_longOf z (nI p) = some (nI t.length) := by
  obtain ⟨h60, h | h⟩ := h
  · obtain ⟨rfl, h1, h2⟩ := h
    unfold F8_longOf
    simp only [jp]
    rw [if_pos (by decide), if_neg (fun q => q rfl), h1]
  · obtain ⟨hp, h1, h2⟩ := h
    unfold F8_longOf
    simp only [jp]
    rw [if_pos (show ¬ nI p = 27 from nI_neq (b := 27) (by omega) (by decide) (by omega)), if_pos (show ¬ nI p = 26 from nI_neq (b := 26) (by omega) (by decide) (by omega)), rd_nI (by omega) (by decide), h1]
/-- holes of the first n signs -/
theorem F8_holesOf_eq {z : MS} {p : Nat} {t : Tx} (h : SrcZ z p t) {n : Nat} (hn : n ≤ t.length) : F8_holesOf z (nI p) (nI n) = some (nI (hls (t.take n))) := by
  have h60 := h.1
  unfold F8_holesOf
  have hl : (t.take n).length = n := by rw [List.length_take]; omega
  have hg : ∀ j, j < n → (t.take n).getD j 0 = t.getD j 0 := fun j hj => by
    rw [List.getD_eq_getElem?_getD, List.getD_eq_getElem?_getD, List.getElem?_take, if_pos hj]
  refine Loop_cnt (t.take n) (fun c => decide (c = 63)) (fun j m hj => ?_) ?_
  · rw [hl] at hj
    dsimp only
    rw [if_neg (nI_ge hj (by omega)), F8_signOf_eq h (by omega), hg j hj]
    simp only [bn, jp, bd]
    by_cases c : t.getD j 0 = 63
    · rw [if_neg (fun q => q c), nI_1, decide_eq_true c]; rfl
    · rw [if_pos c, nI_1, decide_eq_false c]; rfl
  · dsimp only
    rw [hl, if_pos (nI_le (Nat.le_refl _) (by omega))]; rfl
theorem F8_callsOf_eq {z : MS} {k : Nat} {t : Tx} (hk : k < 26) (h : SrcZ z k t) : F8_callsOf z (nI k) = some (nI (cls t)) := by
  have h60 := h.1
  have h0 : z 0 k = nI t.length := by
    rcases h.2 with q | q
    · omega
    · exact q.2.1
  unfold F8_callsOf
  refine Loop_cnt t (fun c => inB c 65 90) (fun j m hj => ?_) ?_
  · dsimp only
    rw [rd_nI (by omega) (by decide), h0, if_neg (nI_ge hj (by omega)), F8_signOf_eq h hj]
    simp only [bn]
    rw [F8_isCall_eq]
    simp only [bn, jp, bd]
    cases c : inB (t.getD j 0) 65 90
    · rw [if_pos (by decide), nI_1]; rfl
    · rw [if_neg (by decide), nI_1]; rfl
  · dsimp only
    rw [rd_nI (by omega) (by decide), h0, if_pos (nI_le (Nat.le_refl _) (by omega))]; rfl
theorem F8_plainOf_eq {z : MS} {k : Nat} {t : Tx} (hk : k < 26) (h : SrcZ z k t) : F8_plainOf z (nI k) = some (nI (sml t)) := by
  have h60 := h.1
  have h0 : z 0 k = nI t.length := by
    rcases h.2 with q | q
    · omega
    · exact q.2.1
  unfold F8_plainOf
  refine Loop_cnt t plB (fun j m hj => ?_) ?_
  · dsimp only
    rw [rd_nI (by omega) (by decide), h0, if_neg (nI_ge hj (by omega)), F8_signOf_eq h hj]
    simp only [bn]
    rw [F8_isPlain_eq]
    simp only [bn, jp, bd]
    cases c : plB (t.getD j 0)
    · rw [if_pos (by decide), nI_1]; rfl
    · rw [if_neg (by decide), nI_1]; rfl
  · dsimp only
    rw [rd_nI (by omega) (by decide), h0, if_pos (nI_le (Nat.le_refl _) (by omega))]; rfl
theorem cld_take {t : Tx} {j : Nat} (h : j < t.length) : cld (t.take (j + 1)) = cld (t.take j) ||| cbit (t.getD j 0) := by
  unfold cld
  rw [take_s h, List.foldl_append]; rfl
theorem F8_called_eq {z : MS} {k : Nat} {t : Tx} (hk : k < 26) (h : SrcZ z k t) : F8_called z (nI k) = some (cld t) := by
  have h60 := h.1
  have h0 : z 0 k = nI t.length := by
    rcases h.2 with q | q
    · omega
    · exact q.2.1
  unfold F8_called
  have e0 : ((0 : Int32), (0 : Int32)) = (fun j => (cld (t.take j), nI j)) 0 := by simp [cld]; rfl
  rw [e0]
  refine Loop_seq (fun j => (cld (t.take j), nI j)) t.length (fun j hj => ?_) ?_
  · dsimp only
    rw [rd_nI (by omega) (by decide), h0, if_neg (nI_ge hj (by omega)), F8_signOf_eq h hj]
    simp only [bn]
    rw [F8_isCall_eq]
    simp only [bn, jp, bd]
    rw [cld_take hj]
    unfold cbit
    cases c : inB (t.getD j 0) 65 90
    · rw [if_pos (by decide), nI_1]; rfl
    · rw [if_neg (by decide), nI_1]; rfl
  · dsimp only
    rw [rd_nI (by omega) (by decide), h0, if_pos (nI_le (Nat.le_refl _) (by omega)), List.take_length]
/-- letters that are not defined: the reference's loops end at once -/
theorem Z_none {z : MS} {a : AS} (hZ : ZS (z 0) a) {k : Nat} (hk : k < 26) (e : a.1 k = none) : z 0 k = -1 := by
  have q := hZ.1 k hk; rw [e] at q; exact q
theorem F8_called_none {z : MS} {k : Nat} (hk : k < 26) (h : z 0 k = -1) : F8_called z (nI k) = some 0 := by
  unfold F8_called
  refine Loop_inr ?_
  dsimp only
  rw [rd_nI (by omega) (by decide), h, if_pos (by decide)]
theorem F8_callsOf_none {z : MS} {k : Nat} (hk : k < 26) (h : z 0 k = -1) : F8_callsOf z (nI k) = some 0 := by
  unfold F8_callsOf
  refine Loop_inr ?_
  dsimp only
  rw [rd_nI (by omega) (by decide), h, if_pos (by decide)]
