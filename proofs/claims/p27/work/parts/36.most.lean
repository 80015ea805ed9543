/-! PURE: most arguments and deepest nesting, as the reference finds them -/
theorem nI_m1 (n : Nat) : nI (n + 1) + (-1) = nI n := by
  rw [← nI_pred n, Int32.sub_eq_add_neg]
theorem nI_maxr {a b : Nat} (ha : a < 2 ^ 31) (hb : b < 2 ^ 31) : (if nI a ≤ nI b then nI b else nI a) = nI (max b a) := by
  by_cases h : a ≤ b
  · rw [if_pos ((nI_leI ha hb).mpr h)]; congr 1; omega
  · rw [if_neg (fun q => h ((nI_leI ha hb).mp q))]; congr 1; omega
theorem jp_go {κ ρ : Type} {k : κ} {f : κ → Option ρ} {r : Option ρ} (h : f k = r) : jp k f = r := h
theorem bd_go {α ρ : Type} {x : α} {K : α → Option ρ} {r : Option ρ} (h : K x = r) : bd x K = r := h
theorem if_go {α : Type} {c : Prop} [Decidable c] {a b r : α} (hc : c) (h : a = r) : (if c then a else b) = r := by rw [if_pos hc]; exact h
theorem if_no {α : Type} {c : Prop} [Decidable c] {a b r : α} (hc : ¬ c) (h : b = r) : (if c then a else b) = r := by rw [if_neg hc]; exact h
/-- the state of 'mostOf' behind j signs -/
def MoI (z : MS) (t : Tx) (j : Nat) (q : Int32 × Int32 × Int32 × Int32 × MS) : Prop :=
  ∃ (s : List Nat) (hd : Bool) (m mo ne : Nat), scn (t.take j) ([], false) = some (s, hd) ∧ msts (t.take j) ([], 0, 0) = (s, mo, ne) ∧ max m (mxl s) = mo ∧ m ≤ 6 ∧ ne ≤ 100 ∧
    q.1 = nI m ∧ q.2.1 = nI ne ∧ q.2.2.1 = nI s.length ∧ q.2.2.2.1 = nI j ∧ RS (q.2.2.2.2 8) s ∧ ∀ u, u ≠ 8 → q.2.2.2.2 u = z u
theorem mxl_cons (a : Nat) (r : List Nat) : mxl (a :: r) = max a (mxl r) := rfl
set_option maxHeartbeats 2000000 in
theorem F8_mostOf_eq {z : MS} {k : Nat} {t : Tx} (hk : k < 26) (h : SrcZ z k t) (hc : Cpl t) (p1 : Int32) : ∃ z', F8_mostOf z (nI k) p1 = some (z', if p1 = 0 then nI (nst t) else nI (mstA t)) ∧ ∀ u, u ≠ 8 → z' u = z u := by
  have h60 := h.1
  have h0 : z 0 k = nI t.length := by
    rcases h.2 with q | q
    · omega
    · exact q.2.1
  have hsr : ∀ z' : MS, (∀ u, u ≠ 8 → z' u = z u) → SrcZ z' k t := by
    intro z' hz
    unfold SrcZ
    rw [hz 0 (by decide), hz 5 (by decide), hz 43 (by decide)]; exact h
  unfold F8_mostOf
  have key := Loop_inv (f := fun (q : Int32 × Int32 × Int32 × Int32 × MS) => (fun (x1 : Int32) (x2 : Int32) (x3 : Int32) (x4 : Int32) (z5 : MS) =>
  rd (z5 0) 2153 (nI k) fun x6 =>
  if x6 ≤ x4 then
  jp (fun (x10 : Int32) => some (.inr (z5, x10))) fun k8 =>
  if p1 = 0 then
  k8 x2
  else
  k8 x1
  else
  bn (F8_signOf z5 (nI k) x4) fun x11 =>
  bn (F8_isCall x11) fun x12 =>
  jp (fun (x18 : Int32) => jp (fun (x23 : Int32) (z24 : MS) => jp (fun (z29 : MS) => jp (fun (x38 : Int32) (x39 : Int32) => bd (x4 + 1) fun x40 =>
  some (.inl (x38, x18, x39, x40, z29))) fun k30 =>
  if ¬ x11 = 41 then
  k30 x1 x23
  else
  bd (x23 + (-1)) fun x32 =>
  rd (z29 8) 60 x32 fun x33 =>
  jp (fun (x37 : Int32) => k30 x37 x32) fun k34 =>
  if x33 ≤ x1 then
  k34 x1
  else
  rd (z29 8) 60 x32 fun x36 =>
  k34 x36) fun k25 =>
  if ¬ x11 = 44 then
  k25 z24
  else
  rd (z24 8) 60 (x23 - 1) fun x27 =>
  wr z24 8 60 (x23 - 1) (x27 + 1) fun z28 =>
  k25 z28) fun k19 =>
  if ¬ x11 = 40 then
  k19 x3 z5
  else
  wr z5 8 60 x3 1 fun z21 =>
  bd (x3 + 1) fun x22 =>
  k19 x22 z21) fun k13 =>
  if x12 = 0 then
  k13 x2
  else
  jp (fun (x17 : Int32) => k13 x17) fun k15 =>
  if (x3 + 1) ≤ x2 then
  k15 x2
  else
  k15 (x3 + 1)) q.1 q.2.1 q.2.2.1 q.2.2.2.1 q.2.2.2.2) (MoI z t) t.length (fun r => r.2 = (if p1 = 0 then nI (nst t) else nI (mstA t)) ∧ ∀ u, u ≠ 8 → r.1 u = z u) ?_ ?_ ((0 : Int32), (0 : Int32), (0 : Int32), (0 : Int32), z) ?_
  · obtain ⟨r, hr, hq, hz⟩ := key
    exact ⟨r.1, by rw [hr, ← hq], hz⟩
  · rintro j ⟨x1, x2, x3, x4, z5⟩ hj ⟨s, hd, m, mo, ne, e1, e2, e3, hm, hne, q1, q2, q3, q4, hR, hz⟩
    dsimp only at q1 q2 q3 q4 hR hz
    subst q1; subst q2; subst q3; subst q4
    have hlen : s.length ≤ 30 := by have q := scn_len e1; rw [List.length_take] at q; simp at q; omega
    have hcn := scn_cnt e1 (by simp)
    dsimp only
    rw [rd_nI (by omega) (by decide), hz 0 (by decide), h0, if_neg (nI_ge hj (by omega)), F8_signOf_eq (hsr z5 hz) hj]
    simp only [bn]
    rw [F8_isCall_eq]
    have e4 := scn_s hj e1
    have e5 := msts_s hj ([], 0, 0)
    rw [e2] at e5
    obtain ⟨s', hd', e6⟩ := hc.pre (j + 1)
    rw [e6] at e4
    generalize t.getD j 0 = c at e4 e5 ⊢
    rcases stp_some e4.symm with ⟨-, h2, h3, h4, h5, rfl, rfl⟩ | ⟨-, -, h2, h3, h4, h5, rfl, rfl⟩ | ⟨rfl, rfl, rfl, rfl⟩ | ⟨a, r, rfl, rfl, ha, rfl, rfl⟩ | ⟨a, rfl, rfl, rfl⟩
    · rw [h2]
      refine ⟨(nI m, nI ne, nI s'.length, nI (j + 1), z5), ?_, s', false, m, mo, ne, e6, ?_, e3, hm, hne, rfl, rfl, rfl, rfl, hR, hz⟩
      · refine jp_go (if_go rfl (jp_go (if_go h3 (jp_go (if_go h4 (jp_go (if_go h5 (bd_go ?_))))))))
        rw [nI_1]
      · rw [e5]; unfold mst; rw [if_neg (by rw [h2]; decide), if_neg h3, if_neg h4, if_neg h5]
    · rw [h2]
      refine ⟨(nI m, nI (max ne (s'.length + 1)), nI s'.length, nI (j + 1), z5), ?_, s', true, m, mo, max ne (s'.length + 1), e6, ?_, e3, hm, by omega, rfl, rfl, rfl, rfl, hR, hz⟩
      · refine jp_go (if_no (by decide) (jp_go ?_))
        by_cases c1 : nI s'.length + 1 ≤ nI ne
        · refine if_go c1 (jp_go (if_go h3 (jp_go (if_go h4 (jp_go (if_go h5 (bd_go ?_)))))))
          rw [nI_1, ← nI_maxr (by omega) (by omega), ← nI_1 s'.length, if_pos c1]
        · refine if_no c1 (jp_go (if_go h3 (jp_go (if_go h4 (jp_go (if_go h5 (bd_go ?_)))))))
          rw [nI_1 j, ← nI_maxr (by omega) (by omega), ← nI_1 s'.length, if_neg c1]
      · rw [e5]; unfold mst; rw [if_pos h2]
    · refine ⟨(nI m, nI ne, nI (1 :: s).length, nI (j + 1), up2 z5 8 s.length 1), ?_, 1 :: s, false, m, max mo 1, ne, e6, ?_, ?_, hm, hne, rfl, rfl, rfl, rfl, ?_, fun u hu => by dsimp only; rw [up2_ne _ hu]; exact hz u hu⟩
      · refine jp_go (if_go (by decide) (jp_go (if_no (by decide) ?_)))
        rw [wr_nI (by omega) (by decide)]
        refine bd_go (jp_go (if_go (by decide) (jp_go (if_go (by decide) (bd_go ?_)))))
        rw [nI_1, nI_1, List.length_cons]
      · rw [e5]; unfold mst; rw [if_neg (by decide), if_pos rfl]
      · rw [mxl_cons]; omega
      · dsimp only
        rw [up2_same]
        exact ⟨by unfold upd; rw [if_pos rfl]; rfl, hR.upd (Nat.le_refl _)⟩
    · have hl : r.length < 60 := by rw [List.length_cons] at hlen; omega
      refine ⟨(nI m, nI ne, nI ((a + 1) :: r).length, nI (j + 1), up2 z5 8 r.length (nI (a + 1))), ?_, (a + 1) :: r, false, m, max mo (a + 1), ne, e6, ?_, ?_, hm, hne, rfl, rfl, rfl, rfl, ?_, fun u hu => by dsimp only; rw [up2_ne _ hu]; exact hz u hu⟩
      · refine jp_go (if_go (by decide) (jp_go (if_go (by decide) (jp_go (if_no (by decide) ?_)))))
        rw [List.length_cons, nI_pred, rd_nI hl (by decide), wr_nI hl (by decide), hR.1, nI_1]
        refine jp_go (if_go (by decide) (bd_go ?_))
        rw [nI_1, List.length_cons]
      · rw [e5]; unfold mst; rw [if_neg (by decide), if_neg (by decide), if_pos rfl]
      · rw [mxl_cons] at e3 ⊢; omega
      · dsimp only
        rw [up2_same]
        exact ⟨by unfold upd; rw [if_pos rfl], hR.2.upd (Nat.le_refl _)⟩
    · have hl : s'.length < 60 := by rw [List.length_cons] at hlen; omega
      have ha := hcn a List.mem_cons_self
      refine ⟨(nI (max m a), nI ne, nI s'.length, nI (j + 1), z5), ?_, s', false, max m a, mo, ne, e6, ?_, ?_, by omega, hne, rfl, rfl, rfl, rfl, hR.2, hz⟩
      · refine jp_go (if_go (by decide) (jp_go (if_go (by decide) (jp_go (if_go (by decide) (jp_go (if_no (by decide) (bd_go ?_))))))))
        rw [List.length_cons, nI_m1, rd_nI hl (by decide), hR.1]
        refine jp_go ?_
        by_cases c1 : nI a ≤ nI m
        · refine if_go c1 (bd_go ?_)
          rw [nI_1, ← nI_maxr (by omega) (by omega), if_pos c1]
        · refine if_no c1 ?_
          rw [rd_nI hl (by decide), hR.1]
          refine bd_go ?_
          rw [nI_1, ← nI_maxr (by omega) (by omega), if_neg c1]
      · rw [e5]; unfold mst; rw [if_neg (by decide), if_neg (by decide), if_neg (by decide), if_pos rfl]; rfl
      · rw [mxl_cons] at e3; omega
  · rintro ⟨x1, x2, x3, x4, z5⟩ ⟨s, hd, m, mo, ne, e1, e2, e3, hm, hne, q1, q2, q3, q4, hR, hz⟩
    dsimp only at q1 q2 q3 q4 hR hz
    subst q1; subst q2; subst q3; subst q4
    obtain ⟨hd', e⟩ := hc
    rw [List.take_length] at e1 e2
    rw [e] at e1
    cases e1
    have en : nst t = ne := by unfold nst; rw [e2]
    have em : mstA t = m := by
      unfold mstA; rw [e2]
      show mo = m
      have : mxl [] = 0 := rfl
      omega
    dsimp only
    rw [rd_nI (by omega) (by decide), hz 0 (by decide), h0, if_pos (nI_le (Nat.le_refl _) (by omega))]
    simp only [jp]
    by_cases hp : p1 = 0
    · rw [if_pos hp]
      exact ⟨_, rfl, by rw [if_pos hp, en], hz⟩
    · rw [if_neg hp]
      exact ⟨_, rfl, by rw [if_neg hp, em], hz⟩
  · exact ⟨[], false, 0, 0, 0, rfl, rfl, rfl, by decide, by decide, rfl, rfl, rfl, rfl, trivial, fun _ _ => rfl⟩
