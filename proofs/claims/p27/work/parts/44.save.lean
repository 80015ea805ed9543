/-! PURE: a state is saved, in both worlds -/
def InvD (t : Tx) (a : AS) (p : List AS) (s : Nat → Option AS) (z : MS) (b : BS) : Prop := Buf z b t ∧ WA a ∧ ZS (z 0) a ∧ SBb b 70 a ∧ Past z b p ∧ Snap z b s ∧ Closed b
theorem inv_iff {z : MS} {b : BS} : Inv z b ↔ ∃ t a p s, InvD t a p s z b := Iff.rfl
theorem setR_2 (b : BS) (i k : Nat) (v : Option Nat) (u l : Nat) : (setR b i k v).2.1 u l = if u = i ∧ l = k then v else b.2.1 u l := by
  show upR b.2.1 i k v u l = _
  unfold upR va_up
  by_cases h : u = i
  · subst h
    rw [if_pos rfl]
    by_cases c : l = k
    · simp [c]
    · simp [c]
  · rw [if_neg h, if_neg (by intro q; exact h q.1)]
theorem setR_row (b : BS) {i k u : Nat} {v : Option Nat} (h : u ≠ i) : (setR b i k v).2.1 u = b.2.1 u := upR_ne _ h
theorem nwS_ext {b : BS} {i : Nat} (hi : 72 ≤ i ∧ i < 88 ∧ i % 2 = 0) : Ext b (nwS b i) := by
  have L := nwS_lv b i hi
  refine ⟨fun j h => (L j).mpr (Or.inl h), fun j hj hl => ?_⟩
  have hn : ¬ (j = 102 + 5 * b.2.2 1 ∨ j = 103 + 5 * b.2.2 1 ∨ j = 104 + 5 * b.2.2 1) := by
    intro q
    have := lv_new1 b.2.2 (j := j) (by omega) (by omega)
    rw [hl] at this; cases this
  constructor
  · show (if j = i then _ else if _ then _ else b.1 j) = _
    rw [if_neg (by omega), if_neg hn]
  · show (if j = 1 then _ else if j = i then _ else if _ then _ else b.2.2 j) = _
    rw [if_neg (by omega), if_neg (by omega), if_neg (by omega)]
theorem nwS_closed {b : BS} {i : Nat} (hi : 72 ≤ i ∧ i < 88 ∧ i % 2 = 0) (h : Closed b) : Closed (nwS b i) := by
  have L := nwS_lv b i hi
  intro u k t ht
  have ht' : (if u = i then (fun k => if k = 1 then some (102 + 5 * b.2.2 1) else none) else if u = i + 1 then fun _ => none else b.2.1 u) k = some t := ht
  by_cases h1 : u = i
  · rw [if_pos h1] at ht'
    by_cases h2 : k = 1
    · rw [if_pos h2] at ht'; cases ht'; exact (L _).mpr (by omega)
    · rw [if_neg h2] at ht'; cases ht'
  · rw [if_neg h1] at ht'
    by_cases h2 : u = i + 1
    · rw [if_pos h2] at ht'; cases ht'
    · rw [if_neg h2] at ht'; exact (L _).mpr (Or.inl (h _ _ _ ht'))
theorem ok_state {n : Nat → Nat} {i : Nat} (hi : 70 ≤ i ∧ i < 88 ∧ i % 2 = 0) (h : lvB n i = true) : okB n i 5 = true := by
  have k : kd i = 5 := by unfold kd; repeat' (first | rw [if_pos (by omega)] | rw [if_neg (by omega)])
  unfold okB; rw [h, k]; rfl
set_option maxHeartbeats 1000000 in
theorem copyInto_eq {b : BS} {P k i : Nat} {a : AS} (hP : (P = 64 ∧ k < 6 ∧ i = 72 + 2 * k) ∨ (P = 65 ∧ k < 2 ∧ i = 84 + 2 * k)) (hC : Closed b) (h70 : SBb b 70 a) (hst : (b.2.1 P k = none ∧ lvB b.2.2 i = false) ∨ (b.2.1 P k = some i ∧ lvB b.2.2 i = true)) :
    ∃ b', F2_copyInto b P (nI k) 70 = some b' ∧ Ext b b' ∧ Closed b' ∧ SBb b' i a ∧ b'.2.1 P k = some i ∧ (∀ k', k' ≠ k → b'.2.1 P k' = b.2.1 P k') ∧ (∀ u, u ≠ P → u ≠ i → u ≠ i + 1 → b'.2.1 u = b.2.1 u) ∧ (∀ u, u < 100 → u ≠ i → b'.1 u = b.1 u) ∧ (∀ j, 72 ≤ j → j < 88 → j % 2 = 0 → j ≠ i → lvB b'.2.2 j = lvB b.2.2 j) ∧ lvB b'.2.2 i = true := by
  have hr : 72 ≤ i ∧ i < 88 ∧ i % 2 = 0 := by omega
  have hk : k < 6 := by omega
  have e1 : plc P (nI k) = i := by
    unfold plc
    rw [nI_clamp (by omega)]
    rcases hP with ⟨rfl, -, h⟩ | ⟨rfl, -, h⟩
    · rw [if_pos rfl, h]
    · rw [if_neg (by decide), h]
  have okP : okB b.2.2 P 23 = true := by rcases hP with ⟨rfl, -⟩ | ⟨rfl, -⟩ <;> rfl
  have lnP : lnB b.2.2 P = (if P = 64 then 6 else 2) := by rcases hP with ⟨rfl, -⟩ | ⟨rfl, -⟩ <;> rfl
  have hkl : k < lnB b.2.2 P := by rw [lnP]; rcases hP with ⟨rfl, h, -⟩ | ⟨rfl, h, -⟩ <;> simp <;> omega
  have hll : lnB b.2.2 P < 2 ^ 31 := by rw [lnP]; split <;> decide
  unfold F2_copyInto
  rcases hst with ⟨s1, s2⟩ | ⟨s1, s2⟩
  · have L := nwS_lv b i hr
    obtain ⟨b1, hb1⟩ : ∃ q, q = setR (nwS b i) P k (some i) := ⟨_, rfl⟩
    have x1 : Ext b b1 := by rw [hb1]; exact nwS_ext hr
    have li : lvB b1.2.2 i = true := by rw [hb1]; exact (L i).mpr (Or.inr (Or.inl rfl))
    have r2 : ∀ u, u ≠ P → u ≠ i → u ≠ i + 1 → b1.2.1 u = b.2.1 u := by
      intro u h1 h2 h3
      rw [hb1, setR_row _ h1]
      show (if u = i then _ else if u = i + 1 then _ else b.2.1 u) = _
      rw [if_neg h2, if_neg h3]
    have r1 : ∀ u, u < 100 → u ≠ i → b1.1 u = b.1 u := by
      intro u h1 h2
      rw [hb1]
      show (if u = i then _ else if _ then _ else b.1 u) = _
      rw [if_neg h2, if_neg (by omega)]
    have rP : ∀ k', b1.2.1 P k' = if k' = k then some i else b.2.1 P k' := by
      intro k'
      rw [hb1, setR_2]
      by_cases c : k' = k
      · rw [if_pos ⟨rfl, c⟩, if_pos c]
      · rw [if_neg (by intro q; exact c q.2), if_neg c]
        show (if P = i then _ else if P = i + 1 then _ else b.2.1 P) k' = _
        rw [if_neg (by omega), if_neg (by omega)]
    have c1 : Closed b1 := by
      rw [hb1]
      intro u l t ht
      rw [setR_2] at ht
      by_cases c : u = P ∧ l = k
      · rw [if_pos c] at ht; cases ht
        exact (L i).mpr (Or.inr (Or.inl rfl))
      · rw [if_neg c] at ht
        exact nwS_closed hr hC u l t ht
    have g70 : SBb b1 70 a := h70.ext x1 (r1 70 (by decide) (by omega)) (r2 70 (by omega) (by omega) (by omega)) (r2 71 (by omega) (by omega) (by omega))
    have oki := ok_state ⟨by omega, hr.2.1, hr.2.2⟩ li
    refine ⟨cpS b1 i 70, ?_, x1.tr (cpS_ext b1 (by omega)), cpS_closed c1, cpS_SBb oki (by omega) g70, ?_, ?_, ?_, ?_, ?_, li⟩
    · refine if_no (nI_pos (by omega)) <| ck_go okP <| if_no (nI_ge hkl hll) <| ro_go rfl hkl hll s1 <| on_no rfl ?_
      rw [e1, nI_clamp (by omega), pr_in ⟨hC, hr, s2, okB_1 h70.1⟩, ← hb1]
      exact F5_copyFrom_eq oki g70.1 (by omega) g70.tok
    · show (if P = i then _ else if P = i + 1 then _ else b1.2.1 P) k = _
      rw [if_neg (by omega), if_neg (by omega), rP, if_pos rfl]
    · intro k' hk'
      show (if P = i then _ else if P = i + 1 then _ else b1.2.1 P) k' = _
      rw [if_neg (by omega), if_neg (by omega), rP, if_neg hk']
    · intro u h1 h2 h3
      show (if u = i then _ else if u = i + 1 then _ else b1.2.1 u) = _
      rw [if_neg h2, if_neg h3, r2 u h1 h2 h3]
    · intro u h1 h2
      show (if u = i then _ else b1.1 u) = _
      rw [if_neg h2, r1 u h1 h2]
    · intro j h1 h2 h3 h4
      show lvB b1.2.2 j = _
      rw [hb1]
      refine bool_iff ?_
      show lvB (nwS b i).2.2 j = true ↔ _
      rw [L]
      exact ⟨fun q => by rcases q with q | q; exact q; omega, Or.inl⟩
  · have oki := ok_state ⟨by omega, hr.2.1, hr.2.2⟩ s2
    refine ⟨cpS b i 70, ?_, cpS_ext b (by omega), cpS_closed hC, cpS_SBb oki (by omega) h70, ?_, ?_, ?_, ?_, fun j _ _ _ _ => rfl, s2⟩
    · refine if_no (nI_pos (by omega)) <| ck_go okP <| if_no (nI_ge hkl hll) <| ro_go rfl hkl hll s1 <| on_so rfl <| ck_go oki ?_
      exact F5_copyFrom_eq oki h70.1 (by omega) h70.tok
    · show (if P = i then _ else if P = i + 1 then _ else b.2.1 P) k = _
      rw [if_neg (by omega), if_neg (by omega), s1]
    · intro k' hk'
      show (if P = i then _ else if P = i + 1 then _ else b.2.1 P) k' = _
      rw [if_neg (by omega), if_neg (by omega)]
    · intro u h1 h2 h3
      show (if u = i then _ else if u = i + 1 then _ else b.2.1 u) = _
      rw [if_neg h2, if_neg h3]
    · intro u h1 h2
      show (if u = i then _ else b.1 u) = _
      rw [if_neg h2]
/-- the reference's row behind the shift -/
def shf (f : Nat → Int32) (n : Nat) : Nat → Int32 := fun i => if i < n then f (2153 + i) else f i
theorem up43_2 (z : MS) (a : Nat) (g : Nat → Int32) (v : Int32) (h : a ≠ 43) : (sr z a g) 43 = z 43 := sr_ne _ _ (Ne.symm h)
theorem F8_saves_eq {z : MS} {n : Nat} (hn : n ≤ 6) (h2 : z 43 2 = nI n) : ∃ m row, (m = if n = 6 then 5 else n) ∧ F8_saves z = some (up2 (sr z 1 row) 43 2 (nI (m + 1))) ∧ (∀ i k, i < m → k < 2153 → row (2153 * i + k) = z 1 (2153 * (i + (n - m)) + k)) ∧ ∀ k, k < 2153 → row (2153 * m + k) = z 0 k := by
  have cp : ∀ (z1 : MS) (m : Nat), m ≤ 5 → z1 43 2 = nI m → Loop (fun (q : Int32 × MS) => (fun (x11 : Int32) (z12 : MS) =>
    if 2153 ≤ x11 then
    bd (up2 z12 43 2 ((z12 43 2) + 1)) fun z14 =>
    some (.inr z14)
    else
    rd (z12 0) 2153 x11 fun x15 =>
    wr z12 1 12918 ((2153 * (z12 43 2)) + x11) x15 fun z16 =>
    bd (x11 + 1) fun x17 =>
    some (.inl (x17, z16))) q.1 q.2) (0, z1) = some (up2 (sr z1 1 (pt (z1 1) (2153 * m) 2153 (z1 0))) 43 2 (nI (m + 1))) := by
    intro z1 m hm h1
    have e0 : ((0 : Int32), z1) = (fun j => (nI j, sr z1 1 (pt (z1 1) (2153 * m) j (z1 0)))) 0 := by
      show _ = (nI 0, _)
      rw [pt_0, sr_self]; rfl
    rw [e0]
    refine Loop_seq (fun j => (nI j, sr z1 1 (pt (z1 1) (2153 * m) j (z1 0)))) 2153 (fun j hj => ?_) ?_
    · refine if_no (nI_ge (b := 2153) hj (by decide)) <| rd_go rfl hj (by decide) (show sr z1 1 (pt (z1 1) (2153 * m) j (z1 0)) 0 j = z1 0 j by rw [sr_ne _ _ (by decide)]) <| wr_go (k := 2153 * m + j) ?_ (by omega) (by decide) <| bd_go ?_
      · show (2153 * sr z1 1 (pt (z1 1) (2153 * m) j (z1 0)) 43 2) + nI j = _
        rw [sr_ne _ _ (by decide), h1]
        show (nI 2153 * nI m) + nI j = _
        rw [nI_mul, nI_add]
      · dsimp only
        rw [sr_up, pt_s, nI_1]
    · refine if_go (show (2153 : Int32) ≤ nI 2153 by decide) <| bd_go ?_
      dsimp only
      rw [sr_ne _ _ (by decide), h1, nI_1]
  unfold F8_saves
  by_cases c : n = 6
  · subst c
    refine ⟨5, pt (shf (z 1) 10765) (2153 * 5) 2153 (z 0), by rw [if_pos rfl], ?_, ?_, ?_⟩
    · refine jp_go <| if_no (fun q => q (by rw [h2]; rfl)) ?_
      have e0 : ((0 : Int32), z) = (fun j => (nI j, sr z 1 (shf (z 1) j))) 0 := by
        show _ = (nI 0, _)
        have : shf (z 1) 0 = z 1 := by funext i; exact if_neg (by omega)
        rw [this, sr_self]; rfl
      rw [e0]
      refine Loop_seq (fun j => (nI j, sr z 1 (shf (z 1) j))) 10765 (fun j hj => ?_) ?_
      · refine if_no (nI_ge (b := 10765) hj (by decide)) <| rd_go (k := 2153 + j) (nI_add 2153 j) (by omega) (by decide) (show sr z 1 (shf (z 1) j) 1 (2153 + j) = z 1 (2153 + j) by rw [sr_at]; exact if_neg (by omega)) <| wr_go rfl (by omega) (by decide) <| bd_go ?_
        dsimp only
        rw [sr_up, nI_1]
        refine congrArg (fun q => some (Sum.inl (nI (j + 1), sr z 1 q))) ?_
        funext i
        unfold upd shf
        by_cases e : i = j
        · rw [if_pos e, if_pos (by omega), e]
        · rw [if_neg e]
          by_cases d : i < j
          · rw [if_pos d, if_pos (by omega)]
          · rw [if_neg d, if_neg (by omega)]
      · refine if_go (show (10765 : Int32) ≤ nI 10765 by decide) <| bd_go ?_
        have h1 : up2 (sr z 1 (shf (z 1) 10765)) 43 2 ((sr z 1 (shf (z 1) 10765)) 43 2 - 1) 43 2 = nI 5 := by
          rw [up2_at, if_pos ⟨rfl, rfl⟩, sr_ne _ _ (by decide), h2]; exact nI_pred 5
        have := cp (up2 (sr z 1 (shf (z 1) 10765)) 43 2 ((sr z 1 (shf (z 1) 10765)) 43 2 - 1)) 5 (by decide) h1
        show li (Loop _ _) = _
        rw [this]
        refine congrArg (fun q => some (Sum.inr q)) ?_
        funext u
        have e1 : ∀ v, up2 (sr z 1 (shf (z 1) 10765)) 43 2 v 1 = shf (z 1) 10765 := fun v => by rw [up2_ne _ (by decide), sr_at]
        have e0 : ∀ v, up2 (sr z 1 (shf (z 1) 10765)) 43 2 v 0 = z 0 := fun v => by rw [up2_ne _ (by decide), sr_ne _ _ (by decide)]
        rw [e1, e0]
        by_cases h43 : u = 43
        · subst h43
          rw [up2_same, up2_same, sr_ne _ _ (by decide), sr_ne _ _ (by decide), up2_same]
          funext i
          unfold upd
          by_cases c : i = 2
          · rw [if_pos c, if_pos c]
          · rw [if_neg c, if_neg c, if_neg c, sr_ne _ _ (by decide), sr_ne _ _ (by decide)]
        · rw [up2_ne _ h43, up2_ne _ h43]
          by_cases h1 : u = 1
          · subst h1; rw [sr_at, sr_at]
          · rw [sr_ne _ _ h1, sr_ne _ _ h1, up2_ne _ h43, sr_ne _ _ h1]
    · intro i k hi hk
      rw [pt_out (Or.inl (by omega))]
      unfold shf
      rw [if_pos (by omega)]
      congr 1; omega
    · exact fun k hk => pt_in hk
  · refine ⟨n, pt (z 1) (2153 * n) 2153 (z 0), by rw [if_neg c], ?_, ?_, ?_⟩
    · refine jp_go <| if_go (by rw [h2]; exact nI_neq (b := 6) (by omega) (by decide) c) ?_
      exact cp z n (by omega) h2
    · intro i k hi hk
      rw [pt_out (Or.inl (by
        have : 2153 * i + 2153 ≤ 2153 * n := by omega
        omega)), Nat.sub_self]; rfl
    · exact fun k hk => pt_in hk
