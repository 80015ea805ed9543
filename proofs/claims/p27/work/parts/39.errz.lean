/-! PURE: the reference's first error -/
def SmE (z z' : MS) : Prop := (∀ u, u ≠ 8 → u ≠ 43 → z' u = z u) ∧ ∀ k, k ≠ 9 → z' 43 k = z 43 k
theorem SmE.rf (z : MS) : SmE z z := ⟨fun _ _ _ => rfl, fun _ _ => rfl⟩
theorem SmE.tr {z z1 z2 : MS} (h : SmE z z1) (g : SmE z1 z2) : SmE z z2 := ⟨fun u a b => (g.1 u a b).trans (h.1 u a b), fun k a => (g.2 k a).trans (h.2 k a)⟩
theorem SmE.sm {z z' : MS} (h : SmE z z') : SmZ z z' := ⟨h.1 0 (by decide) (by decide), h.1 1 (by decide) (by decide), h.1 3 (by decide) (by decide), h.1 4 (by decide) (by decide), h.1 5 (by decide) (by decide), h.2 2 (by decide), h.2 6 (by decide)⟩
theorem SmE.up8 (z : MS) (k : Nat) (v : Int32) : SmE z (up2 z 8 k v) := ⟨fun u a _ => up2_ne _ a, fun k _ => by rw [up2_ne _ (by decide)]⟩
theorem SmE.up9 (z : MS) (v : Int32) : SmE z (up2 z 43 9 v) := ⟨fun u _ b => up2_ne _ b, fun k a => by rw [up2_at, if_neg (by omega)]⟩
theorem up9_at (z : MS) (v : Int32) : up2 z 43 9 v 43 9 = v := by rw [up2_at, if_pos ⟨rfl, rfl⟩]
theorem up8_9 (z : MS) (k : Nat) (v : Int32) : up2 z 8 k v 43 9 = z 43 9 := by rw [up2_ne _ (by decide)]
theorem up9_8 (z : MS) (v : Int32) : up2 z 43 9 v 8 = z 8 := up2_ne _ (by decide)
set_option maxHeartbeats 2000000 in
theorem F8_error_eq {z : MS} {t : Tx} (hl : t.length ≤ 60) (h6 : z 43 6 = nI t.length) (hb : hold (z 5) t) : ∃ z', F8_error z = some (z', nI (fst_err t)) ∧ SmE z z' ∧ z' 43 9 = nI (erx t ([], false)).2.1.length := by
  have hE : fst_err t ≤ t.length := erx_le t ([], false)
  unfold F8_error
  have key := Loop_inv (f := fun (q : Int32 × Int32 × MS) => (fun (x2 : Int32) (x3 : Int32) (z4 : MS) =>
  if (z4 43 6) ≤ x3 then
  some (.inr (z4, z4 43 6))
  else
  rd (z4 5) 60 x3 fun x6 =>
  bn (F8_isPlain x6) fun x7 =>
  jp (fun (x25 : Int32) => if ¬ x25 = 0 then
  jp (fun (z31 : MS) => jp (fun (z35 : MS) => jp (fun (z40 : MS) => bn (F8_isCall x6) fun x41 =>
  bd (x3 + 1) fun x42 =>
  some (.inl (x41, x42, z40))) fun k36 =>
  if ¬ x6 = 44 then
  k36 z35
  else
  rd (z35 8) 60 ((z35 43 9) - 1) fun x38 =>
  wr z35 8 60 ((z35 43 9) - 1) (x38 + 1) fun z39 =>
  k36 z39) fun k32 =>
  if ¬ x6 = 41 then
  k32 z31
  else
  bd (up2 z31 43 9 ((z31 43 9) - 1)) fun z34 =>
  k32 z34) fun k27 =>
  if ¬ x6 = 40 then
  k27 z4
  else
  wr z4 8 60 (z4 43 9) 1 fun z29 =>
  bd (up2 z29 43 9 ((z29 43 9) + 1)) fun z30 =>
  k27 z30
  else
  some (.inr (z4, x3))) fun k8 =>
  jp (fun (_ : Unit) => k8 1) fun k9 =>
  if ¬ x7 = 0 then
  k9 ()
  else
  if x6 = 63 then
  k9 ()
  else
  bn (F8_isCall x6) fun x12 =>
  if ¬ x12 = 0 then
  k9 ()
  else
  jp (fun (_ : Unit) => jp (fun (_ : Unit) => jp (fun (_ : Unit) => k8 0) fun k20 =>
  if ¬ x6 = 44 then
  k20 ()
  else
  if (z4 43 9) ≤ 0 then
  k20 ()
  else
  rd (z4 8) 60 ((z4 43 9) - 1) fun x23 =>
  if 6 ≤ x23 then
  k20 ()
  else
  k9 ()) fun k17 =>
  if ¬ x6 = 41 then
  k17 ()
  else
  if (0 : Int32) < (z4 43 9) then
  k9 ()
  else
  k17 ()) fun k14 =>
  if ¬ x6 = 40 then
  k14 ()
  else
  if ¬ x2 = 0 then
  k9 ()
  else
  k14 ()) q.1 q.2.1 q.2.2)
    (fun j q => j ≤ fst_err t ∧ q.2.1 = nI j ∧ SmE z q.2.2 ∧ ∃ s hd, scn (t.take j) ([], false) = some (s, hd) ∧ q.1 = bI hd ∧ q.2.2 43 9 = nI s.length ∧ RS (q.2.2 8) s) (fst_err t)
    (fun r => r.2 = nI (fst_err t) ∧ SmE z r.1 ∧ r.1 43 9 = nI (erx t ([], false)).2.1.length) ?_ ?_ ((0 : Int32), (0 : Int32), up2 z 43 9 0) ?_
  · obtain ⟨r, hr, h1, h2, h3⟩ := key
    exact ⟨r.1, by rw [← h1]; exact bd_go hr, h2, h3⟩
  · rintro j ⟨x2, x3, z4⟩ hj ⟨hle, q2, hsm, s, hd, e1, q1, g1, hR⟩
    dsimp only at q1 q2 hsm g1 hR
    subst q2; subst q1
    have hjl : j < t.length := Nat.lt_of_lt_of_le hj hE
    obtain ⟨s2, e4, e5⟩ := erx_go t ([], false) hj e1
    obtain ⟨s', hd'⟩ := s2
    have hlen : s.length ≤ 30 := by have q := scn_len e1; rw [List.length_take] at q; simp at q; omega
    have hv : z4 5 j = t.getD j 0 := by rw [hsm.1 5 (by decide) (by decide)]; exact hb j hjl
    have h6' : z4 43 6 = nI t.length := (hsm.2 6 (by decide)).trans h6
    have hgo : ∀ (f : Int32 × Int32 × MS → Option ((Int32 × Int32 × MS) ⊕ (MS × Int32))), f = f := fun _ => rfl
    dsimp only
    rw [h6']
    generalize hc : t.getD j 0 = c at hv e4
    rcases stp_some e4 with ⟨h1, h2, h3, h4, h5, rfl, rfl⟩ | ⟨hp, h63, h2, h3, h4, h5, rfl, rfl⟩ | ⟨rfl, rfl, rfl, rfl⟩ | ⟨a, r, rfl, rfl, ha, rfl, rfl⟩ | ⟨a, rfl, rfl, rfl⟩
    · refine ⟨(0, nI (j + 1), z4), ?_, hj, rfl, hsm, s', false, e5, rfl, g1, hR⟩
      refine if_no (nI_ge hjl (by omega)) (rd_go rfl (by omega) (by decide) hv (bn_go (F8_isPlain_eq c) (jp_go (jp_go ?_))))
      have fin : (jp (fun (z31 : MS) => jp (fun (z35 : MS) => jp (fun (z40 : MS) => bn (F8_isCall c) fun x41 =>
        bd (nI j + 1) fun x42 =>
        some (Sum.inl (x41, x42, z40))) fun k36 =>
        if ¬ c = 44 then
        k36 z35
        else
        rd (z35 8) 60 ((z35 43 9) - 1) fun x38 =>
        wr z35 8 60 ((z35 43 9) - 1) (x38 + 1) fun z39 =>
        k36 z39) fun k32 =>
        if ¬ c = 41 then
        k32 z31
        else
        bd (up2 z31 43 9 ((z31 43 9) - 1)) fun z34 =>
        k32 z34) fun k27 =>
        if ¬ c = 40 then
        k27 z4
        else
        wr z4 8 60 (z4 43 9) 1 fun z29 =>
        bd (up2 z29 43 9 ((z29 43 9) + 1)) fun z30 =>
        k27 z30 : Option ((Int32 × Int32 × MS) ⊕ (MS × Int32))) = some (Sum.inl (0, nI (j + 1), z4)) := by
        refine jp_go <| if_go h3 <| jp_go <| if_go h5 <| jp_go <| if_go h4 <| bn_go (F8_isCall_eq c) <| bd_go ?_
        rw [h2, nI_1]; rfl
      rcases h1 with h1 | rfl
      · exact if_go (by rw [h1]; decide) (if_go (by decide) fin)
      · exact if_no (by decide) (if_go rfl (if_go (by decide) fin))
    · refine ⟨(1, nI (j + 1), z4), ?_, hj, rfl, hsm, s', true, e5, rfl, g1, hR⟩
      refine if_no (nI_ge hjl (by omega)) <| rd_go rfl (by omega) (by decide) hv <| bn_go (F8_isPlain_eq c) <| jp_go <| jp_go <| if_no (by rw [hp]; decide) <| if_no h63 <| bn_go (F8_isCall_eq c) <| if_go (by rw [h2]; decide) <| if_go (by decide) <| jp_go <| if_go h3 <| jp_go <| if_go h5 <| jp_go <| if_go h4 <| bn_go (F8_isCall_eq c) <| bd_go ?_
      rw [h2, nI_1]; rfl
    · refine ⟨(0, nI (j + 1), up2 (up2 z4 8 s.length 1) 43 9 (nI (s.length + 1))), ?_, hj, rfl, hsm.tr ((SmE.up8 _ _ _).tr (SmE.up9 _ _)), 1 :: s, false, e5, rfl, ?_, ?_⟩
      · refine if_no (nI_ge hjl (by omega)) <| rd_go rfl (by omega) (by decide) hv <| bn_go (F8_isPlain_eq 40) <| jp_go <| jp_go <| if_no (by decide) <| if_no (by decide) <| bn_go (F8_isCall_eq 40) <| if_no (by decide) <| jp_go <| if_no (by decide) <| if_go (by decide) <| if_go (by decide) <| jp_go <| if_no (by decide) <| wr_go g1 (by omega) (by decide) <| bd_go <| jp_go <| if_go (by decide) <| jp_go <| if_go (by decide) <| bn_go (F8_isCall_eq 40) <| bd_go ?_
        rw [up8_9, g1, nI_1, nI_1]; rfl
      · dsimp only; rw [up9_at, List.length_cons]
      · dsimp only
        rw [up9_8, up2_same]
        exact ⟨by unfold upd; rw [if_pos rfl]; rfl, hR.upd (Nat.le_refl _)⟩
    · have hl' : r.length < 60 := by rw [List.length_cons] at hlen; omega
      rw [List.length_cons] at g1
      refine ⟨(0, nI (j + 1), up2 z4 8 r.length (nI (a + 1))), ?_, hj, rfl, hsm.tr (SmE.up8 _ _ _), (a + 1) :: r, false, e5, rfl, ?_, ?_⟩
      · refine if_no (nI_ge hjl (by omega)) <| rd_go rfl (by omega) (by decide) hv <| bn_go (F8_isPlain_eq 44) <| jp_go <| jp_go <| if_no (by decide) <| if_no (by decide) <| bn_go (F8_isCall_eq 44) <| if_no (by decide) <| jp_go <| if_go (by decide) <| jp_go <| if_go (by decide) <| jp_go <| if_no (by decide) <| if_no (by rw [g1]; exact nI_nle (by omega) (by omega)) <| rd_go (by rw [g1]; exact nI_pred _) hl' (by decide) hR.1 <| if_no (nI_ge (b := 6) (by omega) (by decide)) <| if_go (by decide) <| jp_go <| if_go (by decide) <| jp_go <| if_go (by decide) <| jp_go <| if_no (by decide) <| rd_go (by rw [g1]; exact nI_pred _) hl' (by decide) hR.1 <| wr_go (by rw [g1]; exact nI_pred _) hl' (by decide) <| bn_go (F8_isCall_eq 44) <| bd_go ?_
        rw [nI_1, nI_1]; rfl
      · dsimp only; rw [up8_9, List.length_cons]; exact g1
      · dsimp only
        rw [up2_same]
        exact ⟨by unfold upd; rw [if_pos rfl], hR.2.upd (Nat.le_refl _)⟩
    · rw [List.length_cons] at g1 hlen
      refine ⟨(0, nI (j + 1), up2 z4 43 9 (nI s'.length)), ?_, hj, rfl, hsm.tr (SmE.up9 _ _), s', false, e5, rfl, ?_, ?_⟩
      · refine if_no (nI_ge hjl (by omega)) <| rd_go rfl (by omega) (by decide) hv <| bn_go (F8_isPlain_eq 41) <| jp_go <| jp_go <| if_no (by decide) <| if_no (by decide) <| bn_go (F8_isCall_eq 41) <| if_no (by decide) <| jp_go <| if_go (by decide) <| jp_go <| if_no (by decide) <| if_go (by rw [g1]; exact nI_lt (a := 0) (by omega) (by omega)) <| if_go (by decide) <| jp_go <| if_go (by decide) <| jp_go <| if_no (by decide) <| bd_go <| jp_go <| if_go (by decide) <| bn_go (F8_isCall_eq 41) <| bd_go ?_
        rw [g1, nI_pred, nI_1]; rfl
      · dsimp only; rw [up9_at]
      · dsimp only; rw [up9_8]; exact hR.2
  · rintro ⟨x2, x3, z4⟩ ⟨hle, q2, hsm, s, hd, e1, q1, g1, hR⟩
    dsimp only at q1 q2 hsm g1 hR
    subst q2; subst q1
    have e1' := erx_scn t ([], false)
    have es : (s, hd) = (erx t ([], false)).2 := Option.some.inj (e1.symm.trans e1')
    have hlen : s.length ≤ 30 := by have q := scn_len e1; rw [List.length_take] at q; simp at q; omega
    have h6' : z4 43 6 = nI t.length := (hsm.2 6 (by decide)).trans h6
    have h9 : z4 43 9 = nI (erx t ([], false)).2.1.length := by rw [← es]; exact g1
    dsimp only
    rw [h6']
    rcases Nat.lt_or_ge (fst_err t) t.length with q | q
    · refine ⟨(z4, nI (fst_err t)), ?_, rfl, hsm, h9⟩
      have hst := erx_stop t ([], false) q
      rw [← es] at hst
      have hv : z4 5 (fst_err t) = t.getD (fst_err t) 0 := by rw [hsm.1 5 (by decide) (by decide)]; exact hb _ q
      have hcn := scn_cnt e1 (by simp)
      have hst' : stp (t.getD (fst_err t) 0) (s, hd) = none := hst
      generalize t.getD (fst_err t) 0 = c at hv hst'
      obtain ⟨hp, h63, hab, hrest⟩ := stp_none hst'
      refine if_no (nI_ge q (by omega)) <| rd_go rfl (by omega) (by decide) hv <| bn_go (F8_isPlain_eq c) <| jp_go <| jp_go <| if_no (by rw [hp]; decide) <| if_no h63 <| bn_go (F8_isCall_eq c) <| if_no (by rw [hab]; decide) ?_
      rcases hrest with ⟨rfl, rfl⟩ | ⟨rfl, rfl⟩ | ⟨a, r, rfl, rfl, ha⟩ | ⟨rfl, rfl⟩ | ⟨h40, h44, h41⟩
      · exact jp_go <| if_no (by decide) <| if_no (by decide) <| jp_go <| if_go (by decide) <| jp_go <| if_go (by decide) <| if_no (by decide) rfl
      · exact jp_go <| if_go (by decide) <| jp_go <| if_go (by decide) <| jp_go <| if_no (by decide) <| if_go (by rw [g1]; decide) <| if_no (by decide) rfl
      · have hl' : r.length < 60 := by rw [List.length_cons] at hlen; omega
        rw [List.length_cons] at g1
        have ha6 := hcn a List.mem_cons_self
        exact jp_go <| if_go (by decide) <| jp_go <| if_go (by decide) <| jp_go <| if_no (by decide) <| if_no (by rw [g1]; exact nI_nle (by omega) (by omega)) <| rd_go (by rw [g1]; exact nI_pred _) hl' (by decide) hR.1 <| if_go (nI_le (a := 6) (by omega) (by omega)) <| if_no (by decide) rfl
      · exact jp_go <| if_go (by decide) <| jp_go <| if_no (by decide) <| if_no (by rw [g1]; decide) <| jp_go <| if_go (by decide) <| if_no (by decide) rfl
      · exact jp_go <| if_go h40 <| jp_go <| if_go h41 <| jp_go <| if_go h44 <| if_no (by decide) rfl
    · have hq : fst_err t = t.length := Nat.le_antisymm hE q
      refine ⟨(z4, nI t.length), ?_, by rw [hq], hsm, h9⟩
      exact if_go (by rw [hq]; exact nI_le (Nat.le_refl _) (by omega)) rfl
  · refine ⟨Nat.zero_le _, rfl, SmE.up9 _ _, [], false, rfl, rfl, ?_, trivial⟩
    dsimp only; rw [up9_at]; rfl
/-- whole or not, in both worlds -/
def wholeB (t : Tx) : Bool := decide (fst_err t = t.length) && decide ((erx t ([], false)).2.1 = [])
theorem wholeB_iff (t : Tx) : wholeB t = true ↔ Cpl t := by
  rw [cpl_iff]; unfold wholeB fst_err
  rw [Bool.and_eq_true, decide_eq_true_iff, decide_eq_true_iff]
theorem F8_isWhole_eq {z : MS} {t : Tx} (hl : t.length ≤ 60) (h6 : z 43 6 = nI t.length) (hb : hold (z 5) t) : ∃ z', F8_isWhole z = some (z', bI (wholeB t)) ∧ SmE z z' := by
  obtain ⟨z', h1, h2, h3⟩ := F8_error_eq hl h6 hb
  have hE : fst_err t ≤ t.length := erx_le t ([], false)
  have hs := erx_stk hl
  refine ⟨z', ?_, h2⟩
  unfold F8_isWhole
  refine bn2_go h1 (jp_go (jp_go ?_))
  rw [h2.2 6 (by decide), h6, h3]
  unfold wholeB
  by_cases q : fst_err t = t.length
  · rw [decide_eq_true q, q]
    refine if_no (fun q => q rfl) ?_
    cases e : (erx t ([], false)).2.1 with
    | nil => exact if_no (fun q => q rfl) bz1
    | cons a r =>
      rw [e, List.length_cons] at hs
      rw [List.length_cons]
      exact if_go (nI_neq (b := 0) (by omega) (by decide) (by omega)) bz0
  · rw [decide_eq_false q]
    exact if_go (nI_neq (by omega) (by omega) q) bz0
theorem S_firstError {z : MS} {b : BS} (h : Inv z b) : okP Inv (F7_firstError b) (F8_firstError z) := by
  obtain ⟨t, a, p, s, ⟨h1, h2, h3, h4, h5⟩, -⟩ := id h
  obtain ⟨b', e7, hsb, hR⟩ := F4_readText_eq (b := b) h1 h5
  obtain ⟨z', e8, hsz, -⟩ := F8_error_eq (z := up2 z 43 7 0) h1 (by rw [up2_at, if_neg (by decide)]; exact h2) (by rw [up2_ne _ (by decide)]; exact h3)
  refine ⟨b', z', nI (fst_err t), ?_, ?_, h.sm ((SmZ.rfs z 0).tr hsz.sm) hsb⟩
  · unfold F7_firstError
    rw [h4]
    refine bn_go e7 ?_
    rw [hR.2.2.1]
  · unfold F8_firstError
    exact bd_go (bn2_go e8 rfl)
theorem requireCompleteText_eq {b : BS} {t : Tx} (hl : t.length ≤ 60) (h4 : b.1 50 6 = nI t.length) (h5 : hold (b.1 51) t) : ∃ b', F7_requireCompleteText b = some (b', if wholeB t = true then .inr () else .inl 2) ∧ SmB b b' ∧ (wholeB t = true → ∃ s, RdS b' t.length t.length s (hls t) (cls t) (mstA t) (nst t) (sml t) (cld t)) := by
  obtain ⟨b', e7, hsb, hR⟩ := F4_readText_eq (b := b) hl h5
  refine ⟨b', ?_, hsb, ?_⟩
  · unfold F7_requireCompleteText
    rw [h4]
    refine bn_go e7 (bn_go (F4_isComplete_eq hl hR (erx_stk hl)) ?_)
    show (if ¬ bI (wholeB t) = 0 then _ else _) = _
    cases wholeB t
    · exact if_no (by decide) rfl
    · exact if_go (by decide) rfl
  · intro hw
    unfold wholeB at hw
    rw [Bool.and_eq_true, decide_eq_true_iff] at hw
    rw [hw.1, List.take_length] at hR
    exact ⟨_, hR⟩
