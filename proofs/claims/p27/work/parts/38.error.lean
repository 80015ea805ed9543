/-! PURE: the first error, whole texts, in both worlds -/
theorem if_both {α : Type} {c d : Prop} [Decidable c] [Decidable d] {X Y r : α} (h : ¬ c → ¬ d) (hx : X = r) : (if c then X else if d then Y else X) = r := by
  by_cases q : c
  · rw [if_pos q]; exact hx
  · rw [if_neg q, if_neg (h q)]; exact hx
theorem accepts_no {b : BS} {n j : Nat} {s : List Nat} {ho ca mo ne sm : Nat} {cd c before : Int32} {hd : Bool} (h : RdS b n j s ho ca mo ne sm cd) (hb : hd = inB before 65 90) (e : stp c (s, hd) = none) (hlen : s.length ≤ 30) (hcn : ∀ a ∈ s, 1 ≤ a ∧ a ≤ 6) : F4_accepts b c before = some (b, 0) := by
  obtain ⟨g1, g2, g3, g4, g5, g6, g7, g8, g9, g10⟩ := id h
  obtain ⟨hp, h63, hab, hrest⟩ := stp_none e
  have h95 : ¬ c = 95 := by rintro rfl; exact absurd hp (by decide)
  unfold F4_accepts
  have hq : ¬ c < 97 → ¬ c ≤ 122 := fun q1 q2 => by
    have : plB c = true := by rw [plB_iff]; exact Or.inl ⟨Int32.le_iff_toInt_le.mp (Int32.not_lt.mp q1), Int32.le_iff_toInt_le.mp q2⟩
    rw [hp] at this; cases this
  refine jp_go (jp_go (if_both hq ?_))
  refine if_go h95 (if_go h63 (bn_go (F7_isAbbreviation_eq c) (if_go (by rw [hab]; rfl) ?_)))
  rcases hrest with ⟨rfl, rfl⟩ | ⟨rfl, rfl⟩ | ⟨a, r, rfl, rfl, ha⟩ | ⟨rfl, rfl⟩ | ⟨h40, h44, h41⟩
  · refine if_no (by decide) (bn_go (F7_isAbbreviation_eq before) (jp_go (jp_go (if_go (by rw [← hb]; rfl) bz0))))
  · refine if_go (by decide) (if_no (by decide) (bn2_go (a := b) (b := 0) ?_ bz0))
    unfold F4_addsArgument
    refine bd_go (jp_go (if_go (by rw [g1]; decide) bz0))
  · refine if_go (by decide) (if_no (by decide) (bn2_go (a := b) (b := 0) ?_ bz0))
    have hl : r.length < 60 := by rw [List.length_cons] at hlen; omega
    rw [List.length_cons] at g1
    have ha6 := hcn a List.mem_cons_self
    unfold F4_addsArgument
    refine bd_go (jp_go ?_)
    rw [g1, nI_pred]
    exact if_no (nI_pos (by omega)) (if_go (nI_lt (by omega) (by decide)) (rd_go rfl hl (by decide) g10.1 (if_no (nI_nlt (b := 6) (by omega) (by omega)) bz0)))
  · refine if_go (by decide) (if_go (by decide) (jp_go (jp_go (if_no (by decide) (bn2_go (a := b) (b := 0) ?_ (if_go rfl bz0))))))
    unfold F4_closesCall
    exact if_no (by rw [g1]; decide) bz0
  · exact if_go h40 (if_go h44 (jp_go (jp_go (if_go h41 bz0))))
/-- where a reading stops, and in which state -/
def erx : Tx → Sc → Nat × Sc
  | [], s => (0, s)
  | c :: t, s => match stp c s with
    | none => (0, s)
    | some s' => ((erx t s').1 + 1, (erx t s').2)
theorem erx_le (t : Tx) (s : Sc) : (erx t s).1 ≤ t.length := by
  induction t generalizing s with
  | nil => exact Nat.le_refl _
  | cons c t ih =>
    unfold erx
    cases stp c s with
    | none => exact Nat.zero_le _
    | some s' => have := ih s'; rw [List.length_cons]; dsimp only; omega
theorem erx_scn (t : Tx) (s : Sc) : scn (t.take (erx t s).1) s = some (erx t s).2 := by
  induction t generalizing s with
  | nil => rfl
  | cons c t ih =>
    unfold erx
    cases e : stp c s with
    | none => rfl
    | some s' =>
      dsimp only
      show scn (c :: t.take (erx t s').1) s = _
      unfold scn
      rw [e]
      exact ih s'
theorem erx_stop (t : Tx) (s : Sc) (h : (erx t s).1 < t.length) : stp (t.getD (erx t s).1 0) (erx t s).2 = none := by
  induction t generalizing s with
  | nil => exact absurd h (by simp [erx])
  | cons c t ih =>
    unfold erx at h ⊢
    cases e : stp c s with
    | none => rw [e] at h; exact e
    | some s' =>
      rw [e] at h
      dsimp only at h ⊢
      rw [List.length_cons] at h
      have := ih s' (by omega)
      rw [List.getD_cons_succ]
      exact this
theorem erx_pre (t : Tx) (s : Sc) {j : Nat} (h : j ≤ (erx t s).1) : ∃ s1, scn (t.take j) s = some s1 := by
  have e := erx_scn t s
  have q : t.take (erx t s).1 = t.take j ++ (t.drop j).take ((erx t s).1 - j) := by
    rw [← List.take_add, Nat.add_sub_cancel' h]
  rw [q, scn_app] at e
  cases e1 : scn (t.take j) s with
  | none => rw [e1] at e; cases e
  | some s1 => exact ⟨s1, rfl⟩
theorem erx_go (t : Tx) (s : Sc) {j : Nat} (h : j < (erx t s).1) {s1 : Sc} (e : scn (t.take j) s = some s1) : ∃ s2, stp (t.getD j 0) s1 = some s2 ∧ scn (t.take (j + 1)) s = some s2 := by
  obtain ⟨s2, h2⟩ := erx_pre t s (j := j + 1) h
  have hl := erx_le t s
  rw [scn_s (by omega) e] at h2
  exact ⟨s2, h2, by rw [scn_s (by omega) e, h2]⟩
theorem cpl_iff (t : Tx) : Cpl t ↔ (erx t ([], false)).1 = t.length ∧ (erx t ([], false)).2.1 = [] := by
  constructor
  · rintro ⟨h, e⟩
    have h1 : (erx t ([], false)).1 = t.length := by
      rcases Nat.lt_or_ge (erx t ([], false)).1 t.length with q | q
      · exfalso
        have h2 := erx_stop t _ q
        have h3 := erx_scn t ([], false)
        have h4 := scn_s q h3
        rw [h2] at h4
        rw [← List.take_append_drop ((erx t ([], false)).1 + 1) t, scn_app, h4] at e
        cases e
      · exact Nat.le_antisymm (erx_le _ _) q
    have h2 := erx_scn t ([], false)
    rw [h1, List.take_length, e] at h2
    exact ⟨h1, by rw [← Option.some.inj h2]⟩
  · rintro ⟨h1, h2⟩
    have h3 := erx_scn t ([], false)
    rw [h1, List.take_length] at h3
    exact ⟨(erx t ([], false)).2.2, by rw [h3]; exact congrArg some (Prod.ext h2 rfl)⟩
/-- the first error of a text, or its length -/
def fst_err (t : Tx) : Nat := (erx t ([], false)).1
theorem msts_bd {t : Tx} {s s' : List Nat} {h h' : Bool} {m n m' n' : Nat} (e : scn t (s, h) = some (s', h')) (hm : msts t (s, m, n) = (s', m', n')) (hs : ∀ a ∈ s, 1 ≤ a ∧ a ≤ 6) (hb : m ≤ 6) (k : Nat) (hk : 2 * s.length + (if h = true then 1 else 0) + t.length ≤ k) (hn : n ≤ k) : m' ≤ 6 ∧ n' ≤ k := by
  induction t generalizing s h m n with
  | nil => cases e; cases hm; exact ⟨hb, hn⟩
  | cons c t ih =>
    unfold scn at e
    cases e1 : stp c (s, h) with
    | none => rw [e1] at e; cases e
    | some q =>
      obtain ⟨s1, h1⟩ := q
      rw [e1] at e
      have hl := scn_len (t := [c]) (s := s) (h := h) (s' := s1) (h' := h1) (by unfold scn; rw [e1]; rfl)
      have hc := scn_cnt (t := [c]) (s := s) (h := h) (s' := s1) (h' := h1) (by unfold scn; rw [e1]; rfl) hs
      have q := mst_stp (m := m) (n := n) e1
      obtain ⟨m1, n1, hm1⟩ : ∃ m1 n1, mst c (s, m, n) = (s1, m1, n1) := ⟨_, _, Prod.ext q rfl⟩
      have hm2 : msts t (s1, m1, n1) = (s', m', n') := by rw [← hm1]; exact hm
      rw [List.length_cons] at hk
      rw [List.length_singleton] at hl
      refine ih e hm2 hc ?_ (by omega) ?_
      · have := congrArg (fun q => q.2.1) hm1
        dsimp only at this
        rw [← this]
        unfold mst
        rcases stp_some e1 with ⟨-, h2, h3, h4, h5, rfl, rfl⟩ | ⟨-, -, h2, h3, h4, h5, rfl, rfl⟩ | ⟨rfl, rfl, rfl, rfl⟩ | ⟨a, r, rfl, rfl, ha, rfl, rfl⟩ | ⟨a, rfl, rfl, rfl⟩
        · rw [if_neg (by rw [h2]; decide), if_neg h3, if_neg h4, if_neg h5]; exact hb
        · rw [if_pos h2]; exact hb
        · rw [if_neg (by decide), if_pos rfl]; dsimp only; omega
        · rw [if_neg (by decide), if_neg (by decide), if_pos rfl]; dsimp only; omega
        · rw [if_neg (by decide), if_neg (by decide), if_neg (by decide), if_pos rfl]; exact hb
      · have := congrArg (fun q => q.2.2) hm1
        dsimp only at this
        rw [← this]
        unfold mst
        rcases stp_some e1 with ⟨-, h2, h3, h4, h5, rfl, rfl⟩ | ⟨-, -, h2, h3, h4, h5, rfl, rfl⟩ | ⟨rfl, rfl, rfl, rfl⟩ | ⟨a, r, rfl, rfl, ha, rfl, rfl⟩ | ⟨a, rfl, rfl, rfl⟩
        · rw [if_neg (by rw [h2]; decide), if_neg h3, if_neg h4, if_neg h5]; exact hn
        · rw [if_pos h2]; dsimp only; omega
        · rw [if_neg (by decide), if_pos rfl]; exact hn
        · rw [if_neg (by decide), if_neg (by decide), if_pos rfl]; exact hn
        · rw [if_neg (by decide), if_neg (by decide), if_neg (by decide), if_pos rfl]; exact hn
theorem countP_s {t : Tx} {j : Nat} (h : j < t.length) (p : Int32 → Bool) : (t.take (j + 1)).countP p = (t.take j).countP p + if p (t.getD j 0) = true then 1 else 0 := by
  rw [take_s h, List.countP_append, List.countP_singleton]
set_option maxHeartbeats 2000000 in
/-- the class reads the buffer -/
theorem F4_readText_eq {b : BS} {t : Tx} (hl : t.length ≤ 60) (hb : hold (b.1 51) t) : ∃ b', F4_readText b 51 (nI t.length) = some b' ∧ SmB b b' ∧
    RdS b' t.length (fst_err t) (erx t ([], false)).2.1 (hls (t.take (fst_err t))) (cls (t.take (fst_err t))) (msts (t.take (fst_err t)) ([], 0, 0)).2.1 (msts (t.take (fst_err t)) ([], 0, 0)).2.2 (sml (t.take (fst_err t))) (cld (t.take (fst_err t))) := by
  have hE := erx_le t ([], false)
  obtain ⟨b0, hb0⟩ : ∃ q, q = setI (setI (setI (setI (setI (setI (setI (setI (setI b 52 2 (nI t.length)) 52 3 0) 52 1 0) 52 4 0) 52 5 0) 52 6 0) 52 7 0) 52 8 0) 52 9 0 := ⟨_, rfl⟩
  have s0 : SmB b b0 := by
    rw [hb0]
    exact ((((((((SmB.up (by decide)).tr (SmB.up (by decide))).tr (SmB.up (by decide))).tr (SmB.up (by decide))).tr (SmB.up (by decide))).tr (SmB.up (by decide))).tr (SmB.up (by decide))).tr (SmB.up (by decide))).tr (SmB.up (by decide))
  have r0 : RdS b0 t.length 0 [] 0 0 0 0 0 0 := by
    rw [hb0]
    refine ⟨?_, ?_, ?_, ?_, ?_, ?_, ?_, ?_, ?_, trivial⟩ <;> simp [setI_52] <;> rfl
  unfold F4_readText
  have hst : F4_startOver b (nI t.length) = some b0 := by rw [hb0]; rfl
  have key := Loop_inv (f := fun (q : Int32 × Int32 × BS) => (fun (x8 : Int32) (x9 : Int32) (b10 : BS) =>
  jp (fun (_ : Unit) => some (.inr b10)) fun k15 =>
  if (nI t.length) ≤ x9 then
  k15 ()
  else
  ck (okB b10.2.2 51 20) <|
  if (nI (lnB b10.2.2 51)) ≤ x9 then
  k15 ()
  else
  rd (b10.1 51) (lnB b10.2.2 51) x9 fun x25 =>
  bn2 (F4_accepts b10 x25 x8) fun b30 x29 =>
  if ¬ x29 = 0 then
  ck (okB b30.2.2 51 20) <|
  rd (b30.1 51) (lnB b30.2.2 51) x9 fun x36 =>
  bd (setI b30 52 3 (x9 + 1)) fun b40 =>
  bd (x9 + 1) fun x43 =>
  some (.inl (x36, x43, b40))
  else
  some (.inr b30)) q.1 q.2.1 q.2.2)
    (fun j q => j ≤ fst_err t ∧ q.2.1 = nI j ∧ SmB b q.2.2 ∧ ∃ s hd mo ne, scn (t.take j) ([], false) = some (s, hd) ∧ hd = inB q.1 65 90 ∧ msts (t.take j) ([], 0, 0) = (s, mo, ne) ∧ RdS q.2.2 t.length j s (hls (t.take j)) (cls (t.take j)) mo ne (sml (t.take j)) (cld (t.take j))) (fst_err t)
    (fun b' => SmB b b' ∧ RdS b' t.length (fst_err t) (erx t ([], false)).2.1 (hls (t.take (fst_err t))) (cls (t.take (fst_err t))) (msts (t.take (fst_err t)) ([], 0, 0)).2.1 (msts (t.take (fst_err t)) ([], 0, 0)).2.2 (sml (t.take (fst_err t))) (cld (t.take (fst_err t)))) ?_ ?_ ((0 : Int32), (0 : Int32), b0) ?_
  · obtain ⟨bq, hq1, hq2⟩ := key
    exact ⟨bq, bn_go hst hq1, hq2⟩
  · rintro j ⟨x8, x9, b1⟩ hj ⟨hle, q2, hsm, s, hd, mo, ne, e1, e2, e3, hR⟩
    dsimp only at q2 hsm e2 hR
    subst q2
    have hjl : j < t.length := Nat.lt_of_lt_of_le hj hE
    obtain ⟨s2, e4, e5⟩ := erx_go t ([], false) hj e1
    obtain ⟨s', hd'⟩ := s2
    have hlen : s.length ≤ 30 := by have q := scn_len e1; rw [List.length_take] at q; simp at q; omega
    have hbd := msts_bd e1 e3 (by simp) (by decide) 100 (by rw [List.length_take]; simp; omega) (by decide)
    have hv : b1.1 51 j = t.getD j 0 := by rw [hsm.2 51 (by decide)]; exact hb j hjl
    obtain ⟨b2, a1, a2, a3⟩ := accepts_ok hR e2 e4 hlen hbd.1 hbd.2
    have hv2 : b2.1 51 j = t.getD j 0 := by rw [a2.2 51 (by decide)]; exact hv
    refine ⟨(t.getD j 0, nI (j + 1), setI b2 52 3 (nI (j + 1))), ?_, hj, rfl, (hsm.tr a2).tr (SmB.up (by decide)), s', hd', (mst (t.getD j 0) (s, mo, ne)).2.1, (mst (t.getD j 0) (s, mo, ne)).2.2, e5, ?_, ?_, ?_⟩
    · refine jp_go (if_no (nI_ge hjl (by omega)) (ck_go (okL51 _) (if_no (nI_ge (b := 60) (by omega) (by decide)) (rd_go rfl (show j < 60 by omega) (by show 60 < _; decide) hv (bn2_go a1 (if_go (by decide) (ck_go (okL51 _) (rd_go rfl (show j < 60 by omega) (by show 60 < _; decide) hv2 (bd_go (bd_go ?_))))))))))
      rw [nI_1]
    · rcases stp_some e4 with ⟨h1, h2, -, -, -, -, rfl⟩ | ⟨-, -, h2, -, -, -, -, rfl⟩ | ⟨h2, -, -, rfl⟩ | ⟨a, r, h2, -, -, -, rfl⟩ | ⟨a, h2, -, rfl⟩
      · exact h2.symm
      · exact h2.symm
      · dsimp only; rw [h2]; rfl
      · dsimp only; rw [h2]; rfl
      · dsimp only; rw [h2]; rfl
    · rw [msts_s hjl, e3]
      exact Prod.ext (mst_stp e4) rfl
    · dsimp only
      obtain ⟨g1, g2, g3, g4, g5, g6, g7, g8, g9, g10⟩ := a3
      refine ⟨?_, ?_, ?_, ?_, ?_, ?_, ?_, ?_, ?_, ?_⟩
      · rw [setI_52, if_neg (by decide)]; exact g1
      · rw [setI_52, if_neg (by decide)]; exact g2
      · rw [setI_52, if_pos rfl]
      · rw [setI_52, if_neg (by decide), g4]
        unfold hls
        rw [countP_s hjl]
        simp
      · rw [setI_52, if_neg (by decide), g5]
        unfold cls
        rw [countP_s hjl]
      · rw [setI_52, if_neg (by decide)]; exact g6
      · rw [setI_52, if_neg (by decide)]; exact g7
      · rw [setI_52, if_neg (by decide), g8]
        unfold sml
        rw [countP_s hjl]
      · rw [setI_52, if_neg (by decide), g9, cld_take hjl]
      · rw [setI_other _ (by decide)]; exact g10
  · rintro ⟨x8, x9, b1⟩ ⟨hle, q2, hsm, s, hd, mo, ne, e1, e2, e3, hR⟩
    dsimp only at q2 hsm e2 hR
    subst q2
    have e1' := erx_scn t ([], false)
    have es : (s, hd) = (erx t ([], false)).2 := Option.some.inj (e1.symm.trans e1')
    have hfin : RdS b1 t.length (fst_err t) (erx t ([], false)).2.1 (hls (t.take (fst_err t))) (cls (t.take (fst_err t))) (msts (t.take (fst_err t)) ([], 0, 0)).2.1 (msts (t.take (fst_err t)) ([], 0, 0)).2.2 (sml (t.take (fst_err t))) (cld (t.take (fst_err t))) := by
      rw [e3, ← es]; exact hR
    refine ⟨b1, ?_, hsm, hfin⟩
    have hlen : s.length ≤ 30 := by have q := scn_len e1; rw [List.length_take] at q; simp at q; omega
    rcases Nat.lt_or_ge (fst_err t) t.length with q | q
    · have hst := erx_stop t ([], false) q
      rw [← es] at hst
      have hv : b1.1 51 (fst_err t) = t.getD (fst_err t) 0 := by rw [hsm.2 51 (by decide)]; exact hb _ q
      have ha := accepts_no hR e2 hst hlen (scn_cnt e1 (by simp))
      exact jp_go (if_no (nI_ge q (by omega)) (ck_go (okL51 _) (if_no (nI_ge (b := 60) (by omega) (by decide)) (rd_go rfl (show fst_err t < 60 by omega) (by show 60 < _; decide) hv (bn2_go ha (if_no (by decide) rfl))))))
    · have : fst_err t = t.length := Nat.le_antisymm hE q
      rw [this]
      exact jp_go (if_go (nI_le (Nat.le_refl _) (by omega)) rfl)
  · exact ⟨Nat.zero_le _, rfl, s0, [], false, 0, 0, rfl, (by decide : false = inB 0 65 90), rfl, r0⟩
theorem F4_isComplete_eq {b : BS} {t : Tx} {s : List Nat} {ho ca mo ne sm : Nat} {cd : Int32} (hl : t.length ≤ 60) (h : RdS b t.length (fst_err t) s ho ca mo ne sm cd) (hs : s.length ≤ 30) : F4_isComplete b = some (bI (decide (fst_err t = t.length) && decide (s = []))) := by
  have hE : fst_err t ≤ t.length := erx_le t ([], false)
  unfold F4_isComplete
  refine jp_go (jp_go ?_)
  rw [h.1, h.2.1, h.2.2.1]
  by_cases q : fst_err t = t.length
  · rw [q, decide_eq_true rfl]
    refine if_no (fun q => q rfl) ?_
    cases s with
    | nil => exact if_no (fun q => q rfl) bz1
    | cons a r =>
      rw [List.length_cons] at hs ⊢
      exact if_go (nI_neq (b := 0) (by omega) (by decide) (by omega)) bz0
  · rw [decide_eq_false q]
    exact if_go (nI_neq (by omega) (by omega) q) bz0
theorem erx_stk {t : Tx} (hl : t.length ≤ 60) : (erx t ([], false)).2.1.length ≤ 30 := by
  have q := scn_len (s' := (erx t ([], false)).2.1) (h' := (erx t ([], false)).2.2) (erx_scn t ([], false))
  rw [List.length_take, if_neg Bool.false_ne_true, List.length_nil] at q
  omega
