/-! PURE: the class finishes a call: ending, body, all -/
theorem tb_not {x : Int32} {k : Nat} (hk : k < 26) : tb (x ^^^ (-1)) k = !tb x k := by
  unfold tb
  rw [Int32.toBitVec_xor, BitVec.getLsbD_xor]
  have : (-1 : Int32).toBitVec.getLsbD k = true := by
    have : ∀ k, k < 26 → (-1 : Int32).toBitVec.getLsbD k = true := by decide
    exact this k hk
  rw [this, Bool.xor_true]
theorem SBb.sx {b b' : BS} {a : AS} (h : Sx b b') (g : SBb b 70 a) : SBb b' 70 a := g.sm h.sm.two
theorem endingOf_eq {b : BS} {a : AS} {G : Gl} {O : List Nat} {L k : Nat} (hS : SBb b 70 a) (hL : a.2.2.1 = nI L) (hL12 : L ≤ 12) (hC : CG b G O) (hO : O.length ≤ 12) (hk : k < 26) : F1_endingOf b 70 (nI k) (nI O.length) = some (nI (edg a.1 L O k)) := by
  have dk := hS.2.1 k hk
  have hmask := hC.2.2.2.1 k hk
  have e2 : b.1 70 2 = nI L := by rw [hS.2.2.2.1, hL]
  unfold F1_endingOf edg
  refine ck_go hS.1 <| bn_go (F5_definitionOf_eq hS.1 hk) ?_
  cases e : a.1 k with
  | none => rw [e] at dk; exact on_no dk rfl
  | some t =>
    rw [e] at dk
    obtain ⟨x, x1, x2⟩ := dk
    refine on_so x1 ?_
    dsimp only
    by_cases c : k ∈ O
    · rw [if_pos c]
      rw [decide_eq_true c] at hmask
      exact if_no (fun q => by rw [(tb_cls hk).mp q] at hmask; cases hmask) rfl
    · rw [if_neg c]
      rw [decide_eq_false c] at hmask
      refine if_go ((tb_cls hk).mpr hmask) <| jp_go ?_
      by_cases d : L ≤ O.length
      · rw [if_pos d]
        exact if_no (by rw [e2]; exact nI_nlt d (by omega)) rfl
      · rw [if_neg d]
        exact if_go (by rw [e2]; exact nI_lt (by omega) (by omega)) rfl
/-- where the holes are filled from -/
def FillOK (b : BS) (kp : Bool) (O : List Nat) (fill : Nat → Tx) (p4 p5 : Int32) (Mb base : Nat) : Prop :=
  (O = [] ∧ fill = fun _ => [63]) ∨ (O ≠ [] ∧ ∃ (as : List Tx) (m s : Nat), fill = (fun i => as.getD i []) ∧ p5 = nI as.length ∧ p4 = nI m ∧ m + as.length = Mb ∧ as.length ≤ 60 ∧ s + fl as = base ∧ fl as ≤ 1200 ∧ (∀ i, i ≤ as.length → b.1 59 (m + i) = nI (s + fl (as.take i))) ∧ (kp = true → hold (fun i => b.1 58 (s + i)) as.flatten))
def WT (a : AS) (L : Nat) (kp : Bool) (n : Nat) : Prop :=
  ∀ (O : List Nat) (fill : Nat → Tx) (u : Tx) (b : BS) (p1 : Nat) (p4 p5 : Int32) (Mb base Wn : Nat) (G : Gl),
    SBb b 70 a → O.length + n = 14 → O.length ≤ 12 → Cpl u → u.length ≤ 60 →
    (okB b.2.2 p1 20 = true ∧ u.length ≤ lnB b.2.2 p1 ∧ lnB b.2.2 p1 ≤ 60 ∧ hold (b.1 p1) u ∧ (p1 < 57 ∨ 62 < p1)) →
    FillOK b kp O fill p4 p5 Mb base → CS b kp Mb base [[]] Wn G O → G.2.2.2 = false →
    Mb ≤ 61 * O.length → base ≤ 1260 * O.length + 200 * G.1 → Wn ≤ 60 * O.length →
    ∃ b', F1_wt n b 70 p1 (nI u.length) (nI O.length) p4 p5 = some b' ∧ Sx b b' ∧
      (if (evF a.1 L n O fill u G).2.2.2.2 = true then b'.1 57 13 = 1 else CS b' kp Mb base [(evF a.1 L n O fill u G).1] Wn (evF a.1 L n O fill u G).2 O ∧ Lo b b' Wn (Mb + 1) base ∧ base + (evF a.1 L n O fill u G).1.length ≤ 1260 * (O.length + 1) + 200 * (evF a.1 L n O fill u G).2.1)
theorem edg_0 {D : Nat → Option Tx} {L : Nat} {O : List Nat} {k : Nat} (h : edg D L O k = 0) : (∃ t, D k = some t) ∧ ¬ k ∈ O ∧ O.length < L := by
  unfold edg at h
  cases e : D k with
  | none => rw [e] at h; cases h
  | some t =>
    rw [e] at h
    dsimp only at h
    by_cases c : k ∈ O
    · rw [if_pos c] at h; cases h
    · rw [if_neg c] at h
      by_cases d : L ≤ O.length
      · rw [if_pos d] at h; cases h
      · exact ⟨⟨t, rfl⟩, c, by omega⟩
set_option maxHeartbeats 1000000 in
theorem writeBody_ok {a : AS} {L : Nat} {kp : Bool} {n : Nat} (hWT : WT a L kp n) {b : BS} {O : List Nat} {k : Nat} {R as : List Tx} {Mb base Wn : Nat} {G : Gl} (hS : SBb b 70 a) (hW : WA a) (hL12 : L ≤ 12) (hOn : O.length + n = 13) (hk : k < 26) (he : edg a.1 L O k = 0) (h : CS b kp Mb base (R ++ as ++ [[]]) Wn G O) (hbad : G.2.2.2 = false) (bM : Mb + (R.length + as.length) ≤ 61 * (O.length + 1)) (bT : base + fl (R ++ as) ≤ 1260 * (O.length + 1) + 200 * G.1) (bW : Wn ≤ 60 * (O.length + 1)) (has : as.length ≤ 60) (hal : fl as ≤ 1200) :
    ∃ b', F1_writeBody (F1_wt n) b 70 (nI k) (nI O.length + 1) (nI (Mb + R.length)) (nI as.length) = some b' ∧ Sx b b' ∧
      (if (resF (evF a.1 L n) a.1 L O k as G).2.2.2.2 = true then b'.1 57 13 = 1 else CS b' kp Mb base (R ++ as ++ [(resF (evF a.1 L n) a.1 L O k as G).1]) Wn (resF (evF a.1 L n) a.1 L O k as G).2 O ∧ Lo b b' Wn (Mb + (R.length + as.length) + 1) (base + fl (R ++ as)) ∧ base + fl (R ++ as) + (resF (evF a.1 L n) a.1 L O k as G).1.length ≤ 1260 * (O.length + 2) + 200 * (resF (evF a.1 L n) a.1 L O k as G).2.1) := by
  obtain ⟨⟨t, et⟩, hkO, hOL⟩ := edg_0 he
  have hres : resF (evF a.1 L n) a.1 L O k as G = evF a.1 L n (k :: O) (fun i => as.getD i []) t (bodyG G O) := by
    unfold resF; rw [if_pos he, et]; rfl
  rw [hres]
  have dk := hS.2.1 k hk
  rw [et] at dk
  obtain ⟨x, x1, x2⟩ := dk
  have hx100 : 100 ≤ x := (kd6 (okB_2 x2.1)).1
  obtain ⟨h1, h2, h3, h4, h5, h6, h7, h8⟩ := id h
  obtain ⟨c1, c2, c3, c4, c5, c6, c7, c8, c9⟩ := id h8
  have lP : (R ++ as ++ [[]]).length = R.length + as.length + 1 := by rw [List.length_append, List.length_append]; rfl
  have fP : fl (R ++ as ++ [[]]) = fl (R ++ as) := by rw [fl_app, fl_one]; rfl
  unfold F1_writeBody
  rw [nI_1]
  by_cases hE : G.1 < 60
  · obtain ⟨b1, hb1⟩ : ∃ q, q = setI (setI (setI b 57 9 (nI (G.1 + 1))) 57 10 (nI (max G.2.1 (O.length + 1)))) 57 11 (b.1 57 11 ||| ((1 : Int32) <<< (nI k &&& 31))) := ⟨_, rfl⟩
    have r1 : ∀ u, u ≠ 57 → b1.1 u = b.1 u := fun u hu => by rw [hb1, setI_other _ hu, setI_other _ hu, setI_other _ hu]
    have k1 : ∀ j, j ≠ 9 → j ≠ 10 → j ≠ 11 → b1.1 57 j = b.1 57 j := fun j q1 q2 q3 => by rw [hb1, setI_ne _ (by omega), setI_ne _ (by omega), setI_ne _ (by omega)]
    have s1 : Sx b b1 := ⟨by rw [hb1]; rfl, fun j hj => r1 j (by omega)⟩
    have CG1 : CG b1 (bodyG G O) (k :: O) := by
      refine ⟨?_, ?_, ?_, fun j hj => ?_, ?_, c6, c7, ?_, ?_⟩
      · rw [k1 8 (by decide) (by decide) (by decide)]; exact c1
      · rw [hb1, setI_ne _ (by omega), setI_ne _ (by omega), setI_at]; rfl
      · rw [hb1, setI_ne _ (by omega), setI_at]; rfl
      · rw [hb1, setI_at, tb_or, c4 j hj]
        show (decide (j ∈ O) || tb (one k) j) = _
        rw [tb_one hk]
        rw [Bool.eq_iff_iff, Bool.or_eq_true, decide_eq_true_iff, decide_eq_true_iff, decide_eq_true_iff, List.mem_cons]
        exact Or.comm
      · rw [r1 62 (by decide)]; exact c5
      · show G.1 + 1 ≤ 60
        omega
      · show max G.2.1 (O.length + 1) ≤ 13
        omega
    have CS1 : CS b1 kp (Mb + (R.length + as.length)) (base + fl (R ++ as)) [[]] Wn (bodyG G O) (k :: O) := by
      refine ⟨?_, ?_, ?_, ?_, ?_, fun i hi => ?_, fun q => hold_nil _, CG1⟩
      · rw [k1 5 (by decide) (by decide) (by decide), h1, fP]; rfl
      · rw [k1 6 (by decide) (by decide) (by decide), h2, lP]; rfl
      · rw [k1 7 (by decide) (by decide) (by decide)]; exact h3
      · rw [k1 12 (by decide) (by decide) (by decide)]; exact h4
      · rw [k1 13 (by decide) (by decide) (by decide)]; exact h5
      · have i0 : i = 0 := by
          have : ([[]] : List Tx).length = 1 := rfl
          omega
        subst i0
        have q := h6 (R.length + as.length) (by omega)
        have e : (R ++ as ++ [[]]).take (R.length + as.length) = R ++ as := by
          rw [← List.length_append]; exact List.take_left
        rw [e] at q
        rw [r1 59 (by decide)]; exact q
    have FO : FillOK b1 kp (k :: O) (fun i => as.getD i []) (nI (Mb + R.length)) (nI as.length) (Mb + (R.length + as.length)) (base + fl (R ++ as)) := by
      refine Or.inr ⟨by simp, as, Mb + R.length, base + fl R, rfl, rfl, rfl, by omega, has, by rw [fl_app]; omega, hal, fun i hi => ?_, fun q => ?_⟩
      · have q := h6 (R.length + i) (by omega)
        have e : (R ++ as ++ [[]]).take (R.length + i) = R ++ as.take i := by
          rw [List.append_assoc, List.take_append]
          rw [List.take_of_length_le (by omega), Nat.add_sub_cancel_left, List.take_append_of_le_length hi]
        rw [e, fl_app] at q
        rw [r1 59 (by decide), Nat.add_assoc, q, Nat.add_assoc]
      · have q1 := h7 q
        have fe : (R ++ as ++ [[]]).flatten = R.flatten ++ as.flatten := by simp
        rw [fe, hold_app] at q1
        rw [r1 58 (by decide)]
        refine hold_congr (fun j hj => ?_) q1.2
        show b.1 58 (base + fl R + j) = b.1 58 (base + (R.flatten.length + j))
        rw [← Nat.add_assoc]; rfl
    have ht := hW.1 k t et
    have ln1 : lnB b1.2.2 (x + 1) = t.length := by rw [s1.1, lnB_dyn (by omega), x2.2.1]
    obtain ⟨b2, e2, s2, g2⟩ := hWT (k :: O) (fun i => as.getD i []) t b1 (x + 1) (nI (Mb + R.length)) (nI as.length) (Mb + (R.length + as.length)) (base + fl (R ++ as)) Wn (bodyG G O) (hS.sx s1) (by rw [List.length_cons]; omega) (by rw [List.length_cons]; omega) ht.1 ht.2 ⟨by rw [s1.1]; exact ok6_arr x2.1, by rw [ln1]; exact Nat.le_refl _, by rw [ln1]; exact ht.2, by rw [r1 _ (by omega)]; exact x2.2.2.1, by omega⟩ FO CS1 (by show (G.2.2.2 || decide (60 ≤ G.1)) = false; rw [hbad, decide_eq_false (by omega)]; rfl) (by rw [List.length_cons]; exact bM) (by rw [List.length_cons]; show _ ≤ 1260 * (O.length + 1) + 200 * (G.1 + 1); omega) (by rw [List.length_cons]; exact bW)
    refine ⟨setI b2 57 11 (b2.1 57 11 &&& (one k ^^^ (-1))), ?_, (s1.tr s2).tr (Sx.up _ (by decide)), ?_⟩
    · refine ck_go hS.1 <| bn_go (F5_definitionOf_eq hS.1 hk) <| jp_go <| on_so x1 <| if_no (nI_nlt (a := 12) (by omega) (by omega)) <| if_go (by rw [c2]; exact nI_lt (b := 60) hE (by decide)) <| bd_go <| bd_go <| bd_go ?_
      have q9 : b.1 57 9 + 1 = nI (G.1 + 1) := by rw [c2, nI_1]
      have q10 : (setI b 57 9 (nI (G.1 + 1))).1 57 10 = nI G.2.1 := by rw [setI_ne _ (by omega), c3]
      have q11 : ∀ v, (setI (setI b 57 9 (nI (G.1 + 1))) 57 10 v).1 57 11 = b.1 57 11 := fun v => by rw [setI_ne _ (by omega), setI_ne _ (by omega)]
      rw [q9, q10, nI_maxl (by omega) (by omega), q11]
      rw [← hb1]
      refine ck_go (by rw [s1.1]; exact x2.1) ?_
      rw [ln1]
      exact bn_go e2 <| bd_go rfl
    · split at g2
      · rename_i q
        rw [if_pos q, setI_ne _ (by omega)]; exact g2
      · rename_i q
        rw [if_neg q]
        obtain ⟨⟨d1, d2, d3, d4, d5, d6, d7, d8⟩, l1, l2⟩ := g2
        refine ⟨⟨?_, ?_, ?_, ?_, ?_, fun i hi => ?_, fun w => ?_, ?_⟩, ?_, ?_⟩
        · have fw : ∀ w, fl (R ++ as ++ [w]) = fl (R ++ as) + fl [w] := fun w => fl_app _ _
          rw [setI_ne _ (by omega), d1, fw, Nat.add_assoc]
        · rw [setI_ne _ (by omega), d2, List.length_append, List.length_append]; congr 1
        · rw [setI_ne _ (by omega)]; exact d3
        · rw [setI_ne _ (by omega)]; exact d4
        · rw [setI_ne _ (by omega)]; exact d5
        · rw [setI_other _ (by decide)]
          rw [List.length_append, List.length_append] at hi
          by_cases c : i < R.length + as.length
          · rw [l1.2.1 _ (by omega), r1 59 (by decide), h6 i (by omega)]
            have tk : ∀ w : Tx, (R ++ as ++ [w]).take i = (R ++ as).take i := fun w => List.take_append_of_le_length (by rw [List.length_append]; omega)
            rw [tk, tk]
          · have hi1 : i = R.length + as.length := by
              have : ∀ w : Tx, ([w] : List Tx).length = 1 := fun _ => rfl
              rw [this] at hi; omega
            subst hi1
            have q0 := d6 0 (by show 0 < 1; decide)
            have tk : ∀ w : Tx, (R ++ as ++ [w]).take (R.length + as.length) = R ++ as := fun w => by rw [← List.length_append]; exact List.take_left
            rw [tk]
            exact q0
        · rw [setI_other _ (by decide)]
          have q1 := d7 w
          have fv : ∀ v : Tx, (R ++ as ++ [v]).flatten = (R ++ as).flatten ++ v := fun v => by simp
          rw [fv, hold_app]
          refine ⟨?_, ?_⟩
          · have q2 := h7 w
            have fe : (R ++ as ++ [[]]).flatten = (R ++ as).flatten := by simp
            rw [fe] at q2
            refine hold_congr (fun j hj => ?_) q2
            rw [l1.2.2 _ (by unfold fl; omega), r1 58 (by decide)]
          · have fo : ∀ v : Tx, [v].flatten = v := fun v => by simp
            rw [fo] at q1
            refine hold_congr (fun j hj => ?_) q1
            show b2.1 58 (base + ((R ++ as).flatten.length + j)) = b2.1 58 (base + fl (R ++ as) + j)
            rw [← Nat.add_assoc]; rfl
        · obtain ⟨y1, y2, y3, y4, y5, y6⟩ := d8
          refine ⟨?_, ?_, ?_, fun j hj => ?_, ?_, y6⟩
          · rw [setI_ne _ (by omega)]; exact y1
          · rw [setI_ne _ (by omega)]; exact y2
          · rw [setI_ne _ (by omega)]; exact y3
          · rw [setI_at, tb_and, tb_not hj, y4 j hj, tb_one hk]
            by_cases c : j = k
            · subst c
              rw [decide_eq_true rfl, decide_eq_false hkO]; exact Bool.and_false _
            · rw [decide_eq_false c, Bool.not_false, Bool.and_true]
              by_cases d : j ∈ O
              · rw [decide_eq_true d, decide_eq_true (List.mem_cons_of_mem _ d)]
              · rw [decide_eq_false d, decide_eq_false]
                intro q; rcases List.mem_cons.mp q with q | q
                · exact c q
                · exact d q
          · rw [setI_other _ (by decide)]; exact y5
        · refine ⟨fun i hi => ?_, fun i hi => ?_, fun i hi => ?_⟩
          · rw [setI_other _ (by decide), setI_other _ (by decide), (l1.1 i hi).1, (l1.1 i hi).2, r1 60 (by decide), r1 61 (by decide)]; exact ⟨rfl, rfl⟩
          · rw [setI_other _ (by decide), l1.2.1 i hi, r1 59 (by decide)]
          · rw [setI_other _ (by decide), l1.2.2 i hi, r1 58 (by decide)]
        · rw [List.length_cons] at l2; exact l2
  · have hb : (evF a.1 L n (k :: O) (fun i => as.getD i []) t (bodyG G O)).2.2.2.2 = true := evF_bad a.1 L n _ _ _ _ (by show (G.2.2.2 || decide (60 ≤ G.1)) = true; rw [hbad, decide_eq_true (by omega)]; rfl)
    refine ⟨setI b 57 13 1, ?_, Sx.up b (by decide), ?_⟩
    · exact ck_go hS.1 <| bn_go (F5_definitionOf_eq hS.1 hk) <| jp_go <| on_so x1 <| if_no (nI_nlt (a := 12) (by omega) (by omega)) <| if_no (by rw [c2]; exact nI_nlt (b := 60) (by omega) (by omega)) <| bz_go (Or.inr rfl) <| bd_go rfl
    · rw [if_pos hb]; exact setI_at _ _ _ _
/-- more and more are expanded -/
def Mon (rec : List Nat → (Nat → Tx) → Tx → Gl → Tx × Gl) : Prop := ∀ O fill u G, G.1 ≤ (rec O fill u G).2.1
theorem resF_mon {rec : List Nat → (Nat → Tx) → Tx → Gl → Tx × Gl} (hr : Mon rec) {D : Nat → Option Tx} {L : Nat} {O : List Nat} {k : Nat} {as : List Tx} {G : Gl} : (edg D L O k = 0 ∧ G.1 + 1 ≤ (resF rec D L O k as G).2.1) ∨ (edg D L O k ≠ 0 ∧ (resF rec D L O k as G) = ([sgn (edg D L O k)], G)) := by
  unfold resF
  by_cases c : edg D L O k = 0
  · rw [if_pos c]
    exact Or.inl ⟨c, hr _ _ _ (bodyG G O)⟩
  · rw [if_neg c]; exact Or.inr ⟨c, rfl⟩
theorem callF_mon {rec : List Nat → (Nat → Tx) → Tx → Gl → Tx × Gl} (hr : Mon rec) {D : Nat → Option Tx} {L : Nat} {O : List Nat} {k : Nat} {as : List Tx} {own : Tx} {G : Gl} : G.1 ≤ (callF rec D L O k as own G).2.1 := by
  show G.1 ≤ (resF rec D L O k as G).2.1
  rcases resF_mon hr (D := D) (L := L) (O := O) (k := k) (as := as) (G := G) with ⟨-, h⟩ | ⟨-, h⟩
  · omega
  · rw [h]; exact Nat.le_refl _
theorem oneF_mon {call : Nat → List Tx → Tx → Gl → Tx × Gl} (hc : ∀ k as own G, G.1 ≤ (call k as own G).2.1) {fill : Nat → Tx} {c : Int32} {s : Lc × Gl} : s.2.1 ≤ (oneF call fill c s).2.1 := by
  unfold oneF
  by_cases h1 : c = 63
  · rw [if_pos h1]; exact Nat.le_refl _
  · rw [if_neg h1]
    by_cases h2 : inB c 65 90 = true
    · rw [if_pos h2]; exact hc _ _ _ _
    · rw [if_neg h2]
      by_cases h3 : c = 44
      · rw [if_pos h3]
        cases s.1.2.1 with
        | nil => exact Nat.le_refl _
        | cons f r => exact Nat.le_refl _
      · rw [if_neg h3]
        by_cases h4 : c = 41
        · rw [if_pos h4]
          cases s.1.2.1 with
          | nil => exact Nat.le_refl _
          | cons f r => exact hc _ _ _ _
        · rw [if_neg h4]; exact Nat.le_refl _
theorem runF_mon {call : Nat → List Tx → Tx → Gl → Tx × Gl} (hc : ∀ k as own G, G.1 ≤ (call k as own G).2.1) {fill : Nat → Tx} (n : Nat) (u : Tx) (hn : u.length ≤ n) (s : Lc × Gl) : s.2.1 ≤ (runF call fill u s).2.1 := by
  induction n generalizing u s with
  | zero =>
    cases u with
    | nil => exact Nat.le_refl _
    | cons c r => rw [List.length_cons] at hn; omega
  | succ n ih =>
    cases u with
    | nil => exact Nat.le_refl _
    | cons c r =>
      rw [List.length_cons] at hn
      by_cases q : inB c 65 90 = true ∧ r.head? = some 40
      · cases r with
        | nil => cases q.2
        | cons e r =>
          obtain ⟨q1, q2⟩ := q
          cases q2
          rw [List.length_cons] at hn
          rw [runF_psh q1]
          exact ih r (by omega) (pshF c s)
      · rw [runF_one q]
        exact Nat.le_trans (oneF_mon hc) (ih r (by omega) _)
theorem evF_mon (D : Nat → Option Tx) (L : Nat) (f : Nat) : Mon (evF D L f) := by
  induction f with
  | zero => exact fun _ _ _ _ => Nat.le_refl _
  | succ f ih =>
    intro O fill u G
    exact runF_mon (fun k as own G => callF_mon ih) u.length u (Nat.le_refl _) (([], [], 0), G)
theorem letWait_eq {b : BS} {Wn : Nat} (h3 : b.1 57 7 = nI Wn) (hW : Wn < 780) {M : Nat} (h2 : b.1 57 6 = nI M) (x : Int32) : F1_letCallWait b x = some (setI (setI (setI b 60 Wn x) 61 Wn (nI M)) 57 7 (nI (Wn + 1))) := by
  unfold F1_letCallWait
  refine jp_go <| if_no (by rw [h3]; exact nI_pos (by omega)) <| if_go (by rw [h3]; exact nI_lt hW (by decide)) <| wb_go h3 hW (by decide) <| wb_go (k := Wn) (by rw [setI_other _ (by decide)]; exact h3) hW (by decide) <| bd_go ?_
  rw [setI_other _ (by decide), h2, setI_other _ (by decide), setI_other _ (by decide), h3, nI_1]
theorem markAt_eq {b : BS} {m : Nat} (hm : m < 854) : F1_markAt b (nI m) = some (b.1 59 m) := by
  unfold F1_markAt
  exact jp_go <| jp_go <| if_no (nI_pos (by omega)) <| if_no (nI_ge (b := 854) hm (by decide)) <| rd_go rfl hm (by decide) rfl rfl
theorem signOf_eq (e : Nat) (h : e = 1 ∨ e = 2 ∨ e = 3) : F1_signOf (nI e) = some (sgn e) := by
  rcases h with rfl | rfl | rfl <;> rfl
theorem edg_3 (D : Nat → Option Tx) (L : Nat) (O : List Nat) (k : Nat) (h : edg D L O k ≠ 0) : edg D L O k = 1 ∨ edg D L O k = 2 ∨ edg D L O k = 3 := by
  unfold edg at h ⊢
  cases e : D k with
  | none => exact Or.inl rfl
  | some t =>
    rw [e] at h
    dsimp only at h ⊢
    by_cases c : k ∈ O
    · rw [if_pos c]; exact Or.inr (Or.inl rfl)
    · rw [if_neg c] at h ⊢
      by_cases d : L ≤ O.length
      · rw [if_pos d]; exact Or.inr (Or.inr rfl)
      · rw [if_neg d] at h; exact absurd rfl h
theorem fl_e (P : List Tx) : fl (P ++ [[]]) = fl P := by rw [fl_app, fl_one]; rfl
theorem ovr_1 (c : Int32) : ovr ([] ++ [c]) = false := rfl
set_option maxHeartbeats 1000000 in
theorem finish_ok {a : AS} {L : Nat} {kp : Bool} {n : Nat} (hWT : WT a L kp n) {b : BS} {O : List Nat} {k : Nat} {Q as : List Tx} {sv : Tx} {Mb base Wn : Nat} {G : Gl} (hS : SBb b 70 a) (hW : WA a) (hL : a.2.2.1 = nI L) (hL12 : L ≤ 12) (hOn : O.length + n = 13) (hO : O.length ≤ 12) (hk : k < 26) (h : CS b kp Mb base (Q ++ [sv] ++ as) (Wn + 1) G O) (h60 : b.1 60 Wn = nI k) (h61 : b.1 61 Wn = nI (Mb + Q.length + 1)) (hbad : G.2.2.2 = false) (bM : Mb + (Q.length + 1 + as.length) ≤ 61 * (O.length + 1)) (bT : base + fl (Q ++ [sv] ++ as) + 1 ≤ 1260 * (O.length + 1) + 200 * G.1) (bW : Wn ≤ 60 * O.length + 59) (has : as.length ≤ 60) (hal : fl as ≤ 1200) :
    ∃ b', F1_finishCall (F1_wt n) b 70 (nI O.length) = some b' ∧ Sx b b' ∧
      (if (callF (evF a.1 L n) a.1 L O k as sv G).2.2.2.2 = true then b'.1 57 13 = 1 else CS b' kp Mb base (Q ++ [(callF (evF a.1 L n) a.1 L O k as sv G).1]) Wn (callF (evF a.1 L n) a.1 L O k as sv G).2 O ∧ Lo b b' Wn (Mb + Q.length + 1) (base + fl (Q ++ [sv]))) := by
  obtain ⟨h1, h2, h3, h4, h5, h6, h7, h8⟩ := id h
  have hE : G.1 ≤ 60 := h8.2.2.2.2.2.2.2.1
  have lQ : (Q ++ [sv] ++ as).length = Q.length + 1 + as.length := by rw [List.length_append, List.length_append]; rfl
  have lR : (Q ++ [sv]).length = Q.length + 1 := by rw [List.length_append]; rfl
  have fQ : fl (Q ++ [sv] ++ as) = fl (Q ++ [sv]) + fl as := fl_app _ _
  obtain ⟨b1, hb1⟩ : ∃ q, q = setI b 57 7 (nI Wn) := ⟨_, rfl⟩
  have s1 : Sx b b1 := by rw [hb1]; exact Sx.up b (by decide)
  have r1 : ∀ u, u ≠ 57 → b1.1 u = b.1 u := fun u hu => by rw [hb1, setI_other _ hu]
  have k1 : ∀ j, j ≠ 7 → b1.1 57 j = b.1 57 j := fun j hj => by rw [hb1, setI_ne _ (by omega)]
  have C1 : CS b1 kp Mb base (Q ++ [sv] ++ as) Wn G O := by
    refine ⟨?_, ?_, ?_, ?_, ?_, fun i hi => ?_, fun q => ?_, h8.keep (r1 62 (by decide)) (fun k q1 q2 => k1 k (by omega))⟩
    · rw [k1 5 (by decide)]; exact h1
    · rw [k1 6 (by decide)]; exact h2
    · rw [hb1]; exact setI_at _ _ _ _
    · rw [k1 12 (by decide)]; exact h4
    · rw [k1 13 (by decide)]; exact h5
    · rw [r1 59 (by decide)]; exact h6 i hi
    · rw [r1 58 (by decide)]; exact h7 q
  obtain ⟨b2, e2, s2, C2, l2⟩ := setMark_eq C1 (by rw [lQ]; omega)
  have x27 : b1.1 57 6 - nI (Mb + Q.length + 1) = nI as.length := by rw [k1 6 (by decide), h2, lQ]; exact nI_add_sub (by omega)
  have x46 : b1.1 57 5 = nI (base + fl (Q ++ [sv] ++ as)) := by rw [k1 5 (by decide)]; exact h1
  have hEnd := endingOf_eq (hS.sx (s1.tr s2)) hL hL12 C2.2.2.2.2.2.2.2 hO hk
  have l02 : Lo b b2 10000 (Mb + (Q ++ [sv] ++ as).length) 100000 := by
    refine Lo.tr ?_ l2
    exact ⟨fun i _ => by rw [r1 60 (by decide), r1 61 (by decide)]; exact ⟨rfl, rfl⟩, fun i _ => by rw [r1 59 (by decide)], fun i _ => by rw [r1 58 (by decide)]⟩
  -- the rest behind the ending
  have rest : ∃ b', (jp (fun (b72 : BS) => tailF b72 (nI k) (nI (edg a.1 L O k)) (nI O.length) (nI as.length) (nI (Mb + Q.length + 1)) (nI (base + fl (Q ++ [sv]))) (nI (base + fl (Q ++ [sv] ++ as)))) fun k58 =>
      if ¬ nI (edg a.1 L O k) = 0 then
      bn (F1_signOf (nI (edg a.1 L O k))) fun x63 =>
      bn (F1_writeSign b2 x63) fun b68 =>
      k58 b68
      else
      bn (F1_writeBody (F1_wt n) b2 70 (nI k) (nI O.length + 1) (nI (Mb + Q.length + 1)) (nI as.length)) fun b71 =>
      k58 b71) = some b' ∧ Sx b b' ∧
      (if (callF (evF a.1 L n) a.1 L O k as sv G).2.2.2.2 = true then b'.1 57 13 = 1 else CS b' kp Mb base (Q ++ [(callF (evF a.1 L n) a.1 L O k as sv G).1]) Wn (callF (evF a.1 L n) a.1 L O k as sv G).2 O ∧ Lo b b' Wn (Mb + Q.length + 1) (base + fl (Q ++ [sv]))) := by
    by_cases c : edg a.1 L O k = 0
    · have ee : nI (edg a.1 L O k) = 0 := by rw [c]; rfl
      have hOL := (edg_0 c).2.2
      have wb := writeBody_ok hWT (R := Q ++ [sv]) (as := as) (hS.sx (s1.tr s2)) hW hL12 hOn hk c C2 hbad (by rw [lR]; exact bM) (by omega) (by omega) has hal
      rw [lR] at wb
      obtain ⟨b3, e3, s3, g3⟩ := wb
      by_cases hq : (resF (evF a.1 L n) a.1 L O k as G).2.2.2.2 = true
      · rw [if_pos hq] at g3
        obtain ⟨b4, e4, s4, g4⟩ := tail_any g3 (nI k) (nI (edg a.1 L O k)) (nI O.length) (nI as.length) (nI (Mb + Q.length + 1)) (s := base + fl (Q ++ [sv] ++ as)) (d := base + fl (Q ++ [sv])) (by omega) (by omega)
        refine ⟨b4, jp_go <| if_no (fun q => q ee) <| bn_go (by rw [← Nat.add_assoc] at e3; exact e3) e4, ((s1.tr s2).tr s3).tr s4, ?_⟩
        rw [if_pos (by rw [callF_bad, hq]; rfl)]; exact g4
      · rw [if_neg hq] at g3
        obtain ⟨C3, l3, t3⟩ := g3
        have hE3 := C3.2.2.2.2.2.2.2.2.2.2.2.2.2.2.1
        obtain ⟨b4, e4, s4, g4⟩ := tail_ok C3 (by omega) (by rw [fl_app, fl_one]; omega) k (edg a.1 L O k)
        refine ⟨b4, jp_go <| if_no (fun q => q ee) <| bn_go (by rw [← Nat.add_assoc] at e3; exact e3) e4, ((s1.tr s2).tr s3).tr s4, ?_⟩
        by_cases hv : ovr (sv ++ (resF (evF a.1 L n) a.1 L O k as G).1) = true
        · rw [if_pos hv] at g4
          rw [if_pos (by rw [callF_bad, hv, Bool.or_true])]; exact g4
        · rw [if_neg hv] at g4
          rw [if_neg (by rw [callF_bad, not_t hq, not_t hv]; decide)]
          refine ⟨g4.1, ?_⟩
          refine ((l02.le (by omega) (by rw [lQ]; omega) (by omega)).tr (l3.le (Nat.le_refl _) (by omega) (by omega))).tr (g4.2.le (by omega) (by omega) (by omega))
    · have ee : ¬ nI (edg a.1 L O k) = 0 := by
        rcases edg_3 a.1 L O k c with q | q | q <;> rw [q] <;> decide
      have hres : resF (evF a.1 L n) a.1 L O k as G = ([sgn (edg a.1 L O k)], G) := by unfold resF; rw [if_neg c]
      obtain ⟨b3, e3, s3, g3⟩ := writeSign_eq (sgn (edg a.1 L O k)) C2 (by rw [lQ]; omega) (by rw [fl_e]; omega)
      rw [if_neg (by rw [ovr_1]; decide)] at g3
      obtain ⟨C3, l3⟩ := g3
      obtain ⟨b4, e4, s4, g4⟩ := tail_ok C3 (by omega) (by rw [fl_app, fl_one]; show base + (fl (Q ++ [sv] ++ as) + 1) ≤ 28380; omega) k (edg a.1 L O k)
      refine ⟨b4, jp_go <| if_go ee <| bn_go (signOf_eq _ (edg_3 a.1 L O k c)) <| bn_go e3 e4, ((s1.tr s2).tr s3).tr s4, ?_⟩
      have hcb : (callF (evF a.1 L n) a.1 L O k as sv G).2.2.2.2 = ovr (sv ++ ([] ++ [sgn (edg a.1 L O k)])) := by
        rw [callF_bad, hres]; show (G.2.2.2 || _) = _; rw [hbad]; rfl
      rw [hcb]
      by_cases hv : ovr (sv ++ ([] ++ [sgn (edg a.1 L O k)])) = true
      · rw [if_pos hv] at g4 ⊢; exact g4
      · rw [if_neg hv] at g4 ⊢
        refine ⟨?_, ?_⟩
        · have q := g4.1
          unfold callF
          rw [hres]
          exact q
        · rw [fl_e] at l3
          refine ((l02.le (by omega) (by rw [lQ]; omega) (by omega)).tr (l3.le (by omega) (by omega) (by omega))).tr (g4.2.le (by omega) (by omega) (by omega))
  obtain ⟨b', e', r'⟩ := rest
  refine ⟨b', ?_, r'⟩
  unfold F1_finishCall
  have h7' : b.1 57 7 - 1 = nI Wn := by rw [h3, nI_pred]
  refine bd_go <| jp_go <| if_no (fun q => q h5) ?_
  rw [h7']
  refine if_no (nI_pos (by omega)) <| if_go (nI_lt (b := 780) (by omega) (by decide)) <| bd_go ?_
  rw [← hb1]
  refine rd_go (v := nI k) rfl (by omega) (by decide) (by rw [r1 60 (by decide)]; exact h60) <| rd_go (v := nI (Mb + Q.length + 1)) rfl (by omega) (by decide) (by rw [r1 61 (by decide)]; exact h61) <| bd_go ?_
  rw [x27]
  refine jp_go ?_
  have last : ∀ v, v = nI (base + fl (Q ++ [sv])) → (bd (b1.1 57 5) fun x46 =>
      bn (F1_setMark b1) fun b52 =>
      bn (F1_endingOf b52 70 (nI k) (nI O.length)) fun x55 =>
      jp (fun (b72 : BS) => tailF b72 (nI k) x55 (nI O.length) (nI as.length) (nI (Mb + Q.length + 1)) v x46) fun k58 =>
      if ¬ x55 = 0 then
      bn (F1_signOf x55) fun x63 =>
      bn (F1_writeSign b52 x63) fun b68 =>
      k58 b68
      else
      bn (F1_writeBody (F1_wt n) b52 70 (nI k) (nI O.length + 1) (nI (Mb + Q.length + 1)) (nI as.length)) fun b71 =>
      k58 b71) = some b' := by
    rintro v rfl
    rw [x46]
    exact bd_go <| bn_go e2 <| bn_go hEnd e'
  by_cases c : as.length = 0
  · refine if_go (by rw [c]; decide) (last _ ?_)
    have : as = [] := List.eq_nil_of_length_eq_zero c
    subst this
    rw [x46, List.append_nil]
  · refine if_no (nI_nle (by omega) (by omega)) <| bn_go (markAt_eq (by omega)) (last _ ?_)
    have q := C1.2.2.2.2.2.1 (Q.length + 1) (by rw [lQ]; omega)
    rw [Nat.add_assoc, q]
    have e : (Q ++ [sv] ++ as).take (Q.length + 1) = Q ++ [sv] := by rw [← lR]; exact List.take_left
    rw [e]
