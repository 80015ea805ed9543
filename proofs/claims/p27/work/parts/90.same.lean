/-! PURE: same answers true; the answers of the class as one function -/
/-- answers that are told of questions -/
noncomputable def EQ (P : BS → Prop) (m : Nat) (x y : Int32) : Option Int32 := @dite _ (∃ v, QH P m x y v) (Classical.propDecidable _) (fun h => some (Classical.choose h)) (fun _ => none)
theorem EQ_hE {P : BS → Prop} : ∀ m x y v, EQ P m x y = some v → QH P m x y v := by
  intro m x y v h
  unfold EQ at h
  by_cases c : ∃ v, QH P m x y v
  · rw [dif_pos c] at h
    have := Option.some.inj h
    rw [← this]; exact Classical.choose_spec c
  · rw [dif_neg c] at h; cases h
theorem EQ_of {P : BS → Prop} {m : Nat} {x y v : Int32} (hne : ∃ b, P b) (h : QH P m x y v) : EQ P m x y = some v := by
  obtain ⟨b, hb⟩ := hne
  have c : ∃ v, QH P m x y v := ⟨v, h⟩
  unfold EQ
  rw [dif_pos c]
  obtain ⟨b1, e1, -⟩ := h b hb
  obtain ⟨b2, e2, -⟩ := Classical.choose_spec c b hb
  exact congrArg some (congrArg Prod.snd (Option.some.inj (e1.symm.trans e2))).symm
theorem q_nx {x : Option (BS × (Nat ⊕ Int32))} {b' : BS} {v : Int32} (h : x = some (b', .inr v)) : nx x = some (b', v) := by rw [h]; rfl
section QS
variable {t : Tx} {a : AS} {p : List AS} {s : Nat → Option AS} {z : MS}
theorem Q_at {m : Nat} {x y v : Int32} (h : ∀ b, InvD t a p s z b → ∃ b', cq m b x y = some (b', v) ∧ SmB b b') : QH (fun b => InvD t a p s z b) m x y v := fun b hb => by
  obtain ⟨b', e, hs⟩ := h b hb
  exact ⟨b', e, InvD.sm (SmZ.rf z) hs hb⟩
theorem Q_result {x : Int32} (hx : inB x 0 7 = true) : QH (fun b => InvD t a p s z b) 0 x 0 (rsV a x) := Q_at fun b hb => ⟨b, q_nx (V_result hb.2.1 hb.2.2.2.1 hx), SmB.rf b⟩
theorem Q_sign {j : Nat} (hj : j < 2 ^ 31) : QH (fun b => InvD t a p s z b) 1 (nI j) 0 (if a.2.1.1.length ≤ j then -1 else a.2.1.1.getD j 0) := Q_at fun b hb => ⟨b, q_nx (V_sign hb.2.1 hb.2.2.2.1 hj), SmB.rf b⟩
theorem Q_trace {j w : Nat} (hj : j < 2 ^ 31) (hw : w ≤ 5) : QH (fun b => InvD t a p s z b) 2 (nI j) (nI w) (if a.2.1.2.1.length / 6 ≤ j then -1 else a.2.1.2.1.getD (6 * j + w) 0) := Q_at fun b hb => ⟨b, q_nx (V_trace hb.2.1 hb.2.2.2.1 hj hw), SmB.rf b⟩
def ctV (a : AS) (p : List AS) (k : Nat) : Int32 := match k with
  | 0 => nI (cnD a.1 26) | 1 => nI (mkN a.1 26) | 2 => a.2.2.1 | 3 => a.2.2.2.1 | 4 => a.2.2.2.2 | 5 => nI (smD cls a.1 26) | _ => nI p.length
theorem Q_count {k : Nat} (hk : k < 7) : QH (fun b => InvD t a p s z b) 3 (nI k) 0 (ctV a p k) := Q_at fun b hb => by
  have hS := hb.2.2.2.1
  refine ⟨b, q_nx ?_, SmB.rf b⟩
  rcases (show k = 0 ∨ k = 1 ∨ k = 2 ∨ k = 3 ∨ k = 4 ∨ k = 5 ∨ k = 6 by omega) with rfl | rfl | rfl | rfl | rfl | rfl | rfl
  · exact V_count0 hS
  · exact V_count1 hS
  · exact F7_count_go (x := 2) (by decide) _ <| if_no (by decide) <| if_no (by decide) <| if_go rfl (by rw [hS.2.2.2.1]; rfl)
  · exact F7_count_go (x := 3) (by decide) _ <| if_no (by decide) <| if_no (by decide) <| if_no (by decide) <| if_go rfl (by rw [hS.2.2.2.2.1]; rfl)
  · exact F7_count_go (x := 4) (by decide) _ <| if_no (by decide) <| if_no (by decide) <| if_no (by decide) <| if_no (by decide) <| if_go rfl (by rw [hS.2.2.2.2.2]; rfl)
  · exact V_count5 hS
  · exact F7_count_go (x := 6) (by decide) _ <| if_no (by decide) <| if_no (by decide) <| if_no (by decide) <| if_no (by decide) <| if_no (by decide) <| if_no (by decide) <| if_go rfl (by rw [hb.2.2.2.2.1.2.2.1]; rfl)
theorem Q_body {k : Nat} (hk : k < 26) {y : Int32} (hy : inB y 0 5 = true) : QH (fun b => InvD t a p s z b) 4 (nI k) y (bdV a k y) := Q_at fun b hb => ⟨b, q_nx (V_body hb.2.2.2.1 hk hy), SmB.rf b⟩
theorem Q_uses0 {k : Nat} (hk : k < 26) : QH (fun b => InvD t a p s z b) 5 (nI k) 0 (gs a.1 k) := Q_at fun b hb => by
  obtain ⟨b', e, h⟩ := V_uses0 hb.2.2.2.1 hk
  exact ⟨b', q_nx e, h⟩
theorem Q_uses1 {k : Nat} (hk : k < 26) : QH (fun b => InvD t a p s z b) 5 (nI k) 1 (gth (fun j => rB a.1 k j) 26) := Q_at fun b hb => by
  obtain ⟨b', e, h⟩ := V_uses1 hb.2.2.2.1 hk
  exact ⟨b', q_nx e, h⟩
theorem Q_uses2 {k : Nat} (hk : k < 26) : QH (fun b => InvD t a p s z b) 5 (nI k) 2 (gth (fun x => tb (gs a.1 x) k) 26) := Q_at fun b hb => by
  obtain ⟨b', e, h⟩ := V_uses2 hb.2.2.2.1 hk
  exact ⟨b', q_nx e, h⟩
theorem Q_uses3 {k : Nat} (hk : k < 26) : QH (fun b => InvD t a p s z b) 5 (nI k) 3 (gth (fun x => rB a.1 x k) 26) := Q_at fun b hb => by
  obtain ⟨b', e, h⟩ := V_uses3 hb.2.2.2.1 hk
  exact ⟨b', q_nx e, h⟩
theorem Q_length {L k len : Nat} (hL12 : L ≤ 12) (hL : a.2.2.1 = nI L) (hk : k < 26) (hl : len ≤ 20) : QH (fun b => InvD t a p s z b) 7 (nI k) (nI len) (lnV a L k len) := Q_at fun b hb => by
  obtain ⟨b', e, h⟩ := V_length hb.2.1 hb.2.2.2.1 hL12 hL hk hl
  exact ⟨b', q_nx e, h⟩
/-- all that hangs asks -/
theorem HE_of (hne : ∃ b, InvD t a p s z b) : HE (EQ (fun b => InvD t a p s z b)) a := by
  have hW : WA a := by obtain ⟨b, hb⟩ := hne; exact hb.2.1
  obtain ⟨L, hL1, hL12, hL⟩ := hW.2.1
  refine ⟨fun x hx => EQ_of hne (Q_result hx), fun j hj => EQ_of hne (Q_sign hj), fun j w hj hw => EQ_of hne (Q_trace hj hw), EQ_of hne (Q_count (k := 0) (by decide)), EQ_of hne (Q_count (k := 1) (by decide)), EQ_of hne (Q_count (k := 5) (by decide)), fun k hk y hy => EQ_of hne (Q_body hk hy), fun k hk => ⟨EQ_of hne (Q_uses0 hk), EQ_of hne (Q_uses1 hk), EQ_of hne (Q_uses2 hk), EQ_of hne (Q_uses3 hk)⟩, fun k hk => ?_, fun k hk e => ?_, ?_, ?_⟩
  · obtain ⟨c, c1, c2, c3, c4⟩ := V_chain a hk
    refine ⟨c, c1, c2, c3, EQ_of hne (Q_at fun b hb => ?_)⟩
    obtain ⟨b', e, h⟩ := c4 b hb.2.2.2.1
    exact ⟨b', q_nx e, h⟩
  · have q := EQ_of hne (Q_length (t := t) (p := p) (s := s) (z := z) hL12 hL hk (len := 3) (by decide))
    have ev : lnV a L k 3 = -1 := by unfold lnV; rw [e]
    rw [ev] at q; exact q
  · exact EQ_of hne (Q_at fun b hb => V_rings hb.2.2.2.1)
  · exact EQ_of hne (Q_at fun b hb => V_missing hb.2.2.2.1)
end QS
/-- what two books with one ghost tell is the same -/
theorem pairQ {P1 P2 : BS → Prop} {m : Nat} {x y w1 w2 : Int32} {x7 y7 : Option (BS × (Nat ⊕ Int32))} {x8 : Option (MS × Int32)} {ks : List Nat} {b1 b2 : BS} {Iv : MS → BS → Prop} (h1 : P1 b1) (h2 : P2 b2) (c1 : cq m b1 x y = nx x7) (c2 : cq m b2 x y = nx y7) (t1 : okT Iv x7 x8 ks) (t2 : okT Iv y7 x8 ks) (q1 : QH P1 m x y w1) (q2 : QH P2 m x y w2) : ∃ v, EQ P1 m x y = some v ∧ EQ P2 m x y = some v := by
  have e : w1 = w2 := by
    obtain ⟨d1, e1, -⟩ := q1 b1 h1
    obtain ⟨d2, e2, -⟩ := q2 b2 h2
    rw [c1] at e1
    rw [c2] at e2
    have f1 := nx_some e1
    have f2 := nx_some e2
    obtain ⟨r1, z1, v1, g1, g2, -, -, g3, -⟩ := t1
    obtain ⟨r2, z2, v2, k1, k2, -, -, k3, -⟩ := t2
    rw [f1] at g1
    rw [f2] at k1
    have ev : v1 = v2 := congrArg Prod.snd (Option.some.inj (g2.symm.trans k2))
    have a1 : w1 = v1 := g3 w1 (by rw [← Option.some.inj g1])
    have a2 : w2 = v2 := k3 w2 (by rw [← Option.some.inj k1])
    rw [a1, a2, ev]
  subst e
  exact ⟨w1, EQ_of ⟨b1, h1⟩ q1, EQ_of ⟨b2, h2⟩ q2⟩
set_option maxHeartbeats 4000000 in
theorem same_eval {E1 E2 : Nat → Int32 → Int32 → Option Int32} {n : Nat} (hn : n ≤ 200) (e0 : E1 0 0 0 = some (nI n)) (hC : ∀ k, k < 7 → ∃ v, E1 3 (nI k) 0 = some v ∧ E2 3 (nI k) 0 = some v) (hR : ∀ k, k < 7 → ∃ v, E1 0 (nI k) 0 = some v ∧ E2 0 (nI k) 0 = some v) (hS : ∀ k, k < n → ∃ v, E1 1 (nI k) 0 = some v ∧ E2 1 (nI k) 0 = some v) (hB : ∀ k, k < 6 → ∃ v, E1 4 (nI k) 0 = some v ∧ E2 4 (nI k) 0 = some v) (hU : ∀ k, k < 6 → ∃ v, E1 5 (nI k) 0 = some v ∧ E2 5 (nI k) 0 = some v) (hL : ∀ k, k < 6 → ∃ v, E1 7 (nI k) 4 = some v ∧ E2 7 (nI k) 4 = some v) : FL_same E1 E2 = some 1 := by
  unfold FL_same
  refine Loop_seq (fun k => (1, nI k)) 7 (fun k hk => ?_) ?_
  · obtain ⟨v, a1, a2⟩ := hC k hk
    obtain ⟨w, b1, b2⟩ := hR k hk
    exact jp_go <| if_no (nI_ge (b := 7) hk (by decide)) <| if_no one_ne <| bn_go a1 <| bn_go a2 <| jp_go <| jp_go <| if_no (fun q => q rfl) <| bn_go b1 <| bn_go b2 <| if_no (fun q => q rfl) <| bd_go (by rw [nI_1])
  refine jp_go <| if_go (show (7 : Int32) ≤ nI 7 by decide) ?_
  refine Loop_seq (fun k => (1, nI k)) n (fun k hk => ?_) ?_
  · obtain ⟨v, a1, a2⟩ := hS k hk
    exact bn_go e0 <| jp_go <| if_no (nI_ge hk (by omega)) <| if_no (nI_ge (b := 201) (by omega) (by decide)) <| if_no one_ne <| bn_go a1 <| bn_go a2 <| jp_go <| if_no (fun q => q rfl) <| bd_go (by rw [nI_1])
  refine bn_go e0 <| jp_go <| if_go (nI_le (Nat.le_refl _) (by omega)) ?_
  refine Loop_seq (fun k => (1, nI k)) 6 (fun k hk => ?_) ?_
  · obtain ⟨v, a1, a2⟩ := hB k hk
    obtain ⟨w, b1, b2⟩ := hU k hk
    obtain ⟨u, c1, c2⟩ := hL k hk
    exact jp_go <| if_no (nI_ge (b := 6) hk (by decide)) <| if_no one_ne <| bn_go a1 <| bn_go a2 <| jp_go <| jp_go <| if_no (fun q => q rfl) <| bn_go b1 <| bn_go b2 <| if_no (fun q => q rfl) <| bn_go c1 <| bn_go c2 <| if_no (fun q => q rfl) <| bd_go (by rw [nI_1])
  · exact jp_go <| if_go (show (6 : Int32) ≤ nI 6 by decide) <| bz_go (Or.inr rfl) rfl
theorem same_of {t1 t2 : Tx} {a1 a2 : AS} {p1 p2 : List AS} {s1 s2 : Nat → Option AS} {z : MS} {b1 b2 : BS} (h1 : InvD t1 a1 p1 s1 z b1) (h2 : InvD t2 a2 p2 s2 z b2) : FL_same (EQ (fun b => InvD t1 a1 p1 s1 z b)) (EQ (fun b => InvD t2 a2 p2 s2 z b)) = some 1 := by
  have i1 : Inv z b1 := ⟨t1, a1, p1, s1, h1⟩
  have i2 : Inv z b2 := ⟨t2, a2, p2, s2, h2⟩
  have d7 : ∀ k, k < 7 → inB (nI k) 0 7 = true := fun k hk => inB_of (n := 7) rfl (by decide) (by omega)
  obtain ⟨L1, -, l1, m1⟩ := h1.2.1.2.1
  obtain ⟨L2, -, l2, m2⟩ := h2.2.1.2.1
  refine same_eval (n := a1.2.1.1.length) h1.2.1.2.2.1 (EQ_of ⟨b1, h1⟩ (Q_result (x := 0) (by decide))) (fun k hk => ?_) (fun k hk => ?_) (fun k hk => ?_) (fun k hk => ?_) (fun k hk => ?_) (fun k hk => ?_)
  · exact pairQ h1 h2 rfl rfl (S_count i1 (nI k)) (S_count i2 (nI k)) (Q_count hk) (Q_count hk)
  · exact pairQ h1 h2 rfl rfl (S_result i1 (nI k)) (S_result i2 (nI k)) (Q_result (d7 k hk)) (Q_result (d7 k hk))
  · have : a1.2.1.1.length ≤ 200 := h1.2.1.2.2.1
    exact pairQ h1 h2 rfl rfl (S_sign i1 (nI k)) (S_sign i2 (nI k)) (Q_sign (by omega)) (Q_sign (by omega))
  · exact pairQ h1 h2 rfl rfl (S_body i1 (nI k) 0) (S_body i2 (nI k) 0) (Q_body (by omega) (by decide)) (Q_body (by omega) (by decide))
  · exact pairQ h1 h2 rfl rfl (S_uses i1 (nI k) 0) (S_uses i2 (nI k) 0) (Q_uses0 (by omega)) (Q_uses0 (by omega))
  · exact pairQ h1 h2 rfl rfl (S_lengthOf i1 (nI k) 4) (S_lengthOf i2 (nI k) 4) (Q_length (len := 4) l1 m1 (by omega) (by decide)) (Q_length (len := 4) l2 m2 (by omega) (by decide))
