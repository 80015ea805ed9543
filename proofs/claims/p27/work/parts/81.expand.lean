/-! PURE: expand -/
theorem nwO_ext (b : BS) (l1 l2 : Nat) (f1 f2 : Nat → Int32) (e d : Int32) : Ext b (nwO b l1 l2 f1 f2 e d) := by
  have L := nwO_lv b l1 l2 f1 f2 e d
  refine ⟨fun j h => (L j).mpr (Or.inl h), fun j hj hl => ?_⟩
  have hn : ¬ (j = 102 + 5 * b.2.2 1 ∨ j = 103 + 5 * b.2.2 1 ∨ j = 104 + 5 * b.2.2 1) := by
    intro q
    have := lv_new1 b.2.2 (j := j) (by omega) (by omega)
    rw [hl] at this; cases this
  constructor
  · show (if j = _ then _ else if j = _ then _ else if j = _ then _ else b.1 j) = _
    rw [if_neg (fun q => hn (Or.inl q)), if_neg (fun q => hn (Or.inr (Or.inl q))), if_neg (fun q => hn (Or.inr (Or.inr q)))]
  · show (if j = 1 then _ else if j = _ then _ else if j = _ then _ else b.2.2 j) = _
    rw [if_neg (by omega), if_neg (fun q => hn (Or.inr (Or.inl q))), if_neg (fun q => hn (Or.inr (Or.inr q)))]
theorem nwO_closed {b : BS} (l1 l2 : Nat) (f1 f2 : Nat → Int32) (e d : Int32) (h : Closed b) : Closed (nwO b l1 l2 f1 f2 e d) := by
  intro u k t ht
  exact (nwO_lv b l1 l2 f1 f2 e d t).mpr (Or.inl (h u k t ht))
theorem kd_outc (m : Nat) : kd (102 + 5 * m) = 3 := by
  unfold kd
  repeat' (first | rw [if_pos (by omega)] | rw [if_neg (by omega)])
theorem mmI_le {N n : Nat} (hN : N < 2 ^ 31) (h : n ≤ N) : (mmI N (nI n)).toNatClampNeg = n := by
  unfold mmI
  rw [if_neg (nI_nlt h (by omega))]
  by_cases c : n = 0
  · subst c; rfl
  · rw [if_pos (show (0 : Int32) < nI n from nI_lt (a := 0) (by omega) (by omega)), nI_clamp (by omega)]
theorem Sx.ext {b b' : BS} (h : Sx b b') : Ext b b' := ⟨Gr.eq (by rw [h.1]), fun j hj _ => ⟨h.2 j (by omega), by rw [h.1]⟩⟩
theorem WA.ok {a : AS} {R : Tx × Gl} (h : WA a) (h1 : R.1.length ≤ 200) (h2 : R.2.2.2.1.length ≤ 360) (h3 : R.2.2.2.1.length % 6 = 0) (h4 : OcG (R.1, R.2.2.2.1, nI R.2.1, nI R.2.2.1)) : WA (aOK a R) := ⟨h.1, h.2.1, h1, h2, h3, h.2.2.2.2.2.1, h4⟩
theorem WA.no {a : AS} (h : WA a) : WA (aNO a) := h
set_option maxHeartbeats 1000000 in
theorem S_expand {z : MS} {b : BS} (h : Inv z b) : okT Inv (F7_expand b) (F8_expand z) [2] := by
  obtain ⟨t, a, p, s, hI⟩ := id h
  obtain ⟨hl, h2, h3, h4, h5⟩ := hI.1
  obtain ⟨bq, e7, hsb, hRd⟩ := requireCompleteText_eq (b := b) hl h4 h5
  obtain ⟨zq, e8, hsz⟩ := F8_isWhole_eq (z := z) hl h2 h3
  have hIq : InvD t a p s zq bq := InvD.sm hsz.sm hsb hI
  by_cases hw : wholeB t = true
  · rw [if_pos hw] at e7
    rw [hw] at e8
    have hcp := (wholeB_iff t).mp hw
    obtain ⟨z1, b1, p1, f8, f7, hI1, hg, h7, hi, h17⟩ := save_inv (InvD.rf0 hIq 0)
    have hD : InvD t a p1 s z1 b1 := hI1
    obtain ⟨hB, hW, hZ, hS, -, -, hC⟩ := hI1
    have gq : Gr b bq := Gr.eq (by rw [hsb.1])
    have gq1 : Gr b b1 := gq.tr hg
    obtain ⟨L, hL1, hL12, hL⟩ := hW.2.1
    obtain ⟨b2, e2, s2, C2⟩ := writeResult_ok (t := t) hW hS hL hL12 hl hcp hB.2.2.2.2
    obtain ⟨z10, z12, m1, m2, m3, m4, m5⟩ := measureZ_ok (t := t) hW hL hL12 hZ hl hB.2.1 hB.2.2.1 hcp
    have hZ12 : ZS (z12 0) a := by rw [m2.1]; exact hZ
    have x2 : Ext b1 b2 := s2.ext
    have hS2 : SBb b2 70 a := hS.sx s2
    have c2 : Closed b2 := by unfold Closed; rw [s2.1]; exact hC
    have lv2 : ∀ j, lvB b2.2.2 j = lvB b1.2.2 j := fun j => by rw [s2.1]
    cases hb : (RX a L t).2.2.2.2 with
    | true =>
      have e2' : F1_writeResult b1 70 51 (nI t.length) = some (b2, bI false) := by
        have q := e2
        rw [show (evF a.1 L 14 [] (fun _ => [63]) t G00).2.2.2.2 = true from hb] at q
        exact q
      rw [hb] at m4
      obtain ⟨z2, hz2⟩ : ∃ q, q = up2 z12 0 1791 (a.2.2.2.2 + 1) := ⟨_, rfl⟩
      have z2o : ∀ u, u ≠ 0 → z2 u = z12 u := fun u hu => by rw [hz2]; exact up2_ne _ hu
      have z20 : ∀ i, i ≠ 1791 → z2 0 i = z12 0 i := fun i hi => by rw [hz2, up2_at, if_neg (by omega)]
      have hZ2 : ZS (z2 0) (aNO a) := by
        obtain ⟨q1, q2, q3, q4, q5, q6, q7, q8, q9, q10, q11⟩ := hZ12
        have w3 := hW.2.2.1
        have w4 := hW.2.2.2.1
        refine ⟨fun k hk => by rw [z20 k (by omega)]; exact q1 k hk, fun k hk u e => hold_congr (fun j hj => ?_) (q2 k hk u e), by rw [z20 1586 (by decide)]; exact q3, by rw [z20 1587 (by decide)]; exact q4, hold_congr (fun j hj => z20 _ ?_) q5, by rw [z20 1788 (by decide)]; exact q6, by rw [z20 1789 (by decide)]; exact q7, by rw [z20 1790 (by decide)]; exact q8, by rw [hz2, up2_at, if_pos ⟨rfl, rfl⟩]; rfl, by rw [z20 1792 (by decide)]; exact q10, hold_congr (fun j hj => z20 _ ?_) q11⟩
        · have := (hW.1 k u e).2
          exact z20 _ (by omega)
        · have hj' : j < a.2.1.1.length := hj
          omega
        · omega
      obtain ⟨b3, hb3⟩ : ∃ q, q = setI b2 70 4 (b2.1 70 4 + 1) := ⟨_, rfl⟩
      have x3 : Ext b2 b3 := by rw [hb3]; exact setI_ext _ (by decide)
      have hS3 : SBb b3 70 (aNO a) := by
        have q := hS2.num x3 (by rw [hb3]; rfl) (by rw [hb3]; rfl)
        have e : ((a.1, a.2.1, b3.1 70 2, b3.1 70 3, b3.1 70 4) : AS) = aNO a := by
          unfold aNO
          rw [hb3, setI_ne _ (by omega), setI_ne _ (by omega), setI_at, hS2.2.2.2.1, hS2.2.2.2.2.1, hS2.2.2.2.2.2]
        rw [e] at q; exact q
      refine okT_mk (b' := b3) (z' := z2) (v := -1) ?_ ?_ ?_ ⟨t, aNO a, p1, s, ?_⟩
      · unfold F7_expand
        refine bx_in e7 <| (pr_in gq).trans <| bn_go f7 <| bn2_go (by rw [hB.2.2.2.1]; exact e2') <| if_no (fun q => q rfl) <| bd_go ?_
        rw [← hb3]
      · unfold F8_expand
        refine bn2_go e8 <| jp_go <| if_no (by decide) <| bn2_go (F8_refused0 zq) <| if_go rfl <| bn_go f8 <| bn_go m1 <| bn2_go m4 <| if_no (fun q => q rfl) <| rd_go (k := 1791) (v := a.2.2.2.2) rfl (by decide) (by decide) hZ12.2.2.2.2.2.2.2.2.1 <| wr_go (k := 1791) rfl (by decide) (by decide) ?_
        rw [← hz2]
      · rw [z2o 43 (by decide), m3, h7]; exact rfs7 zq 0
      · refine hD.cur ?_ hW.no hZ2 ⟨by rw [z2o 1 (by decide)]; exact m2.2.1, by rw [z2o 3 (by decide)]; exact m2.2.2.1, by rw [z2o 4 (by decide)]; exact m2.2.2.2.1, by rw [z2o 43 (by decide)]; exact m2.2.2.2.2.2.1⟩ (x2.tr x3) (fun u q1 q2 q3 q4 => ⟨?_, ?_⟩) (fun j _ _ => ?_) hS3 ?_
        · refine hB.of ?_ ?_ ?_ ?_
          · rw [z2o 43 (by decide)]; exact m2.2.2.2.2.2.2
          · rw [z2o 5 (by decide)]; exact m2.2.2.2.2.1
          · rw [hb3, setI_other _ (by decide), s2.2 50 (by decide)]
          · rw [hb3, setI_other _ (by decide), s2.2 51 (by decide)]
        · rw [hb3, setI_other _ (by omega), s2.2 u (by omega)]
        · rw [hb3]; show b2.2.1 u = _; rw [s2.1]
        · rw [hb3]; exact lv2 j
        · rw [hb3]; exact c2
    | false =>
      have C := C2 hb
      have G12 := m5 hb
      have e2' : F1_writeResult b1 70 51 (nI t.length) = some (b2, bI true) := by
        have q := e2
        rw [show (evF a.1 L 14 [] (fun _ => [63]) t G00).2.2.2.2 = false from hb] at q
        exact q
      rw [hb] at m4
      have hB12 : z12 43 6 = nI t.length := m2.2.2.2.2.2.2.trans hB.2.1
      have h512 : hold (z12 5) t := by rw [m2.2.2.2.2.1]; exact hB.2.2.1
      obtain ⟨zf, k1, k2, k3, k4⟩ := keepZ_ok hW hL hL12 hZ12 hl hB12 h512 hcp hb G12
      obtain ⟨R, hR⟩ : ∃ R, R = RX a L t := ⟨_, rfl⟩
      have hlen : R.1.length ≤ 200 := by rw [hR]; exact evF_len hb
      have C' : CS b2 true 0 0 [R.1] 0 R.2 [] := by rw [hR]; exact C
      rw [← hR] at k1 k2
      obtain ⟨q1, q2, q3, q4, q5, q6, q7, q8⟩ := C'
      obtain ⟨d1, d2, d3, d4, d5, d6, d7, d8, d9⟩ := q8
      have t5 : b2.1 57 5 = nI R.1.length := by rw [q1, fl_one, Nat.zero_add]
      have l1 : (mmI 200 (b2.1 57 5)).toNatClampNeg = R.1.length := by rw [t5]; exact mmI_le (by decide) hlen
      have l2 : (mmI 60 (b2.1 57 8)).toNatClampNeg * 6 = R.2.2.2.1.length := by rw [d1, mmI_le (by decide) (by omega)]; omega
      obtain ⟨X, hX⟩ : ∃ q, q = 102 + 5 * b2.2.2 1 := ⟨_, rfl⟩
      obtain ⟨b3, hb3⟩ : ∃ q, q = nwO b2 R.1.length R.2.2.2.1.length (cutI (b2.1 58) 28380) (cutI (b2.1 62) 360) (b2.1 57 9) (b2.1 57 10) := ⟨_, rfl⟩
      have x3 : Ext b2 b3 := by rw [hb3]; exact nwO_ext _ _ _ _ _ _ _
      have c3 : Closed b3 := by rw [hb3]; exact nwO_closed _ _ _ _ _ _ c2
      have lvX : lvB b3.2.2 X = true := by rw [hb3, hX]; exact (nwO_lv _ _ _ _ _ _ _ _).mpr (Or.inr (Or.inl rfl))
      have okX : okB b3.2.2 X 3 = true := by
        unfold okB; rw [lvX, hX, kd_outc]; rfl
      have r3 : ∀ u, u < 100 → b3.1 u = b2.1 u := fun u hu => by
        rw [hb3]
        show (if u = 102 + 5 * b2.2.2 1 then _ else if u = 103 + 5 * b2.2.2 1 then _ else if u = 104 + 5 * b2.2.2 1 then _ else b2.1 u) = b2.1 u
        rw [if_neg (by omega), if_neg (by omega), if_neg (by omega)]
      have n3 : ∀ u, b3.2.1 u = b2.2.1 u := fun u => by rw [hb3]; rfl
      have w1 : b3.1 (X + 1) = cutI (b2.1 58) 28380 := by
        rw [hb3]
        show (if X + 1 = 102 + 5 * b2.2.2 1 then _ else if X + 1 = 103 + 5 * b2.2.2 1 then cutI (b2.1 58) 28380 else _) = _
        rw [if_neg (by omega), if_pos (by omega)]
      have w2 : b3.1 (X + 2) = cutI (b2.1 62) 360 := by
        rw [hb3]
        show (if X + 2 = 102 + 5 * b2.2.2 1 then _ else if X + 2 = 103 + 5 * b2.2.2 1 then cutI (b2.1 58) 28380 else if X + 2 = 104 + 5 * b2.2.2 1 then cutI (b2.1 62) 360 else _) = _
        rw [if_neg (by omega), if_neg (by omega), if_pos (by omega)]
      have w0 : ∀ i, b3.1 X i = (if i = 1 then b2.1 57 9 else if i = 2 then b2.1 57 10 else 0) := fun i => by
        rw [hb3]
        show (if X = 102 + 5 * b2.2.2 1 then (fun k => if k = 1 then b2.1 57 9 else if k = 2 then b2.1 57 10 else 0) else _) i = _
        rw [if_pos hX]
      have n1 : b3.2.2 (X + 1) = R.1.length := by
        rw [hb3]
        show (if X + 1 = 1 then _ else if X + 1 = 103 + 5 * b2.2.2 1 then R.1.length else _) = _
        rw [if_neg (by omega), if_pos (by omega)]
      have n2 : b3.2.2 (X + 2) = R.2.2.2.1.length := by
        rw [hb3]
        show (if X + 2 = 1 then b2.2.2 1 + 1 else if X + 2 = 103 + 5 * b2.2.2 1 then R.1.length else if X + 2 = 104 + 5 * b2.2.2 1 then R.2.2.2.1.length else b2.2.2 (X + 2)) = _
        rw [if_neg (by omega), if_neg (by omega), if_pos (by omega)]
      have hsg : hold (b3.1 (X + 1)) R.1 := by
        rw [w1]
        have q := q7 rfl
        intro j hj
        have e : cutI (b2.1 58) 28380 j = b2.1 58 j := if_pos (by omega)
        rw [e]
        have q' := q j (by rw [show ([R.1] : List Tx).flatten = R.1 by simp]; exact hj)
        rw [show ([R.1] : List Tx).flatten = R.1 by simp] at q'
        rw [← q']
        show b2.1 58 j = b2.1 58 (0 + j)
        rw [Nat.zero_add]
      have htr : hold (b3.1 (X + 2)) R.2.2.2.1 := by
        rw [w2]
        intro j hj
        have e : cutI (b2.1 62) 360 j = b2.1 62 j := if_pos (by omega)
        rw [e]; exact d5 j hj
      have hO3 : OCb b3 X (R.1, R.2.2.2.1, nI R.2.1, nI R.2.2.1) := by
        refine ⟨okX, n1, hsg, n2, htr, ?_, ?_⟩
        · rw [w0, if_pos rfl]; exact d2
        · rw [w0, if_neg (by decide), if_pos rfl]; exact d3
      have hS3 : SBb b3 70 a := hS2.ext x3 (r3 70 (by decide)) (n3 70) (n3 71)
      obtain ⟨b4, hb4⟩ : ∃ q, q = setR b3 70 1 (some X) := ⟨_, rfl⟩
      have x4 : Ext b3 b4 := by rw [hb4]; exact setR_ext b3
      have c4 : Closed b4 := by rw [hb4]; exact setR_closed c3 (fun y hy => by cases hy; exact lvX)
      have b470 : ∀ i, b4.1 70 i = b1.1 70 i := fun i => by
        rw [hb4]; show b3.1 70 i = _
        rw [r3 70 (by decide), s2.2 70 (by decide)]
      obtain ⟨b5, hb5⟩ : ∃ q, q = setI b4 70 3 (b4.1 70 3 + 1) := ⟨_, rfl⟩
      have x5 : Ext b4 b5 := by rw [hb5]; exact setI_ext _ (by decide)
      have c5 : Closed b5 := by rw [hb5]; exact c4
      have b5r : ∀ u k, b5.2.1 u k = (if u = 70 ∧ k = 1 then some X else b2.2.1 u k) := fun u k => by
        rw [hb5]; show b4.2.1 u k = _
        rw [hb4, setR_2, n3]
      have hS5 : SBb b5 70 (aOK a R) := by
        obtain ⟨v1, v2, v3, v4, v5, v6⟩ := hS3
        refine ⟨x5.ok (x4.ok v1), fun k hk => ?_, ⟨X, ?_, (hO3.ext x4).ext x5⟩, ?_, ?_, ?_⟩
        · have q := v2 k hk
          show match a.1 k with | none => b5.2.1 71 k = none | some t => ∃ x, b5.2.1 71 k = some x ∧ TXb b5 x t
          rw [b5r, if_neg (by omega)]
          rw [n3] at q
          cases e : a.1 k with
          | none => rw [e] at q; exact q
          | some u =>
            rw [e] at q
            obtain ⟨y, y1, y2⟩ := q
            exact ⟨y, y1, (y2.ext x4).ext x5⟩
        · rw [b5r, if_pos ⟨rfl, rfl⟩]
        · rw [hb5, setI_ne _ (by omega), b470]; exact hS.2.2.2.1
        · rw [hb5, setI_at, b470, hS.2.2.2.2.1]; rfl
        · rw [hb5, setI_ne _ (by omega), b470]; exact hS.2.2.2.2.2
      have okX5 : okB b5.2.2 X 3 = true := x5.ok (x4.ok okX)
      have ln5 : lnB b5.2.2 (X + 1) = R.1.length := by
        rw [lnB_dyn (by omega)]
        have : b5.2.2 = b3.2.2 := by rw [hb5, hb4]; rfl
        rw [this]; exact n1
      have x15 : Ext b1 b5 := ((x2.tr x3).tr x4).tr x5
      refine okT_mk (b' := b5) (z' := zf) (v := nI R.1.length) ?_ ?_ ?_ ⟨t, aOK a R, p1, s, ?_⟩
      · unfold F7_expand
        refine bx_in e7 <| (pr_in gq).trans <| bn_go f7 <| bn2_go (by rw [hB.2.2.2.1]; exact e2') <| if_go (by decide) <| (pr_in (gq1.tr x2.1)).trans <| bn_go (a := b3) ?_ <| bd_go ?_
        · unfold F1_makeOutcome
          refine (pr_in c2).trans ?_
          rw [l1, l2, ← hb3]
        · rw [← hX, ← hb4]
          refine bd_go ?_
          rw [← hb5]
          refine bd_go ?_
          have e : b5.2.1 70 1 = some X := by rw [b5r, if_pos ⟨rfl, rfl⟩]
          rw [e]
          show ck (okB b5.2.2 X 3) (some (b5, Sum.inr (nI (lnB b5.2.2 (X + 1))))) = _
          rw [ln5]
          exact ck_go okX5 rfl
      · unfold F8_expand
        refine bn2_go e8 <| jp_go <| if_no (by decide) <| bn2_go (F8_refused0 zq) <| if_go rfl <| bn_go f8 <| bn_go m1 <| bn2_go m4 <| if_go (by decide) ?_
        exact k1
      · rw [k4 7 (by decide), m3, h7]; exact rfs7 zq 0
      · refine hD.cur ?_ (hW.ok hlen d7 d6 (by rw [hR]; exact RX_good hW hL12 hcp hb)) k2 ⟨(k3 1 (by decide) (by omega) (by decide)).trans m2.2.1, (k3 3 (by decide) (by omega) (by decide)).trans m2.2.2.1, (k3 4 (by decide) (by omega) (by decide)).trans m2.2.2.2.1, (k4 2 (by decide)).trans m2.2.2.2.2.2.1⟩ x15 (fun u q1 q2 q3 q4 => ⟨?_, ?_⟩) (fun j q1 q2 => ?_) hS5 c5
        · refine hB.of ?_ ?_ ?_ ?_
          · rw [k4 6 (by decide)]; exact m2.2.2.2.2.2.2
          · rw [k3 5 (by decide) (by omega) (by decide)]; exact m2.2.2.2.2.1
          · rw [hb5, setI_other _ (by decide), hb4]; show b3.1 50 6 = _; rw [r3 50 (by decide), s2.2 50 (by decide)]
          · rw [hb5, setI_other _ (by decide), hb4]; show b3.1 51 = _; rw [r3 51 (by decide), s2.2 51 (by decide)]
        · rw [hb5, setI_other _ (by omega), hb4]; show b3.1 u = _; rw [r3 u (by omega), s2.2 u (by omega)]
        · funext i
          rw [b5r, if_neg (fun q => q3 q.1), s2.1]
        · show lvB b5.2.2 j = _
          have : b5.2.2 = b3.2.2 := by rw [hb5, hb4]; rfl
          rw [this, ← lv2 j, hb3]
          refine bool_iff ?_
          rw [nwO_lv]
          exact ⟨fun q => by rcases q with q | q; exact q; omega, Or.inl⟩
  · have hw' : wholeB t = false := by simpa using hw
    rw [if_neg hw] at e7
    rw [hw'] at e8
    refine okT_x (b' := bq) (k := 2) (z' := rfs zq 1) (v := 0) ?_ ?_ (by decide) (rfs7 _ _) ⟨t, a, p, s, InvD.rf0 hIq 1⟩
    · unfold F7_expand
      exact bx_out e7 rfl
    · unfold F8_expand
      exact bn2_go e8 <| jp_go <| if_go rfl <| bn2_go (F8_refusedP zq 1 (by decide)) <| if_no (by decide) rfl
