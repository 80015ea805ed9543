/-! PURE: calls whose state behind them is wanted in full, laid by wip/p27/mkx.py -/
theorem save_inv2 {t : Tx} {a : AS} {p : List AS} {s : Nat → Option AS} {z : MS} {b : BS} (h : InvD t a p s z b) : ∃ z' b' p', F8_saves z = some z' ∧ F2_saveState b 70 = some b' ∧ InvD t a p' s z' b' ∧ Gr b b' ∧ z' 43 7 = z 43 7 ∧ (∀ u, u < 63 → b'.1 u = b.1 u) ∧ z' 43 17 = z 43 17 ∧ 0 < p'.length := by
  obtain ⟨hB, hW, hZ, hS, ⟨p1, p2, p3, p4, ⟨n, p5, p6, p7⟩, p8⟩, hN, hC⟩ := h
  obtain ⟨m, row, hm, e8, r1, r2⟩ := F8_saves_eq p1 p2
  obtain ⟨n', hn'⟩ : ∃ q, q = (n + 1) % 6 := ⟨_, rfl⟩
  have hn6 : n' < 6 := by rw [hn']; exact Nat.mod_lt _ (by decide)
  obtain ⟨b1, hb1⟩ : ∃ q, q = setI b 63 2 (nI n') := ⟨_, rfl⟩
  have g70 : SBb b1 70 a := by
    rw [hb1]
    have x : Ext b (setI b 63 2 (nI n')) := ⟨fun _ h => h, fun j hj _ => ⟨setI_other b (a := 63) (by omega), rfl⟩⟩
    exact hS.ext x (setI_other b (a := 63) (by decide)) rfl rfl
  have hC1 : Closed b1 := by rw [hb1]; exact hC
  have hst : (b1.2.1 64 n' = none ∧ lvB b1.2.2 (72 + 2 * n') = false) ∨ (b1.2.1 64 n' = some (72 + 2 * n') ∧ lvB b1.2.2 (72 + 2 * n') = true) := by rw [hb1]; exact p8 n' hn6
  obtain ⟨b2, c1, c2, c3, c4, c5, c6, c7, c8, c9, c10⟩ := copyInto_eq (P := 64) (k := n') (i := 72 + 2 * n') (Or.inl ⟨rfl, hn6, rfl⟩) hC1 g70 hst
  obtain ⟨b3, hb3⟩ : ∃ q, q = (if (6 : Int32) ≤ b2.1 63 3 then b2 else setI b2 63 3 (b2.1 63 3 + 1)) := ⟨_, rfl⟩
  obtain ⟨p', hp'⟩ : ∃ q, q = (if p.length = 6 then p.tail else p) ++ [a] := ⟨_, rfl⟩
  have hpl : (if p.length = 6 then p.tail else p).length = m := by
    rw [hm]
    by_cases c : p.length = 6
    · rw [if_pos c, if_pos c, List.length_tail, c]
    · rw [if_neg c, if_neg c]
  have hp'l : p'.length = m + 1 := by rw [hp', List.length_append, hpl]; rfl
  have hm5 : m ≤ 5 := by rw [hm]; split <;> omega
  have hold : ∀ i x, (if p.length = 6 then p.tail else p)[i]? = some x → p[i + (p.length - m)]? = some x := by
    intro i x hx
    by_cases c : p.length = 6
    · rw [if_pos c] at hx hm
      rw [List.getElem?_tail] at hx
      rw [hm, c]; exact hx
    · rw [if_neg c] at hx hm
      rw [hm, Nat.sub_self]; exact hx
  have e633 : b2.1 63 3 = nI p.length := by
    rw [c8 63 (by decide) (by omega), hb1, setI_ne _ (by omega)]; exact p3
  have b3x : b3.2 = b2.2 ∧ (∀ u, u ≠ 63 → b3.1 u = b2.1 u) ∧ b3.1 63 3 = nI (m + 1) ∧ b3.1 63 2 = nI n' := by
    rw [hb3, e633]
    have e2 : b2.1 63 2 = nI n' := by rw [c8 63 (by decide) (by omega), hb1, setI_at]
    by_cases c : p.length = 6
    · rw [if_pos (by rw [c]; decide)]
      refine ⟨rfl, fun _ _ => rfl, ?_, e2⟩
      rw [e633, hm, if_pos c, c]
    · rw [if_neg (show ¬ (6 : Int32) ≤ nI p.length from nI_ge (b := 6) (by omega) (by decide))]
      refine ⟨rfl, fun u hu => setI_other _ hu, ?_, ?_⟩
      · rw [setI_at, nI_1, hm, if_neg c]
      · rw [setI_ne _ (by omega)]; exact e2
  have x01 : Ext b b1 := by rw [hb1]; exact ⟨fun _ h => h, fun j hj _ => ⟨setI_other _ (by omega), rfl⟩⟩
  have x23 : Ext b2 b3 := ⟨fun i hi => by rw [b3x.1]; exact hi, fun j hj _ => ⟨b3x.2.1 j (by omega), by rw [b3x.1]⟩⟩
  have x03 : Ext b b3 := (x01.tr c2).tr x23
  have i63 : ∀ u, u < 63 → b3.1 u = b.1 u := fun u hu => by rw [b3x.2.1 u (by omega), c8 u (by omega) (by omega), hb1, setI_other _ (by omega)]
  have row70 : b3.1 70 = b.1 70 := by rw [b3x.2.1 70 (by decide), c8 70 (by decide) (by omega), hb1, setI_other _ (by decide)]
  have rows : ∀ u, 66 ≤ u → u < 100 → u ≠ 72 + 2 * n' → u ≠ 72 + 2 * n' + 1 → b3.1 u = b.1 u ∧ b3.2.1 u = b.2.1 u := by
    intro u h1 h2 h3 h4
    refine ⟨?_, ?_⟩
    · rw [b3x.2.1 u (by omega), c8 u h2 h3, hb1, setI_other _ (by omega)]
    · rw [b3x.1, c7 u (by omega) h3 h4, hb1]; rfl
  refine ⟨_, b3, p', e8, ?_, ⟨?_, hW, ?_, ?_, ⟨?_, ?_, ?_, ?_, ⟨n', hn6, b3x.2.2.2, ?_⟩, ?_⟩, ?_, ?_⟩, x03.1, ?_, i63, ?_, by omega⟩
  · unfold F2_saveState
    refine bd_go ?_
    rw [p6, nI_1]
    have : (if (6 : Int32) ≤ nI (n + 1) then (0 : Int32) else nI (n + 1)) = nI n' := by
      rw [hn']
      by_cases c : n + 1 = 6
      · rw [c, if_pos (by decide)]; rfl
      · rw [if_neg (show ¬ (6 : Int32) ≤ nI (n + 1) from nI_ge (b := 6) (by omega) (by decide)), Nat.mod_eq_of_lt (by omega)]
    rw [this, ← hb1]
    have e2 : b1.1 63 2 = nI n' := by rw [hb1, setI_at]
    rw [e2]
    refine bn_go c1 ?_
    rw [hb3]
    by_cases c : (6 : Int32) ≤ b2.1 63 3
    · rw [if_pos c, if_pos c]
    · rw [if_neg c, if_neg c]
  · obtain ⟨q1, q2, q3, q4, q5⟩ := hB
    refine ⟨q1, ?_, ?_, ?_, ?_⟩
    · rw [up2_at, if_neg (by decide), sr_ne _ _ (by decide)]; exact q2
    · rw [up2_ne _ (by decide), sr_ne _ _ (by decide)]; exact q3
    · rw [i63 50 (by decide)]; exact q4
    · rw [i63 51 (by decide)]; exact q5
  · rw [up2_ne _ (by decide), sr_ne _ _ (by decide)]; exact hZ
  · exact hS.ext x03 row70 (rows 70 (by decide) (by decide) (by omega) (by omega)).2 (rows 71 (by decide) (by decide) (by omega) (by omega)).2
  · omega
  · rw [up2_at, if_pos ⟨rfl, rfl⟩, hp'l]
  · rw [hp'l]; exact b3x.2.2.1
  · intro i x hx
    rw [hp'] at hx
    rcases getElem?_pushed hx with ⟨hi, hx⟩ | ⟨hi, rfl⟩
    · rw [hpl] at hi
      obtain ⟨w1, w2⟩ := p4 _ x (hold i x hx)
      refine ⟨w1, ZS.congr w1 (fun k hk => ?_) w2⟩
      rw [up2_ne _ (by decide), sr_at]
      exact r1 i k hi hk
    · rw [hpl] at hi
      subst hi
      refine ⟨hW, ZS.congr hW (fun k hk => ?_) hZ⟩
      rw [up2_ne _ (by decide), sr_at]
      exact r2 k hk
  · intro i x hx
    rw [hp'l]
    rw [hp'] at hx
    rcases getElem?_pushed hx with ⟨hi, hx⟩ | ⟨hi, rfl⟩
    · rw [hpl] at hi
      have hx2 := hold i x hx
      obtain ⟨w1, w2⟩ := p7 _ x hx2
      have hil : i + (p.length - m) < p.length := by
        rcases Nat.lt_or_ge (i + (p.length - m)) p.length with c | c
        · exact c
        · rw [List.getElem?_eq_none c] at hx2; cases hx2
      have ei : (n' + 7 + i - (m + 1)) % 6 = (n + 7 + (i + (p.length - m)) - p.length) % 6 := by
        have hmp : m ≤ p.length := by rw [hm]; split <;> omega
        rcases (show n + 1 = 6 ∨ n + 1 < 6 by omega) with c | c
        · have : n' = 0 := by rw [hn', c]
          omega
        · have : n' = n + 1 := by rw [hn', Nat.mod_eq_of_lt c]
          omega
      rw [ei]
      obtain ⟨j, hj⟩ : ∃ q, q = (n + 7 + (i + (p.length - m)) - p.length) % 6 := ⟨_, rfl⟩
      rw [← hj] at w1 w2 ⊢
      have hj6 : j < 6 := by rw [hj]; exact Nat.mod_lt _ (by decide)
      have hjn : j ≠ n' := by
        have hmp : m ≤ p.length := by rw [hm]; split <;> omega
        have hpm : p.length ≤ m + 1 := by rw [hm]; split <;> omega
        rcases (show n + 1 = 6 ∨ n + 1 < 6 by omega) with c | c
        · have : n' = 0 := by rw [hn', c]
          omega
        · have : n' = n + 1 := by rw [hn', Nat.mod_eq_of_lt c]
          omega
      refine ⟨?_, ?_⟩
      · rw [b3x.1, c6 j hjn, hb1]; exact w1
      · obtain ⟨q1, q2⟩ := rows (72 + 2 * j) (by omega) (by omega) (by omega) (by omega)
        exact w2.ext x03 q1 q2 (rows (72 + 2 * j + 1) (by omega) (by omega) (by omega) (by omega)).2
    · rw [hpl] at hi
      subst hi
      have ei : (n' + 7 + i - (i + 1)) % 6 = n' := by omega
      rw [ei]
      refine ⟨by rw [b3x.1]; exact c5, ?_⟩
      exact c4.ext x23 (b3x.2.1 _ (by omega)) (by rw [b3x.1]) (by rw [b3x.1])
  · intro k hk
    rw [b3x.1]
    by_cases c : k = n'
    · subst c; exact Or.inr ⟨c5, c10⟩
    · rw [c6 k c, c9 (72 + 2 * k) (by omega) (by omega) (by omega) (by omega), hb1]; exact p8 k hk
  · refine hN.ext ?_ ?_ x03 ?_ ?_ ?_
    · rw [up2_ne _ (by decide), sr_ne _ _ (by decide)]
    · rw [up2_ne _ (by decide), sr_ne _ _ (by decide)]
    · rw [b3x.1, c7 65 (by decide) (by omega) (by omega), hb1]; rfl
    · intro k hk
      exact ⟨(rows _ (by omega) (by omega) (by omega) (by omega)).1, (rows _ (by omega) (by omega) (by omega) (by omega)).2, (rows _ (by omega) (by omega) (by omega) (by omega)).2⟩
    · intro k hk
      rw [b3x.1, c9 _ (by omega) (by omega) (by omega) (by omega), hb1]; rfl
  · unfold Closed; rw [b3x.1]; exact c3
  · rw [up2_at, if_neg (by decide), sr_ne _ _ (by decide)]
  · rw [up2_at, if_neg (by decide), sr_ne _ _ (by decide)]
/-- the current state changed, in both worlds -/

def exV (a : AS) (L : Nat) (t : Tx) : Int32 := if (RX a L t).2.2.2.2 = true then -1 else nI (RX a L t).1.length
set_option maxHeartbeats 1000000 in
theorem X_expand {z : MS} {b : BS} {t : Tx} {a : AS} {p : List AS} {s : Nat → Option AS} (hI : InvD t a p s z b) (hcp0 : Cpl t) {L : Nat} (hL12 : L ≤ 12) (hL : a.2.2.1 = nI L) : ∃ z' b' a' p', F7_expand b = some (b', .inr (exV a L t)) ∧ F8_expand z = some (z', exV a L t) ∧ z' 43 7 = 0 ∧ InvD t a' p' s z' b' ∧ 0 < p'.length := by
  obtain ⟨hl, h2, h3, h4, h5⟩ := hI.1
  obtain ⟨bq, e7, hsb, hRd⟩ := requireCompleteText_eq (b := b) hl h4 h5
  obtain ⟨zq, e8, hsz⟩ := F8_isWhole_eq (z := z) hl h2 h3
  have hIq : InvD t a p s zq bq := InvD.sm hsz.sm hsb hI
  by_cases hw : wholeB t = true
  · rw [if_pos hw] at e7
    rw [hw] at e8
    have hcp := (wholeB_iff t).mp hw
    obtain ⟨z1, b1, p1, f8, f7, hI1, hg, h7, hi, h17, hp1⟩ := save_inv2 (InvD.rf0 hIq 0)
    have hD : InvD t a p1 s z1 b1 := hI1
    obtain ⟨hB, hW, hZ, hS, -, -, hC⟩ := hI1
    have gq : Gr b bq := Gr.eq (by rw [hsb.1])
    have gq1 : Gr b b1 := gq.tr hg
    obtain ⟨b2, e2, s2, C2⟩ := writeResult_ok (t := t) hW hS hL hL12 hl hcp hB.2.2.2.2
    obtain ⟨z10, z12, m1, m2, m3, m4, m5⟩ := measureZ_ok (t := t) hW hL hL12 hZ hl hB.2.1 hB.2.2.1 hcp
    have hZ12 : ZS (z12 0) a := by rw [m2.1]; exact hZ
    have x2 : Ext b1 b2 := s2.ext
    have hS2 : SBb b2 70 a := hS.sx s2
    have c2 : Closed b2 := by unfold Closed; rw [s2.1]; exact hC
    have lv2 : ∀ j, lvB b2.2.2 j = lvB b1.2.2 j := fun j => by rw [s2.1]
    cases hb : (RX a L t).2.2.2.2 with
    | true =>
      have e2' : F1_writeResult b1 70 51 (nI t.length) = some (b2, bI false) := by
        have q := e2
        rw [show (evF a.1 L 14 [] (fun _ => [63]) t G00).2.2.2.2 = true from hb] at q
        exact q
      rw [hb] at m4
      obtain ⟨z2, hz2⟩ : ∃ q, q = up2 z12 0 1791 (a.2.2.2.2 + 1) := ⟨_, rfl⟩
      have z2o : ∀ u, u ≠ 0 → z2 u = z12 u := fun u hu => by rw [hz2]; exact up2_ne _ hu
      have z20 : ∀ i, i ≠ 1791 → z2 0 i = z12 0 i := fun i hi => by rw [hz2, up2_at, if_neg (by omega)]
      have hZ2 : ZS (z2 0) (aNO a) := by
        obtain ⟨q1, q2, q3, q4, q5, q6, q7, q8, q9, q10, q11⟩ := hZ12
        have w3 := hW.2.2.1
        have w4 := hW.2.2.2.1
        refine ⟨fun k hk => by rw [z20 k (by omega)]; exact q1 k hk, fun k hk u e => hold_congr (fun j hj => ?_) (q2 k hk u e), by rw [z20 1586 (by decide)]; exact q3, by rw [z20 1587 (by decide)]; exact q4, hold_congr (fun j hj => z20 _ ?_) q5, by rw [z20 1788 (by decide)]; exact q6, by rw [z20 1789 (by decide)]; exact q7, by rw [z20 1790 (by decide)]; exact q8, by rw [hz2, up2_at, if_pos ⟨rfl, rfl⟩]; rfl, by rw [z20 1792 (by decide)]; exact q10, hold_congr (fun j hj => z20 _ ?_) q11⟩
        · have := (hW.1 k u e).2
          exact z20 _ (by omega)
        · have hj' : j < a.2.1.1.length := hj
          omega
        · omega
      obtain ⟨b3, hb3⟩ : ∃ q, q = setI b2 70 4 (b2.1 70 4 + 1) := ⟨_, rfl⟩
      have x3 : Ext b2 b3 := by rw [hb3]; exact setI_ext _ (by decide)
      have hS3 : SBb b3 70 (aNO a) := by
        have q := hS2.num x3 (by rw [hb3]; rfl) (by rw [hb3]; rfl)
        have e : ((a.1, a.2.1, b3.1 70 2, b3.1 70 3, b3.1 70 4) : AS) = aNO a := by
          unfold aNO
          rw [hb3, setI_ne _ (by omega), setI_ne _ (by omega), setI_at, hS2.2.2.2.1, hS2.2.2.2.2.1, hS2.2.2.2.2.2]
        rw [e] at q; exact q
      rw [show exV a L t = -1 from if_pos hb]
      refine ⟨z2, b3, aNO a, p1, ?_, ?_, ?_, ?_, hp1⟩
      · unfold F7_expand
        refine bx_in e7 <| (pr_in gq).trans <| bn_go f7 <| bn2_go (by rw [hB.2.2.2.1]; exact e2') <| if_no (fun q => q rfl) <| bd_go ?_
        rw [← hb3]
      · unfold F8_expand
        refine bn2_go e8 <| jp_go <| if_no (by decide) <| bn2_go (F8_refused0 zq) <| if_go rfl <| bn_go f8 <| bn_go m1 <| bn2_go m4 <| if_no (fun q => q rfl) <| rd_go (k := 1791) (v := a.2.2.2.2) rfl (by decide) (by decide) hZ12.2.2.2.2.2.2.2.2.1 <| wr_go (k := 1791) rfl (by decide) (by decide) ?_
        rw [← hz2]
      · rw [z2o 43 (by decide), m3, h7]; exact rfs7 zq 0
      · refine hD.cur ?_ hW.no hZ2 ⟨by rw [z2o 1 (by decide)]; exact m2.2.1, by rw [z2o 3 (by decide)]; exact m2.2.2.1, by rw [z2o 4 (by decide)]; exact m2.2.2.2.1, by rw [z2o 43 (by decide)]; exact m2.2.2.2.2.2.1⟩ (x2.tr x3) (fun u q1 q2 q3 q4 => ⟨?_, ?_⟩) (fun j _ _ => ?_) hS3 ?_
        · refine hB.of ?_ ?_ ?_ ?_
          · rw [z2o 43 (by decide)]; exact m2.2.2.2.2.2.2
          · rw [z2o 5 (by decide)]; exact m2.2.2.2.2.1
          · rw [hb3, setI_other _ (by decide), s2.2 50 (by decide)]
          · rw [hb3, setI_other _ (by decide), s2.2 51 (by decide)]
        · rw [hb3, setI_other _ (by omega), s2.2 u (by omega)]
        · rw [hb3]; show b2.2.1 u = _; rw [s2.1]
        · rw [hb3]; exact lv2 j
        · rw [hb3]; exact c2
    | false =>
      have C := C2 hb
      have G12 := m5 hb
      have e2' : F1_writeResult b1 70 51 (nI t.length) = some (b2, bI true) := by
        have q := e2
        rw [show (evF a.1 L 14 [] (fun _ => [63]) t G00).2.2.2.2 = false from hb] at q
        exact q
      rw [hb] at m4
      have hB12 : z12 43 6 = nI t.length := m2.2.2.2.2.2.2.trans hB.2.1
      have h512 : hold (z12 5) t := by rw [m2.2.2.2.2.1]; exact hB.2.2.1
      obtain ⟨zf, k1, k2, k3, k4⟩ := keepZ_ok hW hL hL12 hZ12 hl hB12 h512 hcp hb G12
      obtain ⟨R, hR⟩ : ∃ R, R = RX a L t := ⟨_, rfl⟩
      have hlen : R.1.length ≤ 200 := by rw [hR]; exact evF_len hb
      have C' : CS b2 true 0 0 [R.1] 0 R.2 [] := by rw [hR]; exact C
      rw [← hR] at k1 k2
      obtain ⟨q1, q2, q3, q4, q5, q6, q7, q8⟩ := C'
      obtain ⟨d1, d2, d3, d4, d5, d6, d7, d8, d9⟩ := q8
      have t5 : b2.1 57 5 = nI R.1.length := by rw [q1, fl_one, Nat.zero_add]
      have l1 : (mmI 200 (b2.1 57 5)).toNatClampNeg = R.1.length := by rw [t5]; exact mmI_le (by decide) hlen
      have l2 : (mmI 60 (b2.1 57 8)).toNatClampNeg * 6 = R.2.2.2.1.length := by rw [d1, mmI_le (by decide) (by omega)]; omega
      obtain ⟨X, hX⟩ : ∃ q, q = 102 + 5 * b2.2.2 1 := ⟨_, rfl⟩
      obtain ⟨b3, hb3⟩ : ∃ q, q = nwO b2 R.1.length R.2.2.2.1.length (cutI (b2.1 58) 28380) (cutI (b2.1 62) 360) (b2.1 57 9) (b2.1 57 10) := ⟨_, rfl⟩
      have x3 : Ext b2 b3 := by rw [hb3]; exact nwO_ext _ _ _ _ _ _ _
      have c3 : Closed b3 := by rw [hb3]; exact nwO_closed _ _ _ _ _ _ c2
      have lvX : lvB b3.2.2 X = true := by rw [hb3, hX]; exact (nwO_lv _ _ _ _ _ _ _ _).mpr (Or.inr (Or.inl rfl))
      have okX : okB b3.2.2 X 3 = true := by
        unfold okB; rw [lvX, hX, kd_outc]; rfl
      have r3 : ∀ u, u < 100 → b3.1 u = b2.1 u := fun u hu => by
        rw [hb3]
        show (if u = 102 + 5 * b2.2.2 1 then _ else if u = 103 + 5 * b2.2.2 1 then _ else if u = 104 + 5 * b2.2.2 1 then _ else b2.1 u) = b2.1 u
        rw [if_neg (by omega), if_neg (by omega), if_neg (by omega)]
      have n3 : ∀ u, b3.2.1 u = b2.2.1 u := fun u => by rw [hb3]; rfl
      have w1 : b3.1 (X + 1) = cutI (b2.1 58) 28380 := by
        rw [hb3]
        show (if X + 1 = 102 + 5 * b2.2.2 1 then _ else if X + 1 = 103 + 5 * b2.2.2 1 then cutI (b2.1 58) 28380 else _) = _
        rw [if_neg (by omega), if_pos (by omega)]
      have w2 : b3.1 (X + 2) = cutI (b2.1 62) 360 := by
        rw [hb3]
        show (if X + 2 = 102 + 5 * b2.2.2 1 then _ else if X + 2 = 103 + 5 * b2.2.2 1 then cutI (b2.1 58) 28380 else if X + 2 = 104 + 5 * b2.2.2 1 then cutI (b2.1 62) 360 else _) = _
        rw [if_neg (by omega), if_neg (by omega), if_pos (by omega)]
      have w0 : ∀ i, b3.1 X i = (if i = 1 then b2.1 57 9 else if i = 2 then b2.1 57 10 else 0) := fun i => by
        rw [hb3]
        show (if X = 102 + 5 * b2.2.2 1 then (fun k => if k = 1 then b2.1 57 9 else if k = 2 then b2.1 57 10 else 0) else _) i = _
        rw [if_pos hX]
      have n1 : b3.2.2 (X + 1) = R.1.length := by
        rw [hb3]
        show (if X + 1 = 1 then _ else if X + 1 = 103 + 5 * b2.2.2 1 then R.1.length else _) = _
        rw [if_neg (by omega), if_pos (by omega)]
      have n2 : b3.2.2 (X + 2) = R.2.2.2.1.length := by
        rw [hb3]
        show (if X + 2 = 1 then b2.2.2 1 + 1 else if X + 2 = 103 + 5 * b2.2.2 1 then R.1.length else if X + 2 = 104 + 5 * b2.2.2 1 then R.2.2.2.1.length else b2.2.2 (X + 2)) = _
        rw [if_neg (by omega), if_neg (by omega), if_pos (by omega)]
      have hsg : hold (b3.1 (X + 1)) R.1 := by
        rw [w1]
        have q := q7 rfl
        intro j hj
        have e : cutI (b2.1 58) 28380 j = b2.1 58 j := if_pos (by omega)
        rw [e]
        have q' := q j (by rw [show ([R.1] : List Tx).flatten = R.1 by simp]; exact hj)
        rw [show ([R.1] : List Tx).flatten = R.1 by simp] at q'
        rw [← q']
        show b2.1 58 j = b2.1 58 (0 + j)
        rw [Nat.zero_add]
      have htr : hold (b3.1 (X + 2)) R.2.2.2.1 := by
        rw [w2]
        intro j hj
        have e : cutI (b2.1 62) 360 j = b2.1 62 j := if_pos (by omega)
        rw [e]; exact d5 j hj
      have hO3 : OCb b3 X (R.1, R.2.2.2.1, nI R.2.1, nI R.2.2.1) := by
        refine ⟨okX, n1, hsg, n2, htr, ?_, ?_⟩
        · rw [w0, if_pos rfl]; exact d2
        · rw [w0, if_neg (by decide), if_pos rfl]; exact d3
      have hS3 : SBb b3 70 a := hS2.ext x3 (r3 70 (by decide)) (n3 70) (n3 71)
      obtain ⟨b4, hb4⟩ : ∃ q, q = setR b3 70 1 (some X) := ⟨_, rfl⟩
      have x4 : Ext b3 b4 := by rw [hb4]; exact setR_ext b3
      have c4 : Closed b4 := by rw [hb4]; exact setR_closed c3 (fun y hy => by cases hy; exact lvX)
      have b470 : ∀ i, b4.1 70 i = b1.1 70 i := fun i => by
        rw [hb4]; show b3.1 70 i = _
        rw [r3 70 (by decide), s2.2 70 (by decide)]
      obtain ⟨b5, hb5⟩ : ∃ q, q = setI b4 70 3 (b4.1 70 3 + 1) := ⟨_, rfl⟩
      have x5 : Ext b4 b5 := by rw [hb5]; exact setI_ext _ (by decide)
      have c5 : Closed b5 := by rw [hb5]; exact c4
      have b5r : ∀ u k, b5.2.1 u k = (if u = 70 ∧ k = 1 then some X else b2.2.1 u k) := fun u k => by
        rw [hb5]; show b4.2.1 u k = _
        rw [hb4, setR_2, n3]
      have hS5 : SBb b5 70 (aOK a R) := by
        obtain ⟨v1, v2, v3, v4, v5, v6⟩ := hS3
        refine ⟨x5.ok (x4.ok v1), fun k hk => ?_, ⟨X, ?_, (hO3.ext x4).ext x5⟩, ?_, ?_, ?_⟩
        · have q := v2 k hk
          show match a.1 k with | none => b5.2.1 71 k = none | some t => ∃ x, b5.2.1 71 k = some x ∧ TXb b5 x t
          rw [b5r, if_neg (by omega)]
          rw [n3] at q
          cases e : a.1 k with
          | none => rw [e] at q; exact q
          | some u =>
            rw [e] at q
            obtain ⟨y, y1, y2⟩ := q
            exact ⟨y, y1, (y2.ext x4).ext x5⟩
        · rw [b5r, if_pos ⟨rfl, rfl⟩]
        · rw [hb5, setI_ne _ (by omega), b470]; exact hS.2.2.2.1
        · rw [hb5, setI_at, b470, hS.2.2.2.2.1]; rfl
        · rw [hb5, setI_ne _ (by omega), b470]; exact hS.2.2.2.2.2
      have okX5 : okB b5.2.2 X 3 = true := x5.ok (x4.ok okX)
      have ln5 : lnB b5.2.2 (X + 1) = R.1.length := by
        rw [lnB_dyn (by omega)]
        have : b5.2.2 = b3.2.2 := by rw [hb5, hb4]; rfl
        rw [this]; exact n1
      have x15 : Ext b1 b5 := ((x2.tr x3).tr x4).tr x5
      rw [show exV a L t = nI R.1.length from by rw [hR]; exact if_neg (by rw [hb]; decide)]
      refine ⟨zf, b5, aOK a R, p1, ?_, ?_, ?_, ?_, hp1⟩
      · unfold F7_expand
        refine bx_in e7 <| (pr_in gq).trans <| bn_go f7 <| bn2_go (by rw [hB.2.2.2.1]; exact e2') <| if_go (by decide) <| (pr_in (gq1.tr x2.1)).trans <| bn_go (a := b3) ?_ <| bd_go ?_
        · unfold F1_makeOutcome
          refine (pr_in c2).trans ?_
          rw [l1, l2, ← hb3]
        · rw [← hX, ← hb4]
          refine bd_go ?_
          rw [← hb5]
          refine bd_go ?_
          have e : b5.2.1 70 1 = some X := by rw [b5r, if_pos ⟨rfl, rfl⟩]
          rw [e]
          show ck (okB b5.2.2 X 3) (some (b5, Sum.inr (nI (lnB b5.2.2 (X + 1))))) = _
          rw [ln5]
          exact ck_go okX5 rfl
      · unfold F8_expand
        refine bn2_go e8 <| jp_go <| if_no (by decide) <| bn2_go (F8_refused0 zq) <| if_go rfl <| bn_go f8 <| bn_go m1 <| bn2_go m4 <| if_go (by decide) ?_
        exact k1
      · rw [k4 7 (by decide), m3, h7]; exact rfs7 zq 0
      · refine hD.cur ?_ (hW.ok hlen d7 d6 (by rw [hR]; exact RX_good hW hL12 hcp hb)) k2 ⟨(k3 1 (by decide) (by omega) (by decide)).trans m2.2.1, (k3 3 (by decide) (by omega) (by decide)).trans m2.2.2.1, (k3 4 (by decide) (by omega) (by decide)).trans m2.2.2.2.1, (k4 2 (by decide)).trans m2.2.2.2.2.2.1⟩ x15 (fun u q1 q2 q3 q4 => ⟨?_, ?_⟩) (fun j q1 q2 => ?_) hS5 c5
        · refine hB.of ?_ ?_ ?_ ?_
          · rw [k4 6 (by decide)]; exact m2.2.2.2.2.2.2
          · rw [k3 5 (by decide) (by omega) (by decide)]; exact m2.2.2.2.2.1
          · rw [hb5, setI_other _ (by decide), hb4]; show b3.1 50 6 = _; rw [r3 50 (by decide), s2.2 50 (by decide)]
          · rw [hb5, setI_other _ (by decide), hb4]; show b3.1 51 = _; rw [r3 51 (by decide), s2.2 51 (by decide)]
        · rw [hb5, setI_other _ (by omega), hb4]; show b3.1 u = _; rw [r3 u (by omega), s2.2 u (by omega)]
        · funext i
          rw [b5r, if_neg (fun q => q3 q.1), s2.1]
        · show lvB b5.2.2 j = _
          have : b5.2.2 = b3.2.2 := by rw [hb5, hb4]; rfl
          rw [this, ← lv2 j, hb3]
          refine bool_iff ?_
          rw [nwO_lv]
          exact ⟨fun q => by rcases q with q | q; exact q; omega, Or.inl⟩
  · exact absurd ((wholeB_iff t).mpr hcp0) hw

theorem X_undo {z : MS} {b : BS} {t : Tx} {a : AS} {p : List AS} {s : Nat → Option AS} (hI : InvD t a p s z b) (q0 : 0 < p.length) : ∃ z' b' m y p', m ≤ 5 ∧ F7_undo b = some (b', .inr (nI m)) ∧ F8_undo z = some (z', nI m) ∧ z' 43 7 = 0 ∧ InvD t y p' s z' b' := by
  obtain ⟨hB, hW, hZ, hS, ⟨p1, p2, p3, p4, ⟨n, p5, p6, p7⟩, p8⟩, hN, hC⟩ := hI
  obtain ⟨m, hm⟩ : ∃ m, p.length = m + 1 := ⟨p.length - 1, by omega⟩
  have hm5 : m ≤ 5 := by omega
  obtain ⟨y, hy⟩ : ∃ y, p[m]? = some y := ⟨p[m]'(by omega), List.getElem?_eq_getElem (by omega)⟩
  obtain ⟨w1, w2⟩ := p7 m y hy
  obtain ⟨v1, v2⟩ := p4 m y hy
  have en : (n + 7 + m - p.length) % 6 = n := by omega
  rw [en] at w1 w2
  obtain ⟨n', hn'⟩ : ∃ q, q = (if n = 0 then 5 else n - 1) := ⟨_, rfl⟩
  obtain ⟨b1, hb1⟩ : ∃ q, q = cpS b 70 (72 + 2 * n) := ⟨_, rfl⟩
  have r1 : ∀ u, u ≠ 70 → b1.1 u = b.1 u := fun u hu => by rw [hb1]; exact cpS_row b hu
  have r2 : ∀ u, u ≠ 70 → u ≠ 71 → b1.2.1 u = b.2.1 u := fun u h1 h2 => by
    rw [hb1]
    show (if u = 70 then _ else if u = 70 + 1 then _ else b.2.1 u) = _
    rw [if_neg h1, if_neg h2]
  have x1 : Ext b b1 := by rw [hb1]; exact cpS_ext b (by decide)
  have x3 : Ext b (setI (setI b1 63 2 (nI n')) 63 3 (nI m)) := (x1.tr (setI_ext b1 (by decide))).tr (setI_ext _ (by decide))
  have hS1 : SBb b1 70 y := by rw [hb1]; exact cpS_SBb hS.1 (by omega) w2
  have hS3 : SBb (setI (setI b1 63 2 (nI n')) 63 3 (nI m)) 70 y := hS1.ext ((setI_ext b1 (by decide)).tr (setI_ext _ (by decide))) (by rw [setI_other _ (by decide), setI_other _ (by decide)]) rfl rfl
  have hC1 : Closed b1 := by rw [hb1]; exact cpS_closed hC
  have e33 : (setI (setI b1 63 2 (nI n')) 63 3 (nI m)).1 63 3 = nI m := setI_at _ _ _ _
  have e32 : (setI (setI b1 63 2 (nI n')) 63 3 (nI m)).1 63 2 = nI n' := by rw [setI_ne _ (by omega), setI_at]
  have b3r : ∀ u, u ≠ 70 → u ≠ 63 → (setI (setI b1 63 2 (nI n')) 63 3 (nI m)).1 u = b.1 u := fun u h1 h2 => by rw [setI_other _ h2, setI_other _ h2, r1 u h1]
  have b3q : ∀ u, u ≠ 70 → u ≠ 71 → (setI (setI b1 63 2 (nI n')) 63 3 (nI m)).2.1 u = b.2.1 u := fun u h1 h2 => r2 u h1 h2
  have hres : F2_restoreSaved b 70 = some (setI (setI b1 63 2 (nI n')) 63 3 (nI m), 1) := by
    unfold F2_restoreSaved
    refine jp_go <| if_no (by rw [p3]; exact nI_nle (by omega) (by omega)) <| if_no (by rw [p6]; exact nI_pos (by omega)) <| if_go (by rw [p6]; exact nI_lt (by omega) (by decide)) <| ro_go p6 p5 (by decide) w1 <| on_so rfl <| ck_go hS.1 <| bn_go (F5_copyFrom_eq hS.1 w2.1 (by omega) w2.tok) ?_
    rw [← hb1]
    refine jp_go ?_
    have e6 : b1.1 63 2 = nI n := by rw [r1 63 (by decide)]; exact p6
    have e3 : ∀ v, (setI b1 63 2 v).1 63 3 = nI (m + 1) := fun v => by rw [setI_ne _ (by omega), r1 63 (by decide), p3, hm]
    have last : ∀ v : Int32, v = nI n' → bd (setI b1 63 2 v) (fun b38 => bd (setI b38 63 3 ((b38.1 63 3) - 1)) fun b41 => bz 1 (some (b41, (1 : Int32)))) = some (setI (setI b1 63 2 (nI n')) 63 3 (nI m), 1) := by
      rintro v rfl
      refine bd_go <| bd_go <| bz_go (Or.inr rfl) ?_
      rw [e3, nI_pred]
    rw [e6]
    by_cases c : n = 0
    · rw [if_pos c] at hn'
      exact if_go (by rw [c]; decide) (last 5 (by rw [hn']; rfl))
    · rw [if_neg c] at hn'
      refine if_no (nI_nle (by omega) (by omega)) (last (nI n - 1) ?_)
      obtain ⟨q, rfl⟩ : ∃ q, n = q + 1 := ⟨n - 1, by omega⟩
      rw [nI_pred, hn']; rfl
  have r0' : ∀ u, u ≠ 43 → up2 (rfs z 0) 43 2 (nI m) u = z u := fun u hu => by rw [up2_ne _ hu]; exact rfs_a _ _ hu
  obtain ⟨z7, hz7⟩ : ∃ q, q = up2 (rfs z 0) 43 2 (nI m) := ⟨_, rfl⟩
  rw [← hz7] at r0'
  have z72 : z7 43 2 = nI m := by rw [hz7, up2_at, if_pos ⟨rfl, rfl⟩]
  have z7k : ∀ k, k ≠ 2 → z7 43 k = rfs z 0 43 k := fun k hk => by rw [hz7, up2_at, if_neg (fun q => hk q.2)]
  have hZ' : ZS (sr z7 0 (pt (z7 0) 0 2153 (fun j => z7 1 (2153 * m + j))) 0) y := by
    rw [sr_at]
    exact ZS.congr v1 (fun i hi => by rw [pt0_in hi, r0' 1 (by decide)]) v2
  refine ⟨sr z7 0 (pt (z7 0) 0 2153 (fun j => z7 1 (2153 * m + j))), setI (setI b1 63 2 (nI n')) 63 3 (nI m), m, y, p.take m, hm5, ?_, ?_, ?_, ?_, v1, hZ', hS3, ?_, ?_, hC1⟩
  · unfold F7_undo
    refine bn2_go hres (if_go (by decide) ?_)
    rw [e33]
  · unfold F8_undo
    refine jp_go <| if_go (by rw [p2]; exact nI_neq (b := 0) (by omega) (by decide) (by omega)) <| bn2_go (F8_refused0 z) <| if_go rfl <| bd_go ?_
    have ez : rfs z 0 43 2 - 1 = nI m := by rw [rfs_ne _ _ (by decide), p2, hm, nI_pred]
    rw [ez, ← hz7]
    have e0 : ((0 : Int32), z7) = (fun j => (nI j, sr z7 0 (pt (z7 0) 0 j (fun j => z7 1 (2153 * m + j))))) 0 := by
      show _ = (nI 0, _)
      rw [pt_0, sr_self]; rfl
    rw [e0]
    refine Loop_seq (fun j => (nI j, sr z7 0 (pt (z7 0) 0 j (fun j => z7 1 (2153 * m + j))))) 2153 (fun j hj => ?_) ?_
    · refine if_no (nI_ge (b := 2153) hj (by decide)) <| rd_go (v := z7 1 (2153 * m + j)) (k := 2153 * m + j) ?_ (by omega) (by decide) (congrFun (sr_ne z7 (a := 0) (u := 1) (pt (z7 0) 0 j (fun j => z7 1 (2153 * m + j))) (by decide)) (2153 * m + j)) <| wr_go rfl hj (by decide) <| bd_go ?_
      · show (2153 * sr z7 0 (pt (z7 0) 0 j (fun j => z7 1 (2153 * m + j))) 43 2) + nI j = _
        rw [sr_ne _ _ (by decide), z72]
        show (nI 2153 * nI m) + nI j = _
        rw [nI_mul, nI_add]
      · dsimp only
        have q := pt_s (z7 0) 0 j (fun j => z7 1 (2153 * m + j))
        rw [Nat.zero_add] at q
        rw [sr_up, q, nI_1]
    · refine if_go (show (2153 : Int32) ≤ nI 2153 by decide) ?_
      dsimp only
      rw [sr_ne _ _ (by decide), z72]
  · rw [sr_ne _ _ (by decide), z7k 7 (by decide)]; exact rfs7 z 0
  · refine hB.of ?_ ?_ ?_ ?_
    · rw [sr_ne _ _ (by decide), z7k 6 (by decide)]; exact rfs_ne _ _ (by decide)
    · rw [sr_ne _ _ (by decide), r0' 5 (by decide)]
    · rw [b3r 50 (by decide) (by decide)]
    · rw [b3r 51 (by decide) (by decide)]
  · have hl : (p.take m).length = m := by rw [List.length_take]; omega
    have hg : ∀ i x, (p.take m)[i]? = some x → i < m ∧ p[i]? = some x := by
      intro i x hx
      rw [List.getElem?_take] at hx
      by_cases c : i < m
      · rw [if_pos c] at hx; exact ⟨c, hx⟩
      · rw [if_neg c] at hx; cases hx
    refine ⟨by omega, ?_, ?_, fun i x hx => ?_, ⟨n', ?_, e32, fun i x hx => ?_⟩, fun k hk => ?_⟩
    · rw [sr_ne _ _ (by decide), z72, hl]
    · rw [e33, hl]
    · rw [sr_ne _ _ (by decide), r0' 1 (by decide)]
      exact p4 i x (hg i x hx).2
    · rw [hn']; split <;> omega
    · obtain ⟨hi, hx⟩ := hg i x hx
      obtain ⟨q1, q2⟩ := p7 i x hx
      have ei : (n' + 7 + i - (p.take m).length) % 6 = (n + 7 + i - p.length) % 6 := by
        rw [hl, hn', hm]
        by_cases c : n = 0
        · rw [if_pos c]; omega
        · rw [if_neg c]; omega
      rw [ei]
      have hj : (n + 7 + i - p.length) % 6 < 6 := Nat.mod_lt _ (by decide)
      revert hj q1 q2
      generalize (n + 7 + i - p.length) % 6 = j
      intro q1 q2 hj
      exact ⟨by rw [b3q 64 (by decide) (by decide)]; exact q1, q2.ext x3 (b3r _ (by omega) (by omega)) (b3q _ (by omega) (by omega)) (b3q _ (by omega) (by omega))⟩
    · rw [b3q 64 (by decide) (by decide), show (setI (setI b1 63 2 (nI n')) 63 3 (nI m)).2.2 = b.2.2 by rw [hb1]; rfl]
      exact p8 k hk
  · refine hN.ext ?_ ?_ x3 (b3q 65 (by decide) (by decide)) (fun k hk => ⟨b3r _ (by omega) (by omega), b3q _ (by omega) (by omega), b3q _ (by omega) (by omega)⟩) (fun k hk => by rw [hb1]; rfl)
    · rw [sr_ne _ _ (by decide), r0' 3 (by decide)]
    · rw [sr_ne _ _ (by decide), r0' 4 (by decide)]
/-- the buffer laid as a letter's text -/

theorem InvD.buf {z z' : MS} {b b' : BS} {t t' : Tx} {a : AS} {p : List AS} {s : Nat → Option AS} (hz : SmZ2 z z') (hb : SmB2 b b') (ht : Buf z' b' t') (g : InvD t a p s z b) : InvD t' a p s z' b' := by
  obtain ⟨g1, g2, g3, g4, g5, g6, g7⟩ := g
  refine ⟨ht, g2, ?_, g4.sm hb, g5.sm hz hb, g6.sm hz hb, ?_⟩
  · rw [hz.1]; exact g3
  · unfold Closed; rw [hb.1]; exact g7

theorem X_append {z : MS} {b : BS} {t : Tx} {a : AS} {p : List AS} {s : Nat → Option AS} (hI : InvD t a p s z b) {c : Int32} (hc : inB c 33 126 = true) (hl : t.length < 60) : ∃ z' b', F7_append b c = some (b', .inr (nI (t.length + 1))) ∧ F8_append z c = some (z', nI (t.length + 1)) ∧ z' 43 7 = 0 ∧ InvD (t ++ [c]) a p s z' b' := by
  have hB := hI.1
  obtain ⟨h1, h2, h3, h4, h5⟩ := hB
  have e8 : F8_append z c = (if inB c 33 126 = true then (if t.length = 60 then some (rfs z 2, 0) else some (up2 (up2 (rfs z 0) 5 t.length c) 43 6 (nI (t.length + 1)), nI (t.length + 1))) else some (rfs z 1, 0)) := by
    unfold F8_append
    rw [F8_in_eq]
    simp only [bn, jp]
    by_cases hc : inB c 33 126 = true
    · rw [if_pos (bI_n.mpr hc), if_pos hc]
      by_cases hl : t.length = 60
      · rw [if_pos hl, if_neg (fun q => q (by rw [h2, hl]; rfl)), F8_refusedP _ _ (by decide)]
        simp only [bn2]; rw [if_neg (by decide)]
      · rw [if_neg hl, if_pos (by rw [h2]; intro q; exact hl ((nI_eq (by omega) (by decide)).mp (q.trans (rfl : (60 : Int32) = nI 60)))), F8_refused0]
        simp only [bn2]
        rw [if_pos (by decide), rfs_ne _ _ (by decide), h2, wr_nI (by omega) (by decide)]
        simp only [bd]
        rw [up2_ne _ (by decide), rfs_ne _ _ (by decide), h2, nI_1, up2_at, if_pos ⟨rfl, rfl⟩]
    · rw [if_neg (fun q => hc (bI_n.mp q)), if_neg hc, F8_refusedP _ _ (by decide)]
      simp only [bn2]; rw [if_neg (by decide)]
  have e7 : F7_append b c = (if inB c 33 126 = true then (if t.length = 60 then some (b, .inl 3) else some (setI (setI b 51 t.length c) 50 6 (nI (t.length + 1)), .inr (nI (t.length + 1)))) else some (b, .inl 2)) := by
    unfold F7_append
    simp only [jp]
    by_cases hc : inB c 33 126 = true
    · rw [if_pos hc]
      unfold inB at hc
      rw [Bool.and_eq_true, decide_eq_true_iff, decide_eq_true_iff] at hc
      rw [if_neg (Int32.not_lt.mpr hc.1), if_pos hc.2, h4, if_neg (nI_pos (by omega))]
      by_cases hl : t.length = 60
      · rw [if_pos hl, if_neg (nI_nlt (by omega) (by omega))]
      · rw [if_neg hl, if_pos (nI_lt (by omega) (by decide)), wb_lit rfl (by omega) (by decide)]
        simp only [bd]
        have e : (setI b 51 t.length c).1 50 6 = nI t.length := by
          show up2 b.1 51 t.length c 50 6 = _
          rw [up2_ne _ (by decide), h4]
        rw [e, nI_1]
        rw [setI_at]
    · rw [if_neg hc]
      by_cases h1 : c < 33
      · rw [if_pos h1]
      · rw [if_neg h1, if_neg]
        intro h2
        refine hc ?_
        unfold inB
        rw [decide_eq_true (Int32.not_lt.mp h1), decide_eq_true h2]; rfl
  rw [if_pos hc, if_neg (by omega)] at e7 e8
  refine ⟨_, _, e7, e8, ?_, hI.buf (t' := t ++ [c]) ?_ ?_ ?_⟩
  · rw [up2_at, if_neg (by decide), up2_ne _ (by decide)]; exact rfs7 _ _
  · exact ⟨rfl, rfl, rfl, rfl, rfl⟩
  · refine ⟨rfl, fun j hj => ?_⟩
    show up2 (up2 b.1 51 t.length c) 50 6 (nI (t.length + 1)) j = _
    rw [up2_ne _ (by omega), up2_ne _ (by omega)]
  · refine ⟨by simp; omega, ?_, ?_, ?_, ?_⟩
    · rw [up2_at, if_pos ⟨rfl, rfl⟩]; simp
    · rw [up2_ne _ (by decide), up2_same]
      exact hold_push h3
    · rw [setI_at]; simp
    · show hold (up2 (up2 b.1 51 t.length c) 50 6 (nI (t.length + 1)) 51) _
      rw [up2_ne _ (by decide), up2_same]
      exact hold_push h5

theorem X_clear {z : MS} {b : BS} {t : Tx} {a : AS} {p : List AS} {s : Nat → Option AS} (hI : InvD t a p s z b) : ∃ z' b', F7_clearBuffer b = some (b', nI t.length) ∧ F8_clearBuffer z = some (z', nI t.length) ∧ InvD [] a p s z' b' := by
  have hB := hI.1
  refine ⟨up2 (rfs z 0) 43 6 0, setI b 50 6 0, ?_, ?_, ?_⟩
  · unfold F7_clearBuffer; simp only [bd]; rw [hB.2.2.2.1]
  · unfold F8_clearBuffer; simp only [bd]
    have : up2 z 43 7 0 43 6 = nI t.length := (rfs_ne z 0 (by decide)).trans hB.2.1
    rw [this]; rfl
  · refine hI.buf (t' := []) ?_ ?_ ?_
    · exact ⟨rfl, rfl, rfl, rfl, rfl⟩
    · exact ⟨rfl, fun j hj => up2_ne _ (by omega)⟩
    · refine ⟨Nat.zero_le _, ?_, fun j hj => absurd hj (by simp), ?_, fun j hj => absurd hj (by simp)⟩
      · rw [up2_at, if_pos ⟨rfl, rfl⟩]; rfl
      · exact setI_at _ _ _ _

theorem X_length {z : MS} {b : BS} {t0 : Tx} {a : AS} {p : List AS} {s : Nat → Option AS} (hI : InvD t0 a p s z b) {L : Nat} (hL1 : 1 ≤ L) (hL12 : L ≤ 12) (hL : a.2.2.1 = nI L) {k len : Nat} (hk : k < 26) (hlen : len ≤ 20) : ∃ z' b', F7_lengthOf b (nI k) (nI len) = some (b', .inr (lnV a L k len)) ∧ F8_lengthOf z (nI k) (nI len) = some (z', lnV a L k len) ∧ z' 43 7 = 0 ∧ InvD t0 a p s z' b' := by
  obtain ⟨b', e7, hs⟩ := V_length hI.2.1 hI.2.2.2.1 hL12 hL hk hlen
  have hW := hI.2.1
  have hZr : ZS (rfs z 0 0) a := hI.2.2.1.rfs 0
  have hdf := F8_isDefined_eq hZr hk (fun t e => (hW.1 k t e).2)
  have hx := nI_letter hk
  have hy : inB (nI len) 0 20 = true := inB_of (n := 20) rfl (by decide) hlen
  cases e : a.1 k with
  | none =>
    rw [e] at hdf
    have ev : lnV a L k len = -1 := by unfold lnV; rw [e]
    refine ⟨rfs z 0, b', e7, ?_, rfs7 _ _, hI.sm (SmZ.rfs z 0) hs⟩
    rw [ev]
    unfold F8_lengthOf
    exact bn_go (F8_isLetter_eq _) <| jp_go <| if_go (by rw [hx]; decide) <| bn_go (F8_in_eq _ _ _) <| if_no (by rw [hy]; decide) <| bn2_go (F8_refused0 z) <| if_go rfl <| bn_go hdf <| if_no (fun q => q rfl) rfl
  | some t =>
    rw [e] at hdf
    obtain ⟨z12, z14, z', xr, v, f1, f2, f3, f4, f5, f6, f7⟩ := lengthZ_ok hW hL hL1 hL12 hZr hk e hlen
    have ev : lnV a L k len = v := by unfold lnV; rw [e, f7]
    refine ⟨z', b', e7, ?_, ?_, hI.sm ((SmZ.rfs z 0).tr f4) hs⟩
    · rw [ev]
      unfold F8_lengthOf
      exact bn_go (F8_isLetter_eq _) <| jp_go <| if_go (by rw [hx]; decide) <| bn_go (F8_in_eq _ _ _) <| if_no (by rw [hy]; decide) <| bn2_go (F8_refused0 z) <| if_go rfl <| bn_go hdf <| if_go (by show ¬ bI true = 0; decide) <| bn_go f1 <| bd_go <| bn_go f2 <| bn2_go f3 f6
    · rw [f5]; exact rfs7 _ _
theorem X_body1 {z : MS} {b : BS} {t0 : Tx} {a : AS} {p : List AS} {s : Nat → Option AS} (hI : InvD t0 a p s z b) {k : Nat} (hk : k < 26) : ∃ z', F7_body b (nI k) 1 = some (b, .inr (bdV a k 1)) ∧ F8_body z (nI k) 1 = some (z', bdV a k 1) ∧ z' 43 7 = 0 ∧ InvD t0 a p s z' b := by
  have hW := hI.2.1
  have hZr : ZS (rfs z 0 0) a := hI.2.2.1.rfs 0
  have hdf := F8_isDefined_eq hZr hk (fun t e => (hW.1 k t e).2)
  have hx := nI_letter hk
  refine ⟨rfs z 0, V_body hI.2.2.2.1 hk (by decide), ?_, rfs7 _ _, hI.rf0 0⟩
  cases e : a.1 k with
  | none =>
    rw [e] at hdf
    rw [bdV_none e]
    unfold F8_body
    exact bn_go (F8_isLetter_eq _) <| jp_go <| if_go (by rw [hx]; decide) <| bn_go (F8_in_eq _ _ _) <| if_no (by decide) <| bn2_go (F8_refused0 z) <| if_go rfl <| bn_go hdf <| if_no (fun q => q rfl) rfl
  | some t =>
    rw [e] at hdf
    rw [bdV_some e]
    have h0 : rfs z 0 0 k = nI t.length := by have q := hZr.1 k hk; rw [e] at q; exact q
    unfold F8_body
    refine bn_go (F8_isLetter_eq _) <| jp_go <| if_go (by rw [hx]; decide) <| bn_go (F8_in_eq _ _ _) <| if_no (by decide) <| bn2_go (F8_refused0 z) <| if_go rfl <| bn_go hdf <| if_go (by show ¬ bI true = 0; decide) <| if_no (by decide) <| if_go rfl <| rd_go rfl (by omega) (by decide) h0 <| bn_go (F8_holesOf_eq (hZr.src hW hk e) (Nat.le_refl _)) ?_
    rw [List.take_length]; rfl
