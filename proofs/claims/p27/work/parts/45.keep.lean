/-! PURE: what saving keeps; the current state changed -/
theorem getElem?_pushed {p : List AS} {a x : AS} {i : Nat} (h : (p ++ [a])[i]? = some x) : (i < p.length ∧ p[i]? = some x) ∨ (i = p.length ∧ x = a) := by
  rcases Nat.lt_or_ge i p.length with c | c
  · rw [List.getElem?_append_left c] at h; exact Or.inl ⟨c, h⟩
  · rw [List.getElem?_append_right c] at h
    rcases Nat.eq_zero_or_pos (i - p.length) with d | d
    · rw [d] at h; cases h; exact Or.inr ⟨by omega, rfl⟩
    · rw [List.getElem?_eq_none (by simp; omega)] at h; cases h
theorem Snap.ext {z z' : MS} {b b' : BS} {s : Nat → Option AS} (h3 : z' 3 = z 3) (h4 : z' 4 = z 4) (hE : Ext b b') (h65 : b'.2.1 65 = b.2.1 65) (hr : ∀ k, k < 2 → b'.1 (84 + 2 * k) = b.1 (84 + 2 * k) ∧ b'.2.1 (84 + 2 * k) = b.2.1 (84 + 2 * k) ∧ b'.2.1 (84 + 2 * k + 1) = b.2.1 (84 + 2 * k + 1)) (hl : ∀ k, k < 2 → lvB b'.2.2 (84 + 2 * k) = lvB b.2.2 (84 + 2 * k)) (g : Snap z b s) : Snap z' b' s := by
  intro k hk
  have q := g k hk
  cases e : s k with
  | none =>
    rw [e] at q
    dsimp only at q ⊢
    rw [h4, h65, hl k hk]; exact q
  | some a =>
    rw [e] at q
    dsimp only at q ⊢
    rw [h4, h65, h3]
    obtain ⟨r1, r2, r3⟩ := hr k hk
    exact ⟨q.1, q.2.1, q.2.2.1, q.2.2.2.1, q.2.2.2.2.ext hE r1 r2 r3⟩
set_option maxHeartbeats 1000000 in
theorem save_inv {t : Tx} {a : AS} {p : List AS} {s : Nat → Option AS} {z : MS} {b : BS} (h : InvD t a p s z b) : ∃ z' b' p', F8_saves z = some z' ∧ F2_saveState b 70 = some b' ∧ InvD t a p' s z' b' ∧ Gr b b' ∧ z' 43 7 = z 43 7 ∧ (∀ u, u < 63 → b'.1 u = b.1 u) ∧ z' 43 17 = z 43 17 := by
  obtain ⟨hB, hW, hZ, hS, ⟨p1, p2, p3, p4, ⟨n, p5, p6, p7⟩, p8⟩, hN, hC⟩ := h
  obtain ⟨m, row, hm, e8, r1, r2⟩ := F8_saves_eq p1 p2
  obtain ⟨n', hn'⟩ : ∃ q, q = (n + 1) % 6 := ⟨_, rfl⟩
  have hn6 : n' < 6 := by rw [hn']; exact Nat.mod_lt _ (by decide)
  obtain ⟨b1, hb1⟩ : ∃ q, q = setI b 63 2 (nI n') := ⟨_, rfl⟩
  have g70 : SBb b1 70 a := by
    rw [hb1]
    have x : Ext b (setI b 63 2 (nI n')) := ⟨fun _ h => h, fun j hj _ => ⟨setI_other b (a := 63) (by omega), rfl⟩⟩
    exact hS.ext x (setI_other b (a := 63) (by decide)) rfl rfl
  have hC1 : Closed b1 := by rw [hb1]; exact hC
  have hst : (b1.2.1 64 n' = none ∧ lvB b1.2.2 (72 + 2 * n') = false) ∨ (b1.2.1 64 n' = some (72 + 2 * n') ∧ lvB b1.2.2 (72 + 2 * n') = true) := by rw [hb1]; exact p8 n' hn6
  obtain ⟨b2, c1, c2, c3, c4, c5, c6, c7, c8, c9, c10⟩ := copyInto_eq (P := 64) (k := n') (i := 72 + 2 * n') (Or.inl ⟨rfl, hn6, rfl⟩) hC1 g70 hst
  obtain ⟨b3, hb3⟩ : ∃ q, q = (if (6 : Int32) ≤ b2.1 63 3 then b2 else setI b2 63 3 (b2.1 63 3 + 1)) := ⟨_, rfl⟩
  obtain ⟨p', hp'⟩ : ∃ q, q = (if p.length = 6 then p.tail else p) ++ [a] := ⟨_, rfl⟩
  have hpl : (if p.length = 6 then p.tail else p).length = m := by
    rw [hm]
    by_cases c : p.length = 6
    · rw [if_pos c, if_pos c, List.length_tail, c]
    · rw [if_neg c, if_neg c]
  have hp'l : p'.length = m + 1 := by rw [hp', List.length_append, hpl]; rfl
  have hm5 : m ≤ 5 := by rw [hm]; split <;> omega
  have hold : ∀ i x, (if p.length = 6 then p.tail else p)[i]? = some x → p[i + (p.length - m)]? = some x := by
    intro i x hx
    by_cases c : p.length = 6
    · rw [if_pos c] at hx hm
      rw [List.getElem?_tail] at hx
      rw [hm, c]; exact hx
    · rw [if_neg c] at hx hm
      rw [hm, Nat.sub_self]; exact hx
  have e633 : b2.1 63 3 = nI p.length := by
    rw [c8 63 (by decide) (by omega), hb1, setI_ne _ (by omega)]; exact p3
  have b3x : b3.2 = b2.2 ∧ (∀ u, u ≠ 63 → b3.1 u = b2.1 u) ∧ b3.1 63 3 = nI (m + 1) ∧ b3.1 63 2 = nI n' := by
    rw [hb3, e633]
    have e2 : b2.1 63 2 = nI n' := by rw [c8 63 (by decide) (by omega), hb1, setI_at]
    by_cases c : p.length = 6
    · rw [if_pos (by rw [c]; decide)]
      refine ⟨rfl, fun _ _ => rfl, ?_, e2⟩
      rw [e633, hm, if_pos c, c]
    · rw [if_neg (show ¬ (6 : Int32) ≤ nI p.length from nI_ge (b := 6) (by omega) (by decide))]
      refine ⟨rfl, fun u hu => setI_other _ hu, ?_, ?_⟩
      · rw [setI_at, nI_1, hm, if_neg c]
      · rw [setI_ne _ (by omega)]; exact e2
  have x01 : Ext b b1 := by rw [hb1]; exact ⟨fun _ h => h, fun j hj _ => ⟨setI_other _ (by omega), rfl⟩⟩
  have x23 : Ext b2 b3 := ⟨fun i hi => by rw [b3x.1]; exact hi, fun j hj _ => ⟨b3x.2.1 j (by omega), by rw [b3x.1]⟩⟩
  have x03 : Ext b b3 := (x01.tr c2).tr x23
  have i63 : ∀ u, u < 63 → b3.1 u = b.1 u := fun u hu => by rw [b3x.2.1 u (by omega), c8 u (by omega) (by omega), hb1, setI_other _ (by omega)]
  have row70 : b3.1 70 = b.1 70 := by rw [b3x.2.1 70 (by decide), c8 70 (by decide) (by omega), hb1, setI_other _ (by decide)]
  have rows : ∀ u, 66 ≤ u → u < 100 → u ≠ 72 + 2 * n' → u ≠ 72 + 2 * n' + 1 → b3.1 u = b.1 u ∧ b3.2.1 u = b.2.1 u := by
    intro u h1 h2 h3 h4
    refine ⟨?_, ?_⟩
    · rw [b3x.2.1 u (by omega), c8 u h2 h3, hb1, setI_other _ (by omega)]
    · rw [b3x.1, c7 u (by omega) h3 h4, hb1]; rfl
  refine ⟨_, b3, p', e8, ?_, ⟨?_, hW, ?_, ?_, ⟨?_, ?_, ?_, ?_, ⟨n', hn6, b3x.2.2.2, ?_⟩, ?_⟩, ?_, ?_⟩, x03.1, ?_, i63, ?_⟩
  · unfold F2_saveState
    refine bd_go ?_
    rw [p6, nI_1]
    have : (if (6 : Int32) ≤ nI (n + 1) then (0 : Int32) else nI (n + 1)) = nI n' := by
      rw [hn']
      by_cases c : n + 1 = 6
      · rw [c, if_pos (by decide)]; rfl
      · rw [if_neg (show ¬ (6 : Int32) ≤ nI (n + 1) from nI_ge (b := 6) (by omega) (by decide)), Nat.mod_eq_of_lt (by omega)]
    rw [this, ← hb1]
    have e2 : b1.1 63 2 = nI n' := by rw [hb1, setI_at]
    rw [e2]
    refine bn_go c1 ?_
    rw [hb3]
    by_cases c : (6 : Int32) ≤ b2.1 63 3
    · rw [if_pos c, if_pos c]
    · rw [if_neg c, if_neg c]
  · obtain ⟨q1, q2, q3, q4, q5⟩ := hB
    refine ⟨q1, ?_, ?_, ?_, ?_⟩
    · rw [up2_at, if_neg (by decide), sr_ne _ _ (by decide)]; exact q2
    · rw [up2_ne _ (by decide), sr_ne _ _ (by decide)]; exact q3
    · rw [i63 50 (by decide)]; exact q4
    · rw [i63 51 (by decide)]; exact q5
  · rw [up2_ne _ (by decide), sr_ne _ _ (by decide)]; exact hZ
  · exact hS.ext x03 row70 (rows 70 (by decide) (by decide) (by omega) (by omega)).2 (rows 71 (by decide) (by decide) (by omega) (by omega)).2
  · omega
  · rw [up2_at, if_pos ⟨rfl, rfl⟩, hp'l]
  · rw [hp'l]; exact b3x.2.2.1
  · intro i x hx
    rw [hp'] at hx
    rcases getElem?_pushed hx with ⟨hi, hx⟩ | ⟨hi, rfl⟩
    · rw [hpl] at hi
      obtain ⟨w1, w2⟩ := p4 _ x (hold i x hx)
      refine ⟨w1, ZS.congr w1 (fun k hk => ?_) w2⟩
      rw [up2_ne _ (by decide), sr_at]
      exact r1 i k hi hk
    · rw [hpl] at hi
      subst hi
      refine ⟨hW, ZS.congr hW (fun k hk => ?_) hZ⟩
      rw [up2_ne _ (by decide), sr_at]
      exact r2 k hk
  · intro i x hx
    rw [hp'l]
    rw [hp'] at hx
    rcases getElem?_pushed hx with ⟨hi, hx⟩ | ⟨hi, rfl⟩
    · rw [hpl] at hi
      have hx2 := hold i x hx
      obtain ⟨w1, w2⟩ := p7 _ x hx2
      have hil : i + (p.length - m) < p.length := by
        rcases Nat.lt_or_ge (i + (p.length - m)) p.length with c | c
        · exact c
        · rw [List.getElem?_eq_none c] at hx2; cases hx2
      have ei : (n' + 7 + i - (m + 1)) % 6 = (n + 7 + (i + (p.length - m)) - p.length) % 6 := by
        have hmp : m ≤ p.length := by rw [hm]; split <;> omega
        rcases (show n + 1 = 6 ∨ n + 1 < 6 by omega) with c | c
        · have : n' = 0 := by rw [hn', c]
          omega
        · have : n' = n + 1 := by rw [hn', Nat.mod_eq_of_lt c]
          omega
      rw [ei]
      obtain ⟨j, hj⟩ : ∃ q, q = (n + 7 + (i + (p.length - m)) - p.length) % 6 := ⟨_, rfl⟩
      rw [← hj] at w1 w2 ⊢
      have hj6 : j < 6 := by rw [hj]; exact Nat.mod_lt _ (by decide)
      have hjn : j ≠ n' := by
        have hmp : m ≤ p.length := by rw [hm]; split <;> omega
        have hpm : p.length ≤ m + 1 := by rw [hm]; split <;> omega
        rcases (show n + 1 = 6 ∨ n + 1 < 6 by omega) with c | c
        · have : n' = 0 := by rw [hn', c]
          omega
        · have : n' = n + 1 := by rw [hn', Nat.mod_eq_of_lt c]
          omega
      refine ⟨?_, ?_⟩
      · rw [b3x.1, c6 j hjn, hb1]; exact w1
      · obtain ⟨q1, q2⟩ := rows (72 + 2 * j) (by omega) (by omega) (by omega) (by omega)
        exact w2.ext x03 q1 q2 (rows (72 + 2 * j + 1) (by omega) (by omega) (by omega) (by omega)).2
    · rw [hpl] at hi
      subst hi
      have ei : (n' + 7 + i - (i + 1)) % 6 = n' := by omega
      rw [ei]
      refine ⟨by rw [b3x.1]; exact c5, ?_⟩
      exact c4.ext x23 (b3x.2.1 _ (by omega)) (by rw [b3x.1]) (by rw [b3x.1])
  · intro k hk
    rw [b3x.1]
    by_cases c : k = n'
    · subst c; exact Or.inr ⟨c5, c10⟩
    · rw [c6 k c, c9 (72 + 2 * k) (by omega) (by omega) (by omega) (by omega), hb1]; exact p8 k hk
  · refine hN.ext ?_ ?_ x03 ?_ ?_ ?_
    · rw [up2_ne _ (by decide), sr_ne _ _ (by decide)]
    · rw [up2_ne _ (by decide), sr_ne _ _ (by decide)]
    · rw [b3x.1, c7 65 (by decide) (by omega) (by omega), hb1]; rfl
    · intro k hk
      exact ⟨(rows _ (by omega) (by omega) (by omega) (by omega)).1, (rows _ (by omega) (by omega) (by omega) (by omega)).2, (rows _ (by omega) (by omega) (by omega) (by omega)).2⟩
    · intro k hk
      rw [b3x.1, c9 _ (by omega) (by omega) (by omega) (by omega), hb1]; rfl
  · unfold Closed; rw [b3x.1]; exact c3
  · rw [up2_at, if_neg (by decide), sr_ne _ _ (by decide)]
  · rw [up2_at, if_neg (by decide), sr_ne _ _ (by decide)]
/-- the current state changed, in both worlds -/
theorem InvD.cur {t t' : Tx} {a a' : AS} {p : List AS} {s : Nat → Option AS} {z z' : MS} {b b' : BS} (h : InvD t a p s z b) (hB : Buf z' b' t') (hW : WA a') (hZ : ZS (z' 0) a') (hz : z' 1 = z 1 ∧ z' 3 = z 3 ∧ z' 4 = z 4 ∧ z' 43 2 = z 43 2) (hE : Ext b b') (hr : ∀ u, 63 ≤ u → u < 100 → u ≠ 70 → u ≠ 71 → b'.1 u = b.1 u ∧ b'.2.1 u = b.2.1 u) (hl : ∀ j, 72 ≤ j → j < 88 → lvB b'.2.2 j = lvB b.2.2 j) (hS : SBb b' 70 a') (hC : Closed b') : InvD t' a' p s z' b' := by
  obtain ⟨-, -, -, -, ⟨p1, p2, p3, p4, ⟨n, p5, p6, p7⟩, p8⟩, hN, -⟩ := h
  obtain ⟨z1, z3, z4, z2⟩ := hz
  have h63 := hr 63 (by decide) (by decide) (by decide) (by decide)
  have h64 := hr 64 (by decide) (by decide) (by decide) (by decide)
  refine ⟨hB, hW, hZ, hS, ⟨p1, by rw [z2]; exact p2, by rw [h63.1]; exact p3, fun i x hx => by rw [z1]; exact p4 i x hx, ⟨n, p5, by rw [h63.1]; exact p6, fun i x hx => ?_⟩, fun k hk => ?_⟩, ?_, hC⟩
  · obtain ⟨w1, w2⟩ := p7 i x hx
    generalize (n + 7 + i - p.length) % 6 = j at w1 w2
    have kj := kd5 (okB_2 w2.1)
    rw [h64.2]
    have q1 := hr (72 + 2 * j) (by omega) (by omega) (by omega) (by omega)
    have q2 := hr (72 + 2 * j + 1) (by omega) (by omega) (by omega) (by omega)
    exact ⟨w1, w2.ext hE q1.1 q1.2 q2.2⟩
  · rw [h64.2, hl _ (by omega) (by omega)]; exact p8 k hk
  · refine hN.ext z3 z4 hE (hr 65 (by decide) (by decide) (by decide) (by decide)).2 (fun k hk => ?_) (fun k hk => hl _ (by omega) (by omega))
    have q1 := hr (84 + 2 * k) (by omega) (by omega) (by omega) (by omega)
    have q2 := hr (84 + 2 * k + 1) (by omega) (by omega) (by omega) (by omega)
    exact ⟨q1.1, q1.2, q2.2⟩
