/-! PURE: the class finishes a call -/
theorem listCall_eq {b : BS} {G : Gl} {O : List Nat} (h : CG b G O) (x0 x1 x2 x3 x4 x5 : Int32) : ∃ b', F1_listCall b x0 x1 x2 x3 x4 x5 = some b' ∧ Sx b b' ∧ CG b' (nte G [x0, x1, x2, x3, x4, x5]) O ∧ (∀ u, u ≠ 57 → u ≠ 62 → b'.1 u = b.1 u) ∧ ∀ k, k ≠ 8 → b'.1 57 k = b.1 57 k := by
  obtain ⟨h1, h2, h3, h4, h5, h6, h7, h8⟩ := id h
  unfold F1_listCall nte
  by_cases c : G.2.2.1.length < 360
  · rw [if_pos c]
    obtain ⟨m, hm⟩ : ∃ m, G.2.2.1.length = 6 * m := ⟨G.2.2.1.length / 6, by omega⟩
    have h1' : b.1 57 8 = nI m := by rw [h1, hm]; congr 1; omega
    obtain ⟨c1, e1⟩ : ∃ q, q = setI b 62 (6 * m) x0 := ⟨_, rfl⟩
    obtain ⟨c2, e2⟩ : ∃ q, q = setI c1 62 (6 * m + 1) x1 := ⟨_, rfl⟩
    obtain ⟨c3, e3⟩ : ∃ q, q = setI c2 62 (6 * m + 2) x2 := ⟨_, rfl⟩
    obtain ⟨c4, e4⟩ : ∃ q, q = setI c3 62 (6 * m + 3) x3 := ⟨_, rfl⟩
    obtain ⟨c5, e5⟩ : ∃ q, q = setI c4 62 (6 * m + 4) x4 := ⟨_, rfl⟩
    obtain ⟨c6, e6⟩ : ∃ q, q = setI c5 62 (6 * m + 5) x5 := ⟨_, rfl⟩
    have r : ∀ u, u ≠ 62 → c6.1 u = b.1 u := fun u hu => by rw [e6, setI_other _ hu, e5, setI_other _ hu, e4, setI_other _ hu, e3, setI_other _ hu, e2, setI_other _ hu, e1, setI_other _ hu]
    have r2 : c6.2 = b.2 := by rw [e6, e5, e4, e3, e2, e1]; rfl
    have v : ∀ i, c6.1 62 i = if i = 6 * m + 5 then x5 else if i = 6 * m + 4 then x4 else if i = 6 * m + 3 then x3 else if i = 6 * m + 2 then x2 else if i = 6 * m + 1 then x1 else if i = 6 * m then x0 else b.1 62 i := fun i => by rw [e6, setI_row_at, e5, setI_row_at, e4, setI_row_at, e3, setI_row_at, e2, setI_row_at, e1, setI_row_at]
    have hx : ∀ j, (nI m * 6) + nI j = nI (6 * m + j) := fun j => by
      show nI m * nI 6 + nI j = _
      rw [nI_mul, nI_add, Nat.mul_comm]
    refine ⟨setI c6 57 8 (nI (m + 1)), ?_, ⟨r2, fun j hj => ?_⟩, ⟨?_, ?_, ?_, fun k hk => ?_, ?_, ?_, ?_, h8⟩, fun u hu1 hu2 => ?_, fun k hk => ?_⟩
    · refine jp_go <| if_no (by rw [h1']; exact nI_pos (by omega)) <| if_go (by rw [h1']; exact nI_lt (b := 60) (by omega) (by decide)) <| bd_go ?_
      rw [h1']
      have h0 := hx 0
      refine wb_go (k := 6 * m) (by have := hx 0; rw [Nat.add_zero] at this; rw [← this]; exact (Int32.add_zero _).symm) (by omega) (by decide) ?_
      rw [← e1]
      refine wb_go (hx 1) (by omega) (by decide) ?_
      rw [← e2]
      refine wb_go (hx 2) (by omega) (by decide) ?_
      rw [← e3]
      refine wb_go (hx 3) (by omega) (by decide) ?_
      rw [← e4]
      refine wb_go (hx 4) (by omega) (by decide) ?_
      rw [← e5]
      refine wb_go (hx 5) (by omega) (by decide) ?_
      rw [← e6]
      refine bd_go ?_
      rw [r 57 (by decide), h1', nI_1]
    · rw [setI_other _ (by omega), r j (by omega)]
    · show (setI c6 57 8 (nI (m + 1))).1 57 8 = nI ((G.2.2.1 ++ [x0, x1, x2, x3, x4, x5]).length / 6)
      rw [setI_at, List.length_append, hm]
      show nI (m + 1) = nI ((6 * m + 6) / 6)
      congr 1; omega
    · rw [setI_ne _ (by omega), r 57 (by decide)]; exact h2
    · rw [setI_ne _ (by omega), r 57 (by decide)]; exact h3
    · rw [setI_ne _ (by omega), r 57 (by decide)]; exact h4 k hk
    · show hold ((setI c6 57 8 (nI (m + 1))).1 62) (G.2.2.1 ++ [x0, x1, x2, x3, x4, x5])
      rw [setI_other _ (by decide), hold_app]
      refine ⟨hold_congr (fun j hj => ?_) h5, fun j hj => ?_⟩
      · rw [v, if_neg (by omega), if_neg (by omega), if_neg (by omega), if_neg (by omega), if_neg (by omega), if_neg (by omega)]
      · dsimp only
        rw [v, hm]
        have hj6 : j < 6 := hj
        rcases (show j = 0 ∨ j = 1 ∨ j = 2 ∨ j = 3 ∨ j = 4 ∨ j = 5 by omega) with rfl | rfl | rfl | rfl | rfl | rfl
        · rw [if_neg (by omega), if_neg (by omega), if_neg (by omega), if_neg (by omega), if_neg (by omega), if_pos (by omega)]; rfl
        · rw [if_neg (by omega), if_neg (by omega), if_neg (by omega), if_neg (by omega), if_pos (by omega)]; rfl
        · rw [if_neg (by omega), if_neg (by omega), if_neg (by omega), if_pos (by omega)]; rfl
        · rw [if_neg (by omega), if_neg (by omega), if_pos (by omega)]; rfl
        · rw [if_neg (by omega), if_pos (by omega)]; rfl
        · rw [if_pos (by omega)]; rfl
    · show (G.2.2.1 ++ [x0, x1, x2, x3, x4, x5]).length % 6 = 0
      rw [List.length_append]; simp; omega
    · show (G.2.2.1 ++ [x0, x1, x2, x3, x4, x5]).length ≤ 360
      rw [List.length_append]; simp; omega
    · rw [setI_other _ hu1, r u hu2]
    · rw [setI_ne _ (by omega), r 57 (by decide)]
  · rw [if_neg c]
    refine ⟨b, jp_go <| if_no (by rw [h1]; exact nI_pos (by omega)) <| if_no (by rw [h1]; exact nI_nlt (b := 60) (by omega) (by omega)) rfl, Sx.rf b, h, fun _ _ _ => rfl, fun _ _ => rfl⟩
/-- whatever the state: never nothing -/
theorem listCall_any (b : BS) (x0 x1 x2 x3 x4 x5 : Int32) : ∃ b', F1_listCall b x0 x1 x2 x3 x4 x5 = some b' ∧ Sx b b' ∧ ∀ k, k ≠ 8 → b'.1 57 k = b.1 57 k := by
  unfold F1_listCall
  by_cases c0 : b.1 57 8 < 0
  · exact ⟨b, jp_go <| if_go c0 rfl, Sx.rf b, fun _ _ => rfl⟩
  · by_cases c1 : b.1 57 8 < 60
    · obtain ⟨m, hm⟩ : ∃ m : Nat, m < 60 ∧ b.1 57 8 = nI m := by
        obtain ⟨m, hm, e⟩ := nI_of c0
        refine ⟨m, ?_, e⟩
        rw [e] at c1
        exact (nI_ltI (b := 60) (by omega) (by decide)).mp c1
      have hx : ∀ j, (b.1 57 8 * 6) + nI j = nI (6 * m + j) := fun j => by
        rw [hm.2]
        show nI m * nI 6 + nI j = _
        rw [nI_mul, nI_add, Nat.mul_comm]
      have h0 : b.1 57 8 * 6 = nI (6 * m) := by have := hx 0; rw [Nat.add_zero] at this; rw [← this]; exact (Int32.add_zero _).symm
      refine ex_go (jp_go <| if_no c0 <| if_go c1 <| bd_go <| wb_go (k := 6 * m) h0 (by omega) (by decide) <| wb_go (hx 1) (by omega) (by decide) <| wb_go (hx 2) (by omega) (by decide) <| wb_go (hx 3) (by omega) (by decide) <| wb_go (hx 4) (by omega) (by decide) <| wb_go (hx 5) (by omega) (by decide) <| bd_go rfl) (ex_fo rfl ?_)
      · refine ⟨⟨rfl, fun j hj => ?_⟩, fun k hk => ?_⟩
        · rw [setI_other _ (by omega), setI_other _ (by omega), setI_other _ (by omega), setI_other _ (by omega), setI_other _ (by omega), setI_other _ (by omega), setI_other _ (by omega)]
        · rw [setI_ne _ (by omega), setI_other _ (by decide), setI_other _ (by decide), setI_other _ (by decide), setI_other _ (by decide), setI_other _ (by decide), setI_other _ (by decide)]
    · exact ⟨b, jp_go <| if_no c0 <| if_no c1 rfl, Sx.rf b, fun _ _ => rfl⟩
theorem takesMore_any (b : BS) (x : Int32) : ∃ p : Bool, F1_takesMore b x = some (bI p) := by
  have last : ∀ v : Int32, ∃ p : Bool, (jp (fun (x42 : Int32) => bz x42 (some x42)) fun k28 => jp (fun (_ : Unit) => k28 0) fun k30 => if (200 : Int32) < (((b.1 57 5) + x) - v) then k30 () else if (28380 : Int32) < ((b.1 57 5) + x) then k30 () else k28 1) = some (bI p) := by
    intro v
    by_cases c1 : (200 : Int32) < (((b.1 57 5) + x) - v)
    · exact ⟨false, jp_go <| jp_go <| if_go c1 bz0⟩
    · by_cases c2 : (28380 : Int32) < ((b.1 57 5) + x)
      · exact ⟨false, jp_go <| jp_go <| if_no c1 <| if_go c2 bz0⟩
      · exact ⟨true, jp_go <| jp_go <| if_no c1 <| if_no c2 bz1⟩
  unfold F1_takesMore
  by_cases c1 : b.1 57 6 - 1 < 0
  · obtain ⟨p, hp⟩ := last 0
    exact ⟨p, bd_go <| jp_go <| jp_go <| if_go c1 hp⟩
  · by_cases c2 : (854 : Int32) ≤ b.1 57 6 - 1
    · obtain ⟨p, hp⟩ := last 0
      exact ⟨p, bd_go <| jp_go <| jp_go <| if_no c1 <| if_go c2 hp⟩
    · obtain ⟨m, hm, e⟩ := nI_of c1
      have hm2 : m < 854 := by
        rw [e] at c2
        rcases Nat.lt_or_ge m 854 with q | q
        · exact q
        · exact absurd (nI_le (a := 854) q (by omega)) c2
      obtain ⟨p, hp⟩ := last (b.1 59 m)
      exact ⟨p, bd_go <| jp_go <| jp_go <| if_no c1 <| if_no c2 <| rd_go e hm2 (by decide) rfl hp⟩
theorem moveSigns_any {b : BS} {s d : Nat} (hs : s ≤ 28380) (hd : d ≤ 28380) (x : Int32) : ∃ b', F1_moveSigns b (nI s) (nI d) x = some b' ∧ b'.2 = b.2 ∧ ∀ u, u ≠ 58 → b'.1 u = b.1 u := by
  unfold F1_moveSigns
  by_cases hk : b.1 57 12 = 0
  · exact ⟨b, jp_go <| if_go hk rfl, rfl, fun _ _ => rfl⟩
  · refine ex_go (jp_go <| if_no hk <| if_no (nI_pos (by omega)) <| if_go (nI_pos' (by omega)) rfl) ?_
    refine Loop_tot (fun q => ∃ j : Nat, s + j ≤ 28380 ∧ q.1 = nI j ∧ q.2.2 = b.2 ∧ ∀ u, u ≠ 58 → q.2.1 u = b.1 u) (fun q => 28380 - q.1.toNatClampNeg) _ ?_ _ ?_
    · rintro ⟨x1, c⟩ ⟨j, hj, rfl, h2, h3⟩
      dsimp only at h2 h3
      by_cases c1 : x ≤ nI j
      · exact Or.inr ⟨c, jp_go <| if_go c1 rfl, h2, h3⟩
      · by_cases c2 : s + j < 28380
        · by_cases c3 : d + j < 28380
          · refine Or.inl ⟨(nI (j + 1), setI c 58 (d + j) (c.1 58 (s + j))), ?_, ⟨j + 1, by omega, rfl, h2, fun u hu => by dsimp only; rw [setI_other _ hu]; exact h3 u hu⟩, ?_⟩
            · refine jp_go <| if_no c1 <| if_no (show ¬ (28380 : Int32) ≤ nI s + nI j by rw [nI_add]; exact nI_ge (b := 28380) (by omega) (by omega)) <| if_no (show ¬ (28380 : Int32) ≤ nI d + nI j by rw [nI_add]; exact nI_ge (b := 28380) (by omega) (by omega)) <| rd_go (k := s + j) (nI_add _ _) (by omega) (by decide) rfl <| wb_go (k := d + j) (nI_add _ _) (by omega) (by decide) <| bd_go ?_
              rw [nI_1]
            · dsimp only
              rw [nI_clamp (by omega), nI_clamp (by omega)]; omega
          · exact Or.inr ⟨c, jp_go <| if_no c1 <| if_no (show ¬ (28380 : Int32) ≤ nI s + nI j by rw [nI_add]; exact nI_ge (b := 28380) (by omega) (by omega)) <| if_go (show (28380 : Int32) ≤ nI d + nI j by rw [nI_add]; exact nI_le (a := 28380) (by omega) (by omega)) rfl, h2, h3⟩
        · exact Or.inr ⟨c, jp_go <| if_no c1 <| if_go (show (28380 : Int32) ≤ nI s + nI j by rw [nI_add]; exact nI_le (a := 28380) (by omega) (by omega)) rfl, h2, h3⟩
    · exact ⟨0, by omega, rfl, rfl, fun _ _ => rfl⟩
/-- what finishCall does behind the body -/
noncomputable def tailF (b72 : BS) (x19 x55 p1 x27 x23 x39 x46 : Int32) : Option BS :=
  bd ((b72.1 57 5) - x46) fun x77 =>
  bn (F1_moveSigns b72 x46 x39 x77) fun b83 =>
  bd (setI b83 57 5 (x39 + x77)) fun b84 =>
  bd (setI b84 57 6 x23) fun b87 =>
  bn (F1_takesMore b87 0) fun x92 =>
  jp (fun (b102 : BS) => bn (F1_listCall b102 x19 x55 p1 x27 x77 (x46 - x39)) fun b109 =>
  some b109) fun k93 =>
  if ¬ x92 = 0 then
  k93 b87
  else
  bz 1 <|
  bd (setI b87 57 13 1) fun b98 =>
  k93 b98
theorem tail_any {b : BS} (hb : b.1 57 13 = 1) (x19 x55 p1 x27 x23 : Int32) {s d : Nat} (hs : s ≤ 28380) (hd : d ≤ 28380) : ∃ b', tailF b x19 x55 p1 x27 x23 (nI d) (nI s) = some b' ∧ Sx b b' ∧ b'.1 57 13 = 1 := by
  obtain ⟨b1, e1, m1, m2⟩ := moveSigns_any (b := b) hs hd (b.1 57 5 - nI s)
  obtain ⟨b2, hb2⟩ : ∃ q, q = setI (setI b1 57 5 (nI d + (b.1 57 5 - nI s))) 57 6 x23 := ⟨_, rfl⟩
  obtain ⟨p, tm⟩ := takesMore_any b2 0
  have s2 : Sx b b2 := ⟨by rw [hb2]; exact m1, fun j hj => by rw [hb2, setI_other _ (by omega), setI_other _ (by omega), m2 j (by omega)]⟩
  have k2 : b2.1 57 13 = 1 := by rw [hb2, setI_ne _ (by omega), setI_ne _ (by omega), m2 57 (by decide)]; exact hb
  unfold tailF
  cases p with
  | true =>
    obtain ⟨b3, e3, q1, q2⟩ := listCall_any b2 x19 x55 p1 x27 (b.1 57 5 - nI s) (nI s - nI d)
    refine ⟨b3, bd_go <| bn_go e1 <| bd_go <| bd_go ?_, s2.tr q1, by rw [q2 13 (by decide)]; exact k2⟩
    rw [← hb2]
    exact bn_go tm <| jp_go <| if_go (by decide) <| bn_go e3 rfl
  | false =>
    obtain ⟨b3, e3, q1, q2⟩ := listCall_any (setI b2 57 13 1) x19 x55 p1 x27 (b.1 57 5 - nI s) (nI s - nI d)
    refine ⟨b3, bd_go <| bn_go e1 <| bd_go <| bd_go ?_, (s2.tr (Sx.up b2 (by decide))).tr q1, by rw [q2 13 (by decide)]; exact setI_at _ _ _ _⟩
    rw [← hb2]
    exact bn_go tm <| jp_go <| if_no (by decide) <| bz_go (Or.inr rfl) <| bd_go <| bn_go e3 rfl
theorem tail_ok {b : BS} {kp : Bool} {Mb base : Nat} {Q as : List Tx} {sv w : Tx} {Wn : Nat} {G : Gl} {O : List Nat} (h : CS b kp Mb base (Q ++ [sv] ++ as ++ [w]) Wn G O) (hM : Mb + Q.length + as.length < 800) (hb : base + fl (Q ++ [sv] ++ as ++ [w]) ≤ 28380) (k e : Nat) : ∃ b', tailF b (nI k) (nI e) (nI O.length) (nI as.length) (nI (Mb + Q.length + 1)) (nI (base + fl (Q ++ [sv]))) (nI (base + fl (Q ++ [sv] ++ as))) = some b' ∧ Sx b b' ∧ (if ovr (sv ++ w) = true then b'.1 57 13 = 1 else CS b' kp Mb base (Q ++ [sv ++ w]) Wn (nte G (cnt6 k e O as w.length)) O ∧ Lo b b' 10000 (Mb + Q.length + 1) (base + fl (Q ++ [sv]))) := by
  obtain ⟨h1, h2, h3, h4, h5, h6, h7, h8⟩ := id h
  have f1 : fl (Q ++ [sv]) = fl Q + sv.length := by rw [fl_app, fl_one]
  have f2 : fl (Q ++ [sv] ++ as) = fl Q + sv.length + fl as := by rw [fl_app, f1]
  have f3 : fl (Q ++ [sv] ++ as ++ [w]) = fl Q + sv.length + fl as + w.length := by rw [fl_app, fl_one, f2]
  have f4 : fl (Q ++ [sv ++ w]) = fl Q + (sv.length + w.length) := by rw [fl_app, fl_one, List.length_append]
  have l3 : (Q ++ [sv] ++ as ++ [w]).length = Q.length + 1 + as.length + 1 := by rw [List.length_append, List.length_append, List.length_append]; rfl
  have x77 : b.1 57 5 - nI (base + fl (Q ++ [sv] ++ as)) = nI w.length := by rw [h1]; exact nI_add_sub (by omega)
  have xs : nI (base + fl (Q ++ [sv] ++ as)) - nI (base + fl (Q ++ [sv])) = nI (smA as) := nI_add_sub (b := fl as) (by omega)
  obtain ⟨b1, e1, m1, m2, m3, m4⟩ := moveSigns_eq h4 (s := base + fl (Q ++ [sv] ++ as)) (d := base + fl (Q ++ [sv])) (n := w.length) (by omega) (by omega) (Or.inl (by omega))
  obtain ⟨b2, hb2⟩ : ∃ q, q = setI (setI b1 57 5 (nI (base + fl (Q ++ [sv])) + nI w.length)) 57 6 (nI (Mb + Q.length + 1)) := ⟨_, rfl⟩
  have s2 : Sx b b2 := ⟨by rw [hb2]; exact m1, fun j hj => by rw [hb2, setI_other _ (by omega), setI_other _ (by omega), m2 j (by omega)]⟩
  have r2 : ∀ u, u ≠ 57 → u ≠ 58 → b2.1 u = b.1 u := fun u q1 q2 => by rw [hb2, setI_other _ q1, setI_other _ q1, m2 u q2]
  have r58 : b2.1 58 = b1.1 58 := by rw [hb2, setI_other _ (by decide), setI_other _ (by decide)]
  have k57 : ∀ k, k ≠ 5 → k ≠ 6 → b2.1 57 k = b.1 57 k := fun k q1 q2 => by rw [hb2, setI_ne _ (by omega), setI_ne _ (by omega), m2 57 (by decide)]
  have fe : (Q ++ [sv ++ w]).flatten = (Q ++ [sv]).flatten ++ w := by simp
  have h7a : kp = true → hold (fun i => b.1 58 (base + i)) (Q ++ [sv]).flatten ∧ hold (fun i => b.1 58 (base + fl (Q ++ [sv] ++ as) + i)) w := by
    intro q
    have q1 := h7 q
    rw [show (Q ++ [sv] ++ as ++ [w]).flatten = (Q ++ [sv] ++ as).flatten ++ w by simp, hold_app] at q1
    refine ⟨?_, ?_⟩
    · have q2 := q1.1
      rw [show (Q ++ [sv] ++ as).flatten = (Q ++ [sv]).flatten ++ as.flatten by simp, hold_app] at q2
      exact q2.1
    · refine hold_congr (fun j hj => ?_) q1.2
      show b.1 58 (base + fl (Q ++ [sv] ++ as) + j) = b.1 58 (base + ((Q ++ [sv] ++ as).flatten.length + j))
      rw [← Nat.add_assoc]; rfl
  have C2 : CS b2 kp Mb base (Q ++ [sv ++ w]) Wn G O := by
    refine ⟨?_, ?_, ?_, ?_, ?_, fun i hi => ?_, fun q => ?_, h8.keep (r2 62 (by decide) (by decide)) (fun k q1 q2 => k57 k (by omega) (by omega))⟩
    · rw [hb2, setI_ne _ (by omega), setI_at, nI_add, f1, f4]; congr 1; omega
    · rw [hb2, setI_at, List.length_append]; rfl
    · rw [k57 7 (by decide) (by decide)]; exact h3
    · rw [k57 12 (by decide) (by decide)]; exact h4
    · rw [k57 13 (by decide) (by decide)]; exact h5
    · have hi' : i < Q.length + 1 := by rw [List.length_append] at hi; exact hi
      rw [r2 59 (by decide) (by decide), h6 i (by omega)]
      congr 2
      rw [List.append_assoc, List.append_assoc, List.take_append_of_le_length (by omega), List.take_append_of_le_length (by omega)]
    · rw [fe, hold_app, r58]
      refine ⟨hold_congr (fun j hj => m3 _ (by unfold fl; omega)) (h7a q).1, ?_⟩
      refine hold_congr (fun j hj => ?_) (h7a q).2
      show b1.1 58 (base + ((Q ++ [sv]).flatten.length + j)) = b.1 58 (base + fl (Q ++ [sv] ++ as) + j)
      rw [← Nat.add_assoc]
      exact m4 q j hj
  have tm := takesMore_eq (n := 0) C2 (by omega) (by rw [fl_app, fl_one, List.length_append]; omega) (fun _ => by rw [fl_app, fl_one, List.length_append]; omega)
  have lo2 : Lo b b2 10000 (Mb + Q.length + 1) (base + fl (Q ++ [sv])) := ⟨fun i _ => ⟨by rw [r2 60 (by decide) (by decide)], by rw [r2 61 (by decide) (by decide)]⟩, fun i _ => by rw [r2 59 (by decide) (by decide)], fun i hi => by rw [r58]; exact m3 i hi⟩
  have hov : ovr (sv ++ w) = decide (200 < (sv ++ w).length) := rfl
  unfold tailF
  by_cases q : (sv ++ w).length + 0 ≤ 200
  · rw [decide_eq_true q] at tm
    rw [hov, decide_eq_false (by omega)]
    obtain ⟨b3, e3, q1, q2, q3, q4⟩ := listCall_eq C2.2.2.2.2.2.2.2 (nI k) (nI e) (nI O.length) (nI as.length) (nI w.length) (nI (smA as))
    refine ⟨b3, ?_, s2.tr q1, ?_⟩
    · refine bd_go ?_
      rw [x77, xs]
      refine bn_go e1 <| bd_go <| bd_go ?_
      rw [← hb2]
      exact bn_go tm <| jp_go <| if_go (by decide) <| bn_go e3 rfl
    · rw [if_neg (by decide)]
      obtain ⟨g1, g2, g3, g4, g5, g6, g7, g8⟩ := C2
      refine ⟨⟨?_, ?_, ?_, ?_, ?_, fun i hi => ?_, fun w => ?_, q2⟩, lo2.tr ⟨fun i _ => ⟨by rw [q3 60 (by decide) (by decide)], by rw [q3 61 (by decide) (by decide)]⟩, fun i _ => by rw [q3 59 (by decide) (by decide)], fun i _ => by rw [q3 58 (by decide) (by decide)]⟩⟩
      · rw [q4 5 (by decide)]; exact g1
      · rw [q4 6 (by decide)]; exact g2
      · rw [q4 7 (by decide)]; exact g3
      · rw [q4 12 (by decide)]; exact g4
      · rw [q4 13 (by decide)]; exact g5
      · rw [q3 59 (by decide) (by decide)]; exact g6 i hi
      · rw [q3 58 (by decide) (by decide)]; exact g7 w
  · rw [decide_eq_false q] at tm
    rw [hov, decide_eq_true (by omega)]
    obtain ⟨b3, e3, q1, q2⟩ := listCall_any (setI b2 57 13 1) (nI k) (nI e) (nI O.length) (nI as.length) (nI w.length) (nI (smA as))
    refine ⟨b3, ?_, (s2.tr (Sx.up b2 (by decide))).tr q1, ?_⟩
    · refine bd_go ?_
      rw [x77, xs]
      refine bn_go e1 <| bd_go <| bd_go ?_
      rw [← hb2]
      exact bn_go tm <| jp_go <| if_no (by decide) <| bz_go (Or.inr rfl) <| bd_go <| bn_go e3 rfl
    · rw [if_pos rfl, q2 13 (by decide)]; exact setI_at _ _ _ _
