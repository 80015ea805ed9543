/-! PURE: undo, define -/
theorem S_undo {z : MS} {b : BS} (h : Inv z b) : okT Inv (F7_undo b) (F8_undo z) [3] := by
  obtain ⟨t, a, p, s, hI⟩ := id h
  obtain ⟨hB, hW, hZ, hS, ⟨p1, p2, p3, p4, ⟨n, p5, p6, p7⟩, p8⟩, hN, hC⟩ := hI
  rcases Nat.eq_zero_or_pos p.length with q0 | q0
  · refine okT_x (b' := b) (k := 3) (z' := rfs z 1) (v := 0) ?_ ?_ (by decide) (rfs7 _ _) (h.rfs 1)
    · unfold F7_undo F2_restoreSaved
      refine bn2_go (a := b) (b := 0) ?_ (if_no (by decide) rfl)
      exact jp_go <| if_go (by rw [p3, q0]; decide) (bz_go (Or.inl rfl) rfl)
    · unfold F8_undo
      exact jp_go <| if_no (by rw [p2, q0]; decide) <| bn2_go (F8_refusedP z 1 (by decide)) <| if_no (by decide) rfl
  · obtain ⟨m, hm⟩ : ∃ m, p.length = m + 1 := ⟨p.length - 1, by omega⟩
    have hm5 : m ≤ 5 := by omega
    obtain ⟨y, hy⟩ : ∃ y, p[m]? = some y := ⟨p[m]'(by omega), List.getElem?_eq_getElem (by omega)⟩
    obtain ⟨w1, w2⟩ := p7 m y hy
    obtain ⟨v1, v2⟩ := p4 m y hy
    have en : (n + 7 + m - p.length) % 6 = n := by omega
    rw [en] at w1 w2
    obtain ⟨n', hn'⟩ : ∃ q, q = (if n = 0 then 5 else n - 1) := ⟨_, rfl⟩
    obtain ⟨b1, hb1⟩ : ∃ q, q = cpS b 70 (72 + 2 * n) := ⟨_, rfl⟩
    have r1 : ∀ u, u ≠ 70 → b1.1 u = b.1 u := fun u hu => by rw [hb1]; exact cpS_row b hu
    have r2 : ∀ u, u ≠ 70 → u ≠ 71 → b1.2.1 u = b.2.1 u := fun u h1 h2 => by
      rw [hb1]
      show (if u = 70 then _ else if u = 70 + 1 then _ else b.2.1 u) = _
      rw [if_neg h1, if_neg h2]
    have x1 : Ext b b1 := by rw [hb1]; exact cpS_ext b (by decide)
    have x3 : Ext b (setI (setI b1 63 2 (nI n')) 63 3 (nI m)) := (x1.tr (setI_ext b1 (by decide))).tr (setI_ext _ (by decide))
    have hS1 : SBb b1 70 y := by rw [hb1]; exact cpS_SBb hS.1 (by omega) w2
    have hS3 : SBb (setI (setI b1 63 2 (nI n')) 63 3 (nI m)) 70 y := hS1.ext ((setI_ext b1 (by decide)).tr (setI_ext _ (by decide))) (by rw [setI_other _ (by decide), setI_other _ (by decide)]) rfl rfl
    have hC1 : Closed b1 := by rw [hb1]; exact cpS_closed hC
    have e33 : (setI (setI b1 63 2 (nI n')) 63 3 (nI m)).1 63 3 = nI m := setI_at _ _ _ _
    have e32 : (setI (setI b1 63 2 (nI n')) 63 3 (nI m)).1 63 2 = nI n' := by rw [setI_ne _ (by omega), setI_at]
    have b3r : ∀ u, u ≠ 70 → u ≠ 63 → (setI (setI b1 63 2 (nI n')) 63 3 (nI m)).1 u = b.1 u := fun u h1 h2 => by rw [setI_other _ h2, setI_other _ h2, r1 u h1]
    have b3q : ∀ u, u ≠ 70 → u ≠ 71 → (setI (setI b1 63 2 (nI n')) 63 3 (nI m)).2.1 u = b.2.1 u := fun u h1 h2 => r2 u h1 h2
    have hres : F2_restoreSaved b 70 = some (setI (setI b1 63 2 (nI n')) 63 3 (nI m), 1) := by
      unfold F2_restoreSaved
      refine jp_go <| if_no (by rw [p3]; exact nI_nle (by omega) (by omega)) <| if_no (by rw [p6]; exact nI_pos (by omega)) <| if_go (by rw [p6]; exact nI_lt (by omega) (by decide)) <| ro_go p6 p5 (by decide) w1 <| on_so rfl <| ck_go hS.1 <| bn_go (F5_copyFrom_eq hS.1 w2.1 (by omega) w2.tok) ?_
      rw [← hb1]
      refine jp_go ?_
      have e6 : b1.1 63 2 = nI n := by rw [r1 63 (by decide)]; exact p6
      have e3 : ∀ v, (setI b1 63 2 v).1 63 3 = nI (m + 1) := fun v => by rw [setI_ne _ (by omega), r1 63 (by decide), p3, hm]
      have last : ∀ v : Int32, v = nI n' → bd (setI b1 63 2 v) (fun b38 => bd (setI b38 63 3 ((b38.1 63 3) - 1)) fun b41 => bz 1 (some (b41, (1 : Int32)))) = some (setI (setI b1 63 2 (nI n')) 63 3 (nI m), 1) := by
        rintro v rfl
        refine bd_go <| bd_go <| bz_go (Or.inr rfl) ?_
        rw [e3, nI_pred]
      rw [e6]
      by_cases c : n = 0
      · rw [if_pos c] at hn'
        exact if_go (by rw [c]; decide) (last 5 (by rw [hn']; rfl))
      · rw [if_neg c] at hn'
        refine if_no (nI_nle (by omega) (by omega)) (last (nI n - 1) ?_)
        obtain ⟨q, rfl⟩ : ∃ q, n = q + 1 := ⟨n - 1, by omega⟩
        rw [nI_pred, hn']; rfl
    have r0' : ∀ u, u ≠ 43 → up2 (rfs z 0) 43 2 (nI m) u = z u := fun u hu => by rw [up2_ne _ hu]; exact rfs_a _ _ hu
    obtain ⟨z7, hz7⟩ : ∃ q, q = up2 (rfs z 0) 43 2 (nI m) := ⟨_, rfl⟩
    rw [← hz7] at r0'
    have z72 : z7 43 2 = nI m := by rw [hz7, up2_at, if_pos ⟨rfl, rfl⟩]
    have z7k : ∀ k, k ≠ 2 → z7 43 k = rfs z 0 43 k := fun k hk => by rw [hz7, up2_at, if_neg (fun q => hk q.2)]
    have hZ' : ZS (sr z7 0 (pt (z7 0) 0 2153 (fun j => z7 1 (2153 * m + j))) 0) y := by
      rw [sr_at]
      exact ZS.congr v1 (fun i hi => by rw [pt0_in hi, r0' 1 (by decide)]) v2
    refine okT_mk (b' := setI (setI b1 63 2 (nI n')) 63 3 (nI m)) (z' := sr z7 0 (pt (z7 0) 0 2153 (fun j => z7 1 (2153 * m + j)))) (v := nI m) ?_ ?_ ?_ ⟨t, y, p.take m, s, ?_, v1, hZ', hS3, ?_, ?_, hC1⟩
    · unfold F7_undo
      refine bn2_go hres (if_go (by decide) ?_)
      rw [e33]
    · unfold F8_undo
      refine jp_go <| if_go (by rw [p2]; exact nI_neq (b := 0) (by omega) (by decide) (by omega)) <| bn2_go (F8_refused0 z) <| if_go rfl <| bd_go ?_
      have ez : rfs z 0 43 2 - 1 = nI m := by rw [rfs_ne _ _ (by decide), p2, hm, nI_pred]
      rw [ez, ← hz7]
      have e0 : ((0 : Int32), z7) = (fun j => (nI j, sr z7 0 (pt (z7 0) 0 j (fun j => z7 1 (2153 * m + j))))) 0 := by
        show _ = (nI 0, _)
        rw [pt_0, sr_self]; rfl
      rw [e0]
      refine Loop_seq (fun j => (nI j, sr z7 0 (pt (z7 0) 0 j (fun j => z7 1 (2153 * m + j))))) 2153 (fun j hj => ?_) ?_
      · refine if_no (nI_ge (b := 2153) hj (by decide)) <| rd_go (v := z7 1 (2153 * m + j)) (k := 2153 * m + j) ?_ (by omega) (by decide) (congrFun (sr_ne z7 (a := 0) (u := 1) (pt (z7 0) 0 j (fun j => z7 1 (2153 * m + j))) (by decide)) (2153 * m + j)) <| wr_go rfl hj (by decide) <| bd_go ?_
        · show (2153 * sr z7 0 (pt (z7 0) 0 j (fun j => z7 1 (2153 * m + j))) 43 2) + nI j = _
          rw [sr_ne _ _ (by decide), z72]
          show (nI 2153 * nI m) + nI j = _
          rw [nI_mul, nI_add]
        · dsimp only
          have q := pt_s (z7 0) 0 j (fun j => z7 1 (2153 * m + j))
          rw [Nat.zero_add] at q
          rw [sr_up, q, nI_1]
      · refine if_go (show (2153 : Int32) ≤ nI 2153 by decide) ?_
        dsimp only
        rw [sr_ne _ _ (by decide), z72]
    · rw [sr_ne _ _ (by decide), z7k 7 (by decide)]; exact rfs7 z 0
    · refine hB.of ?_ ?_ ?_ ?_
      · rw [sr_ne _ _ (by decide), z7k 6 (by decide)]; exact rfs_ne _ _ (by decide)
      · rw [sr_ne _ _ (by decide), r0' 5 (by decide)]
      · rw [b3r 50 (by decide) (by decide)]
      · rw [b3r 51 (by decide) (by decide)]
    · have hl : (p.take m).length = m := by rw [List.length_take]; omega
      have hg : ∀ i x, (p.take m)[i]? = some x → i < m ∧ p[i]? = some x := by
        intro i x hx
        rw [List.getElem?_take] at hx
        by_cases c : i < m
        · rw [if_pos c] at hx; exact ⟨c, hx⟩
        · rw [if_neg c] at hx; cases hx
      refine ⟨by omega, ?_, ?_, fun i x hx => ?_, ⟨n', ?_, e32, fun i x hx => ?_⟩, fun k hk => ?_⟩
      · rw [sr_ne _ _ (by decide), z72, hl]
      · rw [e33, hl]
      · rw [sr_ne _ _ (by decide), r0' 1 (by decide)]
        exact p4 i x (hg i x hx).2
      · rw [hn']; split <;> omega
      · obtain ⟨hi, hx⟩ := hg i x hx
        obtain ⟨q1, q2⟩ := p7 i x hx
        have ei : (n' + 7 + i - (p.take m).length) % 6 = (n + 7 + i - p.length) % 6 := by
          rw [hl, hn', hm]
          by_cases c : n = 0
          · rw [if_pos c]; omega
          · rw [if_neg c]; omega
        rw [ei]
        have hj : (n + 7 + i - p.length) % 6 < 6 := Nat.mod_lt _ (by decide)
        revert hj q1 q2
        generalize (n + 7 + i - p.length) % 6 = j
        intro q1 q2 hj
        exact ⟨by rw [b3q 64 (by decide) (by decide)]; exact q1, q2.ext x3 (b3r _ (by omega) (by omega)) (b3q _ (by omega) (by omega)) (b3q _ (by omega) (by omega))⟩
      · rw [b3q 64 (by decide) (by decide), show (setI (setI b1 63 2 (nI n')) 63 3 (nI m)).2.2 = b.2.2 by rw [hb1]; rfl]
        exact p8 k hk
    · refine hN.ext ?_ ?_ x3 (b3q 65 (by decide) (by decide)) (fun k hk => ⟨b3r _ (by omega) (by omega), b3q _ (by omega) (by omega), b3q _ (by omega) (by omega)⟩) (fun k hk => by rw [hb1]; rfl)
      · rw [sr_ne _ _ (by decide), r0' 3 (by decide)]
      · rw [sr_ne _ _ (by decide), r0' 4 (by decide)]
/-- the buffer laid as a letter's text -/
theorem F8_lays_eq {z : MS} {t : Tx} {k : Nat} (hk : k < 26) (hl : t.length ≤ 60) (h6 : z 43 6 = nI t.length) (hb : hold (z 5) t) : F8_lays z (nI k) = some (sr z 0 (pt (upd (z 0) k (nI t.length)) (26 + 60 * k) 60 (fun i => t.getD i 0))) := by
  unfold F8_lays
  refine wr_go rfl (by omega) (by decide) ?_
  have e0 : ((0 : Int32), up2 z 0 k (z 43 6)) = (fun j => (nI j, sr z 0 (pt (upd (z 0) k (nI t.length)) (26 + 60 * k) j (fun i => t.getD i 0)))) 0 := by
    show _ = (nI 0, _)
    rw [pt_0, up2_sr, h6]; rfl
  rw [e0]
  refine Loop_seq (fun j => (nI j, sr z 0 (pt (upd (z 0) k (nI t.length)) (26 + 60 * k) j (fun i => t.getD i 0)))) 60 (fun j hj => ?_) ?_
  · have ek : (26 + (60 * nI k)) + nI j = nI (26 + 60 * k + j) := by
      show (nI 26 + (nI 60 * nI k)) + nI j = _
      rw [nI_mul, nI_add, nI_add]
    have last : ∀ v : Int32, v = t.getD j 0 → (wr (sr z 0 (pt (upd (z 0) k (nI t.length)) (26 + 60 * k) j (fun i => t.getD i 0))) 0 2153 ((26 + (60 * nI k)) + nI j) v fun z9 => bd (nI j + 1) fun x10 => (some (Sum.inl (x10, z9)) : Option ((Int32 × MS) ⊕ MS))) = some (Sum.inl (nI (j + 1), sr z 0 (pt (upd (z 0) k (nI t.length)) (26 + 60 * k) (j + 1) (fun i => t.getD i 0)))) := by
      rintro v rfl
      refine wr_go ek (by omega) (by decide) <| bd_go ?_
      have q := pt_s (upd (z 0) k (nI t.length)) (26 + 60 * k) j (fun i => t.getD i 0)
      rw [sr_up, q, nI_1]
    have e6 : sr z 0 (pt (upd (z 0) k (nI t.length)) (26 + 60 * k) j (fun i => t.getD i 0)) 43 6 = nI t.length := by rw [sr_ne _ _ (by decide), h6]
    refine if_no (nI_ge (b := 60) hj (by decide)) <| jp_go ?_
    by_cases c : t.length ≤ j
    · refine if_go (show sr z 0 (pt (upd (z 0) k (nI t.length)) (26 + 60 * k) j (fun i => t.getD i 0)) 43 6 ≤ nI j from ?_) (last 0 ?_)
      · rw [e6]; exact nI_le c (by omega)
      · rw [List.getD_eq_getElem?_getD, List.getElem?_eq_none c]; rfl
    · refine if_no (show ¬ sr z 0 (pt (upd (z 0) k (nI t.length)) (26 + 60 * k) j (fun i => t.getD i 0)) 43 6 ≤ nI j from ?_) <| rd_go (v := t.getD j 0) rfl hj (by decide) ?_ (last _ rfl)
      · rw [e6]; exact nI_ge (by omega) (by omega)
      · show sr z 0 (pt (upd (z 0) k (nI t.length)) (26 + 60 * k) j (fun i => t.getD i 0)) 5 j = _
        rw [sr_ne _ _ (by decide)]
        exact hb j (by omega)
  · exact if_go (show (60 : Int32) ≤ nI 60 by decide) rfl
theorem nwT_ext (b : BS) (n : Nat) (f : Nat → Int32) : Ext b (nwT b n f) := by
  have L := nwT_lv b n f
  refine ⟨fun j h => (L j).mpr (Or.inl h), fun j hj hl => ?_⟩
  have hn : ¬ (j = 100 + 5 * b.2.2 0 ∨ j = 101 + 5 * b.2.2 0) := by
    intro q
    have := lv_new0 b.2.2 (j := j) (by omega) (by omega)
    rw [hl] at this; cases this
  constructor
  · show (if j = _ then _ else if j = _ then _ else b.1 j) = _
    rw [if_neg (fun q => hn (Or.inl q)), if_neg (fun q => hn (Or.inr q))]
  · show (if j = 0 then _ else if j = _ then _ else b.2.2 j) = _
    rw [if_neg (by omega), if_neg (fun q => hn (Or.inr q))]
theorem nwT_closed {b : BS} (n : Nat) (f : Nat → Int32) (h : Closed b) : Closed (nwT b n f) := by
  intro u k t ht
  exact (nwT_lv b n f t).mpr (Or.inl (h u k t ht))
theorem kd_text (m : Nat) : kd (100 + 5 * m) = 6 := by
  unfold kd
  repeat' (first | rw [if_pos (by omega)] | rw [if_neg (by omega)])
theorem mmI_60 {n : Nat} (h : n ≤ 60) : (mmI 60 (nI n)).toNatClampNeg = n := by
  unfold mmI
  rw [if_neg (nI_nlt (a := 60) (by omega) (by omega))]
  by_cases c : n = 0
  · subst c; rfl
  · rw [if_pos (show (0 : Int32) < nI n from nI_lt (a := 0) (by omega) (by omega)), nI_clamp (by omega)]
set_option maxHeartbeats 1000000 in
theorem S_define {z : MS} {b : BS} (h : Inv z b) (x : Int32) (x25 : x ≠ 25) : okT Inv (F7_define b x) (F8_define z x) [1, 2] := by
  obtain ⟨t, a, p, s, hI⟩ := id h
  by_cases hx : inB x 0 25 = true
  · obtain ⟨k, hk, rfl⟩ := letter_nI hx
    obtain ⟨hl, h2, h3, h4, h5⟩ := hI.1
    obtain ⟨bq, e7, hsb, hR⟩ := requireCompleteText_eq (b := b) hl h4 h5
    obtain ⟨zq, e8, hsz⟩ := F8_isWhole_eq (z := z) hl h2 h3
    have hIq : InvD t a p s zq bq := InvD.sm hsz.sm hsb hI
    by_cases hw : wholeB t = true
    · rw [if_pos hw] at e7
      rw [hw] at e8
      obtain ⟨sk, hR⟩ := hR hw
      have hcp := (wholeB_iff t).mp hw
      obtain ⟨z1, b1, p1, f8, f7, hI1, hg, h7, hi, h17⟩ := save_inv (InvD.rf0 hIq 0)
      have hD : InvD t a p1 s z1 b1 := hI1
      obtain ⟨hB, hW, hZ, hS, -, -, hC⟩ := hI1
      have gq : Gr b bq := Gr.eq (by rw [hsb.1])
      have gq1 : Gr b b1 := gq.tr hg
      obtain ⟨b2, hb2⟩ : ∃ q, q = nwT b1 (mmI 60 (b1.1 50 6)).toNatClampNeg (cutI (b1.1 51) 60) := ⟨_, rfl⟩
      obtain ⟨X, hX⟩ : ∃ q, q = 100 + 5 * b1.2.2 0 := ⟨_, rfl⟩
      have x2 : Ext b1 b2 := by rw [hb2]; exact nwT_ext _ _ _
      have c2 : Closed b2 := by rw [hb2]; exact nwT_closed _ _ hC
      have lvX : lvB b2.2.2 X = true := by rw [hb2, hX]; exact (nwT_lv _ _ _ _).mpr (Or.inr (Or.inl rfl))
      have okX : okB b2.2.2 X 6 = true := by
        unfold okB; rw [lvX, hX, kd_text]; rfl
      have r52 : ∀ i, b1.1 52 i = bq.1 52 i := fun i => by rw [hi 52 (by decide)]
      have len : (mmI 60 (b1.1 50 6)).toNatClampNeg = t.length := by rw [hB.2.2.2.1, mmI_60 hl]
      have rX : ∀ i, b2.1 X i = b1.1 52 (i + 3) := fun i => by
        rw [hb2]
        show (if X = 100 + 5 * b1.2.2 0 then (fun k => b1.1 52 (k + 3)) else _) i = _
        rw [if_pos hX]
      have tX : TXb b2 X t := by
        refine ⟨okX, ?_, ?_, ?_, ?_, ?_, ?_, ?_, ?_⟩
        · rw [hb2]
          show (if X + 1 = 0 then b1.2.2 0 + 1 else if X + 1 = 101 + 5 * b1.2.2 0 then (mmI 60 (b1.1 50 6)).toNatClampNeg else b1.2.2 (X + 1)) = t.length
          rw [if_neg (by omega), if_pos (by omega), len]
        · rw [hb2]
          show hold (if X + 1 = 100 + 5 * b1.2.2 0 then (fun k => b1.1 52 (k + 3)) else if X + 1 = 101 + 5 * b1.2.2 0 then cutI (b1.1 51) 60 else b1.1 (X + 1)) t
          rw [if_neg (by omega), if_pos (by omega)]
          intro j hj
          unfold cutI
          rw [if_pos (by omega)]
          exact hB.2.2.2.2 j hj
        · rw [rX, r52]; exact hR.2.2.2.1
        · rw [rX, r52]; exact hR.2.2.2.2.1
        · rw [rX, r52]; exact hR.2.2.2.2.2.1
        · rw [rX, r52]; exact hR.2.2.2.2.2.2.1
        · rw [rX, r52]; exact hR.2.2.2.2.2.2.2.1
        · rw [rX, r52]; exact hR.2.2.2.2.2.2.2.2.1
      have i2 : ∀ u, u < 100 → b2.1 u = b1.1 u := fun u hu => by
        rw [hb2]
        show (if u = 100 + 5 * b1.2.2 0 then (fun k => b1.1 52 (k + 3)) else if u = 101 + 5 * b1.2.2 0 then cutI (b1.1 51) 60 else b1.1 u) = b1.1 u
        rw [if_neg (by omega), if_neg (by omega)]
      have q2 : ∀ u, b2.2.1 u = b1.2.1 u := fun u => by rw [hb2]; rfl
      have hS2 : SBb b2 70 a := hS.ext x2 (i2 70 (by decide)) (q2 70) (q2 71)
      obtain ⟨b3, hb3⟩ : ∃ q, q = setR b2 71 k (some X) := ⟨_, rfl⟩
      have hS3 : SBb b3 70 (updF a.1 k (some t), a.2) := by rw [hb3]; exact hS2.put ⟨X, rfl, tX⟩
      have x3 : Ext b1 (setI b3 50 6 0) := (x2.tr (by rw [hb3]; exact setR_ext b2)).tr (setI_ext _ (by decide))
      have hS4 : SBb (setI b3 50 6 0) 70 (updF a.1 k (some t), a.2) := hS3.ext (setI_ext _ (by decide)) (setI_other _ (by decide)) rfl rfl
      have c4 : Closed (setI b3 50 6 0) := by
        show Closed b3
        rw [hb3]; exact setR_closed c2 (fun y hy => by cases hy; exact lvX)
      have z5e : z1 5 = z1 5 := rfl
      have hZ2 : ZS (pt (upd (z1 0) k (nI t.length)) (26 + 60 * k) 60 (fun i => t.getD i 0)) (updF a.1 k (some t), a.2) := by
        refine hZ.put hk hW (fun i h1 h2 h3 => ?_) ?_ (fun u hu => ?_)
        · rw [pt_out (by omega)]; unfold upd; rw [if_neg h2]
        · rw [pt_out (by omega)]; unfold upd; rw [if_pos rfl]
        · cases hu
          intro j hj
          exact pt_in (by omega)
      have hW2 : WA (updF a.1 k (some t), a.2) := hW.put (Or.inl (fun q => x25 (by rw [q]; rfl))) (fun u hu => by cases hu; exact ⟨hcp, hl⟩)
      obtain ⟨z2, hz2⟩ : ∃ q, q = up2 (sr z1 0 (pt (upd (z1 0) k (nI t.length)) (26 + 60 * k) 60 (fun i => t.getD i 0))) 43 6 0 := ⟨_, rfl⟩
      have z20 : z2 0 = pt (upd (z1 0) k (nI t.length)) (26 + 60 * k) 60 (fun i => t.getD i 0) := by rw [hz2, up2_ne _ (by decide), sr_at]
      have z2r : ∀ u, u ≠ 0 → u ≠ 43 → z2 u = z1 u := fun u h1 h2 => by rw [hz2, up2_ne _ h2, sr_ne _ _ h1]
      have z2k : ∀ i, i ≠ 6 → z2 43 i = z1 43 i := fun i hi => by rw [hz2, up2_at, if_neg (fun q => hi q.2), sr_ne _ _ (by decide)]
      have src : SrcZ z2 k t := by
        refine ZS.src (a := (updF a.1 k (some t), a.2)) (by rw [z20]; exact hZ2) hW2 hk ?_
        dsimp only; unfold updF; rw [if_pos rfl]
      refine okT_mk (b' := setI b3 50 6 0) (z' := z2) (v := nI (hls t)) ?_ ?_ ?_ ⟨[], (updF a.1 k (some t), a.2), p1, s, ?_⟩
      · unfold F7_define
        rw [requireLetter_ok hx]
        refine bx_in (b := ()) (v := ()) rfl <| bx_in e7 <| (pr_in gq).trans <| bn_go f7 <| (pr_in ⟨gq1, hC⟩).trans <| bd_go ?_
        rw [← hb2, ← hX]
        refine bn_go (F5_put_eq hk hS2.1 (fun y hy => by cases hy; exact okX)) ?_
        rw [← hb3]
        refine bd_go <| ck_go (by rw [hb3]; exact okX) ?_
        have : (setI b3 50 6 0).1 X 1 = nI (hls t) := by
          rw [setI_other _ (by omega), hb3]; exact tX.2.2.2.1
        rw [this]
      · unfold F8_define
        refine bn_go (F8_isLetter_eq _) <| jp_go <| if_go (by rw [hx]; decide) <| bn2_go e8 <| if_no (by decide) <| bn2_go (F8_refused0 zq) <| if_go rfl <| bn_go f8 <| bn_go (F8_lays_eq hk hl hB.2.1 hB.2.2.1) <| bd_go ?_
        rw [← hz2]
        refine rd_go (v := nI t.length) rfl (by omega) (by decide) ?_ <| bn_go (F8_holesOf_eq src (Nat.le_refl _)) ?_
        · rw [z20, pt_out (by omega)]; unfold upd; rw [if_pos rfl]
        · rw [List.take_length]
      · rw [z2k 7 (by decide), h7]; exact rfs7 zq 0
      · refine hD.cur ?_ hW2 (by rw [z20]; exact hZ2) ⟨z2r 1 (by decide) (by decide), z2r 3 (by decide) (by decide), z2r 4 (by decide) (by decide), z2k 2 (by decide)⟩ x3 (fun u h1 h2 h3 h4 => ⟨?_, ?_⟩) (fun j h1 h2 => ?_) hS4 c4
        · refine ⟨Nat.zero_le _, ?_, fun j hj => absurd hj (by simp), setI_at _ _ _ _, fun j hj => absurd hj (by simp)⟩
          rw [hz2, up2_at, if_pos ⟨rfl, rfl⟩]; rfl
        · rw [setI_other _ (by omega), hb3]
          exact i2 u h2
        · show b3.2.1 u = _
          rw [hb3, setR_row _ h4, q2]
        · show lvB b3.2.2 j = _
          rw [hb3]
          refine bool_iff ?_
          show lvB b2.2.2 j = true ↔ _
          rw [hb2, nwT_lv]
          exact ⟨fun q => by rcases q with q | q; exact q; omega, Or.inl⟩
    · have hw' : wholeB t = false := by simpa using hw
      rw [if_neg hw] at e7
      rw [hw'] at e8
      refine okT_x (b' := bq) (k := 2) (z' := rfs zq 2) (v := 0) ?_ ?_ (by decide) (rfs7 _ _) ⟨t, a, p, s, InvD.rf0 hIq 2⟩
      · unfold F7_define
        rw [requireLetter_ok hx]
        exact bx_in (b := ()) (v := ()) rfl <| bx_out e7 rfl
      · unfold F8_define
        exact bn_go (F8_isLetter_eq _) <| jp_go <| if_go (by rw [hx]; decide) <| bn2_go e8 <| if_go rfl <| bn2_go (F8_refusedP zq 2 (by decide)) <| if_no (by decide) rfl
  · have hx' : inB x 0 25 = false := by simpa using hx
    refine okT_x (b' := b) (k := 1) (z' := rfs z 1) (v := 0) ?_ ?_ (by decide) (rfs7 _ _) (h.rfs 1)
    · unfold F7_define; rw [requireLetter_no hx']; rfl
    · unfold F8_define
      exact bn_go (F8_isLetter_eq _) <| jp_go <| if_no (by rw [hx']; decide) <| bn2_go (F8_refusedP z 1 (by decide)) <| if_no (by decide) rfl
