/-! PURE: ifDefined -/
theorem F0_tryBody_eq {b b0 : BS} {D : Nat → Option Tx} (h : TkB b0 b D) {k : Nat} (hk : k < 26) (t : Tx) : ∃ b', F0_tryBody b (nI k) (cld t) = some b' ∧ b'.2 = b0.2 ∧ (∀ u, u ≠ 54 → u ≠ 55 → b'.1 u = b0.1 u) ∧ ∀ j, j < 26 → b'.1 55 j = gs (updF D k (some t)) j := by
  refine ⟨setI b 55 k (cld t), ?_, h.1, fun u h1 h2 => ?_, fun j hj => ?_⟩
  · unfold F0_tryBody
    exact bn_go (F7_isLetter_eq _) <| jp_go <| if_no (by rw [nI_letter hk]; decide) <| wb_go rfl hk (by decide) <| rfl
  · rw [setI_other _ h2]; exact h.2.1 u h1 h2
  · rw [setI_row_at]
    unfold gs updF
    rw [if_pos hj]
    by_cases c : j = k
    · rw [if_pos c, if_pos c]
    · rw [if_neg c, if_neg c]
      have := h.2.2.1 j hj
      unfold gs at this
      rw [if_pos hj] at this; exact this
theorem S_ifDefined {z : MS} {b : BS} (h : Inv z b) (x : Int32) : okT Inv (F7_ifDefined b x) (F8_ifDefined z x) [1, 2] := by
  obtain ⟨t, a, p, s, hI⟩ := id h
  by_cases hx : inB x 0 25 = true
  · obtain ⟨k, hk, rfl⟩ := letter_nI hx
    obtain ⟨hl, h2, h3, h4, h5⟩ := hI.1
    obtain ⟨bq, e7, hsb, hR⟩ := requireCompleteText_eq (b := b) hl h4 h5
    obtain ⟨zq, e8, hsz⟩ := F8_isWhole_eq (z := z) hl h2 h3
    have hIq : InvD t a p s zq bq := InvD.sm hsz.sm hsb hI
    by_cases hw : wholeB t = true
    · rw [if_pos hw] at e7
      rw [hw] at e8
      obtain ⟨sk, hR⟩ := hR hw
      have hcp := (wholeB_iff t).mp hw
      obtain ⟨hB, hW, hZ, hS, -⟩ := id hIq
      obtain ⟨b1, f1, k1⟩ := F0_takeFrom_eq hS
      have r9 : b1.1 52 9 = cld t := by rw [k1.2.1 52 (by decide) (by decide)]; exact hR.2.2.2.2.2.2.2.2.1
      obtain ⟨b2, f2, k2a, k2b, k2c⟩ := F0_tryBody_eq k1 hk t
      obtain ⟨b3, f3, k3⟩ := F0_inRings_eq k2c
      -- the reference
      have hW2 : WA (updF a.1 k (some t), a.2) := hW.put (fun u hu => by cases hu; exact ⟨hcp, hl⟩)
      obtain ⟨z1, hz1⟩ : ∃ q, q = sr (rfs zq 0) 42 (pt (zq 42) 0 60 (fun j => zq 0 (26 + 60 * k + j))) := ⟨_, rfl⟩
      have r0 : (rfs zq 0) 0 = zq 0 := rfs_a _ _ (by decide)
      have r42 : (rfs zq 0) 42 = zq 42 := rfs_a _ _ (by decide)
      have z1r : ∀ u, u ≠ 42 → z1 u = rfs zq 0 u := fun u hu => by rw [hz1, sr_ne _ _ hu]
      have z142 : z1 42 = pt (zq 42) 0 60 (fun j => zq 0 (26 + 60 * k + j)) := by rw [hz1, sr_at]
      obtain ⟨F, hF⟩ : ∃ F, F = pt (upd (zq 0) k (nI t.length)) (26 + 60 * k) 60 (fun i => t.getD i 0) := ⟨_, rfl⟩
      have lays : F8_lays z1 (nI k) = some (sr z1 0 F) := by
        have := F8_lays_eq (z := z1) (t := t) hk hl (by rw [z1r 43 (by decide), rfs_ne _ _ (by decide)]; exact hB.2.1) (by rw [z1r 5 (by decide), rfs_a _ _ (by decide)]; exact hB.2.2.1)
        rw [this, z1r 0 (by decide), r0, hF]
      have hZ2 : ZS F (updF a.1 k (some t), a.2) := by
        rw [hF]
        refine hZ.put hk hW (fun i h1 h2 h3 => ?_) ?_ (fun u hu => ?_)
        · rw [pt_out (by omega)]; unfold upd; rw [if_neg h2]
        · rw [pt_out (by omega)]; unfold upd; rw [if_pos rfl]
        · cases hu
          intro j hj
          exact pt_in (by omega)
      obtain ⟨z2, g2, j2⟩ := F8_inRings_eq (z := sr z1 0 F) (a := (updF a.1 k (some t), a.2)) (by rw [sr_at]; exact hZ2) hW2
      have z20 : z2 0 = F := by rw [j2.1 0 (by decide), sr_at]
      have z242 : z2 42 = pt (zq 42) 0 60 (fun j => zq 0 (26 + 60 * k + j)) := by rw [j2.1 42 (by decide), sr_ne _ _ (by decide), z142]
      have back : pt (upd F k (zq 0 k)) (26 + 60 * k) 60 (fun j => zq 0 (26 + 60 * k + j)) = zq 0 := by
        funext i
        unfold pt upd
        by_cases c : 26 + 60 * k ≤ i ∧ i < 26 + 60 * k + 60
        · rw [if_pos c]
          show zq 0 (26 + 60 * k + (i - (26 + 60 * k))) = zq 0 i
          congr 1; omega
        · rw [if_neg c]
          by_cases d : i = k
          · rw [if_pos d, d]
          · rw [if_neg d, hF]
            have c' : i < 26 + 60 * k ∨ 26 + 60 * k + 60 ≤ i := by omega
            exact (pt_out c').trans (if_neg d)
      have zfr : ∀ u, u ≠ 0 → u ≠ 40 → u ≠ 42 → sr z2 0 (zq 0) u = rfs zq 0 u := fun u q1 q2 q3 => by rw [sr_ne _ _ q1, j2.1 u q2, sr_ne _ _ q1, z1r u q3]
      refine okT_mk (b' := b3) (z' := sr z2 0 (zq 0)) (v := gth (fun x => rB (updF a.1 k (some t)) x x) 26) ?_ ?_ ?_ ⟨t, a, p, s, InvD.sm (z := zq) (b := bq) ?_ ?_ hIq⟩
      · unfold F7_ifDefined
        rw [requireLetter_ok hx]
        refine bx_in (b := ()) (v := ()) rfl <| bx_in e7 <| bn_go f1 <| bn_go (a := b2) ?_ <| bn2_go f3 rfl
        rw [r9]; exact f2
      · unfold F8_ifDefined
        refine bn_go (F8_isLetter_eq _) <| jp_go <| if_go (by rw [hx]; decide) <| bn2_go e8 <| if_no (by decide) <| bn2_go (F8_refused0 zq) <| if_go rfl <| rd_go (v := zq 0 k) rfl (by omega) (by decide) (by rw [r0]) ?_
        have e0 : ((0 : Int32), rfs zq 0) = (fun j => (nI j, sr (rfs zq 0) 42 (pt (zq 42) 0 j (fun j => zq 0 (26 + 60 * k + j))))) 0 := by
          show _ = (nI 0, _)
          rw [pt_0, ← r42, sr_self]; rfl
        have ek : ∀ j, (26 + (60 * nI k)) + nI j = nI (26 + 60 * k + j) := fun j => by
          show (nI 26 + (nI 60 * nI k)) + nI j = _
          rw [nI_mul, nI_add, nI_add]
        rw [e0]
        refine Loop_seq (fun j => (nI j, sr (rfs zq 0) 42 (pt (zq 42) 0 j (fun j => zq 0 (26 + 60 * k + j))))) 60 (fun j hj => ?_) ?_
        · refine if_no (nI_ge (b := 60) hj (by decide)) <| rd_go (v := zq 0 (26 + 60 * k + j)) (ek j) (by omega) (by decide) (congrFun ((sr_ne (rfs zq 0) (a := 42) (u := 0) (pt (zq 42) 0 j (fun j => zq 0 (26 + 60 * k + j))) (by decide)).trans r0) _) <| wr_go rfl hj (by decide) <| bd_go ?_
          have q := pt_s (zq 42) 0 j (fun j => zq 0 (26 + 60 * k + j))
          rw [Nat.zero_add] at q
          dsimp only
          rw [sr_up, q, nI_1]
        · refine if_go (show (60 : Int32) ≤ nI 60 by decide) ?_
          dsimp only
          rw [← hz1]
          refine bn_go lays <| bn2_go g2 <| wr_go rfl (by omega) (by decide) ?_
          have e0 : ((0 : Int32), up2 z2 0 k (zq 0 k)) = (fun j => (nI j, sr z2 0 (pt (upd F k (zq 0 k)) (26 + 60 * k) j (fun j => zq 0 (26 + 60 * k + j))))) 0 := by
            show _ = (nI 0, _)
            rw [pt_0, up2_sr, z20]; rfl
          rw [e0]
          refine Eq.trans (Loop_seq (fun j => (nI j, sr z2 0 (pt (upd F k (zq 0 k)) (26 + 60 * k) j (fun j => zq 0 (26 + 60 * k + j))))) 60 (r := Sum.inr (sr z2 0 (pt (upd F k (zq 0 k)) (26 + 60 * k) 60 (fun j => zq 0 (26 + 60 * k + j))), gth (fun x => rB (updF a.1 k (some t)) x x) 26)) (fun j hj => ?_) ?_) (by rw [back])
          · refine if_no (nI_ge (b := 60) hj (by decide)) <| rd_go (v := zq 0 (26 + 60 * k + j)) rfl hj (by decide) ?_ <| wr_go (ek j) (by omega) (by decide) <| bd_go ?_
            · dsimp only
              rw [sr_ne _ _ (by decide), z242, pt0_in hj]
            · dsimp only
              rw [sr_up, pt_s, nI_1]
          · exact if_go (show (60 : Int32) ≤ nI 60 by decide) rfl
      · rw [zfr 43 (by decide) (by decide) (by decide)]; exact rfs7 zq 0
      · refine ⟨sr_at _ _ _, ?_, ?_, ?_, ?_, ?_, ?_⟩
        · rw [zfr 1 (by decide) (by decide) (by decide), rfs_a _ _ (by decide)]
        · rw [zfr 3 (by decide) (by decide) (by decide), rfs_a _ _ (by decide)]
        · rw [zfr 4 (by decide) (by decide) (by decide), rfs_a _ _ (by decide)]
        · rw [zfr 5 (by decide) (by decide) (by decide), rfs_a _ _ (by decide)]
        · rw [zfr 43 (by decide) (by decide) (by decide), rfs_ne _ _ (by decide)]
        · rw [zfr 43 (by decide) (by decide) (by decide), rfs_ne _ _ (by decide)]
      · refine ⟨k3.1.trans k2a, fun j hj => ?_⟩
        rw [k3.2.1 j (by omega), k2b j (by omega) (by omega)]
    · have hw' : wholeB t = false := by simpa using hw
      rw [if_neg hw] at e7
      rw [hw'] at e8
      refine okT_x (b' := bq) (k := 2) (z' := rfs zq 2) (v := 0) ?_ ?_ (by decide) (rfs7 _ _) ⟨t, a, p, s, InvD.rf0 hIq 2⟩
      · unfold F7_ifDefined
        rw [requireLetter_ok hx]
        exact bx_in (b := ()) (v := ()) rfl <| bx_out e7 rfl
      · unfold F8_ifDefined
        exact bn_go (F8_isLetter_eq _) <| jp_go <| if_go (by rw [hx]; decide) <| bn2_go e8 <| if_go rfl <| bn2_go (F8_refusedP zq 2 (by decide)) <| if_no (by decide) rfl
  · have hx' : inB x 0 25 = false := by simpa using hx
    refine okT_x (b' := b) (k := 1) (z' := rfs z 1) (v := 0) ?_ ?_ (by decide) (rfs7 _ _) (h.rfs 1)
    · unfold F7_ifDefined; rw [requireLetter_no hx']; rfl
    · unfold F8_ifDefined
      exact bn_go (F8_isLetter_eq _) <| jp_go <| if_no (by rw [hx']; decide) <| bn2_go (F8_refusedP z 1 (by decide)) <| if_no (by decide) rfl
