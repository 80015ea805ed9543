/-! PURE: keep, goBack, undo -/
theorem snapshot_eq {b : BS} {k : Nat} (hk : k < 2) : F2_snapshotIn b (nI k) = some (b.2.1 65 k) := by
  unfold F2_snapshotIn
  exact jp_go <| jp_go <| if_no (nI_pos (by omega)) <| if_no (nI_ge hk (by decide)) <| ro_go rfl hk (by decide) rfl rfl
theorem slot_nI {x : Int32} (h : inB x 0 1 = true) : ∃ k : Nat, k < 2 ∧ x = nI k := by
  obtain ⟨k, hk, e⟩ := inB_nI (n := 1) rfl h
  exact ⟨k, by omega, e⟩
theorem S_keep {z : MS} {b : BS} (h : Inv z b) (x : Int32) : okT Inv (F7_keep b x) (F8_keep z x) [2] := by
  obtain ⟨t, a, p, s, hI⟩ := id h
  by_cases hx : inB x 0 1 = true
  · obtain ⟨k, hk, rfl⟩ := slot_nI hx
    obtain ⟨hB, hW, hZ, hS, hP, hN, hC⟩ := id hI
    have hst : (b.2.1 65 k = none ∧ lvB b.2.2 (84 + 2 * k) = false) ∨ (b.2.1 65 k = some (84 + 2 * k) ∧ lvB b.2.2 (84 + 2 * k) = true) := by
      have q := hN k hk
      cases e : s k with
      | none => rw [e] at q; exact Or.inl q.2
      | some u => rw [e] at q; exact Or.inr ⟨q.2.2.2.1, okB_1 q.2.2.2.2.1⟩
    obtain ⟨b1, c1, c2, c3, c4, c5, c6, c7, c8, c9, c10⟩ := copyInto_eq (P := 65) (k := k) (i := 84 + 2 * k) (Or.inr ⟨rfl, hk, rfl⟩) hC hS hst
    have hS1 : SBb b1 70 a := hS.ext c2 (c8 70 (by decide) (by omega)) (c7 70 (by decide) (by omega) (by omega)) (c7 71 (by decide) (by omega) (by omega))
    obtain ⟨z1, hz1⟩ : ∃ q, q = sr (rfs z 0) 3 (pt (z 3) (2153 * k) 2153 (z 0)) := ⟨_, rfl⟩
    have r3 : (rfs z 0) 3 = z 3 := rfs_a _ _ (by decide)
    have r0 : (rfs z 0) 0 = z 0 := rfs_a _ _ (by decide)
    have z10 : z1 0 = z 0 := by rw [hz1, sr_ne _ _ (by decide)]; exact r0
    have hZ1 : ZS (up2 z1 4 k 1 0) a := by rw [up2_ne _ (by decide), z10]; exact hZ
    have hpz : ∀ u, u ≠ 3 → u ≠ 4 → up2 z1 4 k 1 u = rfs z 0 u := fun u h1 h2 => by rw [up2_ne _ h2, hz1, sr_ne _ _ h1]
    refine okT_mk (b' := b1) (z' := up2 z1 4 k 1) (v := nI (cnD a.1 26)) ?_ ?_ ?_ ⟨t, a, p, (fun j => if j = k then some a else s j), ?_, hW, hZ1, hS1, ?_, ?_, c3⟩
    · unfold F7_keep F2_takeSnapshot
      rw [requireSlot_ok hx]
      exact bx_in (b := ()) (v := ()) rfl <| (pr_in (Gr.rf b)).trans <| bn_go c1 <| bn_go (F5_definedCount_eq hS1) rfl
    · unfold F8_keep
      refine bn_go (F8_in_eq _ 0 1) <| jp_go <| if_no (by rw [hx]; decide) <| bn2_go (F8_refused0 z) <| if_go rfl ?_
      have e0 : ((0 : Int32), rfs z 0) = (fun j => (nI j, sr (rfs z 0) 3 (pt (z 3) (2153 * k) j (z 0)))) 0 := by
        show _ = (nI 0, _)
        rw [pt_0, ← r3, sr_self]; rfl
      rw [e0]
      refine Loop_seq (fun j => (nI j, sr (rfs z 0) 3 (pt (z 3) (2153 * k) j (z 0)))) 2153 (fun j hj => ?_) ?_
      · refine if_no (nI_ge (b := 2153) hj (by decide)) <| rd_go (v := z 0 j) rfl hj (by decide) (congrFun ((sr_ne (rfs z 0) (a := 3) (u := 0) (pt (z 3) (2153 * k) j (z 0)) (by decide)).trans r0) j) <| wr_go (k := 2153 * k + j) ?_ (by omega) (by decide) <| bd_go ?_
        · show (nI 2153 * nI k) + nI j = _
          rw [nI_mul, nI_add]
        · dsimp only
          rw [sr_up, pt_s, nI_1]
      · refine if_go (show (2153 : Int32) ≤ nI 2153 by decide) <| bz_go (Or.inr rfl) ?_
        dsimp only
        rw [← hz1]
        exact wr_go rfl hk (by decide) <| bn_go (F8_defined_eq hZ1 hW) rfl
    · rw [hpz 43 (by decide) (by decide)]; exact rfs7 z 0
    · refine hB.of ?_ ?_ ?_ ?_
      · rw [hpz 43 (by decide) (by decide)]; exact rfs_ne _ _ (by decide)
      · rw [hpz 5 (by decide) (by decide)]; exact rfs_a _ _ (by decide)
      · rw [c8 50 (by decide) (by omega)]
      · rw [c8 51 (by decide) (by omega)]
    · obtain ⟨p1, p2, p3, p4, ⟨n, p5, p6, p7⟩, p8⟩ := hP
      refine ⟨p1, ?_, ?_, fun i y hy => ?_, ⟨n, p5, ?_, fun i y hy => ?_⟩, fun j hj => ?_⟩
      · rw [hpz 43 (by decide) (by decide), rfs_ne _ _ (by decide)]; exact p2
      · rw [c8 63 (by decide) (by omega)]; exact p3
      · rw [hpz 1 (by decide) (by decide), rfs_a _ _ (by decide)]; exact p4 i y hy
      · rw [c8 63 (by decide) (by omega)]; exact p6
      · obtain ⟨w1, w2⟩ := p7 i y hy
        have hj : (n + 7 + i - p.length) % 6 < 6 := Nat.mod_lt _ (by decide)
        revert hj w1 w2
        generalize (n + 7 + i - p.length) % 6 = j
        intro w1 w2 hj
        exact ⟨by rw [c7 64 (by decide) (by omega) (by omega)]; exact w1, w2.ext c2 (c8 _ (by omega) (by omega)) (c7 _ (by omega) (by omega) (by omega)) (c7 _ (by omega) (by omega) (by omega))⟩
      · rw [c7 64 (by decide) (by omega) (by omega), c9 _ (by omega) (by omega) (by omega) (by omega)]; exact p8 j hj
    · intro j hj
      dsimp only
      by_cases c : j = k
      · subst c
        rw [if_pos rfl]
        dsimp only
        refine ⟨hW, ?_, ?_, c5, c4⟩
        · rw [up2_at, if_pos ⟨rfl, rfl⟩]
        · refine ZS.congr hW (fun i hi => ?_) hZ
          rw [up2_ne _ (by decide), hz1, sr_at]
          exact pt_in hi
      · rw [if_neg c]
        have q := hN j hj
        have q4 : up2 z1 4 k 1 4 j = z 4 j := by
          rw [up2_at, if_neg (fun q => c q.2), hz1, sr_ne _ _ (by decide), rfs_a _ _ (by decide)]
        cases e : s j with
        | none =>
          rw [e] at q
          dsimp only at q ⊢
          rw [q4, c6 j c, c9 _ (by omega) (by omega) (by omega) (by omega)]; exact q
        | some y =>
          rw [e] at q
          dsimp only at q ⊢
          rw [q4, c6 j c]
          refine ⟨q.1, q.2.1, ZS.congr q.1 (fun i hi => ?_) q.2.2.1, q.2.2.2.1, q.2.2.2.2.ext c2 (c8 _ (by omega) (by omega)) (c7 _ (by omega) (by omega) (by omega)) (c7 _ (by omega) (by omega) (by omega))⟩
          rw [up2_ne _ (by decide), hz1, sr_at, pt_out (by omega)]
  · have hx' : inB x 0 1 = false := by simpa using hx
    refine okT_x (b' := b) (k := 2) (z' := rfs z 1) (v := 0) ?_ ?_ (by decide) (rfs7 _ _) (h.rfs 1)
    · unfold F7_keep; rw [requireSlot_no hx']; rfl
    · unfold F8_keep
      exact bn_go (F8_in_eq _ 0 1) <| jp_go <| if_go (by rw [hx']; rfl) <| bn2_go (F8_refusedP z 1 (by decide)) <| if_no (by decide) rfl
theorem cpS_row (b : BS) {i p u : Nat} (h : u ≠ i) : (cpS b i p).1 u = b.1 u := if_neg h
/-- the reference's row 0 taken from another row -/
theorem ZS.from {z : MS} {a : AS} {f g : Nat → Int32} (hW : WA a) (h : ZS f a) (hg : ∀ k, k < 2153 → g k = f k) : ZS g a := ZS.congr hW hg h
theorem pt0_in {g : Nat → Int32} {n : Nat} {f : Nat → Int32} {i : Nat} (h : i < n) : pt g 0 n f i = f i := by
  have := pt_in (g := g) (off := 0) (n := n) (f := f) (i := i) h
  rw [Nat.zero_add] at this; exact this
theorem S_goBack {z : MS} {b : BS} (h : Inv z b) (x : Int32) : okT Inv (F7_goBack b x) (F8_goBack z x) [2, 3] := by
  obtain ⟨t, a, p, s, hI⟩ := id h
  by_cases hx : inB x 0 1 = true
  · obtain ⟨k, hk, rfl⟩ := slot_nI hx
    have hN := hI.2.2.2.2.2.1 k hk
    cases e : s k with
    | none =>
      rw [e] at hN
      refine okT_x (b' := b) (k := 3) (z' := rfs z 2) (v := 0) ?_ ?_ (by decide) (rfs7 _ _) (h.rfs 2)
      · unfold F7_goBack
        rw [requireSlot_ok hx]
        exact bx_in (b := ()) (v := ()) rfl <| bn_go (snapshot_eq hk) <| on_no hN.2.1 rfl
      · unfold F8_goBack
        exact bn_go (F8_in_eq _ 0 1) <| jp_go <| if_go (by rw [hx]; decide) <| rd_go rfl hk (by decide) hN.1 <| if_go rfl <| bn2_go (F8_refusedP z 2 (by decide)) <| if_no (by decide) rfl
    | some y =>
      rw [e] at hN
      dsimp only at hN
      obtain ⟨z1, b1, p1, e8, e7, hI1, hg, h7, hi, h17⟩ := save_inv (InvD.rf0 hI 0)
      have hD : InvD t a p1 s z1 b1 := hI1
      obtain ⟨hB, hW, hZ, hS, -, hN1, hC⟩ := hI1
      have hn := hN1 k hk
      rw [e] at hn
      obtain ⟨n1, n2, n3, n4, n5⟩ := hn
      have hS' : SBb (cpS b1 70 (84 + 2 * k)) 70 y := cpS_SBb hS.1 (by omega) n5
      have hZ' : ZS (sr z1 0 (pt (z1 0) 0 2153 (fun j => z1 3 (2153 * k + j))) 0) y := by
        rw [sr_at]
        exact ZS.congr n1 (fun i hi => pt0_in hi) n3
      refine okT_mk (b' := cpS b1 70 (84 + 2 * k)) (z' := sr z1 0 (pt (z1 0) 0 2153 (fun j => z1 3 (2153 * k + j)))) (v := nI (cnD y.1 26)) ?_ ?_ ?_ ⟨t, y, p1, s, ?_⟩
      · unfold F7_goBack
        rw [requireSlot_ok hx]
        exact bx_in (b := ()) (v := ()) rfl <| bn_go (snapshot_eq hk) <| on_so hN.2.2.2.1 <| ck_go hN.2.2.2.2.1 <| (pr_in (Gr.rf b)).trans <| bn_go e7 <| bn_go (F5_copyFrom_eq hS.1 n5.1 (by omega) n5.tok) <| bn_go (F5_definedCount_eq hS') rfl
      · unfold F8_goBack
        refine bn_go (F8_in_eq _ 0 1) <| jp_go <| if_go (by rw [hx]; decide) <| rd_go rfl hk (by decide) hN.2.1 <| if_no (by decide) <| bn2_go (F8_refused0 z) <| if_go rfl <| bn_go e8 ?_
        have e0 : ((0 : Int32), z1) = (fun j => (nI j, sr z1 0 (pt (z1 0) 0 j (fun j => z1 3 (2153 * k + j))))) 0 := by
          show _ = (nI 0, _)
          rw [pt_0, sr_self]; rfl
        rw [e0]
        refine Loop_seq (fun j => (nI j, sr z1 0 (pt (z1 0) 0 j (fun j => z1 3 (2153 * k + j))))) 2153 (fun j hj => ?_) ?_
        · refine if_no (nI_ge (b := 2153) hj (by decide)) <| rd_go (v := z1 3 (2153 * k + j)) (k := 2153 * k + j) ?_ (by omega) (by decide) (congrFun (sr_ne z1 (a := 0) (u := 3) (pt (z1 0) 0 j (fun j => z1 3 (2153 * k + j))) (by decide)) (2153 * k + j)) <| wr_go rfl hj (by decide) <| bd_go ?_
          · show (nI 2153 * nI k) + nI j = _
            rw [nI_mul, nI_add]
          · dsimp only
            have q := pt_s (z1 0) 0 j (fun j => z1 3 (2153 * k + j))
            rw [Nat.zero_add] at q
            rw [sr_up, q, nI_1]
        · exact if_go (show (2153 : Int32) ≤ nI 2153 by decide) <| bn_go (F8_defined_eq hZ' n1) rfl
      · rw [sr_ne _ _ (by decide), h7]; exact rfs7 z 0
      · refine hD.cur (hB.of ?_ ?_ ?_ ?_) n1 hZ' ⟨sr_ne _ _ (by decide), sr_ne _ _ (by decide), sr_ne _ _ (by decide), by rw [sr_ne _ _ (by decide)]⟩ (cpS_ext b1 (by decide)) (fun u h1 h2 h3 h4 => ⟨if_neg h3, ?_⟩) (fun _ _ _ => rfl) hS' (cpS_closed hC)
        · rw [sr_ne _ _ (by decide)]
        · exact sr_ne _ _ (by decide)
        · exact congrFun (cpS_row b1 (show (50 : Nat) ≠ 70 by decide)) 6
        · exact cpS_row b1 (show (51 : Nat) ≠ 70 by decide)
        · show (if u = 70 then _ else if u = 70 + 1 then _ else b1.2.1 u) = _
          rw [if_neg h3, if_neg h4]
  · have hx' : inB x 0 1 = false := by simpa using hx
    refine okT_x (b' := b) (k := 2) (z' := rfs z 1) (v := 0) ?_ ?_ (by decide) (rfs7 _ _) (h.rfs 1)
    · unfold F7_goBack; rw [requireSlot_no hx']; rfl
    · unfold F8_goBack
      exact bn_go (F8_in_eq _ 0 1) <| jp_go <| if_no (by rw [hx']; decide) <| bn2_go (F8_refusedP z 1 (by decide)) <| if_no (by decide) rfl
