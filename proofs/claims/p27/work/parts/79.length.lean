/-! PURE: lengthOf -/
theorem rep_getD {α : Type} (d w : α) {N i : Nat} (h : i < N) : (List.replicate N w).getD i d = w := by
  rw [List.getD_eq_getElem?_getD, List.getElem?_replicate, if_pos h]; rfl
theorem lengthZ_ok {z : MS} {a : AS} {t : Tx} {L k len : Nat} (hW : WA a) (hL : a.2.2.1 = nI L) (hL1 : 1 ≤ L) (hL12 : L ≤ 12) (hZ : ZS (z 0) a) (hk : k < 26) (et : a.1 k = some t) (hlen : len ≤ 20) :
    ∃ z12 z14 z' x v, F8_begins z 27 = some z12 ∧ F8_opens (up2 z12 43 17 (nI len)) (nI k) = some z14 ∧ F8_measures z14 = some (z', x) ∧ SmZ z z' ∧ z' 43 7 = z 43 7 ∧
      (jp (fun (x20 : Int32) => some (z', x20)) fun k17 => if x = 0 then k17 (-1) else rd (z' 23) 401 (0 : Int32) fun x19 => k17 x19) = some (z', v) ∧
      v = (if (callF (evF a.1 L 13) a.1 L [] k (List.replicate (hls t) (List.replicate len 97)) [] G00).2.2.2.2 = true then -1 else nI (callF (evF a.1 L 13) a.1 L [] k (List.replicate (hls t) (List.replicate len 97)) [] G00).1.length) := by
  obtain ⟨z12, e12, r12, b10, b11, b12, b23, b18, b22, b24, b25, b26, b28, b17, bk⟩ := begins_ok z 27
  obtain ⟨z13, hz13⟩ : ∃ q, q = up2 z12 43 17 (nI len) := ⟨_, rfl⟩
  have r13 : ∀ u, u ≠ 43 → z13 u = z12 u := fun u hu => by rw [hz13]; exact up2_ne _ hu
  have k13 : ∀ j, j ≠ 17 → z13 43 j = z12 43 j := fun j hj => by rw [hz13, up2_at, if_neg (by omega)]
  have k13' : z13 43 17 = nI len := by rw [hz13, up2_at, if_pos ⟨rfl, rfl⟩]
  obtain ⟨z14, e14, r1, r2, a10, a11, a12, a15, a13, a14, a18, a25, a26, a24, ak⟩ := opens_ok (z := z13) (l := 0) (c := 0) (o := 0) (e := 0) (d := 0) (by rw [k13 18 (by decide)]; exact b18) (by decide) (by rw [k13 22 (by decide)]; exact b22) (by decide) (by rw [r13 23 (by decide)]; exact b23) (by rw [k13 24 (by decide)]; exact b24) (by rw [k13 25 (by decide)]; exact b25) (by decide) (by rw [k13 26 (by decide)]; exact b26) (by decide) (nI k)
  have z14u : ∀ u, u < 10 → z14 u = z u := fun u hu => by rw [r1 u (Or.inl hu) (by omega), r13 u (by omega), r12 u (by omega) (by omega) (by omega) (by omega) (by omega)]
  have z14k : ∀ j, j < 17 → z14 43 j = z 43 j := fun j hj => by rw [ak j (by omega) (by omega) (by omega) (by omega), k13 j (by omega), bk j hj]
  have hZ14 : ZS (z14 0) a := by rw [z14u 0 (by decide)]; exact hZ
  have hs14 : SrcZ z14 k t := hZ14.src hW hk et
  have ht := hW.1 k t et
  have hG : GZ z14 (bodyG G00 []) := by
    refine ⟨a25, a26, ?_, hold_nil _, rfl, Nat.zero_le _, by decide, by decide⟩
    rw [ak 28 (by decide) (by decide) (by decide) (by decide), k13 28 (by decide)]; exact b28
  have z1424 : z14 43 24 = 0 := a24
  obtain ⟨as, has⟩ : ∃ as, as = List.replicate (hls t) (List.replicate len (97 : Int32)) := ⟨_, rfl⟩
  rw [← has]
  have hfill : ∀ h, h < hls t → (as.getD h []).length = len := fun h hh => by rw [has, rep_getD [] _ hh, List.length_replicate]
  obtain ⟨m1, m2⟩ := MT_all hW hL hL12 13 [k] (fun i => as.getD i []) t z14 0 0 (bodyG G00 []) hZ14 ⟨a10, hk, trivial⟩ hs14 a10 (Or.inl (by simp)) rfl hL1 ht.1 (Or.inr (Or.inl ⟨rfl, len, by rw [ak 17 (by decide) (by decide) (by decide) (by decide)]; exact k13', by omega, hfill⟩)) a18 (by rw [ak 22 (by decide) (by decide) (by decide) (by decide), k13 22 (by decide)]; exact b22) z1424 hG rfl a11 a12 (by rw [r1 23 (by decide) (by decide), r13 23 (by decide)]; exact b23) (by decide) (Nat.zero_le _)
  have ed : edg a.1 L [] k = 0 := by
    unfold edg; rw [et]; dsimp only
    rw [if_neg (by simp), if_neg (by show ¬ L ≤ 0; omega)]
  obtain ⟨R, hR⟩ : ∃ R, R = evF a.1 L 13 [k] (fun i => as.getD i []) t (bodyG G00 []) := ⟨_, rfl⟩
  have hres : resF (evF a.1 L 13) a.1 L [] k as G00 = R := by
    unfold resF; rw [if_pos ed, et, hR]; rfl
  have hcb : (callF (evF a.1 L 13) a.1 L [] k as [] G00).2.2.2.2 = (R.2.2.2.2 || ovr ([] ++ R.1)) := by rw [callF_bad, hres]
  have hc1 : (callF (evF a.1 L 13) a.1 L [] k as [] G00).1 = R.1 := by
    unfold callF; rw [hres]; rfl
  rw [← hR] at m1 m2
  have sm14 : SmZ z z14 := ⟨z14u 0 (by decide), z14u 1 (by decide), z14u 3 (by decide), z14u 4 (by decide), z14u 5 (by decide), z14k 2 (by decide), z14k 6 (by decide)⟩
  by_cases c : FL R 0
  · obtain ⟨z', p1, p2⟩ := m1 c
    have hb : (callF (evF a.1 L 13) a.1 L [] k as [] G00).2.2.2.2 = true := by
      rw [hcb]
      rcases c with c | c
      · rw [c]; rfl
      · have : ovr ([] ++ R.1) = true := by unfold ovr; rw [List.nil_append, decide_eq_true (by omega)]
        rw [this, Bool.or_true]
    refine ⟨z12, z14, z', 0, -1, e12, by rw [← hz13]; exact e14, measures_of p1, sm14.tr p2.smz, (p2.2 7 (by omega)).trans (z14k 7 (by decide)), jp_go <| if_go rfl rfl, ?_⟩
    rw [if_pos hb]
  · obtain ⟨z3, p1, p2, p3, p4, p5, p6, p7, p8, p9⟩ := m2 c
    have c1 : R.2.2.2.2 = false := not_t (fun q => c (Or.inl q))
    have c2 : ¬ 200 < 0 + R.1.length := fun q => c (Or.inr q)
    have hb : (callF (evF a.1 L 13) a.1 L [] k as [] G00).2.2.2.2 = false := by
      rw [hcb, c1]
      have : ovr ([] ++ R.1) = false := by unfold ovr; rw [List.nil_append, decide_eq_false (by omega)]
      rw [this]; rfl
    have p4' : z3 43 18 = nI (0 + 1) := p4
    obtain ⟨z4, e4, G4, r4, k4⟩ := notes_ok p7 (nI k) 0 (nI 0) (z3 13 1) (nI (0 + R.1.length) - z3 15 1) (z3 14 1)
    have cl := mB_close (l := 0) (i := t.length) (p := k) (u := t) (c := 0) (x15 := z3 15 1) (by decide) p6 p4' ((p3.2.1 1 (Nat.lt_succ_self 1)).1.trans a10) p8 (hs14.sm1 p2) (Nat.le_refl _) (by omega) p5 (by decide) rfl rfl rfl p9 e4 (by rw [k4 18 (by decide)]; exact p4')
    obtain ⟨z5, hz5⟩ : ∃ q, q = up2 z4 43 18 (nI 0) := ⟨_, rfl⟩
    rw [← hz5] at cl
    have s5 : Sm1 z14 z5 := (p2.tr ⟨fun u v1 v2 => r4 u (by omega) v2, fun j hj => k4 j (by omega)⟩).tr (by rw [hz5]; exact Sm1.up (Or.inr ⟨rfl, by decide, by decide⟩))
    have z5r : ∀ u, u ≠ 27 → u ≠ 43 → z5 u = z3 u := fun u q1 q2 => by rw [hz5, up2_ne _ q2]; exact r4 u q1 q2
    have z510 : z5 10 0 = 27 := by
      rw [z5r 10 (by decide) (by decide), (p3.2.1 0 (Nat.zero_lt_succ _)).1, r2 10 0 (by decide) (by decide) (by decide), r13 10 (by decide)]; exact b10
    have z511 : z5 11 0 = nI 0 := by
      rw [z5r 11 (by decide) (by decide), (p3.1 0 (Nat.zero_lt_succ _)).1, r2 11 0 (by decide) (by decide) (by decide), r13 11 (by decide)]; exact b11
    have hend := mB_end (z := z5) (i := 0) (p := 27) (n := 0) (by rw [hz5, up2_at, if_neg (by decide), k4 24 (by decide)]; exact p6) (by rw [hz5, up2_at, if_pos ⟨rfl, rfl⟩]; rfl) z510 z511 (jp_go <| if_no (fun q => q rfl) rfl) (Nat.le_refl _) (by decide)
    refine ⟨z12, z14, z5, 1, nI R.1.length, e12, by rw [← hz13]; exact e14, measures_of (p1.trans (cl.trans hend)), sm14.tr s5.smz, (s5.2 7 (by omega)).trans (z14k 7 (by decide)), ?_, ?_⟩
    · refine jp_go <| if_no (by decide) <| rd_go (k := 0) (v := nI R.1.length) rfl (by decide) (by decide) ?_ rfl
      rw [z5r 23 (by decide) (by decide), p9, Nat.zero_add]
    · rw [if_neg (by rw [hb]; decide), hc1]
theorem S_lengthOf {z : MS} {b : BS} (h : Inv z b) (x y : Int32) : okT Inv (F7_lengthOf b x y) (F8_lengthOf z x y) [1, 2] := by
  obtain ⟨t0, a, p, s, hB, hW, hZ, hS, -⟩ := id h
  by_cases hx : inB x 0 25 = true
  · by_cases hy : inB y 0 20 = true
    · obtain ⟨k, hk, rfl⟩ := letter_nI hx
      obtain ⟨len, hlen, rfl⟩ := inB_nI (n := 20) rfl hy
      have hZr : ZS (rfs z 0 0) a := hZ.rfs 0
      have hdf := F8_isDefined_eq hZr hk (fun t e => (hW.1 k t e).2)
      have hdo := F5_definitionOf_eq hS.1 hk
      have hD := hS.2.1 k hk
      have hyr := hy
      unfold inB at hyr
      rw [Bool.and_eq_true, decide_eq_true_iff, decide_eq_true_iff] at hyr
      cases e : a.1 k with
      | none =>
        rw [e] at hD hdf
        dsimp only at hD
        refine okT_mk (b' := b) (z' := rfs z 0) (v := -1) ?_ ?_ (rfs7 _ _) (h.rfs 0)
        · unfold F7_lengthOf
          rw [requireLetter_ok hx]
          exact bx_in (b := ()) (v := ()) rfl <| jp_go <| if_no (Int32.not_lt.mpr hyr.1) <| if_go hyr.2 <| bn_go hdo <| on_no hD rfl
        · unfold F8_lengthOf
          exact bn_go (F8_isLetter_eq _) <| jp_go <| if_go (by rw [hx]; decide) <| bn_go (F8_in_eq _ _ _) <| if_no (by rw [hy]; decide) <| bn2_go (F8_refused0 z) <| if_go rfl <| bn_go hdf <| if_no (fun q => q rfl) rfl
      | some t =>
        rw [e] at hD hdf
        obtain ⟨xx, hx1, hx2⟩ := hD
        obtain ⟨dd, hd1, hd2, hd3⟩ := hW.2.1
        have ht := hW.1 k t e
        have hh : hls t ≤ 60 := Nat.le_trans (hls_le t) ht.2
        obtain ⟨b', m1, m2⟩ := measureCall_ok (k := k) (N := hls t) hW hS hd3 hd2 hk hh hlen
        obtain ⟨z12, z14, z', xr, v, f1, f2, f3, f4, f5, f6, f7⟩ := lengthZ_ok hW hd3 hd1 hd2 hZr hk e hlen
        refine okT_mk (b' := b') (z' := z') (v := v) ?_ ?_ ?_ (h.sm ((SmZ.rfs z 0).tr f4) m2.sm)
        · unfold F7_lengthOf
          rw [requireLetter_ok hx]
          refine bx_in (b := ()) (v := ()) rfl <| jp_go <| if_no (Int32.not_lt.mpr hyr.1) <| if_go hyr.2 <| bn_go hdo <| on_so hx1 <| ck_go hx2.1 ?_
          rw [hx2.2.2.2.1]
          refine bn2_go m1 ?_
          rw [f7]
        · unfold F8_lengthOf
          exact bn_go (F8_isLetter_eq _) <| jp_go <| if_go (by rw [hx]; decide) <| bn_go (F8_in_eq _ _ _) <| if_no (by rw [hy]; decide) <| bn2_go (F8_refused0 z) <| if_go rfl <| bn_go hdf <| if_go (by show ¬ bI true = 0; decide) <| bn_go f1 <| bd_go <| bn_go f2 <| bn2_go f3 f6
        · rw [f5]; exact rfs7 _ _
    · have hy' : inB y 0 20 = false := by simpa using hy
      refine okT_x (b' := b) (k := 2) (z' := rfs z 2) (v := 0) ?_ ?_ (by decide) (rfs7 _ _) (h.rfs 2)
      · unfold F7_lengthOf
        rw [requireLetter_ok hx]
        refine bx_in (b := ()) (v := ()) rfl <| jp_go ?_
        by_cases h1 : y < 0
        · exact if_go h1 rfl
        · refine if_no h1 ?_
          by_cases h2 : y ≤ 20
          · exfalso
            unfold inB at hy'
            rw [decide_eq_true (Int32.not_lt.mp h1), decide_eq_true h2] at hy'
            cases hy'
          · exact if_no h2 rfl
      · unfold F8_lengthOf
        exact bn_go (F8_isLetter_eq _) <| jp_go <| if_go (by rw [hx]; decide) <| bn_go (F8_in_eq _ _ _) <| if_go (by rw [hy']; rfl) <| bn2_go (F8_refusedP z 2 (by decide)) <| if_no (by decide) rfl
  · have hx' : inB x 0 25 = false := by simpa using hx
    refine okT_x (b' := b) (k := 1) (z' := rfs z 1) (v := 0) ?_ ?_ (by decide) (rfs7 _ _) (h.rfs 1)
    · unfold F7_lengthOf; rw [requireLetter_no hx']; rfl
    · unfold F8_lengthOf
      exact bn_go (F8_isLetter_eq _) <| jp_go <| if_no (by rw [hx']; decide) <| bn2_go (F8_refusedP z 1 (by decide)) <| if_no (by decide) rfl
