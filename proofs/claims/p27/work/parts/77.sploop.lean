/-! PURE: spelling: the loop over a text -/
theorem step1 {u v post : Tx} {c : Int32} {p : Nat} (h : u.drop p = (c :: v) ++ post) : p < u.length ∧ u.drop (p + 1) = v ++ post ∧ hls (u.take (p + 1)) = hls (u.take p) + (if c = 63 then 1 else 0) := by
  obtain ⟨h1, h2, h3⟩ := drop_lt (w := v ++ post) h
  refine ⟨h1, h3, ?_⟩
  have q := hls_take (x := [c]) (w := v ++ post) h
  have e : hls [c] = (if c = 63 then 1 else 0) := by
    rw [hls_cons]; rfl
  rw [e] at q
  exact q
set_option maxHeartbeats 1000000 in
theorem SP_succ {a : AS} {L n : Nat} (hSP : ∀ n', n = n' + 1 → SPn a L n') (hW : WA a) (hL : a.2.2.1 = nI L) (hL12 : L ≤ 12) : SPn a L n := by
  intro O fill fc u N
  have hni := callF_ni (D := a.1) L n O (hD_of hW)
  induction N with
  | zero =>
    intro v post p hd z d B S env hN hOn hOL hZ hs hpo hh hp hP hE hC h32 h38 h39 h29 h30 h31 hc60 hw200 hdl
    cases v with
    | cons c v => rw [List.length_cons] at hN; omega
    | nil =>
      refine ⟨_, B, sB_pop (by omega) h32 h29 h30 hs hp hpo hh, Sp.up (Or.inr (Or.inl ⟨rfl, by decide⟩)), ?_, ?_, Nat.le_refl _, by omega, ?_, fun i hi => by rw [up2_ne _ (by decide)], hold_nil _, EnvSt.up (by omega) (by omega), StkSt.up (by omega)⟩
      · rw [up2_at, if_pos ⟨rfl, rfl⟩]
      · rw [up2_at, if_neg (by decide)]; exact h38
      · rw [up2_at, if_neg (by decide)]; exact h39
  | succ N ih =>
    intro v post p hd z d B S env hN hOn hOL hZ hs hpo hh hp hP hE hC h32 h38 h39 h29 h30 h31 hc60 hw200 hdl
    cases v with
    | nil => exact ih [] post p hd z d B S env (Nat.zero_le _) hOn hOL hZ hs hpo hh hp hP hE hC h32 h38 h39 h29 h30 h31 hc60 hw200 hdl
    | cons c v =>
      rw [List.length_cons] at hN
      have hB : B ≤ 60 := by omega
      obtain ⟨hlt, hdr, hhls⟩ := step1 hpo
      -- the rest, behind an item
      have rest : ∀ (w : Tx) (hd' : Bool) (p' c1 B1 : Nat) (w1 : Tx) (z1 : MS), w.length ≤ N → Loop sB z = Loop sB z1 → ITM z z1 d B S p' w1 B1 → B1 ≤ B + c1 → u.drop p' = w ++ post → p' ≤ u.length → PrsOK w [] hd' → B + (c1 + (xl (callF (evF a.1 L n) a.1 L O) fill (hls (u.take p')) w + sm fc (hls (u.take p')) (hls w))) ≤ 60 → S + (w1.length + (vl (callF (evF a.1 L n) a.1 L O) fill (hls (u.take p')) w).length) ≤ 200 →
          POP z d B S (w1 ++ vl (callF (evF a.1 L n) a.1 L O) fill (hls (u.take p')) w) (c1 + (xl (callF (evF a.1 L n) a.1 L O) fill (hls (u.take p')) w + sm fc (hls (u.take p')) (hls w))) := by
        intro w hd' p' c1 B1 w1 z1 q1 q2 q3 q4 q5 q6 q7 q8 q9
        obtain ⟨i1, i2, i3, i4, i5, i6, i7, i8, i9, i10, i11, i12⟩ := id q3
        exact POP.of q2 q3 q4 (ih w post p' hd' z1 d B1 (S + w1.length) env q1 hOn hOL (hZ.sp hW i1) (hs.sp i1) q5 hh q6 q7 (hE.keep i8 i4) (hC.keep i1 i8 i4) i2 i3 i5 (i10.trans h29) i12 (i11.trans h31) (by omega) (by omega) (by omega))
      rcases hP.way with ⟨hpl, hp'⟩ | ⟨rfl, hp'⟩ | ⟨hab, hnx, hp'⟩ | ⟨hab, v', rfl, hp'⟩ | ⟨rfl, f, r, hst, hp'⟩ | ⟨rfl, f, r, hst, hf6, hp'⟩
      · -- a small sign
        have hnp := pl_ne hpl
        obtain ⟨e1, e2⟩ := vl_plain hni (fill := fill) hpl hp' (hls (u.take p))
        rw [if_neg hnp.1] at hhls
        replace hhls : hls (u.take (p + 1)) = hls (u.take p) := hhls
        have e3 : hls (c :: v) = hls v := by rw [hls_cons, if_neg hnp.1, Nat.zero_add]
        rw [e1, e2, e3]
        rw [e2, e3] at hc60
        rw [e1, List.length_append] at hw200
        have l1 : ([c] : Tx).length = 1 := rfl
        obtain ⟨f1, f2⟩ := put_itm (p := p) h32 h38 h39 (by omega) c
        have g := rest v false (p + 1) 0 B [c] _ (by omega) (sB_go (by omega) h32 h29 h30 hs hpo hnp.2.2.1 hnp.2.2.2 (Or.inr (Or.inl ⟨pl_ab hpl, hnp.1, f1⟩))) f2 (by omega) hdr (by omega) hp' (by rw [hhls]; omega) (by rw [hhls]; omega)
        rw [hhls, Nat.zero_add] at g
        exact g
      · -- a hole
        obtain ⟨e1, e2⟩ := vl_hole hni (fill := fill) hp' (hls (u.take p))
        rw [if_pos rfl] at hhls
        have e3 : hls (63 :: v) = 1 + hls v := by rw [hls_cons, if_pos rfl]
        have e4 : sm fc (hls (u.take p)) (hls (63 :: v)) = fc (hls (u.take p)) + sm fc (hls (u.take p) + 1) (hls v) := by
          rw [e3, Nat.add_comm]; rfl
        rw [e1, e2, e4]
        rw [e2, e4] at hc60
        rw [e1, List.length_append] at hw200
        obtain ⟨y, hy⟩ : ∃ y, y = up2 z 30 d (nI (p + 1)) := ⟨_, rfl⟩
        have sy : Sp z y := by rw [hy]; exact Sp.up (Or.inl (by decide))
        have ey : EnvSt z y B := by rw [hy]; exact EnvSt.up (by omega) (by omega)
        have ky : StkSt z y d := by rw [hy]; exact StkSt.up (by omega)
        have yr : ∀ j, j ≠ 30 → y j = z j := fun j hj => by rw [hy]; exact up2_ne _ hj
        have y30 : y 30 d = nI (p + 1) := by rw [hy, up2_at, if_pos ⟨rfl, rfl⟩]
        have fin : ∀ (z1 : MS) (B1 : Nat), Loop sB z = Loop sB z1 → ITM z z1 d B S (p + 1) (fill (hls (u.take p))) B1 → B1 ≤ B + fc (hls (u.take p)) → POP z d B S (fill (hls (u.take p)) ++ vl (callF (evF a.1 L n) a.1 L O) fill (hls (u.take p) + 1) v) (xl (callF (evF a.1 L n) a.1 L O) fill (hls (u.take p) + 1) v + (fc (hls (u.take p)) + sm fc (hls (u.take p) + 1) (hls v))) := by
          intro z1 B1 q1 q2 q3
          have g := rest v false (p + 1) (fc (hls (u.take p))) B1 (fill (hls (u.take p))) z1 (by omega) q1 q2 q3 hdr (by omega) hp' (by rw [hhls]; omega) (by rw [hhls]; omega)
          rw [hhls] at g
          exact g.le (by omega)
        have hgo : ∀ {z2 : MS}, F8_fills y = some z2 → Loop sB z = Loop sB z2 := fun {z2} q => sB_go (by omega) h32 h29 h30 hs hpo (by decide) (by decide) (Or.inr (Or.inr ⟨rfl, by rw [← hy]; exact q⟩))
        cases O with
        | nil =>
          have hE' : env = -1 := hE
          have hC' : fill = fun _ => [63] := hC
          have ef : fill (hls (u.take p)) = [63] := by rw [hC']
          rw [ef] at hw200
          have l1 : ([63] : Tx).length = 1 := rfl
          obtain ⟨f1, f2⟩ := put_itm (p := p) h32 h38 h39 (by omega) 63
          rw [← hy] at f1 f2
          refine fin _ B (hgo (fills_top (by omega) (by rw [yr 43 (by decide)]; exact h32) (by rw [yr 31 (by decide), h31]; exact hE') (by rw [yr 29 (by decide)]; exact h29) y30 (hs.sp sy) hlt f1)) ?_ (by omega)
          rw [ef]; exact f2
        | cons k O =>
          obtain ⟨b, m, c1, c2, c3, c4, c5, c6⟩ := hC
          rw [List.length_cons] at hdl
          have q := ey.1 b c1
          have hfl := fills_in (y := y) (m := m) (b := b) (by omega) (by rw [yr 43 (by decide)]; exact h32) (by rw [yr 31 (by decide), h31]; exact c2) (by omega) (by rw [yr 29 (by decide)]; exact h29) y30 (hs.sp sy) hlt (q.2.2.2.trans c3) c4
          by_cases cm : m ≤ hls (u.take p)
          · rw [if_pos cm] at hfl
            have ef := c5 _ cm
            refine fin y B (hgo hfl) ?_ (by omega)
            rw [ef]
            exact ⟨sy, by rw [yr 43 (by decide)]; exact h32, by rw [yr 43 (by decide)]; exact h38, Nat.le_refl _, by rw [yr 43 (by decide)]; exact h39, fun i _ => by rw [yr 0 (by decide)], hold_nil _, ey, ky, by rw [yr 29 (by decide)], by rw [yr 31 (by decide)], y30⟩
          · rw [if_neg cm] at hfl
            obtain ⟨z2, hz2⟩ : ∃ z2, z2 = enterZ y d (y 34 b) (y 37 (6 * b + hls (u.take p))) (y 35 b) := ⟨_, rfl⟩
            rw [← hz2] at hfl
            have s2 : Sp z z2 := sy.tr (by
              rw [hz2]
              exact (((Sp.up (Or.inr (Or.inl ⟨rfl, by decide⟩))).tr (Sp.up (Or.inl (by decide)))).tr (Sp.up (Or.inl (by decide)))).tr (Sp.up (Or.inl (by decide))))
            have e2' : EnvSt z z2 B := ey.tr (by
              rw [hz2]
              exact (((EnvSt.up (by omega) (by omega)).tr (EnvSt.up (by omega) (by omega))).tr (EnvSt.up (by omega) (by omega))).tr (EnvSt.up (by omega) (by omega)))
            have k2 : StkSt y z2 (d + 1) := by
              rw [hz2]
              exact (((StkSt.up (by omega)).tr (StkSt.up (by omega))).tr (StkSt.up (by omega))).tr (StkSt.up (by omega))
            have n32 : z2 43 32 = nI (d + 1) := by
              rw [hz2]; unfold enterZ
              rw [up2_ne _ (by decide), up2_ne _ (by decide), up2_ne _ (by decide), up2_at, if_pos ⟨rfl, rfl⟩]
            have n43 : ∀ j, j ≠ 32 → z2 43 j = z 43 j := fun j hj => by
              rw [hz2]; unfold enterZ
              rw [up2_ne _ (by decide), up2_ne _ (by decide), up2_ne _ (by decide), up2_at, if_neg (by omega), yr 43 (by decide)]
            have n0 : z2 0 = z 0 := by
              rw [hz2]; unfold enterZ
              rw [up2_ne _ (by decide), up2_ne _ (by decide), up2_ne _ (by decide), up2_ne _ (by decide), yr 0 (by decide)]
            have n29 : z2 29 (d + 1) = z 34 b := by
              rw [hz2]; unfold enterZ
              rw [up2_ne _ (by decide), up2_ne _ (by decide), up2_at, if_pos ⟨rfl, rfl⟩]; exact q.2.1
            have n30 : z2 30 (d + 1) = z 37 (6 * b + hls (u.take p)) := by
              rw [hz2]; unfold enterZ
              rw [up2_ne _ (by decide), up2_at, if_pos ⟨rfl, rfl⟩]; exact ey.2 _ (by omega)
            have n31 : z2 31 (d + 1) = z 35 b := by
              rw [hz2]; unfold enterZ
              rw [up2_at, if_pos ⟨rfl, rfl⟩]; exact q.2.2.1
            have hpop := c6 (hls (u.take p)) (by omega) z2 (d + 1) B S s2 (e2'.le (by omega)) (by omega) n32 (by rw [n43 38 (by decide)]; exact h38) (by rw [n43 39 (by decide)]; exact h39) n29 n30 n31 (by omega) (by omega) (by omega)
            obtain ⟨q1, q2, q3⟩ := k2 d (by omega)
            obtain ⟨w3, B3, f1, f2, f3⟩ := ITM.of (p' := p + 1) s2 e2' (ky.tr (k2.le (by omega))) (q1.trans (by rw [yr 29 (by decide)])) (q3.trans (by rw [yr 31 (by decide)])) (q2.trans y30) (fun i _ => by rw [n0]) (Nat.le_refl _) hpop
            exact fin w3 B3 ((hgo hfl).trans f1) f2 f3
      · -- a call that stands alone
        obtain ⟨e1, e2⟩ := vl_lone hni (fill := fill) hab hnx hp' (hls (u.take p))
        have hn4 := ab_ne hab
        rw [if_neg hn4.1] at hhls
        replace hhls : hls (u.take (p + 1)) = hls (u.take p) := hhls
        have e3 : hls (c :: v) = hls v := by rw [hls_cons, if_neg hn4.1, Nat.zero_add]
        rw [e1, e2, e3]
        rw [e2, e3] at hc60
        rw [e1, List.length_append] at hw200
        have hhd : (u.drop (p + 1)).head? ≠ some 40 := by
          rw [hdr]
          intro q
          cases v with
          | nil => rcases hh with rfl | q2 | q2
                   · cases q
                   · rw [List.nil_append, q2] at q; cases q
                   · rw [List.nil_append, q2] at q; cases q
          | cons x v => exact hnx q
        obtain ⟨y, hy⟩ : ∃ y, y = up2 z 30 d (nI (p + 1)) := ⟨_, rfl⟩
        have yr : ∀ j, j ≠ 30 → y j = z j := fun j hj => by rw [hy]; exact up2_ne _ hj
        have sy : Sp z y := by rw [hy]; exact Sp.up (Or.inl (by decide))
        obtain ⟨z3, k1, k2⟩ := skips_none (y := y) (d := d) (B := B) (q := p + 1) (by omega) (by rw [yr 43 (by decide)]; exact h32) (by rw [yr 43 (by decide)]; exact h38) (by omega) (by rw [yr 29 (by decide)]; exact h29) (by rw [hy, up2_at, if_pos ⟨rfl, rfl⟩]) (hs.sp sy) (by omega) hhd
        rw [hy] at k1 k2
        have x0 : xls (callF (evF a.1 L n) a.1 L O) fill (hls (u.take p)) [] = 0 := rfl
        have v0 : vls (callF (evF a.1 L n) a.1 L O) fill (hls (u.take p)) [] = [] := rfl
        have m0 : sm fc (hls (u.take p)) (hll []) = 0 := rfl
        obtain ⟨z1, B1, f1, f2, f3⟩ := sp_call hSP hW hL hL12 (fill := fill) (fc := fc) (vs := []) (ss := []) (k := ltr c) hOn hOL hZ hs hpo hab rfl hE hC h32 h38 h39 h29 h30 h31 hdl k1 k2 rfl (Nat.zero_le _) (fun i hi => absurd hi (by simp)) (fun i hi => absurd hi (by simp)) (by rw [x0, v0, m0]; omega) (by rw [v0]; omega)
        rw [x0, v0, m0] at f3
        rw [v0] at f2
        have g := rest v true (p + 1) (ceF a.1 L n O (ltr c) []) B1 _ z1 (by omega) f1 f2 (by omega) hdr (by omega) hp' (by rw [hhls]; omega) (by rw [hhls]; omega)
        rw [hhls, ← Nat.add_assoc] at g
        exact g
      · -- a call with arguments
        have hn4 := ab_ne hab
        rw [if_neg hn4.1] at hhls
        replace hhls : hls (u.take (p + 1)) = hls (u.take p) := hhls
        obtain ⟨vs, w', a1, a2, a3, a4, a5⟩ := (hp' (ltr c, [], []) rfl).args rfl
        subst a3
        obtain ⟨e1, e2⟩ := vl_par hni (fill := fill) hab a1 a4 a5 (hls (u.take p))
        have e3 : hls (c :: 40 :: (jn vs ++ 41 :: w')) = hll vs + hls w' := by
          rw [hls_cons, if_neg hn4.1, hls_cons, if_neg (by decide), hls_app, hls_cons, if_neg (by decide), hll_jn]; omega
        rw [e1, e2, e3, sm_add]
        rw [e2, e3, sm_add] at hc60
        rw [e1, List.length_append] at hw200
        have hdr2 : u.drop (p + 1) = 40 :: (jn vs ++ 41 :: (w' ++ post)) := by rw [hdr]; simp
        obtain ⟨hlt2, hdr3, hhls2⟩ := step1 (v := jn vs ++ 41 :: (w' ++ post)) (post := []) (c := 40) (p := p + 1) (by rw [hdr2]; simp)
        rw [List.append_nil] at hdr3
        rw [if_neg (by decide), hhls] at hhls2
        replace hhls2 : hls (u.take (p + 1 + 1)) = hls (u.take p) := hhls2
        have hdr4 : u.drop (p + 1 + 1 + (jn vs).length + 1) = w' ++ post := (drop_lt (drop_app hdr3)).2.2
        have hlt4 : p + 1 + 1 + (jn vs).length < u.length := (drop_lt (drop_app hdr3)).1
        have hh4 : hls (u.take (p + 1 + 1 + (jn vs).length + 1)) = hls (u.take p) + hll vs := by
          have q := hls_take (x := jn vs ++ [41]) (w := w' ++ post) (u := u) (q := p + 1 + 1) (by rw [hdr3]; simp)
          have l1 : (jn vs ++ [(41 : Int32)]).length = (jn vs).length + 1 := by rw [List.length_append]; rfl
          rw [l1, hls_app, hll_jn, ← Nat.add_assoc, hhls2] at q
          have : hls [(41 : Int32)] = 0 := rfl
          omega
        obtain ⟨y, hy⟩ : ∃ y, y = up2 z 30 d (nI (p + 1)) := ⟨_, rfl⟩
        have yr : ∀ j, j ≠ 30 → y j = z j := fun j hj => by rw [hy]; exact up2_ne _ hj
        have sy : Sp z y := by rw [hy]; exact Sp.up (Or.inl (by decide))
        obtain ⟨z3, k1, k2⟩ := skips_par (y := y) (d := d) (B := B) (q := p + 1) (by omega) (by rw [yr 43 (by decide)]; exact h32) (by rw [yr 43 (by decide)]; exact h38) (by omega) (by rw [yr 29 (by decide)]; exact h29) (by rw [hy, up2_at, if_pos ⟨rfl, rfl⟩]) (hs.sp sy) a1 a4 a2 hdr2
        rw [hy] at k1 k2
        rw [List.length_cons, List.length_append, List.length_cons] at hN
        obtain ⟨z1, B1, f1, f2, f3⟩ := sp_call hSP hW hL hL12 (fill := fill) (fc := fc) (vs := vs) (k := ltr c) hOn hOL hZ hs hpo hab rfl hE hC h32 h38 h39 h29 h30 h31 hdl k1 k2 (by rw [List.length_cons]; exact nxt_len vs _ a1) a2
          (fun i hi => by
            obtain ⟨post', p1, p2, p3⟩ := arg_at vs (p + 1 + 1) a1 hdr3 i hi
            refine ⟨post', p1, p2, by rw [p3, hhls2], ?_⟩
            refine a4 _ ?_
            rw [List.getD_eq_getElem?_getD, List.getElem?_eq_getElem hi]
            exact List.getElem_mem hi)
          (fun i hi post' q z' d' B' S' q1 q2 q3 q4 q5 q6 q7 q8 q9 q10 q11 q12 q13 q14 q15 q16 => by
            refine ih (vs.getD i []) post' q false z' d' B' S' env ?_ hOn hOL q1 q2 q3 q4 q5 (PrsOK.start ?_) q6 q7 q8 q9 q10 q11 q12 q13 q14 q15 q16
            · have := jn_getD vs i; omega
            · refine a4 _ ?_
              rw [List.getD_eq_getElem?_getD, List.getElem?_eq_getElem hi]
              exact List.getElem_mem hi) (by omega) (by omega)
        have g := rest w' false (p + 1 + 1 + (jn vs).length + 1) _ B1 _ z1 (by omega) f1 f2 f3 hdr4 (by omega) a5 (by rw [hh4]; omega) (by rw [hh4]; omega)
        rw [hh4] at g
        exact g.le (by omega)
      · cases hst
      · cases hst
theorem SP_all {a : AS} {L : Nat} (hW : WA a) (hL : a.2.2.1 = nI L) (hL12 : L ≤ 12) : ∀ n, SPn a L n
  | 0 => SP_succ (fun _ q => by cases q) hW hL hL12
  | n + 1 => SP_succ (fun n' q => by cases q; exact SP_all hW hL hL12 n) hW hL hL12
