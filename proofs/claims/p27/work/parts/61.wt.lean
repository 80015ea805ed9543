/-! PURE: the class's expansion of a text is the ideal one -/
theorem evF_succ (D : Nat → Option Tx) (L n : Nat) (O : List Nat) (fill : Nat → Tx) (u : Tx) (G : Gl) : evF D L (n + 1) O fill u G = ((runF (callF (evF D L n) D L O) fill u (([], [], 0), G)).1.1, (runF (callF (evF D L n) D L O) fill u (([], [], 0), G)).2) := rfl
theorem pcs_snoc (f : Fr) (r : List Fr) (own : Tx) : pcs (f :: r) own = pcs r f.2.1 ++ (f.2.2 ++ [own]) := by
  show pcs r f.2.1 ++ f.2.2 ++ [own] = _
  rw [List.append_assoc]
theorem Sml.sub {P Q : List Tx} (h : Sml (P ++ Q)) : Sml P ∧ Sml Q := ⟨fun w hw => h w (List.mem_append_left _ hw), fun w hw => h w (List.mem_append_right _ hw)⟩
set_option maxHeartbeats 1000000 in
theorem WT_succ {a : AS} {L : Nat} {kp : Bool} {n : Nat} (hW : WA a) (hL : a.2.2.1 = nI L) (hL12 : L ≤ 12) (hWT : WT a L kp n) : WT a L kp (n + 1) := by
  intro O fill u b p1 p4 p5 Mb base Wn G hS hOn hO hC hu hp hF h hbad bM bT bW
  obtain ⟨hp1, hp2, hp3, hp4, hp5⟩ := hp
  have hkb := evF_call_bad a.1 L n O
  obtain ⟨fin, hfin⟩ : ∃ q, q = runF (callF (evF a.1 L n) a.1 L O) fill u (([], [], 0), G) := ⟨_, rfl⟩
  have main : ∃ b', Loop (wtB (F1_wt n) 70 p1 (nI u.length) (nI O.length) p4 p5) (0, 0, b) = some b' ∧ Sx b b' ∧
      (if fin.2.2.2.2 = true then b'.1 57 13 = 1 else CS b' kp Mb base [fin.1.1] Wn fin.2 O ∧ Lo b b' Wn (Mb + 1) base ∧ base + fin.1.1.length ≤ 1260 * (O.length + 1) + 200 * fin.2.1) := by
    refine Loop_way (fun q => ∃ i s hd, q.1 = nI s.1.2.2 ∧ q.2.1 = nI i ∧ WI a L kp n O fill u b Mb base Wn fin i s hd q.2.2) (fun q => 100 - q.2.1.toNatClampNeg) _ ?_ (0, 0, b) ?_
    · rintro ⟨x5, x6, c7⟩ ⟨i, s, hd, e5, e6, hI⟩
      dsimp only at e5 e6 hI
      subst e5 e6
      obtain ⟨i1, i2, i3, i4, i5, i6, i7, i8, i9, i10, i11, i12, i13⟩ := id hI
      have c13 : c7.1 57 13 = 0 := i7.2.2.2.2.1
      have hpc : okB c7.2.2 p1 20 = true ∧ u.length ≤ lnB c7.2.2 p1 ∧ lnB c7.2.2 p1 ≤ 60 := by rw [i3.1]; exact ⟨hp1, hp2, hp3⟩
      obtain ⟨Q, hQ⟩ := pcs_last s.1.2.1 s.1.1
      have fs := hF.sum (h := s.1.2.2) (by omega)
      have hE : s.2.1 ≤ 60 := i7.2.2.2.2.2.2.2.2.2.2.2.2.2.2.1
      have mu : ∀ x b', 100 - ((x, nI i + 1, b') : Int32 × Int32 × BS).2.1.toNatClampNeg < 100 - ((nI s.1.2.2, nI i, c7) : Int32 × Int32 × BS).2.1.toNatClampNeg := fun x b' => by
        dsimp only
        rw [nI_1, nI_clamp (by omega), nI_clamp (by omega)]; omega
      by_cases hlt : i < u.length
      · -- a sign
        have hdr := drop_sL (0 : Int32) (l := u) hlt
        have hc : c7.1 p1 i = u.getD i 0 := by rw [i3.2 p1 hp5]; exact hp4 i hlt
        obtain ⟨c, ec⟩ : ∃ c, c = u.getD i 0 := ⟨_, rfl⟩
        rw [← ec] at hdr hc
        rw [hdr] at i6 i13
        have lQ : (Q ++ [s.1.1]).length = Q.length + 1 := by rw [List.length_append]; rfl
        have i10' := i10
        rw [hQ, lQ] at i10'
        have i11' := i11
        rw [hQ] at i11'
        have i7' := i7
        rw [hQ] at i7'
        have i9' := i9
        rw [hQ] at i9'
        have own200 : s.1.1.length ≤ 200 := i9' _ (List.mem_append_right _ (List.mem_singleton.mpr rfl))
        -- what is left where it is too much
        have bad : ∀ (x : Int32) (b1 : BS) (s' : Lc × Gl), wtB (F1_wt n) 70 p1 (nI u.length) (nI O.length) p4 p5 (nI s.1.2.2, nI i, c7) = some (.inl (x, nI i + 1, b1)) → Sx c7 b1 → b1.1 57 13 = 1 → s'.2.2.2.2 = true → runF (callF (evF a.1 L n) a.1 L O) fill (u.drop (i + 1)) s' = fin → ∃ b', Loop (wtB (F1_wt n) 70 p1 (nI u.length) (nI O.length) p4 p5) (nI s.1.2.2, nI i, c7) = some b' ∧ Sx b b' ∧
            (if fin.2.2.2.2 = true then b'.1 57 13 = 1 else CS b' kp Mb base [fin.1.1] Wn fin.2 O ∧ Lo b b' Wn (Mb + 1) base ∧ base + fin.1.1.length ≤ 1260 * (O.length + 1) + 200 * fin.2.1) := by
          intro x b1 s' e1 q1 q2 q3 q4
          refine ⟨b1, ?_, i3.tr q1, ?_⟩
          · rw [Loop_inl e1, nI_1]
            exact wtB_bad (by omega) hu (by rw [q1.1]; exact hpc) q2
          · rw [if_pos (by rw [← q4]; exact runF_bad hkb _ _ (Nat.le_refl _) s' q3)]; exact q2
        rcases i13.way with ⟨hpl, hp'⟩ | ⟨rfl, hp'⟩ | ⟨hab, hnx, hp'⟩ | ⟨hab, v', hv', hp'⟩ | ⟨rfl, f, r, hst, hp'⟩ | ⟨rfl, f, r, hst, hf6, hp'⟩
        · -- a small sign
          have hr := i6
          have hnp := pl_ne hpl
          rw [runF_one (by rw [pl_ab hpl]; rintro ⟨q, -⟩; cases q)] at hr
          have ho : oneF (callF (evF a.1 L n) a.1 L O) fill c s = ((s.1.1 ++ [c], s.1.2.1, s.1.2.2), bdd s.2 (ovr (s.1.1 ++ [c]))) := by
            unfold oneF
            rw [if_neg hnp.1, if_neg (by rw [pl_ab hpl]; decide), if_neg hnp.2.2.1, if_neg hnp.2.2.2]
          rw [ho] at hr
          obtain ⟨b1, e1, s1, g1⟩ := writeSign_eq c i7' (by omega) (by omega)
          have st := (wtB_at (rec := F1_wt n) (p0 := 70) (p3 := nI O.length) (p4 := p4) (p5 := p5) (x5 := nI s.1.2.2) hlt hu hpc c13 hc).trans (wtC_sign hpl e1)
          by_cases hv : ovr (s.1.1 ++ [c]) = true
          · rw [if_pos hv] at g1
            exact Or.inr (bad _ _ _ st s1 g1 (by show (s.2.2.2.2 || ovr (s.1.1 ++ [c])) = true; rw [hv, Bool.or_true]) hr)
          · rw [if_neg hv] at g1
            refine Or.inl ⟨_, Loop_inl st, ⟨i + 1, ((s.1.1 ++ [c], s.1.2.1, s.1.2.2), bdd s.2 (ovr (s.1.1 ++ [c]))), false, rfl, nI_1 i, hI.add hQ (h' := s.1.2.2) hlt s1 (not_t hv) g1.1 g1.2 (by omega) (by show 1 + _ ≤ _; omega) hr hp' (by omega) (by omega)⟩, mu _ _⟩
        · -- a hole
          have hr := i6
          rw [runF_one (by rintro ⟨q, -⟩; cases q)] at hr
          have ho : oneF (callF (evF a.1 L n) a.1 L O) fill 63 s = ((s.1.1 ++ fill s.1.2.2, s.1.2.1, s.1.2.2 + 1), bdd s.2 (ovr (s.1.1 ++ fill s.1.2.2))) := by
            unfold oneF; rw [if_pos rfl]
          rw [ho] at hr
          have fs1 : fsum fill s.1.2.2 + (fill s.1.2.2).length ≤ 1200 := hF.sum (h := s.1.2.2 + 1) (by omega)
          obtain ⟨b1, e1, s1, g1⟩ := fillHole_eq (k := s.1.2.2) i7' (hF.lo i4) (by omega) hO (by omega) own200 (by omega)
          have st := (wtB_at (rec := F1_wt n) (p0 := 70) (p3 := nI O.length) (p4 := p4) (p5 := p5) (x5 := nI s.1.2.2) hlt hu hpc c13 hc).trans (wtC_hole e1)
          by_cases hv : ovr (s.1.1 ++ fill s.1.2.2) = true
          · rw [if_pos hv] at g1
            exact Or.inr (bad _ _ _ st s1 g1 (by show (s.2.2.2.2 || ovr (s.1.1 ++ fill s.1.2.2)) = true; rw [hv, Bool.or_true]) hr)
          · rw [if_neg hv] at g1
            refine Or.inl ⟨_, Loop_inl st, ⟨i + 1, ((s.1.1 ++ fill s.1.2.2, s.1.2.1, s.1.2.2 + 1), bdd s.2 (ovr (s.1.1 ++ fill s.1.2.2))), false, nI_1 _, nI_1 i, hI.add hQ (h' := s.1.2.2 + 1) hlt s1 (not_t hv) g1.1 g1.2 (by omega) (by show _ ≤ 1 + (fsum fill s.1.2.2 + (fill s.1.2.2).length); omega) hr hp' (by omega) (by omega)⟩, mu _ _⟩
        · -- a call that stands alone
          have hr := i6
          rw [runF_one (by rintro ⟨-, q⟩; exact hnx q)] at hr
          have ho : oneF (callF (evF a.1 L n) a.1 L O) fill c s = (((callF (evF a.1 L n) a.1 L O (ltr c) [] s.1.1 s.2).1, s.1.2.1, s.1.2.2), (callF (evF a.1 L n) a.1 L O (ltr c) [] s.1.1 s.2).2) := by
            unfold oneF; rw [if_neg (ab_ne hab).1, if_pos hab]
          rw [ho] at hr
          obtain ⟨hl1, hl2⟩ := ltr_lt hab
          obtain ⟨b1, e1, s1, C1, l1, w1, w2⟩ := letWait_ok i7' (by omega) (c - 65)
          rw [hl2] at w1
          rw [lQ] at w2
          obtain ⟨b2, e2, s2, g2⟩ := finish_ok hWT (b := b1) (O := O) (k := ltr c) (Q := Q) (as := []) (sv := s.1.1) (Wn := Wn + s.1.2.1.length) (hS.sx (i3.tr s1)) hW hL hL12 (by omega) hO hl1 (by rw [List.append_nil]; exact C1) w1 (by rw [w2]; rfl) i5 (by show Mb + (Q.length + 1 + 0) ≤ _; omega) (by rw [List.append_nil]; omega) (by omega) (by show 0 ≤ 60; omega) (by show 0 ≤ 1200; omega)
          have hx : i + 1 < u.length → b1.1 p1 (i + 1) ≠ 40 := by
            intro q e
            rw [s1.2 p1 hp5, i3.2 p1 hp5, hp4 _ q] at e
            refine hnx ?_
            rw [drop_sL (0 : Int32) q, e]; rfl
          have st := (wtB_at (rec := F1_wt n) (p0 := 70) (p3 := nI O.length) (p4 := p4) (p5 := p5) (x5 := nI s.1.2.2) hlt hu hpc c13 hc).trans (wtC_lone hab e1 hlt hu (by rw [s1.1]; exact hpc) hx e2)
          by_cases hv : (callF (evF a.1 L n) a.1 L O (ltr c) [] s.1.1 s.2).2.2.2.2 = true
          · rw [if_pos hv] at g2
            exact Or.inr (bad _ _ _ st (s1.tr s2) g2 hv hr)
          · rw [if_neg hv] at g2
            refine Or.inl ⟨_, Loop_inl st, ⟨i + 1, (((callF (evF a.1 L n) a.1 L O (ltr c) [] s.1.1 s.2).1, s.1.2.1, s.1.2.2), (callF (evF a.1 L n) a.1 L O (ltr c) [] s.1.1 s.2).2), true, rfl, nI_1 i, WI.call (b := c7) i3 i4 hQ i8 i9' (by omega) i11' i12 i2 hlt (s1.tr s2) (not_t hv) g2.1 ((l1.le (Nat.le_refl _) (by omega) (by omega)).tr g2.2) hr hp'⟩, mu _ _⟩
        · -- a call with arguments begins
          have hr := i6
          rw [hv', runF_psh hab] at hr
          have hlt2 : i + 1 < u.length := by
            have q := congrArg List.length hv'
            rw [List.length_drop, List.length_cons] at q; omega
          have hdr2 := drop_sL (0 : Int32) (l := u) hlt2
          rw [hv'] at hdr2
          obtain ⟨h40, hv2⟩ := List.cons.inj hdr2
          rw [hv2] at hr hp'
          obtain ⟨hl1, hl2⟩ := ltr_lt hab
          obtain ⟨b1, e1, s1, C1, l1, w1, w2⟩ := letWait_ok i7 (by omega) (c - 65)
          rw [hl2] at w1
          obtain ⟨b2, e2, s2, C2, l2⟩ := setMark_eq C1 (by omega)
          have hx : b1.1 p1 (i + 1) = 40 := by rw [s1.2 p1 hp5, i3.2 p1 hp5, hp4 _ hlt2, ← h40]
          have st1 := (wtB_at (rec := F1_wt n) (p0 := 70) (p3 := nI O.length) (p4 := p4) (p5 := p5) (x5 := nI s.1.2.2) hlt hu hpc c13 hc).trans (wtC_par hab e1 hlt2 hu (by rw [s1.1]; exact hpc) hx)
          have st2 := (wtB_at (rec := F1_wt n) (p0 := 70) (p3 := nI O.length) (p4 := p4) (p5 := p5) (x5 := nI s.1.2.2) hlt2 hu (by rw [s1.1]; exact hpc) C1.2.2.2.2.1 hx).trans (wtC_mark (Or.inl rfl) e2)
          have pe : pcs ((ltr c, s.1.1, []) :: s.1.2.1) [] = pcs s.1.2.1 s.1.1 ++ [[]] := by
            show pcs s.1.2.1 s.1.1 ++ [] ++ [[]] = _
            rw [List.append_nil]
          refine Or.inl ⟨(nI s.1.2.2, nI (i + 1) + 1, b2), by rw [Loop_inl st1, nI_1, Loop_inl st2], ⟨i + 2, pshF c s, false, rfl, nI_1 _, by omega, by show s.1.2.2 ≤ i + 2; omega, (i3.tr s1).tr s2, ?_, i5, hr, ?_, ?_, ?_, ?_, ?_, ?_, hp' _ rfl⟩, ?_⟩
          · exact (i4.tr (l1.le (by omega) (by omega) (by omega))).tr (l2.le (by omega) (by rw [hQ, lQ]; omega) (by omega))
          · show CS b2 kp Mb base (pcs ((ltr c, s.1.1, []) :: s.1.2.1) []) (Wn + (s.1.2.1.length + 1)) s.2 O
            rw [pe]; exact C2
          · refine ⟨hl1, ?_, ?_, ?_⟩
            · show b2.1 60 (Wn + s.1.2.1.length) = _
              rw [(l2.1 _ (by omega)).1]; exact w1
            · show b2.1 61 (Wn + s.1.2.1.length) = _
              rw [(l2.1 _ (by omega)).2]; exact w2
            · exact (i8.lo (fun j hj => l1.1 j hj)).lo (fun j hj => l2.1 j (by omega))
          · show Sml (pcs ((ltr c, s.1.1, []) :: s.1.2.1) [])
            rw [pe]
            intro w hw
            rcases List.mem_append.mp hw with hw | hw
            · exact i9 w hw
            · rw [List.mem_singleton.mp hw]; exact Nat.zero_le _
          · show (pcs ((ltr c, s.1.1, []) :: s.1.2.1) []).length ≤ i + 2 + 1
            rw [pe, List.length_append]; show (pcs s.1.2.1 s.1.1).length + 1 ≤ _; omega
          · show base + fl (pcs ((ltr c, s.1.1, []) :: s.1.2.1) []) ≤ 1260 * O.length + 200 * s.2.1 + (i + 2) + fsum fill s.1.2.2
            rw [pe, fl_e]; omega
          · show s.1.2.1.length + 1 ≤ i + 2; omega
          · dsimp only; rw [nI_1, nI_clamp (by omega), nI_clamp (by omega)]; omega
        · -- an argument ends
          have hr := i6
          rw [runF_one (by rintro ⟨q, -⟩; cases q)] at hr
          have ho : oneF (callF (evF a.1 L n) a.1 L O) fill 44 s = (([], (f.1, f.2.1, f.2.2 ++ [s.1.1]) :: r, s.1.2.2), s.2) := by
            unfold oneF; rw [if_neg (by decide), if_neg (by decide), if_pos rfl, hst]
          rw [ho] at hr
          rw [hst] at i7 i8 i9 i10 i11 i12
          obtain ⟨b1, e1, s1, C1, l1⟩ := setMark_eq i7 (by rw [← hst, hQ, lQ]; omega)
          have st := (wtB_at (rec := F1_wt n) (p0 := 70) (p3 := nI O.length) (p4 := p4) (p5 := p5) (x5 := nI s.1.2.2) hlt hu hpc c13 hc).trans (wtC_mark (Or.inr rfl) e1)
          have pe : pcs ((f.1, f.2.1, f.2.2 ++ [s.1.1]) :: r) [] = pcs (f :: r) s.1.1 ++ [[]] := by
            show pcs r f.2.1 ++ (f.2.2 ++ [s.1.1]) ++ [[]] = pcs r f.2.1 ++ f.2.2 ++ [s.1.1] ++ [[]]
            simp
          refine Or.inl ⟨_, Loop_inl st, ⟨i + 1, (([], (f.1, f.2.1, f.2.2 ++ [s.1.1]) :: r, s.1.2.2), s.2), false, rfl, nI_1 _, by omega, by show s.1.2.2 ≤ i + 1; omega, i3.tr s1, ?_, i5, hr, ?_, ?_, ?_, ?_, ?_, ?_, hp' _ ?_⟩, mu _ _⟩
          · exact i4.tr (l1.le (by omega) (by rw [← hst, hQ, lQ]; omega) (by omega))
          · dsimp only; rw [pe]; exact C1
          · exact i8.lo (fun j hj => l1.1 j (by omega))
          · dsimp only; rw [pe]
            intro w hw
            rcases List.mem_append.mp hw with hw | hw
            · exact i9 w hw
            · rw [List.mem_singleton.mp hw]; exact Nat.zero_le _
          · dsimp only
            rw [pe, List.length_append]; show (pcs (f :: r) s.1.1).length + 1 ≤ _; omega
          · dsimp only; rw [pe, fl_e]; omega
          · show r.length + 1 ≤ i + 1
            rw [List.length_cons] at i12; omega
          · rw [List.length_append]; rfl
        · -- a call is finished
          have hr := i6
          rw [runF_one (by rintro ⟨q, -⟩; cases q)] at hr
          have ho : oneF (callF (evF a.1 L n) a.1 L O) fill 41 s = (((callF (evF a.1 L n) a.1 L O f.1 (f.2.2 ++ [s.1.1]) f.2.1 s.2).1, r, s.1.2.2), (callF (evF a.1 L n) a.1 L O f.1 (f.2.2 ++ [s.1.1]) f.2.1 s.2).2) := by
            unfold oneF; rw [if_neg (by decide), if_neg (by decide), if_neg (by decide), if_pos rfl, hst]
          rw [ho] at hr
          rw [hst] at i7 i8 i9 i10 i11 i12
          obtain ⟨R, hR⟩ := pcs_last r f.2.1
          have lR : (R ++ [f.2.1]).length = R.length + 1 := by rw [List.length_append]; rfl
          have lA : (f.2.2 ++ [s.1.1]).length = f.2.2.length + 1 := by rw [List.length_append]; rfl
          obtain ⟨g1, g2, g3, g4⟩ := i8
          rw [pcs_snoc, hR] at i7 i9 i10 i11
          rw [hR, lR] at g3
          rw [List.length_append, lR, lA] at i10
          rw [List.length_cons] at i12
          have hal := i9.sub.2.fl
          rw [lA] at hal
          have fla := fl_app (R ++ [f.2.1]) (f.2.2 ++ [s.1.1])
          obtain ⟨b1, e1, s1, q1⟩ := finish_ok hWT (b := c7) (O := O) (k := f.1) (Q := R) (as := f.2.2 ++ [s.1.1]) (sv := f.2.1) (Wn := Wn + r.length) (hS.sx i3) hW hL hL12 (by omega) hO g1 i7 g2 (by rw [g3]; rfl) i5 (by rw [lA]; omega) (by omega) (by omega) (by rw [lA]; omega) (by omega)
          have st := (wtB_at (rec := F1_wt n) (p0 := 70) (p3 := nI O.length) (p4 := p4) (p5 := p5) (x5 := nI s.1.2.2) hlt hu hpc c13 hc).trans (wtC_close e1)
          by_cases hv : (callF (evF a.1 L n) a.1 L O f.1 (f.2.2 ++ [s.1.1]) f.2.1 s.2).2.2.2.2 = true
          · rw [if_pos hv] at q1
            exact Or.inr (bad _ _ _ st s1 q1 hv hr)
          · rw [if_neg hv] at q1
            refine Or.inl ⟨_, Loop_inl st, ⟨i + 1, (((callF (evF a.1 L n) a.1 L O f.1 (f.2.2 ++ [s.1.1]) f.2.1 s.2).1, r, s.1.2.2), (callF (evF a.1 L n) a.1 L O f.1 (f.2.2 ++ [s.1.1]) f.2.1 s.2).2), false, rfl, nI_1 i, WI.call (b := c7) i3 i4 hR g4 i9.sub.1 (by omega) (by omega) (by omega) i2 hlt s1 (not_t hv) q1.1 q1.2 hr hp'⟩, mu _ _⟩
      · -- the end
        have hi : i = u.length := by omega
        rw [hi, List.drop_length] at i6 i13
        have hst := i13.nil
        have hf : s = fin := i6
        subst hf
        refine Or.inr ⟨c7, ?_, i3, ?_⟩
        · rw [hi]; exact Loop_inr (wtB_end hu)
        · rw [hst] at i7 i11
          rw [if_neg (by rw [i5]; decide)]
          refine ⟨i7, i4, ?_⟩
          have q : fl (pcs [] s.1.1) = s.1.1.length := fl_one _
          rw [q] at i11
          omega
    · refine ⟨0, (([], [], 0), G), false, rfl, rfl, Nat.zero_le _, Nat.zero_le _, Sx.rf b, Lo.rf _ _ _ _, hbad, hfin.symm, h, trivial, ?_, Nat.le_refl _, ?_, Nat.zero_le _, PrsOK.start hC⟩
      · intro w hw
        have : w ∈ [([] : Tx)] := hw
        rw [List.mem_singleton.mp this]; exact Nat.zero_le _
      · show base + 0 ≤ _
        dsimp only; omega
  obtain ⟨b', m1, m2, m3⟩ := main
  refine ⟨b', m1, m2, ?_⟩
  rw [evF_succ, ← hfin]
  exact m3
theorem WT_all {a : AS} {L : Nat} (hW : WA a) (hL : a.2.2.1 = nI L) (hL12 : L ≤ 12) (kp : Bool) : ∀ n, WT a L kp n
  | 0 => fun O _ _ _ _ _ _ _ _ _ _ _ hOn hO _ _ _ _ _ _ _ _ _ => absurd hO (by omega)
  | n + 1 => WT_succ hW hL hL12 (WT_all hW hL hL12 kp n)
