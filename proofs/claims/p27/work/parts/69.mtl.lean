/-! PURE: the reference's measuring is the ideal one: the loop over a text -/
theorem hls_drop {u : Tx} {i : Nat} (h : i < u.length) : hls (u.drop i) = (if u.getD i 0 = 63 then 1 else 0) + hls (u.drop (i + 1)) := by
  rw [drop_sL (0 : Int32) h, hls_cons]
set_option maxHeartbeats 1000000 in
theorem MT_loop {a : AS} {L n : Nat} (hMT : MT a L n) (hW : WA a) (hL : a.2.2.1 = nI L) (hL12 : L ≤ 12) {O : List Nat} {fill : Nat → Tx} {u : Tx} {z0 : MS} {c0 o0 : Nat} {fin : Lc × Gl} (hu : u.length ≤ 60) (hc0 : c0 ≤ 30 * O.length) (hZ : ZS (z0 0) a) (hOp : OpZ z0 O) (hsrc : SrcZ z0 (srcO O) u) (h10 : z0 10 O.length = nI (srcO O)) (hOL : O.length ≤ L) (hOn : O.length + n = 13) (hun : O ≠ [] ∨ z0 43 17 = -1) (hF : FillZ z0 O fill u) :
    ∀ (m i : Nat) (s : Lc × Gl) (hd : Bool) (z : MS), u.length ≤ i + m → MI a L n O fill u z0 c0 o0 fin i s hd z → MR O u z0 c0 o0 fin z := by
  intro m
  induction m with
  | zero =>
    intro i s hd z hm hI
    obtain ⟨i1, i2, i3, i4, i5, i6, i7, i8, i9, i10, i11, i12, i13, i14, i15, i16, i17, i18⟩ := hI
    have hi : i = u.length := by omega
    rw [hi, List.drop_length] at i17 i18
    have hst := i17.nil
    have hf : s = fin := i18
    subst hf
    rw [hst] at i5 i11 i12
    have eo : oz o0 ([] : List Fr) = o0 := rfl
    rw [eo] at i11 i12
    refine ⟨fun q => ?_, fun q => ⟨z, rfl, i2, i3, i4, i5, i6, i7, by rw [← hi]; exact i9, ?_⟩⟩
    · exfalso
      rcases q with q | q
      · rw [i8] at q; cases q
      · omega
    · have : c0 + ([] : List Fr).length = c0 := rfl
      rw [this] at i11
      rw [i11, Nat.add_comm]
  | succ m ih =>
    intro i s hd z hm hI
    obtain ⟨i1, i2, i3, i4, i5, i6, i7, i8, i9, i10, i11, i12, i13, i14, i15, i16, i17, i18⟩ := id hI
    by_cases hlt : i < u.length
    · have hl14 : O.length < 14 := by omega
      have hdr := drop_sL (0 : Int32) (l := u) hlt
      have hhd := hls_drop hlt
      obtain ⟨c, ec⟩ : ∃ c, c = u.getD i 0 := ⟨_, rfl⟩
      rw [← ec] at hdr hhd
      have i17' := i17
      rw [hdr] at i17'
      have i18' := i18
      rw [hdr] at i18'
      rw [hhd] at i15
      have src : SrcZ z (srcO O) u := hsrc.sm1 i2
      have z10 : z 10 O.length = nI (srcO O) := ((i3.2.1 O.length (by omega)).1).trans h10
      obtain ⟨y, hy⟩ : ∃ q, q = up2 z 11 O.length (nI (i + 1)) := ⟨_, rfl⟩
      have yr : ∀ j, j ≠ 11 → y j = z j := fun j hj => by rw [hy]; exact up2_ne _ hj
      have y11 : y 11 O.length = nI (i + 1) := by rw [hy, up2_at, if_pos ⟨rfl, rfl⟩]
      have y11o : ∀ j, j ≠ O.length → y 11 j = z 11 j := fun j hj => by rw [hy, up2_at, if_neg (by omega)]
      have sy : Sm1 z0 y := i2.tr (by rw [hy]; exact Sm1.up (Or.inl (by decide)))
      have ly : LoM z0 y O.length (O.length + 1) c0 := i3.tr (by rw [hy]; exact LoM.up (by omega) (by omega) (by omega) (by omega) (by omega))
      have y18 : y 43 18 = nI O.length := by rw [yr 43 (by decide)]; exact i4
      have y22 : y 43 22 = nI (c0 + s.1.2.1.length) := by rw [yr 43 (by decide)]; exact i5
      have y24 : y 43 24 = 0 := by rw [yr 43 (by decide)]; exact i6
      have y10 : y 10 O.length = nI (srcO O) := by rw [yr 10 (by decide)]; exact z10
      have gy : GZ y s.2 := i7.keep (yr 27 (by decide)) (by rw [yr 43 (by decide)]) (by rw [yr 43 (by decide)]) (by rw [yr 43 (by decide)])
      have y12 : y 12 O.length = nI s.1.2.2 := by rw [yr 12 (by decide)]; exact i10
      have y23 : y 23 (c0 + s.1.2.1.length) = nI (s.1.1.length + oz o0 s.1.2.1) := by rw [yr 23 (by decide)]; exact i11
      have yfr : FrZ y c0 o0 s.1.2.1 := i13.lo (fun j hj => by rw [yr 19 (by decide), yr 20 (by decide), yr 23 (by decide)]; exact ⟨rfl, rfl, rfl⟩) (fun j hj => by rw [yr 21 (by decide)])
      have srcy : SrcZ y (srcO O) u := hsrc.sm1 sy
      have hrd : ∀ {z2 : MS}, rdK c y = some z2 → Loop mB z = Loop mB z2 := fun {z2} q => mB_read hl14 i6 i4 z10 i9 src hlt (reads_at hl14 i4 z10 i9 src hlt (by rw [← ec, ← hy]; exact q))
      have IH := fun (s' : Lc × Gl) (hd' : Bool) (z2 : MS) => ih (i + 1) s' hd' z2 (by omega)
      rcases i17'.way with ⟨hpl, hp'⟩ | ⟨hc63, hp'⟩ | ⟨hab, hnx, hp'⟩ | ⟨hab, v', hv', hp'⟩ | ⟨hc44, f, r, hst, hp'⟩ | ⟨hc41, f, r, hst, hf6, hp'⟩
      · -- a small sign
        have hnp := pl_ne hpl
        have hr := i18'
        rw [runF_one (by rw [pl_ab hpl]; rintro ⟨q, -⟩; cases q)] at hr
        have ho : oneF (callF (evF a.1 L n) a.1 L O) fill c s = ((s.1.1 ++ [c], s.1.2.1, s.1.2.2), bdd s.2 (ovr (s.1.1 ++ [c]))) := by
          unfold oneF
          rw [if_neg hnp.1, if_neg (by rw [pl_ab hpl]; decide), if_neg hnp.2.2.1, if_neg hnp.2.2.2]
        rw [ho] at hr
        rw [if_neg hnp.1] at i15
        have hw1 : ∀ z2, F8_writes y (nI ([c] : Tx).length) = some z2 → Loop mB z = Loop mB z2 := by
          intro z2 q
          have q1 : F8_writes y 1 = some z2 := q
          exact hrd (rdK_plain hpl q1)
        have h1 : ([c] : Tx).length ≤ 200 := by show 1 ≤ 200; decide
        exact step_add (add := [c]) (h' := s.1.2.2) hI hlt hu (by omega) hc0 (fun j q1 _ => yr j q1) y11 y12 (fun j hj => ⟨y11o j hj, by rw [yr 12 (by decide)]⟩) hw1 h1 (by omega) (by omega) hr hp' (fun z2 => IH _ false z2)
      · -- a hole
        subst hc63
        have hr := i18'
        rw [runF_one (by rintro ⟨q, -⟩; cases q)] at hr
        have ho : oneF (callF (evF a.1 L n) a.1 L O) fill 63 s = ((s.1.1 ++ fill s.1.2.2, s.1.2.1, s.1.2.2 + 1), bdd s.2 (ovr (s.1.1 ++ fill s.1.2.2))) := by
          unfold oneF; rw [if_pos rfl]
        rw [ho] at hr
        rw [if_pos rfl] at i15
        obtain ⟨f1, f2⟩ := filling_ok (hF.keep sy ly) y18 (by omega) y12 (by omega) (by omega)
        refine step_add (add := fill s.1.2.2) (y := up2 y 12 O.length (nI (s.1.2.2 + 1))) (h' := s.1.2.2 + 1) hI hlt hu (by omega) hc0 (fun j q1 q2 => ?_) ?_ ?_ (fun j hj => ⟨?_, ?_⟩) (fun z2 q => hrd (rdK_hole f1 q)) f2 (by omega) (by omega) hr hp' (fun z2 => IH _ false z2)
        · rw [up2_ne _ q2]; exact yr j q1
        · rw [up2_ne _ (by decide)]; exact y11
        · rw [up2_at, if_pos ⟨rfl, rfl⟩]
        · rw [up2_ne _ (by decide)]; exact y11o j hj
        · rw [up2_at, if_neg (by omega), yr 12 (by decide)]
      · -- a call that stands alone
        have hr := i18'
        rw [runF_one (by rintro ⟨-, q⟩; exact hnx q)] at hr
        have ho : oneF (callF (evF a.1 L n) a.1 L O) fill c s = (((callF (evF a.1 L n) a.1 L O (ltr c) [] s.1.1 s.2).1, s.1.2.1, s.1.2.2), (callF (evF a.1 L n) a.1 L O (ltr c) [] s.1.1 s.2).2) := by
          unfold oneF; rw [if_neg (ab_ne hab).1, if_pos hab]
        rw [ho] at hr
        rw [if_neg (ab_ne hab).1] at i15
        obtain ⟨hl1, hl2⟩ := ltr_lt hab
        have hx : i + 1 < u.length → u.getD (i + 1) 0 ≠ 40 := by
          intro q e
          refine hnx ?_
          rw [drop_sL (0 : Int32) q, e]; rfl
        have hw1 : ∀ z2, F8_goesOn y (nI (ltr c)) (nI ([] : List Tx).length) = some z2 → Loop mB z = Loop mB z2 := by
          intro z2 q
          have q1 : F8_goesOn y (c - 65) 0 = some z2 := by rw [hl2]; exact q
          exact hrd (rdK_lone hab hl14 y18 y10 y11 srcy hlt hx q1)
        exact step_call hMT hW hL hL12 (h := s.1.2.2) (k := ltr c) (r := s.1.2.1) (sv := s.1.1) (as := []) (G := s.2) (hd' := true) hlt hu hc0 hZ hOp hOL hOn hun sy ly y18 y22 y24 gy i8 y11 y12 y23 i12 yfr (by omega) hl1 (by show 0 ≤ 6; decide) (fun w hw => absurd hw (by simp)) (fun j hj => absurd hj (by simp)) hw1 (by omega) (by omega) hr hp' (fun z2 => IH _ true z2)
      · -- a call with arguments begins
        have hr := i18'
        rw [hv', runF_psh hab] at hr
        have hlt2 : i + 1 < u.length := by
          have q := congrArg List.length hv'
          rw [List.length_drop, List.length_cons] at q; omega
        have hdr2 := drop_sL (0 : Int32) (l := u) hlt2
        have hhd2 := hls_drop hlt2
        rw [hv'] at hdr2
        obtain ⟨h40, hv2⟩ := List.cons.inj hdr2
        rw [hv2] at hr hp'
        rw [if_neg (ab_ne hab).1] at i15
        rw [← h40, if_neg (by decide)] at hhd2
        obtain ⟨hl1, hl2⟩ := ltr_lt hab
        have e1 := rdK_par hab hl14 y18 y10 y11 srcy hlt2 h40.symm y22 (by omega)
        obtain ⟨z2, hz2⟩ : ∃ q, q = up2 (up2 (up2 (up2 (up2 y 11 O.length (nI (i + 2))) 19 (c0 + s.1.2.1.length) (c - 65)) 20 (c0 + s.1.2.1.length) 0) 43 22 (nI (c0 + s.1.2.1.length + 1))) 23 (c0 + s.1.2.1.length + 1) 0 := ⟨_, rfl⟩
        rw [← hz2] at e1
        have s2 : Sm1 y z2 := by
          rw [hz2]
          exact ((((Sm1.up (Or.inl (by decide))).tr (Sm1.up (Or.inl (by decide)))).tr (Sm1.up (Or.inl (by decide)))).tr (Sm1.up (Or.inr (by decide)))).tr (Sm1.up (Or.inl (by decide)))
        have l2 : LoM y z2 O.length (O.length + 1) (c0 + s.1.2.1.length) := by
          rw [hz2]
          exact ((((LoM.up (by omega) (by omega) (by omega) (by omega) (by omega)).tr (LoM.up (by omega) (by omega) (by omega) (by omega) (by omega))).tr (LoM.up (by omega) (by omega) (by omega) (by omega) (by omega))).tr (LoM.up (by omega) (by omega) (by omega) (by omega) (by omega))).tr (LoM.up (by omega) (by omega) (by omega) (by omega) (by omega))
        refine MR.step (hrd e1) (ih (i + 2) (pshF c s) false z2 (by omega) ⟨by omega, sy.tr s2, ly.tr (l2.le (Nat.le_refl _) (Nat.le_refl _) (by omega)), ?_, ?_, ?_, ?_, i8, ?_, ?_, ?_, ?_, ?_, ?_, ?_, ?_, hp' _ rfl, hr⟩)
        · rw [hz2, up2_ne _ (by decide), up2_at, if_neg (by decide), up2_ne _ (by decide), up2_ne _ (by decide), up2_ne _ (by decide)]; exact y18
        · rw [hz2, up2_ne _ (by decide), up2_at, if_pos ⟨rfl, rfl⟩]; rfl
        · rw [hz2, up2_ne _ (by decide), up2_at, if_neg (by decide), up2_ne _ (by decide), up2_ne _ (by decide), up2_ne _ (by decide)]; exact y24
        · show GZ z2 s.2
          rw [hz2]
          exact ((((gy.up (by decide) (Or.inl (by decide))).up (by decide) (Or.inl (by decide))).up (by decide) (Or.inl (by decide))).up (by decide) (Or.inr (by decide))).up (by decide) (Or.inl (by decide))
        · rw [hz2, up2_ne _ (by decide), up2_ne _ (by decide), up2_ne _ (by decide), up2_ne _ (by decide), up2_at, if_pos ⟨rfl, rfl⟩]
        · show z2 12 O.length = nI s.1.2.2
          rw [hz2, up2_ne _ (by decide), up2_ne _ (by decide), up2_ne _ (by decide), up2_ne _ (by decide), up2_ne _ (by decide)]; exact y12
        · show z2 23 (c0 + (s.1.2.1.length + 1)) = nI (0 + 0)
          rw [hz2, up2_at, if_pos ⟨rfl, by omega⟩]; rfl
        · show 0 + 0 ≤ 200; decide
        · refine ⟨hl1, ?_, ?_, fun j hj => absurd hj (by simp), ?_, i12, fun w hw => absurd hw (by simp), by show 0 + 1 ≤ 6; decide, yfr.lo (fun j hj => l2.2.2.2.1 j hj) (fun j hj => l2.2.2.2.2 j hj)⟩
          · show z2 19 (c0 + s.1.2.1.length) = nI (ltr c)
            rw [hz2, up2_ne _ (by decide), up2_ne _ (by decide), up2_ne _ (by decide), up2_at, if_pos ⟨rfl, rfl⟩]; exact hl2
          · show z2 20 (c0 + s.1.2.1.length) = nI 0
            rw [hz2, up2_ne _ (by decide), up2_ne _ (by decide), up2_at, if_pos ⟨rfl, rfl⟩]; rfl
          · show z2 23 (c0 + s.1.2.1.length) = nI (s.1.1.length + oz o0 s.1.2.1)
            rw [hz2, up2_at, if_neg (by omega), up2_ne _ (by decide), up2_ne _ (by decide), up2_ne _ (by decide), up2_ne _ (by decide)]; exact y23
        · show 2 * (s.1.2.1.length + 1) ≤ i + 2; omega
        · show s.1.2.2 + hls (u.drop (i + 2)) = hls u
          have : u.drop (i + 1 + 1) = u.drop (i + 2) := rfl
          rw [this] at hhd2
          omega
        · show s.1.2.2 ≤ i + 2; omega
      · -- an argument ends
        subst hc44
        have hr := i18'
        rw [runF_one (by rintro ⟨q, -⟩; cases q)] at hr
        have ho : oneF (callF (evF a.1 L n) a.1 L O) fill 44 s = (([], (f.1, f.2.1, f.2.2 ++ [s.1.1]) :: r, s.1.2.2), s.2) := by
          unfold oneF; rw [if_neg (by decide), if_neg (by decide), if_pos rfl, hst]
        rw [ho] at hr
        rw [if_neg (by decide)] at i15
        rw [hst] at y22 y23 yfr i12 i14
        have eo : oz o0 (f :: r) = 0 := rfl
        rw [eo] at y23 i12
        rw [List.length_cons] at y22 y23 i14
        obtain ⟨g1, g2, g3, g4, g5, g6, g7, g8, g9⟩ := yfr
        have e1 := rdK_arg (Or.inl rfl) (y := y) (n := c0 + r.length) (d := f.2.2.length) (w := s.1.1.length) y22 (by omega) g3 (by omega) y23 (if_pos (by decide))
        obtain ⟨z2, hz2⟩ : ∃ q, q = up2 (up2 (up2 y 21 (6 * (c0 + r.length) + f.2.2.length) (nI s.1.1.length)) 20 (c0 + r.length) (nI (f.2.2.length + 1))) 23 (c0 + r.length + 1) 0 := ⟨_, rfl⟩
        rw [← hz2] at e1
        have s2 : Sm1 y z2 := by
          rw [hz2]
          exact ((Sm1.up (Or.inl (by decide))).tr (Sm1.up (Or.inl (by decide)))).tr (Sm1.up (Or.inl (by decide)))
        have l2 : LoM y z2 O.length (O.length + 1) (c0 + r.length) := by
          rw [hz2]
          exact ((LoM.up (by omega) (by omega) (by omega) (by omega) (by omega)).tr (LoM.up (by omega) (by omega) (by omega) (by omega) (by omega))).tr (LoM.up (by omega) (by omega) (by omega) (by omega) (by omega))
        have lf : (f.2.2 ++ [s.1.1]).length = f.2.2.length + 1 := by rw [List.length_append]; rfl
        have n43 : z2 43 = y 43 := by rw [hz2, up2_ne _ (by decide), up2_ne _ (by decide), up2_ne _ (by decide)]
        have hnp := hp' (f.1, f.2.1, f.2.2 ++ [s.1.1]) (by rw [lf])
        refine MR.step (hrd e1) (IH (([], (f.1, f.2.1, f.2.2 ++ [s.1.1]) :: r, s.1.2.2), s.2) false z2 ⟨by omega, sy.tr s2, ly.tr (l2.le (Nat.le_refl _) (Nat.le_refl _) (by omega)), ?_, ?_, ?_, ?_, i8, ?_, ?_, ?_, ?_, ?_, ?_, ?_, ?_, hnp, hr⟩)
        · rw [n43]; exact y18
        · rw [n43]; exact y22
        · rw [n43]; exact y24
        · exact gy.keep (by rw [hz2, up2_ne _ (by decide), up2_ne _ (by decide), up2_ne _ (by decide)]) (by rw [n43]) (by rw [n43]) (by rw [n43])
        · rw [hz2, up2_ne _ (by decide), up2_ne _ (by decide), up2_ne _ (by decide)]; exact y11
        · show z2 12 O.length = nI s.1.2.2
          rw [hz2, up2_ne _ (by decide), up2_ne _ (by decide), up2_ne _ (by decide)]; exact y12
        · show z2 23 (c0 + (r.length + 1)) = nI (0 + 0)
          rw [hz2, up2_at, if_pos ⟨rfl, by omega⟩]; rfl
        · show 0 + 0 ≤ 200; decide
        · refine ⟨g1, ?_, ?_, fun j hj => ?_, ?_, g6, fun w hw => ?_, ?_, g9.lo (fun j hj => l2.2.2.2.1 j hj) (fun j hj => l2.2.2.2.2 j hj)⟩
          · show z2 19 (c0 + r.length) = nI f.1
            rw [hz2, up2_ne _ (by decide), up2_ne _ (by decide), up2_ne _ (by decide)]; exact g2
          · show z2 20 (c0 + r.length) = nI (f.2.2 ++ [s.1.1]).length
            rw [hz2, up2_ne _ (by decide), up2_at, if_pos ⟨rfl, rfl⟩, lf]
          · dsimp only at hj ⊢
            rw [lf] at hj
            rw [hz2, up2_ne _ (by decide), up2_ne _ (by decide), up2_at]
            by_cases e : j = f.2.2.length
            · rw [if_pos ⟨rfl, by omega⟩, e, List.getD_eq_getElem?_getD, List.getElem?_append_right (Nat.le_refl _), Nat.sub_self]; rfl
            · rw [if_neg (by omega), g4 j (by omega), List.getD_eq_getElem?_getD, List.getD_eq_getElem?_getD, List.getElem?_append_left (by omega)]
          · show z2 23 (c0 + r.length) = nI (f.2.1.length + oz o0 r)
            rw [hz2, up2_at, if_neg (by omega), up2_ne _ (by decide), up2_ne _ (by decide)]; exact g5
          · rcases List.mem_append.mp hw with hw | hw
            · exact g7 w hw
            · rw [List.mem_singleton.mp hw]; omega
          · exact hnp.2.2 _ (List.mem_cons_self ..)
        · show 2 * (r.length + 1) ≤ i + 1; omega
        · show s.1.2.2 + hls (u.drop (i + 1)) = hls u; omega
        · show s.1.2.2 ≤ i + 1; omega
      · -- a call is finished
        subst hc41
        have hr := i18'
        rw [runF_one (by rintro ⟨q, -⟩; cases q)] at hr
        have ho : oneF (callF (evF a.1 L n) a.1 L O) fill 41 s = (((callF (evF a.1 L n) a.1 L O f.1 (f.2.2 ++ [s.1.1]) f.2.1 s.2).1, r, s.1.2.2), (callF (evF a.1 L n) a.1 L O f.1 (f.2.2 ++ [s.1.1]) f.2.1 s.2).2) := by
          unfold oneF; rw [if_neg (by decide), if_neg (by decide), if_neg (by decide), if_pos rfl, hst]
        rw [ho] at hr
        rw [if_neg (by decide)] at i15
        rw [hst] at y22 y23 yfr i12 i14
        have eo : oz o0 (f :: r) = 0 := rfl
        rw [eo] at y23 i12
        rw [List.length_cons] at y22 y23 i14
        obtain ⟨g1, g2, g3, g4, g5, g6, g7, g8, g9⟩ := yfr
        have lf : (f.2.2 ++ [s.1.1]).length = f.2.2.length + 1 := by rw [List.length_append]; rfl
        obtain ⟨z2, hz2⟩ : ∃ q, q = up2 (up2 (up2 (up2 y 21 (6 * (c0 + r.length) + f.2.2.length) (nI s.1.1.length)) 20 (c0 + r.length) (nI (f.2.2.length + 1))) 23 (c0 + r.length + 1) 0) 43 22 (nI (c0 + r.length)) := ⟨_, rfl⟩
        have s2 : Sm1 y z2 := by
          rw [hz2]
          exact (((Sm1.up (Or.inl (by decide))).tr (Sm1.up (Or.inl (by decide)))).tr (Sm1.up (Or.inl (by decide)))).tr (Sm1.up (Or.inr (by decide)))
        have l2 : LoM y z2 O.length (O.length + 1) (c0 + r.length) := by
          rw [hz2]
          exact (((LoM.up (by omega) (by omega) (by omega) (by omega) (by omega)).tr (LoM.up (by omega) (by omega) (by omega) (by omega) (by omega))).tr (LoM.up (by omega) (by omega) (by omega) (by omega) (by omega))).tr (LoM.up (by omega) (by omega) (by omega) (by omega) (by omega))
        have n43 : ∀ j, j ≠ 22 → z2 43 j = y 43 j := fun j hj => by rw [hz2, up2_at, if_neg (by omega), up2_ne _ (by decide), up2_ne _ (by decide), up2_ne _ (by decide)]
        have n22 : z2 43 22 = nI (c0 + r.length) := by rw [hz2, up2_at, if_pos ⟨rfl, rfl⟩]
        have n19 : z2 19 (c0 + r.length) = nI f.1 := by rw [hz2, up2_ne _ (by decide), up2_ne _ (by decide), up2_ne _ (by decide), up2_ne _ (by decide)]; exact g2
        have n20 : z2 20 (c0 + r.length) = nI (f.2.2 ++ [s.1.1]).length := by rw [hz2, up2_ne _ (by decide), up2_ne _ (by decide), up2_at, if_pos ⟨rfl, rfl⟩, lf]
        refine step_call hMT hW hL hL12 (y := z2) (h := s.1.2.2) (k := f.1) (r := r) (sv := f.2.1) (as := f.2.2 ++ [s.1.1]) (G := s.2) (hd' := false) hlt hu hc0 hZ hOp hOL hOn hun (sy.tr s2) (ly.tr (l2.le (Nat.le_refl _) (Nat.le_refl _) (by omega))) (by rw [n43 18 (by decide)]; exact y18) n22 (by rw [n43 24 (by decide)]; exact y24) ?_ i8 ?_ ?_ ?_ g6 (g9.lo (fun j hj => l2.2.2.2.1 j hj) (fun j hj => l2.2.2.2.2 j hj)) (by omega) g1 (by rw [lf]; omega) (fun w hw => ?_) (fun j hj => ?_) (fun z3 q => hrd (rdK_arg (Or.inr rfl) (n := c0 + r.length) (d := f.2.2.length) (w := s.1.1.length) y22 (by omega) g3 (by omega) y23 ?_)) (by omega) (by omega) hr hp' (fun z2 => IH _ false z2)
        · exact gy.keep (by rw [hz2, up2_ne _ (by decide), up2_ne _ (by decide), up2_ne _ (by decide), up2_ne _ (by decide)]) (n43 25 (by decide)) (n43 26 (by decide)) (n43 28 (by decide))
        · rw [hz2, up2_ne _ (by decide), up2_ne _ (by decide), up2_ne _ (by decide), up2_ne _ (by decide)]; exact y11
        · rw [hz2, up2_ne _ (by decide), up2_ne _ (by decide), up2_ne _ (by decide), up2_ne _ (by decide)]; exact y12
        · rw [hz2, up2_ne _ (by decide), up2_at, if_neg (by omega), up2_ne _ (by decide), up2_ne _ (by decide)]; exact g5
        · rcases List.mem_append.mp hw with hw | hw
          · exact g7 w hw
          · rw [List.mem_singleton.mp hw]; omega
        · rw [lf] at hj
          rw [hz2, up2_ne _ (by decide), up2_ne _ (by decide), up2_ne _ (by decide), up2_at]
          by_cases e : j = f.2.2.length
          · rw [if_pos ⟨rfl, by omega⟩, e, List.getD_eq_getElem?_getD, List.getElem?_append_right (Nat.le_refl _), Nat.sub_self]; rfl
          · rw [if_neg (by omega), g4 j (by omega), List.getD_eq_getElem?_getD, List.getD_eq_getElem?_getD, List.getElem?_append_left (by omega)]
        · refine if_no (by decide) <| bd_go ?_
          rw [← hz2]
          exact rd_go n22 (by omega) (by decide) n19 <| rd_go n22 (by omega) (by decide) n20 <| bn_go q rfl
    · exact (ih i s hd z (by omega) hI)
theorem MT_succ {a : AS} {L n : Nat} (hMT : MT a L n) (hW : WA a) (hL : a.2.2.1 = nI L) (hL12 : L ≤ 12) : MT a L (n + 1) := by
  intro O fill u z c0 o0 G hZ hOp hsrc h10 hun hOn hOL hC hF h18 h22 h24 hG hbad h11 h12 h23 ho0 hc0
  have main := MT_loop hMT hW hL hL12 (fill := fill) (o0 := o0) (fin := runF (callF (evF a.1 L n) a.1 L O) fill u (([], [], 0), G)) hsrc.1 hc0 hZ hOp hsrc h10 hOL (by omega) hun hF u.length 0 (([], [], 0), G) false z (by omega) ⟨Nat.zero_le _, Sm1.rf z, LoM.rf _ _ _ _, h18, h22, h24, hG, hbad, h11, h12, by show z 23 c0 = nI (0 + o0); rw [h23, Nat.zero_add], by show 0 + o0 ≤ 200; omega, trivial, Nat.le_refl _, Nat.zero_add _, Nat.le_refl _, PrsOK.start hC, rfl⟩
  exact main
theorem MT_all {a : AS} {L : Nat} (hW : WA a) (hL : a.2.2.1 = nI L) (hL12 : L ≤ 12) : ∀ n, MT a L n
  | 0 => fun O _ _ _ _ _ _ _ _ _ _ _ hOn hOL _ _ _ _ _ _ _ _ _ _ _ _ => absurd hOL (by omega)
  | n + 1 => MT_succ (MT_all hW hL hL12 n) hW hL hL12
