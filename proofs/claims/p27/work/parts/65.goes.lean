/-! PURE: the reference goes on with a call, fills, reads -/
noncomputable def goK (z : MS) (p0 p1 x1 x11 : Int32) : Option ((Int32 × Int32) ⊕ MS) :=
  if x11 ≤ 0 then
  bn (F8_opens z p0) fun z13 =>
  wr z13 13 14 (z13 43 18) p1 fun z14 =>
  wr z14 14 14 (z14 43 18) x1 fun z15 =>
  Loop (fun (q : Int32 × MS) => (fun (x16 : Int32) (z17 : MS) =>
  if p1 ≤ x16 then
  some (.inr (.inr z17))
  else
  rd (z17 21) 2400 ((6 * (z17 43 22)) + x16) fun x19 =>
  wr z17 16 84 ((6 * (z17 43 18)) + x16) x19 fun z20 =>
  bd (x16 + 1) fun x21 =>
  some (.inl (x21, z20))) q.1 q.2) (0, z15)
  else
  bn (F8_writes z 1) fun z22 =>
  bn (F8_notes z22 p0 x11 (z22 43 18) p1 1 x1) fun z23 =>
  some (.inr z23)
theorem goK_no {z : MS} {c o : Nat} {O : List Nat} {G : Gl} {k e : Nat} {as : List Tx} (h18 : z 43 18 = nI O.length) (h22 : z 43 22 = nI c) (hc : c < 401) (h24 : z 43 24 = 0) (hG : GZ z G) (ho : z 23 c = nI o) (ho2 : o ≤ 200) (he : e = 1 ∨ e = 2 ∨ e = 3) :
    ∃ z2, goK z (nI k) (nI as.length) (nI (smA as)) (nI e) = some (.inr z2) ∧ Sm1 z z2 ∧ LoM z z2 (O.length + 1) (O.length + 1) c ∧ GZ z2 (nte G (cnt6 k e O as 1)) ∧ z2 43 18 = nI O.length ∧ z2 43 22 = nI c ∧ z2 43 24 = bI (decide (200 < o + 1)) ∧ z2 23 c = nI (o + 1) := by
  obtain ⟨y, hy⟩ : ∃ q, q = up2 (up2 z 23 c (nI (o + 1))) 43 24 (bI (decide (200 < o + 1))) := ⟨_, rfl⟩
  have hw : F8_writes z 1 = some y := by rw [hy]; exact writes_ok (n := 1) h22 hc ho h24 (by omega) (by decide)
  have y18 : y 43 18 = nI O.length := by rw [hy, up2_at, if_neg (by decide), up2_ne _ (by decide)]; exact h18
  have hGy : GZ y G := by
    rw [hy]; exact (hG.up (by decide) (Or.inl (by decide))).up (by decide) (Or.inr (by decide))
  have sy : Sm1 z y := by rw [hy]; exact (Sm1.up (Or.inl (by decide))).tr (Sm1.up (Or.inr (by decide)))
  have ly : LoM z y (O.length + 1) (O.length + 1) c := by
    rw [hy]
    exact (LoM.up (by omega) (by omega) (by omega) (by omega) (by omega)).tr (LoM.up (by omega) (by omega) (by omega) (by omega) (by omega))
  obtain ⟨z2, e2, g2, r2, k2⟩ := notes_ok hGy (nI k) (nI e) (nI O.length) (nI as.length) 1 (nI (smA as))
  have s2 : Sm1 y z2 := ⟨fun u q1 q2 => r2 u (by omega) q2, fun j hj => k2 j (by omega)⟩
  refine ⟨z2, ?_, sy.tr s2, ly.tr ?_, g2, ?_, ?_, ?_, ?_⟩
  · unfold goK
    refine if_no (nI_nle (by omega) (by omega)) <| bn_go hw ?_
    rw [y18]
    exact bn_go e2 rfl
  · refine ⟨fun j hj => ⟨?_, ?_⟩, fun j hj => ⟨?_, ?_, ?_, ?_⟩, fun i hi => ?_, fun i hi => ⟨?_, ?_, ?_⟩, fun i hi => ?_⟩ <;> rw [r2 _ (by decide) (by decide)]
  · rw [k2 18 (by decide)]; exact y18
  · rw [k2 22 (by decide), hy, up2_at, if_neg (by decide), up2_ne _ (by decide)]; exact h22
  · rw [k2 24 (by decide), hy, up2_at, if_pos ⟨rfl, rfl⟩]
  · rw [r2 23 (by decide) (by decide), hy, up2_ne _ (by decide), up2_at, if_pos ⟨rfl, rfl⟩]
theorem goK_yes {z : MS} {c o : Nat} {O : List Nat} {G : Gl} {k : Nat} {as : List Tx} (h18 : z 43 18 = nI O.length) (hO : O.length + 1 ≤ 12) (h22 : z 43 22 = nI c) (hc : c ≤ 395) (h24 : z 43 24 = 0) (hG : GZ z G) (ho : z 23 c = nI o) (has : as.length ≤ 6) (hsz : ∀ j, j < as.length → z 21 (6 * c + j) = nI (as.getD j []).length) :
    ∃ z2, goK z (nI k) (nI as.length) (nI (smA as)) 0 = some (.inr z2) ∧ (∀ u, u < 10 ∨ 16 < u → u ≠ 43 → z2 u = z u) ∧ (∀ u j, 10 ≤ u → u ≤ 15 → j ≠ O.length + 1 → z2 u j = z u j) ∧ (∀ i, i < 6 * (O.length + 1) → z2 16 i = z 16 i) ∧ z2 10 (O.length + 1) = nI k ∧ z2 11 (O.length + 1) = 0 ∧ z2 12 (O.length + 1) = 0 ∧ z2 15 (O.length + 1) = nI o ∧ z2 13 (O.length + 1) = nI as.length ∧ z2 14 (O.length + 1) = nI (smA as) ∧ (∀ i, i < as.length → z2 16 (6 * (O.length + 1) + i) = nI (as.getD i []).length) ∧ z2 43 18 = nI (O.length + 1) ∧ z2 43 25 = nI (G.1 + 1) ∧ z2 43 26 = nI (max G.2.1 (O.length + 1)) ∧ z2 43 24 = bI (decide (60 < G.1 + 1)) ∧ ∀ j, j ≠ 18 → j ≠ 24 → j ≠ 25 → j ≠ 26 → z2 43 j = z 43 j := by
  obtain ⟨g1, g2, g3, g4, g5, g6, g7, g8⟩ := id hG
  obtain ⟨y, ey, r1, r2, a10, a11, a12, a15, a13, a14, a18, a25, a26, a24, ak⟩ := opens_ok h18 (by omega) h22 (by omega) ho h24 g1 g7 g2 g8 (nI k)
  obtain ⟨w, hw⟩ : ∃ q, q = up2 (up2 y 13 (O.length + 1) (nI as.length)) 14 (O.length + 1) (nI (smA as)) := ⟨_, rfl⟩
  have w43 : w 43 = y 43 := by rw [hw, up2_ne _ (by decide), up2_ne _ (by decide)]
  have w18 : w 43 18 = nI (O.length + 1) := by rw [w43]; exact a18
  have w22 : w 43 22 = nI c := by rw [w43, ak 22 (by decide) (by decide) (by decide) (by decide)]; exact h22
  have w21 : w 21 = z 21 := by rw [hw, up2_ne _ (by decide), up2_ne _ (by decide), r1 21 (by decide) (by decide)]
  have w16 : w 16 = z 16 := by rw [hw, up2_ne _ (by decide), up2_ne _ (by decide), r1 16 (by decide) (by decide)]
  have main := Loop_inv (f := fun (q : Int32 × MS) => (fun (x16 : Int32) (z17 : MS) =>
    if (nI as.length) ≤ x16 then
    some (.inr (.inr z17))
    else
    rd (z17 21) 2400 ((6 * (z17 43 22)) + x16) fun x19 =>
    wr z17 16 84 ((6 * (z17 43 18)) + x16) x19 fun z20 =>
    bd (x16 + 1) fun x21 =>
    (some (.inl (x21, z20)) : Option ((Int32 × MS) ⊕ ((Int32 × Int32) ⊕ MS)))) q.1 q.2) (fun j q => q.1 = nI j ∧ (∀ u, u ≠ 16 → q.2 u = w u) ∧ (∀ i, i < 6 * (O.length + 1) → q.2 16 i = z 16 i) ∧ ∀ i, i < j → q.2 16 (6 * (O.length + 1) + i) = nI (as.getD i []).length) as.length
    (fun r => ∃ z2, r = .inr z2 ∧ (∀ u, u ≠ 16 → z2 u = w u) ∧ (∀ i, i < 6 * (O.length + 1) → z2 16 i = z 16 i) ∧ ∀ i, i < as.length → z2 16 (6 * (O.length + 1) + i) = nI (as.getD i []).length) ?_ ?_ (0, w) ⟨rfl, fun _ _ => rfl, fun i _ => (by show w 16 i = z 16 i; rw [w16]), fun i hi => absurd hi (by omega)⟩
  · obtain ⟨r, e1, z2, rfl, q1, q2, q3⟩ := main
    refine ⟨z2, ?_, fun u v1 v2 => ?_, fun u j v1 v2 v3 => ?_, q2, ?_, ?_, ?_, ?_, ?_, ?_, q3, ?_, ?_, ?_, ?_, fun j v1 v2 v3 v4 => ?_⟩
    · unfold goK
      refine if_go (by decide) <| bn_go ey <| wr_go a18 (by omega) (by decide) <| wr_go (k := O.length + 1) (by rw [up2_ne _ (by decide)]; exact a18) (by omega) (by decide) ?_
      rw [← hw]
      exact e1
    · rw [q1 u (by omega), hw, up2_ne _ (by omega), up2_ne _ (by omega)]; exact r1 u (by omega) v2
    · rw [q1 u (by omega), hw, up2_at, if_neg (by omega), up2_at, if_neg (by omega)]; exact r2 u j v1 v2 v3
    · rw [q1 10 (by decide), hw, up2_ne _ (by decide), up2_ne _ (by decide)]; exact a10
    · rw [q1 11 (by decide), hw, up2_ne _ (by decide), up2_ne _ (by decide)]; exact a11
    · rw [q1 12 (by decide), hw, up2_ne _ (by decide), up2_ne _ (by decide)]; exact a12
    · rw [q1 15 (by decide), hw, up2_ne _ (by decide), up2_ne _ (by decide)]; exact a15
    · rw [q1 13 (by decide), hw, up2_ne _ (by decide), up2_at, if_pos ⟨rfl, rfl⟩]
    · rw [q1 14 (by decide), hw, up2_at, if_pos ⟨rfl, rfl⟩]
    · rw [q1 43 (by decide)]; exact w18
    · rw [q1 43 (by decide), w43]; exact a25
    · rw [q1 43 (by decide), w43]; exact a26
    · rw [q1 43 (by decide), w43]; exact a24
    · rw [q1 43 (by decide), w43]; exact ak j v1 v2 v3 v4
  · rintro j ⟨x, y2⟩ hj ⟨rfl, q1, q2, q3⟩
    dsimp only at q1 q2 q3
    have i1 : (6 * (y2 43 22)) + nI j = nI (6 * c + j) := by
      rw [q1 43 (by decide), w22]
      show nI 6 * nI c + nI j = _
      rw [nI_mul, nI_add]
    have i2 : (6 * (y2 43 18)) + nI j = nI (6 * (O.length + 1) + j) := by
      rw [q1 43 (by decide), w18]
      show nI 6 * nI (O.length + 1) + nI j = _
      rw [nI_mul, nI_add]
    refine ⟨(nI (j + 1), up2 y2 16 (6 * (O.length + 1) + j) (nI (as.getD j []).length)), ?_, rfl, fun u hu => ?_, fun i hi => ?_, fun i hi => ?_⟩
    · refine if_no (nI_ge hj (by omega)) <| rd_go i1 (by omega) (by decide) (show y2 21 (6 * c + j) = nI (as.getD j []).length by rw [q1 21 (by decide), w21]; exact hsz j hj) <| wr_go i2 (by omega) (by decide) <| bd_go ?_
      rw [nI_1]
    · dsimp only; rw [up2_ne _ hu]; exact q1 u hu
    · dsimp only; rw [up2_at, if_neg (by omega)]; exact q2 i hi
    · dsimp only
      rw [up2_at]
      by_cases e : i = j
      · rw [if_pos ⟨rfl, by omega⟩, e]
      · rw [if_neg (by omega)]; exact q3 i (by omega)
  · rintro ⟨x, y2⟩ ⟨rfl, q1, q2, q3⟩
    exact ⟨_, if_go (nI_le (Nat.le_refl _) (by omega)) rfl, y2, rfl, q1, q2, q3⟩
theorem goesOn_go {z : MS} {a : AS} {O : List Nat} {k c L : Nat} {as : List Tx} (hZ : ZS (z 0) a) (hW : WA a) (hL : a.2.2.1 = nI L) (hOL : O.length ≤ L) (hL12 : L ≤ 12) (hOp : OpZ z O) (h18 : z 43 18 = nI O.length) (h22 : z 43 22 = nI c) (hc : c ≤ 395) (hk : k < 26) (has : as.length ≤ 6) (hsm : Sml as) (hsz : ∀ j, j < as.length → z 21 (6 * c + j) = nI (as.getD j []).length) {z2 : MS} (h : goK z (nI k) (nI as.length) (nI (smA as)) (nI (edg a.1 L O k)) = some (.inr z2)) : F8_goesOn z (nI k) (nI as.length) = some z2 := by
  have hfl := hsm.fl
  unfold F8_goesOn
  refine Loop_seq (fun j => (nI (fl (as.take j)), nI j)) as.length (fun j hj => ?_) ?_
  · have i1 : (6 * (z 43 22)) + nI j = nI (6 * c + j) := by
      rw [h22]
      show nI 6 * nI c + nI j = _
      rw [nI_mul, nI_add]
    refine if_no (nI_ge hj (by omega)) <| rd_go i1 (by omega) (by decide) (hsz j hj) <| bd_go <| bd_go ?_
    rw [nI_1, nI_add, take_sL [] as j hj, fl_app, fl_one]
  · refine if_go (nI_le (Nat.le_refl _) (by omega)) ?_
    have last : ∀ x, x = nI (edg a.1 L O k) → goK z (nI k) (nI as.length) (nI (fl (as.take as.length))) x = some (.inr z2) := by
      rintro x rfl
      rw [List.take_length]
      exact h
    refine bn_go (F8_isDefined_eq hZ hk (fun t e => (hW.1 k t e).2)) <| jp_go ?_
    unfold edg at last
    cases e : a.1 k with
    | none =>
      rw [e] at last
      exact if_no (fun q => q rfl) (last 1 rfl)
    | some t =>
      rw [e] at last
      dsimp only at last
      refine if_go (by show ¬ bI true = 0; decide) <| bn_go (isOpen_ok h18 (by omega) hOp hk) ?_
      by_cases c1 : k ∈ O
      · rw [if_pos c1] at last
        rw [decide_eq_true c1]
        exact if_no (by decide) (last 2 rfl)
      · rw [if_neg c1] at last
        rw [decide_eq_false c1]
        refine if_go rfl <| rd_go (k := 1586) rfl (by decide) (by decide) (hZ.2.2.1.trans hL) ?_
        rw [h18]
        by_cases c2 : L ≤ O.length
        · rw [if_pos c2] at last
          have : O.length = L := by omega
          exact if_no (fun q => q (by rw [this])) (last 3 rfl)
        · rw [if_neg c2] at last
          exact if_go (nI_neq (by omega) (by omega) (by omega)) (last 0 rfl)
/-- where holes are filled from -/
def FillZ (z : MS) (O : List Nat) (fill : Nat → Tx) (u : Tx) : Prop :=
  (O = [] ∧ fill = fun _ => [63]) ∨ (O.length = 1 ∧ ∃ len : Nat, z 43 17 = nI len ∧ len ≤ 200 ∧ ∀ h, h < hls u → (fill h).length = len) ∨
  (O ≠ [] ∧ (O.length ≠ 1 ∨ z 43 17 = -1) ∧ ∃ as : List Tx, fill = (fun i => as.getD i []) ∧ as.length ≤ 6 ∧ z 13 O.length = nI as.length ∧ Sml as ∧ ∀ i, i < as.length → z 16 (6 * O.length + i) = nI (as.getD i []).length)
theorem FillZ.keep {z z' : MS} {O : List Nat} {fill : Nat → Tx} {u : Tx} (h : FillZ z O fill u) (hs : Sm1 z z') {c : Nat} (hl : LoM z z' O.length (O.length + 1) c) : FillZ z' O fill u := by
  unfold FillZ
  rw [hs.2 17 (by omega)]
  rcases h with h | h | ⟨h1, h2, as, h3, h4, h5, h6, h7⟩
  · exact Or.inl h
  · exact Or.inr (Or.inl h)
  · refine Or.inr (Or.inr ⟨h1, h2, as, h3, h4, ?_, h6, fun i hi => ?_⟩)
    · rw [(hl.2.1 O.length (by omega)).2.1]; exact h5
    · rw [hl.2.2.1 _ (by omega)]; exact h7 i hi
theorem filling_ok {z : MS} {O : List Nat} {fill : Nat → Tx} {u : Tx} {h : Nat} (hF : FillZ z O fill u) (h18 : z 43 18 = nI O.length) (hO : O.length ≤ 12) (h12 : z 12 O.length = nI h) (hh : h < hls u) (h60 : h ≤ 60) : F8_filling z = some (up2 z 12 O.length (nI (h + 1)), nI (fill h).length) ∧ (fill h).length ≤ 200 := by
  obtain ⟨y, hy⟩ : ∃ q, q = up2 z 12 O.length (nI (h + 1)) := ⟨_, rfl⟩
  rw [← hy]
  have y43 : y 43 = z 43 := by rw [hy]; exact up2_ne _ (by decide)
  have y13 : y 13 = z 13 := by rw [hy]; exact up2_ne _ (by decide)
  have y16 : y 16 = z 16 := by rw [hy]; exact up2_ne _ (by decide)
  have go : ∀ (r : Option (MS × Int32)), (jp (fun (_ : Unit) => jp (fun (x12 : Int32) => some (y, x12)) fun k7 =>
      if ¬ (y 43 18) = 0 then
      rd (y 13) 14 (y 43 18) fun x9 =>
      if x9 ≤ (nI h) then
      k7 0
      else
      rd (y 16) 84 ((6 * (y 43 18)) + (nI h)) fun x11 =>
      k7 x11
      else
      k7 1) fun k4 =>
      if ¬ (y 43 18) = 1 then
      k4 ()
      else
      if (y 43 17) = (-1) then
      k4 ()
      else
      some (y, y 43 17)) = r → F8_filling z = r := by
    intro r hr
    unfold F8_filling
    refine rd_go h18 (by omega) (by decide) h12 <| rd_go h18 (by omega) (by decide) h12 <| wr_go h18 (by omega) (by decide) ?_
    rw [nI_1, ← hy]
    exact hr
  rcases hF with ⟨rfl, rfl⟩ | ⟨h1, len, h2, h3, h4⟩ | ⟨h1, h2, as, rfl, h4, h5, h6, h7⟩
  · refine ⟨go _ ?_, show ([63] : Tx).length ≤ 200 by decide⟩
    exact jp_go <| if_go (by rw [y43, h18]; decide) <| jp_go <| if_no (fun q => q (by rw [y43, h18]; rfl)) rfl
  · refine ⟨go _ ?_, by rw [h4 h hh]; exact h3⟩
    rw [h4 h hh, ← h2, ← y43]
    refine jp_go <| if_no (fun q => q (by rw [y43, h18, h1]; rfl)) <| if_no ?_ rfl
    rw [y43, h2]
    intro q
    exact nI_pos (n := len) (by omega) (by rw [q]; decide)
  · have hO0 : 0 < O.length := by
      cases O with
      | nil => exact absurd rfl h1
      | cons x r => rw [List.length_cons]; omega
    have inner : (jp (fun (x12 : Int32) => some (y, x12)) fun k7 =>
        if ¬ (y 43 18) = 0 then
        rd (y 13) 14 (y 43 18) fun x9 =>
        if x9 ≤ (nI h) then
        k7 0
        else
        rd (y 16) 84 ((6 * (y 43 18)) + (nI h)) fun x11 =>
        k7 x11
        else
        k7 1) = some (y, nI (as.getD h []).length) := by
      rw [y43, y13, y16, h18]
      refine jp_go <| if_go (nI_ne0 hO0 (by omega)) <| rd_go rfl (by omega) (by decide) h5 ?_
      by_cases c : as.length ≤ h
      · have e : as.getD h [] = [] := by rw [List.getD_eq_getElem?_getD, List.getElem?_eq_none (by omega)]; rfl
        refine if_go (nI_le c (by omega)) ?_
        rw [e]; rfl
      · refine if_no (nI_ge (by omega) (by omega)) <| rd_go (k := 6 * O.length + h) ?_ (by omega) (by decide) (h7 h (by omega)) rfl
        show nI 6 * nI O.length + nI h = _
        rw [nI_mul, nI_add]
    refine ⟨go _ ?_, ?_⟩
    · refine jp_go ?_
      by_cases c : O.length = 1
      · have u1 : z 43 17 = -1 := h2.resolve_left (fun q => q c)
        exact if_no (fun q => q (by rw [y43, h18, c]; rfl)) <| if_go (by rw [y43]; exact u1) inner
      · exact if_go (by rw [y43, h18]; exact nI_neq (b := 1) (by omega) (by decide) c) inner
    · by_cases c : h < as.length
      · refine h6 _ ?_
        show as.getD h [] ∈ as
        rw [List.getD_eq_getElem?_getD, List.getElem?_eq_getElem c]
        exact List.getElem_mem c
      · show (as.getD h []).length ≤ 200
        rw [List.getD_eq_getElem?_getD, List.getElem?_eq_none (by omega)]; exact Nat.zero_le _
