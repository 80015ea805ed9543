/-! PURE: the reference's measuring is the ideal one: a text -/
def oz (o0 : Nat) : List Fr → Nat
  | [] => o0
  | _ :: _ => 0
def FrZ (z : MS) (c0 o0 : Nat) : List Fr → Prop
  | [] => True
  | f :: r => f.1 < 26 ∧ z 19 (c0 + r.length) = nI f.1 ∧ z 20 (c0 + r.length) = nI f.2.2.length ∧ (∀ j, j < f.2.2.length → z 21 (6 * (c0 + r.length) + j) = nI (f.2.2.getD j []).length) ∧ z 23 (c0 + r.length) = nI (f.2.1.length + oz o0 r) ∧ f.2.1.length + oz o0 r ≤ 200 ∧ Sml f.2.2 ∧ f.2.2.length + 1 ≤ 6 ∧ FrZ z c0 o0 r
theorem FrZ.lo {z z' : MS} {c0 o0 : Nat} {st : List Fr} (h : FrZ z c0 o0 st) (g : ∀ i, i < c0 + st.length → z' 19 i = z 19 i ∧ z' 20 i = z 20 i ∧ z' 23 i = z 23 i) (g2 : ∀ i, i < 6 * (c0 + st.length) → z' 21 i = z 21 i) : FrZ z' c0 o0 st := by
  induction st with
  | nil => trivial
  | cons f r ih =>
    obtain ⟨h1, h2, h3, h4, h5, h6, h7, h8, h9⟩ := h
    rw [List.length_cons] at g g2
    have q := g (c0 + r.length) (by omega)
    refine ⟨h1, by rw [q.1]; exact h2, by rw [q.2.1]; exact h3, fun j hj => ?_, by rw [q.2.2]; exact h5, h6, h7, h8, ih h9 (fun i hi => g i (by omega)) (fun i hi => g2 i (by omega))⟩
    rw [g2 _ (by omega)]; exact h4 j hj
def FLf (fin : Lc × Gl) (o0 : Nat) : Prop := fin.2.2.2.2 = true ∨ 200 < o0 + fin.1.1.length
def MR (O : List Nat) (u : Tx) (z0 : MS) (c0 o0 : Nat) (fin : Lc × Gl) (z : MS) : Prop :=
  (FLf fin o0 → ∃ z', Loop mB z = some (z', 0) ∧ Sm1 z0 z') ∧
  (¬ FLf fin o0 → ∃ z', Loop mB z = Loop mB z' ∧ Sm1 z0 z' ∧ LoM z0 z' O.length (O.length + 1) c0 ∧ z' 43 18 = nI O.length ∧ z' 43 22 = nI c0 ∧ z' 43 24 = 0 ∧ GZ z' fin.2 ∧ z' 11 O.length = nI u.length ∧ z' 23 c0 = nI (o0 + fin.1.1.length))
theorem MR.step {O : List Nat} {u : Tx} {z0 : MS} {c0 o0 : Nat} {fin : Lc × Gl} {z z2 : MS} (h : Loop mB z = Loop mB z2) (g : MR O u z0 c0 o0 fin z2) : MR O u z0 c0 o0 fin z := by
  unfold MR; rw [h]; exact g
theorem MR.fail {O : List Nat} {u : Tx} {z0 : MS} {c0 o0 : Nat} {fin : Lc × Gl} {z z' : MS} (hf : FLf fin o0) (h : Loop mB z = some (z', 0)) (hs : Sm1 z0 z') : MR O u z0 c0 o0 fin z := ⟨fun _ => ⟨z', h, hs⟩, fun q => absurd hf q⟩
/-- what holds at a sign -/
def MI (a : AS) (L n : Nat) (O : List Nat) (fill : Nat → Tx) (u : Tx) (z0 : MS) (c0 o0 : Nat) (fin : Lc × Gl) (i : Nat) (s : Lc × Gl) (hd : Bool) (z : MS) : Prop :=
  i ≤ u.length ∧ Sm1 z0 z ∧ LoM z0 z O.length (O.length + 1) c0 ∧ z 43 18 = nI O.length ∧ z 43 22 = nI (c0 + s.1.2.1.length) ∧ z 43 24 = 0 ∧ GZ z s.2 ∧ s.2.2.2.2 = false ∧
  z 11 O.length = nI i ∧ z 12 O.length = nI s.1.2.2 ∧ z 23 (c0 + s.1.2.1.length) = nI (s.1.1.length + oz o0 s.1.2.1) ∧ s.1.1.length + oz o0 s.1.2.1 ≤ 200 ∧ FrZ z c0 o0 s.1.2.1 ∧ 2 * s.1.2.1.length ≤ i ∧ s.1.2.2 + hls (u.drop i) = hls u ∧ s.1.2.2 ≤ i ∧ PrsOK (u.drop i) s.1.2.1 hd ∧ runF (callF (evF a.1 L n) a.1 L O) fill (u.drop i) s = fin
theorem fl_of {a : AS} {L n : Nat} {O : List Nat} {fill : Nat → Tx} {v : Tx} {s' : Lc × Gl} {hd : Bool} {fin : Lc × Gl} {o0 : Nat} (hp : PrsOK v s'.1.2.1 hd) (hr : runF (callF (evF a.1 L n) a.1 L O) fill v s' = fin) (h : s'.2.2.2.2 = true ∨ (s'.1.2.1 = [] ∧ 200 < o0 + s'.1.1.length)) : FLf fin o0 := by
  rcases h with h | ⟨h1, h2⟩
  · left
    rw [← hr]
    exact runF_bad (evF_call_bad a.1 L n O) v.length v (Nat.le_refl _) s' h
  · right
    have q := runF_long (rec := evF a.1 L n) (D := a.1) (L := L) (O := O) (fill := fill) hp
    rw [hr, h1] at q
    have : (bt [] s'.1.1).length = s'.1.1.length := rfl
    omega
/-- something is written -/
theorem step_add {a : AS} {L n : Nat} {O : List Nat} {fill : Nat → Tx} {u : Tx} {z0 z y : MS} {c0 o0 i h' : Nat} {fin s : Lc × Gl} {hd : Bool} {add : Tx} (hI : MI a L n O fill u z0 c0 o0 fin i s hd z) (hlt : i < u.length) (hu : u.length ≤ 60) (hO : O.length ≤ 12) (hc0 : c0 ≤ 30 * O.length)
    (y1 : ∀ j, j ≠ 11 → j ≠ 12 → y j = z j) (y2 : y 11 O.length = nI (i + 1)) (y3 : y 12 O.length = nI h') (y4 : ∀ j, j ≠ O.length → y 11 j = z 11 j ∧ y 12 j = z 12 j)
    (hloop : ∀ z2, F8_writes y (nI add.length) = some z2 → Loop mB z = Loop mB z2) (hadd : add.length ≤ 200) (hh : h' + hls (u.drop (i + 1)) = hls u) (hh2 : h' ≤ i + 1)
    (hr : runF (callF (evF a.1 L n) a.1 L O) fill (u.drop (i + 1)) ((s.1.1 ++ add, s.1.2.1, h'), bdd s.2 (ovr (s.1.1 ++ add))) = fin) (hp : PrsOK (u.drop (i + 1)) s.1.2.1 false)
    (IH : ∀ z2, MI a L n O fill u z0 c0 o0 fin (i + 1) ((s.1.1 ++ add, s.1.2.1, h'), bdd s.2 (ovr (s.1.1 ++ add))) false z2 → MR O u z0 c0 o0 fin z2) : MR O u z0 c0 o0 fin z := by
  obtain ⟨i1, i2, i3, i4, i5, i6, i7, i8, i9, i10, i11, i12, i13, i14, i15, i16, i17, i18⟩ := hI
  have e43 : y 43 = z 43 := y1 43 (by decide) (by decide)
  have sy : Sm1 z0 y := i2.tr ⟨fun u q1 q2 => y1 u (by omega) (by omega), fun j hj => by rw [e43]⟩
  have ly : LoM z0 y O.length (O.length + 1) c0 := i3.tr ⟨fun j hj => y4 j (by omega), fun j hj => ⟨by rw [y1 10 (by decide) (by decide)], by rw [y1 13 (by decide) (by decide)], by rw [y1 14 (by decide) (by decide)], by rw [y1 15 (by decide) (by decide)]⟩, fun j hj => by rw [y1 16 (by decide) (by decide)], fun j hj => ⟨by rw [y1 19 (by decide) (by decide)], by rw [y1 20 (by decide) (by decide)], by rw [y1 23 (by decide) (by decide)]⟩, fun j hj => by rw [y1 21 (by decide) (by decide)]⟩
  have hw := writes_ok (z := y) (c := c0 + s.1.2.1.length) (m := s.1.1.length + oz o0 s.1.2.1) (n := add.length) (by rw [e43]; exact i5) (by omega) (by rw [y1 23 (by decide) (by decide)]; exact i11) (by rw [e43]; exact i6) (by omega) (by omega)
  obtain ⟨z2, hz2⟩ : ∃ q, q = up2 (up2 y 23 (c0 + s.1.2.1.length) (nI (s.1.1.length + oz o0 s.1.2.1 + add.length))) 43 24 (bI (decide (200 < s.1.1.length + oz o0 s.1.2.1 + add.length))) := ⟨_, rfl⟩
  rw [← hz2] at hw
  have hl := hloop z2 hw
  have s2 : Sm1 z0 z2 := sy.tr (by rw [hz2]; exact (Sm1.up (Or.inl (by decide))).tr (Sm1.up (Or.inr (by decide))))
  by_cases c : 200 < s.1.1.length + oz o0 s.1.2.1 + add.length
  · have z24 : z2 43 24 = 1 := by rw [hz2, up2_at, if_pos ⟨rfl, rfl⟩, decide_eq_true c]; rfl
    refine MR.fail (fl_of (s' := ((s.1.1 ++ add, s.1.2.1, h'), bdd s.2 (ovr (s.1.1 ++ add)))) hp hr ?_) (hl.trans (mB_fail z24)) s2
    cases e : s.1.2.1 with
    | nil =>
      rw [e] at c
      refine Or.inr ⟨rfl, ?_⟩
      show 200 < o0 + (s.1.1 ++ add).length
      have : oz o0 ([] : List Fr) = o0 := rfl
      rw [List.length_append]; omega
    | cons f r =>
      rw [e] at c
      refine Or.inl ?_
      have : oz o0 (f :: r) = 0 := rfl
      show (s.2.2.2.2 || decide (200 < (s.1.1 ++ add).length)) = true
      rw [List.length_append, decide_eq_true (by omega), Bool.or_true]
  · have z24 : z2 43 24 = 0 := by rw [hz2, up2_at, if_pos ⟨rfl, rfl⟩, decide_eq_false c]; rfl
    refine MR.step hl (IH z2 ⟨by omega, s2, ?_, ?_, ?_, z24, ?_, ?_, ?_, ?_, ?_, ?_, ?_, ?_, hh, hh2, hp, hr⟩)
    · refine ly.tr ?_
      rw [hz2]
      exact (LoM.up (by omega) (by omega) (by omega) (by omega) (by omega)).tr (LoM.up (by omega) (by omega) (by omega) (by omega) (by omega))
    · rw [hz2, up2_at, if_neg (by decide), up2_ne _ (by decide), e43]; exact i4
    · rw [hz2, up2_at, if_neg (by decide), up2_ne _ (by decide), e43]; exact i5
    · have gy : GZ y s.2 := i7.keep (y1 27 (by decide) (by decide)) (by rw [e43]) (by rw [e43]) (by rw [e43])
      rw [hz2]
      exact (gy.up (by decide) (Or.inl (by decide))).up (by decide) (Or.inr (by decide))
    · show (s.2.2.2.2 || decide (200 < (s.1.1 ++ add).length)) = false
      rw [i8, List.length_append, decide_eq_false (by omega)]; rfl
    · rw [hz2, up2_ne _ (by decide), up2_ne _ (by decide)]; exact y2
    · rw [hz2, up2_ne _ (by decide), up2_ne _ (by decide)]; exact y3
    · dsimp only
      rw [hz2, up2_ne _ (by decide), up2_at, if_pos ⟨rfl, rfl⟩, List.length_append]
      congr 1; omega
    · dsimp only
      rw [List.length_append]; omega
    · refine i13.lo (fun j hj => ?_) (fun j hj => ?_)
      · rw [hz2, up2_ne _ (by decide), up2_ne _ (by decide), up2_ne _ (by decide), up2_ne _ (by decide), up2_ne _ (by decide), up2_at, if_neg (by omega), y1 19 (by decide) (by decide), y1 20 (by decide) (by decide), y1 23 (by decide) (by decide)]
        exact ⟨rfl, rfl, rfl⟩
      · rw [hz2, up2_ne _ (by decide), up2_ne _ (by decide), y1 21 (by decide) (by decide)]
    · show 2 * s.1.2.1.length ≤ i + 1
      omega
/-- a call -/
theorem step_call {a : AS} {L n : Nat} (hMT : MT a L n) (hW : WA a) (hL : a.2.2.1 = nI L) (hL12 : L ≤ 12) {O : List Nat} {fill : Nat → Tx} {u : Tx} {z0 z y : MS} {c0 o0 i h k : Nat} {fin : Lc × Gl} {r : List Fr} {sv : Tx} {as : List Tx} {G : Gl} {hd' : Bool} (hlt : i < u.length) (hu : u.length ≤ 60) (hc0 : c0 ≤ 30 * O.length) (hZ : ZS (z0 0) a) (hOp : OpZ z0 O) (hOL : O.length ≤ L) (hOn : O.length + n = 13) (hun : O ≠ [] ∨ z0 43 17 = -1)
    (sy : Sm1 z0 y) (ly : LoM z0 y O.length (O.length + 1) c0) (y18 : y 43 18 = nI O.length) (y22 : y 43 22 = nI (c0 + r.length)) (y24 : y 43 24 = 0) (gy : GZ y G) (hbad : G.2.2.2 = false) (y11 : y 11 O.length = nI (i + 1)) (y12 : y 12 O.length = nI h) (y23 : y 23 (c0 + r.length) = nI (sv.length + oz o0 r)) (hsv : sv.length + oz o0 r ≤ 200) (hfr : FrZ y c0 o0 r) (hr2 : 2 * r.length ≤ i + 1)
    (hk : k < 26) (has : as.length ≤ 6) (hsm : Sml as) (hsz : ∀ j, j < as.length → y 21 (6 * (c0 + r.length) + j) = nI (as.getD j []).length)
    (hloop : ∀ z2, F8_goesOn y (nI k) (nI as.length) = some z2 → Loop mB z = Loop mB z2) (hh : h + hls (u.drop (i + 1)) = hls u) (hh2 : h ≤ i + 1)
    (hr : runF (callF (evF a.1 L n) a.1 L O) fill (u.drop (i + 1)) (((callF (evF a.1 L n) a.1 L O k as sv G).1, r, h), (callF (evF a.1 L n) a.1 L O k as sv G).2) = fin) (hp : PrsOK (u.drop (i + 1)) r hd')
    (IH : ∀ z2, MI a L n O fill u z0 c0 o0 fin (i + 1) (((callF (evF a.1 L n) a.1 L O k as sv G).1, r, h), (callF (evF a.1 L n) a.1 L O k as sv G).2) hd' z2 → MR O u z0 c0 o0 fin z2) : MR O u z0 c0 o0 fin z := by
  obtain ⟨z2, e2, m1, m2⟩ := call_ok hMT hW hL hL12 (z := y) (O := O) (k := k) (c := c0 + r.length) (o := sv.length + oz o0 r) (as := as) (G := G) (by rw [sy.1 0 (by omega) (by decide)]; exact hZ) (hOp.keep (fun j hj => (ly.2.1 j (by omega)).1)) y18 y22 y24 gy hbad y23 hsv (by omega) hk has hsm hsz hOL hOn (by rw [sy.2 17 (by omega)]; exact hun)
  have hl := hloop z2 e2
  obtain ⟨R, hR⟩ : ∃ R, R = resF (evF a.1 L n) a.1 L O k as G := ⟨_, rfl⟩
  have hcb : (callF (evF a.1 L n) a.1 L O k as sv G).2.2.2.2 = (R.2.2.2.2 || ovr (sv ++ R.1)) := by rw [hR]; exact callF_bad
  have hc1 : (callF (evF a.1 L n) a.1 L O k as sv G).1 = sv ++ R.1 := by rw [hR]; rfl
  have hc2 : (callF (evF a.1 L n) a.1 L O k as sv G).2 = nte (bdd R.2 (ovr (sv ++ R.1))) (cnt6 k (edg a.1 L O k) O as R.1.length) := by rw [hR]; rfl
  rw [← hR] at m1 m2
  by_cases c : FL R (sv.length + oz o0 r)
  · obtain ⟨z', p1, p2⟩ := m1 c
    refine MR.fail (fl_of (s' := (((callF (evF a.1 L n) a.1 L O k as sv G).1, r, h), (callF (evF a.1 L n) a.1 L O k as sv G).2)) hp hr ?_) (hl.trans p1) (sy.tr p2)
    rcases c with c | c
    · left
      show (callF (evF a.1 L n) a.1 L O k as sv G).2.2.2.2 = true
      rw [hcb, c]; rfl
    · cases r with
      | nil =>
        refine Or.inr ⟨rfl, ?_⟩
        show 200 < o0 + (callF (evF a.1 L n) a.1 L O k as sv G).1.length
        have : oz o0 ([] : List Fr) = o0 := rfl
        rw [hc1, List.length_append]; omega
      | cons f r =>
        left
        show (callF (evF a.1 L n) a.1 L O k as sv G).2.2.2.2 = true
        have : oz o0 (f :: r) = 0 := rfl
        have : ovr (sv ++ R.1) = true := by unfold ovr; rw [List.length_append, decide_eq_true (by omega)]
        rw [hcb, this, Bool.or_true]
  · obtain ⟨z', p1, p2, p3, p4, p5, p6, p7, p8⟩ := m2 c
    have c1 : R.2.2.2.2 = false := not_t (fun q => c (Or.inl q))
    have c2 : ¬ 200 < sv.length + oz o0 r + R.1.length := fun q => c (Or.inr q)
    have c3 : ovr (sv ++ R.1) = false := by unfold ovr; rw [List.length_append, decide_eq_false (by omega)]
    refine MR.step (hl.trans p1) (IH z' ⟨by omega, sy.tr p2, ly.tr (p3.le (by omega) (Nat.le_refl _) (by omega)), p4, p5, p6, ?_, ?_, ?_, ?_, ?_, ?_, ?_, hr2, hh, hh2, hp, hr⟩)
    · show GZ z' (callF (evF a.1 L n) a.1 L O k as sv G).2
      rw [hc2]; exact p7
    · show (callF (evF a.1 L n) a.1 L O k as sv G).2.2.2.2 = false
      rw [hcb, c1, c3]; rfl
    · rw [(p3.1 O.length (by omega)).1]; exact y11
    · rw [(p3.1 O.length (by omega)).2]; exact y12
    · dsimp only
      rw [p8, hc1, List.length_append]
      congr 1; omega
    · dsimp only
      rw [hc1, List.length_append]; omega
    · exact hfr.lo (fun j hj => p3.2.2.2.1 j hj) (fun j hj => p3.2.2.2.2 j hj)
