/-! PURE: the reference's measuring, operation by operation -/
def Sm1 (z z' : MS) : Prop := (∀ u, (u < 10 ∨ 28 ≤ u) → u ≠ 43 → z' u = z u) ∧ ∀ k, (k < 18 ∨ 28 < k) → z' 43 k = z 43 k
theorem Sm1.rf (z : MS) : Sm1 z z := ⟨fun _ _ _ => rfl, fun _ _ => rfl⟩
theorem Sm1.tr {z z1 z2 : MS} (h : Sm1 z z1) (g : Sm1 z1 z2) : Sm1 z z2 := ⟨fun u a b => (g.1 u a b).trans (h.1 u a b), fun k a => (g.2 k a).trans (h.2 k a)⟩
theorem Sm1.up {z : MS} {a k : Nat} {v : Int32} (h : (10 ≤ a ∧ a < 28) ∨ (a = 43 ∧ 18 ≤ k ∧ k ≤ 28)) : Sm1 z (up2 z a k v) := by
  refine ⟨fun u q1 q2 => up2_ne _ (by omega), fun j hj => ?_⟩
  rw [up2_at, if_neg (by omega)]
theorem Sm1.smz {z z' : MS} (h : Sm1 z z') : SmZ z z' := ⟨h.1 0 (by omega) (by decide), h.1 1 (by omega) (by decide), h.1 3 (by omega) (by decide), h.1 4 (by omega) (by decide), h.1 5 (by omega) (by decide), h.2 2 (by omega), h.2 6 (by omega)⟩
theorem SrcZ.sm1 {z z' : MS} {p : Nat} {t : Tx} (h : Sm1 z z') (g : SrcZ z p t) : SrcZ z' p t := by
  unfold SrcZ
  rw [h.1 0 (by omega) (by decide), h.1 5 (by omega) (by decide), h.2 6 (by omega)]
  exact g
/-- what lies below stays: places of texts below A, texts below B, calls below c -/
def LoM (z z' : MS) (A B c : Nat) : Prop :=
  (∀ j, j < A → z' 11 j = z 11 j ∧ z' 12 j = z 12 j) ∧ (∀ j, j < B → z' 10 j = z 10 j ∧ z' 13 j = z 13 j ∧ z' 14 j = z 14 j ∧ z' 15 j = z 15 j) ∧
  (∀ i, i < 6 * B → z' 16 i = z 16 i) ∧ (∀ i, i < c → z' 19 i = z 19 i ∧ z' 20 i = z 20 i ∧ z' 23 i = z 23 i) ∧ ∀ i, i < 6 * c → z' 21 i = z 21 i
theorem LoM.rf (z : MS) (A B c : Nat) : LoM z z A B c := ⟨fun _ _ => ⟨rfl, rfl⟩, fun _ _ => ⟨rfl, rfl, rfl, rfl⟩, fun _ _ => rfl, fun _ _ => ⟨rfl, rfl, rfl⟩, fun _ _ => rfl⟩
theorem LoM.tr {z z1 z2 : MS} {A B c : Nat} (h : LoM z z1 A B c) (g : LoM z1 z2 A B c) : LoM z z2 A B c :=
  ⟨fun j hj => ⟨(g.1 j hj).1.trans (h.1 j hj).1, (g.1 j hj).2.trans (h.1 j hj).2⟩,
   fun j hj => ⟨(g.2.1 j hj).1.trans (h.2.1 j hj).1, (g.2.1 j hj).2.1.trans (h.2.1 j hj).2.1, (g.2.1 j hj).2.2.1.trans (h.2.1 j hj).2.2.1, (g.2.1 j hj).2.2.2.trans (h.2.1 j hj).2.2.2⟩,
   fun i hi => (g.2.2.1 i hi).trans (h.2.2.1 i hi),
   fun i hi => ⟨(g.2.2.2.1 i hi).1.trans (h.2.2.2.1 i hi).1, (g.2.2.2.1 i hi).2.1.trans (h.2.2.2.1 i hi).2.1, (g.2.2.2.1 i hi).2.2.trans (h.2.2.2.1 i hi).2.2⟩,
   fun i hi => (g.2.2.2.2 i hi).trans (h.2.2.2.2 i hi)⟩
theorem LoM.le {z z' : MS} {A B c A' B' c' : Nat} (h : LoM z z' A B c) (hA : A' ≤ A) (hB : B' ≤ B) (hc : c' ≤ c) : LoM z z' A' B' c' :=
  ⟨fun j hj => h.1 j (by omega), fun j hj => h.2.1 j (by omega), fun i hi => h.2.2.1 i (by omega), fun i hi => h.2.2.2.1 i (by omega), fun i hi => h.2.2.2.2 i (by omega)⟩
/-- one cell -/
theorem LoM.up {z : MS} {a k : Nat} {v : Int32} {A B c : Nat} (h1 : a = 11 ∨ a = 12 → A ≤ k) (h2 : a = 10 ∨ a = 13 ∨ a = 14 ∨ a = 15 → B ≤ k) (h3 : a = 16 → 6 * B ≤ k) (h4 : a = 19 ∨ a = 20 ∨ a = 23 → c ≤ k) (h5 : a = 21 → 6 * c ≤ k) : LoM z (up2 z a k v) A B c := by
  refine ⟨fun j hj => ⟨?_, ?_⟩, fun j hj => ⟨?_, ?_, ?_, ?_⟩, fun i hi => ?_, fun i hi => ⟨?_, ?_, ?_⟩, fun i hi => ?_⟩ <;> rw [up2_at, if_neg (by omega)]
/-- expanded, deepest, trace -/
def GZ (z : MS) (G : Gl) : Prop := z 43 25 = nI G.1 ∧ z 43 26 = nI G.2.1 ∧ z 43 28 = nI (G.2.2.1.length / 6) ∧ hold (z 27) G.2.2.1 ∧ G.2.2.1.length % 6 = 0 ∧ G.2.2.1.length ≤ 360 ∧ G.1 ≤ 60 ∧ G.2.1 ≤ 13
theorem GZ.keep {z z' : MS} {G : Gl} (h : GZ z G) (h27 : z' 27 = z 27) (h25 : z' 43 25 = z 43 25) (h26 : z' 43 26 = z 43 26) (h28 : z' 43 28 = z 43 28) : GZ z' G := by
  unfold GZ; rw [h27, h25, h26, h28]; exact h
theorem GZ.up {z : MS} {a k : Nat} {v : Int32} {G : Gl} (h : GZ z G) (ha : a ≠ 27) (hk : a ≠ 43 ∨ (k ≠ 25 ∧ k ≠ 26 ∧ k ≠ 28)) : GZ (up2 z a k v) G :=
  h.keep (up2_ne _ (by omega)) (by rw [up2_at, if_neg (by omega)]) (by rw [up2_at, if_neg (by omega)]) (by rw [up2_at, if_neg (by omega)])
theorem notes_ok {z : MS} {G : Gl} (h : GZ z G) (x0 x1 x2 x3 x4 x5 : Int32) : ∃ z', F8_notes z x0 x1 x2 x3 x4 x5 = some z' ∧ GZ z' (nte G [x0, x1, x2, x3, x4, x5]) ∧ (∀ u, u ≠ 27 → u ≠ 43 → z' u = z u) ∧ ∀ k, k ≠ 28 → z' 43 k = z 43 k := by
  obtain ⟨h1, h2, h3, h4, h5, h6, h7⟩ := id h
  unfold F8_notes nte
  by_cases c : G.2.2.1.length < 360
  · rw [if_pos c]
    obtain ⟨m, hm⟩ : ∃ m, G.2.2.1.length = 6 * m := ⟨G.2.2.1.length / 6, by omega⟩
    have h3' : z 43 28 = nI m := by rw [h3, hm]; congr 1; omega
    have hx : ∀ j, ((6 : Int32) * nI m) + nI j = nI (6 * m + j) := fun j => by
      show nI 6 * nI m + nI j = _
      rw [nI_mul, nI_add]
    have hx0 : ((6 : Int32) * nI m) = nI (6 * m) := nI_mul 6 m
    obtain ⟨c1, e1⟩ : ∃ q, q = up2 z 27 (6 * m) x0 := ⟨_, rfl⟩
    obtain ⟨c2, e2⟩ : ∃ q, q = up2 c1 27 (6 * m + 1) x1 := ⟨_, rfl⟩
    obtain ⟨c3, e3⟩ : ∃ q, q = up2 c2 27 (6 * m + 2) x2 := ⟨_, rfl⟩
    obtain ⟨c4, e4⟩ : ∃ q, q = up2 c3 27 (6 * m + 3) x3 := ⟨_, rfl⟩
    obtain ⟨c5, e5⟩ : ∃ q, q = up2 c4 27 (6 * m + 4) x4 := ⟨_, rfl⟩
    obtain ⟨c6, e6⟩ : ∃ q, q = up2 c5 27 (6 * m + 5) x5 := ⟨_, rfl⟩
    have n1 : c1 43 = z 43 := by rw [e1]; exact up2_ne _ (by decide)
    have n2 : c2 43 = z 43 := by rw [e2, up2_ne _ (by decide)]; exact n1
    have n3 : c3 43 = z 43 := by rw [e3, up2_ne _ (by decide)]; exact n2
    have n4 : c4 43 = z 43 := by rw [e4, up2_ne _ (by decide)]; exact n3
    have n5 : c5 43 = z 43 := by rw [e5, up2_ne _ (by decide)]; exact n4
    have n6 : c6 43 = z 43 := by rw [e6, up2_ne _ (by decide)]; exact n5
    have r : ∀ u, u ≠ 27 → c6 u = z u := fun u hu => by rw [e6, up2_ne _ hu, e5, up2_ne _ hu, e4, up2_ne _ hu, e3, up2_ne _ hu, e2, up2_ne _ hu, e1, up2_ne _ hu]
    have v : ∀ i, c6 27 i = if i = 6 * m + 5 then x5 else if i = 6 * m + 4 then x4 else if i = 6 * m + 3 then x3 else if i = 6 * m + 2 then x2 else if i = 6 * m + 1 then x1 else if i = 6 * m then x0 else z 27 i := fun i => by
      rw [e6, up2_same, e5, up2_same, e4, up2_same, e3, up2_same, e2, up2_same, e1, up2_same]; rfl
    refine ⟨up2 c6 43 28 (nI (m + 1)), ?_, ⟨?_, ?_, ?_, ?_, ?_, ?_, h7⟩, fun u hu1 hu2 => ?_, fun k hk => ?_⟩
    · refine if_go (by rw [h3']; exact nI_neq (b := 60) (by omega) (by decide) (by omega)) <| wr_go (k := 6 * m) (by rw [h3']; exact hx0) (by omega) (by decide) ?_
      rw [← e1]
      refine wr_go (k := 6 * m + 1) (by rw [n1, h3']; exact hx 1) (by omega) (by decide) ?_
      rw [← e2]
      refine wr_go (k := 6 * m + 2) (by rw [n2, h3']; exact hx 2) (by omega) (by decide) ?_
      rw [← e3]
      refine wr_go (k := 6 * m + 3) (by rw [n3, h3']; exact hx 3) (by omega) (by decide) ?_
      rw [← e4]
      refine wr_go (k := 6 * m + 4) (by rw [n4, h3']; exact hx 4) (by omega) (by decide) ?_
      rw [← e5]
      refine wr_go (k := 6 * m + 5) (by rw [n5, h3']; exact hx 5) (by omega) (by decide) ?_
      rw [← e6]
      refine bd_go ?_
      rw [n6, h3', nI_1]
    · rw [up2_at, if_neg (by decide), n6]; exact h1
    · rw [up2_at, if_neg (by decide), n6]; exact h2
    · show up2 c6 43 28 (nI (m + 1)) 43 28 = nI ((G.2.2.1 ++ [x0, x1, x2, x3, x4, x5]).length / 6)
      rw [up2_at, if_pos ⟨rfl, rfl⟩, List.length_append, hm]
      show nI (m + 1) = nI ((6 * m + 6) / 6)
      congr 1; omega
    · show hold (up2 c6 43 28 (nI (m + 1)) 27) (G.2.2.1 ++ [x0, x1, x2, x3, x4, x5])
      rw [up2_ne _ (by decide), hold_app]
      refine ⟨hold_congr (fun j hj => ?_) h4, fun j hj => ?_⟩
      · rw [v, if_neg (by omega), if_neg (by omega), if_neg (by omega), if_neg (by omega), if_neg (by omega), if_neg (by omega)]
      · dsimp only
        rw [v, hm]
        have hj6 : j < 6 := hj
        rcases (show j = 0 ∨ j = 1 ∨ j = 2 ∨ j = 3 ∨ j = 4 ∨ j = 5 by omega) with rfl | rfl | rfl | rfl | rfl | rfl
        · rw [if_neg (by omega), if_neg (by omega), if_neg (by omega), if_neg (by omega), if_neg (by omega), if_pos (by omega)]; rfl
        · rw [if_neg (by omega), if_neg (by omega), if_neg (by omega), if_neg (by omega), if_pos (by omega)]; rfl
        · rw [if_neg (by omega), if_neg (by omega), if_neg (by omega), if_pos (by omega)]; rfl
        · rw [if_neg (by omega), if_neg (by omega), if_pos (by omega)]; rfl
        · rw [if_neg (by omega), if_pos (by omega)]; rfl
        · rw [if_pos (by omega)]; rfl
    · show (G.2.2.1 ++ [x0, x1, x2, x3, x4, x5]).length % 6 = 0
      rw [List.length_append]; simp; omega
    · show (G.2.2.1 ++ [x0, x1, x2, x3, x4, x5]).length ≤ 360
      rw [List.length_append]; simp; omega
    · rw [up2_ne _ hu2, r u hu1]
    · rw [up2_at, if_neg (by omega), n6]
  · rw [if_neg c]
    refine ⟨z, if_no (fun q => q ?_) rfl, h, fun _ _ _ => rfl, fun _ _ => rfl⟩
    rw [h3]
    show nI (G.2.2.1.length / 6) = nI 60
    congr 1; omega
theorem writes_ok {z : MS} {c m : Nat} (h22 : z 43 22 = nI c) (hc : c < 401) (hm : z 23 c = nI m) (h24 : z 43 24 = 0) (hm2 : m ≤ 10000) {n : Nat} (hn : n ≤ 10000) : F8_writes z (nI n) = some (up2 (up2 z 23 c (nI (m + n))) 43 24 (bI (decide (200 < m + n)))) := by
  have q22 : up2 z 23 c (nI (m + n)) 43 = z 43 := up2_ne _ (by decide)
  unfold F8_writes
  refine rd_go h22 hc (by decide) hm <| wr_go h22 hc (by decide) ?_
  rw [nI_add]
  refine jp_go <| jp_go <| if_no (fun q => q (by rw [q22]; exact h24)) <| rd_go (v := nI (m + n)) (by rw [q22]; exact h22) hc (by decide) (by rw [up2_at, if_pos ⟨rfl, rfl⟩]) ?_
  by_cases q : m + n ≤ 200
  · rw [decide_eq_false (by omega)]
    exact if_go (nI_le (b := 200) q (by decide)) <| bz_go (Or.inl rfl) <| bd_go rfl
  · rw [decide_eq_true (by omega)]
    exact if_no (nI_ge (a := 200) (by omega) (by omega)) <| bz_go (Or.inr rfl) <| bd_go rfl
theorem opens_ok {z : MS} {l c o e d : Nat} (h18 : z 43 18 = nI l) (hl : l + 1 < 14) (h22 : z 43 22 = nI c) (hc : c < 401) (ho : z 23 c = nI o) (h24 : z 43 24 = 0) (h25 : z 43 25 = nI e) (he : e ≤ 60) (h26 : z 43 26 = nI d) (hd : d ≤ 13) (k : Int32) :
    ∃ z', F8_opens z k = some z' ∧ (∀ u, u < 10 ∨ 15 < u → u ≠ 43 → z' u = z u) ∧ (∀ u j, 10 ≤ u → u ≤ 15 → j ≠ l + 1 → z' u j = z u j) ∧ z' 10 (l + 1) = k ∧ z' 11 (l + 1) = 0 ∧ z' 12 (l + 1) = 0 ∧ z' 15 (l + 1) = nI o ∧ z' 13 (l + 1) = 0 ∧ z' 14 (l + 1) = 0 ∧ z' 43 18 = nI (l + 1) ∧ z' 43 25 = nI (e + 1) ∧ z' 43 26 = nI (max d (l + 1)) ∧ z' 43 24 = bI (decide (60 < e + 1)) ∧ ∀ j, j ≠ 18 → j ≠ 24 → j ≠ 25 → j ≠ 26 → z' 43 j = z 43 j := by
  refine ⟨up2 (up2 (up2 (up2 (up2 (up2 (up2 (up2 (up2 (up2 z 43 18 (nI (l + 1))) 10 (l + 1) k) 11 (l + 1) 0) 12 (l + 1) 0) 15 (l + 1) (nI o)) 13 (l + 1) 0) 14 (l + 1) 0) 43 25 (nI (e + 1))) 43 26 (nI (max d (l + 1)))) 43 24 (bI (decide (60 < e + 1))), ?_, fun u q1 q2 => ?_, fun u j q1 q2 q3 => ?_, ?_, ?_, ?_, ?_, ?_, ?_, ?_, ?_, ?_, ?_, fun j q1 q2 q3 q4 => ?_⟩
  · have i0 : up2 z 43 18 (nI (l + 1)) 43 18 = nI (l + 1) := by rw [up2_at, if_pos ⟨rfl, rfl⟩]
    unfold F8_opens
    refine bd_go ?_
    rw [h18, nI_1]
    refine wr_go i0 hl (by decide) <| wr_go (k := l + 1) (by rw [up2_ne _ (by decide)]; exact i0) hl (by decide) <| wr_go (k := l + 1) (by rw [up2_ne _ (by decide), up2_ne _ (by decide)]; exact i0) hl (by decide) ?_
    refine rd_go (k := c) (v := nI o) (by rw [up2_ne _ (by decide), up2_ne _ (by decide), up2_ne _ (by decide), up2_at, if_neg (by decide)]; exact h22) hc (by decide) (by rw [up2_ne _ (by decide), up2_ne _ (by decide), up2_ne _ (by decide), up2_ne _ (by decide)]; exact ho) ?_
    refine wr_go (k := l + 1) (by rw [up2_ne _ (by decide), up2_ne _ (by decide), up2_ne _ (by decide)]; exact i0) hl (by decide) <| wr_go (k := l + 1) (by rw [up2_ne _ (by decide), up2_ne _ (by decide), up2_ne _ (by decide), up2_ne _ (by decide)]; exact i0) hl (by decide) <| wr_go (k := l + 1) (by rw [up2_ne _ (by decide), up2_ne _ (by decide), up2_ne _ (by decide), up2_ne _ (by decide), up2_ne _ (by decide)]; exact i0) hl (by decide) ?_
    obtain ⟨y, hy⟩ : ∃ q, q = up2 (up2 (up2 (up2 (up2 (up2 (up2 z 43 18 (nI (l + 1))) 10 (l + 1) k) 11 (l + 1) 0) 12 (l + 1) 0) 15 (l + 1) (nI o)) 13 (l + 1) 0) 14 (l + 1) 0 := ⟨_, rfl⟩
    rw [← hy]
    have y43 : ∀ j, j ≠ 18 → y 43 j = z 43 j := fun j hj => by
      rw [hy, up2_ne _ (by decide), up2_ne _ (by decide), up2_ne _ (by decide), up2_ne _ (by decide), up2_ne _ (by decide), up2_ne _ (by decide), up2_at, if_neg (fun q => hj q.2)]
    have y18 : y 43 18 = nI (l + 1) := by
      rw [hy, up2_ne _ (by decide), up2_ne _ (by decide), up2_ne _ (by decide), up2_ne _ (by decide), up2_ne _ (by decide), up2_ne _ (by decide)]; exact i0
    refine bd_go ?_
    rw [y43 25 (by decide), h25, nI_1]
    have w18 : up2 y 43 25 (nI (e + 1)) 43 18 = nI (l + 1) := by rw [up2_at, if_neg (by decide)]; exact y18
    have w26 : up2 y 43 25 (nI (e + 1)) 43 26 = nI d := by rw [up2_at, if_neg (by decide), y43 26 (by decide)]; exact h26
    have last : ∀ v : Int32, v = nI (max d (l + 1)) → (bd (up2 (up2 y 43 25 (nI (e + 1))) 43 26 v) fun z13 =>
        jp (fun (x18 : Int32) => bz x18 <|
        bd (up2 z13 43 24 x18) fun z19 =>
        some z19) fun k14 =>
        jp (fun (_ : Unit) => k14 1) fun k15 =>
        if ¬ (z13 43 24) = 0 then
        k15 ()
        else
        if (z13 43 25) ≤ 60 then
        k14 0
        else
        k15 ()) = some (up2 (up2 (up2 y 43 25 (nI (e + 1))) 43 26 (nI (max d (l + 1)))) 43 24 (bI (decide (60 < e + 1)))) := by
      rintro v rfl
      have w24 : up2 (up2 y 43 25 (nI (e + 1))) 43 26 (nI (max d (l + 1))) 43 24 = 0 := by rw [up2_at, if_neg (by decide), up2_at, if_neg (by decide), y43 24 (by decide)]; exact h24
      have w25 : up2 (up2 y 43 25 (nI (e + 1))) 43 26 (nI (max d (l + 1))) 43 25 = nI (e + 1) := by rw [up2_at, if_neg (by decide), up2_at, if_pos ⟨rfl, rfl⟩]
      refine bd_go <| jp_go <| jp_go <| if_no (fun q => q w24) ?_
      rw [w25]
      by_cases q : e + 1 ≤ 60
      · rw [decide_eq_false (by omega)]
        exact if_go (nI_le (b := 60) q (by decide)) <| bz_go (Or.inl rfl) <| bd_go rfl
      · rw [decide_eq_true (by omega)]
        exact if_no (nI_ge (a := 60) (by omega) (by omega)) <| bz_go (Or.inr rfl) <| bd_go rfl
    refine jp_go ?_
    rw [w18, w26]
    by_cases q : l + 1 ≤ d
    · exact if_go (nI_le q (by omega)) (last _ (by congr 1; omega))
    · exact if_no (nI_ge (by omega) (by omega)) (last _ (by congr 1; omega))
  · rw [up2_ne _ q2, up2_ne _ q2, up2_ne _ q2, up2_ne _ (by omega), up2_ne _ (by omega), up2_ne _ (by omega), up2_ne _ (by omega), up2_ne _ (by omega), up2_ne _ (by omega), up2_ne _ q2]
  · rw [up2_at, if_neg (by omega), up2_at, if_neg (by omega), up2_at, if_neg (by omega), up2_at, if_neg (by omega), up2_at, if_neg (by omega), up2_at, if_neg (by omega), up2_at, if_neg (by omega), up2_at, if_neg (by omega), up2_at, if_neg (by omega), up2_at, if_neg (by omega)]
  · repeat rw [up2_ne _ (by decide)]
    rw [up2_at, if_pos ⟨rfl, rfl⟩]
  · repeat rw [up2_ne _ (by decide)]
    rw [up2_at, if_pos ⟨rfl, rfl⟩]
  · repeat rw [up2_ne _ (by decide)]
    rw [up2_at, if_pos ⟨rfl, rfl⟩]
  · repeat rw [up2_ne _ (by decide)]
    rw [up2_at, if_pos ⟨rfl, rfl⟩]
  · repeat rw [up2_ne _ (by decide)]
    rw [up2_at, if_pos ⟨rfl, rfl⟩]
  · repeat rw [up2_ne _ (by decide)]
    rw [up2_at, if_pos ⟨rfl, rfl⟩]
  · rw [up2_at, if_neg (by decide), up2_at, if_neg (by decide), up2_at, if_neg (by decide)]
    repeat rw [up2_ne _ (by decide)]
    rw [up2_at, if_pos ⟨rfl, rfl⟩]
  · rw [up2_at, if_neg (by decide), up2_at, if_neg (by decide), up2_at, if_pos ⟨rfl, rfl⟩]
  · rw [up2_at, if_neg (by decide), up2_at, if_pos ⟨rfl, rfl⟩]
  · rw [up2_at, if_pos ⟨rfl, rfl⟩]
  · rw [up2_at, if_neg (by omega), up2_at, if_neg (by omega), up2_at, if_neg (by omega)]
    repeat rw [up2_ne _ (by decide)]
    rw [up2_at, if_neg (by omega)]
/-- who is open -/
def OpZ (z : MS) : List Nat → Prop
  | [] => True
  | k :: O => z 10 (O.length + 1) = nI k ∧ k < 26 ∧ OpZ z O
theorem OpZ.keep {z z' : MS} {O : List Nat} (h : OpZ z O) (g : ∀ j, j ≤ O.length → z' 10 j = z 10 j) : OpZ z' O := by
  induction O with
  | nil => trivial
  | cons k O ih =>
    rw [List.length_cons] at g
    exact ⟨(g _ (Nat.le_refl _)).trans h.1, h.2.1, ih h.2.2 (fun j hj => g j (by omega))⟩
theorem OpZ.mem {z : MS} {O : List Nat} (h : OpZ z O) {k : Nat} (hk : k < 26) : k ∈ O ↔ ∃ j, 1 ≤ j ∧ j ≤ O.length ∧ z 10 j = nI k := by
  induction O with
  | nil => exact ⟨fun q => absurd q (by simp), fun ⟨j, h1, h2, _⟩ => absurd h2 (by simp; omega)⟩
  | cons x O ih =>
    obtain ⟨h1, h2, h3⟩ := h
    rw [List.mem_cons, ih h3, List.length_cons]
    constructor
    · rintro (rfl | ⟨j, q1, q2, q3⟩)
      · exact ⟨O.length + 1, by omega, Nat.le_refl _, h1⟩
      · exact ⟨j, q1, by omega, q3⟩
    · rintro ⟨j, q1, q2, q3⟩
      by_cases c : j = O.length + 1
      · rw [c, h1, nI_eq (by omega) (by omega)] at q3
        exact Or.inl q3.symm
      · exact Or.inr ⟨j, q1, by omega, q3⟩
theorem isOpen_ok {z : MS} {O : List Nat} (h18 : z 43 18 = nI O.length) (hO : O.length ≤ 12) (h : OpZ z O) {k : Nat} (hk : k < 26) : F8_isOpen z (nI k) = some (bI (decide (k ∈ O))) := by
  unfold F8_isOpen
  have main := Loop_inv (f := fun (q : Int32 × Int32) => (fun (x1 : Int32) (x2 : Int32) =>
    if (z 43 18) < x2 then
    bz x1 (some (.inr x1))
    else
    jp (fun (x9 : Int32) => bd (x2 + 1) fun x10 =>
    (some (.inl (x9, x10)) : Option ((Int32 × Int32) ⊕ Int32))) fun k4 =>
    jp (fun (_ : Unit) => k4 1) fun k5 =>
    if ¬ x1 = 0 then
    k5 ()
    else
    rd (z 10) 14 x2 fun x7 =>
    if ¬ x7 = (nI k) then
    k4 0
    else
    k5 ()) q.1 q.2) (fun j q => q.2 = nI (j + 1) ∧ ∃ p : Bool, q.1 = bI p ∧ (p = true ↔ ∃ i, 1 ≤ i ∧ i ≤ j ∧ z 10 i = nI k)) O.length (fun r => r = bI (decide (k ∈ O))) ?_ ?_ (0, 1) ⟨rfl, false, rfl, ⟨fun q => (by cases q), fun ⟨i, q1, q2, _⟩ => absurd q2 (by omega)⟩⟩
  · obtain ⟨r, h1, h2⟩ := main
    rw [← h2]; exact h1
  · rintro j ⟨x1, x2⟩ hj ⟨rfl, p, rfl, hp⟩
    cases p with
    | true =>
      refine ⟨(bI true, nI (j + 1 + 1)), ?_, rfl, true, rfl, ⟨fun _ => ?_, fun _ => rfl⟩⟩
      · refine if_no (by rw [h18]; exact nI_nlt (by omega) (by omega)) <| jp_go <| jp_go <| if_go (show ¬ bI true = 0 by decide) <| bd_go ?_
        rw [nI_1]; rfl
      · obtain ⟨i, q1, q2, q3⟩ := hp.mp rfl
        exact ⟨i, q1, by omega, q3⟩
    | false =>
      by_cases c : z 10 (j + 1) = nI k
      · refine ⟨(bI true, nI (j + 1 + 1)), ?_, rfl, true, rfl, ⟨fun _ => ⟨j + 1, by omega, Nat.le_refl _, c⟩, fun _ => rfl⟩⟩
        refine if_no (by rw [h18]; exact nI_nlt (by omega) (by omega)) <| jp_go <| jp_go <| if_no (fun q => q rfl) <| rd_go rfl (by omega) (by decide) c <| if_no (fun q => q rfl) <| bd_go ?_
        rw [nI_1]; rfl
      · refine ⟨(bI false, nI (j + 1 + 1)), ?_, rfl, false, rfl, ⟨fun q => (by cases q), fun ⟨i, q1, q2, q3⟩ => ?_⟩⟩
        · refine if_no (by rw [h18]; exact nI_nlt (by omega) (by omega)) <| jp_go <| jp_go <| if_no (fun q => q rfl) <| rd_go rfl (by omega) (by decide) rfl <| if_go c <| bd_go ?_
          rw [nI_1]; rfl
        · by_cases e : i = j + 1
          · rw [e] at q3; exact absurd q3 c
          · exact hp.mpr ⟨i, q1, by omega, q3⟩
  · rintro ⟨x1, x2⟩ ⟨rfl, p, rfl, hp⟩
    have : p = decide (k ∈ O) := by
      rw [Bool.eq_iff_iff, hp, decide_eq_true_iff, h.mem hk]
    refine ⟨bI p, if_go (by rw [h18]; exact nI_lt (by omega) (by omega)) bzb, by rw [this]⟩
