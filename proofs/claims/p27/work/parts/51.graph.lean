/-! PURE: who calls whom, in both worlds -/
theorem ex_go {ρ : Type} {Q : ρ → Prop} {x y : Option ρ} (h : x = y) (g : ∃ r, y = some r ∧ Q r) : ∃ r, x = some r ∧ Q r := by rw [h]; exact g
theorem ex_fo {ρ : Type} {Q : ρ → Prop} {x : Option ρ} {r : ρ} (h : x = some r) (g : Q r) : ∃ r, x = some r ∧ Q r := ⟨r, h, g⟩
def gs (D : Nat → Option Tx) (k : Nat) : Int32 := if k < 26 then (match D k with | none => 0 | some t => cld t) else 0
theorem gs_none {D : Nat → Option Tx} {k : Nat} (h : D k = none) : gs D k = 0 := by unfold gs; rw [h]; split <;> rfl
theorem gs_some {D : Nat → Option Tx} {k : Nat} {t : Tx} (hk : k < 26) (h : D k = some t) : gs D k = cld t := by unfold gs; rw [if_pos hk, h]
theorem tb_gs {D : Nat → Option Tx} {k j : Nat} (h : tb (gs D k) j = true) : k < 26 ∧ (D k).isSome = true ∧ j < 26 := by
  by_cases hk : k < 26
  · cases e : D k with
    | none => rw [gs_none e, tb_0] at h; cases h
    | some t =>
      rw [gs_some hk e] at h
      refine ⟨hk, rfl, ?_⟩
      rcases Nat.lt_or_ge j 26 with q | q
      · exact q
      · rw [tb_cld t q] at h; cases h
  · unfold gs at h; rw [if_neg hk, tb_0] at h; cases h
theorem setI_row_at (b : BS) (i k : Nat) (v : Int32) (l : Nat) : (setI b i k v).1 i l = if l = k then v else b.1 i l := by
  rw [setI_own]; rfl
def TkB (b b' : BS) (D : Nat → Option Tx) : Prop := b'.2 = b.2 ∧ (∀ u, u ≠ 54 → u ≠ 55 → b'.1 u = b.1 u) ∧ (∀ k, k < 26 → b'.1 55 k = gs D k) ∧ b'.1 54 2 = nI (mkN D 26)
theorem F0_takeFrom_eq {b : BS} {a : AS} (hS : SBb b 70 a) : ∃ b', F0_takeFrom b 70 = some b' ∧ TkB b b' a.1 := by
  unfold F0_takeFrom
  refine ex_go (ck_go hS.1 <| bn_go (F5_definedSet_eq hS) <| bd_go rfl) (Loop_inv (fun j q => q.1 = nI j ∧ q.2.2 = b.2 ∧ (∀ u, u ≠ 54 → u ≠ 55 → q.2.1 u = b.1 u) ∧ (∀ k, k < j → q.2.1 55 k = gs a.1 k) ∧ q.2.1 54 2 = nI (mkN a.1 26)) 26 _ ?_ ?_ _ ?_)
  · rintro j ⟨x, c⟩ hj ⟨rfl, h2, h3, h4, h5⟩
    dsimp only at h2 h3 h4 h5
    have hSc : SBb c 70 a := by
      refine hS.ext ⟨fun i hi => by rw [h2]; exact hi, fun u hu _ => ⟨h3 u (by omega) (by omega), by rw [h2]⟩⟩ (h3 70 (by decide) (by decide)) (by rw [h2]) (by rw [h2])
    have last : ∀ v, v = gs a.1 j → ∃ s', (wb c 55 26 (nI j) v fun b43 => bd (nI j + 1) fun x46 => (some (Sum.inl (x46, b43)) : Option ((Int32 × BS) ⊕ BS))) = some (Sum.inl s') ∧ s'.1 = nI (j + 1) ∧ s'.2.2 = b.2 ∧ (∀ u, u ≠ 54 → u ≠ 55 → s'.2.1 u = b.1 u) ∧ (∀ k, k < j + 1 → s'.2.1 55 k = gs a.1 k) ∧ s'.2.1 54 2 = nI (mkN a.1 26) := by
      rintro v rfl
      refine ⟨(nI (j + 1), setI c 55 j (gs a.1 j)), ?_, rfl, h2, fun u hu1 hu2 => ?_, fun k hk => ?_, ?_⟩
      · refine wb_go rfl hj (by decide) <| bd_go ?_
        rw [nI_1]
      · dsimp only; rw [setI_other _ hu2]; exact h3 u hu1 hu2
      · dsimp only
        rw [setI_row_at]
        by_cases q : k = j
        · rw [if_pos q, q]
        · rw [if_neg q]; exact h4 k (by omega)
      · dsimp only; rw [setI_other _ (by decide)]; exact h5
    have dk := hSc.2.1 j hj
    cases e : a.1 j with
    | none =>
      rw [e] at dk
      obtain ⟨s', q1, q2⟩ := last 0 (gs_none e).symm
      exact ⟨s', if_no (nI_ge (b := 26) hj (by decide)) <| ck_go hSc.1 <| bn_go (F5_definitionOf_eq hSc.1 hj) <| jp_go <| on_no dk q1, q2⟩
    | some t =>
      rw [e] at dk
      obtain ⟨y, y1, y2⟩ := dk
      obtain ⟨s', q1, q2⟩ := last (c.1 y 6) (by rw [gs_some hj e]; exact y2.2.2.2.2.2.2.2.2)
      exact ⟨s', if_no (nI_ge (b := 26) hj (by decide)) <| ck_go hSc.1 <| bn_go (F5_definitionOf_eq hSc.1 hj) <| jp_go <| on_so y1 <| ck_go y2.1 q1, q2⟩
  · rintro ⟨x, c⟩ ⟨rfl, h2, h3, h4, h5⟩
    exact ⟨c, if_go (show (26 : Int32) ≤ nI 26 by decide) rfl, h2, h3, h4, h5⟩
  · refine ⟨rfl, rfl, fun u hu _ => setI_other _ hu, fun k hk => absurd hk (by omega), setI_at _ _ _ _⟩
theorem TkB.sm {b b' : BS} {D : Nat → Option Tx} (h : TkB b b' D) : SmB b b' := ⟨h.1, fun j hj => h.2.1 j (by omega) (by omega)⟩
/-- the reference's sets -/
def TkZ (z z' : MS) (D : Nat → Option Tx) : Prop := (∀ u, u ≠ 40 → z' u = z u) ∧ ∀ k, k < 26 → z' 40 k = gs D k
theorem TkZ.sm {z z' : MS} {D : Nat → Option Tx} (h : TkZ z z' D) : SmZ z z' := ⟨h.1 _ (by decide), h.1 _ (by decide), h.1 _ (by decide), h.1 _ (by decide), h.1 _ (by decide), by rw [h.1 43 (by decide)], by rw [h.1 43 (by decide)]⟩
theorem F8_laysSets_eq {z : MS} {a : AS} (hZ : ZS (z 0) a) (hW : WA a) : ∃ z', F8_laysSets z = some z' ∧ TkZ z z' a.1 := by
  unfold F8_laysSets
  refine Loop_inv (fun j q => q.1 = nI j ∧ (∀ u, u ≠ 40 → q.2 u = z u) ∧ ∀ k, k < j → q.2 40 k = gs a.1 k) 26 _ ?_ ?_ _ ?_
  · rintro j ⟨x, c⟩ hj ⟨rfl, h2, h3⟩
    dsimp only at h2 h3
    have hZc : ZS (c 0) a := by rw [h2 0 (by decide)]; exact hZ
    have hc : F8_called c (nI j) = some (gs a.1 j) := by
      cases e : a.1 j with
      | none => rw [gs_none e]; exact F8_called_none hj (Z_none hZc hj e)
      | some t => rw [gs_some hj e]; exact F8_called_eq hj (hZc.src hW hj e)
    refine ⟨(nI (j + 1), up2 c 40 j (gs a.1 j)), ?_, rfl, fun u hu => ?_, fun k hk => ?_⟩
    · refine if_no (nI_ge (b := 26) hj (by decide)) <| bn_go hc <| wr_go rfl hj (by decide) <| bd_go ?_
      rw [nI_1]
    · dsimp only; rw [up2_ne _ hu]; exact h2 u hu
    · dsimp only
      rw [up2_at]
      by_cases q : k = j
      · rw [if_pos ⟨rfl, q⟩, q]
      · rw [if_neg (fun w => q w.2)]; exact h3 k (by omega)
  · rintro ⟨x, c⟩ ⟨rfl, h2, h3⟩
    exact ⟨c, if_go (show (26 : Int32) ≤ nI 26 by decide) rfl, h2, h3⟩
  · exact ⟨rfl, fun _ _ => rfl, fun k hk => absurd hk (by omega)⟩
/-- reached by one call or more -/
def Rch (G : Nat → Int32) (i j : Nat) : Prop := ∀ S : Nat → Prop, (∀ m, tb (G i) m = true → S m) → (∀ k m, S k → tb (G k) m = true → S m) → S j
theorem Rch.one {G : Nat → Int32} {i j : Nat} (h : tb (G i) j = true) : Rch G i j := fun _ h1 _ => h1 j h
theorem Rch.snoc {G : Nat → Int32} {i k j : Nat} (h : Rch G i k) (g : tb (G k) j = true) : Rch G i j := fun S h1 h2 => h2 k j (h S h1 h2) g
theorem Rch.tr {G : Nat → Int32} {i k j : Nat} (h : Rch G i k) (g : Rch G k j) : Rch G i j := fun S h1 h2 => g S (fun m hm => h2 k m (h S h1 h2) hm) h2
theorem Rch.lt {D : Nat → Option Tx} {i j : Nat} (h : Rch (gs D) i j) : j < 26 := h (fun j => j < 26) (fun _ hm => (tb_gs hm).2.2) (fun _ _ _ hm => (tb_gs hm).2.2)
theorem Rch.def {D : Nat → Option Tx} {i j : Nat} (h : Rch (gs D) i j) : i < 26 ∧ (D i).isSome = true := h (fun _ => i < 26 ∧ (D i).isSome = true) (fun _ hm => ⟨(tb_gs hm).1, (tb_gs hm).2.1⟩) (fun _ _ h _ => h)
def cntB (x : Int32) : Nat → Nat
  | 0 => 0
  | n + 1 => cntB x n + (if tb x n = true then 1 else 0)
theorem cntB_le (x : Int32) (n : Nat) : cntB x n ≤ n := by
  induction n with
  | zero => exact Nat.le_refl _
  | succ n ih => show cntB x n + _ ≤ n + 1; split <;> omega
theorem cntB_mono {x y : Int32} (h : ∀ j, tb x j = true → tb y j = true) (n : Nat) : cntB x n ≤ cntB y n := by
  induction n with
  | zero => exact Nat.le_refl _
  | succ n ih =>
    show cntB x n + _ ≤ cntB y n + _
    by_cases c : tb x n = true
    · rw [if_pos c, if_pos (h n c)]; omega
    · rw [if_neg c]; omega
theorem cntB_lt {x y : Int32} (h : ∀ j, tb x j = true → tb y j = true) {k n : Nat} (hk : k < n) (hx : tb x k = false) (hy : tb y k = true) : cntB x n < cntB y n := by
  induction n with
  | zero => omega
  | succ n ih =>
    show cntB x n + _ < cntB y n + _
    by_cases c : k = n
    · subst c
      have := cntB_mono h k
      rw [if_neg (by rw [hx]; decide), if_pos hy]; omega
    · have := ih (by omega)
      by_cases d : tb x n = true
      · rw [if_pos d, if_pos (h n d)]; omega
      · rw [if_neg d]; omega
/-- one pass of the reference -/
def pss (G : Nat → Int32) (x : Int32) : Nat → Int32
  | 0 => x
  | n + 1 => if tb (pss G x n) n = true then pss G x n ||| G n else pss G x n
theorem pss_le (G : Nat → Int32) (x : Int32) {m n : Nat} (h : m ≤ n) (j : Nat) (hj : tb (pss G x m) j = true) : tb (pss G x n) j = true := by
  induction n with
  | zero => have : m = 0 := by omega
            subst this; exact hj
  | succ n ih =>
    by_cases c : m = n + 1
    · subst c; exact hj
    · have q := ih (by omega)
      show tb (if _ then _ else _) j = true
      split
      · rw [tb_or, q]; rfl
      · exact q
theorem F8_reached_eq {z : MS} {D : Nat → Option Tx} (h40 : ∀ k, k < 26 → z 40 k = gs D k) {i : Nat} (hi : i < 26) : ∃ r, F8_reached z (nI i) = some r ∧ ∀ j, tb r j = true ↔ Rch (gs D) i j := by
  have inner : ∀ x : Int32, Loop (fun (q : Int32 × Int32) => (fun (x5 : Int32) (x6 : Int32) =>
      if 26 ≤ x6 then
      some (.inr (Sum.inl (x5, x)))
      else
      jp (fun (x11 : Int32) => bd (x5 ||| x11) fun x12 =>
      bd (x6 + 1) fun x13 =>
      some (.inl (x12, x13))) fun k8 =>
      if ¬ ((x5 >>> (x6 &&& 31)) &&& 1) = 1 then
      k8 0
      else
      rd (z 40) 26 x6 fun x10 =>
      k8 x10) q.1 q.2) (x, 0) = some ((Sum.inl (pss (gs D) x 26, x) : (Int32 × Int32) ⊕ Int32)) := by
    intro x
    have e0 : (x, (0 : Int32)) = (fun j => (pss (gs D) x j, nI j)) 0 := rfl
    rw [e0]
    refine Loop_seq (fun j => (pss (gs D) x j, nI j)) 26 (fun j hj => ?_) ?_
    · refine if_no (nI_ge (b := 26) hj (by decide)) <| jp_go ?_
      by_cases c : tb (pss (gs D) x j) j = true
      · refine if_no (fun q => q ((tb_ref hj).mpr c)) <| rd_go rfl hj (by decide) (h40 j hj) <| bd_go <| bd_go ?_
        show _ = some (Sum.inl (if tb (pss (gs D) x j) j = true then _ else _, nI (j + 1)))
        rw [if_pos c, nI_1]
      · refine if_go (fun q => c ((tb_ref hj).mp q)) <| bd_go <| bd_go ?_
        show _ = some (Sum.inl (if tb (pss (gs D) x j) j = true then _ else _, nI (j + 1)))
        rw [if_neg c, nI_1, Int32.or_zero]
    · exact if_go (show (26 : Int32) ≤ nI 26 by decide) rfl
  have grow : ∀ x j, tb x j = true → tb (pss (gs D) x 26) j = true := fun x j h => pss_le (gs D) x (Nat.zero_le 26) j h
  have sound : ∀ x, (∀ j, tb x j = true → Rch (gs D) i j) → ∀ n, n ≤ 26 → ∀ j, tb (pss (gs D) x n) j = true → Rch (gs D) i j := by
    intro x hx n
    induction n with
    | zero => exact fun _ j h => hx j h
    | succ n ih =>
      intro hn j h
      have h' : tb (if tb (pss (gs D) x n) n = true then pss (gs D) x n ||| gs D n else pss (gs D) x n) j = true := h
      by_cases c : tb (pss (gs D) x n) n = true
      · rw [if_pos c, tb_or, Bool.or_eq_true] at h'
        rcases h' with h' | h'
        · exact ih (by omega) j h'
        · exact (ih (by omega) n c).snoc h'
      · rw [if_neg c] at h'; exact ih (by omega) j h'
  have full : ∀ x j k, tb x k = true → tb (gs D k) j = true → tb (pss (gs D) x 26) j = true := by
    intro x j k hk hj
    have k26 := (tb_gs hj).1
    refine pss_le (gs D) x (show k + 1 ≤ 26 by omega) j ?_
    show tb (if tb (pss (gs D) x k) k = true then pss (gs D) x k ||| gs D k else pss (gs D) x k) j = true
    rw [if_pos (pss_le (gs D) x (Nat.zero_le k) k hk), tb_or, hj, Bool.or_true]
  have fin : ∀ x, (∀ j, tb x j = true → Rch (gs D) i j) → (∀ j, tb (gs D i) j = true → tb x j = true) → pss (gs D) x 26 = x → ∀ j, tb x j = true ↔ Rch (gs D) i j := by
    intro x h1 h2 h3 j
    refine ⟨h1 j, fun h => h (fun m => tb x m = true) h2 (fun k m hk hm => ?_)⟩
    have := full x m k hk hm
    rw [h3] at this; exact this
  unfold F8_reached
  refine ex_go (rd_go rfl hi (by decide) (h40 i hi) rfl) (Loop_tot (fun q => (∀ j, tb q.1 j = true → Rch (gs D) i j) ∧ (∀ j, tb (gs D i) j = true → tb q.1 j = true) ∧ ((q.2 = 0 ∧ q.1 = gs D i) ∨ q.1 = pss (gs D) q.2 26)) (fun q => 26 - cntB q.2 26) _ ?_ _ ?_)
  · rintro ⟨x, y⟩ ⟨h1, h2, h3⟩
    dsimp only at h1 h2 h3
    by_cases c : x = y
    · right
      refine ⟨x, if_go c rfl, ?_⟩
      rcases h3 with ⟨rfl, h3⟩ | h3
      · refine fin x h1 h2 ?_
        rw [c]
        apply tb_ext
        intro j
        rw [tb_0]
        cases q : tb (pss (gs D) 0 26) j with
        | false => rfl
        | true =>
          have := sound x h1 26 (Nat.le_refl _) j (by rw [c]; exact q)
          have q2 : ∀ m, tb (gs D i) m = true → False := fun m hm => by have := h2 m hm; rw [c, tb_0] at this; cases this
          exact (this (fun _ => False) (fun m hm => q2 m hm) (fun _ _ h _ => h)).elim
      · refine fin x h1 h2 ?_
        rw [← c] at h3; exact h3.symm
    · left
      refine ⟨(pss (gs D) x 26, x), ?_, ⟨fun j hj => sound x h1 26 (Nat.le_refl _) j hj, fun j hj => grow x j (h2 j hj), Or.inr rfl⟩, ?_⟩
      · refine if_no c ?_
        exact inner x
      · dsimp only
        have sub : ∀ j, tb y j = true → tb x j = true := by
          intro j hj
          rcases h3 with ⟨rfl, h3⟩ | h3
          · rw [tb_0] at hj; cases hj
          · rw [h3]; exact grow y j hj
        obtain ⟨k, q1, q2⟩ : ∃ k, tb y k = false ∧ tb x k = true := by
          refine Classical.byContradiction fun hn => c (tb_ext fun j => ?_)
          cases e1 : tb x j with
          | false =>
            cases e2 : tb y j with
            | false => rfl
            | true => rw [sub j e2] at e1; cases e1
          | true =>
            cases e2 : tb y j with
            | true => rfl
            | false => exact absurd ⟨j, e2, e1⟩ hn
        have := cntB_lt (n := 26) sub (h1 k q2).lt q1 q2
        have := cntB_le x 26
        omega
  · exact ⟨fun j hj => Rch.one hj, fun j hj => hj, Or.inl ⟨rfl, rfl⟩⟩
/-- the class: Warshall -/
theorem F0_followCalls_eq {b : BS} {D : Nat → Option Tx} (h55 : ∀ k, k < 26 → b.1 55 k = gs D k) : ∃ b', F0_followCalls b = some b' ∧ b'.2 = b.2 ∧ (∀ u, u ≠ 56 → b'.1 u = b.1 u) ∧ ∀ k, k < 26 → ∀ j, tb (b'.1 56 k) j = true ↔ Rch (gs D) k j := by
  -- one pass through all 'from' for one 'via'
  have inner : ∀ (v : Nat) (c : BS), v < 26 → c.2 = b.2 → (∀ u, u ≠ 56 → c.1 u = b.1 u) → ∃ c', Loop (fun (q : Int32 × BS) => (fun (x25 : Int32) (b26 : BS) =>
      if (26 : Int32) ≤ x25 then
      bd (nI v + 1) fun x34 =>
      some (.inr (Sum.inl (x34, b26)))
      else
      rd (b26.1 56) 26 x25 fun x38 =>
      bn (F0_holds x38 (nI v)) fun x40 =>
      jp (fun (b55 : BS) => bd (x25 + 1) fun x60 =>
      some (.inl (x60, b55))) fun k43 =>
      if x40 = 0 then
      k43 b26
      else
      rd (b26.1 56) 26 x25 fun x48 =>
      rd (b26.1 56) 26 (nI v) fun x50 =>
      wb b26 56 26 x25 (x48 ||| x50) fun b52 =>
      k43 b52) q.1 q.2) (0, c) = some ((Sum.inl (nI (v + 1), c') : (Int32 × BS) ⊕ ((Int32 × BS) ⊕ BS))) ∧ c'.2 = b.2 ∧ (∀ u, u ≠ 56 → c'.1 u = b.1 u) ∧ ∀ f, f < 26 → ∀ j, tb (c'.1 56 f) j = (tb (c.1 56 f) j || (tb (c.1 56 f) v && tb (c.1 56 v) j)) := by
    intro v c hv hc2 hcu
    have key := Loop_inv (f := (fun (q : Int32 × BS) => (fun (x25 : Int32) (b26 : BS) =>
      if (26 : Int32) ≤ x25 then
      bd (nI v + 1) fun x34 =>
      some (.inr (Sum.inl (x34, b26)))
      else
      rd (b26.1 56) 26 x25 fun x38 =>
      bn (F0_holds x38 (nI v)) fun x40 =>
      jp (fun (b55 : BS) => bd (x25 + 1) fun x60 =>
      some (.inl (x60, b55))) fun k43 =>
      if x40 = 0 then
      k43 b26
      else
      rd (b26.1 56) 26 x25 fun x48 =>
      rd (b26.1 56) 26 (nI v) fun x50 =>
      wb b26 56 26 x25 (x48 ||| x50) fun b52 =>
      k43 b52) q.1 q.2)) (fun j q => q.1 = nI j ∧ q.2.2 = b.2 ∧ (∀ u, u ≠ 56 → q.2.1 u = b.1 u) ∧ (∀ f, f < 26 → ∀ i, tb (q.2.1 56 f) i = (tb (c.1 56 f) i || (decide (f < j) && (tb (c.1 56 f) v && tb (c.1 56 v) i))))) 26 (fun r => ∃ c', r = (Sum.inl (nI (v + 1), c') : (Int32 × BS) ⊕ ((Int32 × BS) ⊕ BS)) ∧ c'.2 = b.2 ∧ (∀ u, u ≠ 56 → c'.1 u = b.1 u) ∧ ∀ f, f < 26 → ∀ j, tb (c'.1 56 f) j = (tb (c.1 56 f) j || (tb (c.1 56 f) v && tb (c.1 56 v) j))) ?_ ?_ (0, c) ?_
    · obtain ⟨r, hr, c', rfl, h⟩ := key
      exact ⟨c', hr, h⟩
    · rintro j ⟨x, d⟩ hj ⟨rfl, h2, h3, h4⟩
      dsimp only at h2 h3 h4
      have hvv : ∀ i, tb (d.1 56 v) i = tb (c.1 56 v) i := fun i => by
        rw [h4 v hv i]
        cases tb (c.1 56 v) i <;> cases tb (c.1 56 v) v <;> cases decide (v < j) <;> rfl
      have hjj : ∀ i, tb (d.1 56 j) i = tb (c.1 56 j) i := fun i => by
        rw [h4 j hj i, decide_eq_false (by omega), Bool.false_and, Bool.or_false]
      cases e : tb (d.1 56 j) v with
      | false =>
        refine ⟨(nI (j + 1), d), ?_, rfl, h2, h3, fun f hf i => ?_⟩
        · refine if_no (nI_ge (b := 26) hj (by decide)) <| rd_go rfl hj (by decide) rfl <| bn_go (F0_holds_eq hv) <| jp_go <| if_go (by rw [e]; rfl) <| bd_go ?_
          rw [nI_1]
        · dsimp only
          rw [h4 f hf i]
          by_cases q : f = j
          · subst q
            rw [hjj] at e
            rw [e, Bool.false_and, Bool.and_false, Bool.and_false]
          · congr 2
            by_cases w : f < j
            · rw [decide_eq_true w, decide_eq_true (by omega)]
            · rw [decide_eq_false w, decide_eq_false (by omega)]
      | true =>
        refine ⟨(nI (j + 1), setI d 56 j (d.1 56 j ||| d.1 56 v)), ?_, rfl, h2, fun u hu => ?_, fun f hf i => ?_⟩
        · refine if_no (nI_ge (b := 26) hj (by decide)) <| rd_go rfl hj (by decide) rfl <| bn_go (F0_holds_eq hv) <| jp_go <| if_no (by rw [e]; decide) <| rd_go rfl hj (by decide) rfl <| rd_go rfl hv (by decide) rfl <| wb_go rfl hj (by decide) <| bd_go ?_
          rw [nI_1]
        · dsimp only; rw [setI_other _ hu]; exact h3 u hu
        · dsimp only
          rw [setI_row_at]
          by_cases q : f = j
          · subst q
            rw [hjj] at e
            rw [if_pos rfl, tb_or, hjj, hvv, e, decide_eq_true (by omega), Bool.true_and, Bool.true_and]
          · rw [if_neg q, h4 f hf i]
            congr 2
            by_cases w : f < j
            · rw [decide_eq_true w, decide_eq_true (by omega)]
            · rw [decide_eq_false w, decide_eq_false (by omega)]
    · rintro ⟨x, d⟩ ⟨rfl, h2, h3, h4⟩
      refine ⟨_, if_go (show (26 : Int32) ≤ nI 26 by decide) <| bd_go rfl, d, by rw [nI_1], h2, h3, fun f hf j => ?_⟩
      have := h4 f hf j
      dsimp only at this
      rw [this, decide_eq_true hf, Bool.true_and]
    · exact ⟨rfl, hc2, hcu, fun f hf i => by rw [decide_eq_false (by omega), Bool.false_and, Bool.or_false]⟩
  unfold F0_followCalls
  refine Loop_inv (fun j q => q.1 = nI j ∧ q.2.2 = b.2 ∧ (∀ u, u ≠ 56 → q.2.1 u = b.1 u) ∧ ∀ k, k < j → q.2.1 56 k = gs D k) 26 _ ?_ ?_ _ ?_
  · rintro j ⟨x, c⟩ hj ⟨rfl, h2, h3, h4⟩
    dsimp only at h2 h3 h4
    refine ⟨(nI (j + 1), setI c 56 j (gs D j)), ?_, rfl, h2, fun u hu => ?_, fun k hk => ?_⟩
    · refine if_no (nI_ge (b := 26) hj (by decide)) <| rd_go (v := gs D j) rfl hj (by decide) (by dsimp only; rw [h3 55 (by decide)]; exact h55 j hj) <| wb_go rfl hj (by decide) <| bd_go ?_
      rw [nI_1]
    · dsimp only; rw [setI_other _ hu]; exact h3 u hu
    · dsimp only
      rw [setI_row_at]
      by_cases q : k = j
      · rw [if_pos q, q]
      · rw [if_neg q]; exact h4 k (by omega)
  · rintro ⟨x, c⟩ ⟨rfl, h2, h3, h4⟩
    dsimp only at h2 h3 h4
    have key := Loop_inv (f := (fun (q : Int32 × BS) => (fun (x14 : Int32) (b15 : BS) =>
  if (26 : Int32) ≤ x14 then
  some (.inr (Sum.inr b15))
  else
  Loop (fun (q : Int32 × BS) => (fun (x25 : Int32) (b26 : BS) =>
  if (26 : Int32) ≤ x25 then
  bd (x14 + 1) fun x34 =>
  some (.inr (.inl (x34, b26)))
  else
  rd (b26.1 56) 26 x25 fun x38 =>
  bn (F0_holds x38 x14) fun x40 =>
  jp (fun (b55 : BS) => bd (x25 + 1) fun x60 =>
  some (.inl (x60, b55))) fun k43 =>
  if x40 = 0 then
  k43 b26
  else
  rd (b26.1 56) 26 x25 fun x48 =>
  rd (b26.1 56) 26 x14 fun x50 =>
  wb b26 56 26 x25 (x48 ||| x50) fun b52 =>
  k43 b52) q.1 q.2) (0, b15)) q.1 q.2)) (fun v q => q.1 = nI v ∧ q.2.2 = b.2 ∧ (∀ u, u ≠ 56 → q.2.1 u = b.1 u) ∧ (∀ f, f < 26 → ∀ j, tb (q.2.1 56 f) j = true → Rch (gs D) f j) ∧ (∀ f, f < 26 → ∀ j, tb (gs D f) j = true → tb (q.2.1 56 f) j = true) ∧ (∀ f, f < 26 → ∀ m, m < v → ∀ j, tb (q.2.1 56 f) m = true → tb (q.2.1 56 m) j = true → tb (q.2.1 56 f) j = true)) 26 (fun r => ∃ b', r = (Sum.inr b' : (Int32 × BS) ⊕ BS) ∧ b'.2 = b.2 ∧ (∀ u, u ≠ 56 → b'.1 u = b.1 u) ∧ ∀ k, k < 26 → ∀ j, tb (b'.1 56 k) j = true ↔ Rch (gs D) k j) ?_ ?_ (0, c) ?_
    · obtain ⟨r, hr, b', rfl, h⟩ := key
      exact ⟨b', if_go (show (26 : Int32) ≤ nI 26 by decide) hr, h⟩
    · rintro v ⟨x, d⟩ hv ⟨rfl, g2, g3, g4, g5, g6⟩
      dsimp only at g2 g3 g4 g5 g6
      obtain ⟨d', q1, q2, q3, q4⟩ := inner v d hv g2 g3
      refine ⟨(nI (v + 1), d'), if_no (nI_ge (b := 26) hv (by decide)) ?_, rfl, q2, q3, fun f hf j hj => ?_, fun f hf j hj => ?_, fun f hf m hm j hj1 hj2 => ?_⟩
      · exact q1
      · dsimp only at hj
        rw [q4 f hf j, Bool.or_eq_true, Bool.and_eq_true] at hj
        rcases hj with hj | ⟨h1, h2⟩
        · exact g4 f hf j hj
        · exact (g4 f hf v h1).tr (g4 v hv j h2)
      · dsimp only
        rw [q4 f hf j, g5 f hf j hj]; rfl
      · dsimp only at hj1 hj2 ⊢
        rw [q4 f hf m, Bool.or_eq_true, Bool.and_eq_true] at hj1
        rw [q4 m (by omega) j, Bool.or_eq_true, Bool.and_eq_true] at hj2
        rw [q4 f hf j, Bool.or_eq_true, Bool.and_eq_true]
        by_cases c : m = v
        · subst c
          rcases hj1 with a1 | ⟨a1, a2⟩
          · rcases hj2 with b1 | ⟨b1, b2⟩
            · exact Or.inr ⟨a1, b1⟩
            · exact Or.inr ⟨a1, b2⟩
          · rcases hj2 with b1 | ⟨b1, b2⟩
            · exact Or.inr ⟨a1, b1⟩
            · exact Or.inr ⟨a1, b2⟩
        · have hmv : m < v := by omega
          rcases hj1 with a1 | ⟨a1, a2⟩
          · rcases hj2 with b1 | ⟨b1, b2⟩
            · exact Or.inl (g6 f hf m hmv j a1 b1)
            · exact Or.inr ⟨g6 f hf m hmv v a1 b1, b2⟩
          · rcases hj2 with b1 | ⟨b1, b2⟩
            · exact Or.inr ⟨a1, g6 v hv m hmv j a2 b1⟩
            · exact Or.inr ⟨a1, b2⟩
    · rintro ⟨x, d⟩ ⟨rfl, g2, g3, g4, g5, g6⟩
      refine ⟨_, if_go (show (26 : Int32) ≤ nI 26 by decide) rfl, d, rfl, g2, g3, fun f hf j => ⟨g4 f hf j, fun h => ?_⟩⟩
      exact (h (fun m => tb (d.1 56 f) m = true ∧ m < 26) (fun m hm => ⟨g5 f hf m hm, (tb_gs hm).2.2⟩) (fun k m hk hm => ⟨g6 f hf k hk.2 m hk.1 (g5 k hk.2 m hm), (tb_gs hm).2.2⟩)).1
    · exact ⟨rfl, h2, h3, fun f hf j hj => by dsimp only at hj; rw [h4 f hf] at hj; exact Rch.one hj, fun f hf j hj => by dsimp only; rw [h4 f hf]; exact hj, fun f hf m hm => absurd hm (by omega)⟩
  · exact ⟨rfl, rfl, fun _ _ => rfl, fun k hk => absurd hk (by omega)⟩
