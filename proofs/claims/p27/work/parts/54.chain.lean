/-! PURE: chain -/
theorem ex_il {σ ρ : Type} {Q : σ → Prop} {x y : Option (σ ⊕ ρ)} (h : x = y) (g : ∃ r, y = some r ∧ ∃ s', r = Sum.inl s' ∧ Q s') : ∃ s', x = some (.inl s') ∧ Q s' := by
  obtain ⟨r, h1, s', rfl, h2⟩ := g
  exact ⟨s', h.trans h1, h2⟩
theorem ex_ir {σ ρ : Type} {Q : ρ → Prop} {x y : Option (σ ⊕ ρ)} (h : x = y) (g : ∃ r, y = some r ∧ ∃ s', r = Sum.inr s' ∧ Q s') : ∃ s', x = some (.inr s') ∧ Q s' := by
  obtain ⟨r, h1, s', rfl, h2⟩ := g
  exact ⟨s', h.trans h1, h2⟩
def Pth (D : Nat → Option Tx) : Nat → Nat → Nat → Prop
  | 0, k, x => k = x ∧ k < 26 ∧ (D k).isSome = true
  | n + 1, k, x => ∃ y, Pth D n k y ∧ tb (gs D y) x = true ∧ (D x).isSome = true
theorem Pth.head {D : Nat → Option Tx} {n k x : Nat} (h : Pth D n k x) : k < 26 ∧ (D k).isSome = true := by
  induction n generalizing x with
  | zero => exact h.2
  | succ n ih => obtain ⟨y, h1, -⟩ := h; exact ih h1
theorem Pth.cons {D : Nat → Option Tx} {n k y x : Nat} (e : tb (gs D k) y = true) (h : Pth D n y x) : Pth D (n + 1) k x := by
  induction n generalizing x with
  | zero =>
    obtain ⟨rfl, h1, h2⟩ := h
    exact ⟨k, ⟨rfl, (tb_gs e).1, (tb_gs e).2.1⟩, e, h2⟩
  | succ n ih =>
    obtain ⟨w, h1, h2, h3⟩ := h
    exact ⟨w, ih h1, h2, h3⟩
theorem Pth.uncons {D : Nat → Option Tx} {n k x : Nat} (h : Pth D (n + 1) k x) : ∃ y, tb (gs D k) y = true ∧ Pth D n y x := by
  induction n generalizing x with
  | zero =>
    obtain ⟨y, ⟨rfl, h1, h2⟩, h3, h4⟩ := h
    exact ⟨x, h3, rfl, (tb_gs h3).2.2, h4⟩
  | succ n ih =>
    obtain ⟨w, h1, h2, h3⟩ := h
    obtain ⟨y, g1, g2⟩ := ih h1
    exact ⟨y, g1, w, g2, h2, h3⟩
theorem Pth.pre {D : Nat → Option Tx} {n k x : Nat} (h : Pth D n k x) {m : Nat} (hm : m ≤ n) : ∃ y, Pth D m k y := by
  induction n generalizing x with
  | zero => have : m = 0 := by omega
            subst this; exact ⟨x, h⟩
  | succ n ih =>
    by_cases c : m = n + 1
    · subst c; exact ⟨x, h⟩
    · obtain ⟨y, h1, -⟩ := h
      exact ih h1 (by omega)
theorem Rch.uncons {G : Nat → Int32} {i j : Nat} (h : Rch G i j) : ∃ m, tb (G i) m = true ∧ (m = j ∨ Rch G m j) := by
  refine h (fun j => ∃ m, tb (G i) m = true ∧ (m = j ∨ Rch G m j)) (fun m hm => ⟨m, hm, Or.inl rfl⟩) (fun k j' hk hj => ?_)
  obtain ⟨m, h1, h2⟩ := hk
  refine ⟨m, h1, Or.inr ?_⟩
  rcases h2 with rfl | h2
  · exact Rch.one hj
  · exact h2.snoc hj
/-- behind p there is a ring -/
def Rgd (D : Nat → Option Tx) (p : Nat) : Prop := ∃ r, (r = p ∨ Rch (gs D) p r) ∧ Rch (gs D) r r
theorem Rgd.long {D : Nat → Option Tx} {p : Nat} (h : Rgd D p) (n : Nat) : ∃ x, Pth D n p x := by
  obtain ⟨r, h1, h2⟩ := h
  have key : ∀ n x, (r = x ∨ Rch (gs D) x r) → ∃ y, Pth D n x y := by
    intro n
    induction n with
    | zero =>
      intro x hx
      have hd : Rch (gs D) x r := by rcases hx with rfl | hx; exact h2; exact hx
      exact ⟨x, rfl, hd.def.1, hd.def.2⟩
    | succ n ih =>
      intro x hx
      have hd : Rch (gs D) x r := by rcases hx with rfl | hx; exact h2; exact hx
      obtain ⟨m, g1, g2⟩ := hd.uncons
      obtain ⟨y, hy⟩ := ih m (by rcases g2 with g2 | g2; exact Or.inl g2.symm; exact Or.inr g2)
      exact ⟨y, Pth.cons g1 hy⟩
  exact key n p h1
theorem short_of {D : Nat → Option Tx} {p : Nat} (h : ¬ Rgd D p) {k : Nat} (hk : k = p ∨ Rch (gs D) p k) {n x : Nat} (hP : Pth D n k x) : n ≤ 25 := by
  have key : ∀ n k x, (k = p ∨ Rch (gs D) p k) → Pth D n k x → n ≤ cntB (gth (fun j => rB D k j) 26) 26 := by
    intro n
    induction n with
    | zero => exact fun _ _ _ _ => Nat.zero_le _
    | succ n ih =>
      intro k x hk hP
      obtain ⟨y, h1, h2⟩ := hP.uncons
      have hy : y = p ∨ Rch (gs D) p y := by
        rcases hk with rfl | hk
        · exact Or.inr (Rch.one h1)
        · exact Or.inr (hk.snoc h1)
      have q := ih y x hy h2
      have y26 := h2.head.1
      have lt : cntB (gth (fun j => rB D y j) 26) 26 < cntB (gth (fun j => rB D k j) 26) 26 := by
        refine cntB_lt (fun j hj => ?_) y26 ?_ ?_
        · rw [tb_gth _ (Nat.le_refl _), Bool.and_eq_true] at hj ⊢
          exact ⟨hj.1, rB_iff.mpr ((Rch.one h1).tr (rB_iff.mp hj.2))⟩
        · rw [tb_gth _ (Nat.le_refl _)]
          cases e : rB D y y with
          | false => exact Bool.and_false _
          | true => exact absurd ⟨y, hy, rB_iff.mp e⟩ h
        · rw [tb_gth _ (Nat.le_refl _), decide_eq_true y26, Bool.true_and]
          exact rB_iff.mpr (Rch.one h1)
      omega
  have k26 := hP.head.1
  have q := key n k x hk hP
  have lt : cntB (gth (fun j => rB D k j) 26) 26 < cntB (gth (fun _ => true) 26) 26 := by
    refine cntB_lt (fun j hj => ?_) k26 ?_ ?_
    · rw [tb_gth _ (Nat.le_refl _), Bool.and_eq_true] at hj ⊢
      exact ⟨hj.1, rfl⟩
    · rw [tb_gth _ (Nat.le_refl _)]
      cases e : rB D k k with
      | false => exact Bool.and_false _
      | true => exact absurd ⟨k, hk, rB_iff.mp e⟩ h
    · rw [tb_gth _ (Nat.le_refl _), decide_eq_true k26]; rfl
  have := cntB_le (gth (fun _ => true) 26) 26
  omega
/-- the class: level by level -/
def lvl (D : Nat → Option Tx) (p : Nat) : Nat → Int32
  | 0 => nI (mkN D 26) &&& one p
  | n + 1 => orS (gs D) (lvl D p n) 26 &&& nI (mkN D 26)
theorem tb_orS (G : Nat → Int32) (x : Int32) (n j : Nat) : tb (orS G x n) j = true ↔ ∃ k, k < n ∧ tb x k = true ∧ tb (G k) j = true := by
  induction n with
  | zero => rw [show orS G x 0 = 0 from rfl, tb_0]; exact ⟨fun h => (by cases h), fun ⟨k, hk, _⟩ => absurd hk (by omega)⟩
  | succ n ih =>
    show tb (if tb x n = true then orS G x n ||| G n else orS G x n) j = true ↔ _
    constructor
    · intro h
      by_cases c : tb x n = true
      · rw [if_pos c, tb_or, Bool.or_eq_true, ih] at h
        rcases h with ⟨k, h1, h2⟩ | h
        · exact ⟨k, by omega, h2⟩
        · exact ⟨n, by omega, c, h⟩
      · rw [if_neg c, ih] at h
        obtain ⟨k, h1, h2⟩ := h
        exact ⟨k, by omega, h2⟩
    · rintro ⟨k, h1, h2, h3⟩
      by_cases q : k = n
      · subst q
        rw [if_pos h2, tb_or, h3, Bool.or_true]
      · have := ih.mpr ⟨k, by omega, h2, h3⟩
        split
        · rw [tb_or, this]; rfl
        · exact this
theorem tb_lvl {D : Nat → Option Tx} {p : Nat} (hp : p < 26) (n x : Nat) : tb (lvl D p n) x = true ↔ Pth D n p x := by
  induction n generalizing x with
  | zero =>
    show tb (nI (mkN D 26) &&& one p) x = true ↔ _
    rw [tb_and, tb_mk, tb_one hp, Bool.and_eq_true, Bool.and_eq_true, decide_eq_true_iff, decide_eq_true_iff]
    constructor
    · rintro ⟨⟨h1, h2⟩, rfl⟩; exact ⟨rfl, h1, h2⟩
    · rintro ⟨rfl, h1, h2⟩; exact ⟨⟨h1, h2⟩, rfl⟩
  | succ n ih =>
    show tb (orS (gs D) (lvl D p n) 26 &&& nI (mkN D 26)) x = true ↔ _
    rw [tb_and, tb_mk, Bool.and_eq_true, Bool.and_eq_true, decide_eq_true_iff, tb_orS]
    constructor
    · rintro ⟨⟨k, h1, h2, h3⟩, h4, h5⟩; exact ⟨k, (ih k).mp h2, h3, h5⟩
    · rintro ⟨y, h1, h2, h3⟩; exact ⟨⟨y, (tb_gs h2).1, (ih y).mpr h1, h2⟩, (tb_gs h2).2.2, h3⟩
theorem lvl_0 {D : Nat → Option Tx} {p : Nat} (hp : p < 26) (n : Nat) : lvl D p n = 0 ↔ ¬ ∃ x, Pth D n p x := by
  constructor
  · rintro h ⟨x, hx⟩
    rw [← tb_lvl hp, h, tb_0] at hx; cases hx
  · intro h
    apply tb_ext
    intro j
    rw [tb_0]
    cases e : tb (lvl D p n) j with
    | false => rfl
    | true => exact absurd ⟨j, (tb_lvl hp n j).mp e⟩ h
theorem longest_step {b : BS} {D : Nat → Option Tx} (h55 : ∀ k, k < 26 → b.1 55 k = gs D k) (h54 : b.1 54 2 = nI (mkN D 26)) {p : Nat} (hp : p < 26) (M : Nat) (hM : M ≤ 27) (h : ∀ n, n < M → ∃ x, Pth D n p x) : F0_longestChain b (nI p) = Loop (fun (q : Int32 × Int32) => (fun (x18 : Int32) (x19 : Int32) =>
  if (26 : Int32) < x19 then
  some (.inr (-1))
  else
  if ¬ x18 = 0 then
  bn (F0_calledInBodiesOf b x18) fun x32 =>
  bd (x32 &&& (b.1 54 2)) fun x33 =>
  bd (x19 + 1) fun x37 =>
  some (.inl (x33, x37))
  else
  some (.inr x19)) q.1 q.2) (lvl D p M, nI M) := by
  unfold F0_longestChain
  refine bn_go (F7_isLetter_eq _) <| jp_go <| if_no (by rw [nI_letter hp]; decide) ?_
  rw [h54]
  refine Loop_go (fun n => (lvl D p n, nI n)) M (fun n hn => ?_)
  refine if_no (nI_nlt (a := 26) (by omega) (by omega)) <| if_go (fun q => (lvl_0 hp n).mp q (h n hn)) <| bn_go (F0_calledInBodiesOf_eq h55 _) <| bd_go <| bd_go ?_
  rw [nI_1]; rfl
theorem longest_end {b : BS} {D : Nat → Option Tx} (h55 : ∀ k, k < 26 → b.1 55 k = gs D k) (h54 : b.1 54 2 = nI (mkN D 26)) {p : Nat} (hp : p < 26) {M : Nat} (hM : M ≤ 26) (h : ∀ n, n < M → ∃ x, Pth D n p x) (he : ¬ ∃ x, Pth D M p x) : F0_longestChain b (nI p) = some (nI M) := by
  rw [longest_step h55 h54 hp M (by omega) h]
  exact Loop_inr (if_no (nI_nlt (a := 26) (by omega) (by omega)) <| if_no (fun q => q ((lvl_0 hp M).mpr he)) rfl)
theorem longest_ring {b : BS} {D : Nat → Option Tx} (h55 : ∀ k, k < 26 → b.1 55 k = gs D k) (h54 : b.1 54 2 = nI (mkN D 26)) {p : Nat} (hp : p < 26) (h : Rgd D p) : F0_longestChain b (nI p) = some (-1) := by
  rw [longest_step h55 h54 hp 27 (by omega) (fun n _ => h.long n)]
  exact Loop_inr (if_go (show (26 : Int32) < nI 27 by decide) rfl)
/-- the reference's rounds -/
def Snd (D : Nat → Option Tx) (d : Nat → Nat) : Prop := ∀ k, k < 26 → d k ≤ 26 ∧ ((D k).isSome = true → 1 ≤ d k) ∧ (1 ≤ d k → ∃ x, Pth D (d k - 1) k x)
def Cmp (D : Nat → Option Tx) (p : Nat) (d : Nat → Nat) (r : Nat) (k : Nat) : Prop := (k = p ∨ Rch (gs D) p k) → ∀ n, n ≤ r → ∀ x, Pth D n k x → n + 1 ≤ d k
def RoZ (z z' : MS) (d : Nat → Nat) : Prop := (∀ u, u ≠ 41 → z' u = z u) ∧ ∀ k, k < 26 → z' 41 k = nI (d k)
def updN (d : Nat → Nat) (i v : Nat) : Nat → Nat := fun k => if k = i then v else d k
theorem RoZ.put {z z' : MS} {d : Nat → Nat} (h : RoZ z z' d) (i v : Nat) : RoZ z (up2 z' 41 i (nI v)) (updN d i v) := by
  refine ⟨fun u hu => by rw [up2_ne _ hu]; exact h.1 u hu, fun k hk => ?_⟩
  rw [up2_at]
  unfold updN
  by_cases c : k = i
  · rw [if_pos ⟨rfl, c⟩, if_pos c]
  · rw [if_neg (fun q => c q.2), if_neg c]; exact h.2 k hk
theorem F8_chain_eq {z : MS} {a : AS} (hZ : ZS (z 0) a) (hW : WA a) {p : Nat} (hp : p < 26) (hd : (a.1 p).isSome = true) : ∃ z', SmZ z z' ∧ z' 43 7 = 0 ∧ ((Rgd a.1 p ∧ F8_chain z (nI p) = some (z', -1)) ∨ ∃ M, M ≤ 26 ∧ (∀ n, n < M → ∃ x, Pth a.1 n p x) ∧ (¬ ∃ x, Pth a.1 M p x) ∧ F8_chain z (nI p) = some (z', nI M)) := by
  have hZr : ZS (rfs z 0 0) a := by rw [rfs_a _ _ (by decide)]; exact hZ
  have hl60 : ∀ k t, a.1 k = some t → t.length ≤ 60 := fun k t e => (hW.1 k t e).2
  have hdf := F8_isDefined_eq hZr hp (hl60 p)
  rw [hd] at hdf
  obtain ⟨z1, e1, k1⟩ := F8_inRings_eq hZr hW
  obtain ⟨r, g1, g2⟩ := F8_reached_eq k1.2 hp
  have t7 : z1 43 7 = 0 := by rw [k1.1 43 (by decide)]; exact rfs7 z 0
  have sz := (SmZ.rfs z 0).tr k1.sm
  have hc : ((r ||| one p) &&& gth (fun x => rB a.1 x x) 26 = 0) ↔ ¬ Rgd a.1 p := by
    have hb : ∀ j, tb ((r ||| one p) &&& gth (fun x => rB a.1 x x) 26) j = true ↔ (j = p ∨ Rch (gs a.1) p j) ∧ Rch (gs a.1) j j := by
      intro j
      rw [tb_and, tb_or, tb_one hp, tb_gth _ (Nat.le_refl _), Bool.and_eq_true, Bool.or_eq_true, Bool.and_eq_true, g2, decide_eq_true_iff, decide_eq_true_iff, rB_iff]
      constructor
      · rintro ⟨h1, h2, h3⟩; exact ⟨h1.symm, h3⟩
      · rintro ⟨h1, h2⟩; exact ⟨h1.symm, h2.lt, h2⟩
    constructor
    · rintro h ⟨j, hj⟩
      have := (hb j).mpr hj
      rw [h, tb_0] at this; cases this
    · intro h
      apply tb_ext
      intro j
      rw [tb_0]
      cases e : tb ((r ||| one p) &&& gth (fun x => rB a.1 x x) 26) j with
      | false => rfl
      | true => exact absurd ⟨j, (hb j).mp e⟩ h
  by_cases hr : Rgd a.1 p
  · refine ⟨z1, sz, t7, Or.inl ⟨hr, ?_⟩⟩
    unfold F8_chain
    exact bn_go (F8_isLetter_eq _) <| jp_go <| if_no (by rw [nI_letter hp]; decide) <| bn2_go (F8_refused0 z) <| if_go rfl <| bn_go hdf <| if_go (by decide) <| bn2_go e1 <| bn_go g1 <| if_no (fun q => hc.mp q hr) rfl
  · have main : ∃ q : MS × Int32, F8_chain z (nI p) = some q ∧ ∃ d, RoZ z1 q.1 d ∧ Snd a.1 d ∧ (∀ k, k < 26 → Cmp a.1 p d 26 k) ∧ q.2 = nI (d p) := by
      unfold F8_chain
      refine ex_go (bn_go (F8_isLetter_eq _) <| jp_go <| if_no (by rw [nI_letter hp]; decide) <| bn2_go (F8_refused0 z) <| if_go rfl <| bn_go hdf <| if_go (by decide) <| bn2_go e1 <| bn_go g1 <| if_go (hc.mpr hr) rfl) ?_
      refine Loop_inv (fun j q => q.1 = nI j ∧ (∀ u, u ≠ 41 → q.2 u = z1 u) ∧ ∀ k, k < j → q.2 41 k = nI (if (a.1 k).isSome = true then 1 else 0)) 26 _ ?_ ?_ _ ?_
      · rintro j ⟨x, c⟩ hj ⟨rfl, h2, h3⟩
        dsimp only at h2 h3
        have hZc : ZS (c 0) a := by rw [h2 0 (by decide), k1.1 0 (by decide)]; exact hZr
        have dj := F8_isDefined_eq hZc hj (hl60 j)
        refine ⟨(nI (j + 1), up2 c 41 j (nI (if (a.1 j).isSome = true then 1 else 0))), ?_, rfl, fun u hu => by dsimp only; rw [up2_ne _ hu]; exact h2 u hu, fun k hk => ?_⟩
        · refine if_no (nI_ge (b := 26) hj (by decide)) <| bn_go dj <| jp_go ?_
          cases e : (a.1 j).isSome with
          | true => refine if_no (by decide) <| wr_go rfl hj (by decide) <| bd_go ?_; rw [nI_1]; rfl
          | false => refine if_go rfl <| wr_go rfl hj (by decide) <| bd_go ?_; rw [nI_1]; rfl
        · dsimp only
          rw [up2_at]
          by_cases q : k = j
          · rw [if_pos ⟨rfl, q⟩, q]
          · rw [if_neg (fun w => q w.2)]; exact h3 k (by omega)
      · rintro ⟨x, c⟩ ⟨rfl, h2, h3⟩
        dsimp only at h2 h3
        have start : Snd a.1 (fun k => if (a.1 k).isSome = true then 1 else 0) := by
          intro k hk
          dsimp only
          by_cases q : (a.1 k).isSome = true
          · rw [if_pos q]; exact ⟨by decide, fun _ => Nat.le_refl _, fun _ => ⟨k, rfl, hk, q⟩⟩
          · rw [if_neg q]; exact ⟨by decide, fun w => absurd w q, fun w => absurd w (by decide)⟩
        refine ex_ir (if_go (show (26 : Int32) ≤ nI 26 by decide) rfl) ?_
        refine Loop_inv (fun r q => q.1 = nI r ∧ ∃ d, RoZ z1 q.2 d ∧ Snd a.1 d ∧ ∀ k, k < 26 → Cmp a.1 p d r k) 26 _ ?_ ?_ _ ?_
        · rintro n ⟨x, z2⟩ hn ⟨rfl, d, h4, h5, h6⟩
          refine ex_il (if_no (nI_ge (b := 26) hn (by decide)) rfl) ?_
          refine Loop_inv (fun i q => q.1 = nI i ∧ ∃ d, RoZ z1 q.2 d ∧ Snd a.1 d ∧ (∀ k, k < 26 → Cmp a.1 p d n k) ∧ ∀ k, k < i → Cmp a.1 p d (n + 1) k) 26 _ ?_ ?_ _ ?_
          · rintro i ⟨x, z3⟩ hi ⟨rfl, d, h4, h5, h6, h7⟩
            refine ex_il (if_no (nI_ge (b := 26) hi (by decide)) rfl) ?_
            refine Loop_inv (fun j q => q.1 = nI j ∧ ∃ d, RoZ z1 q.2 d ∧ Snd a.1 d ∧ (∀ k, k < 26 → Cmp a.1 p d n k) ∧ (∀ k, k < i → Cmp a.1 p d (n + 1) k) ∧ ((i = p ∨ Rch (gs a.1) p i) → ∀ y, y < j → tb (gs a.1 i) y = true → ∀ m, m ≤ n → ∀ x, Pth a.1 m y x → m + 2 ≤ d i)) 26 _ ?_ ?_ _ ?_
            · rintro j ⟨x, z4⟩ hj ⟨rfl, d, h4, h5, h6, h7, h8⟩
              dsimp only at h4
              have hZc : ZS (z4 0) a := by rw [h4.1 0 (by decide), k1.1 0 (by decide)]; exact hZr
              have dj := F8_isDefined_eq hZc hj (hl60 j)
              have q40 : z4 40 i = gs a.1 i := by rw [h4.1 40 (by decide)]; exact k1.2 i hi
              have dib := (h5 i hi).1
              have djb := (h5 j hj).1
              -- D[i] stays
              have stay : (tb (gs a.1 i) j = true → (a.1 j).isSome = true → d j < d i ∨ 26 ≤ d j) → ∀ K : Option ((Int32 × MS) ⊕ ((Int32 × MS) ⊕ ((Int32 × MS) ⊕ ((Int32 × MS) ⊕ (MS × Int32))))), K = (rd (z4 41) 26 (nI i) fun x43 => wr z4 41 26 (nI i) x43 fun z46 => bd (nI j + 1) fun x47 => some (.inl (x47, z46))) → ∃ s', K = some (.inl s') ∧ s'.1 = nI (j + 1) ∧ ∃ d, RoZ z1 s'.2 d ∧ Snd a.1 d ∧ (∀ k, k < 26 → Cmp a.1 p d n k) ∧ (∀ k, k < i → Cmp a.1 p d (n + 1) k) ∧ ((i = p ∨ Rch (gs a.1) p i) → ∀ y, y < j + 1 → tb (gs a.1 i) y = true → ∀ m, m ≤ n → ∀ x, Pth a.1 m y x → m + 2 ≤ d i) := by
                intro hst K hK
                have same : RoZ z1 (up2 z4 41 i (nI (d i))) d := by
                  have := h4.put i (d i)
                  have e : updN d i (d i) = d := by funext k; unfold updN; by_cases c : k = i; rw [if_pos c, c]; rw [if_neg c]
                  rw [e] at this; exact this
                refine ⟨(nI (j + 1), up2 z4 41 i (nI (d i))), ?_, rfl, d, same, h5, h6, h7, fun hg y hy ht m hm x hx => ?_⟩
                · rw [hK]
                  refine rd_go rfl hi (by decide) (h4.2 i hi) <| wr_go rfl hi (by decide) <| bd_go ?_
                  rw [nI_1]
                · by_cases c : y = j
                  · subst c
                    have dy := hx.head.2
                    have hgy : y = p ∨ Rch (gs a.1) p y := by
                      rcases hg with rfl | hg
                      · exact Or.inr (Rch.one ht)
                      · exact Or.inr (hg.snoc ht)
                    have low := h6 y hj hgy m hm x hx
                    rcases hst ht dy with q | q
                    · omega
                    · exfalso
                      obtain ⟨w, hw⟩ := (h5 y hj).2.2 (by omega)
                      have := short_of hr hg (Pth.cons ht hw)
                      omega
                  · exact h8 hg y (by omega) ht m hm x hx
              by_cases c1 : tb (gs a.1 i) j = true
              · by_cases c2 : (a.1 j).isSome = true
                · by_cases c3 : d j < d i
                  · exact stay (fun _ _ => Or.inl c3) _ (if_no (nI_ge (b := 26) hj (by decide)) <| rd_go rfl hi (by decide) q40 <| jp_go <| jp_go <| if_no (fun q => q ((tb_ref hj).mpr c1)) <| bn_go dj <| if_no (by rw [c2]; decide) <| rd_go rfl hj (by decide) (h4.2 j hj) <| rd_go rfl hi (by decide) (h4.2 i hi) <| if_go (nI_lt c3 (by omega)) <| jp_go <| if_go rfl rfl)
                  · by_cases c4 : 26 ≤ d j
                    · exact stay (fun _ _ => Or.inr c4) _ (if_no (nI_ge (b := 26) hj (by decide)) <| rd_go rfl hi (by decide) q40 <| jp_go <| jp_go <| if_no (fun q => q ((tb_ref hj).mpr c1)) <| bn_go dj <| if_no (by rw [c2]; decide) <| rd_go rfl hj (by decide) (h4.2 j hj) <| rd_go rfl hi (by decide) (h4.2 i hi) <| if_no (nI_nlt (by omega) (by omega)) <| rd_go rfl hj (by decide) (h4.2 j hj) <| if_go (nI_le (a := 26) c4 (by omega)) <| jp_go <| if_go rfl rfl)
                    · refine ⟨(nI (j + 1), up2 z4 41 i (nI (d j + 1))), ?_, rfl, updN d i (d j + 1), h4.put i (d j + 1), ?_, ?_, ?_, ?_⟩
                      · refine if_no (nI_ge (b := 26) hj (by decide)) <| rd_go rfl hi (by decide) q40 <| jp_go <| jp_go <| if_no (fun q => q ((tb_ref hj).mpr c1)) <| bn_go dj <| if_no (by rw [c2]; decide) <| rd_go rfl hj (by decide) (h4.2 j hj) <| rd_go rfl hi (by decide) (h4.2 i hi) <| if_no (nI_nlt (by omega) (by omega)) <| rd_go rfl hj (by decide) (h4.2 j hj) <| if_no (nI_ge (b := 26) (by omega) (by omega)) <| jp_go <| if_no (by decide) <| rd_go rfl hj (by decide) (h4.2 j hj) <| wr_go rfl hi (by decide) <| bd_go ?_
                        rw [nI_1, nI_1]
                      · intro k hk
                        unfold updN
                        by_cases q : k = i
                        · rw [if_pos q, q]
                          refine ⟨by omega, fun _ => by omega, fun _ => ?_⟩
                          have d1 := (h5 j hj).2.1 c2
                          obtain ⟨w, hw⟩ := (h5 j hj).2.2 d1
                          refine ⟨w, ?_⟩
                          have := Pth.cons c1 hw
                          rw [show d j - 1 + 1 = d j + 1 - 1 by omega] at this
                          exact this
                        · rw [if_neg q]; exact h5 k hk
                      · intro k hk hg m hm x hx
                        have := h6 k hk hg m hm x hx
                        unfold updN
                        by_cases q : k = i
                        · rw [if_pos q]; subst q; omega
                        · rw [if_neg q]; exact this
                      · intro k hk hg m hm x hx
                        have := h7 k hk hg m hm x hx
                        unfold updN
                        rw [if_neg (by omega)]; exact this
                      · intro hg y hy ht m hm x hx
                        unfold updN
                        rw [if_pos rfl]
                        by_cases q : y = j
                        · subst q
                          have hgy : y = p ∨ Rch (gs a.1) p y := by
                            rcases hg with rfl | hg
                            · exact Or.inr (Rch.one ht)
                            · exact Or.inr (hg.snoc ht)
                          have low := h6 y hj hgy m hm x hx
                          omega
                        · have := h8 hg y (by omega) ht m hm x hx
                          omega
                · exact stay (fun _ q => absurd q c2) _ (if_no (nI_ge (b := 26) hj (by decide)) <| rd_go rfl hi (by decide) q40 <| jp_go <| jp_go <| if_no (fun q => q ((tb_ref hj).mpr c1)) <| bn_go dj <| if_go (by rw [not_t c2]; rfl) <| jp_go <| if_go rfl rfl)
              · exact stay (fun q _ => absurd q c1) _ (if_no (nI_ge (b := 26) hj (by decide)) <| rd_go rfl hi (by decide) q40 <| jp_go <| jp_go <| if_go (fun q => c1 ((tb_ref hj).mp q)) <| jp_go <| if_go rfl rfl)
            · rintro ⟨x, z4⟩ ⟨rfl, d, h4, h5, h6, h7, h8⟩
              refine ⟨_, if_go (show (26 : Int32) ≤ nI 26 by decide) <| bd_go rfl, (nI i + 1, z4), rfl, ?_, d, h4, h5, h6, fun k hk => ?_⟩
              · rw [nI_1]
              · by_cases c : k = i
                · subst c
                  intro hg m hm x hx
                  cases m with
                  | zero => exact (h5 k hi).2.1 hx.head.2
                  | succ m =>
                    obtain ⟨y, y1, y2⟩ := hx.uncons
                    exact h8 hg y (tb_gs y1).2.2 y1 m (by omega) x y2
                · exact h7 k (by omega)
            · exact ⟨rfl, d, h4, h5, h6, h7, fun _ y hy => absurd hy (by omega)⟩
          · rintro ⟨x, z3⟩ ⟨rfl, d, h4, h5, h6, h7⟩
            refine ⟨_, if_go (show (26 : Int32) ≤ nI 26 by decide) <| bd_go rfl, (nI n + 1, z3), rfl, ?_, d, h4, h5, h7⟩
            rw [nI_1]
          · exact ⟨rfl, d, h4, h5, h6, fun k hk => absurd hk (by omega)⟩
        · rintro ⟨x, z2⟩ ⟨rfl, d, h4, h5, h6⟩
          exact ⟨_, if_go (show (26 : Int32) ≤ nI 26 by decide) <| rd_go rfl hp (by decide) rfl rfl, (z2, z2 41 p), rfl, d, h4, h5, h6, h4.2 p hp⟩
        · refine ⟨rfl, (fun k => if (a.1 k).isSome = true then 1 else 0), ⟨h2, fun k hk => h3 k hk⟩, start, fun k hk hg m hm x hx => ?_⟩
          have : m = 0 := by omega
          subst this
          exact (start k hk).2.1 hx.head.2
      · exact ⟨rfl, fun _ _ => rfl, fun k hk => absurd hk (by omega)⟩
    obtain ⟨q, h1, d, h2, h3, h4, h5⟩ := main
    refine ⟨q.1, sz.tr ?_, ?_, Or.inr ⟨d p, (h3 p hp).1, fun n hn => ?_, ?_, ?_⟩⟩
    · exact ⟨h2.1 _ (by decide), h2.1 _ (by decide), h2.1 _ (by decide), h2.1 _ (by decide), h2.1 _ (by decide), by rw [h2.1 43 (by decide)], by rw [h2.1 43 (by decide)]⟩
    · rw [h2.1 43 (by decide)]; exact t7
    · obtain ⟨x, hx⟩ := (h3 p hp).2.2 (by omega)
      exact hx.pre (by omega)
    · rintro ⟨x, hx⟩
      have := h4 p hp (Or.inl rfl) (d p) (h3 p hp).1 x hx
      omega
    · rw [h1, ← h5]
theorem S_chain {z : MS} {b : BS} (h : Inv z b) (x : Int32) : okT Inv (F7_chain b x) (F8_chain z x) [1] := by
  obtain ⟨t, a, p, s, hB, hW, hZ, hS, -⟩ := id h
  by_cases hx : inB x 0 25 = true
  · obtain ⟨k, hk, rfl⟩ := letter_nI hx
    obtain ⟨b1, e1, k1⟩ := F0_takeFrom_eq hS
    have f7 : ∀ v, F0_longestChain b1 (nI k) = some v → F7_chain b (nI k) = some (b1, .inr v) := by
      intro v hv
      unfold F7_chain
      rw [requireLetter_ok hx]
      exact bx_in (b := ()) (v := ()) rfl <| bn_go e1 <| bn_go hv rfl
    cases e : (a.1 k).isSome with
    | true =>
      obtain ⟨z', g1, g2, g3⟩ := F8_chain_eq hZ hW hk e
      rcases g3 with ⟨g3, g4⟩ | ⟨M, g3, g4, g5, g6⟩
      · exact okT_mk (f7 _ (longest_ring k1.2.2.1 k1.2.2.2 hk g3)) g4 g2 (h.sm g1 k1.sm)
      · exact okT_mk (f7 _ (longest_end k1.2.2.1 k1.2.2.2 hk g3 g4 g5)) g6 g2 (h.sm g1 k1.sm)
    | false =>
      have hdf := F8_isDefined_eq (z := rfs z 0) (a := a) (by rw [rfs_a _ _ (by decide)]; exact hZ) hk (fun t e => (hW.1 k t e).2)
      rw [e] at hdf
      refine okT_mk (v := 0) (z' := rfs z 0) (f7 _ (longest_end k1.2.2.1 k1.2.2.2 hk (M := 0) (by decide) (fun n hn => absurd hn (by omega)) ?_)) ?_ (rfs7 _ _) (h.sm (SmZ.rfs z 0) k1.sm)
      · rintro ⟨y, hy⟩
        have := hy.head.2
        rw [e] at this; cases this
      · unfold F8_chain
        exact bn_go (F8_isLetter_eq _) <| jp_go <| if_no (by rw [hx]; decide) <| bn2_go (F8_refused0 z) <| if_go rfl <| bn_go hdf <| if_no (by decide) rfl
  · have hx' : inB x 0 25 = false := by simpa using hx
    refine okT_x (b' := b) (k := 1) (z' := rfs z 1) (v := 0) ?_ ?_ (by decide) (rfs7 _ _) (h.rfs 1)
    · unfold F7_chain; rw [requireLetter_no hx']; rfl
    · unfold F8_chain
      exact bn_go (F8_isLetter_eq _) <| jp_go <| if_go (by rw [hx']; rfl) <| bn2_go (F8_refusedP z 1 (by decide)) <| if_no (by decide) rfl
