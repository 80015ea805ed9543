/-! PURE: states copied, in both worlds -/
theorem hold_congr {f g : Nat → Int32} {t : Tx} (h : ∀ j, j < t.length → g j = f j) (hf : hold f t) : hold g t := fun j hj => (h j hj).trans (hf j hj)
theorem ZS.congr {f g : Nat → Int32} {a : AS} (hW : WA a) (h : ∀ k, k < 2153 → g k = f k) (hf : ZS f a) : ZS g a := by
  obtain ⟨h1, h2, h3, h4, h5, h6, h7, h8, h9, h10, h11⟩ := hf
  obtain ⟨w1, w2, w3, w4, w5⟩ := hW
  refine ⟨fun k hk => (h k (by omega)).trans (h1 k hk), fun k hk t e => ?_, (h _ (by omega)).trans h3, (h _ (by omega)).trans h4, ?_, (h _ (by omega)).trans h6, (h _ (by omega)).trans h7, (h _ (by omega)).trans h8, (h _ (by omega)).trans h9, (h _ (by omega)).trans h10, ?_⟩
  · have := (w1 k t e).2
    exact hold_congr (fun j hj => h _ (by omega)) (h2 k hk t e)
  · exact hold_congr (fun j hj => h _ (by omega)) h5
  · exact hold_congr (fun j hj => h _ (by omega)) h11
/-- a row of the reference replaced -/
def sr (z : MS) (a : Nat) (g : Nat → Int32) : MS := fun u => if u = a then g else z u
theorem sr_at (z : MS) (a : Nat) (g : Nat → Int32) : sr z a g a = g := if_pos rfl
theorem sr_ne (z : MS) {a u : Nat} (g : Nat → Int32) (h : u ≠ a) : sr z a g u = z u := if_neg h
theorem sr_up (z : MS) (a : Nat) (g : Nat → Int32) (k : Nat) (v : Int32) : up2 (sr z a g) a k v = sr z a (upd g k v) := by
  funext u
  by_cases h : u = a
  · subst h; rw [up2_same, sr_at, sr_at]
  · rw [up2_ne _ h, sr_ne _ _ h, sr_ne _ _ h]
theorem sr_self (z : MS) (a : Nat) : sr z a (z a) = z := by
  funext u
  by_cases h : u = a
  · subst h; rw [sr_at]
  · rw [sr_ne _ _ h]
/-- a part of a row replaced -/
def pt (g : Nat → Int32) (off n : Nat) (f : Nat → Int32) : Nat → Int32 := fun i => if off ≤ i ∧ i < off + n then f (i - off) else g i
theorem pt_0 (g : Nat → Int32) (off : Nat) (f : Nat → Int32) : pt g off 0 f = g := by
  funext i; exact if_neg (by omega)
theorem pt_s (g : Nat → Int32) (off n : Nat) (f : Nat → Int32) : upd (pt g off n f) (off + n) (f n) = pt g off (n + 1) f := by
  funext i
  unfold upd pt
  by_cases h : i = off + n
  · subst h
    rw [if_pos rfl, if_pos ⟨by omega, by omega⟩, Nat.add_sub_cancel_left]
  · rw [if_neg h]
    by_cases c : off ≤ i ∧ i < off + n
    · rw [if_pos c, if_pos ⟨c.1, by omega⟩]
    · rw [if_neg c, if_neg (by omega)]
theorem pt_in {g : Nat → Int32} {off n : Nat} {f : Nat → Int32} {i : Nat} (h : i < n) : pt g off n f (off + i) = f i := by
  unfold pt; rw [if_pos ⟨by omega, by omega⟩, Nat.add_sub_cancel_left]
theorem pt_out {g : Nat → Int32} {off n : Nat} {f : Nat → Int32} {i : Nat} (h : i < off ∨ off + n ≤ i) : pt g off n f i = g i := if_neg (by omega)
/-- the class: all of a state into another one -/
def cpS (b : BS) (i p : Nat) : BS :=
  (fun u => if u = i then (fun k => if k = 2 ∨ k = 3 ∨ k = 4 then b.1 p k else b.1 i k) else b.1 u,
   fun u => if u = i then (fun k => if k = 1 then b.2.1 p 1 else b.2.1 i k) else if u = i + 1 then (fun k => if k < 26 then b.2.1 (p + 1) k else b.2.1 (i + 1) k) else b.2.1 u, b.2.2)
def cpR (b : BS) (i p n : Nat) : BS := (b.1, fun u => if u = i + 1 then (fun k => if k < n then b.2.1 (p + 1) k else b.2.1 (i + 1) k) else b.2.1 u, b.2.2)
theorem woc_go {ρ : Type} {b : BS} {a n k : Nat} {x : Int32} {v : Option Nat} {ci : Nat} {K : BS → Option ρ} {r : Option ρ} (hx : x = nI k) (hk : k < n) (hn : n < 2 ^ 31) (hv : ∀ t, v = some t → okB b.2.2 t ci = true) (h : K (setR b a k v) = r) : woc b a n x v ci K = r := by
  rw [woc_lit hx hk hn hv]; exact h
theorem F5_copyFrom_eq {b : BS} {i p : Nat} (hi : okB b.2.2 i 5 = true) (hp : okB b.2.2 p 5 = true) (hne : i ≠ p) (ht : ∀ k, k < 26 → ∀ t, b.2.1 (p + 1) k = some t → okB b.2.2 t 6 = true) : F5_copyFrom b i p = some (cpS b i p) := by
  have ki := kd5 (okB_2 hi)
  have kp := kd5 (okB_2 hp)
  unfold F5_copyFrom
  have e0 : ((0 : Int32), b) = (fun j => (nI j, cpR b i p j)) 0 := by
    refine Prod.ext rfl (Prod.ext rfl (Prod.ext ?_ rfl))
    funext u
    show _ = if u = i + 1 then _ else _
    by_cases h : u = i + 1
    · subst h; simp
    · rw [if_neg h]
  rw [e0]
  refine Loop_seq (fun j => (nI j, cpR b i p j)) 26 (fun j hj => ?_) ?_
  · have hr : (cpR b i p j).2.1 (p + 1) j = b.2.1 (p + 1) j := by
      show (if p + 1 = i + 1 then _ else b.2.1 (p + 1)) j = _
      rw [if_neg (by omega)]
    refine if_no (nI_ge (b := 26) hj (by decide)) <| ck_go hi <| ck_go hp <| ro_go rfl hj (by decide) hr <| woc_go rfl hj (by decide) (fun t e => ht j hj t e) <| bd_go ?_
    dsimp only
    rw [nI_1]
    refine congrArg (fun q => some (Sum.inl (nI (j + 1), q))) (Prod.ext rfl (Prod.ext ?_ rfl))
    funext u
    show upR (cpR b i p j).2.1 (i + 1) j _ u = _
    by_cases h : u = i + 1
    · subst h
      rw [upR_same]
      funext k
      show (if k = j then b.2.1 (p + 1) j else (if i + 1 = i + 1 then (fun k => if k < j then _ else _) else _) k) = (if i + 1 = i + 1 then (fun k => if k < j + 1 then b.2.1 (p + 1) k else b.2.1 (i + 1) k) else b.2.1 (i + 1)) k
      rw [if_pos rfl, if_pos rfl]
      by_cases c : k = j
      · subst c; simp
      · rw [if_neg c]
        by_cases d : k < j
        · rw [if_pos d, if_pos (by omega)]
        · rw [if_neg d, if_neg (by omega)]
    · rw [upR_ne _ h]
      show (if u = i + 1 then _ else b.2.1 u) = (if u = i + 1 then _ else b.2.1 u)
      rw [if_neg h, if_neg h]
  · refine if_go (show (26 : Int32) ≤ nI 26 by decide) <| ck_go hp <| bd_go <| ck_go hi <| bd_go <| bd_go <| bd_go <| bd_go ?_
    refine congrArg (fun q => some (Sum.inr q)) (Prod.ext ?_ (Prod.ext ?_ rfl))
    · funext u
      show up2 (up2 (up2 b.1 i 2 (b.1 p 2)) i 3 _) i 4 _ u = if u = i then _ else b.1 u
      by_cases h : u = i
      · subst h
        rw [up2_same, up2_same, up2_same, if_pos rfl]
        have q1 : (setI (setR (cpR b u p 26) u 1 ((cpR b u p 26).2.1 p 1)) u 2 (b.1 p 2)).1 p 3 = b.1 p 3 := by rw [setI_other _ (Ne.symm hne)]; rfl
        have q2 : ∀ v w, (setI (setI (setR (cpR b u p 26) u 1 ((cpR b u p 26).2.1 p 1)) u 2 v) u 3 w).1 p 4 = b.1 p 4 := fun v w => by rw [setI_other _ (Ne.symm hne), setI_other _ (Ne.symm hne)]; rfl
        funext k
        unfold upd
        by_cases c4 : k = 4
        · rw [if_pos c4, if_pos (Or.inr (Or.inr c4)), c4]; exact q2 _ _
        · rw [if_neg c4]
          by_cases c3 : k = 3
          · rw [if_pos c3, if_pos (Or.inr (Or.inl c3)), c3]; exact q1
          · rw [if_neg c3]
            by_cases c2 : k = 2
            · rw [if_pos c2, if_pos (Or.inl c2), c2]
            · rw [if_neg c2, if_neg (by omega)]
      · rw [up2_ne _ h, up2_ne _ h, up2_ne _ h, if_neg h]
    · funext u
      show upR (cpR b i p 26).2.1 i 1 ((cpR b i p 26).2.1 p 1) u = if u = i then _ else _
      have q : (cpR b i p 26).2.1 p 1 = b.2.1 p 1 := by
        show (if p = i + 1 then _ else b.2.1 p) 1 = _
        rw [if_neg (by omega)]
      by_cases h : u = i
      · subst h
        rw [upR_same, if_pos rfl, q]
        funext k
        show (if k = 1 then _ else (if u = u + 1 then _ else b.2.1 u) k) = _
        rw [if_neg (show ¬ u = u + 1 by omega)]
      · rw [upR_ne _ h, if_neg h]
        rfl
/-- what lives stays -/
def Ext (b b' : BS) : Prop := Gr b b' ∧ ∀ j, 100 ≤ j → lvB b.2.2 j = true → b'.1 j = b.1 j ∧ b'.2.2 j = b.2.2 j
theorem Ext.rf (b : BS) : Ext b b := ⟨Gr.rf b, fun _ _ _ => ⟨rfl, rfl⟩⟩
theorem Ext.tr {b b1 b2 : BS} (h : Ext b b1) (g : Ext b1 b2) : Ext b b2 := ⟨h.1.tr g.1, fun j hj hl => ⟨(g.2 j hj (h.1 j hl)).1.trans (h.2 j hj hl).1, (g.2 j hj (h.1 j hl)).2.trans (h.2 j hj hl).2⟩⟩
theorem Ext.ok {b b' : BS} (h : Ext b b') {i ci : Nat} (g : okB b.2.2 i ci = true) : okB b'.2.2 i ci = true := by
  unfold okB
  rw [h.1 i (okB_1 g), okB_2 g]; simp
theorem TXb.ext {b b' : BS} {x : Nat} {t : Tx} (h : Ext b b') (g : TXb b x t) : TXb b' x t := by
  obtain ⟨g1, g2, g3, g4⟩ := g
  have hx : 100 ≤ x := (kd6 (okB_2 g1)).1
  have l1 := h.2 x hx (okB_1 g1)
  have l2 := h.2 (x + 1) (by omega) (okB_1 (ok6_arr g1))
  unfold TXb
  rw [l1.1, l2.1, l2.2]
  exact ⟨h.ok g1, g2, g3, g4⟩
theorem OCb.ext {b b' : BS} {x : Nat} {t : Oc} (h : Ext b b') (g : OCb b x t) : OCb b' x t := by
  obtain ⟨g1, g2⟩ := g
  have hx : 100 ≤ x := (kd3 (okB_2 g1)).1
  have l1 := h.2 x hx (okB_1 g1)
  have l2 := h.2 (x + 1) (by omega) (okB_1 (ok3_arr g1))
  have l3 := h.2 (x + 2) (by omega) (okB_1 (ok3_arr2 g1))
  unfold OCb
  rw [l1.1, l2.1, l2.2, l3.1, l3.2]
  exact ⟨h.ok g1, g2⟩
theorem SBb.ext {b b' : BS} {i : Nat} {a : AS} (h : Ext b b') (e1 : b'.1 i = b.1 i) (e2 : b'.2.1 i = b.2.1 i) (e3 : b'.2.1 (i + 1) = b.2.1 (i + 1)) (g : SBb b i a) : SBb b' i a := by
  obtain ⟨g1, g2, ⟨o, g3, g3'⟩, g4⟩ := g
  unfold SBb
  rw [e1, e2, e3]
  refine ⟨h.ok g1, fun k hk => ?_, ⟨o, g3, g3'.ext h⟩, g4⟩
  have q := g2 k hk
  cases e : a.1 k with
  | none => rw [e] at q; exact q
  | some t =>
    rw [e] at q
    obtain ⟨x, q1, q2⟩ := q
    exact ⟨x, q1, q2.ext h⟩
theorem SBb.tok {b : BS} {i : Nat} {a : AS} (g : SBb b i a) : ∀ k, k < 26 → ∀ t, b.2.1 (i + 1) k = some t → okB b.2.2 t 6 = true := by
  intro k hk t ht
  have q := g.2.1 k hk
  cases e : a.1 k with
  | none => rw [e] at q; dsimp only at q; rw [q] at ht; cases ht
  | some u =>
    rw [e] at q
    obtain ⟨x, q1, q2⟩ := q
    rw [q1] at ht; cases ht
    exact q2.1
theorem cpS_ext (b : BS) {i p : Nat} (hi : i < 100) : Ext b (cpS b i p) := ⟨fun _ h => h, fun j hj _ => ⟨if_neg (by omega), rfl⟩⟩
theorem cpS_SBb {b : BS} {i p : Nat} {a : AS} (hi : okB b.2.2 i 5 = true) (hne : i ≠ p) (g : SBb b p a) : SBb (cpS b i p) i a := by
  have ki := kd5 (okB_2 hi)
  have kp := kd5 (okB_2 g.1)
  have hx := cpS_ext b (i := i) (p := p) (by omega)
  obtain ⟨g1, g2, ⟨o, g3, g3'⟩, g4, g5, g6⟩ := g
  refine ⟨hi, fun k hk => ?_, ⟨o, ?_, g3'.ext hx⟩, ?_, ?_, ?_⟩
  · have e : (cpS b i p).2.1 (i + 1) k = b.2.1 (p + 1) k := by
      show (if i + 1 = i then _ else if i + 1 = i + 1 then (fun k => if k < 26 then b.2.1 (p + 1) k else _) else _) k = _
      rw [if_neg (by omega), if_pos rfl, if_pos hk]
    have q := g2 k hk
    cases ea : a.1 k with
    | none => rw [ea] at q; exact e.trans q
    | some t =>
      rw [ea] at q
      obtain ⟨x, q1, q2⟩ := q
      exact ⟨x, e.trans q1, q2.ext hx⟩
  · show (if i = i then (fun k => if k = 1 then b.2.1 p 1 else _) else _) 1 = _
    rw [if_pos rfl]; exact g3
  · show (if i = i then (fun k => if k = 2 ∨ k = 3 ∨ k = 4 then b.1 p k else b.1 i k) else b.1 i) 2 = _
    rw [if_pos rfl]; exact g4
  · show (if i = i then (fun k => if k = 2 ∨ k = 3 ∨ k = 4 then b.1 p k else b.1 i k) else b.1 i) 3 = _
    rw [if_pos rfl]; exact g5
  · show (if i = i then (fun k => if k = 2 ∨ k = 3 ∨ k = 4 then b.1 p k else b.1 i k) else b.1 i) 4 = _
    rw [if_pos rfl]; exact g6
theorem cpS_closed {b : BS} {i p : Nat} (h : Closed b) : Closed (cpS b i p) := by
  intro u k t ht
  show lvB b.2.2 t = true
  have ht' : (if u = i then (fun k => if k = 1 then b.2.1 p 1 else b.2.1 i k) else if u = i + 1 then (fun k => if k < 26 then b.2.1 (p + 1) k else b.2.1 (i + 1) k) else b.2.1 u) k = some t := ht
  by_cases h1 : u = i
  · rw [if_pos h1] at ht'
    by_cases h2 : k = 1
    · rw [if_pos h2] at ht'; exact h _ _ _ ht'
    · rw [if_neg h2] at ht'; exact h _ _ _ ht'
  · rw [if_neg h1] at ht'
    by_cases h2 : u = i + 1
    · rw [if_pos h2] at ht'
      by_cases h3 : k < 26
      · rw [if_pos h3] at ht'; exact h _ _ _ ht'
      · rw [if_neg h3] at ht'; exact h _ _ _ ht'
    · rw [if_neg h2] at ht'; exact h _ _ _ ht'
