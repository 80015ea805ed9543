/-! THE CLASS'S WORLD: ids 50 the book, 51 its buffer, 52/53 reading and its row, 54/55/56 graph, 57..62 expansion, 63/64/65 history, 70+2q/71+2q the states (q = 0 the book's own, 1..6 saved, 7, 8 snapshots), 100+5t/101+5t a text and its signs, 102+5t..104+5t an outcome and its two rows. State: numbers, references, counts (0: texts, 1: outcomes; an id of a state: 1 if made; of a dynamic row: its length) -/
abbrev BS : Type := (Nat → Nat → Int32) × (Nat → Nat → Option Nat) × (Nat → Nat)
def upR (R : Nat → Nat → Option Nat) (a k : Nat) (v : Option Nat) : Nat → Nat → Option Nat := fun x => if x = a then va_up (R a) k v else R x
theorem upR_same (R : Nat → Nat → Option Nat) (a k : Nat) (v : Option Nat) : upR R a k v a = va_up (R a) k v := if_pos rfl
theorem upR_ne (R : Nat → Nat → Option Nat) {a k b : Nat} {v : Option Nat} (h : b ≠ a) : upR R a k v b = R b := if_neg h
def setI (b : BS) (a k : Nat) (v : Int32) : BS := (up2 b.1 a k v, b.2)
def setR (b : BS) (a k : Nat) (v : Option Nat) : BS := (b.1, upR b.2.1 a k v, b.2.2)
def kd (i : Nat) : Nat :=
  if i = 50 then 7 else if i = 52 then 4 else if i = 54 then 0 else if i = 57 then 1 else if i = 63 then 2 else
  if i = 64 ∨ i = 65 then 23 else if i < 70 then 20 else
  if i < 88 then (if i % 2 = 0 then 5 else 22) else
  if i < 100 then 20 else if (i - 100) % 5 = 0 then 6 else if (i - 100) % 5 = 2 then 3 else 20
def lvB (n : Nat → Nat) (i : Nat) : Bool :=
  if i < 50 then false else if i < 66 then true else if i < 70 then false else
  if i < 88 then (decide (i < 72) || decide (n (i - i % 2) = 1)) else if i < 100 then false else
  if (i - 100) % 5 < 2 then decide ((i - 100) / 5 < n 0) else decide ((i - 100) / 5 < n 1)
def lnB (n : Nat → Nat) (i : Nat) : Nat :=
  if i = 51 ∨ i = 53 then 60 else if i = 55 ∨ i = 56 then 26 else if i = 58 then 28380 else if i = 59 then 854 else if i = 60 ∨ i = 61 then 780 else if i = 62 then 360 else if i = 64 then 6 else if i = 65 then 2 else if i < 100 then 26 else n i
def ctB (i ci k : Nat) : Option Nat := match ci, k with
  | 7, 0 => some 70 | 7, 1 => some 63 | 7, 2 => some 51 | 7, 3 => some 52 | 7, 4 => some 54 | 7, 5 => some 57
  | 4, 0 => some 53 | 0, 0 => some 55 | 0, 1 => some 56
  | 1, 0 => some 58 | 1, 1 => some 59 | 1, 2 => some 60 | 1, 3 => some 61 | 1, 4 => some 62
  | 2, 0 => some 64 | 2, 1 => some 65 | 5, 0 => some (i + 1) | 6, 0 => some (i + 1) | 3, 0 => some (i + 1) | 3, 3 => some (i + 2)
  | _, _ => none
def mrB (ci k : Nat) : Bool := decide (ci = 5 ∧ k = 1)
def nfB (ci : Nat) : Nat := match ci with | 0 => 3 | 1 => 14 | 2 => 4 | 3 => 4 | 4 => 10 | 5 => 5 | 6 => 7 | 7 => 7 | _ => 0
def fvB (ad : Nat → Nat) (b : BS) (i ci k : Nat) : Value := match ctB i ci k with
  | some j => .ref (ad j)
  | none => if mrB ci k = true then va_rf ((b.2.1 i k).map ad) else .int (b.1 i k)
def objB (ad : Nat → Nat) (b : BS) (i ci : Nat) : List Value := (List.range (nfB ci)).map (fvB ad b i ci)
def cellB (κ : Nat → ClassId) (ad : Nat → Nat) (b : BS) (i : Nat) : va_E :=
  if kd i < 8 then .inr (kd i, objB ad b i (kd i)) else if kd i = 20 then .inl (κ 0, lnB b.2.2 i, .inl (b.1 i)) else .inl (if kd i = 22 then κ 2 else κ 3, lnB b.2.2 i, .inr (.inr (.inr (.inr (fun k => (b.2.1 i k).map ad)))))
def celB (κ : Nat → ClassId) (ad : Nat → Nat) (r0 : Nat → Option va_E) (b : BS) : Nat → Option va_E := fun i => if i < 50 then r0 i else if lvB b.2.2 i = true then some (cellB κ ad b i) else none
theorem lvB_ge {n : Nat → Nat} {i : Nat} (h : lvB n i = true) : 50 ≤ i := by
  unfold lvB at h
  by_cases c : i < 50
  · rw [if_pos c] at h; cases h
  · omega
theorem celB_at {κ : Nat → ClassId} {ad : Nat → Nat} {r0 : Nat → Option va_E} {b : BS} {i : Nat} (h : lvB b.2.2 i = true) : celB κ ad r0 b i = some (cellB κ ad b i) := by
  unfold celB
  rw [if_neg (by have := lvB_ge h; omega), if_pos h]
theorem cellB_o {κ : Nat → ClassId} {ad : Nat → Nat} {b : BS} {i ci : Nat} (hk : kd i = ci) (h8 : ci < 8) : cellB κ ad b i = .inr (ci, objB ad b i ci) := by
  unfold cellB; rw [hk, if_pos h8]
theorem cellB_a {κ : Nat → ClassId} {ad : Nat → Nat} {b : BS} {i : Nat} (hk : kd i = 20) : cellB κ ad b i = .inl (κ 0, lnB b.2.2 i, .inl (b.1 i)) := by
  unfold cellB; rw [hk, if_neg (by decide), if_pos rfl]
theorem cellB_t {κ : Nat → ClassId} {ad : Nat → Nat} {b : BS} {i : Nat} (hk : kd i = 22) : cellB κ ad b i = .inl (κ 2, lnB b.2.2 i, .inr (.inr (.inr (.inr (fun k => (b.2.1 i k).map ad))))) := by
  unfold cellB; rw [hk, if_neg (by decide), if_neg (by decide), if_pos rfl]
theorem cellB_s {κ : Nat → ClassId} {ad : Nat → Nat} {b : BS} {i : Nat} (hk : kd i = 23) : cellB κ ad b i = .inl (κ 3, lnB b.2.2 i, .inr (.inr (.inr (.inr (fun k => (b.2.1 i k).map ad))))) := by
  unfold cellB; rw [hk, if_neg (by decide), if_neg (by decide), if_neg (by decide)]
theorem objB_get {ad : Nat → Nat} {b : BS} {i ci k : Nat} (hk : k < nfB ci) : (objB ad b i ci)[k]? = some (fvB ad b i ci k) := by
  unfold objB
  rw [List.getElem?_map, List.getElem?_range hk]
  rfl
theorem objB_len {ad : Nat → Nat} {b : BS} {i ci : Nat} : (objB ad b i ci).length = nfB ci := by simp [objB]
theorem objB_setI {ad : Nat → Nat} {b : BS} {i ci k : Nat} {v : Int32} (hk : k < nfB ci) (hc : ctB i ci k = none) (hm : mrB ci k = false) : (objB ad b i ci).set k (.int v) = objB ad (setI b i k v) i ci := by
  apply List.ext_getElem?
  intro j
  by_cases hj : j < nfB ci
  · rw [objB_get hj]
    by_cases e : j = k
    · subst e
      rw [List.getElem?_set_self (by rw [objB_len]; exact hj)]
      unfold fvB
      rw [hc, hm]
      simp [setI, up2_same, upd]
    · rw [List.getElem?_set_ne (Ne.symm e), objB_get hj]
      unfold fvB
      simp [setI, up2_same, upd, e]
  · rw [List.getElem?_eq_none (by simp [objB]; omega), List.getElem?_eq_none (by simp [objB]; omega)]
theorem objB_setR {ad : Nat → Nat} {b : BS} {i ci k : Nat} {v : Option Nat} (hk : k < nfB ci) (hc : ctB i ci k = none) (hm : mrB ci k = true) : (objB ad b i ci).set k (va_rf (v.map ad)) = objB ad (setR b i k v) i ci := by
  apply List.ext_getElem?
  intro j
  by_cases hj : j < nfB ci
  · rw [objB_get hj]
    by_cases e : j = k
    · subst e
      rw [List.getElem?_set_self (by rw [objB_len]; exact hj)]
      unfold fvB
      rw [hc, hm]
      simp [setR, upR_same, va_up]
    · rw [List.getElem?_set_ne (Ne.symm e), objB_get hj]
      unfold fvB
      simp [setR, upR_same, va_up, e]
  · rw [List.getElem?_eq_none (by simp [objB]; omega), List.getElem?_eq_none (by simp [objB]; omega)]
theorem celB_setI {κ : Nat → ClassId} {ad : Nat → Nat} {r0 : Nat → Option va_E} {b : BS} {i k : Nat} {v : Int32} (j : Nat) (h : j ≠ i) : celB κ ad r0 (setI b i k v) j = celB κ ad r0 b j := by
  have e1 : (setI b i k v).1 j = b.1 j := up2_ne b.1 h
  unfold celB cellB objB fvB
  simp only [e1]
  rfl
theorem celB_setR {κ : Nat → ClassId} {ad : Nat → Nat} {r0 : Nat → Option va_E} {b : BS} {i k : Nat} {v : Option Nat} (j : Nat) (h : j ≠ i) : celB κ ad r0 (setR b i k v) j = celB κ ad r0 b j := by
  have e1 : (setR b i k v).2.1 j = b.2.1 j := upR_ne b.2.1 h
  unfold celB cellB objB fvB
  simp only [e1]
  rfl
/-- the table of the class of kind ci -/
def clB (ci : Nat) (C : String) (T : u_T) (ty : Nat → FieldType) : Prop := vwCl[ci]? = some (C, T, nfB ci) ∧ (∀ w ∈ u_ws C T (nfB ci), w ∈ G0) ∧ (∀ k, k < nfB ci → parseFieldDescriptor (T k).2.2.1 = some (ty k)) ∧ (∀ a, a < nfB ci → ∀ b, b < nfB ci → a ≠ b → (T a).2.1 ≠ (T b).2.1) ∧ (∀ k, k < nfB ci → (T k).1 = C) ∧ ci < 8
theorem clX0 : clB 0 RX0 TX0 tyX0 := ⟨rfl, wl_X0, tyX0_ok, nmX0, by decide +kernel, by decide⟩
theorem clX1 : clB 1 RX1 TX1 tyX1 := ⟨rfl, wl_X1, tyX1_ok, nmX1, by decide +kernel, by decide⟩
theorem clX2 : clB 2 RX2 TX2 tyX2 := ⟨rfl, wl_X2, tyX2_ok, nmX2, by decide +kernel, by decide⟩
theorem clX3 : clB 3 RX3 TX3 tyX3 := ⟨rfl, wl_X3, tyX3_ok, nmX3, by decide +kernel, by decide⟩
theorem clX4 : clB 4 RX4 TX4 tyX4 := ⟨rfl, wl_X4, tyX4_ok, nmX4, by decide +kernel, by decide⟩
theorem clX5 : clB 5 RX5 TX5 tyX5 := ⟨rfl, wl_X5, tyX5_ok, nmX5, by decide +kernel, by decide⟩
theorem clX6 : clB 6 RX6 TX6 tyX6 := ⟨rfl, wl_X6, tyX6_ok, nmX6, by decide +kernel, by decide⟩
theorem clX7 : clB 7 RX7 TX7 tyX7 := ⟨rfl, wl_X7, tyX7_ok, nmX7, by decide +kernel, by decide⟩
/-- live and of a kind -/
def okB (n : Nat → Nat) (i ci : Nat) : Bool := lvB n i && decide (kd i = ci)
theorem okB_1 {n : Nat → Nat} {i ci : Nat} (h : okB n i ci = true) : lvB n i = true := by unfold okB at h; simp at h; exact h.1
theorem okB_2 {n : Nat → Nat} {i ci : Nat} (h : okB n i ci = true) : kd i = ci := by unfold okB at h; simp at h; exact h.2
def ck {ρ : Type} (c : Bool) (K : Option ρ) : Option ρ := if c = true then K else none
theorem ck_some {ρ : Type} {c : Bool} {K : Option ρ} {y : ρ} (h : ck c K = some y) : c = true ∧ K = some y := by
  unfold ck at h
  by_cases e : c = true
  · rw [if_pos e] at h; exact ⟨e, h⟩
  · rw [if_neg e] at h; cases h
def on {ρ : Type} : Option Nat → Option ρ → (Nat → Option ρ) → Option ρ
  | none, A, _ => A
  | some t, _, B => B t
def wb {ρ : Type} (b : BS) (a n : Nat) (x v : Int32) (K : BS → Option ρ) : Option ρ := if x < 0 ∨ n ≤ x.toNatClampNeg then none else K (setI b a x.toNatClampNeg v)
def ro {ρ : Type} (f : Nat → Option Nat) (n : Nat) (x : Int32) (K : Option Nat → Option ρ) : Option ρ := if x < 0 ∨ n ≤ x.toNatClampNeg then none else K (f x.toNatClampNeg)
def wo {ρ : Type} (b : BS) (a n : Nat) (x : Int32) (v : Option Nat) (K : BS → Option ρ) : Option ρ := if x < 0 ∨ n ≤ x.toNatClampNeg then none else K (setR b a x.toNatClampNeg v)
theorem wb_some {ρ : Type} {b : BS} {a n : Nat} {x v : Int32} {K : BS → Option ρ} {y : ρ} (h : wb b a n x v K = some y) : vp_in x n ∧ ∃ z1, z1 = setI b a x.toNatClampNeg v ∧ K z1 = some y := by
  unfold wb at h
  by_cases c : x < 0 ∨ n ≤ x.toNatClampNeg
  · rw [if_pos c] at h; cases h
  · rw [if_neg c] at h; exact ⟨c, _, rfl, h⟩
theorem ro_some {ρ : Type} {f : Nat → Option Nat} {n : Nat} {x : Int32} {K : Option Nat → Option ρ} {y : ρ} (h : ro f n x K = some y) : vp_in x n ∧ ∃ o, o = f x.toNatClampNeg ∧ K o = some y := by
  unfold ro at h
  by_cases c : x < 0 ∨ n ≤ x.toNatClampNeg
  · rw [if_pos c] at h; cases h
  · rw [if_neg c] at h; exact ⟨c, _, rfl, h⟩
theorem wo_some {ρ : Type} {b : BS} {a n : Nat} {x : Int32} {v : Option Nat} {K : BS → Option ρ} {y : ρ} (h : wo b a n x v K = some y) : vp_in x n ∧ ∃ z1, z1 = setR b a x.toNatClampNeg v ∧ K z1 = some y := by
  unfold wo at h
  by_cases c : x < 0 ∨ n ≤ x.toNatClampNeg
  · rw [if_pos c] at h; cases h
  · rw [if_neg c] at h; exact ⟨c, _, rfl, h⟩
def woc {ρ : Type} (b : BS) (a n : Nat) (x : Int32) (v : Option Nat) (ci : Nat) (K : BS → Option ρ) : Option ρ := if x < 0 ∨ n ≤ x.toNatClampNeg then none else if (match v with | none => true | some t => okB b.2.2 t ci) = true then K (setR b a x.toNatClampNeg v) else none
theorem woc_some {ρ : Type} {b : BS} {a n : Nat} {x : Int32} {v : Option Nat} {ci : Nat} {K : BS → Option ρ} {y : ρ} (h : woc b a n x v ci K = some y) : vp_in x n ∧ (∀ t, v = some t → okB b.2.2 t ci = true) ∧ ∃ z1, z1 = setR b a x.toNatClampNeg v ∧ K z1 = some y := by
  unfold woc at h
  by_cases c : x < 0 ∨ n ≤ x.toNatClampNeg
  · rw [if_pos c] at h; cases h
  · rw [if_neg c] at h
    cases v with
    | none => exact ⟨c, (fun t e => by cases e), _, rfl, h⟩
    | some t =>
      by_cases e : okB b.2.2 t ci = true
      · exact ⟨c, (fun t' e' => by cases e'; exact e), _, rfl, by simpa [e] using h⟩
      · simp [e] at h
theorem woc_in {ρ : Type} {b : BS} {a n : Nat} {x : Int32} {v : Option Nat} {ci : Nat} {K : BS → Option ρ} (h : vp_in x n) (hv : ∀ t, v = some t → okB b.2.2 t ci = true) : woc b a n x v ci K = K (setR b a x.toNatClampNeg v) := by
  unfold woc
  rw [if_neg h]
  cases v with
  | none => rfl
  | some t => simp [hv t rfl]
section BL
variable {p : Program} {l : Launch} {e : Env} {R : Room} {s : State} {m : MethodId} {args : Array Value} {below : List Frame} {meth : Method} {c : Code} {H : Heap} {locs : List Loc} {cells slots : Nat} {Q : State → Prop}
variable {cc : ByteArray} {pc nL : Nat} {ls : Array Slot} {rest : List Value} {D : va_G} {κ : Nat → ClassId} {A : Nat → Prop} {ad : Nat → Nat} {r0 : Nat → Option va_E} {b : BS} {own : String} {lv : List (Nat × Value)}
theorem B_geti (X : CallFix p m c cc nL s args G0 own) (G : Mm D κ A ad (celB κ ad r0 b) s H locs) {i ci k index a : Nat} {C : String} {T : u_T} {ty : Nat → FieldType} (ha : a = ad i) (hB : clB ci C T ty) (hi : okB b.2.2 i ci = true) (hk : k < nfB ci) (hc : ctB i ci k = none) (hm : mrB ci k = false) (hl : Cond.fieldLink own index C (T k).2.1 (T k).2.2.1 ∈ G0) (hdg : decode cc pc = .ok (.getfield index, 3))
    (kk : W p l e R s m args below meth c H locs cells slots Q (F0 m (pc + 3) ls (.int (b.1 i k) :: rest))) : W p l e R s m args below meth c H locs cells slots Q (F0 m pc ls (.ref a :: rest)) := by
  subst ha
  exact m_get X G ((celB_at (okB_1 hi)).trans (congrArg some (cellB_o (okB_2 hi) hB.2.2.2.2.2))) hB.1 hB.2.1 hk hl (hB.2.2.2.2.1 k hk) ((objB_get hk).trans (congrArg some (by unfold fvB; rw [hc, hm]; rfl))) hdg kk
theorem B_getc (X : CallFix p m c cc nL s args G0 own) (G : Mm D κ A ad (celB κ ad r0 b) s H locs) {i ci k j index a : Nat} {C : String} {T : u_T} {ty : Nat → FieldType} (ha : a = ad i) (hB : clB ci C T ty) (hi : okB b.2.2 i ci = true) (hk : k < nfB ci) (hc : ctB i ci k = some j) (hl : Cond.fieldLink own index C (T k).2.1 (T k).2.2.1 ∈ G0) (hdg : decode cc pc = .ok (.getfield index, 3))
    (kk : W p l e R s m args below meth c H locs cells slots Q (F0 m (pc + 3) ls (.ref (ad j) :: rest))) : W p l e R s m args below meth c H locs cells slots Q (F0 m pc ls (.ref a :: rest)) := by
  subst ha
  exact m_get X G ((celB_at (okB_1 hi)).trans (congrArg some (cellB_o (okB_2 hi) hB.2.2.2.2.2))) hB.1 hB.2.1 hk hl (hB.2.2.2.2.1 k hk) ((objB_get hk).trans (congrArg some (by unfold fvB; rw [hc]))) hdg kk
theorem B_getm (X : CallFix p m c cc nL s args G0 own) (G : Mm D κ A ad (celB κ ad r0 b) s H locs) {i ci k index a : Nat} {C : String} {T : u_T} {ty : Nat → FieldType} {o : Option Nat} (ha : a = ad i) (hB : clB ci C T ty) (hi : okB b.2.2 i ci = true) (hk : k < nfB ci) (hc : ctB i ci k = none) (hm : mrB ci k = true) (ho : o = b.2.1 i k) (hl : Cond.fieldLink own index C (T k).2.1 (T k).2.2.1 ∈ G0) (hdg : decode cc pc = .ok (.getfield index, 3))
    (kk : W p l e R s m args below meth c H locs cells slots Q (F0 m (pc + 3) ls (va_rf (o.map ad) :: rest))) : W p l e R s m args below meth c H locs cells slots Q (F0 m pc ls (.ref a :: rest)) := by
  subst ha; subst ho
  exact m_get X G ((celB_at (okB_1 hi)).trans (congrArg some (cellB_o (okB_2 hi) hB.2.2.2.2.2))) hB.1 hB.2.1 hk hl (hB.2.2.2.2.1 k hk) ((objB_get hk).trans (congrArg some (by unfold fvB; rw [hc, hm]; rfl))) hdg kk
theorem B_puti (X : CallFix p m c cc nL s args G0 own) (G : Mm D κ A ad (celB κ ad r0 b) s H locs) {i ci k index a : Nat} {C : String} {T : u_T} {ty : Nat → FieldType} {v : Int32} {b1 : BS} (hb1 : b1 = setI b i k v) (ha : a = ad i) (hB : clB ci C T ty) (hi : okB b.2.2 i ci = true) (hk : k < nfB ci) (hc : ctB i ci k = none) (hm : mrB ci k = false) (ht : ty k = .int) (hf : (T k).2.2.2 = false) (hl : Cond.fieldLink own index C (T k).2.1 (T k).2.2.1 ∈ G0) (hdg : decode cc pc = .ok (.putfield index, 3))
    (kk : ∀ (H : Heap) (locs : List Loc), Mm D κ A ad (celB κ ad r0 b1) s H locs → W p l e R s m args below meth c H locs cells slots Q (F0 m (pc + 3) ls rest)) : W p l e R s m args below meth c H locs cells slots Q (F0 m pc ls (.int v :: .ref a :: rest)) := by
  subst ha; subst hb1
  have hi' : okB (setI b i k v).2.2 i ci = true := hi
  exact m_put X G ((celB_at (okB_1 hi)).trans (congrArg some (cellB_o (okB_2 hi) hB.2.2.2.2.2))) hB.1 hB.2.1 hB.2.2.1 hB.2.2.2.1 hk hl (hB.2.2.2.2.1 k hk) hf (by rw [ht]; exact vp_nar_int v) (by rw [ht]; rfl) (by rw [objB_len]; exact hk) ((celB_at (okB_1 hi')).trans (congrArg some ((cellB_o (okB_2 hi) hB.2.2.2.2.2).trans (by rw [objB_setI hk hc hm])))) (fun j hj => celB_setI j hj) hdg kk
theorem B_putz (X : CallFix p m c cc nL s args G0 own) (G : Mm D κ A ad (celB κ ad r0 b) s H locs) {i ci k index a : Nat} {C : String} {T : u_T} {ty : Nat → FieldType} {v : Int32} {b1 : BS} (hb1 : b1 = setI b i k v) (hv : v = 0 ∨ v = 1) (ha : a = ad i) (hB : clB ci C T ty) (hi : okB b.2.2 i ci = true) (hk : k < nfB ci) (hc : ctB i ci k = none) (hm : mrB ci k = false) (ht : ty k = .boolean) (hf : (T k).2.2.2 = false) (hl : Cond.fieldLink own index C (T k).2.1 (T k).2.2.1 ∈ G0) (hdg : decode cc pc = .ok (.putfield index, 3))
    (kk : ∀ (H : Heap) (locs : List Loc), Mm D κ A ad (celB κ ad r0 b1) s H locs → W p l e R s m args below meth c H locs cells slots Q (F0 m (pc + 3) ls rest)) : W p l e R s m args below meth c H locs cells slots Q (F0 m pc ls (.int v :: .ref a :: rest)) := by
  subst ha; subst hb1
  have hi' : okB (setI b i k v).2.2 i ci = true := hi
  exact m_put X G ((celB_at (okB_1 hi)).trans (congrArg some (cellB_o (okB_2 hi) hB.2.2.2.2.2))) hB.1 hB.2.1 hB.2.2.1 hB.2.2.2.1 hk hl (hB.2.2.2.2.1 k hk) hf (by rw [ht]; rcases hv with rfl | rfl <;> rfl) (by rw [ht]; rcases hv with rfl | rfl <;> rfl) (by rw [objB_len]; exact hk) ((celB_at (okB_1 hi')).trans (congrArg some ((cellB_o (okB_2 hi) hB.2.2.2.2.2).trans (by rw [objB_setI hk hc hm])))) (fun j hj => celB_setI j hj) hdg kk
theorem B_putm (X : CallFix p m c cc nL s args G0 own) (G : Mm D κ A ad (celB κ ad r0 b) s H locs) {i ci k index a : Nat} {v : Option Nat} {C : String} {T : u_T} {ty : Nat → FieldType} {cn : String} {b1 : BS} (hb1 : b1 = setR b i k v) (ha : a = ad i) (hB : clB ci C T ty) (hi : okB b.2.2 i ci = true) (hk : k < nfB ci) (hc : ctB i ci k = none) (hm : mrB ci k = true) (ht : ty k = .object cn) (hf : (T k).2.2.2 = false) (hl : Cond.fieldLink own index C (T k).2.1 (T k).2.2.1 ∈ G0) (hdg : decode cc pc = .ok (.putfield index, 3))
    (kk : ∀ (H : Heap) (locs : List Loc), Mm D κ A ad (celB κ ad r0 b1) s H locs → W p l e R s m args below meth c H locs cells slots Q (F0 m (pc + 3) ls rest)) : W p l e R s m args below meth c H locs cells slots Q (F0 m pc ls (va_rf (v.map ad) :: .ref a :: rest)) := by
  subst ha; subst hb1
  have hi' : okB (setR b i k v).2.2 i ci = true := hi
  exact m_put X G ((celB_at (okB_1 hi)).trans (congrArg some (cellB_o (okB_2 hi) hB.2.2.2.2.2))) hB.1 hB.2.1 hB.2.2.1 hB.2.2.2.1 hk hl (hB.2.2.2.2.1 k hk) hf (by rw [ht]; cases v <;> rfl) (by rw [ht]; cases v <;> rfl) (by rw [objB_len]; exact hk) ((celB_at (okB_1 hi')).trans (congrArg some ((cellB_o (okB_2 hi) hB.2.2.2.2.2).trans (by rw [← objB_setR hk hc hm])))) (fun j hj => celB_setR j hj) hdg kk
theorem B_iald (X : CallFix p m c cc nL s args G0 own) (G : Mm D κ A ad (celB κ ad r0 b) s H locs) {i n a : Nat} {x : Int32} (ha : a = ad i) (hi : okB b.2.2 i 20 = true) (hn : lnB b.2.2 i = n) (hin : vp_in x n) (hdg : decode cc pc = .ok (.iaload, 1))
    (kk : W p l e R s m args below meth c H locs cells slots Q (F0 m (pc + 1) ls (.int (b.1 i x.toNatClampNeg) :: rest))) : W p l e R s m args below meth c H locs cells slots Q (F0 m pc ls (.int x :: .ref a :: rest)) := by
  subst ha
  exact m_iald X G ((celB_at (okB_1 hi)).trans (congrArg some (cellB_a (okB_2 hi)))) (by rw [hn]; exact hin) hdg kk
theorem B_iast (X : CallFix p m c cc nL s args G0 own) (G : Mm D κ A ad (celB κ ad r0 b) s H locs) {i n a : Nat} {x v : Int32} {b1 : BS} (hb1 : b1 = setI b i x.toNatClampNeg v) (ha : a = ad i) (hi : okB b.2.2 i 20 = true) (hn : lnB b.2.2 i = n) (hin : vp_in x n) (hdg : decode cc pc = .ok (.iastore, 1))
    (kk : ∀ (H : Heap) (locs : List Loc), Mm D κ A ad (celB κ ad r0 b1) s H locs → W p l e R s m args below meth c H locs cells slots Q (F0 m (pc + 1) ls rest)) : W p l e R s m args below meth c H locs cells slots Q (F0 m pc ls (.int v :: .int x :: .ref a :: rest)) := by
  subst ha; subst hb1
  have hi' : okB (setI b i x.toNatClampNeg v).2.2 i 20 = true := hi
  exact m_iast X G ((celB_at (okB_1 hi)).trans (congrArg some (cellB_a (okB_2 hi)))) (by rw [hn]; exact hin) ((celB_at (okB_1 hi')).trans (congrArg some ((cellB_a (okB_2 hi)).trans (by simp only [setI, up2_same])))) (fun j hj => celB_setI j hj) hdg kk
theorem B_alen (X : CallFix p m c cc nL s args G0 own) (G : Mm D κ A ad (celB κ ad r0 b) s H locs) {i n a : Nat} (ha : a = ad i) (hi : okB b.2.2 i 20 = true) (hn : lnB b.2.2 i = n) (hdg : decode cc pc = .ok (.arraylength, 1))
    (kk : W p l e R s m args below meth c H locs cells slots Q (F0 m (pc + 1) ls (.int (nI n) :: rest))) : W p l e R s m args below meth c H locs cells slots Q (F0 m pc ls (.ref a :: rest)) := by
  subst ha
  exact m_alen X G (t0 := 0) (cA := κ 0) (ty := .int) ((celB_at (okB_1 hi)).trans (congrArg some (cellB_a (okB_2 hi)))) rfl hn hdg kk
theorem B_alenS (X : CallFix p m c cc nL s args G0 own) (G : Mm D κ A ad (celB κ ad r0 b) s H locs) {i n a : Nat} (ha : a = ad i) (hi : okB b.2.2 i 23 = true) (hn : lnB b.2.2 i = n) (hdg : decode cc pc = .ok (.arraylength, 1))
    (kk : W p l e R s m args below meth c H locs cells slots Q (F0 m (pc + 1) ls (.int (nI n) :: rest))) : W p l e R s m args below meth c H locs cells slots Q (F0 m pc ls (.ref a :: rest)) := by
  subst ha
  exact m_alen X G (t0 := 3) (cA := κ 3) (ty := .object RX5) ((celB_at (okB_1 hi)).trans (congrArg some (cellB_s (okB_2 hi)))) rfl hn hdg kk
theorem B_aldt (X : CallFix p m c cc nL s args G0 own) (G : Mm D κ A ad (celB κ ad r0 b) s H locs) {i n a : Nat} {x : Int32} {o : Option Nat} (ha : a = ad i) (hi : okB b.2.2 i 22 = true) (hn : lnB b.2.2 i = n) (hin : vp_in x n) (ho : o = b.2.1 i x.toNatClampNeg) (hdg : decode cc pc = .ok (.aaload, 1))
    (kk : W p l e R s m args below meth c H locs cells slots Q (F0 m (pc + 1) ls (va_rf (o.map ad) :: rest))) : W p l e R s m args below meth c H locs cells slots Q (F0 m pc ls (.int x :: .ref a :: rest)) := by
  subst ha; subst ho
  exact va_aldq X.1 X.2.1 G.1 (G.at ((celB_at (okB_1 hi)).trans (congrArg some (cellB_t (okB_2 hi))))) 0 2 rfl rfl (by rw [hn]; exact hin) hdg kk
theorem B_alds (X : CallFix p m c cc nL s args G0 own) (G : Mm D κ A ad (celB κ ad r0 b) s H locs) {i n a : Nat} {x : Int32} {o : Option Nat} (ha : a = ad i) (hi : okB b.2.2 i 23 = true) (hn : lnB b.2.2 i = n) (hin : vp_in x n) (ho : o = b.2.1 i x.toNatClampNeg) (hdg : decode cc pc = .ok (.aaload, 1))
    (kk : W p l e R s m args below meth c H locs cells slots Q (F0 m (pc + 1) ls (va_rf (o.map ad) :: rest))) : W p l e R s m args below meth c H locs cells slots Q (F0 m pc ls (.int x :: .ref a :: rest)) := by
  subst ha; subst ho
  exact va_aldq X.1 X.2.1 G.1 (G.at ((celB_at (okB_1 hi)).trans (congrArg some (cellB_s (okB_2 hi))))) 0 3 rfl rfl (by rw [hn]; exact hin) hdg kk
theorem B_astn (X : CallFix p m c cc nL s args G0 own) (G : Mm D κ A ad (celB κ ad r0 b) s H locs) {i n a : Nat} {x : Int32} {b1 : BS} (hb1 : b1 = setR b i x.toNatClampNeg none) (ha : a = ad i) (hi : okB b.2.2 i 22 = true) (hn : lnB b.2.2 i = n) (hin : vp_in x n) (hdg : decode cc pc = .ok (.aastore, 1))
    (kk : ∀ (H : Heap) (locs : List Loc), Mm D κ A ad (celB κ ad r0 b1) s H locs → W p l e R s m args below meth c H locs cells slots Q (F0 m (pc + 1) ls rest)) : W p l e R s m args below meth c H locs cells slots Q (F0 m pc ls (.null :: .int x :: .ref a :: rest)) := by
  subst ha; subst hb1
  have hi' : okB (setR b i x.toNatClampNeg none).2.2 i 22 = true := hi
  have hM := (celB_at (κ := κ) (ad := ad) (r0 := r0) (okB_1 hi)).trans (congrArg some (cellB_t (okB_2 hi)))
  refine va_WaastN (C := RX6) X.1 X.2.1 (G.2.1 i _ hM).1 ((G.1.2 2 (κ 2, .object RX6) rfl).1 _ (fun j => va_rf ((b.2.1 i j).map ad))) (fun h => by cases h) (by show ¬ (x < 0 ∨ (arrV _ _ _).slots.size ≤ _); rw [arrV_size, hn]; exact hin) rfl rfl hdg fun H1 e z oq => ?_
  refine kk H1 _ (G.put hM ((celB_at (okB_1 hi')).trans (congrArg some (cellB_t (okB_2 hi)))) (fun j hj => celB_setR j hj) ?_ z oq)
  show H1[ad i]? = some (vp_cell _ _)
  rw [e]
  rw [vp_cell_q, vp_cell_q, arrV_store]
  congr 2
  funext q
  by_cases hq : q = x.toNatClampNeg
  · subst hq
    simp [updV, setR, upR_same, va_up, va_rf]
  · simp [updV, setR, upR_same, va_up, hq]
theorem B_ast (X : CallFix p m c cc nL s args G0 own) (G : Mm D κ A ad (celB κ ad r0 b) s H locs) {i n a j ci t0 kk0 : Nat} {C : String} {T : u_T} {ty : Nat → FieldType} {x : Int32} {b1 : BS} (hb1 : b1 = setR b i x.toNatClampNeg (some j)) (ha : a = ad i) (hk0 : (kk0 = 22 ∧ ci = 6 ∧ t0 = 2) ∨ (kk0 = 23 ∧ ci = 5 ∧ t0 = 3)) (hi : okB b.2.2 i kk0 = true) (hn : lnB b.2.2 i = n) (hin : vp_in x n) (hB : clB ci C T ty) (hj : okB b.2.2 j ci = true) (ht : (tysK κ)[t0]? = some (κ t0, .object C)) (hdg : decode cc pc = .ok (.aastore, 1))
    (kk : ∀ (H : Heap) (locs : List Loc), Mm D κ A ad (celB κ ad r0 b1) s H locs → W p l e R s m args below meth c H locs cells slots Q (F0 m (pc + 1) ls rest)) : W p l e R s m args below meth c H locs cells slots Q (F0 m pc ls (.ref (ad j) :: .int x :: .ref a :: rest)) := by
  subst ha; subst hb1
  have hlt : x.toNatClampNeg < n := Nat.not_le.mp fun q => hin (Or.inr q)
  have h0 : ¬ x < 0 := fun q => hin (Or.inl q)
  have hi' : okB (setR b i x.toNatClampNeg (some j)).2.2 i kk0 = true := hi
  have cel : ∀ b' : BS, kd i = kk0 → cellB κ ad b' i = .inl (κ t0, lnB b'.2.2 i, .inr (.inr (.inr (.inr (fun k => (b'.2.1 i k).map ad))))) := by
    intro b' hkd
    rcases hk0 with ⟨h1, h2, h3⟩ | ⟨h1, h2, h3⟩
    · subst h3; exact cellB_t (hkd.trans h1)
    · subst h3; exact cellB_s (hkd.trans h1)
  have hM := (celB_at (κ := κ) (ad := ad) (r0 := r0) (okB_1 hi)).trans (congrArg some (cel b (okB_2 hi)))
  have hV := (celB_at (κ := κ) (ad := ad) (r0 := r0) (okB_1 hj)).trans (congrArg some (cellB_o (okB_2 hj) hB.2.2.2.2.2))
  obtain ⟨r', hr', cellV, g1, g2, g3, -⟩ := (G.2.1 j _ hV).1
  have hcls := (G.1.1 ci (C, T, nfB ci) hB.1).2
  obtain ⟨kA, comp, k1, k2, k3, -⟩ := (G.1.2 t0 _ ht).2
  have hcomp : comp = D.1 ci := Option.some.inj (k3.symm.trans hcls.1)
  subst hcomp
  obtain ⟨kC, hkC, -⟩ := hcls.2
  refine W.aast X.1 X.2.1 (G.2.1 i _ hM).1 (fun q h => by cases h) (fun h => by cases h) k1 k2 rfl hkC ⟨h0, by show _ < (arrV _ _ _).slots.size; rw [arrV_size, hn]; exact hlt⟩ g1 (fun q h => by rw [g3] at h; cases h) (by rw [g2]; exact hkC) (by rw [g2]; exact va_assign hcls) rfl rfl hdg fun H1 e z oq => ?_
  refine kk H1 _ (G.put hM ((celB_at (okB_1 hi')).trans (congrArg some (cel _ (okB_2 hi)))) (fun j hj => celB_setR j hj) ?_ z oq)
  show H1[ad i]? = some (vp_cell _ _)
  rw [e]
  rw [vp_cell_q, vp_cell_q, arrV_store]
  congr 2
  funext q
  by_cases hq : q = x.toNatClampNeg
  · subst hq
    simp [updV, setR, upR_same, va_up, va_rf]
  · simp [updV, setR, upR_same, va_up, hq]
theorem B_asto (X : CallFix p m c cc nL s args G0 own) (G : Mm D κ A ad (celB κ ad r0 b) s H locs) {i n a : Nat} {x : Int32} {v : Option Nat} {b1 : BS} (hb1 : b1 = setR b i x.toNatClampNeg v) (ha : a = ad i) (hi : okB b.2.2 i 22 = true) (hn : lnB b.2.2 i = n) (hin : vp_in x n) (hv : ∀ t, v = some t → okB b.2.2 t 6 = true) (hdg : decode cc pc = .ok (.aastore, 1))
    (kk : ∀ (H : Heap) (locs : List Loc), Mm D κ A ad (celB κ ad r0 b1) s H locs → W p l e R s m args below meth c H locs cells slots Q (F0 m (pc + 1) ls rest)) : W p l e R s m args below meth c H locs cells slots Q (F0 m pc ls (va_rf (v.map ad) :: .int x :: .ref a :: rest)) := by
  cases v with
  | none => exact B_astn X G hb1 ha hi hn hin hdg kk
  | some t => exact B_ast X G (C := RX6) (T := TX6) (ty := tyX6) hb1 ha (Or.inl ⟨rfl, rfl, rfl⟩) hi hn hin clX6 (hv t rfl) rfl hdg kk
theorem lq_aload_n (X : CallFix p m c cc nL s args G0 own) {k : Fin 4} {i : Nat} {r : Option Nat} (hdg : decode cc pc = .ok (.aload_n k, 1)) (hi : (k : Nat) = i) (hl : ls[i]? = some (.val (va_rf r)))
    (kk : W p l e R s m args below meth c H locs cells slots Q (F0 m (pc + 1) ls (va_rf r :: rest))) : W p l e R s m args below meth c H locs cells slots Q (F0 m pc ls rest) := by
  cases r with
  | none => exact lv_aload_nN X.1 X.2.1 hdg hi hl kk
  | some x => exact lv_aload_n X.1 X.2.1 hdg hi hl kk
theorem lq_aload (X : CallFix p m c cc nL s args G0 own) {i : Nat} {r : Option Nat} (hdg : decode cc pc = .ok (.aload i, 2)) (hl : ls[i]? = some (.val (va_rf r)))
    (kk : W p l e R s m args below meth c H locs cells slots Q (F0 m (pc + 2) ls (va_rf r :: rest))) : W p l e R s m args below meth c H locs cells slots Q (F0 m pc ls rest) := by
  cases r with
  | none => exact lv_aloadN X.1 X.2.1 hdg hl kk
  | some x => exact lv_aload X.1 X.2.1 hdg hl kk
theorem lq_astore_n (X : CallFix p m c cc nL s args G0 own) {k : Fin 4} {i : Nat} {r : Option Nat} {lv' : List (Nat × Value)} (hdg : decode cc pc = .ok (.astore_n k, 1)) (hi : (k : Nat) = i) (h : lv_has ls nL lv) (hn : i < nL) (hl : (i, va_rf r) :: lv.filter (fun q => !(q.1 == i) && !(q.1 + 1 == i && q.2.category == 2)) = lv')
    (kk : ∀ ls' : Array Slot, lv_has ls' nL lv' → W p l e R s m args below meth c H locs cells slots Q (F0 m (pc + 1) ls' rest)) : W p l e R s m args below meth c H locs cells slots Q (F0 m pc ls (va_rf r :: rest)) := by
  cases r with
  | none => exact lv_astore_nN X.1 X.2.1 hdg hi h hn hl kk
  | some x => exact lv_astore_n X.1 X.2.1 hdg hi h hn hl kk
theorem lq_astore (X : CallFix p m c cc nL s args G0 own) {i : Nat} {r : Option Nat} {lv' : List (Nat × Value)} (hdg : decode cc pc = .ok (.astore i, 2)) (h : lv_has ls nL lv) (hn : i < nL) (hl : (i, va_rf r) :: lv.filter (fun q => !(q.1 == i) && !(q.1 + 1 == i && q.2.category == 2)) = lv')
    (kk : ∀ ls' : Array Slot, lv_has ls' nL lv' → W p l e R s m args below meth c H locs cells slots Q (F0 m (pc + 2) ls' rest)) : W p l e R s m args below meth c H locs cells slots Q (F0 m pc ls (va_rf r :: rest)) := by
  cases r with
  | none => exact lv_astoreN X.1 X.2.1 hdg h hn hl kk
  | some x => exact lv_astore X.1 X.2.1 hdg h hn hl kk
theorem lq_mmax (X : CallFix p m c cc nL s args G0 own) {index : Nat} (hl : lv_has ls nL lv) (hlink : Cond.methodLink own index Lib.Math.max.name ∈ G0) (hstat : Cond.static Lib.Math.max.name ∈ G0) (hini : Cond.initialized "java/lang/Math" ∈ G0) (hcode : Cond.code Lib.Math.max.name Lib.Math.max.code 2 (some .int) ∈ G0) (hframes : 1 ≤ R.frames) (hlocals : (rest.map fun v => v.category).sum + 13 ≤ R.locals) (hc : cells ≤ R.cells) (hs : slots ≤ R.slots) {x y : Int32} (hdg : decode cc pc = .ok (.invokestatic index, 3))
    (kk : W p l e R s m args below meth c H locs cells slots Q (F0 m (pc + 3) ls (.int (if x < y then y else x) :: rest))) : W p l e R s m args below meth c H locs cells slots Q (F0 m pc ls (.int y :: .int x :: rest)) :=
  va_mmax X.1 X.2.1 (X.2.2.1.trans hl.1.symm) X.2.2.2.1 (X.2.2.2.2 _ hlink) (X.2.2.2.2 _ hstat) (X.2.2.2.2 _ hini) (X.2.2.2.2 _ hcode) hframes hlocals hc hs hdg kk
theorem lq_mmin (X : CallFix p m c cc nL s args G0 own) {index : Nat} (hl : lv_has ls nL lv) (hlink : Cond.methodLink own index Lib.Math.min.name ∈ G0) (hstat : Cond.static Lib.Math.min.name ∈ G0) (hini : Cond.initialized "java/lang/Math" ∈ G0) (hcode : Cond.code Lib.Math.min.name Lib.Math.min.code 2 (some .int) ∈ G0) (hframes : 1 ≤ R.frames) (hlocals : (rest.map fun v => v.category).sum + 13 ≤ R.locals) (hc : cells ≤ R.cells) (hs : slots ≤ R.slots) {x y : Int32} (hdg : decode cc pc = .ok (.invokestatic index, 3))
    (kk : W p l e R s m args below meth c H locs cells slots Q (F0 m (pc + 3) ls (.int (if y < x then y else x) :: rest))) : W p l e R s m args below meth c H locs cells slots Q (F0 m pc ls (.int y :: .int x :: rest)) :=
  va_mmin X.1 X.2.1 (X.2.2.1.trans hl.1.symm) X.2.2.2.1 (X.2.2.2.2 _ hlink) (X.2.2.2.2 _ hstat) (X.2.2.2.2 _ hini) (X.2.2.2.2 _ hcode) hframes hlocals hc hs hdg kk
end BL
theorem w_max_s : Cond.static Lib.Math.max.name ∈ G0 := gq (by decide +kernel) rfl
theorem w_max_c : Cond.code Lib.Math.max.name Lib.Math.max.code 2 (some .int) ∈ G0 := gq (by decide +kernel) rfl
theorem w_min_s : Cond.static Lib.Math.min.name ∈ G0 := gq (by decide +kernel) rfl
theorem w_min_c : Cond.code Lib.Math.min.name Lib.Math.min.code 2 (some .int) ∈ G0 := gq (by decide +kernel) rfl
theorem w_math : Cond.initialized "java/lang/Math" ∈ G0 := gq (by decide +kernel) rfl
abbrev QR (D : va_G) (κ : Nat → ClassId) (A : Nat → Prop) (ad : Nat → Nat) (M' : Nat → Option va_E) (v : Option Nat) : Array Value → State → Outcome → State → Prop := va_Qq (fun (x : Option Nat) (_ : Unit) => x = v.map ad) (fun _ t => MW D κ A ad M' t) A
section BC
variable {p : Program} {l : Launch} {e : Env} {R : Room} {s : State} {m : MethodId} {args : Array Value} {below : List Frame} {meth : Method} {c : Code} {H : Heap} {locs : List Loc} {cells slots : Nat} {Q : State → Prop}
variable {cc : ByteArray} {pc nL : Nat} {ls : Array Slot} {rest : List Value} {D : va_G} {κ : Nat → ClassId} {A : Nat → Prop} {ad : Nat → Nat} {r0 : Nat → Option va_E} {b : BS} {own : String} {lv : List (Nat × Value)} {M M' : Nat → Option va_E}
theorem m_aret (X : CallFix p m c cc nL s args G0 own) (G : Mm D κ A ad M s H locs) {x v : Option Nat} {rt : FieldType} (hr : meth.sig.returnType = some rt) (hrt : (∃ n, rt = .object n) ∨ ∃ t, rt = .array t) (hl : meth.locks = false) (hdg : decode cc pc = .ok (.areturn, 1)) (hx : x = v) (hM : M = M') : W p l e R s m args below meth c H locs cells slots (MQ below (QR D κ A ad M' v) args s cells slots A) (F0 m pc ls [va_rf (x.map ad)]) := by
  subst hx; subst hM
  exact W.aret X.1 X.2.1 hr hrt (by cases x with | none => exact Or.inl rfl | some a => exact Or.inr ⟨_, rfl⟩) (fun t ht hW => ⟨⟨x.map ad, (), rfl, rfl, G.out ht hW⟩, G.2.2.2.2.1.F ht⟩) G.2.2.2.2.1.2.2 hdg hl
theorem B_calli (X : CallFix p m c cc nL s args G0 own) (G : Mm D κ A ad M s H locs) {n index maxL i a ci N : Nat} {As st fs : List Value} {C : String} {T : u_T} {y : MethodName} {bb : ByteArray} {ret : FieldType} {rm : Room} {v : Int32} (h0 : rm.cells = 0) (h1 : rm.slots = 0) (ha : a = ad i)
    (hM : Met l y (gw y bb maxL (some ret)) rm (va_Pc (.ref a :: As) (MW D κ A ad M)) (QI D κ A ad M' v) 0 0 A) (hi : M i = some (.inr (ci, fs))) (hc : vwCl[ci]? = some (C, T, N)) (hG : GoodIn G0 (wsV own index C y (gw y bb maxL (some ret))))
    (hd : y.cls = C ∧ y.cls ≠ "java/lang/invoke/MethodHandle" ∧ y.cls ≠ "java/lang/invoke/VarHandle" ∧ (parseMethodDescriptor y.desc).map (fun d => d.parameters.length) = some n) (hR : rm.frames + 1 ≤ R.frames ∧ 8 + (maxL + 11) + rm.locals ≤ R.locals) (hn : As.length = n) (hl : lv_has ls nL lv) (hst : st = As.reverse ++ .ref a :: rest) (hW : 2 * (F0 m pc ls st).monitorRoom + (rest.map fun v => v.category).sum ≤ 8) (hdg : decode cc pc = .ok (.invokevirtual index, 3)) (hf : cells ≤ R.cells ∧ slots ≤ R.slots)
    (kk : ∀ (H : Heap) (locs : List Loc), Mm D κ A ad M' s H locs → W p l e R s m args below meth c H locs cells slots Q (F0 m (pc + 3) ls (.int v :: rest))) : W p l e R s m args below meth c H locs cells slots Q (F0 m pc ls st) := by
  subst ha
  exact m_calli X G (rm := rm) (by rw [h0, h1]; exact hM) hi hc hG hd hR hn hl hst hW hdg (by rw [h0, h1]; exact hf) (by rw [h0, h1]; exact kk)
theorem B_callv (X : CallFix p m c cc nL s args G0 own) (G : Mm D κ A ad M s H locs) {n index maxL i a ci N : Nat} {As st fs : List Value} {C : String} {T : u_T} {y : MethodName} {bb : ByteArray} {rm : Room} (h0 : rm.cells = 0) (h1 : rm.slots = 0) (ha : a = ad i)
    (hM : Met l y (gw y bb maxL none) rm (va_Pc (.ref a :: As) (MW D κ A ad M)) (QV D κ A ad M') 0 0 A) (hi : M i = some (.inr (ci, fs))) (hc : vwCl[ci]? = some (C, T, N)) (hG : GoodIn G0 (wsV own index C y (gw y bb maxL none)))
    (hd : y.cls = C ∧ y.cls ≠ "java/lang/invoke/MethodHandle" ∧ y.cls ≠ "java/lang/invoke/VarHandle" ∧ (parseMethodDescriptor y.desc).map (fun d => d.parameters.length) = some n) (hR : rm.frames + 1 ≤ R.frames ∧ 8 + (maxL + 11) + rm.locals ≤ R.locals) (hn : As.length = n) (hl : lv_has ls nL lv) (hst : st = As.reverse ++ .ref a :: rest) (hW : 2 * (F0 m pc ls st).monitorRoom + (rest.map fun v => v.category).sum ≤ 8) (hdg : decode cc pc = .ok (.invokevirtual index, 3)) (hf : cells ≤ R.cells ∧ slots ≤ R.slots)
    (kk : ∀ (H : Heap) (locs : List Loc), Mm D κ A ad M' s H locs → W p l e R s m args below meth c H locs cells slots Q (F0 m (pc + 3) ls rest)) : W p l e R s m args below meth c H locs cells slots Q (F0 m pc ls st) := by
  subst ha
  exact m_callv X G (rm := rm) (by rw [h0, h1]; exact hM) hi hc hG hd hR hn hl hst hW hdg (by rw [h0, h1]; exact hf) (by rw [h0, h1]; exact kk)
theorem B_callq (X : CallFix p m c cc nL s args G0 own) (G : Mm D κ A ad M s H locs) {n index maxL i a ci N : Nat} {As st fs : List Value} {C : String} {T : u_T} {y : MethodName} {bb : ByteArray} {ret : FieldType} {rm : Room} {v : Option Nat} (h0 : rm.cells = 0) (h1 : rm.slots = 0) (ha : a = ad i)
    (hM : Met l y (gw y bb maxL (some ret)) rm (va_Pc (.ref a :: As) (MW D κ A ad M)) (QR D κ A ad M' v) 0 0 A) (hi : M i = some (.inr (ci, fs))) (hc : vwCl[ci]? = some (C, T, N)) (hG : GoodIn G0 (wsV own index C y (gw y bb maxL (some ret))))
    (hd : y.cls = C ∧ y.cls ≠ "java/lang/invoke/MethodHandle" ∧ y.cls ≠ "java/lang/invoke/VarHandle" ∧ (parseMethodDescriptor y.desc).map (fun d => d.parameters.length) = some n) (hR : rm.frames + 1 ≤ R.frames ∧ 8 + (maxL + 11) + rm.locals ≤ R.locals) (hn : As.length = n) (hl : lv_has ls nL lv) (hst : st = As.reverse ++ .ref a :: rest) (hW : 2 * (F0 m pc ls st).monitorRoom + (rest.map fun v => v.category).sum ≤ 8) (hdg : decode cc pc = .ok (.invokevirtual index, 3)) (hf : cells ≤ R.cells ∧ slots ≤ R.slots)
    (kk : ∀ (H : Heap) (locs : List Loc), Mm D κ A ad M' s H locs → W p l e R s m args below meth c H locs cells slots Q (F0 m (pc + 3) ls (va_rf (v.map ad) :: rest))) : W p l e R s m args below meth c H locs cells slots Q (F0 m pc ls st) := by
  subst ha
  have hM' : Met l y (gw y bb maxL (some ret)) rm (va_Pc (.ref (ad i) :: As) (MW D κ A ad M)) (QR D κ A ad M' v) rm.cells rm.slots A := by rw [h0, h1]; exact hM
  refine va_callq (va_runV X hM' (cwV n X.2.2.2.2 hG rfl rfl rfl hd hR) ⟨fun a U g mk q => ⟨q.1, q.2.blind⟩, m_recv G hi hc, fun U hU hW => ⟨rfl, m_pre G hU hW⟩⟩ rfl hn hl.1 hst hW hdg (by rw [h0, h1]; exact hf)) G.2.2.2.2.1 (fun q _ h => h) (fun q h => h) (fun r u t H1 locs1 ht hvm hw hB hz hk hS => ?_)
  subst hw
  rw [h0, h1]
  exact kk H1 locs1 (G.next hB ht hS)
theorem B_callsi (X : CallFix p m c cc nL s args G0 own) (G : Mm D κ A ad M s H locs) {n index maxL : Nat} {As st : List Value} {y : MethodName} {bb : ByteArray} {ret : FieldType} {rm : Room} {v : Int32} {host : String} (h0 : rm.cells = 0) (h1 : rm.slots = 0)
    (hM : Met l y (gw y bb maxL (some ret)) rm (va_Pc As (MW D κ A ad M)) (QI D κ A ad M v) 0 0 A) (hq : (own, index, y, host) ∈ thM) (hcd : Cond.code y bb maxL (some ret) ∈ G0) (hsm : Cond.static y ∈ G0) (hini : Cond.initialized y.cls ∈ G0)
    (hd : y.cls ≠ "java/lang/invoke/MethodHandle" ∧ y.cls ≠ "java/lang/invoke/VarHandle" ∧ (parseMethodDescriptor y.desc).map (fun d => d.parameters.length) = some n) (hR : rm.frames + 1 ≤ R.frames ∧ 8 + (maxL + 11) + rm.locals ≤ R.locals) (hn : As.length = n) (hl : lv_has ls nL lv) (hst : st = As.reverse ++ rest) (hW : 2 * (F0 m pc ls st).monitorRoom + (rest.map fun v => v.category).sum ≤ 8) (hdg : decode cc pc = .ok (.invokestatic index, 3)) (hf : cells ≤ R.cells ∧ slots ≤ R.slots)
    (kk : ∀ (H : Heap) (locs : List Loc), Mm D κ A ad M s H locs → W p l e R s m args below meth c H locs cells slots Q (F0 m (pc + 3) ls (.int v :: rest))) : W p l e R s m args below meth c H locs cells slots Q (F0 m pc ls st) := by
  have hM' : Met l y (gw y bb maxL (some ret)) rm (va_Pc As (MW D κ A ad M)) (QI D κ A ad M v) rm.cells rm.slots A := by rw [h0, h1]; exact hM
  refine va_calli (va_runSN X hM' ⟨va_cnB n X.2.2.2.2 (gw_in hcd) rfl rfl rfl (G.2.2.2.2.2.2.2.2.2.2.1 _ hq) (X.2.2.2.2 _ hini) hd hR, X.2.2.2.2 _ hsm, trivial⟩ ⟨fun a U g mk q => ⟨q.1, q.2.blind⟩, fun U hU hW => ⟨rfl, m_pre G hU hW⟩⟩ rfl hn hl.1 hst hW hdg (by rw [h0, h1]; exact hf)) G.2.2.2.2.1 (fun q _ h => h) (fun q h => h) (fun r u t H1 locs1 ht hvm hw hB hz hk hS => ?_)
  subst hw
  rw [h0, h1]
  exact kk H1 locs1 (G.next hB ht hS)
end BC
theorem B_rcv {κ : Nat → ClassId} {ad : Nat → Nat} {r0 : Nat → Option va_E} {b : BS} {i ci : Nat} (h : okB b.2.2 i ci = true) (h8 : ci < 8) : celB κ ad r0 b i = some (.inr (ci, objB ad b i ci)) := (celB_at (okB_1 h)).trans (congrArg some (cellB_o (okB_2 h) h8))
theorem okB_eq {b b1 : BS} {i ci : Nat} (e : b1.2.2 = b.2.2) (h : okB b.2.2 i ci = true) : okB b1.2.2 i ci = true := by rw [e]; exact h
theorem kd5 {i : Nat} (h : kd i = 5) : 70 ≤ i ∧ i < 88 ∧ i % 2 = 0 := by
  unfold kd at h
  repeat' split at h
  all_goals first | omega | (simp at h)
theorem kd6 {i : Nat} (h : kd i = 6) : 100 ≤ i ∧ (i - 100) % 5 = 0 := by
  unfold kd at h
  repeat' split at h
  all_goals first | omega | (simp at h)
theorem kd3 {i : Nat} (h : kd i = 3) : 100 ≤ i ∧ (i - 100) % 5 = 2 := by
  unfold kd at h
  repeat' split at h
  all_goals first | omega | (simp at h)
theorem ok5_arr {n : Nat → Nat} {i : Nat} (h : okB n i 5 = true) : okB n (i + 1) 22 = true := by
  obtain ⟨h1, h2, h3⟩ := kd5 (okB_2 h)
  have h4 := okB_1 h
  have e1 : kd (i + 1) = 22 := by
    unfold kd
    rw [if_neg (by omega), if_neg (by omega), if_neg (by omega), if_neg (by omega), if_neg (by omega), if_neg (by omega), if_neg (by omega), if_pos (by omega), if_neg (by omega)]
  have e2 : lvB n (i + 1) = lvB n i := by
    unfold lvB
    rw [if_neg (by omega), if_neg (by omega), if_neg (by omega), if_pos (by omega), if_neg (by omega), if_neg (by omega), if_neg (by omega), if_pos (by omega)]
    have e3 : i + 1 - (i + 1) % 2 = i - i % 2 := by omega
    have e4 : decide (i + 1 < 72) = decide (i < 72) := decide_eq_decide.mpr (by omega)
    rw [e3, e4]
  unfold okB
  rw [e2, h4, e1]
  rfl
theorem ln5_arr {n : Nat → Nat} {i : Nat} (h : okB n i 5 = true) : lnB n (i + 1) = 26 := by
  obtain ⟨h1, h2, h3⟩ := kd5 (okB_2 h)
  unfold lnB
  rw [if_neg (by omega), if_neg (by omega), if_neg (by omega), if_neg (by omega), if_neg (by omega), if_neg (by omega), if_neg (by omega), if_neg (by omega), if_pos (by omega)]
theorem lvB_dyn {n : Nat → Nat} {i : Nat} (h : 100 ≤ i) : lvB n i = if (i - 100) % 5 < 2 then decide ((i - 100) / 5 < n 0) else decide ((i - 100) / 5 < n 1) := by
  unfold lvB
  simp only [show ¬ i < 50 by omega, show ¬ i < 66 by omega, show ¬ i < 70 by omega, show ¬ i < 88 by omega, show ¬ i < 100 by omega, if_false]
theorem kd_dyn {i : Nat} (h : 100 ≤ i) : kd i = if (i - 100) % 5 = 0 then 6 else if (i - 100) % 5 = 2 then 3 else 20 := by
  unfold kd
  simp only [show ¬ i = 50 by omega, show ¬ i = 52 by omega, show ¬ i = 54 by omega, show ¬ i = 57 by omega, show ¬ i = 63 by omega, show ¬ (i = 64 ∨ i = 65) by omega, show ¬ i < 70 by omega, show ¬ i < 88 by omega, show ¬ i < 100 by omega, if_false]
theorem ok_dyn {n : Nat → Nat} {i d : Nat} (h : lvB n i = true) (h1 : 100 ≤ i) (hd : ((i - 100) % 5 = 0 ∧ d = 1) ∨ ((i - 100) % 5 = 2 ∧ (d = 1 ∨ d = 2))) : okB n (i + d) 20 = true := by
  have e1 : kd (i + d) = 20 := by
    rw [kd_dyn (by omega), if_neg (by omega), if_neg (by omega)]
  have e2 : lvB n (i + d) = lvB n i := by
    rw [lvB_dyn (by omega), lvB_dyn h1, show (i + d - 100) / 5 = (i - 100) / 5 by omega]
    by_cases c : (i - 100) % 5 < 2
    · rw [if_pos c, if_pos (by omega)]
    · rw [if_neg c, if_neg (by omega)]
  unfold okB
  rw [e2, h, e1]
  rfl
theorem ok6_arr {n : Nat → Nat} {i : Nat} (h : okB n i 6 = true) : okB n (i + 1) 20 = true := ok_dyn (okB_1 h) (kd6 (okB_2 h)).1 (Or.inl ⟨(kd6 (okB_2 h)).2, rfl⟩)
theorem ok3_arr {n : Nat → Nat} {i : Nat} (h : okB n i 3 = true) : okB n (i + 1) 20 = true := ok_dyn (okB_1 h) (kd3 (okB_2 h)).1 (Or.inr ⟨(kd3 (okB_2 h)).2, Or.inl rfl⟩)
theorem ok3_arr2 {n : Nat → Nat} {i : Nat} (h : okB n i 3 = true) : okB n (i + 2) 20 = true := ok_dyn (okB_1 h) (kd3 (okB_2 h)).1 (Or.inr ⟨(kd3 (okB_2 h)).2, Or.inr rfl⟩)
theorem on_n {ρ : Type} {A : Option ρ} {B : Nat → Option ρ} {y : Option ρ} (h : on none A B = y) : A = y := h
theorem on_s {ρ : Type} {t : Nat} {A : Option ρ} {B : Nat → Option ρ} {y : Option ρ} (h : on (some t) A B = y) : B t = y := h
def de {ρ : Type} : Option Nat → (Nat → Option ρ) → Option ρ
  | none, _ => none
  | some t, B => B t
theorem de_some {ρ : Type} {o : Option Nat} {B : Nat → Option ρ} {y : ρ} (h : de o B = some y) : ∃ t, o = some t ∧ B t = some y := by
  cases o with
  | none => cases h
  | some t => exact ⟨t, rfl, h⟩
theorem rd_at {ρ : Type} {a : Int32} {K : Int32 → Option ρ} {f : Nat → Int32} {n : Nat} {i : Int32} {y : ρ} (h : vp_in i n ∧ K (f i.toNatClampNeg) = some y) (e : a = f i.toNatClampNeg) : K a = some y := by rw [e]; exact h.2
theorem ne_toInt {x y : Int32} (h : ¬ x = y) : x.toInt ≠ y.toInt := fun q => h (Int32.toInt_inj.mp q)
theorem okL50 (n : Nat → Nat) : okB n 50 7 = true := rfl
theorem okL51 (n : Nat → Nat) : okB n 51 20 = true := rfl
theorem okL52 (n : Nat → Nat) : okB n 52 4 = true := rfl
theorem okL53 (n : Nat → Nat) : okB n 53 20 = true := rfl
theorem okL54 (n : Nat → Nat) : okB n 54 0 = true := rfl
theorem okL55 (n : Nat → Nat) : okB n 55 20 = true := rfl
theorem okL56 (n : Nat → Nat) : okB n 56 20 = true := rfl
theorem okL57 (n : Nat → Nat) : okB n 57 1 = true := rfl
theorem okL58 (n : Nat → Nat) : okB n 58 20 = true := rfl
theorem okL59 (n : Nat → Nat) : okB n 59 20 = true := rfl
theorem okL60 (n : Nat → Nat) : okB n 60 20 = true := rfl
theorem okL61 (n : Nat → Nat) : okB n 61 20 = true := rfl
theorem okL62 (n : Nat → Nat) : okB n 62 20 = true := rfl
theorem okL63 (n : Nat → Nat) : okB n 63 2 = true := rfl
theorem okL64 (n : Nat → Nat) : okB n 64 23 = true := rfl
theorem okL65 (n : Nat → Nat) : okB n 65 23 = true := rfl
theorem okL70 (n : Nat → Nat) : okB n 70 5 = true := rfl
theorem okL71 (n : Nat → Nat) : okB n 71 22 = true := rfl
theorem lk2_out {x a b : Int32} {o1 o2 d : Int} (h1 : x.toInt ≠ a.toInt) (h2 : x.toInt ≠ b.toInt) : Op.lookupswitch.offset [(a.toInt, o1), (b.toInt, o2)] d x.toInt = d := by
  rw [Op.lookupswitch.offset_cons, if_neg (Ne.symm h1), Op.lookupswitch.offset_cons, if_neg (Ne.symm h2), Op.lookupswitch.offset_nil]
