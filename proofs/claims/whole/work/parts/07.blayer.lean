/-! THE CLASS'S WORLD: ids 50 the book, 51 its buffer, 52/53 reading and its row, 54/55/56 graph, 57..62 expansion, 63/64/65 history, 70+2q/71+2q the states (q = 0 the book's own, 1..6 saved, 7, 8 snapshots), 100+5t/101+5t a text and its signs, 102+5t..104+5t an outcome and its two rows. State: numbers, references, counts (0: texts, 1: outcomes; an id of a state: 1 if made; of a dynamic row: its length) -/
abbrev BS : Type := (Nat → Nat → Int32) × (Nat → Nat → Option Nat) × (Nat → Nat)
def upR (R : Nat → Nat → Option Nat) (a k : Nat) (v : Option Nat) : Nat → Nat → Option Nat := fun x => if x = a then va_up (R a) k v else R x
theorem upR_same (R : Nat → Nat → Option Nat) (a k : Nat) (v : Option Nat) : upR R a k v a = va_up (R a) k v := if_pos rfl
theorem upR_ne (R : Nat → Nat → Option Nat) {a k b : Nat} {v : Option Nat} (h : b ≠ a) : upR R a k v b = R b := if_neg h
def setI (b : BS) (a k : Nat) (v : Int32) : BS := (up2 b.1 a k v, b.2)
def setR (b : BS) (a k : Nat) (v : Option Nat) : BS := (b.1, upR b.2.1 a k v, b.2.2)
def kd (i : Nat) : Nat :=
  if i = 50 then 7 else if i = 52 then 4 else if i = 54 then 0 else if i = 57 then 1 else if i = 63 then 2 else
  if i = 64 ∨ i = 65 then 23 else if i < 70 then 20 else
  if i < 88 then (if i % 2 = 0 then 5 else 22) else
  if i < 100 then 20 else if (i - 100) % 5 = 0 then 6 else if (i - 100) % 5 = 2 then 3 else 20
def lvB (n : Nat → Nat) (i : Nat) : Bool :=
  if i < 50 then false else if i < 66 then true else if i < 70 then false else
  if i < 88 then (decide (i < 72) || decide (n (i - i % 2) = 1)) else if i < 100 then false else
  if (i - 100) % 5 < 2 then decide ((i - 100) / 5 < n 0) else decide ((i - 100) / 5 < n 1)
def lnB (n : Nat → Nat) (i : Nat) : Nat :=
  if i = 51 ∨ i = 53 then 60 else if i = 55 ∨ i = 56 then 26 else if i = 58 then 28380 else if i = 59 then 854 else if i = 60 ∨ i = 61 then 780 else if i = 62 then 360 else if i = 64 then 6 else if i = 65 then 2 else if i < 100 then 26 else n i
def ctB (i ci k : Nat) : Option Nat := match ci, k with
  | 7, 0 => some 70 | 7, 1 => some 63 | 7, 2 => some 51 | 7, 3 => some 52 | 7, 4 => some 54 | 7, 5 => some 57
  | 4, 0 => some 53 | 0, 0 => some 55 | 0, 1 => some 56
  | 1, 0 => some 58 | 1, 1 => some 59 | 1, 2 => some 60 | 1, 3 => some 61 | 1, 4 => some 62
  | 2, 0 => some 64 | 2, 1 => some 65 | 5, 0 => some (i + 1) | 6, 0 => some (i + 1) | 3, 0 => some (i + 1) | 3, 3 => some (i + 2)
  | _, _ => none
def mrB (ci k : Nat) : Bool := decide (ci = 5 ∧ k = 1)
def nfB (ci : Nat) : Nat := match ci with | 0 => 3 | 1 => 14 | 2 => 4 | 3 => 4 | 4 => 10 | 5 => 5 | 6 => 7 | 7 => 7 | _ => 0
def fvB (ad : Nat → Nat) (b : BS) (i ci k : Nat) : Value := match ctB i ci k with
  | some j => .ref (ad j)
  | none => if mrB ci k = true then va_rf ((b.2.1 i k).map ad) else .int (b.1 i k)
def objB (ad : Nat → Nat) (b : BS) (i ci : Nat) : List Value := (List.range (nfB ci)).map (fvB ad b i ci)
def cellB (κ : Nat → ClassId) (ad : Nat → Nat) (b : BS) (i : Nat) : va_E :=
  if kd i < 8 then .inr (kd i, objB ad b i (kd i)) else if kd i = 20 then .inl (κ 0, lnB b.2.2 i, .inl (b.1 i)) else .inl (if kd i = 22 then κ 2 else κ 3, lnB b.2.2 i, .inr (.inr (.inr (.inr (fun k => (b.2.1 i k).map ad)))))
def celB (κ : Nat → ClassId) (ad : Nat → Nat) (r0 : Nat → Option va_E) (b : BS) : Nat → Option va_E := fun i => if i < 50 then r0 i else if lvB b.2.2 i = true then some (cellB κ ad b i) else none
theorem lvB_ge {n : Nat → Nat} {i : Nat} (h : lvB n i = true) : 50 ≤ i := by
  unfold lvB at h
  by_cases c : i < 50
  · rw [if_pos c] at h; cases h
  · omega
theorem celB_at {κ : Nat → ClassId} {ad : Nat → Nat} {r0 : Nat → Option va_E} {b : BS} {i : Nat} (h : lvB b.2.2 i = true) : celB κ ad r0 b i = some (cellB κ ad b i) := by
  unfold celB
  rw [if_neg (by have := lvB_ge h; omega), if_pos h]
theorem cellB_o {κ : Nat → ClassId} {ad : Nat → Nat} {b : BS} {i ci : Nat} (hk : kd i = ci) (h8 : ci < 8) : cellB κ ad b i = .inr (ci, objB ad b i ci) := by
  unfold cellB; rw [hk, if_pos h8]
theorem cellB_a {κ : Nat → ClassId} {ad : Nat → Nat} {b : BS} {i : Nat} (hk : kd i = 20) : cellB κ ad b i = .inl (κ 0, lnB b.2.2 i, .inl (b.1 i)) := by
  unfold cellB; rw [hk, if_neg (by decide), if_pos rfl]
theorem cellB_t {κ : Nat → ClassId} {ad : Nat → Nat} {b : BS} {i : Nat} (hk : kd i = 22) : cellB κ ad b i = .inl (κ 2, lnB b.2.2 i, .inr (.inr (.inr (.inr (fun k => (b.2.1 i k).map ad))))) := by
  unfold cellB; rw [hk, if_neg (by decide), if_neg (by decide), if_pos rfl]
theorem cellB_s {κ : Nat → ClassId} {ad : Nat → Nat} {b : BS} {i : Nat} (hk : kd i = 23) : cellB κ ad b i = .inl (κ 3, lnB b.2.2 i, .inr (.inr (.inr (.inr (fun k => (b.2.1 i k).map ad))))) := by
  unfold cellB; rw [hk, if_neg (by decide), if_neg (by decide), if_neg (by decide)]
theorem objB_get {ad : Nat → Nat} {b : BS} {i ci k : Nat} (hk : k < nfB ci) : (objB ad b i ci)[k]? = some (fvB ad b i ci k) := by
  unfold objB
  rw [List.getElem?_map, List.getElem?_range hk]
  rfl
theorem objB_len {ad : Nat → Nat} {b : BS} {i ci : Nat} : (objB ad b i ci).length = nfB ci := by simp [objB]
theorem objB_setI {ad : Nat → Nat} {b : BS} {i ci k : Nat} {v : Int32} (hk : k < nfB ci) (hc : ctB i ci k = none) (hm : mrB ci k = false) : (objB ad b i ci).set k (.int v) = objB ad (setI b i k v) i ci := by
  apply List.ext_getElem?
  intro j
  by_cases hj : j < nfB ci
  · rw [objB_get hj]
    by_cases e : j = k
    · subst e
      rw [List.getElem?_set_self (by rw [objB_len]; exact hj)]
      unfold fvB
      rw [hc, hm]
      simp [setI, up2_same, upd]
    · rw [List.getElem?_set_ne (Ne.symm e), objB_get hj]
      unfold fvB
      simp [setI, up2_same, upd, e]
  · rw [List.getElem?_eq_none (by simp [objB]; omega), List.getElem?_eq_none (by simp [objB]; omega)]
theorem objB_setR {ad : Nat → Nat} {b : BS} {i ci k : Nat} {v : Option Nat} (hk : k < nfB ci) (hc : ctB i ci k = none) (hm : mrB ci k = true) : (objB ad b i ci).set k (va_rf (v.map ad)) = objB ad (setR b i k v) i ci := by
  apply List.ext_getElem?
  intro j
  by_cases hj : j < nfB ci
  · rw [objB_get hj]
    by_cases e : j = k
    · subst e
      rw [List.getElem?_set_self (by rw [objB_len]; exact hj)]
      unfold fvB
      rw [hc, hm]
      simp [setR, upR_same, va_up]
    · rw [List.getElem?_set_ne (Ne.symm e), objB_get hj]
      unfold fvB
      simp [setR, upR_same, va_up, e]
  · rw [List.getElem?_eq_none (by simp [objB]; omega), List.getElem?_eq_none (by simp [objB]; omega)]
theorem celB_setI {κ : Nat → ClassId} {ad : Nat → Nat} {r0 : Nat → Option va_E} {b : BS} {i k : Nat} {v : Int32} (j : Nat) (h : j ≠ i) : celB κ ad r0 (setI b i k v) j = celB κ ad r0 b j := by
  have e1 : (setI b i k v).1 j = b.1 j := up2_ne b.1 h
  unfold celB cellB objB fvB
  simp only [e1]
  rfl
theorem celB_setR {κ : Nat → ClassId} {ad : Nat → Nat} {r0 : Nat → Option va_E} {b : BS} {i k : Nat} {v : Option Nat} (j : Nat) (h : j ≠ i) : celB κ ad r0 (setR b i k v) j = celB κ ad r0 b j := by
  have e1 : (setR b i k v).2.1 j = b.2.1 j := upR_ne b.2.1 h
  unfold celB cellB objB fvB
  simp only [e1]
  rfl
/-- the table of the class of kind ci -/
def clB (ci : Nat) (C : String) (T : u_T) (ty : Nat → FieldType) : Prop := vwCl[ci]? = some (C, T, nfB ci) ∧ (∀ w ∈ u_ws C T (nfB ci), w ∈ G0) ∧ (∀ k, k < nfB ci → parseFieldDescriptor (T k).2.2.1 = some (ty k)) ∧ (∀ a, a < nfB ci → ∀ b, b < nfB ci → a ≠ b → (T a).2.1 ≠ (T b).2.1) ∧ (∀ k, k < nfB ci → (T k).1 = C) ∧ ci < 8
theorem clX0 : clB 0 RX0 TX0 tyX0 := ⟨rfl, wl_X0, tyX0_ok, nmX0, by decide +kernel, by decide⟩
theorem clX1 : clB 1 RX1 TX1 tyX1 := ⟨rfl, wl_X1, tyX1_ok, nmX1, by decide +kernel, by decide⟩
theorem clX2 : clB 2 RX2 TX2 tyX2 := ⟨rfl, wl_X2, tyX2_ok, nmX2, by decide +kernel, by decide⟩
theorem clX3 : clB 3 RX3 TX3 tyX3 := ⟨rfl, wl_X3, tyX3_ok, nmX3, by decide +kernel, by decide⟩
theorem clX4 : clB 4 RX4 TX4 tyX4 := ⟨rfl, wl_X4, tyX4_ok, nmX4, by decide +kernel, by decide⟩
theorem clX5 : clB 5 RX5 TX5 tyX5 := ⟨rfl, wl_X5, tyX5_ok, nmX5, by decide +kernel, by decide⟩
theorem clX6 : clB 6 RX6 TX6 tyX6 := ⟨rfl, wl_X6, tyX6_ok, nmX6, by decide +kernel, by decide⟩
theorem clX7 : clB 7 RX7 TX7 tyX7 := ⟨rfl, wl_X7, tyX7_ok, nmX7, by decide +kernel, by decide⟩
/-- live and of a kind -/
def okB (n : Nat → Nat) (i ci : Nat) : Bool := lvB n i && decide (kd i = ci)
theorem okB_1 {n : Nat → Nat} {i ci : Nat} (h : okB n i ci = true) : lvB n i = true := by unfold okB at h; simp at h; exact h.1
theorem okB_2 {n : Nat → Nat} {i ci : Nat} (h : okB n i ci = true) : kd i = ci := by unfold okB at h; simp at h; exact h.2
def ck {ρ : Type} (c : Bool) (K : Option ρ) : Option ρ := if c = true then K else none
theorem ck_some {ρ : Type} {c : Bool} {K : Option ρ} {y : ρ} (h : ck c K = some y) : c = true ∧ K = some y := by
  unfold ck at h
  by_cases e : c = true
  · rw [if_pos e] at h; exact ⟨e, h⟩
  · rw [if_neg e] at h; cases h
def on {ρ : Type} : Option Nat → Option ρ → (Nat → Option ρ) → Option ρ
  | none, A, _ => A
  | some t, _, B => B t
def wb {ρ : Type} (b : BS) (a n : Nat) (x v : Int32) (K : BS → Option ρ) : Option ρ := if x < 0 ∨ n ≤ x.toNatClampNeg then none else K (setI b a x.toNatClampNeg v)
def ro {ρ : Type} (f : Nat → Option Nat) (n : Nat) (x : Int32) (K : Option Nat → Option ρ) : Option ρ := if x < 0 ∨ n ≤ x.toNatClampNeg then none else K (f x.toNatClampNeg)
def wo {ρ : Type} (b : BS) (a n : Nat) (x : Int32) (v : Option Nat) (K : BS → Option ρ) : Option ρ := if x < 0 ∨ n ≤ x.toNatClampNeg then none else K (setR b a x.toNatClampNeg v)
theorem wb_some {ρ : Type} {b : BS} {a n : Nat} {x v : Int32} {K : BS → Option ρ} {y : ρ} (h : wb b a n x v K = some y) : vp_in x n ∧ ∃ z1, z1 = setI b a x.toNatClampNeg v ∧ K z1 = some y := by
  unfold wb at h
  by_cases c : x < 0 ∨ n ≤ x.toNatClampNeg
  · rw [if_pos c] at h; cases h
  · rw [if_neg c] at h; exact ⟨c, _, rfl, h⟩
theorem ro_some {ρ : Type} {f : Nat → Option Nat} {n : Nat} {x : Int32} {K : Option Nat → Option ρ} {y : ρ} (h : ro f n x K = some y) : vp_in x n ∧ ∃ o, o = f x.toNatClampNeg ∧ K o = some y := by
  unfold ro at h
  by_cases c : x < 0 ∨ n ≤ x.toNatClampNeg
  · rw [if_pos c] at h; cases h
  · rw [if_neg c] at h; exact ⟨c, _, rfl, h⟩
theorem wo_some {ρ : Type} {b : BS} {a n : Nat} {x : Int32} {v : Option Nat} {K : BS → Option ρ} {y : ρ} (h : wo b a n x v K = some y) : vp_in x n ∧ ∃ z1, z1 = setR b a x.toNatClampNeg v ∧ K z1 = some y := by
  unfold wo at h
  by_cases c : x < 0 ∨ n ≤ x.toNatClampNeg
  · rw [if_pos c] at h; cases h
  · rw [if_neg c] at h; exact ⟨c, _, rfl, h⟩
section BL
variable {p : Program} {l : Launch} {e : Env} {R : Room} {s : State} {m : MethodId} {args : Array Value} {below : List Frame} {meth : Method} {c : Code} {H : Heap} {locs : List Loc} {cells slots : Nat} {Q : State → Prop}
variable {cc : ByteArray} {pc nL : Nat} {ls : Array Slot} {rest : List Value} {D : va_G} {κ : Nat → ClassId} {A : Nat → Prop} {ad : Nat → Nat} {r0 : Nat → Option va_E} {b : BS} {own : String} {lv : List (Nat × Value)}
theorem B_geti (X : CallFix p m c cc nL s args G0 own) (G : Mm D κ A ad (celB κ ad r0 b) s H locs) {i ci k index a : Nat} {C : String} {T : u_T} {ty : Nat → FieldType} (ha : a = ad i) (hB : clB ci C T ty) (hi : okB b.2.2 i ci = true) (hk : k < nfB ci) (hc : ctB i ci k = none) (hm : mrB ci k = false) (hl : Cond.fieldLink own index C (T k).2.1 (T k).2.2.1 ∈ G0) (hdg : decode cc pc = .ok (.getfield index, 3))
    (kk : W p l e R s m args below meth c H locs cells slots Q (F0 m (pc + 3) ls (.int (b.1 i k) :: rest))) : W p l e R s m args below meth c H locs cells slots Q (F0 m pc ls (.ref a :: rest)) := by
  subst ha
  exact m_get X G ((celB_at (okB_1 hi)).trans (congrArg some (cellB_o (okB_2 hi) hB.2.2.2.2.2))) hB.1 hB.2.1 hk hl (hB.2.2.2.2.1 k hk) ((objB_get hk).trans (congrArg some (by unfold fvB; rw [hc, hm]; rfl))) hdg kk
theorem B_getc (X : CallFix p m c cc nL s args G0 own) (G : Mm D κ A ad (celB κ ad r0 b) s H locs) {i ci k j index a : Nat} {C : String} {T : u_T} {ty : Nat → FieldType} (ha : a = ad i) (hB : clB ci C T ty) (hi : okB b.2.2 i ci = true) (hk : k < nfB ci) (hc : ctB i ci k = some j) (hl : Cond.fieldLink own index C (T k).2.1 (T k).2.2.1 ∈ G0) (hdg : decode cc pc = .ok (.getfield index, 3))
    (kk : W p l e R s m args below meth c H locs cells slots Q (F0 m (pc + 3) ls (.ref (ad j) :: rest))) : W p l e R s m args below meth c H locs cells slots Q (F0 m pc ls (.ref a :: rest)) := by
  subst ha
  exact m_get X G ((celB_at (okB_1 hi)).trans (congrArg some (cellB_o (okB_2 hi) hB.2.2.2.2.2))) hB.1 hB.2.1 hk hl (hB.2.2.2.2.1 k hk) ((objB_get hk).trans (congrArg some (by unfold fvB; rw [hc]))) hdg kk
theorem B_getm (X : CallFix p m c cc nL s args G0 own) (G : Mm D κ A ad (celB κ ad r0 b) s H locs) {i ci k index a : Nat} {C : String} {T : u_T} {ty : Nat → FieldType} {o : Option Nat} (ha : a = ad i) (hB : clB ci C T ty) (hi : okB b.2.2 i ci = true) (hk : k < nfB ci) (hc : ctB i ci k = none) (hm : mrB ci k = true) (ho : o = b.2.1 i k) (hl : Cond.fieldLink own index C (T k).2.1 (T k).2.2.1 ∈ G0) (hdg : decode cc pc = .ok (.getfield index, 3))
    (kk : W p l e R s m args below meth c H locs cells slots Q (F0 m (pc + 3) ls (va_rf (o.map ad) :: rest))) : W p l e R s m args below meth c H locs cells slots Q (F0 m pc ls (.ref a :: rest)) := by
  subst ha; subst ho
  exact m_get X G ((celB_at (okB_1 hi)).trans (congrArg some (cellB_o (okB_2 hi) hB.2.2.2.2.2))) hB.1 hB.2.1 hk hl (hB.2.2.2.2.1 k hk) ((objB_get hk).trans (congrArg some (by unfold fvB; rw [hc, hm]; rfl))) hdg kk
theorem B_puti (X : CallFix p m c cc nL s args G0 own) (G : Mm D κ A ad (celB κ ad r0 b) s H locs) {i ci k index a : Nat} {C : String} {T : u_T} {ty : Nat → FieldType} {v : Int32} {b1 : BS} (hb1 : b1 = setI b i k v) (ha : a = ad i) (hB : clB ci C T ty) (hi : okB b.2.2 i ci = true) (hk : k < nfB ci) (hc : ctB i ci k = none) (hm : mrB ci k = false) (ht : ty k = .int) (hf : (T k).2.2.2 = false) (hl : Cond.fieldLink own index C (T k).2.1 (T k).2.2.1 ∈ G0) (hdg : decode cc pc = .ok (.putfield index, 3))
    (kk : ∀ (H : Heap) (locs : List Loc), Mm D κ A ad (celB κ ad r0 b1) s H locs → W p l e R s m args below meth c H locs cells slots Q (F0 m (pc + 3) ls rest)) : W p l e R s m args below meth c H locs cells slots Q (F0 m pc ls (.int v :: .ref a :: rest)) := by
  subst ha; subst hb1
  have hi' : okB (setI b i k v).2.2 i ci = true := hi
  exact m_put X G ((celB_at (okB_1 hi)).trans (congrArg some (cellB_o (okB_2 hi) hB.2.2.2.2.2))) hB.1 hB.2.1 hB.2.2.1 hB.2.2.2.1 hk hl (hB.2.2.2.2.1 k hk) hf (by rw [ht]; exact vp_nar_int v) (by rw [ht]; rfl) (by rw [objB_len]; exact hk) ((celB_at (okB_1 hi')).trans (congrArg some ((cellB_o (okB_2 hi) hB.2.2.2.2.2).trans (by rw [objB_setI hk hc hm])))) (fun j hj => celB_setI j hj) hdg kk
theorem B_putz (X : CallFix p m c cc nL s args G0 own) (G : Mm D κ A ad (celB κ ad r0 b) s H locs) {i ci k index a : Nat} {C : String} {T : u_T} {ty : Nat → FieldType} {v : Int32} {b1 : BS} (hb1 : b1 = setI b i k v) (hv : v = 0 ∨ v = 1) (ha : a = ad i) (hB : clB ci C T ty) (hi : okB b.2.2 i ci = true) (hk : k < nfB ci) (hc : ctB i ci k = none) (hm : mrB ci k = false) (ht : ty k = .boolean) (hf : (T k).2.2.2 = false) (hl : Cond.fieldLink own index C (T k).2.1 (T k).2.2.1 ∈ G0) (hdg : decode cc pc = .ok (.putfield index, 3))
    (kk : ∀ (H : Heap) (locs : List Loc), Mm D κ A ad (celB κ ad r0 b1) s H locs → W p l e R s m args below meth c H locs cells slots Q (F0 m (pc + 3) ls rest)) : W p l e R s m args below meth c H locs cells slots Q (F0 m pc ls (.int v :: .ref a :: rest)) := by
  subst ha; subst hb1
  have hi' : okB (setI b i k v).2.2 i ci = true := hi
  exact m_put X G ((celB_at (okB_1 hi)).trans (congrArg some (cellB_o (okB_2 hi) hB.2.2.2.2.2))) hB.1 hB.2.1 hB.2.2.1 hB.2.2.2.1 hk hl (hB.2.2.2.2.1 k hk) hf (by rw [ht]; rcases hv with rfl | rfl <;> rfl) (by rw [ht]; rcases hv with rfl | rfl <;> rfl) (by rw [objB_len]; exact hk) ((celB_at (okB_1 hi')).trans (congrArg some ((cellB_o (okB_2 hi) hB.2.2.2.2.2).trans (by rw [objB_setI hk hc hm])))) (fun j hj => celB_setI j hj) hdg kk
theorem B_putm (X : CallFix p m c cc nL s args G0 own) (G : Mm D κ A ad (celB κ ad r0 b) s H locs) {i ci k index a j : Nat} {C : String} {T : u_T} {ty : Nat → FieldType} {cn : String} {b1 : BS} (hb1 : b1 = setR b i k (some j)) (ha : a = ad i) (hB : clB ci C T ty) (hi : okB b.2.2 i ci = true) (hk : k < nfB ci) (hc : ctB i ci k = none) (hm : mrB ci k = true) (ht : ty k = .object cn) (hf : (T k).2.2.2 = false) (hl : Cond.fieldLink own index C (T k).2.1 (T k).2.2.1 ∈ G0) (hdg : decode cc pc = .ok (.putfield index, 3))
    (kk : ∀ (H : Heap) (locs : List Loc), Mm D κ A ad (celB κ ad r0 b1) s H locs → W p l e R s m args below meth c H locs cells slots Q (F0 m (pc + 3) ls rest)) : W p l e R s m args below meth c H locs cells slots Q (F0 m pc ls (.ref (ad j) :: .ref a :: rest)) := by
  subst ha; subst hb1
  have hi' : okB (setR b i k (some j)).2.2 i ci = true := hi
  exact m_put X G ((celB_at (okB_1 hi)).trans (congrArg some (cellB_o (okB_2 hi) hB.2.2.2.2.2))) hB.1 hB.2.1 hB.2.2.1 hB.2.2.2.1 hk hl (hB.2.2.2.2.1 k hk) hf (by rw [ht]; rfl) (by rw [ht]; rfl) (by rw [objB_len]; exact hk) ((celB_at (okB_1 hi')).trans (congrArg some ((cellB_o (okB_2 hi) hB.2.2.2.2.2).trans (by rw [← objB_setR hk hc hm]; rfl)))) (fun j hj => celB_setR j hj) hdg kk
theorem B_iald (X : CallFix p m c cc nL s args G0 own) (G : Mm D κ A ad (celB κ ad r0 b) s H locs) {i n a : Nat} {x : Int32} (ha : a = ad i) (hi : okB b.2.2 i 20 = true) (hn : lnB b.2.2 i = n) (hin : vp_in x n) (hdg : decode cc pc = .ok (.iaload, 1))
    (kk : W p l e R s m args below meth c H locs cells slots Q (F0 m (pc + 1) ls (.int (b.1 i x.toNatClampNeg) :: rest))) : W p l e R s m args below meth c H locs cells slots Q (F0 m pc ls (.int x :: .ref a :: rest)) := by
  subst ha
  exact m_iald X G ((celB_at (okB_1 hi)).trans (congrArg some (cellB_a (okB_2 hi)))) (by rw [hn]; exact hin) hdg kk
theorem B_iast (X : CallFix p m c cc nL s args G0 own) (G : Mm D κ A ad (celB κ ad r0 b) s H locs) {i n a : Nat} {x v : Int32} {b1 : BS} (hb1 : b1 = setI b i x.toNatClampNeg v) (ha : a = ad i) (hi : okB b.2.2 i 20 = true) (hn : lnB b.2.2 i = n) (hin : vp_in x n) (hdg : decode cc pc = .ok (.iastore, 1))
    (kk : ∀ (H : Heap) (locs : List Loc), Mm D κ A ad (celB κ ad r0 b1) s H locs → W p l e R s m args below meth c H locs cells slots Q (F0 m (pc + 1) ls rest)) : W p l e R s m args below meth c H locs cells slots Q (F0 m pc ls (.int v :: .int x :: .ref a :: rest)) := by
  subst ha; subst hb1
  have hi' : okB (setI b i x.toNatClampNeg v).2.2 i 20 = true := hi
  exact m_iast X G ((celB_at (okB_1 hi)).trans (congrArg some (cellB_a (okB_2 hi)))) (by rw [hn]; exact hin) ((celB_at (okB_1 hi')).trans (congrArg some ((cellB_a (okB_2 hi)).trans (by simp only [setI, up2_same])))) (fun j hj => celB_setI j hj) hdg kk
theorem B_alen (X : CallFix p m c cc nL s args G0 own) (G : Mm D κ A ad (celB κ ad r0 b) s H locs) {i n a : Nat} (ha : a = ad i) (hi : okB b.2.2 i 20 = true) (hn : lnB b.2.2 i = n) (hdg : decode cc pc = .ok (.arraylength, 1))
    (kk : W p l e R s m args below meth c H locs cells slots Q (F0 m (pc + 1) ls (.int (nI n) :: rest))) : W p l e R s m args below meth c H locs cells slots Q (F0 m pc ls (.ref a :: rest)) := by
  subst ha
  exact m_alen X G (t0 := 0) (cA := κ 0) (ty := .int) ((celB_at (okB_1 hi)).trans (congrArg some (cellB_a (okB_2 hi)))) rfl hn hdg kk
theorem B_alenS (X : CallFix p m c cc nL s args G0 own) (G : Mm D κ A ad (celB κ ad r0 b) s H locs) {i n a : Nat} (ha : a = ad i) (hi : okB b.2.2 i 23 = true) (hn : lnB b.2.2 i = n) (hdg : decode cc pc = .ok (.arraylength, 1))
    (kk : W p l e R s m args below meth c H locs cells slots Q (F0 m (pc + 1) ls (.int (nI n) :: rest))) : W p l e R s m args below meth c H locs cells slots Q (F0 m pc ls (.ref a :: rest)) := by
  subst ha
  exact m_alen X G (t0 := 3) (cA := κ 3) (ty := .object RX5) ((celB_at (okB_1 hi)).trans (congrArg some (cellB_s (okB_2 hi)))) rfl hn hdg kk
theorem B_aldt (X : CallFix p m c cc nL s args G0 own) (G : Mm D κ A ad (celB κ ad r0 b) s H locs) {i n a : Nat} {x : Int32} {o : Option Nat} (ha : a = ad i) (hi : okB b.2.2 i 22 = true) (hn : lnB b.2.2 i = n) (hin : vp_in x n) (ho : o = b.2.1 i x.toNatClampNeg) (hdg : decode cc pc = .ok (.aaload, 1))
    (kk : W p l e R s m args below meth c H locs cells slots Q (F0 m (pc + 1) ls (va_rf (o.map ad) :: rest))) : W p l e R s m args below meth c H locs cells slots Q (F0 m pc ls (.int x :: .ref a :: rest)) := by
  subst ha; subst ho
  exact va_aldq X.1 X.2.1 G.1 (G.at ((celB_at (okB_1 hi)).trans (congrArg some (cellB_t (okB_2 hi))))) 0 2 rfl rfl (by rw [hn]; exact hin) hdg kk
theorem B_alds (X : CallFix p m c cc nL s args G0 own) (G : Mm D κ A ad (celB κ ad r0 b) s H locs) {i n a : Nat} {x : Int32} {o : Option Nat} (ha : a = ad i) (hi : okB b.2.2 i 23 = true) (hn : lnB b.2.2 i = n) (hin : vp_in x n) (ho : o = b.2.1 i x.toNatClampNeg) (hdg : decode cc pc = .ok (.aaload, 1))
    (kk : W p l e R s m args below meth c H locs cells slots Q (F0 m (pc + 1) ls (va_rf (o.map ad) :: rest))) : W p l e R s m args below meth c H locs cells slots Q (F0 m pc ls (.int x :: .ref a :: rest)) := by
  subst ha; subst ho
  exact va_aldq X.1 X.2.1 G.1 (G.at ((celB_at (okB_1 hi)).trans (congrArg some (cellB_s (okB_2 hi))))) 0 3 rfl rfl (by rw [hn]; exact hin) hdg kk
end BL
