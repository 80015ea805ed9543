/-! THE REFERENCE'S WORLD: the object at id 43, the array of slot k at id k; its state: z 43 k is the field in slot k, z k i the element i of the array in slot k -/
def isA8 : Nat → Bool := fun k => decide (k < 43) && decide (tyX8 k ≠ .int) && decide (tyX8 k ≠ .boolean)
def len8 : Nat → Nat := fun k => match k with
  | 0 => 2153 | 1 => 12918 | 3 => 4306 | 4 => 2 | 5 => 60 | 8 => 60 | 10 => 14 | 11 => 14 | 12 => 14 | 13 => 14 | 14 => 14 | 15 => 14 | 16 => 84 | 19 => 400 | 20 => 400 | 21 => 2400 | 23 => 401 | 27 => 360 | 29 => 430 | 30 => 430 | 31 => 430 | 33 => 62 | 34 => 62 | 35 => 62 | 36 => 62 | 37 => 372 | 40 => 26 | 41 => 26 | 42 => 60
  | _ => 0
def obj8 (ad : Nat → Nat) (z : MS) : List Value := (List.range 43).map fun k => if isA8 k = true then Value.ref (ad k) else .int (z 43 k)
def celM (κ : Nat → ClassId) (ad : Nat → Nat) (r0 : Nat → Option va_E) (z : MS) : Nat → Option va_E := fun i =>
  if i = 43 then some (.inr (8, obj8 ad z)) else if isA8 i = true then some (.inl (if i = 4 then κ 1 else κ 0, len8 i, .inl (z i))) else r0 i
theorem celM_o {κ : Nat → ClassId} {ad : Nat → Nat} {r0 : Nat → Option va_E} {z : MS} : celM κ ad r0 z 43 = some (.inr (8, obj8 ad z)) := if_pos rfl
theorem celM_a {κ : Nat → ClassId} {ad : Nat → Nat} {r0 : Nat → Option va_E} {z : MS} {i : Nat} (h : isA8 i = true) (h4 : i ≠ 4) : celM κ ad r0 z i = some (.inl (κ 0, len8 i, .inl (z i))) := by
  unfold celM
  rw [if_neg (fun q => by subst q; exact absurd h (by decide +kernel)), if_pos h, if_neg h4]
theorem celM_4 {κ : Nat → ClassId} {ad : Nat → Nat} {r0 : Nat → Option va_E} {z : MS} : celM κ ad r0 z 4 = some (.inl (κ 1, 2, .inl (z 4))) := by
  unfold celM
  rw [if_neg (by decide), if_pos (by decide +kernel), if_pos rfl]
  rfl
theorem obj8_get {ad : Nat → Nat} {z : MS} {k : Nat} (hk : k < 43) : (obj8 ad z)[k]? = some (if isA8 k = true then Value.ref (ad k) else .int (z 43 k)) := by
  unfold obj8
  rw [List.getElem?_map, List.getElem?_range hk]
  rfl
theorem obj8_set {ad : Nat → Nat} {z : MS} {k : Nat} {v : Int32} (hk : k < 43) (h : isA8 k = false) : (obj8 ad z).set k (.int v) = obj8 ad (up2 z 43 k v) := by
  apply List.ext_getElem?
  intro j
  by_cases hj : j < 43
  · rw [obj8_get hj]
    by_cases e : j = k
    · subst e
      rw [List.getElem?_set_self (by simp [obj8]; exact hj), if_neg (by rw [h]; decide), up2_same]
      simp [upd]
    · rw [List.getElem?_set_ne (Ne.symm e), obj8_get hj, up2_same]
      simp [upd, e]
  · rw [List.getElem?_eq_none (by simp [obj8]; omega), List.getElem?_eq_none (by simp [obj8]; omega)]
theorem celM_up {κ : Nat → ClassId} {ad : Nat → Nat} {r0 : Nat → Option va_E} {z : MS} {a k : Nat} {v : Int32} (j : Nat) (h : j ≠ a) (ha : a = 43 ∨ (isA8 a = true ∧ j ≠ 43)) : celM κ ad r0 (up2 z a k v) j = celM κ ad r0 z j := by
  unfold celM
  rcases ha with rfl | ⟨h1, h2⟩
  · rw [if_neg h, if_neg h, up2_ne z h]
  · rw [if_neg h2, if_neg h2, up2_ne z h]
theorem obj8_arr {ad : Nat → Nat} {z : MS} {a k : Nat} {v : Int32} (h : a ≠ 43) : obj8 ad (up2 z a k v) = obj8 ad z := by
  unfold obj8
  rw [up2_ne z (Ne.symm h)]
theorem celM_arr {κ : Nat → ClassId} {ad : Nat → Nat} {r0 : Nat → Option va_E} {z : MS} {a k : Nat} {v : Int32} (ha : isA8 a = true) (j : Nat) (h : j ≠ a) : celM κ ad r0 (up2 z a k v) j = celM κ ad r0 z j := by
  by_cases e : j = 43
  · subst e
    rw [celM_o, celM_o, obj8_arr (fun q => h q.symm)]
  · exact celM_up j h (Or.inr ⟨ha, e⟩)
theorem T8_cls : ∀ k, k < 43 → (TX8 k).1 = RX8 := by decide +kernel
theorem T8_int : ∀ k, k < 43 → tyX8 k = .int → isA8 k = false ∧ (TX8 k).2.2.2 = false := by decide +kernel
theorem T8_bool : ∀ k, k < 43 → tyX8 k = .boolean → isA8 k = false ∧ (TX8 k).2.2.2 = false := by decide +kernel
section ML
variable {p : Program} {l : Launch} {e : Env} {R : Room} {s : State} {m : MethodId} {args : Array Value} {below : List Frame} {meth : Method} {c : Code} {H : Heap} {locs : List Loc} {cells slots : Nat} {Q : State → Prop}
variable {cc : ByteArray} {pc nL : Nat} {ls : Array Slot} {rest : List Value} {D : va_G} {κ : Nat → ClassId} {A : Nat → Prop} {ad : Nat → Nat} {r0 : Nat → Option va_E} {z : MS} {own : String} {lv : List (Nat × Value)}
theorem M_geti (X : CallFix p m c cc nL s args G0 own) (G : Mm D κ A ad (celM κ ad r0 z) s H locs) (k : Nat) {index : Nat} (hk : k < 43) (ha : isA8 k = false) (hl : Cond.fieldLink own index RX8 (TX8 k).2.1 (TX8 k).2.2.1 ∈ G0) (hdg : decode cc pc = .ok (.getfield index, 3))
    (kk : W p l e R s m args below meth c H locs cells slots Q (F0 m (pc + 3) ls (.int (z 43 k) :: rest))) : W p l e R s m args below meth c H locs cells slots Q (F0 m pc ls (.ref (ad 43) :: rest)) :=
  m_get X G celM_o rfl wl_X8 hk hl (T8_cls k hk) (by rw [obj8_get hk, ha]; rfl) hdg kk
theorem M_getr (X : CallFix p m c cc nL s args G0 own) (G : Mm D κ A ad (celM κ ad r0 z) s H locs) (k : Nat) {index : Nat} (hk : k < 43) (ha : isA8 k = true) (hl : Cond.fieldLink own index RX8 (TX8 k).2.1 (TX8 k).2.2.1 ∈ G0) (hdg : decode cc pc = .ok (.getfield index, 3))
    (kk : W p l e R s m args below meth c H locs cells slots Q (F0 m (pc + 3) ls (.ref (ad k) :: rest))) : W p l e R s m args below meth c H locs cells slots Q (F0 m pc ls (.ref (ad 43) :: rest)) :=
  m_get X G celM_o rfl wl_X8 hk hl (T8_cls k hk) (by rw [obj8_get hk, ha]; rfl) hdg kk
theorem M_puti (X : CallFix p m c cc nL s args G0 own) (G : Mm D κ A ad (celM κ ad r0 z) s H locs) (k : Nat) {index : Nat} {v : Int32} {z1 : MS} (hz : z1 = up2 z 43 k v) (hk : k < 43) (ht : tyX8 k = .int) (hl : Cond.fieldLink own index RX8 (TX8 k).2.1 (TX8 k).2.2.1 ∈ G0) (hdg : decode cc pc = .ok (.putfield index, 3))
    (kk : ∀ (H : Heap) (locs : List Loc), Mm D κ A ad (celM κ ad r0 z1) s H locs → W p l e R s m args below meth c H locs cells slots Q (F0 m (pc + 3) ls rest)) : W p l e R s m args below meth c H locs cells slots Q (F0 m pc ls (.int v :: .ref (ad 43) :: rest)) := by
  subst hz
  obtain ⟨ha, hf⟩ := T8_int k hk ht
  exact m_put X G celM_o rfl wl_X8 tyX8_ok nmX8 hk hl (T8_cls k hk) hf (by rw [ht]; exact vp_nar_int v) (by rw [ht]; rfl) (by simp [obj8]; exact hk) (by rw [celM_o, obj8_set hk ha]) (fun j hj => celM_up j hj (Or.inl rfl)) hdg kk
theorem M_putz (X : CallFix p m c cc nL s args G0 own) (G : Mm D κ A ad (celM κ ad r0 z) s H locs) (k : Nat) {index : Nat} {v : Int32} {z1 : MS} (hz : z1 = up2 z 43 k v) (hk : k < 43) (ht : tyX8 k = .boolean) (hv : v = 0 ∨ v = 1) (hl : Cond.fieldLink own index RX8 (TX8 k).2.1 (TX8 k).2.2.1 ∈ G0) (hdg : decode cc pc = .ok (.putfield index, 3))
    (kk : ∀ (H : Heap) (locs : List Loc), Mm D κ A ad (celM κ ad r0 z1) s H locs → W p l e R s m args below meth c H locs cells slots Q (F0 m (pc + 3) ls rest)) : W p l e R s m args below meth c H locs cells slots Q (F0 m pc ls (.int v :: .ref (ad 43) :: rest)) := by
  subst hz
  obtain ⟨ha, hf⟩ := T8_bool k hk ht
  exact m_put X G celM_o rfl wl_X8 tyX8_ok nmX8 hk hl (T8_cls k hk) hf (by rw [ht]; rcases hv with rfl | rfl <;> rfl) (by rw [ht]; rcases hv with rfl | rfl <;> rfl) (by simp [obj8]; exact hk) (by rw [celM_o, obj8_set hk ha]) (fun j hj => celM_up j hj (Or.inl rfl)) hdg kk
theorem M_iald (X : CallFix p m c cc nL s args G0 own) (G : Mm D κ A ad (celM κ ad r0 z) s H locs) {i n : Nat} {x : Int32} (hi : isA8 i = true) (h4 : i ≠ 4) (hn : len8 i = n) (hin : vp_in x n) (hdg : decode cc pc = .ok (.iaload, 1))
    (kk : W p l e R s m args below meth c H locs cells slots Q (F0 m (pc + 1) ls (.int (z i x.toNatClampNeg) :: rest))) : W p l e R s m args below meth c H locs cells slots Q (F0 m pc ls (.int x :: .ref (ad i) :: rest)) :=
  m_iald X G (celM_a hi h4) (by rw [hn]; exact hin) hdg kk
theorem M_zald (X : CallFix p m c cc nL s args G0 own) (G : Mm D κ A ad (celM κ ad r0 z) s H locs) {x : Int32} (hin : vp_in x 2) (hdg : decode cc pc = .ok (.baload, 1))
    (kk : W p l e R s m args below meth c H locs cells slots Q (F0 m (pc + 1) ls (.int (z 4 x.toNatClampNeg) :: rest))) : W p l e R s m args below meth c H locs cells slots Q (F0 m pc ls (.int x :: .ref (ad 4) :: rest)) :=
  m_zald X G celM_4 hin hdg kk
theorem M_iast (X : CallFix p m c cc nL s args G0 own) (G : Mm D κ A ad (celM κ ad r0 z) s H locs) {i n : Nat} {x v : Int32} {z1 : MS} (hz : z1 = up2 z i x.toNatClampNeg v) (hi : isA8 i = true) (h4 : i ≠ 4) (hn : len8 i = n) (hin : vp_in x n) (hdg : decode cc pc = .ok (.iastore, 1))
    (kk : ∀ (H : Heap) (locs : List Loc), Mm D κ A ad (celM κ ad r0 z1) s H locs → W p l e R s m args below meth c H locs cells slots Q (F0 m (pc + 1) ls rest)) : W p l e R s m args below meth c H locs cells slots Q (F0 m pc ls (.int v :: .int x :: .ref (ad i) :: rest)) := by
  subst hz
  exact m_iast X G (celM_a hi h4) (by rw [hn]; exact hin) (by rw [celM_a hi h4, up2_same]) (fun j hj => celM_arr hi j hj) hdg kk
theorem M_zast (X : CallFix p m c cc nL s args G0 own) (G : Mm D κ A ad (celM κ ad r0 z) s H locs) {x v : Int32} {z1 : MS} (hz : z1 = up2 z 4 x.toNatClampNeg v) (hv : v = 0 ∨ v = 1) (hin : vp_in x 2) (hdg : decode cc pc = .ok (.bastore, 1))
    (kk : ∀ (H : Heap) (locs : List Loc), Mm D κ A ad (celM κ ad r0 z1) s H locs → W p l e R s m args below meth c H locs cells slots Q (F0 m (pc + 1) ls rest)) : W p l e R s m args below meth c H locs cells slots Q (F0 m pc ls (.int v :: .int x :: .ref (ad 4) :: rest)) := by
  subst hz
  have e : vp_nar .boolean v = v := by rcases hv with rfl | rfl <;> rfl
  exact m_zast X G celM_4 hin (by rw [celM_4, up2_same, e]) (fun j hj => celM_arr (by decide +kernel) j hj) hdg kk
theorem M_calli (X : CallFix p m c cc nL s args G0 own) (G : Mm D κ A ad (celM κ ad r0 z) s H locs) {n index maxL : Nat} {As st : List Value} {y : MethodName} {b : ByteArray} {ret : FieldType} {rm : Room} {v : Int32} {z1 : MS} (h0 : rm.cells = 0) (h1 : rm.slots = 0)
    (hM : Met l y (gw y b maxL (some ret)) rm (va_Pc (.ref (ad 43) :: As) (MW D κ A ad (celM κ ad r0 z))) (QI D κ A ad (celM κ ad r0 z1) v) 0 0 A) (hG : GoodIn G0 (wsV own index RX8 y (gw y b maxL (some ret))))
    (hd : y.cls = RX8 ∧ y.cls ≠ "java/lang/invoke/MethodHandle" ∧ y.cls ≠ "java/lang/invoke/VarHandle" ∧ (parseMethodDescriptor y.desc).map (fun d => d.parameters.length) = some n) (hR : rm.frames + 1 ≤ R.frames ∧ 8 + (maxL + 11) + rm.locals ≤ R.locals) (hn : As.length = n) (hl : lv_has ls nL lv) (hst : st = As.reverse ++ .ref (ad 43) :: rest) (hW : 2 * (F0 m pc ls st).monitorRoom + (rest.map fun v => v.category).sum ≤ 8) (hdg : decode cc pc = .ok (.invokevirtual index, 3)) (hf : cells ≤ R.cells ∧ slots ≤ R.slots)
    (kk : ∀ (H : Heap) (locs : List Loc), Mm D κ A ad (celM κ ad r0 z1) s H locs → W p l e R s m args below meth c H locs cells slots Q (F0 m (pc + 3) ls (.int v :: rest))) : W p l e R s m args below meth c H locs cells slots Q (F0 m pc ls st) :=
  m_calli X G (rm := rm) (by rw [h0, h1]; exact hM) celM_o rfl hG hd hR hn hl hst hW hdg (by rw [h0, h1]; exact hf) (by rw [h0, h1]; exact kk)
theorem M_callv (X : CallFix p m c cc nL s args G0 own) (G : Mm D κ A ad (celM κ ad r0 z) s H locs) {n index maxL : Nat} {As st : List Value} {y : MethodName} {b : ByteArray} {rm : Room} {z1 : MS} (h0 : rm.cells = 0) (h1 : rm.slots = 0)
    (hM : Met l y (gw y b maxL none) rm (va_Pc (.ref (ad 43) :: As) (MW D κ A ad (celM κ ad r0 z))) (QV D κ A ad (celM κ ad r0 z1)) 0 0 A) (hG : GoodIn G0 (wsV own index RX8 y (gw y b maxL none)))
    (hd : y.cls = RX8 ∧ y.cls ≠ "java/lang/invoke/MethodHandle" ∧ y.cls ≠ "java/lang/invoke/VarHandle" ∧ (parseMethodDescriptor y.desc).map (fun d => d.parameters.length) = some n) (hR : rm.frames + 1 ≤ R.frames ∧ 8 + (maxL + 11) + rm.locals ≤ R.locals) (hn : As.length = n) (hl : lv_has ls nL lv) (hst : st = As.reverse ++ .ref (ad 43) :: rest) (hW : 2 * (F0 m pc ls st).monitorRoom + (rest.map fun v => v.category).sum ≤ 8) (hdg : decode cc pc = .ok (.invokevirtual index, 3)) (hf : cells ≤ R.cells ∧ slots ≤ R.slots)
    (kk : ∀ (H : Heap) (locs : List Loc), Mm D κ A ad (celM κ ad r0 z1) s H locs → W p l e R s m args below meth c H locs cells slots Q (F0 m (pc + 3) ls rest)) : W p l e R s m args below meth c H locs cells slots Q (F0 m pc ls st) :=
  m_callv X G (rm := rm) (by rw [h0, h1]; exact hM) celM_o rfl hG hd hR hn hl hst hW hdg (by rw [h0, h1]; exact hf) (by rw [h0, h1]; exact kk)
theorem m_callsi0 (X : CallFix p m c cc nL s args G0 own) {M : Nat → Option va_E} (G : Mm D κ A ad M s H locs) {n index maxL : Nat} {As st : List Value} {y : MethodName} {b : ByteArray} {ret : FieldType} {rm : Room} {v : Int32} (h0 : rm.cells = 0) (h1 : rm.slots = 0)
    (hM : Met l y (gw y b maxL (some ret)) rm (va_Pc As (MW D κ A ad M)) (QI D κ A ad M v) 0 0 A) (hG : GoodIn G0 (va_wsS own index y (gw y b maxL (some ret))))
    (hd : y.cls ≠ "java/lang/invoke/MethodHandle" ∧ y.cls ≠ "java/lang/invoke/VarHandle" ∧ (parseMethodDescriptor y.desc).map (fun d => d.parameters.length) = some n) (hR : rm.frames + 1 ≤ R.frames ∧ 8 + (maxL + 11) + rm.locals ≤ R.locals) (hn : As.length = n) (hl : lv_has ls nL lv) (hst : st = As.reverse ++ rest) (hW : 2 * (F0 m pc ls st).monitorRoom + (rest.map fun v => v.category).sum ≤ 8) (hdg : decode cc pc = .ok (.invokestatic index, 3)) (hf : cells ≤ R.cells ∧ slots ≤ R.slots)
    (kk : ∀ (H : Heap) (locs : List Loc), Mm D κ A ad M s H locs → W p l e R s m args below meth c H locs cells slots Q (F0 m (pc + 3) ls (.int v :: rest))) : W p l e R s m args below meth c H locs cells slots Q (F0 m pc ls st) :=
  m_callsi X G (rm := rm) (by rw [h0, h1]; exact hM) hG hd hR hn hl hst hW hdg (by rw [h0, h1]; exact hf) (by rw [h0, h1]; exact kk)
end ML
theorem sw_out {x : Int32} {n : Nat} (hn : n < 2 ^ 31) (h : ∀ k, k ≤ n → x ≠ nI k) : x.toInt < 0 ∨ (n : Int) < x.toInt := by
  by_cases h0 : x.toInt < 0
  · exact Or.inl h0
  · refine Or.inr ?_
    by_cases h1 : x.toInt ≤ n
    · obtain ⟨j, hj⟩ := Int.eq_ofNat_of_zero_le (Int.not_lt.mp h0)
      refine absurd ?_ (h j (by omega))
      apply Int32.toInt_inj.mp
      rw [hj, nI_toInt (by omega)]
    · omega
