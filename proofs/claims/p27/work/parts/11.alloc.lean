/-! MAKING: new cells at ids that are free; here the world is any function M, its cells are values -/
def upO (M : Nat → Option va_E) (i : Nat) (e : va_E) : Nat → Option va_E := fun j => if j = i then some e else M j
def upA (ad : Nat → Nat) (i a : Nat) : Nat → Nat := fun j => if j = i then a else ad j
theorem upO_s {M : Nat → Option va_E} {i : Nat} {e : va_E} : upO M i e i = some e := if_pos rfl
theorem upO_n {M : Nat → Option va_E} {i j : Nat} {e : va_E} (h : j ≠ i) : upO M i e j = M j := if_neg h
theorem upA_s {ad : Nat → Nat} {i a : Nat} : upA ad i a i = a := if_pos rfl
theorem upA_n {ad : Nat → Nat} {i j a : Nat} (h : j ≠ i) : upA ad i a j = ad j := if_neg h
theorem Mm.grow {D : va_G} {κ : Nat → ClassId} {A : Nat → Prop} {ad : Nat → Nat} {M : Nat → Option va_E} {s : State} {H H1 : Heap} {locs : List Loc} (h : Mm D κ A ad M s H locs) {i : Nat} {e : va_E} (hi : M i = none) (he : va_at D vwCl (H.size, e) H1) (hz : H1.size = H.size + 1) (o : ∀ q, q < H.size → H1[q]? = H[q]?) : Mm D κ A (upA ad i H.size) (upO M i e) s H1 locs := by
  obtain ⟨h1, h2, h3, h4, h5, h6⟩ := h
  have old : ∀ j x, j ≠ i → upO M i e j = some x → M j = some x := fun j x hj hx => by rw [upO_n hj] at hx; exact hx
  refine ⟨h1, fun j x hx => ?_, fun j k x y hx hy hxy => ?_, h4, ⟨Nat.le_trans h5.1 (by omega), fun q a b => (o q (Nat.lt_of_lt_of_le a h5.1)).trans (h5.2.1 q a b), h5.2.2⟩, h6⟩
  · by_cases hj : j = i
    · subst hj
      rw [upO_s] at hx
      cases hx
      rw [upA_s]
      exact ⟨he, h4 _ h5.1⟩
    · rw [upA_n hj]
      obtain ⟨g1, g2⟩ := h2 j x (old j x hj hx)
      exact ⟨g1.kept (o _ g1.lt), g2⟩
  · by_cases hj : j = i
    · by_cases hk : k = i
      · rw [hj, hk]
      · subst hj
        rw [upA_s, upA_n hk] at hxy
        have := (h2 k y (old k y hk hy)).1.lt
        dsimp only at this
        omega
    · by_cases hk : k = i
      · subst hk
        rw [upA_s, upA_n hj] at hxy
        have := (h2 j x (old j x hj hx)).1.lt
        dsimp only at this
        omega
      · rw [upA_n hj, upA_n hk] at hxy
        exact h3 j k x y (old j x hj hx) (old k y hk hy) hxy
/-- the same cells under another map of ids -/
theorem Mm.to {D : va_G} {κ : Nat → ClassId} {A : Nat → Prop} {ad ad' : Nat → Nat} {M M' : Nat → Option va_E} {s : State} {H : Heap} {locs : List Loc} (h : Mm D κ A ad M s H locs) (e : ∀ i x, M' i = some x → M i = some x ∧ ad' i = ad i) : Mm D κ A ad' M' s H locs := by
  obtain ⟨h1, h2, h3, h4, h5, h6⟩ := h
  refine ⟨h1, fun j x hx => ?_, fun j k x y hx hy hxy => ?_, h4, h5, h6⟩
  · obtain ⟨a, b⟩ := e j x hx
    rw [b]; exact h2 j x a
  · obtain ⟨a, b⟩ := e j x hx
    obtain ⟨a', b'⟩ := e k y hy
    rw [b, b'] at hxy
    exact h3 j k x y a a' hxy
section AL
variable {p : Program} {l : Launch} {e : Env} {R : Room} {s : State} {m : MethodId} {args : Array Value} {below : List Frame} {meth : Method} {c : Code} {H : Heap} {locs : List Loc} {cells slots : Nat} {Q : State → Prop}
variable {cc : ByteArray} {pc nL : Nat} {ls : Array Slot} {rest : List Value} {D : va_G} {κ : Nat → ClassId} {A : Nat → Prop} {ad : Nat → Nat} {own : String} {lv : List (Nat × Value)} {M M' : Nat → Option va_E}
theorem m_newI (X : CallFix p m c cc nL s args G0 own) (G : Mm D κ A ad M s H locs) (i : Nat) {n : Int32} {N : Nat} (hi : M i = none) (hw : Cond.arrayClass .int ∈ G0) (hn : ¬ n < 0) (hN : n.toNatClampNeg = N) (hb : N ≤ 100000) (hc : cells + 1 ≤ R.cells) (hs : slots + N ≤ R.slots) (hdg : decode cc pc = .ok (.newarray .int, 2))
    (kk : ∀ (a : Nat) (H1 : Heap), Mm D κ A (upA ad i a) (upO M i (.inl (κ 0, N, .inl (fun _ => 0)))) s H1 locs → W p l e R s m args below meth c H1 locs (cells + 1) (slots + N) Q (F0 m (pc + 2) ls (.ref a :: rest))) : W p l e R s m args below meth c H locs cells slots Q (F0 m pc ls (.int n :: rest)) := by
  refine va_newaK (atype := .int) X.1 X.2.1 (X.2.2.2.2 _ hw) rfl hdg rfl hn hN (by show N * 4 ≤ _; omega) hc hs rfl fun H1 cA e1 z1 o1 hAr hNm => ?_
  have hk : cA = κ 0 := Option.some.inj (hNm.symm.trans (G.1.2 0 (κ 0, .int) rfl).2)
  subst hk
  exact kk H.size H1 (G.grow hi e1 z1 o1)
theorem m_newT (X : CallFix p m c cc nL s args G0 own) (G : Mm D κ A ad M s H locs) (i : Nat) {index t0 : Nat} {C : String} {n : Int32} {N : Nat} (hi : M i = none) (ht : (tysK κ)[t0]? = some (κ t0, .object C)) (hC : C ∈ thA) (hw : Cond.classLink own index C ∈ G0) (hn : ¬ n < 0) (hN : n.toNatClampNeg = N) (hb : N ≤ 100000) (hc : cells + 1 ≤ R.cells) (hs : slots + N ≤ R.slots) (hdg : decode cc pc = .ok (.anewarray index, 3))
    (kk : ∀ (a : Nat) (H1 : Heap), Mm D κ A (upA ad i a) (upO M i (.inl (κ t0, N, .inr (.inr (.inr (.inr (fun _ => none))))))) s H1 locs → W p l e R s m args below meth c H1 locs (cells + 1) (slots + N) Q (F0 m (pc + 3) ls (.ref a :: rest))) : W p l e R s m args below meth c H locs cells slots Q (F0 m pc ls (.int n :: rest)) := by
  subst hN
  refine W.anew X.1 X.2.1 X.2.2.2.1 (X.2.2.2.2 _ hw) (va_AO.use (G.2.2.2.2.2.2.2.2.2.2.2.2 _ hC)) rfl hdg rfl hn (by omega) hc hs fun cA kA comp f1 f2 f3 f4 => ?_
  generalize hH1 : H.push ({ cls := cA, slots := Array.replicate n.toNatClampNeg .null, vm := .none } : Cell) = H1
  have z1 : H1.size = H.size + 1 := by rw [← hH1, Array.size_push]
  have e1 : H1[H.size]? = some (arrV cA n.toNatClampNeg (fun _ => .null)) := by rw [← hH1, Array.getElem?_push_size, ← arrV_new]
  have o1 : ∀ q : Nat, q < H.size → H1[q]? = H[q]? := fun q hq => by rw [← hH1, Array.getElem?_push, if_neg (Nat.ne_of_lt hq)]
  obtain ⟨kA', comp', g1, g2, g3, g4⟩ := (G.1.2 t0 _ ht).2
  have hk : cA = κ t0 := Option.some.inj (f1.symm.trans g4)
  subst hk
  exact kk H.size H1 (G.grow hi (by show H1[H.size]? = some (vp_cell _ _); rw [vp_cell_q]; exact e1) z1 o1)
theorem m_new (X : CallFix p m c cc nL s args G0 own) (G : Mm D κ A ad M s H locs) (i : Nat) {index ci N : Nat} {C : String} {T : u_T} {ty : Nat → FieldType} {fs : List Value} (hi : M i = none) (hcl : vwCl[ci]? = some (C, T, N)) (hw : ∀ w ∈ u_ws C T N, w ∈ G0) (hty : ∀ k, k < N → parseFieldDescriptor (T k).2.2.1 = some (ty k)) (hfs : ∀ j, j < N → defaultValue (ty j) = vp_V fs j) (h1 : Cond.classLink own index C ∈ G0) (h2 : Cond.instantiable C N ∈ G0) (h3 : Cond.initialized C ∈ G0) (hc : cells + 1 ≤ R.cells) (hs : slots + N ≤ R.slots) (hdg : decode cc pc = .ok (.new index, 3))
    (kk : ∀ (a : Nat) (H1 : Heap), Mm D κ A (upA ad i a) (upO M i (.inr (ci, fs))) s H1 locs → W p l e R s m args below meth c H1 locs (cells + 1) (slots + N) Q (F0 m (pc + 3) ls (.ref a :: rest))) : W p l e R s m args below meth c H locs cells slots Q (F0 m pc ls rest) := by
  have hKn := G.1.1 ci _ hcl
  refine W.newcK X.1 X.2.1 X.2.2.2.1 (X.2.2.2.2 _ h1) (X.2.2.2.2 _ h2) (X.2.2.2.2 _ h3) rfl hdg hc hs hKn.2.1 rfl fun H1 kC hkC e1 z1 o1 => ?_
  exact kk H.size H1 (G.grow hi ⟨_, hcl, (u_born ty X.2.2.2.2 hw hKn hkC e1 hty).to hfs⟩ z1 o1)
theorem m_putF (X : CallFix p m c cc nL s args G0 own) (G : Mm D κ A ad M s H locs) {i ci k N index a : Nat} {C : String} {T : u_T} {ty0 : Nat → FieldType} {fs : List Value} {v : Value} (ha : a = ad i) (hM : M i = some (.inr (ci, fs))) (hc : vwCl[ci]? = some (C, T, N)) (hw : ∀ w ∈ u_ws C T N, w ∈ G0) (hty : ∀ k, k < N → parseFieldDescriptor (T k).2.2.1 = some (ty0 k)) (hnm : ∀ a, a < N → ∀ b, b < N → a ≠ b → (T a).2.1 ≠ (T b).2.1) (hk : k < N) (hl : Cond.fieldLink own index C (T k).2.1 (T k).2.2.1 ∈ G0) (ho : (T k).1 = C) (hoC : C = own) (hfin : (T k).2.2.2 = true) (hin2 : meth.name = "<init>") (hn : narrow (ty0 k) v = v) (hfit : fits (ty0 k) v = true) (hlen : k < fs.length) (hdg : decode cc pc = .ok (.putfield index, 3))
    (kk : ∀ (H1 : Heap) (locs1 : List Loc), Mm D κ A ad (upO M i (.inr (ci, fs.set k v))) s H1 locs1 → W p l e R s m args below meth c H1 locs1 cells slots Q (F0 m (pc + 3) ls rest)) : W p l e R s m args below meth c H locs cells slots Q (F0 m pc ls (v :: .ref a :: rest)) := by
  subst ha
  have hts := X.2.2.2.2
  have hK := G.1
  have hap := va_apart (own := own) hts hw ty0 hty hnm hK hc
  obtain ⟨r, h1, cell, q1, q2, q3, q4⟩ := (G.2.1 i _ hM).1
  have hr : r = (C, T, N) := Option.some.inj (h1.symm.trans hc)
  subst hr
  obtain ⟨hS, hfc, kC, hkC, hkind⟩ := hK.1 ci _ hc
  obtain ⟨cf, kf, fi, f, hi, hsl⟩ := hS k hk
  have hlay := hts _ (hw _ (u_in_lay hk))
  unfold u_lay at hlay
  rw [if_pos hfin] at hlay
  have hst := (u_facts hfc hkC (u_lays hts hw hk) hi).1
  have hcf : m.cls = cf := by
    obtain ⟨_, _, c', _, _, _, -, -, hf', -, -, -, hown2, -⟩ := Cond.laysFinal_spec hlay
    have e1 : c' = cf := by have := hi.symm.trans hf'; simp at this; exact this.1.symm
    rw [ho, hoC] at hown2
    rw [← e1]; exact Option.some.inj (X.2.2.2.1.symm.trans hown2)
  have h6 := u_fits hfc hkC hkind (Or.inr hlay) hi (hty k hk) hn hfit
  refine W.putFinK X.1 X.2.1 X.2.2.2.1 (hts _ hl) (by rw [ho] at hi; exact hi) hst hcf hin2 (by rw [q2]; exact h6) q1 q3 (by rw [hsl]; exact k2_hasslot (q4 k hk)) rfl rfl hdg fun H' e1 e2 e3 => ?_
  rw [hsl] at e1 ⊢
  exact kk H' _ (G.put hM upO_s (fun j hj => upO_n hj) ⟨_, hc, t_OB.to (V := updV (vp_V fs) k v) ⟨_, e1, q2, q3, t_set q4 hap hk v⟩ (fun j _ => vp_updV_set hlen v j)⟩ e2 e3)
end AL
theorem w_arrI : Cond.arrayClass .int ∈ G0 := gq (by decide +kernel) rfl