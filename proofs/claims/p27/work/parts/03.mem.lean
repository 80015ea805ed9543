/-! what every frame needs of the start besides the good words: two statics of Throwable, the texts of the exceptions, the words that are not good -/
def thS : List (Nat × String) := [(254, "the letter is not 0 to 25"), (276, "the buffer is not a complete text"), (261, "it is not defined"), (92, "the depth is not 1 to 12"), (123, "the code is not 33 to 126"), (127, "the buffer is full"), (148, "no state is saved"), (259, "there is no such slot"), (164, "the slot is empty"), (257, "there is no such number"), (216, "the index is negative"), (233, "the length is not 0 to 20")]
def thD : List MethodName := [Bundle.initS "java/lang/RuntimeException", Bundle.initS "java/lang/Exception", Bundle.initS Bundle.tN]
def thC : List (String × String) := [("java/lang/IndexOutOfBoundsException", "java/lang/IndexOutOfBoundsException"), ("java/lang/IllegalArgumentException", "java/lang/IllegalArgumentException"), ("java/lang/IllegalStateException", "java/lang/IllegalStateException"), ("[I", "java/lang/Cloneable")]
def thM : List (String × Nat × MethodName × String) := [(RX7, 9, yX5_init, RX7), (RX7, 18, yX2_init, RX7), (RX7, 29, yX4_init, RX7), (RX7, 36, yX0_init, RX7), (RX7, 43, yX1_init, RX7), (RX4, 51, yX7_isAbbreviation, RX7), (RX5, 36, yX7_isLetter, RX7), (RX0, 36, yX7_isLetter, RX7), (RX2, 35, yX5_init, RX7), (RX1, 99, yX7_isAbbreviation, RX7)]
def thN : List (String × String) := [("java/lang/IndexOutOfBoundsException", "java/lang/IllegalArgumentException"), ("java/lang/IllegalArgumentException", "java/lang/IndexOutOfBoundsException"), ("java/lang/IllegalStateException", "java/lang/IndexOutOfBoundsException"), ("java/lang/IllegalStateException", "java/lang/IllegalArgumentException")]
def thA : List String := [RX6, RX5]
def TH (A : Nat → Prop) (U : State) : Prop := vx_Zq Bundle.tN "UNASSIGNED_STACK" Bundle.steD A U U.heap ∧ vx_Zq Bundle.tN "SUPPRESSED_SENTINEL" Bundle.listD A U U.heap ∧ (∀ q ∈ thS, ∃ sa, vk_R RX7 q.1 q.2 sa U) ∧ (∀ x ∈ thD, va_Nw (.declares x) U) ∧ (∀ X ∈ thC, va_Nw (.castable X.1 X.2) U) ∧ (∀ q ∈ thM, va_Nw (.methodLinkNest q.1 q.2.1 q.2.2.1 q.2.2.2) U) ∧ (∀ q ∈ thN, va_Nc q.1 q.2 U) ∧ ∀ X ∈ thA, va_AO X U
theorem TH.out {A : Nat → Prop} {s t : State} {H : Heap} {locs : List Loc} (h : TH A s) (hS : va_S A s.heap H locs) (ht : t.heap = H) (hW : s.WarmedH t.vm) : TH A t := by
  obtain ⟨h1, h2, h3, h4, h5, h6, h7, h8⟩ := h
  subst ht
  refine ⟨vx_Zq.moved hW.alike (h1.kept hS.2.1), vx_Zq.moved hW.alike (h2.kept hS.2.1), fun q hq => ?_, fun x hx => (h4 x hx).warmD hW, fun X hX => (h5 X hX).warmC hW, fun q hq => (h6 q hq).warmM hW, fun q hq => (h7 q hq).moved hW.alike, fun X hX => (h8 X hX).moved hW.alike⟩
  obtain ⟨sa, h⟩ := h3 q hq
  exact ⟨sa, vk_R.warm hW h⟩
/-! MEMORY: a world is a partial map from ids to cells, with an address for each id; one bundle (Mm) holds at a frame: the tables, the cells, the addresses apart, all of them free, nothing else changed -/
abbrev tysK (κ : Nat → ClassId) : List (ClassId × FieldType) := [(κ 0, .int), (κ 0, .int), (κ 2, .object RX6), (κ 3, .object RX5)]
def Mm (D : va_G) (κ : Nat → ClassId) (A : Nat → Prop) (ad : Nat → Nat) (M : Nat → Option va_E) (s : State) (H : Heap) (locs : List Loc) : Prop :=
  va_K D vwCl (tysK κ) s ∧ (∀ i e, M i = some e → va_at D vwCl (ad i, e) H ∧ A (ad i)) ∧ (∀ i j e e', M i = some e → M j = some e' → ad i = ad j → i = j) ∧ (∀ q, s.heap.size ≤ q → A q) ∧ va_S A s.heap H locs ∧ TH A s
def MW (D : va_G) (κ : Nat → ClassId) (A : Nat → Prop) (ad : Nat → Nat) (M : Nat → Option va_E) (U : State) : Prop := Mm D κ A ad M U U.heap []
theorem MW.blind {D : va_G} {κ : Nat → ClassId} {A : Nat → Prop} {ad : Nat → Nat} {M : Nat → Option va_E} {U : State} {g : JFrame} {mk : MethodId} {a : Array Value} (h : MW D κ A ad M U) : MW D κ A ad M (U.calling g mk a) := by
  obtain ⟨h1, h2, h3, h4, h5, h6⟩ := h
  exact ⟨va_K.moved (u := U) (U := U.calling g mk a) (Vm.Alike.refl U.vm) h1, h2, h3, h4, h5, h6.out (t := U.calling g mk a) h5 rfl (State.WarmedH.refl U)⟩
theorem Mm.out {D : va_G} {κ : Nat → ClassId} {A : Nat → Prop} {ad : Nat → Nat} {M : Nat → Option va_E} {s t : State} {H : Heap} {locs : List Loc} (h : Mm D κ A ad M s H locs) (ht : t.heap = H) (hW : s.WarmedH t.vm) : MW D κ A ad M t := by
  obtain ⟨h1, h2, h3, h4, h5, h6⟩ := h
  subst ht
  exact ⟨va_K.moved hW.alike h1, h2, h3, fun q hq => h4 q (Nat.le_trans h5.1 hq), va_S.rf, h6.out h5 rfl hW⟩
theorem Mm.at {D : va_G} {κ : Nat → ClassId} {A : Nat → Prop} {ad : Nat → Nat} {M : Nat → Option va_E} {s : State} {H : Heap} {locs : List Loc} (h : Mm D κ A ad M s H locs) {i : Nat} {e : va_E} (hi : M i = some e) : va_P D vwCl [(ad i, e)] H := by
  intro k q hk
  cases k with
  | zero => cases hk; exact (h.2.1 i e hi).1
  | succ k => simp at hk
theorem Mm.put {D : va_G} {κ : Nat → ClassId} {A : Nat → Prop} {ad : Nat → Nat} {M M' : Nat → Option va_E} {s : State} {H H1 : Heap} {locs : List Loc} {i sl : Nat} {e0 e : va_E} (h : Mm D κ A ad M s H locs) (hi : M i = some e0) (hi' : M' i = some e) (hj : ∀ j, j ≠ i → M' j = M j) (he : va_at D vwCl (ad i, e) H1) (hz : H1.size = H.size) (hq : ∀ q : Nat, q ≠ ad i → H1[q]? = H[q]?) : Mm D κ A ad M' s H1 (locs ++ [⟨ad i, sl⟩]) := by
  obtain ⟨h1, h2, h3, h4, h5, h6⟩ := h
  have dom : ∀ j x, M' j = some x → ∃ y, M j = some y := by
    intro j x hx
    by_cases hji : j = i
    · subst hji; exact ⟨_, hi⟩
    · exact ⟨x, by rw [← hj j hji]; exact hx⟩
  refine ⟨h1, fun j x hx => ?_, fun j k x y hx hy hxy => ?_, h4, h5.put hz hq (h2 i _ hi).2, h6⟩
  · by_cases hji : j = i
    · subst hji
      have hxe : x = e := Option.some.inj (hx.symm.trans hi')
      subst hxe
      exact ⟨he, (h2 j _ hi).2⟩
    · have hx' : M j = some x := by rw [← hj j hji]; exact hx
      obtain ⟨g1, g2⟩ := h2 j x hx'
      exact ⟨g1.kept (hq _ (fun z => hji (h3 j i _ _ hx' hi z))), g2⟩
  · obtain ⟨x', hx'⟩ := dom j x hx
    obtain ⟨y', hy'⟩ := dom k y hy
    exact h3 j k x' y' hx' hy' hxy
theorem Mm.next {D : va_G} {κ : Nat → ClassId} {A : Nat → Prop} {ad ad' : Nat → Nat} {M M' : Nat → Option va_E} {s t : State} {H H1 : Heap} {locs locs1 : List Loc} (h : Mm D κ A ad M s H locs) (hB : MW D κ A ad' M' t) (ht : t.heap = H1) (hS : va_S A s.heap H1 locs1) : Mm D κ A ad' M' s H1 locs1 := by
  subst ht
  exact ⟨h.1, hB.2.1, hB.2.2.1, h.2.2.2.1, hS, h.2.2.2.2.2⟩
theorem Mm.same {D : va_G} {κ : Nat → ClassId} {A : Nat → Prop} {ad : Nat → Nat} {M M' : Nat → Option va_E} {s : State} {H : Heap} {locs : List Loc} (h : Mm D κ A ad M s H locs) (e : ∀ i, M' i = M i) : Mm D κ A ad M' s H locs := by
  have : M' = M := funext e
  rw [this]; exact h
section MEM
variable {p : Program} {l : Launch} {e : Env} {R : Room} {s : State} {m : MethodId} {args : Array Value} {below : List Frame} {meth : Method} {c : Code} {H : Heap} {locs : List Loc} {cells slots : Nat} {Q : State → Prop}
variable {cc : ByteArray} {pc nL : Nat} {ls : Array Slot} {rest : List Value} {D : va_G} {κ : Nat → ClassId} {A : Nat → Prop} {ad : Nat → Nat} {M : Nat → Option va_E} {own : String}
theorem m_get (X : CallFix p m c cc nL s args G0 own) (G : Mm D κ A ad M s H locs) {i ci k N index : Nat} {C : String} {T : u_T} {fs : List Value} {v : Value} (hM : M i = some (.inr (ci, fs))) (hc : vwCl[ci]? = some (C, T, N)) (hw : ∀ w ∈ u_ws C T N, w ∈ G0) (hk : k < N) (hl : Cond.fieldLink own index C (T k).2.1 (T k).2.2.1 ∈ G0) (ho : (T k).1 = C) (hv : fs[k]? = some v) (hdg : decode cc pc = .ok (.getfield index, 3))
    (kk : W p l e R s m args below meth c H locs cells slots Q (F0 m (pc + 3) ls (v :: rest))) : W p l e R s m args below meth c H locs cells slots Q (F0 m pc ls (.ref (ad i) :: rest)) :=
  va_get X.1 X.2.1 X.2.2.2.2 hw X.2.2.2.1 G.1 (G.at hM) 0 rfl hc k hk (X.2.2.2.2 _ hl) (fun x hx => by rw [ho] at hx; exact hx) hv hdg kk
theorem m_put (X : CallFix p m c cc nL s args G0 own) (G : Mm D κ A ad M s H locs) {i ci k N index : Nat} {C : String} {T : u_T} {fs : List Value} {v : Value} {M' : Nat → Option va_E} {ty0 : Nat → FieldType} (hM : M i = some (.inr (ci, fs))) (hc : vwCl[ci]? = some (C, T, N)) (hw : ∀ w ∈ u_ws C T N, w ∈ G0) (hty : ∀ k, k < N → parseFieldDescriptor (T k).2.2.1 = some (ty0 k)) (hnm : ∀ a, a < N → ∀ b, b < N → a ≠ b → (T a).2.1 ≠ (T b).2.1) (hk : k < N) (hl : Cond.fieldLink own index C (T k).2.1 (T k).2.2.1 ∈ G0) (ho : (T k).1 = C) (hfin : (T k).2.2.2 = false) (hn : narrow (ty0 k) v = v) (hfit : fits (ty0 k) v = true) (hlen : k < fs.length)
    (hM' : M' i = some (.inr (ci, fs.set k v))) (hj : ∀ j, j ≠ i → M' j = M j) (hdg : decode cc pc = .ok (.putfield index, 3))
    (kk : ∀ (H1 : Heap) (locs1 : List Loc), Mm D κ A ad M' s H1 locs1 → W p l e R s m args below meth c H1 locs1 cells slots Q (F0 m (pc + 3) ls rest)) : W p l e R s m args below meth c H locs cells slots Q (F0 m pc ls (v :: .ref (ad i) :: rest)) := by
  have hts := X.2.2.2.2
  have hK := G.1
  have hap := va_apart (own := own) hts hw ty0 hty hnm hK hc
  obtain ⟨r, h1, cell, q1, q2, q3, q4⟩ := (G.2.1 i _ hM).1
  have hr : r = (C, T, N) := Option.some.inj (h1.symm.trans hc)
  subst hr
  obtain ⟨hS, hfc, kC, hkC, hkind⟩ := hK.1 ci _ hc
  obtain ⟨cf, kf, fi, f, hi, hsl⟩ := hS k hk
  have hlay := hts _ (hw _ (u_in_lay hk))
  unfold u_lay at hlay
  rw [if_neg (by rw [hfin]; decide)] at hlay
  have hst := (u_facts hfc hkC (u_lays hts hw hk) hi).1
  have h6 := u_store hfc hkC hkind hlay hi (hty k hk) hn hfit
  refine W.putK X.1 X.2.1 (f := f) ⟨X.2.2.2.1, hts _ hl, ⟨_, _, _, by rw [ho] at hi; exact hi⟩, hst⟩ (by rw [q2]; exact h6) q1 q3 (by rw [hsl]; exact k2_hasslot (q4 k hk)) rfl rfl hdg fun H' e1 e2 e3 => ?_
  rw [hsl] at e1 ⊢
  exact kk H' _ (G.put hM hM' hj ⟨_, hc, t_OB.to (V := updV (vp_V fs) k v) ⟨_, e1, q2, q3, t_set q4 hap hk v⟩ (fun j _ => vp_updV_set hlen v j)⟩ e2 e3)
theorem m_iald (X : CallFix p m c cc nL s args G0 own) (G : Mm D κ A ad M s H locs) {i n : Nat} {f : Nat → Int32} {x : Int32} (hM : M i = some (.inl (κ 0, n, .inl f))) (hin : vp_in x n) (hdg : decode cc pc = .ok (.iaload, 1))
    (kk : W p l e R s m args below meth c H locs cells slots Q (F0 m (pc + 1) ls (.int (f x.toNatClampNeg) :: rest))) : W p l e R s m args below meth c H locs cells slots Q (F0 m pc ls (.int x :: .ref (ad i) :: rest)) :=
  va_iald X.1 X.2.1 G.1 (G.at hM) 0 0 rfl rfl hin hdg kk
theorem m_alen (X : CallFix p m c cc nL s args G0 own) (G : Mm D κ A ad M s H locs) {i n t0 : Nat} {cA : ClassId} {ty : FieldType} {x : vp_A} (hM : M i = some (.inl (cA, x))) (ht : (tysK κ)[t0]? = some (cA, ty)) (hn : x.1 = n) (hdg : decode cc pc = .ok (.arraylength, 1))
    (kk : W p l e R s m args below meth c H locs cells slots Q (F0 m (pc + 1) ls (.int (Int32.ofNat n) :: rest))) : W p l e R s m args below meth c H locs cells slots Q (F0 m pc ls (.ref (ad i) :: rest)) :=
  va_alen X.1 X.2.1 G.1 (G.at hM) 0 t0 rfl ht (by rw [hn]) hdg kk
theorem m_iast (X : CallFix p m c cc nL s args G0 own) (G : Mm D κ A ad M s H locs) {i n : Nat} {f : Nat → Int32} {x v : Int32} {M' : Nat → Option va_E} (hM : M i = some (.inl (κ 0, n, .inl f))) (hin : vp_in x n) (hM' : M' i = some (.inl (κ 0, n, .inl (upd f x.toNatClampNeg v)))) (hj : ∀ j, j ≠ i → M' j = M j) (hdg : decode cc pc = .ok (.iastore, 1))
    (kk : ∀ (H1 : Heap) (locs1 : List Loc), Mm D κ A ad M' s H1 locs1 → W p l e R s m args below meth c H1 locs1 cells slots Q (F0 m (pc + 1) ls rest)) : W p l e R s m args below meth c H locs cells slots Q (F0 m pc ls (.int v :: .int x :: .ref (ad i) :: rest)) := by
  refine W.iast X.1 X.2.1 (G.2.1 i _ hM).1 ((G.1.2 0 (κ 0, .int) rfl).1 n (fun j => .int (f j))) (fun q => by cases q) (by show ¬ (x < 0 ∨ (arrV _ _ _).slots.size ≤ _); rw [arrV_size]; exact hin) rfl rfl hdg fun H1 e z oq => ?_
  refine kk H1 _ (G.put hM hM' hj ?_ z oq)
  show H1[ad i]? = some (vp_cell _ _)
  rw [e]
  rw [vp_cell_i, vp_cell_i, arrV_store]
  congr 2
  funext q
  by_cases hq : q = x.toNatClampNeg
  · subst hq
    simp [updV, upd]
  · simp [updV, upd, hq]
end MEM
/-- a method's ends: what it answers is known, the world behind it too -/
abbrev QI (D : va_G) (κ : Nat → ClassId) (A : Nat → Prop) (ad : Nat → Nat) (M' : Nat → Option va_E) (v : Int32) : Array Value → State → Outcome → State → Prop := va_Qi (fun (x : Int32) (_ : Unit) => x = v) (fun _ t => MW D κ A ad M' t) A
abbrev QV (D : va_G) (κ : Nat → ClassId) (A : Nat → Prop) (ad : Nat → Nat) (M' : Nat → Option va_E) : Array Value → State → Outcome → State → Prop := va_Qv (fun (_ : Unit) => True) (fun _ t => MW D κ A ad M' t) A
/-- any method's head -/
theorem met_of {l : Launch} {y : MethodName} {own : String} {b : ByteArray} {nL : Nat} {ret : Option FieldType} {rm : Room} {As : List Value} {D : va_G} {κ : Nat → ClassId} {A : Nat → Prop} {ad : Nat → Nat} {M : Nat → Option va_E} {Qc : Array Value → State → Outcome → State → Prop} {mc ms : Nat} (hy : plainName y.cls = true) (ho : y.cls = own) (hn : (lg_sl As).length ≤ nL)
    (body : ∀ (p : Program) (e : Env) (s : State) (m : MethodId) (below : List Frame) (meth : Method) (c : Code) (ls : Array Slot), CallFix p m c b nL s As.toArray G0 own → meth.sig.returnType = ret → meth.locks = false → Mm D κ A ad M s s.heap [] → lv_has ls nL (lv_args 0 As) → W p l e rm s m As.toArray below meth c s.heap [] 0 0 (MQ below Qc As.toArray s mc ms A) (F0 m 0 ls [])) : Met l y (gw y b nL ret) rm (va_Pc As (MW D κ A ad M)) Qc mc ms A := by
  refine Met.ofW (cc := b) (maxL := nL) (ret := ret) hy rfl ?_
  intro p e s m args below meth c s₁ B hml hv
  obtain ⟨rfl, hG⟩ := hv
  have hts := atoms_spec (ws := gw y b nL ret) B.pre
  have hown : s.vm.findClass own = some m.cls := by rw [← ho]; exact findClass_of_methodNamed B.named
  have hl := lv_entry As (n := nL) hn
  rw [lg_entry_eq]
  exact body p e s m below meth c _ ⟨B.exec, B.bytes, hml, hown, fun w hw => hts w (List.mem_cons_of_mem _ hw)⟩ B.returns B.notSynchronized hG hl
section MCALL
variable {p : Program} {l : Launch} {e : Env} {R : Room} {s : State} {m : MethodId} {args : Array Value} {below : List Frame} {meth : Method} {c : Code} {H : Heap} {locs : List Loc} {cells slots : Nat} {Q : State → Prop}
variable {cc : ByteArray} {pc nL : Nat} {ls : Array Slot} {rest : List Value} {D : va_G} {κ : Nat → ClassId} {A : Nat → Prop} {ad : Nat → Nat} {M M' : Nat → Option va_E} {own : String} {lv : List (Nat × Value)}
theorem m_iret (X : CallFix p m c cc nL s args G0 own) (G : Mm D κ A ad M s H locs) {x v : Int32} (hr : meth.sig.returnType = some .int) (hl : meth.locks = false) (hdg : decode cc pc = .ok (.ireturn, 1)) (hx : x = v) (hM : M = M') : W p l e R s m args below meth c H locs cells slots (MQ below (QI D κ A ad M' v) args s cells slots A) (F0 m pc ls [.int x]) := by
  subst hx; subst hM
  exact W.iret X.1 X.2.1 hr (fun t ht hW => ⟨⟨x, (), rfl, rfl, G.out ht hW⟩, G.2.2.2.2.1.F ht⟩) G.2.2.2.2.1.2.2 hdg hl
theorem m_zret (X : CallFix p m c cc nL s args G0 own) (G : Mm D κ A ad M s H locs) {x v : Int32} (hr : meth.sig.returnType = some .boolean) (hl : meth.locks = false) (hdg : decode cc pc = .ok (.ireturn, 1)) (hz : x = 0 ∨ x = 1) (hx : x = v) (hM : M = M') : W p l e R s m args below meth c H locs cells slots (MQ below (QI D κ A ad M' v) args s cells slots A) (F0 m pc ls [.int x]) := by
  subst hx; subst hM
  exact W.zret X.1 X.2.1 hr (by rcases hz with rfl | rfl <;> rfl) (fun t ht hW => ⟨⟨x, (), rfl, rfl, G.out ht hW⟩, G.2.2.2.2.1.F ht⟩) G.2.2.2.2.1.2.2 hdg hl
theorem m_vret (X : CallFix p m c cc nL s args G0 own) (G : Mm D κ A ad M s H locs) (hr : meth.sig.returnType = none) (hl : meth.locks = false) (hdg : decode cc pc = .ok (.return_, 1)) (hM : M = M') : W p l e R s m args below meth c H locs cells slots (MQ below (QV D κ A ad M') args s cells slots A) (F0 m pc ls []) := by
  subst hM
  exact W.vret X.1 X.2.1 hr (fun t ht hW => ⟨⟨(), rfl, trivial, G.out ht hW⟩, G.2.2.2.2.1.F ht⟩) G.2.2.2.2.1.2.2 hdg hl
theorem m_recv (G : Mm D κ A ad M s H locs) {i ci : Nat} {fs : List Value} {C : String} {T : u_T} {N : Nat} (hM : M i = some (.inr (ci, fs))) (hc : vwCl[ci]? = some (C, T, N)) : ∃ cell : Cell, H[ad i]? = some cell ∧ cell.vm.isStatics = false ∧ s.vm.findClass C = some cell.cls := va_recv (q := (C, T, N)) G.1 (G.at hM) hc (q0 := 0) rfl
theorem m_pre (G : Mm D κ A ad M s H locs) {U : State} (hU : U.heap = H) (hW : s.WarmedH U.vm) : MW D κ A ad M U := G.out hU hW
theorem m_calli (X : CallFix p m c cc nL s args G0 own) (G : Mm D κ A ad M s H locs) {i ci N n index maxL : Nat} {fs As st : List Value} {C : String} {T : u_T} {y : MethodName} {b : ByteArray} {ret : FieldType} {rm : Room} {v : Int32}
    (hM : Met l y (gw y b maxL (some ret)) rm (va_Pc (.ref (ad i) :: As) (MW D κ A ad M)) (QI D κ A ad M' v) rm.cells rm.slots A) (hi : M i = some (.inr (ci, fs))) (hc : vwCl[ci]? = some (C, T, N)) (hG : GoodIn G0 (wsV own index C y (gw y b maxL (some ret))))
    (hd : y.cls = C ∧ y.cls ≠ "java/lang/invoke/MethodHandle" ∧ y.cls ≠ "java/lang/invoke/VarHandle" ∧ (parseMethodDescriptor y.desc).map (fun d => d.parameters.length) = some n) (hR : rm.frames + 1 ≤ R.frames ∧ 8 + (maxL + 11) + rm.locals ≤ R.locals) (hn : As.length = n) (hl : lv_has ls nL lv) (hst : st = As.reverse ++ .ref (ad i) :: rest) (hW : 2 * (F0 m pc ls st).monitorRoom + (rest.map fun v => v.category).sum ≤ 8) (hdg : decode cc pc = .ok (.invokevirtual index, 3)) (hf : cells + rm.cells ≤ R.cells ∧ slots + rm.slots ≤ R.slots)
    (kk : ∀ (H1 : Heap) (locs1 : List Loc), Mm D κ A ad M' s H1 locs1 → W p l e R s m args below meth c H1 locs1 (cells + rm.cells) (slots + rm.slots) Q (F0 m (pc + 3) ls (.int v :: rest))) : W p l e R s m args below meth c H locs cells slots Q (F0 m pc ls st) := by
  refine va_calli (va_runV X hM (cwV n X.2.2.2.2 hG rfl rfl rfl hd hR) ⟨fun a U g mk q => ⟨q.1, q.2.blind⟩, m_recv G hi hc, fun U hU hW => ⟨rfl, m_pre G hU hW⟩⟩ rfl hn hl.1 hst hW hdg hf) G.2.2.2.2.1 (fun q _ h => h) (fun q h => h) (fun r u t H1 locs1 ht hvm hw hB hz hk hS => ?_)
  subst hw
  exact kk H1 locs1 (G.next hB ht hS)
theorem m_callv (X : CallFix p m c cc nL s args G0 own) (G : Mm D κ A ad M s H locs) {i ci N n index maxL : Nat} {fs As st : List Value} {C : String} {T : u_T} {y : MethodName} {b : ByteArray} {rm : Room}
    (hM : Met l y (gw y b maxL none) rm (va_Pc (.ref (ad i) :: As) (MW D κ A ad M)) (QV D κ A ad M') rm.cells rm.slots A) (hi : M i = some (.inr (ci, fs))) (hc : vwCl[ci]? = some (C, T, N)) (hG : GoodIn G0 (wsV own index C y (gw y b maxL none)))
    (hd : y.cls = C ∧ y.cls ≠ "java/lang/invoke/MethodHandle" ∧ y.cls ≠ "java/lang/invoke/VarHandle" ∧ (parseMethodDescriptor y.desc).map (fun d => d.parameters.length) = some n) (hR : rm.frames + 1 ≤ R.frames ∧ 8 + (maxL + 11) + rm.locals ≤ R.locals) (hn : As.length = n) (hl : lv_has ls nL lv) (hst : st = As.reverse ++ .ref (ad i) :: rest) (hW : 2 * (F0 m pc ls st).monitorRoom + (rest.map fun v => v.category).sum ≤ 8) (hdg : decode cc pc = .ok (.invokevirtual index, 3)) (hf : cells + rm.cells ≤ R.cells ∧ slots + rm.slots ≤ R.slots)
    (kk : ∀ (H1 : Heap) (locs1 : List Loc), Mm D κ A ad M' s H1 locs1 → W p l e R s m args below meth c H1 locs1 (cells + rm.cells) (slots + rm.slots) Q (F0 m (pc + 3) ls rest)) : W p l e R s m args below meth c H locs cells slots Q (F0 m pc ls st) := by
  refine va_callv (va_runV X hM (cwV n X.2.2.2.2 hG rfl rfl rfl hd hR) ⟨fun a U g mk q => ⟨q.1, q.2.blind⟩, m_recv G hi hc, fun U hU hW => ⟨rfl, m_pre G hU hW⟩⟩ rfl hn hl.1 hst hW hdg hf) G.2.2.2.2.1 (fun q _ h => h) (fun q h => h) (fun u t H1 locs1 ht hvm hw hB hz hk hS => ?_)
  exact kk H1 locs1 (G.next hB ht hS)
theorem m_callsi (X : CallFix p m c cc nL s args G0 own) (G : Mm D κ A ad M s H locs) {n index maxL : Nat} {As st : List Value} {y : MethodName} {b : ByteArray} {ret : FieldType} {rm : Room} {v : Int32}
    (hM : Met l y (gw y b maxL (some ret)) rm (va_Pc As (MW D κ A ad M)) (QI D κ A ad M' v) rm.cells rm.slots A) (hG : GoodIn G0 (va_wsS own index y (gw y b maxL (some ret))))
    (hd : y.cls ≠ "java/lang/invoke/MethodHandle" ∧ y.cls ≠ "java/lang/invoke/VarHandle" ∧ (parseMethodDescriptor y.desc).map (fun d => d.parameters.length) = some n) (hR : rm.frames + 1 ≤ R.frames ∧ 8 + (maxL + 11) + rm.locals ≤ R.locals) (hn : As.length = n) (hl : lv_has ls nL lv) (hst : st = As.reverse ++ rest) (hW : 2 * (F0 m pc ls st).monitorRoom + (rest.map fun v => v.category).sum ≤ 8) (hdg : decode cc pc = .ok (.invokestatic index, 3)) (hf : cells + rm.cells ≤ R.cells ∧ slots + rm.slots ≤ R.slots)
    (kk : ∀ (H1 : Heap) (locs1 : List Loc), Mm D κ A ad M' s H1 locs1 → W p l e R s m args below meth c H1 locs1 (cells + rm.cells) (slots + rm.slots) Q (F0 m (pc + 3) ls (.int v :: rest))) : W p l e R s m args below meth c H locs cells slots Q (F0 m pc ls st) := by
  refine va_calli (va_runS X hM (va_cwS n X.2.2.2.2 hG rfl rfl rfl hd hR) ⟨fun a U g mk q => ⟨q.1, q.2.blind⟩, fun U hU hW => ⟨rfl, m_pre G hU hW⟩⟩ rfl hn hl.1 hst hW hdg hf) G.2.2.2.2.1 (fun q _ h => h) (fun q h => h) (fun r u t H1 locs1 ht hvm hw hB hz hk hS => ?_)
  subst hw
  exact kk H1 locs1 (G.next hB ht hS)
end MCALL
