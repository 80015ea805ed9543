/-! NEW OBJECTS WITH CONSTRUCTORS -/
section CT
variable {p : Program} {l : Launch} {e : Env} {R : Room} {s : State} {m : MethodId} {args : Array Value} {below : List Frame} {meth : Method} {c : Code} {H : Heap} {locs : List Loc} {cells slots : Nat} {Q : State → Prop}
variable {cc : ByteArray} {pc nL : Nat} {ls : Array Slot} {rest : List Value} {D : va_G} {κ : Nat → ClassId} {A : Nat → Prop} {ad : Nat → Nat} {own : String} {lv : List (Nat × Value)} {M : Nat → Option va_E}
theorem m_callN (X : CallFix p m c cc nL s args G0 own) (G : Mm D κ A ad M s H locs) {n index maxL a : Nat} {As st : List Value} {y : MethodName} {b : ByteArray} {rm : Room} {host : String} {ok : (Nat → Nat) → Prop} {M' : (Nat → Nat) → Nat → Option va_E}
    (hM : Met l y (gw y b maxL none) rm (va_Pc (.ref a :: As) (MW D κ A ad M)) (QVC D A ok M') rm.cells rm.slots A) (hth : (own, index, y, host) ∈ thM) (hin : y.name = "<init>") (him : Cond.instanceMethod y ∈ G0) (hini : Cond.initialized y.cls ∈ G0) (hG : GoodIn G0 (gw y b maxL none))
    (hd : y.cls ≠ "java/lang/invoke/MethodHandle" ∧ y.cls ≠ "java/lang/invoke/VarHandle" ∧ (parseMethodDescriptor y.desc).map (fun d => d.parameters.length) = some n) (hR : rm.frames + 1 ≤ R.frames ∧ 8 + (maxL + 11) + rm.locals ≤ R.locals) (hn : As.length = n) (hl : lv_has ls nL lv) (hst : st = As.reverse ++ .ref a :: rest) (hW : 2 * (F0 m pc ls st).monitorRoom + (rest.map fun v => v.category).sum ≤ 8) (hdg : decode cc pc = .ok (.invokespecial index, 3)) (hf : cells + rm.cells ≤ R.cells ∧ slots + rm.slots ≤ R.slots)
    (kk : ∀ (ad' : Nat → Nat) (H1 : Heap) (locs1 : List Loc), ok ad' → Mm D κ A ad' (M' ad') s H1 locs1 → W p l e R s m args below meth c H1 locs1 (cells + rm.cells) (slots + rm.slots) Q (F0 m (pc + 3) ls rest)) : W p l e R s m args below meth c H locs cells slots Q (F0 m pc ls st) := by
  refine va_callv (va_runIN X hM ⟨va_cnB n X.2.2.2.2 hG rfl rfl rfl (G.2.2.2.2.2.2.2.2.2.2.1 _ hth) (X.2.2.2.2 _ hini) hd hR, hin, X.2.2.2.2 _ him⟩ ⟨fun a U g mk q => ⟨q.1, q.2.blind⟩, fun U hU hW => ⟨rfl, m_pre G hU hW⟩⟩ rfl hn hl.1 hst hW hdg hf) G.2.2.2.2.1 (fun q _ h => h) (fun q h => h) (fun u t H1 locs1 ht hvm hw hB hz hk hS => ?_)
  exact kk u H1 locs1 hw (G.nextC (by rw [← ht]; exact hB) hS)
theorem m_callC (X : CallFix p m c cc nL s args G0 own) (G : Mm D κ A ad M s H locs) {n index maxL a : Nat} {As st : List Value} {y : MethodName} {b : ByteArray} {rm : Room} {ok : (Nat → Nat) → Prop} {M' : (Nat → Nat) → Nat → Option va_E}
    (hM : Met l y (gw y b maxL none) rm (va_Pc (.ref a :: As) (MW D κ A ad M)) (QVC D A ok M') rm.cells rm.slots A) (hml : Cond.methodLink own index y ∈ G0) (hin : y.name = "<init>") (him : Cond.instanceMethod y ∈ G0) (hini : Cond.initialized y.cls ∈ G0) (hcd : Cond.code y b maxL none ∈ G0)
    (hd : y.cls ≠ "java/lang/invoke/MethodHandle" ∧ y.cls ≠ "java/lang/invoke/VarHandle" ∧ (parseMethodDescriptor y.desc).map (fun d => d.parameters.length) = some n) (hR : rm.frames + 1 ≤ R.frames ∧ 8 + (maxL + 11) + rm.locals ≤ R.locals) (hn : As.length = n) (hl : lv_has ls nL lv) (hst : st = As.reverse ++ .ref a :: rest) (hW : 2 * (F0 m pc ls st).monitorRoom + (rest.map fun v => v.category).sum ≤ 8) (hdg : decode cc pc = .ok (.invokespecial index, 3)) (hf : cells + rm.cells ≤ R.cells ∧ slots + rm.slots ≤ R.slots)
    (kk : ∀ (ad' : Nat → Nat) (H1 : Heap) (locs1 : List Loc), ok ad' → Mm D κ A ad' (M' ad') s H1 locs1 → W p l e R s m args below meth c H1 locs1 (cells + rm.cells) (slots + rm.slots) Q (F0 m (pc + 3) ls rest)) : W p l e R s m args below meth c H locs cells slots Q (F0 m pc ls st) := by
  have hG := gw_in hcd
  have hcb : CallB R s args own index y b maxL none (gw y b maxL none) rm rm.cells rm.slots n := by
    refine ⟨rfl, rfl, hR.1, hR.2, pay_in X.2.2.2.2 hG, List.mem_cons_self, X.2.2.2.2 _ hcd, X.2.2.2.2 _ hini, ⟨hd.1, hd.2.1⟩, fun sig h => ?_, X.2.2.2.2 _ hml⟩
    have h2 := hd.2.2
    rw [h] at h2
    exact (Option.some.inj h2).symm
  refine va_callv (va_runI X hM ⟨hcb, hin, X.2.2.2.2 _ him⟩ ⟨fun a U g mk q => ⟨q.1, q.2.blind⟩, fun U hU hW => ⟨rfl, m_pre G hU hW⟩⟩ rfl hn hl.1 hst hW hdg hf) G.2.2.2.2.1 (fun q _ h => h) (fun q h => h) (fun u t H1 locs1 ht hvm hw hB hz hk hS => ?_)
  exact kk u H1 locs1 hw (G.nextC (by rw [← ht]; exact hB) hS)
theorem m_putA (X : CallFix p m c cc nL s args G0 own) (G : Mm D κ A ad M s H locs) {i ci k N index a : Nat} {C : String} {T : u_T} {fs : List Value} {v : Value} {M' : Nat → Option va_E} {ty0 : Nat → FieldType} (ha : a = ad i) (hM : M i = some (.inr (ci, fs))) (hc : vwCl[ci]? = some (C, T, N)) (hw : ∀ w ∈ u_ws C T N, w ∈ G0) (hty : ∀ k, k < N → parseFieldDescriptor (T k).2.2.1 = some (ty0 k)) (hnm : ∀ a, a < N → ∀ b, b < N → a ≠ b → (T a).2.1 ≠ (T b).2.1) (hk : k < N) (hl : Cond.fieldLink own index C (T k).2.1 (T k).2.2.1 ∈ G0) (ho : (T k).1 = C) (hfin : (T k).2.2.2 = false) (hn : narrow (ty0 k) v = v) (hfit : fits (ty0 k) v = true) (hlen : k < fs.length)
    (hM' : M' i = some (.inr (ci, fs.set k v))) (hj : ∀ j, j ≠ i → M' j = M j) (hdg : decode cc pc = .ok (.putfield index, 3))
    (kk : ∀ (H1 : Heap) (locs1 : List Loc), Mm D κ A ad M' s H1 locs1 → W p l e R s m args below meth c H1 locs1 cells slots Q (F0 m (pc + 3) ls rest)) : W p l e R s m args below meth c H locs cells slots Q (F0 m pc ls (v :: .ref a :: rest)) := by
  subst ha
  exact m_put X G hM hc hw hty hnm hk hl ho hfin hn hfit hlen hM' hj hdg kk
end CT
