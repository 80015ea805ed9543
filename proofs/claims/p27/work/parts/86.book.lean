/-! BOOKS AS A WHOLE: a book's object stays where it is; what holds of the class's state is a predicate; one book or two -/
def nuW : Nat → Option va_E := fun _ => none
theorem TH.narrow {A B : Nat → Prop} {U : State} (h : TH A U) (hAB : ∀ q, B q → A q) : TH B U := ⟨h.1.narrow hAB, h.2.1.narrow hAB, h.2.2⟩
/-- what holds at a frame, apart from the cells -/
def Wo (D : va_G) (κ : Nat → ClassId) (A : Nat → Prop) (B : Heap → Prop) (s : State) (H : Heap) (locs : List Loc) : Prop := va_K D vwCl (tysK κ) s ∧ (∀ q, s.heap.size ≤ q → A q) ∧ va_S A s.heap H locs ∧ TH A s ∧ B H
def WB (D : va_G) (κ : Nat → ClassId) (A : Nat → Prop) (B : Heap → Prop) (U : State) : Prop := Wo D κ A B U U.heap []
/-- one book -/
def B1 (D : va_G) (κ : Nat → ClassId) (A : Nat → Prop) (o : Nat) (P : BS → Prop) (H : Heap) : Prop := ∃ (ad : Nat → Nat) (b : BS), ad 50 = o ∧ P b ∧ MC D A ad (celB κ ad nuW b) H
/-- two books -/
def B2 (D : va_G) (κ : Nat → ClassId) (A : Nat → Prop) (o q : Nat) (P1 P2 : BS → Prop) (H : Heap) : Prop := ∃ (ad1 ad2 : Nat → Nat) (b1 b2 : BS), ad1 50 = o ∧ ad2 50 = q ∧ P1 b1 ∧ P2 b2 ∧ MC D A ad1 (celB κ ad1 nuW b1) H ∧ MC D A ad2 (celB κ ad2 nuW b2) H ∧ ∀ i j e e', celB κ ad1 nuW b1 i = some e → celB κ ad2 nuW b2 j = some e' → ad1 i ≠ ad2 j
abbrev QW (A : Nat → Prop) (B : Heap → Prop) (v : Int32) : Array Value → State → Outcome → State → Prop := va_Qi (fun (x : Int32) (_ : Unit) => x = v) (fun _ t => B t.heap) A
section WO
variable {D : va_G} {κ : Nat → ClassId} {A : Nat → Prop} {B B' : Heap → Prop} {s t U : State} {H H1 : Heap} {locs locs1 : List Loc}
theorem Wo.out (h : Wo D κ A B s H locs) (ht : t.heap = H) (hW : s.WarmedH t.vm) : WB D κ A B t := by
  obtain ⟨h1, h2, h3, h4, h5⟩ := h
  subst ht
  exact ⟨va_K.moved hW.alike h1, fun q hq => h2 q (Nat.le_trans h3.1 hq), va_S.rf, h4.out h3 rfl hW, h5⟩
theorem WB.blind {g : JFrame} {mk : MethodId} {a : Array Value} (h : WB D κ A B U) : WB D κ A B (U.calling g mk a) := by
  obtain ⟨h1, h2, h3, h4, h5⟩ := h
  exact ⟨va_K.moved (u := U) (U := U.calling g mk a) (Vm.Alike.refl U.vm) h1, h2, h3, h4.out (t := U.calling g mk a) h3 rfl (State.WarmedH.refl U), h5⟩
theorem Wo.next (h : Wo D κ A B s H locs) (hB : B' H1) (hS : va_S A s.heap H1 locs1) : Wo D κ A B' s H1 locs1 := ⟨h.1, h.2.1, hS, h.2.2.2.1, hB⟩
theorem Wo.S (h : Wo D κ A B s H locs) : va_S A s.heap H locs := h.2.2.1
theorem Wo.cel (h : Wo D κ A B s H locs) : B H := h.2.2.2.2
theorem Wo.mm {ad : Nat → Nat} {M : Nat → Option va_E} (h : Wo D κ A B s H locs) (hM : MC D A ad M H) : Mm D κ A ad M s H locs := ⟨h.1, hM.1, hM.2, h.2.1, h.2.2.1, h.2.2.2.1⟩
theorem Mm.wo {ad : Nat → Nat} {M : Nat → Option va_E} (h : Mm D κ A ad M s H locs) (hB : B H) : Wo D κ A B s H locs := ⟨h.1, h.2.2.2.1, h.2.2.2.2.1, h.2.2.2.2.2, hB⟩
end WO
theorem B1.rcv {D : va_G} {κ : Nat → ClassId} {A : Nat → Prop} {o : Nat} {P : BS → Prop} {s : State} {H : Heap} {locs : List Loc} (h : Wo D κ A (B1 D κ A o P) s H locs) : ∃ cell : Cell, H[o]? = some cell ∧ cell.vm.isStatics = false ∧ s.vm.findClass RX7 = some cell.cls := by
  obtain ⟨ad, b, rfl, -, hM⟩ := h.cel
  exact m_recv (h.mm hM) (B_rcv (ci := 7) (okL50 _) (by decide)) rfl
theorem B2.left {D : va_G} {κ : Nat → ClassId} {A : Nat → Prop} {o q : Nat} {P1 P2 : BS → Prop} {H : Heap} (h : B2 D κ A o q P1 P2 H) : B1 D κ A o P1 H := by
  obtain ⟨ad1, ad2, b1, b2, h1, h2, h3, h4, h5, h6, h7⟩ := h
  exact ⟨ad1, b1, h1, h3, h5⟩
theorem B2.swap {D : va_G} {κ : Nat → ClassId} {A : Nat → Prop} {o q : Nat} {P1 P2 : BS → Prop} {H : Heap} (h : B2 D κ A o q P1 P2 H) : B2 D κ A q o P2 P1 H := by
  obtain ⟨ad1, ad2, b1, b2, h1, h2, h3, h4, h5, h6, h7⟩ := h
  exact ⟨ad2, ad1, b2, b1, h2, h1, h4, h3, h6, h5, fun i j e e' he he' q => h7 j i e' e he' he q.symm⟩
theorem Wo.imp {D : va_G} {κ : Nat → ClassId} {A : Nat → Prop} {B B' : Heap → Prop} {s : State} {H : Heap} {locs : List Loc} (h : Wo D κ A B s H locs) (g : B H → B' H) : Wo D κ A B' s H locs := ⟨h.1, h.2.1, h.2.2.1, h.2.2.2.1, g h.cel⟩
theorem MC.wide {D : va_G} {A A' : Nat → Prop} {ad : Nat → Nat} {M : Nat → Option va_E} {H : Heap} (h : MC D A' ad M H) (hA : ∀ q, A' q → A q) : MC D A ad M H := ⟨fun i e hi => ⟨(h.1 i e hi).1, hA _ (h.1 i e hi).2⟩, h.2⟩
/-- from a contract over the cells of one book to one over the book -/
theorem met_lift {l : Launch} {y : MethodName} {ws : List Cond} {rm : Room} {As : List Value} {D : va_G} {κ : Nat → ClassId} {A : Nat → Prop} {o : Nat} {P P' : BS → Prop} {v : Int32} {mc ms : Nat}
    (h : ∀ (ad : Nat → Nat) (b : BS), ad 50 = o → P b → ∃ b' : BS, P' b' ∧ Met l y ws rm (va_Pc (.ref (ad 50) :: As) (MW D κ A ad (celB κ ad nuW b))) (QIA D A (fun ad' => Ag b.2.2 ad ad') (fun ad' => celB κ ad' nuW b') v) mc ms A) :
    Met l y ws rm (va_Pc (.ref o :: As) (WB D κ A (B1 D κ A o P))) (QW A (B1 D κ A o P') v) mc ms A := by
  intro p e ha hc hk s m args below hf happ hpre hK
  obtain ⟨rfl, hw⟩ := hpre
  obtain ⟨ad, b, h50, hP, hM⟩ := hw.cel
  obtain ⟨b', hP', hmet⟩ := h ad b h50 hP
  subst h50
  obtain ⟨n, o', q1, q2, q3, ⟨⟨r, u, e1, e2, hMC⟩, hF⟩, hL⟩ := hmet p e ha hc hk s m _ below hf happ ⟨rfl, hw.mm hM⟩ hK
  exact ⟨n, o', q1, q2, q3, ⟨⟨r, (), e1, e2.1, u, b', e2.2 50 (Or.inl (by decide)), hP', hMC⟩, hF⟩, hL⟩
theorem met_lift0 {l : Launch} {y : MethodName} {ws : List Cond} {rm : Room} {As : List Value} {D : va_G} {κ : Nat → ClassId} {A : Nat → Prop} {o : Nat} {P P' : BS → Prop} {v : Int32} {mc ms : Nat}
    (h : ∀ (ad : Nat → Nat) (b : BS), ad 50 = o → P b → ∃ b' : BS, P' b' ∧ Met l y ws rm (va_Pc (.ref (ad 50) :: As) (MW D κ A ad (celB κ ad nuW b))) (QI D κ A ad (celB κ ad nuW b') v) mc ms A) :
    Met l y ws rm (va_Pc (.ref o :: As) (WB D κ A (B1 D κ A o P))) (QW A (B1 D κ A o P') v) mc ms A := by
  intro p e ha hc hk s m args below hf happ hpre hK
  obtain ⟨rfl, hw⟩ := hpre
  obtain ⟨ad, b, h50, hP, hM⟩ := hw.cel
  obtain ⟨b', hP', hmet⟩ := h ad b h50 hP
  subst h50
  obtain ⟨n, o', q1, q2, q3, ⟨⟨r, u, e1, e2, hMW⟩, hF⟩, hL⟩ := hmet p e ha hc hk s m _ below hf happ ⟨rfl, hw.mm hM⟩ hK
  exact ⟨n, o', q1, q2, q3, ⟨⟨r, (), e1, e2, ad, b', rfl, hP', Mm.mc hMW⟩, hF⟩, hL⟩
/-- .. and to one over the first of two books -/
theorem met_two {l : Launch} {y : MethodName} {ws : List Cond} {rm : Room} {As : List Value} {D : va_G} {κ : Nat → ClassId} {A : Nat → Prop} {o q : Nat} {P1 P1' P2 : BS → Prop} {v : Int32} {mc ms : Nat}
    (h : ∀ A : Nat → Prop, Met l y ws rm (va_Pc As (WB D κ A (B1 D κ A o P1))) (QW A (B1 D κ A o P1') v) mc ms A) :
    Met l y ws rm (va_Pc As (WB D κ A (B2 D κ A o q P1 P2))) (QW A (B2 D κ A o q P1' P2) v) mc ms A := by
  intro p e ha hc hk s m args below hf happ hpre hK
  obtain ⟨rfl, hw⟩ := hpre
  obtain ⟨ad1, ad2, b1, b2, h1, h2, h3, h4, h5, h6, h7⟩ := hw.cel
  obtain ⟨A', hA'⟩ : ∃ A' : Nat → Prop, A' = fun x => A x ∧ ∀ j e', celB κ ad2 nuW b2 j = some e' → x ≠ ad2 j := ⟨_, rfl⟩
  have sub : ∀ x, A' x → A x := fun x hx => by rw [hA'] at hx; exact hx.1
  have pre : WB D κ A' (B1 D κ A' o P1) s := by
    refine ⟨hw.1, fun x hx => ?_, va_S.rf, hw.2.2.2.1.narrow sub, ad1, b1, h1, h3, fun i e he => ⟨(h5.1 i e he).1, ?_⟩, h5.2⟩
    · rw [hA']
      refine ⟨hw.2.1 x hx, fun j e' hj hxe => ?_⟩
      have := (h6.1 j e' hj).1.lt
      have hx' : s.heap.size ≤ x := hx
      have hl : ad2 j < s.heap.size := this
      omega
    · rw [hA']
      exact ⟨(h5.1 i e he).2, fun j e' hj hxe => h7 i j e e' he hj hxe⟩
  obtain ⟨n, o', q1, q2, q3, ⟨⟨r, u, e1, e2, ad1', b1', g1, g2, g3⟩, hF⟩, L, hL1, hL2⟩ := h A' p e ha hc hk s m _ below hf happ ⟨rfl, pre⟩ hK
  refine ⟨n, o', q1, q2, q3, ⟨⟨r, (), e1, e2, ad1', ad2, b1', b2, g1, h2, g2, h4, g3.wide sub, ⟨fun j e' hj => ⟨(h6.1 j e' hj).1.kept ?_, (h6.1 j e' hj).2⟩, h6.2⟩, fun i j e e' he he' hx => ?_⟩, hF.1, fun x hx hnA => hF.2 x hx (fun w => hnA (sub x w))⟩, L, hL1, fun x hx => sub _ (hL2 x hx)⟩
  · refine hF.2 (ad2 j) (h6.1 j e' hj).1.lt (fun w => ?_)
    rw [hA'] at w
    exact w.2 j e' hj rfl
  · have w := (g3.1 i e he).2
    rw [hA'] at w
    exact w.2 j e' he' hx
theorem met_imp {l : Launch} {y : MethodName} {ws : List Cond} {rm : Room} {As : List Value} {D : va_G} {κ : Nat → ClassId} {A : Nat → Prop} {B B' C C' : Heap → Prop} {v : Int32} {mc ms : Nat} (h : Met l y ws rm (va_Pc As (WB D κ A B)) (QW A C v) mc ms A) (hB : ∀ H, B' H → B H) (hC : ∀ H, C H → C' H) : Met l y ws rm (va_Pc As (WB D κ A B')) (QW A C' v) mc ms A :=
  MetFree.mono h (fun a s q => ⟨q.1, q.2.imp (hB _)⟩) (fun _ _ _ _ _ q => q) (fun a s o t _ q => ⟨⟨by obtain ⟨⟨r, u, e1, e2, e3⟩, -⟩ := q.1; exact ⟨r, u, e1, e2, hC _ e3⟩, q.1.2⟩, q.2⟩)
/-- .. and to one over the second -/
theorem met_two' {l : Launch} {y : MethodName} {ws : List Cond} {rm : Room} {As : List Value} {D : va_G} {κ : Nat → ClassId} {A : Nat → Prop} {o q : Nat} {P1 P2 P2' : BS → Prop} {v : Int32} {mc ms : Nat}
    (h : ∀ A : Nat → Prop, Met l y ws rm (va_Pc As (WB D κ A (B1 D κ A q P2))) (QW A (B1 D κ A q P2') v) mc ms A) :
    Met l y ws rm (va_Pc As (WB D κ A (B2 D κ A o q P1 P2))) (QW A (B2 D κ A o q P1 P2') v) mc ms A :=
  met_imp (met_two h) (fun _ w => w.swap) (fun _ w => w.swap)
theorem met_ofG {l : Launch} {y : MethodName} {own : String} {b : ByteArray} {nL : Nat} {ret : Option FieldType} {rm : Room} {As : List Value} {A : Nat → Prop} {Wd : State → Prop} {Qc : Array Value → State → Outcome → State → Prop} {mc ms : Nat} (hy : plainName y.cls = true) (ho : y.cls = own) (hn : (lg_sl As).length ≤ nL)
    (body : ∀ (p : Program) (e : Env) (s : State) (m : MethodId) (below : List Frame) (meth : Method) (c : Code) (ls : Array Slot), CallFix p m c b nL s As.toArray G0 own → meth.sig.returnType = ret → meth.locks = false → Wd s → lv_has ls nL (lv_args 0 As) → W p l e rm s m As.toArray below meth c s.heap [] 0 0 (MQ below Qc As.toArray s mc ms A) (F0 m 0 ls [])) : Met l y (gw y b nL ret) rm (va_Pc As Wd) Qc mc ms A := by
  refine Met.ofW (cc := b) (maxL := nL) (ret := ret) hy rfl ?_
  intro p e s m args below meth c s₁ B hml hv
  obtain ⟨rfl, hG⟩ := hv
  have hts := atoms_spec (ws := gw y b nL ret) B.pre
  have hown : s.vm.findClass own = some m.cls := by rw [← ho]; exact findClass_of_methodNamed B.named
  have hl := lv_entry As (n := nL) hn
  rw [lg_entry_eq]
  exact body p e s m below meth c _ ⟨B.exec, B.bytes, hml, hown, fun w hw => hts w (List.mem_cons_of_mem _ hw)⟩ B.returns B.notSynchronized hG hl
section WR
variable {p : Program} {l : Launch} {e : Env} {R : Room} {s : State} {m : MethodId} {args : Array Value} {below : List Frame} {meth : Method} {c : Code} {H : Heap} {locs : List Loc} {cells slots : Nat} {Q : State → Prop}
variable {cc : ByteArray} {pc nL : Nat} {ls : Array Slot} {rest : List Value} {D : va_G} {κ : Nat → ClassId} {A : Nat → Prop} {B B' : Heap → Prop} {own : String} {lv : List (Nat × Value)} {mc ms o : Nat}
theorem w_iret (X : CallFix p m c cc nL s args G0 own) (G : Wo D κ A B s H locs) {x v : Int32} {k n : Nat} (hr : meth.sig.returnType = some .int) (hl : meth.locks = false) (hdg : decode cc pc = .ok (.ireturn, 1)) (hx : x = v) (hB : B = B') (h1 : cells ≤ k) (h2 : slots ≤ n) : W p l e R s m args below meth c H locs cells slots (MQ below (QW A B' v) args s k n A) (F0 m pc ls [.int x]) := by
  subst hx; subst hB
  exact W.widen h1 h2 (W.iret X.1 X.2.1 hr (fun t ht hW => ⟨⟨x, (), rfl, rfl, by show B t.heap; rw [ht]; exact G.cel⟩, G.S.F ht⟩) G.S.2.2 hdg hl)
theorem w_zret (X : CallFix p m c cc nL s args G0 own) (G : Wo D κ A B s H locs) {x v : Int32} {k n : Nat} (hr : meth.sig.returnType = some .boolean) (hl : meth.locks = false) (hdg : decode cc pc = .ok (.ireturn, 1)) (hz : x = 0 ∨ x = 1) (hx : x = v) (hB : B = B') (h1 : cells ≤ k) (h2 : slots ≤ n) : W p l e R s m args below meth c H locs cells slots (MQ below (QW A B' v) args s k n A) (F0 m pc ls [.int x]) := by
  subst hx; subst hB
  exact W.widen h1 h2 (W.zret X.1 X.2.1 hr (by rcases hz with rfl | rfl <;> rfl) (fun t ht hW => ⟨⟨x, (), rfl, rfl, by show B t.heap; rw [ht]; exact G.cel⟩, G.S.F ht⟩) G.S.2.2 hdg hl)
/-- a call of a method of the law's that has a table of handlers -/
theorem w_callH (X : CallFix p m c cc nL s args G0 own) (G : Wo D κ A B s H locs) {n index maxL : Nat} {As st : List Value} {y : MethodName} {b : ByteArray} {ret : FieldType} {hh : List (Nat × Nat × Nat × Nat)} {rm : Room} {v : Int32} (h0 : rm.cells = mc) (h1 : rm.slots = ms)
    (hM : Met l y (gwh y b maxL (some ret) hh) rm (va_Pc As (WB D κ A B)) (QW A B' v) mc ms A) (hG : GoodIn G0 (va_wsS own index y (gwh y b maxL (some ret) hh)))
    (hd : y.cls ≠ "java/lang/invoke/MethodHandle" ∧ y.cls ≠ "java/lang/invoke/VarHandle" ∧ (parseMethodDescriptor y.desc).map (fun d => d.parameters.length) = some n) (hR : rm.frames + 1 ≤ R.frames ∧ 8 + (maxL + 11) + rm.locals ≤ R.locals) (hn : As.length = n) (hl : lv_has ls nL lv) (hst : st = As.reverse ++ rest) (hW : 2 * (F0 m pc ls st).monitorRoom + (rest.map fun v => v.category).sum ≤ 8) (hdg : decode cc pc = .ok (.invokestatic index, 3)) (hf : cells + mc ≤ R.cells ∧ slots + ms ≤ R.slots)
    (kk : ∀ (H1 : Heap) (locs1 : List Loc), Wo D κ A B' s H1 locs1 → W p l e R s m args below meth c H1 locs1 (cells + mc) (slots + ms) Q (F0 m (pc + 3) ls (.int v :: rest))) : W p l e R s m args below meth c H locs cells slots Q (F0 m pc ls st) := by
  refine va_calli (vx_runSW X hM (vx_cwSW n X.2.2.2.2 hG rfl h0 h1 hd hR) ⟨fun a U g mk q => ⟨q.1, q.2.blind⟩, fun U hU hW => ⟨rfl, G.out hU hW⟩⟩ rfl hn hl.1 hst hW hdg hf) G.S (fun q _ h => h) (fun q h => h) (fun r u t H1 locs1 ht hvm hw hB hz hk hS => ?_)
  subst hw
  exact kk H1 locs1 (G.next (by rw [← ht]; exact hB) hS)
/-- .. that has none -/
theorem w_callS (X : CallFix p m c cc nL s args G0 own) (G : Wo D κ A B s H locs) {n index maxL : Nat} {As st : List Value} {y : MethodName} {b : ByteArray} {ret : FieldType} {rm : Room} {v : Int32} (h0 : rm.cells = mc) (h1 : rm.slots = ms)
    (hM : Met l y (gw y b maxL (some ret)) rm (va_Pc As (WB D κ A B)) (QW A B' v) mc ms A) (hG : GoodIn G0 (va_wsS own index y (gw y b maxL (some ret))))
    (hd : y.cls ≠ "java/lang/invoke/MethodHandle" ∧ y.cls ≠ "java/lang/invoke/VarHandle" ∧ (parseMethodDescriptor y.desc).map (fun d => d.parameters.length) = some n) (hR : rm.frames + 1 ≤ R.frames ∧ 8 + (maxL + 11) + rm.locals ≤ R.locals) (hn : As.length = n) (hl : lv_has ls nL lv) (hst : st = As.reverse ++ rest) (hW : 2 * (F0 m pc ls st).monitorRoom + (rest.map fun v => v.category).sum ≤ 8) (hdg : decode cc pc = .ok (.invokestatic index, 3)) (hf : cells + mc ≤ R.cells ∧ slots + ms ≤ R.slots)
    (kk : ∀ (H1 : Heap) (locs1 : List Loc), Wo D κ A B' s H1 locs1 → W p l e R s m args below meth c H1 locs1 (cells + mc) (slots + ms) Q (F0 m (pc + 3) ls (.int v :: rest))) : W p l e R s m args below meth c H locs cells slots Q (F0 m pc ls st) := by
  subst h0; subst h1
  refine va_calli (va_runS X hM (va_cwS n X.2.2.2.2 hG rfl rfl rfl hd hR) ⟨fun a U g mk q => ⟨q.1, q.2.blind⟩, fun U hU hW => ⟨rfl, G.out hU hW⟩⟩ rfl hn hl.1 hst hW hdg hf) G.S (fun q _ h => h) (fun q h => h) (fun r u t H1 locs1 ht hvm hw hB hz hk hS => ?_)
  subst hw
  exact kk H1 locs1 (G.next (by rw [← ht]; exact hB) hS)
/-- a call of the class's that cannot throw -/
theorem w_callV (X : CallFix p m c cc nL s args G0 own) (G : Wo D κ A B s H locs) {n index maxL : Nat} {As st : List Value} {y : MethodName} {b : ByteArray} {ret : FieldType} {rm : Room} {v : Int32} (h0 : rm.cells = 0) (h1 : rm.slots = 0)
    (hM : Met l y (gw y b maxL (some ret)) rm (va_Pc (.ref o :: As) (WB D κ A B)) (QW A B' v) 0 0 A) (hi : ∃ cell : Cell, H[o]? = some cell ∧ cell.vm.isStatics = false ∧ s.vm.findClass RX7 = some cell.cls) (hG : GoodIn G0 (wsV own index RX7 y (gw y b maxL (some ret))))
    (hd : y.cls = RX7 ∧ y.cls ≠ "java/lang/invoke/MethodHandle" ∧ y.cls ≠ "java/lang/invoke/VarHandle" ∧ (parseMethodDescriptor y.desc).map (fun d => d.parameters.length) = some n) (hR : rm.frames + 1 ≤ R.frames ∧ 8 + (maxL + 11) + rm.locals ≤ R.locals) (hn : As.length = n) (hl : lv_has ls nL lv) (hst : st = As.reverse ++ .ref o :: rest) (hW : 2 * (F0 m pc ls st).monitorRoom + (rest.map fun v => v.category).sum ≤ 8) (hdg : decode cc pc = .ok (.invokevirtual index, 3)) (hf : cells ≤ R.cells ∧ slots ≤ R.slots)
    (kk : ∀ (H1 : Heap) (locs1 : List Loc), Wo D κ A B' s H1 locs1 → W p l e R s m args below meth c H1 locs1 cells slots Q (F0 m (pc + 3) ls (.int v :: rest))) : W p l e R s m args below meth c H locs cells slots Q (F0 m pc ls st) := by
  have hM' : Met l y (gw y b maxL (some ret)) rm (va_Pc (.ref o :: As) (WB D κ A B)) (QW A B' v) rm.cells rm.slots A := by rw [h0, h1]; exact hM
  refine va_calli (va_runV X hM' (cwV n X.2.2.2.2 hG rfl rfl rfl hd hR) ⟨fun a U g mk q => ⟨q.1, q.2.blind⟩, hi, fun U hU hW => ⟨rfl, G.out hU hW⟩⟩ rfl hn hl.1 hst hW hdg (by rw [h0, h1]; exact hf)) G.S (fun q _ h => h) (fun q h => h) (fun r u t H1 locs1 ht hvm hw hB hz hk hS => ?_)
  subst hw
  rw [h0, h1]
  exact kk H1 locs1 (G.next (by rw [← ht]; exact hB) hS)
/-- meanHoles -/
theorem w_callD {P0 : BS → Prop} (X : CallFix p m c cc nL s args G0 own) (G : Wo D κ A (B1 D κ A o P0) s H locs) {n index maxL : Nat} {st : List Value} {y : MethodName} {b : ByteArray} {rm : Room} {v : UInt64} (h0 : rm.cells = 0) (h1 : rm.slots = 0)
    (hM : ∀ (ad : Nat → Nat) (b0 : BS), P0 b0 → Met l y (gw y b maxL (some .double)) rm (va_Pc [.ref (ad 50)] (MW D κ A ad (celB κ ad nuW b0))) (QD D κ A ad (celB κ ad nuW b0) v) 0 0 A) (hG : GoodIn G0 (wsV own index RX7 y (gw y b maxL (some .double))))
    (hd : y.cls = RX7 ∧ y.cls ≠ "java/lang/invoke/MethodHandle" ∧ y.cls ≠ "java/lang/invoke/VarHandle" ∧ (parseMethodDescriptor y.desc).map (fun d => d.parameters.length) = some n) (hR : rm.frames + 1 ≤ R.frames ∧ 8 + (maxL + 11) + rm.locals ≤ R.locals) (hn : 0 = n) (hl : lv_has ls nL lv) (hst : st = .ref o :: rest) (hW : 2 * (F0 m pc ls st).monitorRoom + (rest.map fun v => v.category).sum ≤ 8) (hdg : decode cc pc = .ok (.invokevirtual index, 3)) (hf : cells ≤ R.cells ∧ slots ≤ R.slots)
    (kk : ∀ (H1 : Heap) (locs1 : List Loc), Wo D κ A (B1 D κ A o P0) s H1 locs1 → W p l e R s m args below meth c H1 locs1 cells slots Q (F0 m (pc + 3) ls (.double v :: rest))) : W p l e R s m args below meth c H locs cells slots Q (F0 m pc ls st) := by
  obtain ⟨ad, b0, rfl, hP, hC⟩ := G.cel
  have G1 := G.mm hC
  have hM' : Met l y (gw y b maxL (some .double)) rm (va_Pc (.ref (ad 50) :: []) (MW D κ A ad (celB κ ad nuW b0))) (QD D κ A ad (celB κ ad nuW b0) v) rm.cells rm.slots A := by rw [h0, h1]; exact hM ad b0 hP
  refine m_calld X G1 (i := 50) (As := []) rfl hM' (B_rcv (ci := 7) (okL50 _) (by decide)) rfl hG hd hR hn hl hst hW hdg (by rw [h0, h1]; exact hf) (fun H1 locs1 G2 => ?_)
  rw [h0, h1]
  exact kk H1 locs1 (G2.wo ⟨ad, b0, rfl, hP, G2.mc⟩)
end WR
