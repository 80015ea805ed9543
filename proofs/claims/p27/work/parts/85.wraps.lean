/-! THE LAW'S WRAPPERS: static methods with a table of handlers -/
def gwh (y : MethodName) (b : ByteArray) (n : Nat) (r : Option FieldType) (hh : List (Nat × Nat × Nat × Nat)) : List Cond := .codeWith y b n r hh :: G0
theorem gwh_in {own : String} {ix : Nat} {y : MethodName} {b : ByteArray} {n : Nat} {r : Option FieldType} {hh : List (Nat × Nat × Nat × Nat)} (h1 : Cond.methodLink own ix y ∈ G0) (h2 : Cond.static y ∈ G0) (h4 : Cond.initialized y.cls ∈ G0) (h5 : Cond.codeWith y b n r hh ∈ G0) : GoodIn G0 (va_wsS own ix y (gwh y b n r hh)) := fun w hw => by
  have hg : ∀ q ∈ gwh y b n r hh, q ∈ G0 := fun q h => (List.mem_cons.mp h).elim (fun e => by rw [e]; exact h5) id
  refine g0_in ?_
  unfold va_wsS at hw
  simp only [List.mem_append, List.mem_cons, List.not_mem_nil, or_false] at hw
  rcases hw with (rfl | rfl | rfl) | hw
  · exact h1
  · exact h2
  · exact h4
  · exact hg _ hw
abbrev QIA (D : va_G) (A : Nat → Prop) (ok : (Nat → Nat) → Prop) (M' : (Nat → Nat) → Nat → Option va_E) (v : Int32) : Array Value → State → Outcome → State → Prop := va_Qi (fun (x : Int32) (ad' : Nat → Nat) => x = v ∧ ok ad') (fun ad' t => MC D A ad' (M' ad') t.heap) A
theorem met_ofH {l : Launch} {y : MethodName} {own : String} {b : ByteArray} {nL : Nat} {ret : Option FieldType} {hh : List (Nat × Nat × Nat × Nat)} {rm : Room} {As : List Value} {D : va_G} {κ : Nat → ClassId} {A : Nat → Prop} {ad : Nat → Nat} {M : Nat → Option va_E} {Qc : Array Value → State → Outcome → State → Prop} {mc ms : Nat} (hy : plainName y.cls = true) (ho : y.cls = own) (hn : (lg_sl As).length ≤ nL)
    (body : ∀ (p : Program) (e : Env) (s : State) (m : MethodId) (below : List Frame) (meth : Method) (c : Code) (ls : Array Slot), CallFix p m c b nL s As.toArray G0 own → meth.sig.returnType = ret → meth.locks = false → c.exceptionTable.toList = tableOf hh → Mm D κ A ad M s s.heap [] → lv_has ls nL (lv_args 0 As) → W p l e rm s m As.toArray below meth c s.heap [] 0 0 (MQ below Qc As.toArray s mc ms A) (F0 m 0 ls [])) : Met l y (gwh y b nL ret hh) rm (va_Pc As (MW D κ A ad M)) Qc mc ms A := by
  refine MetFree.of_bodyS (code := b) (maxLocals := nL) (ret := ret) hy ?_ ?_
  · intro args s m h hn
    obtain ⟨m9, meth, c, hn9, h1, h2, h3, h4, -, h5, h6, -⟩ := Cond.codeWith_spec (atoms_spec (ws := gwh y b nL ret hh) h _ List.mem_cons_self)
    cases hn.symm.trans hn9
    exact ⟨meth, c, h1, h2, h3, h4, h5, h6⟩
  · intro p e s m args below meth c s₁ B hml hv _
    obtain ⟨rfl, hG⟩ := hv
    have hh0 : s₁.heap = s.heap := by rw [B.state]; rfl
    have hts := atoms_spec (ws := gwh y b nL ret hh) B.pre
    have hT := vx_table (x := y) B (hts _ List.mem_cons_self)
    have hown : s.vm.findClass own = some m.cls := by rw [← ho]; exact findClass_of_methodNamed B.named
    have hl := lv_entry As (n := nL) hn
    have key := body p e s m below meth c _ ⟨B.exec, B.bytes, hml, hown, fun w hw => hts w (List.mem_cons_of_mem _ hw)⟩ B.returns B.notSynchronized hT hG hl
    rw [← lg_entry_eq] at key
    obtain ⟨t, a1, o, b1, b2, b3⟩ := key s₁ hh0 (Stand.of_body B)
    exact ⟨t, o, a1, b1, b2, ⟨b3.1, b3.2⟩⟩
section LW
variable {p : Program} {l : Launch} {e : Env} {R : Room} {s : State} {m : MethodId} {args : Array Value} {below : List Frame} {meth : Method} {c : Code} {H : Heap} {locs : List Loc} {cells slots : Nat} {Q : State → Prop}
variable {cc : ByteArray} {pc nL : Nat} {ls : Array Slot} {rest : List Value} {D : va_G} {κ : Nat → ClassId} {A : Nat → Prop} {ad : Nat → Nat} {own : String} {lv : List (Nat × Value)} {M M' : Nat → Option va_E} {mc ms : Nat}
/-- it returned, or it threw and this method may catch it -/
theorem X_cI {st : List Value} {a : Array Value} {r : Nat ⊕ Int32} (hx : XRun p l e R s m args below meth c H locs cells slots mc ms pc ls st rest (QIX D A ad M' r a) D A ad M' r) (G : Mm D κ A ad M s H locs)
    (kx : ∀ (k q : Nat) (ce : Cell) (H1 : Heap) (locs1 : List Loc), r = .inl k → Mm D κ A ad M' s H1 locs1 → H1[q]? = some ce → ce.vm = .none → s.vm.findClass (exn k) = some ce.cls → vx_W p l e R s m args below meth c H1 locs1 (cells + mc) (slots + ms) Q (F0 m pc ls rest) q)
    (kk : ∀ (v : Int32) (ad' : Nat → Nat) (H1 : Heap) (locs1 : List Loc), r = .inr v → ad' = ad → Mm D κ A ad' M' s H1 locs1 → W p l e R s m args below meth c H1 locs1 (cells + mc) (slots + ms) Q (F0 m (pc + 3) ls (.int v :: rest))) : W p l e R s m args below meth c H locs cells slots Q (F0 m pc ls st) := by
  refine vx_calli hx G.2.2.2.2.1 (fun q _ h => h) (fun q h => h) (fun q _ h => h) (fun E ce q9 u t H1 locs1 ht hvm hp hB hz hk hS hc1 hc2 hc3 => ?_) (fun r1 u t H1 locs1 ht hvm hw hB hz hk hS => ?_)
  · obtain ⟨⟨k, hk', rfl⟩, hB⟩ := hB
    exact kx k q9 ce H1 locs1 hk' (G.nextC (by rw [← ht]; exact hB) hS) hc1 hc2 hc3
  · exact kk r1 ad H1 locs1 hw rfl (G.nextC (by rw [← ht]; exact hB) hS)
theorem X_cIA {st : List Value} {a : Array Value} {r : Nat ⊕ Int32} {ok : (Nat → Nat) → Prop} {M2 : (Nat → Nat) → Nat → Option va_E} (hx : XRun p l e R s m args below meth c H locs cells slots mc ms pc ls st rest (QIXA D A ok M2 r a) D A ad M' r) (G : Mm D κ A ad M s H locs)
    (kx : ∀ (k q : Nat) (ce : Cell) (H1 : Heap) (locs1 : List Loc), r = .inl k → Mm D κ A ad M' s H1 locs1 → H1[q]? = some ce → ce.vm = .none → s.vm.findClass (exn k) = some ce.cls → vx_W p l e R s m args below meth c H1 locs1 (cells + mc) (slots + ms) Q (F0 m pc ls rest) q)
    (kk : ∀ (v : Int32) (ad' : Nat → Nat) (H1 : Heap) (locs1 : List Loc), r = .inr v → ok ad' → Mm D κ A ad' (M2 ad') s H1 locs1 → W p l e R s m args below meth c H1 locs1 (cells + mc) (slots + ms) Q (F0 m (pc + 3) ls (.int v :: rest))) : W p l e R s m args below meth c H locs cells slots Q (F0 m pc ls st) := by
  refine vx_calli hx G.2.2.2.2.1 (fun q _ h => h) (fun q h => h) (fun q _ h => h) (fun E ce q9 u t H1 locs1 ht hvm hp hB hz hk hS hc1 hc2 hc3 => ?_) (fun r1 u t H1 locs1 ht hvm hw hB hz hk hS => ?_)
  · obtain ⟨⟨k, hk', rfl⟩, hB⟩ := hB
    exact kx k q9 ce H1 locs1 hk' (G.nextC (by rw [← ht]; exact hB) hS) hc1 hc2 hc3
  · exact kk r1 u H1 locs1 hw.1 hw.2 (G.nextC (by rw [← ht]; exact hB) hS)
theorem X_h1 (X : CallFix p m c cc nL s args G0 RL) (G : Mm D κ A ad M s H locs) {k q : Nat} {ce : Cell} {x : ExceptionTableEntry} {suf : List ExceptionTableEntry} (hs : c.exceptionTable.toList = x :: suf) (hx : covers x pc = true) (h0 : x.catchType ≠ 0) (hl : Cond.classLink RL x.catchType (exn k) ∈ G0) (hc : (exn k, exn k) ∈ thC) (h1 : H[q]? = some ce) (h2 : ce.vm = .none) (h3 : s.vm.findClass (exn k) = some ce.cls)
    (kk : W p l e R s m args below meth c H locs cells slots Q (F0 m x.handlerPc ls [.ref q])) : vx_W p l e R s m args below meth c H locs cells slots Q (F0 m pc ls rest) q :=
  vx_catch X.2.2.2.1 [] x suf hs (fun z h => by cases h) hx h0 (X.2.2.2.2 _ hl) (va_Nw.use rfl (G.2.2.2.2.2.2.2.2.2.1 _ hc)) h1 h2 h3 kk
theorem X_h2 (X : CallFix p m c cc nL s args G0 RL) (G : Mm D κ A ad M s H locs) {k k0 q : Nat} {ce : Cell} {x0 x : ExceptionTableEntry} {suf : List ExceptionTableEntry} (hs : c.exceptionTable.toList = x0 :: x :: suf) (hx0 : x0.catchType ≠ 0) (hl0 : Cond.classLink RL x0.catchType (exn k0) ∈ G0) (hn : (exn k, exn k0) ∈ thN) (hx : covers x pc = true) (h0 : x.catchType ≠ 0) (hl : Cond.classLink RL x.catchType (exn k) ∈ G0) (hc : (exn k, exn k) ∈ thC) (h1 : H[q]? = some ce) (h2 : ce.vm = .none) (h3 : s.vm.findClass (exn k) = some ce.cls)
    (kk : W p l e R s m args below meth c H locs cells slots Q (F0 m x.handlerPc ls [.ref q])) : vx_W p l e R s m args below meth c H locs cells slots Q (F0 m pc ls rest) q :=
  vx_catch X.2.2.2.1 [x0] x suf hs (fun z h => by rw [List.mem_singleton.mp h]; exact Or.inr ⟨hx0, exn k0, X.2.2.2.2 _ hl0, G.2.2.2.2.2.2.2.2.2.2.2.1 _ hn⟩) hx h0 (X.2.2.2.2 _ hl) (va_Nw.use rfl (G.2.2.2.2.2.2.2.2.2.1 _ hc)) h1 h2 h3 kk
theorem C_iret (X : CallFix p m c cc nL s args G0 own) (G : Mm D κ A ad M s H locs) {ok : (Nat → Nat) → Prop} {M' : (Nat → Nat) → Nat → Option va_E} {x v : Int32} {k n : Nat} (hr : meth.sig.returnType = some .int) (hl : meth.locks = false) (hdg : decode cc pc = .ok (.ireturn, 1)) (hx : x = v) (hok : ok ad) (hM : M = M' ad) (h1 : cells ≤ k) (h2 : slots ≤ n) : W p l e R s m args below meth c H locs cells slots (MQ below (QIA D A ok M' v) args s k n A) (F0 m pc ls [.int x]) :=
  W.widen h1 h2 (W.iret X.1 X.2.1 hr (fun t ht hW => ⟨⟨x, ad, rfl, ⟨hx, hok⟩, by show MC D A ad (M' ad) t.heap; rw [ht, ← hM]; exact G.mc⟩, G.2.2.2.2.1.F ht⟩) G.2.2.2.2.1.2.2 hdg hl)
end LW
/-! what a wrapper answers: nx: the call must not throw; tx: it must throw; gx: either -/
def nx (x : Option (BS × (Nat ⊕ Int32))) : Option (BS × Int32) := match x with
  | some (b, .inr v) => some (b, v)
  | _ => none
def tx (cs : List (Nat × Int32)) (x : Option (BS × (Nat ⊕ Int32))) : Option (BS × Int32) := match x with
  | some (b, .inl k) => (cs.lookup k).map (fun c => (b, c))
  | _ => none
def gx (cs : List (Nat × Int32)) (x : Option (BS × (Nat ⊕ Int32))) : Option (BS × Int32) := match x with
  | some (b, .inr v) => some (b, v)
  | some (b, .inl k) => (cs.lookup k).map (fun c => (b, c))
  | none => none
theorem nx_some {x : Option (BS × (Nat ⊕ Int32))} {b : BS} {v : Int32} (h : nx x = some (b, v)) : x = some (b, .inr v) := by
  match x, h with
  | some (b1, .inr v1), h => cases h; rfl
theorem tx_some {cs : List (Nat × Int32)} {x : Option (BS × (Nat ⊕ Int32))} {b : BS} {v : Int32} (h : tx cs x = some (b, v)) : ∃ k, x = some (b, .inl k) ∧ cs.lookup k = some v := by
  match x, h with
  | some (b1, .inl k), h =>
    have h : (cs.lookup k).map (fun c => (b1, c)) = some (b, v) := h
    cases e : cs.lookup k with
    | none => rw [e] at h; cases h
    | some c => rw [e] at h; cases h; exact ⟨k, rfl, e⟩
theorem gx_some {cs : List (Nat × Int32)} {x : Option (BS × (Nat ⊕ Int32))} {b : BS} {v : Int32} (h : gx cs x = some (b, v)) : ∃ r, x = some (b, r) ∧ ((∃ k, r = .inl k ∧ cs.lookup k = some v) ∨ r = .inr v) := by
  match x, h with
  | some (b1, .inr v1), h => cases h; exact ⟨_, rfl, Or.inr rfl⟩
  | some (b1, .inl k), h =>
    have h : (cs.lookup k).map (fun c => (b1, c)) = some (b, v) := h
    cases e : cs.lookup k with
    | none => rw [e] at h; cases h
    | some c => rw [e] at h; cases h; exact ⟨.inl k, rfl, Or.inl ⟨k, rfl, e⟩⟩
theorem lk1 {a k : Nat} {x v : Int32} (h : [(a, x)].lookup k = some v) : k = a ∧ x = v := by
  by_cases e : k = a
  · subst e; simp [List.lookup] at h; exact ⟨rfl, h⟩
  · simp [List.lookup, beq_false_of_ne e] at h
theorem lk2 {a c k : Nat} {x y v : Int32} (h : [(a, x), (c, y)].lookup k = some v) : (k = a ∧ x = v) ∨ (k = c ∧ y = v) := by
  by_cases e : k = a
  · subst e; simp [List.lookup] at h; exact Or.inl ⟨rfl, h⟩
  · by_cases e2 : k = c
    · subst e2; simp [List.lookup, beq_false_of_ne e] at h; exact Or.inr ⟨rfl, h⟩
    · simp [List.lookup, beq_false_of_ne e, beq_false_of_ne e2] at h
theorem clx_L_15 : Cond.classLink RL 15 (exn 2) ∈ G0 := gq (List.mem_of_getElem? (i := 327) (by decide +kernel)) rfl
theorem clx_L_26 : Cond.classLink RL 26 (exn 3) ∈ G0 := gq (List.mem_of_getElem? (i := 426) (by decide +kernel)) rfl
theorem clx_L_17 : Cond.classLink RL 17 (exn 1) ∈ G0 := gq (List.mem_of_getElem? (i := 486) (by decide +kernel)) rfl
theorem cw_yL_define : Cond.codeWith yL_define cL_define 3 (some .int) [(0, 5, 6, 15), (0, 5, 10, 17)] ∈ G0 := gq (List.mem_of_getElem? (i := 571) (by decide +kernel)) rfl
theorem g_L_9 : GoodIn G0 (wsV RL 9 RX7 yX7_define (gw yX7_define cX7_define 3 (some (FieldType.int)))) := gv_in ml_L_9 im_yX7_define se_yX7_define ini_X7 cd_yX7_define
theorem hdL_yX7_define : yX7_define.cls = RX7 ∧ yX7_define.cls ≠ "java/lang/invoke/MethodHandle" ∧ yX7_define.cls ≠ "java/lang/invoke/VarHandle" ∧ (parseMethodDescriptor yX7_define.desc).map (fun d => d.parameters.length) = some 1 := by decide +kernel
abbrev rmL_define : Room := { frames := 8, cells := 9, slots := 114, locals := 163 }
abbrev cs_define : List (Nat × Int32) := [(2, -2), (1, -3)]
set_option maxHeartbeats 4000000 in
set_option maxRecDepth 100000 in
theorem wg_define (l : Launch) (hfl : l.stackTraces = false) (D : va_G) (κ : Nat → ClassId) (A : Nat → Prop) (ad : Nat → Nat) (r0 : Nat → Option va_E) (b : BS) (p1 : Int32) (b' : BS) (v : Int32) (h : gx cs_define (F7_define b p1) = some (b', v)) : Met l yL_define (gwh yL_define cL_define 3 (some .int) [(0, 5, 6, 15), (0, 5, 10, 17)]) rmL_define (va_Pc [.ref (ad 50), .int p1] (MW D κ A ad (celB κ ad r0 b))) (QIA D A (fun ad' => Ag b.2.2 ad ad') (fun ad' => celB κ ad' r0 b') v) 9 114 A := by
  obtain ⟨r9, e9, hk9⟩ := gx_some h
  refine met_ofH (own := RL) (by decide +kernel) rfl (Nat.le_of_ble_eq_true rfl) ?_
  intro p e s m below meth c ls X hr hlk hT G hl
  have hl : lv_has ls 3 [(0, .ref (ad 50)), (1, .int p1)] := hl
  refine lv_aload_n (pc := 0) X.1 X.2.1 dL_define_0 rfl (lv_at hl 0 rfl) ?_
  refine lv_iload_n (pc := 1) X.1 X.2.1 dL_define_1 rfl (lv_at hl 1 rfl) ?_
  refine X_cIA (X_runV (pc := 2) (i := 50) (As := [.int p1]) (rest := []) (M' := celB κ ad r0 b') (r := r9) X G (rm := rm7_define) rfl rfl rfl (c7_define l hfl D κ A ad r0 b p1 (b', r9) e9) (B_rcv (ci := 7) (okL50 _) (by decide)) rfl g_L_9 hdL_yX7_define ⟨Nat.le_of_ble_eq_true rfl, Nat.le_of_ble_eq_true rfl⟩ rfl hl rfl (lv_room (Nat.le_of_ble_eq_true rfl)) dL_define_2 ⟨Nat.le_of_ble_eq_true rfl, Nat.le_of_ble_eq_true rfl⟩) G (fun k q ce H locs hr2 G h1 h2 h3 => ?_) (fun v9 ad' H locs hr2 hag G => ?_)
  · rcases hk9 with ⟨k8, e8, hk⟩ | e8
    · cases hr2.symm.trans e8
      rcases lk2 hk with ⟨rfl, rfl⟩ | ⟨rfl, rfl⟩
      · refine X_h1 (pc := 2) (k := 2) (x := ⟨0, 5, 6, 15⟩) X G hT (by decide) (by decide) clx_L_15 (by decide) h1 h2 h3 ?_
        refine lv_astore_n (pc := 6) (lv' := [(2, .ref q), (0, .ref (ad 50)), (1, .int p1)]) X.1 X.2.1 dL_define_6 rfl hl (by decide) rfl (fun ls hl => ?_)
        refine lv_bipush (pc := 7) (v := (-2)) X.1 X.2.1 dL_define_7 (by decide) ?_
        exact C_iret (pc := 9) X G hr hlk dL_define_9 rfl (Ag.rf _ _) rfl (Nat.le_of_ble_eq_true rfl) (Nat.le_of_ble_eq_true rfl)
      · refine X_h2 (pc := 2) (k := 1) (k0 := 2) (x0 := ⟨0, 5, 6, 15⟩) (x := ⟨0, 5, 10, 17⟩) X G hT (by decide) clx_L_15 (by decide) (by decide) (by decide) clx_L_17 (by decide) h1 h2 h3 ?_
        refine lv_astore_n (pc := 10) (lv' := [(2, .ref q), (0, .ref (ad 50)), (1, .int p1)]) X.1 X.2.1 dL_define_10 rfl hl (by decide) rfl (fun ls hl => ?_)
        refine lv_bipush (pc := 11) (v := (-3)) X.1 X.2.1 dL_define_11 (by decide) ?_
        exact C_iret (pc := 13) X G hr hlk dL_define_13 rfl (Ag.rf _ _) rfl (Nat.le_of_ble_eq_true rfl) (Nat.le_of_ble_eq_true rfl)
    · cases hr2.symm.trans e8
  · rcases hk9 with ⟨k8, e8, hk⟩ | e8
    · cases hr2.symm.trans e8
    · cases hr2.symm.trans e8
      exact C_iret (pc := 5) X G hr hlk dL_define_5 rfl hag rfl (Nat.le_of_ble_eq_true rfl) (Nat.le_of_ble_eq_true rfl)
theorem cw_yL_expand : Cond.codeWith yL_expand cL_expand 2 (some .int) [(0, 4, 5, 15)] ∈ G0 := gq (List.mem_of_getElem? (i := 647) (by decide +kernel)) rfl
theorem g_L_19 : GoodIn G0 (wsV RL 19 RX7 yX7_expand (gw yX7_expand cX7_expand 1 (some (FieldType.int)))) := gv_in ml_L_19 im_yX7_expand se_yX7_expand ini_X7 cd_yX7_expand
theorem hdL_yX7_expand : yX7_expand.cls = RX7 ∧ yX7_expand.cls ≠ "java/lang/invoke/MethodHandle" ∧ yX7_expand.cls ≠ "java/lang/invoke/VarHandle" ∧ (parseMethodDescriptor yX7_expand.desc).map (fun d => d.parameters.length) = some 0 := by decide +kernel
abbrev rmL_expand : Room := { frames := 55, cells := 9, slots := 605, locals := 1762 }
abbrev cs_expand : List (Nat × Int32) := [(2, -2)]
set_option maxHeartbeats 4000000 in
set_option maxRecDepth 100000 in
theorem wg_expand (l : Launch) (hfl : l.stackTraces = false) (D : va_G) (κ : Nat → ClassId) (A : Nat → Prop) (ad : Nat → Nat) (r0 : Nat → Option va_E) (b : BS) (b' : BS) (v : Int32) (h : gx cs_expand (F7_expand b) = some (b', v)) : Met l yL_expand (gwh yL_expand cL_expand 2 (some .int) [(0, 4, 5, 15)]) rmL_expand (va_Pc [.ref (ad 50)] (MW D κ A ad (celB κ ad r0 b))) (QIA D A (fun ad' => Ag b.2.2 ad ad') (fun ad' => celB κ ad' r0 b') v) 9 605 A := by
  obtain ⟨r9, e9, hk9⟩ := gx_some h
  refine met_ofH (own := RL) (by decide +kernel) rfl (Nat.le_of_ble_eq_true rfl) ?_
  intro p e s m below meth c ls X hr hlk hT G hl
  have hl : lv_has ls 2 [(0, .ref (ad 50))] := hl
  refine lv_aload_n (pc := 0) X.1 X.2.1 dL_expand_0 rfl (lv_at hl 0 rfl) ?_
  refine X_cIA (X_runV (pc := 1) (i := 50) (As := []) (rest := []) (M' := celB κ ad r0 b') (r := r9) X G (rm := rm7_expand) rfl rfl rfl (c7_expand l hfl D κ A ad r0 b (b', r9) e9) (B_rcv (ci := 7) (okL50 _) (by decide)) rfl g_L_19 hdL_yX7_expand ⟨Nat.le_of_ble_eq_true rfl, Nat.le_of_ble_eq_true rfl⟩ rfl hl rfl (lv_room (Nat.le_of_ble_eq_true rfl)) dL_expand_1 ⟨Nat.le_of_ble_eq_true rfl, Nat.le_of_ble_eq_true rfl⟩) G (fun k q ce H locs hr2 G h1 h2 h3 => ?_) (fun v9 ad' H locs hr2 hag G => ?_)
  · rcases hk9 with ⟨k8, e8, hk⟩ | e8
    · cases hr2.symm.trans e8
      obtain ⟨rfl, rfl⟩ := lk1 hk
      refine X_h1 (pc := 1) (k := 2) (x := ⟨0, 4, 5, 15⟩) X G hT (by decide) (by decide) clx_L_15 (by decide) h1 h2 h3 ?_
      refine lv_astore_n (pc := 5) (lv' := [(1, .ref q), (0, .ref (ad 50))]) X.1 X.2.1 dL_expand_5 rfl hl (by decide) rfl (fun ls hl => ?_)
      refine lv_bipush (pc := 6) (v := (-2)) X.1 X.2.1 dL_expand_6 (by decide) ?_
      exact C_iret (pc := 8) X G hr hlk dL_expand_8 rfl (Ag.rf _ _) rfl (Nat.le_of_ble_eq_true rfl) (Nat.le_of_ble_eq_true rfl)
    · cases hr2.symm.trans e8
  · rcases hk9 with ⟨k8, e8, hk⟩ | e8
    · cases hr2.symm.trans e8
    · cases hr2.symm.trans e8
      exact C_iret (pc := 4) X G hr hlk dL_expand_4 rfl hag rfl (Nat.le_of_ble_eq_true rfl) (Nat.le_of_ble_eq_true rfl)
theorem cw_yL_append : Cond.codeWith yL_append cL_append 3 (some .int) [(0, 5, 6, 15), (0, 5, 10, 26)] ∈ G0 := gq (List.mem_of_getElem? (i := 562) (by decide +kernel)) rfl
theorem g_L_23 : GoodIn G0 (wsV RL 23 RX7 yX7_append (gw yX7_append cX7_append 2 (some (FieldType.int)))) := gv_in ml_L_23 im_yX7_append se_yX7_append ini_X7 cd_yX7_append
theorem hdL_yX7_append : yX7_append.cls = RX7 ∧ yX7_append.cls ≠ "java/lang/invoke/MethodHandle" ∧ yX7_append.cls ≠ "java/lang/invoke/VarHandle" ∧ (parseMethodDescriptor yX7_append.desc).map (fun d => d.parameters.length) = some 1 := by decide +kernel
abbrev rmL_append : Room := { frames := 7, cells := 1, slots := 6, locals := 103 }
abbrev cs_append : List (Nat × Int32) := [(2, -2), (3, -3)]
abbrev rmLn_append : Room := { frames := 7, cells := 0, slots := 0, locals := 103 }
set_option maxHeartbeats 4000000 in
set_option maxRecDepth 100000 in
theorem wn_append (l : Launch) (D : va_G) (κ : Nat → ClassId) (A : Nat → Prop) (ad : Nat → Nat) (r0 : Nat → Option va_E) (b : BS) (p1 : Int32) (b' : BS) (v : Int32) (h : nx (F7_append b p1) = some (b', v)) : Met l yL_append (gwh yL_append cL_append 3 (some .int) [(0, 5, 6, 15), (0, 5, 10, 26)]) rmLn_append (va_Pc [.ref (ad 50), .int p1] (MW D κ A ad (celB κ ad r0 b))) (QI D κ A ad (celB κ ad r0 b') v) 0 0 A := by
  refine met_ofH (own := RL) (by decide +kernel) rfl (Nat.le_of_ble_eq_true rfl) ?_
  intro p e s m below meth c ls X hr hlk hT G hl
  have hl : lv_has ls 3 [(0, .ref (ad 50)), (1, .int p1)] := hl
  refine lv_aload_n (pc := 0) X.1 X.2.1 dL_append_0 rfl (lv_at hl 0 rfl) ?_
  refine lv_iload_n (pc := 1) X.1 X.2.1 dL_append_1 rfl (lv_at hl 1 rfl) ?_
  refine B_calli (pc := 2) (v := v) (M' := (celB κ ad r0 b')) (i := 50) (As := [.int p1]) (rest := []) X G (rm := rmn7_append) rfl rfl rfl (n7_append l D κ A ad r0 b p1 (b', v) (nx_some h)) (B_rcv (ci := 7) (okL50 _) (by decide)) rfl g_L_23 hdL_yX7_append ⟨Nat.le_of_ble_eq_true rfl, Nat.le_of_ble_eq_true rfl⟩ rfl hl rfl (lv_room (Nat.le_of_ble_eq_true rfl)) dL_append_2 ⟨Nat.le_of_ble_eq_true rfl, Nat.le_of_ble_eq_true rfl⟩ (fun H locs G => ?_)
  exact m_iret (pc := 5) X G hr hlk dL_append_5 rfl rfl
set_option maxHeartbeats 4000000 in
set_option maxRecDepth 100000 in
theorem wg_append (l : Launch) (hfl : l.stackTraces = false) (D : va_G) (κ : Nat → ClassId) (A : Nat → Prop) (ad : Nat → Nat) (r0 : Nat → Option va_E) (b : BS) (p1 : Int32) (b' : BS) (v : Int32) (h : gx cs_append (F7_append b p1) = some (b', v)) : Met l yL_append (gwh yL_append cL_append 3 (some .int) [(0, 5, 6, 15), (0, 5, 10, 26)]) rmL_append (va_Pc [.ref (ad 50), .int p1] (MW D κ A ad (celB κ ad r0 b))) (QIA D A (fun ad' => Ag b.2.2 ad ad') (fun ad' => celB κ ad' r0 b') v) 1 6 A := by
  obtain ⟨r9, e9, hk9⟩ := gx_some h
  refine met_ofH (own := RL) (by decide +kernel) rfl (Nat.le_of_ble_eq_true rfl) ?_
  intro p e s m below meth c ls X hr hlk hT G hl
  have hl : lv_has ls 3 [(0, .ref (ad 50)), (1, .int p1)] := hl
  refine lv_aload_n (pc := 0) X.1 X.2.1 dL_append_0 rfl (lv_at hl 0 rfl) ?_
  refine lv_iload_n (pc := 1) X.1 X.2.1 dL_append_1 rfl (lv_at hl 1 rfl) ?_
  refine X_cI (X_runV (pc := 2) (i := 50) (As := [.int p1]) (rest := []) (M' := celB κ ad r0 b') (r := r9) X G (rm := rm7_append) rfl rfl rfl (c7_append l hfl D κ A ad r0 b p1 (b', r9) e9) (B_rcv (ci := 7) (okL50 _) (by decide)) rfl g_L_23 hdL_yX7_append ⟨Nat.le_of_ble_eq_true rfl, Nat.le_of_ble_eq_true rfl⟩ rfl hl rfl (lv_room (Nat.le_of_ble_eq_true rfl)) dL_append_2 ⟨Nat.le_of_ble_eq_true rfl, Nat.le_of_ble_eq_true rfl⟩) G (fun k q ce H locs hr2 G h1 h2 h3 => ?_) (fun v9 ad' H locs hr2 hag G => ?_)
  · rcases hk9 with ⟨k8, e8, hk⟩ | e8
    · cases hr2.symm.trans e8
      rcases lk2 hk with ⟨rfl, rfl⟩ | ⟨rfl, rfl⟩
      · refine X_h1 (pc := 2) (k := 2) (x := ⟨0, 5, 6, 15⟩) X G hT (by decide) (by decide) clx_L_15 (by decide) h1 h2 h3 ?_
        refine lv_astore_n (pc := 6) (lv' := [(2, .ref q), (0, .ref (ad 50)), (1, .int p1)]) X.1 X.2.1 dL_append_6 rfl hl (by decide) rfl (fun ls hl => ?_)
        refine lv_bipush (pc := 7) (v := (-2)) X.1 X.2.1 dL_append_7 (by decide) ?_
        exact C_iret (pc := 9) X G hr hlk dL_append_9 rfl (Ag.rf _ _) rfl (Nat.le_of_ble_eq_true rfl) (Nat.le_of_ble_eq_true rfl)
      · refine X_h2 (pc := 2) (k := 3) (k0 := 2) (x0 := ⟨0, 5, 6, 15⟩) (x := ⟨0, 5, 10, 26⟩) X G hT (by decide) clx_L_15 (by decide) (by decide) (by decide) clx_L_26 (by decide) h1 h2 h3 ?_
        refine lv_astore_n (pc := 10) (lv' := [(2, .ref q), (0, .ref (ad 50)), (1, .int p1)]) X.1 X.2.1 dL_append_10 rfl hl (by decide) rfl (fun ls hl => ?_)
        refine lv_bipush (pc := 11) (v := (-3)) X.1 X.2.1 dL_append_11 (by decide) ?_
        exact C_iret (pc := 13) X G hr hlk dL_append_13 rfl (Ag.rf _ _) rfl (Nat.le_of_ble_eq_true rfl) (Nat.le_of_ble_eq_true rfl)
    · cases hr2.symm.trans e8
  · rcases hk9 with ⟨k8, e8, hk⟩ | e8
    · cases hr2.symm.trans e8
    · cases hr2.symm.trans e8
      subst hag
      exact C_iret (pc := 5) X G hr hlk dL_append_5 rfl (Ag.rf _ _) rfl (Nat.le_of_ble_eq_true rfl) (Nat.le_of_ble_eq_true rfl)
theorem cw_yL_set : Cond.codeWith yL_set cL_set 3 (some .int) [(0, 5, 6, 15)] ∈ G0 := gq (List.mem_of_getElem? (i := 536) (by decide +kernel)) rfl
theorem g_L_28 : GoodIn G0 (wsV RL 28 RX7 yX7_set (gw yX7_set cX7_set 3 (some (FieldType.int)))) := gv_in ml_L_28 im_yX7_set se_yX7_set ini_X7 cd_yX7_set
theorem hdL_yX7_set : yX7_set.cls = RX7 ∧ yX7_set.cls ≠ "java/lang/invoke/MethodHandle" ∧ yX7_set.cls ≠ "java/lang/invoke/VarHandle" ∧ (parseMethodDescriptor yX7_set.desc).map (fun d => d.parameters.length) = some 1 := by decide +kernel
abbrev rmL_set : Room := { frames := 7, cells := 5, slots := 35, locals := 163 }
abbrev cs_set : List (Nat × Int32) := [(2, -2)]
set_option maxHeartbeats 4000000 in
set_option maxRecDepth 100000 in
theorem wg_set (l : Launch) (hfl : l.stackTraces = false) (D : va_G) (κ : Nat → ClassId) (A : Nat → Prop) (ad : Nat → Nat) (r0 : Nat → Option va_E) (b : BS) (p1 : Int32) (b' : BS) (v : Int32) (h : gx cs_set (F7_set b p1) = some (b', v)) : Met l yL_set (gwh yL_set cL_set 3 (some .int) [(0, 5, 6, 15)]) rmL_set (va_Pc [.ref (ad 50), .int p1] (MW D κ A ad (celB κ ad r0 b))) (QIA D A (fun ad' => Ag b.2.2 ad ad') (fun ad' => celB κ ad' r0 b') v) 5 35 A := by
  obtain ⟨r9, e9, hk9⟩ := gx_some h
  refine met_ofH (own := RL) (by decide +kernel) rfl (Nat.le_of_ble_eq_true rfl) ?_
  intro p e s m below meth c ls X hr hlk hT G hl
  have hl : lv_has ls 3 [(0, .ref (ad 50)), (1, .int p1)] := hl
  refine lv_aload_n (pc := 0) X.1 X.2.1 dL_set_0 rfl (lv_at hl 0 rfl) ?_
  refine lv_iload_n (pc := 1) X.1 X.2.1 dL_set_1 rfl (lv_at hl 1 rfl) ?_
  refine X_cIA (X_runV (pc := 2) (i := 50) (As := [.int p1]) (rest := []) (M' := celB κ ad r0 b') (r := r9) X G (rm := rm7_set) rfl rfl rfl (c7_set l hfl D κ A ad r0 b p1 (b', r9) e9) (B_rcv (ci := 7) (okL50 _) (by decide)) rfl g_L_28 hdL_yX7_set ⟨Nat.le_of_ble_eq_true rfl, Nat.le_of_ble_eq_true rfl⟩ rfl hl rfl (lv_room (Nat.le_of_ble_eq_true rfl)) dL_set_2 ⟨Nat.le_of_ble_eq_true rfl, Nat.le_of_ble_eq_true rfl⟩) G (fun k q ce H locs hr2 G h1 h2 h3 => ?_) (fun v9 ad' H locs hr2 hag G => ?_)
  · rcases hk9 with ⟨k8, e8, hk⟩ | e8
    · cases hr2.symm.trans e8
      obtain ⟨rfl, rfl⟩ := lk1 hk
      refine X_h1 (pc := 2) (k := 2) (x := ⟨0, 5, 6, 15⟩) X G hT (by decide) (by decide) clx_L_15 (by decide) h1 h2 h3 ?_
      refine lv_astore_n (pc := 6) (lv' := [(2, .ref q), (0, .ref (ad 50)), (1, .int p1)]) X.1 X.2.1 dL_set_6 rfl hl (by decide) rfl (fun ls hl => ?_)
      refine lv_bipush (pc := 7) (v := (-2)) X.1 X.2.1 dL_set_7 (by decide) ?_
      exact C_iret (pc := 9) X G hr hlk dL_set_9 rfl (Ag.rf _ _) rfl (Nat.le_of_ble_eq_true rfl) (Nat.le_of_ble_eq_true rfl)
    · cases hr2.symm.trans e8
  · rcases hk9 with ⟨k8, e8, hk⟩ | e8
    · cases hr2.symm.trans e8
    · cases hr2.symm.trans e8
      exact C_iret (pc := 5) X G hr hlk dL_set_5 rfl hag rfl (Nat.le_of_ble_eq_true rfl) (Nat.le_of_ble_eq_true rfl)
theorem cw_yL_remove : Cond.codeWith yL_remove cL_remove 3 (some .int) [(0, 5, 6, 17), (0, 5, 10, 26)] ∈ G0 := gq (List.mem_of_getElem? (i := 485) (by decide +kernel)) rfl
theorem g_L_31 : GoodIn G0 (wsV RL 31 RX7 yX7_remove (gw yX7_remove cX7_remove 2 (some (FieldType.int)))) := gv_in ml_L_31 im_yX7_remove se_yX7_remove ini_X7 cd_yX7_remove
theorem hdL_yX7_remove : yX7_remove.cls = RX7 ∧ yX7_remove.cls ≠ "java/lang/invoke/MethodHandle" ∧ yX7_remove.cls ≠ "java/lang/invoke/VarHandle" ∧ (parseMethodDescriptor yX7_remove.desc).map (fun d => d.parameters.length) = some 1 := by decide +kernel
abbrev rmL_remove : Room := { frames := 8, cells := 7, slots := 47, locals := 162 }
abbrev cs_remove : List (Nat × Int32) := [(1, -3), (3, -2)]
set_option maxHeartbeats 4000000 in
set_option maxRecDepth 100000 in
theorem wg_remove (l : Launch) (hfl : l.stackTraces = false) (D : va_G) (κ : Nat → ClassId) (A : Nat → Prop) (ad : Nat → Nat) (r0 : Nat → Option va_E) (b : BS) (p1 : Int32) (b' : BS) (v : Int32) (h : gx cs_remove (F7_remove b p1) = some (b', v)) : Met l yL_remove (gwh yL_remove cL_remove 3 (some .int) [(0, 5, 6, 17), (0, 5, 10, 26)]) rmL_remove (va_Pc [.ref (ad 50), .int p1] (MW D κ A ad (celB κ ad r0 b))) (QIA D A (fun ad' => Ag b.2.2 ad ad') (fun ad' => celB κ ad' r0 b') v) 7 47 A := by
  obtain ⟨r9, e9, hk9⟩ := gx_some h
  refine met_ofH (own := RL) (by decide +kernel) rfl (Nat.le_of_ble_eq_true rfl) ?_
  intro p e s m below meth c ls X hr hlk hT G hl
  have hl : lv_has ls 3 [(0, .ref (ad 50)), (1, .int p1)] := hl
  refine lv_aload_n (pc := 0) X.1 X.2.1 dL_remove_0 rfl (lv_at hl 0 rfl) ?_
  refine lv_iload_n (pc := 1) X.1 X.2.1 dL_remove_1 rfl (lv_at hl 1 rfl) ?_
  refine X_cIA (X_runV (pc := 2) (i := 50) (As := [.int p1]) (rest := []) (M' := celB κ ad r0 b') (r := r9) X G (rm := rm7_remove) rfl rfl rfl (c7_remove l hfl D κ A ad r0 b p1 (b', r9) e9) (B_rcv (ci := 7) (okL50 _) (by decide)) rfl g_L_31 hdL_yX7_remove ⟨Nat.le_of_ble_eq_true rfl, Nat.le_of_ble_eq_true rfl⟩ rfl hl rfl (lv_room (Nat.le_of_ble_eq_true rfl)) dL_remove_2 ⟨Nat.le_of_ble_eq_true rfl, Nat.le_of_ble_eq_true rfl⟩) G (fun k q ce H locs hr2 G h1 h2 h3 => ?_) (fun v9 ad' H locs hr2 hag G => ?_)
  · rcases hk9 with ⟨k8, e8, hk⟩ | e8
    · cases hr2.symm.trans e8
      rcases lk2 hk with ⟨rfl, rfl⟩ | ⟨rfl, rfl⟩
      · refine X_h1 (pc := 2) (k := 1) (x := ⟨0, 5, 6, 17⟩) X G hT (by decide) (by decide) clx_L_17 (by decide) h1 h2 h3 ?_
        refine lv_astore_n (pc := 6) (lv' := [(2, .ref q), (0, .ref (ad 50)), (1, .int p1)]) X.1 X.2.1 dL_remove_6 rfl hl (by decide) rfl (fun ls hl => ?_)
        refine lv_bipush (pc := 7) (v := (-3)) X.1 X.2.1 dL_remove_7 (by decide) ?_
        exact C_iret (pc := 9) X G hr hlk dL_remove_9 rfl (Ag.rf _ _) rfl (Nat.le_of_ble_eq_true rfl) (Nat.le_of_ble_eq_true rfl)
      · refine X_h2 (pc := 2) (k := 3) (k0 := 1) (x0 := ⟨0, 5, 6, 17⟩) (x := ⟨0, 5, 10, 26⟩) X G hT (by decide) clx_L_17 (by decide) (by decide) (by decide) clx_L_26 (by decide) h1 h2 h3 ?_
        refine lv_astore_n (pc := 10) (lv' := [(2, .ref q), (0, .ref (ad 50)), (1, .int p1)]) X.1 X.2.1 dL_remove_10 rfl hl (by decide) rfl (fun ls hl => ?_)
        refine lv_bipush (pc := 11) (v := (-2)) X.1 X.2.1 dL_remove_11 (by decide) ?_
        exact C_iret (pc := 13) X G hr hlk dL_remove_13 rfl (Ag.rf _ _) rfl (Nat.le_of_ble_eq_true rfl) (Nat.le_of_ble_eq_true rfl)
    · cases hr2.symm.trans e8
  · rcases hk9 with ⟨k8, e8, hk⟩ | e8
    · cases hr2.symm.trans e8
    · cases hr2.symm.trans e8
      exact C_iret (pc := 5) X G hr hlk dL_remove_5 rfl hag rfl (Nat.le_of_ble_eq_true rfl) (Nat.le_of_ble_eq_true rfl)
theorem cw_yL_sign : Cond.codeWith yL_sign cL_sign 3 (some .int) [(0, 5, 6, 15)] ∈ G0 := gq (List.mem_of_getElem? (i := 731) (by decide +kernel)) rfl
theorem g_L_34 : GoodIn G0 (wsV RL 34 RX7 yX7_sign (gw yX7_sign cX7_sign 3 (some (FieldType.int)))) := gv_in ml_L_34 im_yX7_sign se_yX7_sign ini_X7 cd_yX7_sign
theorem hdL_yX7_sign : yX7_sign.cls = RX7 ∧ yX7_sign.cls ≠ "java/lang/invoke/MethodHandle" ∧ yX7_sign.cls ≠ "java/lang/invoke/VarHandle" ∧ (parseMethodDescriptor yX7_sign.desc).map (fun d => d.parameters.length) = some 1 := by decide +kernel
abbrev rmL_sign : Room := { frames := 7, cells := 1, slots := 6, locals := 104 }
abbrev cs_sign : List (Nat × Int32) := [(2, -2)]
abbrev rmLn_sign : Room := { frames := 7, cells := 0, slots := 0, locals := 104 }
set_option maxHeartbeats 4000000 in
set_option maxRecDepth 100000 in
theorem wn_sign (l : Launch) (D : va_G) (κ : Nat → ClassId) (A : Nat → Prop) (ad : Nat → Nat) (r0 : Nat → Option va_E) (b : BS) (p1 : Int32) (b' : BS) (v : Int32) (h : nx (F7_sign b p1) = some (b', v)) : Met l yL_sign (gwh yL_sign cL_sign 3 (some .int) [(0, 5, 6, 15)]) rmLn_sign (va_Pc [.ref (ad 50), .int p1] (MW D κ A ad (celB κ ad r0 b))) (QI D κ A ad (celB κ ad r0 b') v) 0 0 A := by
  refine met_ofH (own := RL) (by decide +kernel) rfl (Nat.le_of_ble_eq_true rfl) ?_
  intro p e s m below meth c ls X hr hlk hT G hl
  have hl : lv_has ls 3 [(0, .ref (ad 50)), (1, .int p1)] := hl
  refine lv_aload_n (pc := 0) X.1 X.2.1 dL_sign_0 rfl (lv_at hl 0 rfl) ?_
  refine lv_iload_n (pc := 1) X.1 X.2.1 dL_sign_1 rfl (lv_at hl 1 rfl) ?_
  refine B_calli (pc := 2) (v := v) (M' := (celB κ ad r0 b')) (i := 50) (As := [.int p1]) (rest := []) X G (rm := rmn7_sign) rfl rfl rfl (n7_sign l D κ A ad r0 b p1 (b', v) (nx_some h)) (B_rcv (ci := 7) (okL50 _) (by decide)) rfl g_L_34 hdL_yX7_sign ⟨Nat.le_of_ble_eq_true rfl, Nat.le_of_ble_eq_true rfl⟩ rfl hl rfl (lv_room (Nat.le_of_ble_eq_true rfl)) dL_sign_2 ⟨Nat.le_of_ble_eq_true rfl, Nat.le_of_ble_eq_true rfl⟩ (fun H locs G => ?_)
  exact m_iret (pc := 5) X G hr hlk dL_sign_5 rfl rfl
set_option maxHeartbeats 4000000 in
set_option maxRecDepth 100000 in
theorem wg_sign (l : Launch) (hfl : l.stackTraces = false) (D : va_G) (κ : Nat → ClassId) (A : Nat → Prop) (ad : Nat → Nat) (r0 : Nat → Option va_E) (b : BS) (p1 : Int32) (b' : BS) (v : Int32) (h : gx cs_sign (F7_sign b p1) = some (b', v)) : Met l yL_sign (gwh yL_sign cL_sign 3 (some .int) [(0, 5, 6, 15)]) rmL_sign (va_Pc [.ref (ad 50), .int p1] (MW D κ A ad (celB κ ad r0 b))) (QIA D A (fun ad' => Ag b.2.2 ad ad') (fun ad' => celB κ ad' r0 b') v) 1 6 A := by
  obtain ⟨r9, e9, hk9⟩ := gx_some h
  refine met_ofH (own := RL) (by decide +kernel) rfl (Nat.le_of_ble_eq_true rfl) ?_
  intro p e s m below meth c ls X hr hlk hT G hl
  have hl : lv_has ls 3 [(0, .ref (ad 50)), (1, .int p1)] := hl
  refine lv_aload_n (pc := 0) X.1 X.2.1 dL_sign_0 rfl (lv_at hl 0 rfl) ?_
  refine lv_iload_n (pc := 1) X.1 X.2.1 dL_sign_1 rfl (lv_at hl 1 rfl) ?_
  refine X_cI (X_runV (pc := 2) (i := 50) (As := [.int p1]) (rest := []) (M' := celB κ ad r0 b') (r := r9) X G (rm := rm7_sign) rfl rfl rfl (c7_sign l hfl D κ A ad r0 b p1 (b', r9) e9) (B_rcv (ci := 7) (okL50 _) (by decide)) rfl g_L_34 hdL_yX7_sign ⟨Nat.le_of_ble_eq_true rfl, Nat.le_of_ble_eq_true rfl⟩ rfl hl rfl (lv_room (Nat.le_of_ble_eq_true rfl)) dL_sign_2 ⟨Nat.le_of_ble_eq_true rfl, Nat.le_of_ble_eq_true rfl⟩) G (fun k q ce H locs hr2 G h1 h2 h3 => ?_) (fun v9 ad' H locs hr2 hag G => ?_)
  · rcases hk9 with ⟨k8, e8, hk⟩ | e8
    · cases hr2.symm.trans e8
      obtain ⟨rfl, rfl⟩ := lk1 hk
      refine X_h1 (pc := 2) (k := 2) (x := ⟨0, 5, 6, 15⟩) X G hT (by decide) (by decide) clx_L_15 (by decide) h1 h2 h3 ?_
      refine lv_astore_n (pc := 6) (lv' := [(2, .ref q), (0, .ref (ad 50)), (1, .int p1)]) X.1 X.2.1 dL_sign_6 rfl hl (by decide) rfl (fun ls hl => ?_)
      refine lv_bipush (pc := 7) (v := (-2)) X.1 X.2.1 dL_sign_7 (by decide) ?_
      exact C_iret (pc := 9) X G hr hlk dL_sign_9 rfl (Ag.rf _ _) rfl (Nat.le_of_ble_eq_true rfl) (Nat.le_of_ble_eq_true rfl)
    · cases hr2.symm.trans e8
  · rcases hk9 with ⟨k8, e8, hk⟩ | e8
    · cases hr2.symm.trans e8
    · cases hr2.symm.trans e8
      subst hag
      exact C_iret (pc := 5) X G hr hlk dL_sign_5 rfl (Ag.rf _ _) rfl (Nat.le_of_ble_eq_true rfl) (Nat.le_of_ble_eq_true rfl)
theorem cw_yL_result : Cond.codeWith yL_result cL_result 3 (some .int) [(0, 5, 6, 15)] ∈ G0 := gq (List.mem_of_getElem? (i := 326) (by decide +kernel)) rfl
theorem g_L_37 : GoodIn G0 (wsV RL 37 RX7 yX7_result (gw yX7_result cX7_result 3 (some (FieldType.int)))) := gv_in ml_L_37 im_yX7_result se_yX7_result ini_X7 cd_yX7_result
theorem hdL_yX7_result : yX7_result.cls = RX7 ∧ yX7_result.cls ≠ "java/lang/invoke/MethodHandle" ∧ yX7_result.cls ≠ "java/lang/invoke/VarHandle" ∧ (parseMethodDescriptor yX7_result.desc).map (fun d => d.parameters.length) = some 1 := by decide +kernel
abbrev rmL_result : Room := { frames := 8, cells := 1, slots := 6, locals := 125 }
abbrev cs_result : List (Nat × Int32) := [(2, -2)]
abbrev rmLn_result : Room := { frames := 8, cells := 0, slots := 0, locals := 125 }
set_option maxHeartbeats 4000000 in
set_option maxRecDepth 100000 in
theorem wn_result (l : Launch) (D : va_G) (κ : Nat → ClassId) (A : Nat → Prop) (ad : Nat → Nat) (r0 : Nat → Option va_E) (b : BS) (p1 : Int32) (b' : BS) (v : Int32) (h : nx (F7_result b p1) = some (b', v)) : Met l yL_result (gwh yL_result cL_result 3 (some .int) [(0, 5, 6, 15)]) rmLn_result (va_Pc [.ref (ad 50), .int p1] (MW D κ A ad (celB κ ad r0 b))) (QI D κ A ad (celB κ ad r0 b') v) 0 0 A := by
  refine met_ofH (own := RL) (by decide +kernel) rfl (Nat.le_of_ble_eq_true rfl) ?_
  intro p e s m below meth c ls X hr hlk hT G hl
  have hl : lv_has ls 3 [(0, .ref (ad 50)), (1, .int p1)] := hl
  refine lv_aload_n (pc := 0) X.1 X.2.1 dL_result_0 rfl (lv_at hl 0 rfl) ?_
  refine lv_iload_n (pc := 1) X.1 X.2.1 dL_result_1 rfl (lv_at hl 1 rfl) ?_
  refine B_calli (pc := 2) (v := v) (M' := (celB κ ad r0 b')) (i := 50) (As := [.int p1]) (rest := []) X G (rm := rmn7_result) rfl rfl rfl (n7_result l D κ A ad r0 b p1 (b', v) (nx_some h)) (B_rcv (ci := 7) (okL50 _) (by decide)) rfl g_L_37 hdL_yX7_result ⟨Nat.le_of_ble_eq_true rfl, Nat.le_of_ble_eq_true rfl⟩ rfl hl rfl (lv_room (Nat.le_of_ble_eq_true rfl)) dL_result_2 ⟨Nat.le_of_ble_eq_true rfl, Nat.le_of_ble_eq_true rfl⟩ (fun H locs G => ?_)
  exact m_iret (pc := 5) X G hr hlk dL_result_5 rfl rfl
set_option maxHeartbeats 4000000 in
set_option maxRecDepth 100000 in
theorem wg_result (l : Launch) (hfl : l.stackTraces = false) (D : va_G) (κ : Nat → ClassId) (A : Nat → Prop) (ad : Nat → Nat) (r0 : Nat → Option va_E) (b : BS) (p1 : Int32) (b' : BS) (v : Int32) (h : gx cs_result (F7_result b p1) = some (b', v)) : Met l yL_result (gwh yL_result cL_result 3 (some .int) [(0, 5, 6, 15)]) rmL_result (va_Pc [.ref (ad 50), .int p1] (MW D κ A ad (celB κ ad r0 b))) (QIA D A (fun ad' => Ag b.2.2 ad ad') (fun ad' => celB κ ad' r0 b') v) 1 6 A := by
  obtain ⟨r9, e9, hk9⟩ := gx_some h
  refine met_ofH (own := RL) (by decide +kernel) rfl (Nat.le_of_ble_eq_true rfl) ?_
  intro p e s m below meth c ls X hr hlk hT G hl
  have hl : lv_has ls 3 [(0, .ref (ad 50)), (1, .int p1)] := hl
  refine lv_aload_n (pc := 0) X.1 X.2.1 dL_result_0 rfl (lv_at hl 0 rfl) ?_
  refine lv_iload_n (pc := 1) X.1 X.2.1 dL_result_1 rfl (lv_at hl 1 rfl) ?_
  refine X_cI (X_runV (pc := 2) (i := 50) (As := [.int p1]) (rest := []) (M' := celB κ ad r0 b') (r := r9) X G (rm := rm7_result) rfl rfl rfl (c7_result l hfl D κ A ad r0 b p1 (b', r9) e9) (B_rcv (ci := 7) (okL50 _) (by decide)) rfl g_L_37 hdL_yX7_result ⟨Nat.le_of_ble_eq_true rfl, Nat.le_of_ble_eq_true rfl⟩ rfl hl rfl (lv_room (Nat.le_of_ble_eq_true rfl)) dL_result_2 ⟨Nat.le_of_ble_eq_true rfl, Nat.le_of_ble_eq_true rfl⟩) G (fun k q ce H locs hr2 G h1 h2 h3 => ?_) (fun v9 ad' H locs hr2 hag G => ?_)
  · rcases hk9 with ⟨k8, e8, hk⟩ | e8
    · cases hr2.symm.trans e8
      obtain ⟨rfl, rfl⟩ := lk1 hk
      refine X_h1 (pc := 2) (k := 2) (x := ⟨0, 5, 6, 15⟩) X G hT (by decide) (by decide) clx_L_15 (by decide) h1 h2 h3 ?_
      refine lv_astore_n (pc := 6) (lv' := [(2, .ref q), (0, .ref (ad 50)), (1, .int p1)]) X.1 X.2.1 dL_result_6 rfl hl (by decide) rfl (fun ls hl => ?_)
      refine lv_bipush (pc := 7) (v := (-2)) X.1 X.2.1 dL_result_7 (by decide) ?_
      exact C_iret (pc := 9) X G hr hlk dL_result_9 rfl (Ag.rf _ _) rfl (Nat.le_of_ble_eq_true rfl) (Nat.le_of_ble_eq_true rfl)
    · cases hr2.symm.trans e8
  · rcases hk9 with ⟨k8, e8, hk⟩ | e8
    · cases hr2.symm.trans e8
    · cases hr2.symm.trans e8
      subst hag
      exact C_iret (pc := 5) X G hr hlk dL_result_5 rfl (Ag.rf _ _) rfl (Nat.le_of_ble_eq_true rfl) (Nat.le_of_ble_eq_true rfl)
theorem cw_yL_count : Cond.codeWith yL_count cL_count 3 (some .int) [(0, 5, 6, 15)] ∈ G0 := gq (List.mem_of_getElem? (i := 413) (by decide +kernel)) rfl
theorem g_L_40 : GoodIn G0 (wsV RL 40 RX7 yX7_count (gw yX7_count cX7_count 2 (some (FieldType.int)))) := gv_in ml_L_40 im_yX7_count se_yX7_count ini_X7 cd_yX7_count
theorem hdL_yX7_count : yX7_count.cls = RX7 ∧ yX7_count.cls ≠ "java/lang/invoke/MethodHandle" ∧ yX7_count.cls ≠ "java/lang/invoke/VarHandle" ∧ (parseMethodDescriptor yX7_count.desc).map (fun d => d.parameters.length) = some 1 := by decide +kernel
abbrev rmL_count : Room := { frames := 8, cells := 1, slots := 6, locals := 124 }
abbrev cs_count : List (Nat × Int32) := [(2, -2)]
abbrev rmLn_count : Room := { frames := 8, cells := 0, slots := 0, locals := 124 }
set_option maxHeartbeats 4000000 in
set_option maxRecDepth 100000 in
theorem wn_count (l : Launch) (D : va_G) (κ : Nat → ClassId) (A : Nat → Prop) (ad : Nat → Nat) (r0 : Nat → Option va_E) (b : BS) (p1 : Int32) (b' : BS) (v : Int32) (h : nx (F7_count b p1) = some (b', v)) : Met l yL_count (gwh yL_count cL_count 3 (some .int) [(0, 5, 6, 15)]) rmLn_count (va_Pc [.ref (ad 50), .int p1] (MW D κ A ad (celB κ ad r0 b))) (QI D κ A ad (celB κ ad r0 b') v) 0 0 A := by
  refine met_ofH (own := RL) (by decide +kernel) rfl (Nat.le_of_ble_eq_true rfl) ?_
  intro p e s m below meth c ls X hr hlk hT G hl
  have hl : lv_has ls 3 [(0, .ref (ad 50)), (1, .int p1)] := hl
  refine lv_aload_n (pc := 0) X.1 X.2.1 dL_count_0 rfl (lv_at hl 0 rfl) ?_
  refine lv_iload_n (pc := 1) X.1 X.2.1 dL_count_1 rfl (lv_at hl 1 rfl) ?_
  refine B_calli (pc := 2) (v := v) (M' := (celB κ ad r0 b')) (i := 50) (As := [.int p1]) (rest := []) X G (rm := rmn7_count) rfl rfl rfl (n7_count l D κ A ad r0 b p1 (b', v) (nx_some h)) (B_rcv (ci := 7) (okL50 _) (by decide)) rfl g_L_40 hdL_yX7_count ⟨Nat.le_of_ble_eq_true rfl, Nat.le_of_ble_eq_true rfl⟩ rfl hl rfl (lv_room (Nat.le_of_ble_eq_true rfl)) dL_count_2 ⟨Nat.le_of_ble_eq_true rfl, Nat.le_of_ble_eq_true rfl⟩ (fun H locs G => ?_)
  exact m_iret (pc := 5) X G hr hlk dL_count_5 rfl rfl
set_option maxHeartbeats 4000000 in
set_option maxRecDepth 100000 in
theorem wg_count (l : Launch) (hfl : l.stackTraces = false) (D : va_G) (κ : Nat → ClassId) (A : Nat → Prop) (ad : Nat → Nat) (r0 : Nat → Option va_E) (b : BS) (p1 : Int32) (b' : BS) (v : Int32) (h : gx cs_count (F7_count b p1) = some (b', v)) : Met l yL_count (gwh yL_count cL_count 3 (some .int) [(0, 5, 6, 15)]) rmL_count (va_Pc [.ref (ad 50), .int p1] (MW D κ A ad (celB κ ad r0 b))) (QIA D A (fun ad' => Ag b.2.2 ad ad') (fun ad' => celB κ ad' r0 b') v) 1 6 A := by
  obtain ⟨r9, e9, hk9⟩ := gx_some h
  refine met_ofH (own := RL) (by decide +kernel) rfl (Nat.le_of_ble_eq_true rfl) ?_
  intro p e s m below meth c ls X hr hlk hT G hl
  have hl : lv_has ls 3 [(0, .ref (ad 50)), (1, .int p1)] := hl
  refine lv_aload_n (pc := 0) X.1 X.2.1 dL_count_0 rfl (lv_at hl 0 rfl) ?_
  refine lv_iload_n (pc := 1) X.1 X.2.1 dL_count_1 rfl (lv_at hl 1 rfl) ?_
  refine X_cI (X_runV (pc := 2) (i := 50) (As := [.int p1]) (rest := []) (M' := celB κ ad r0 b') (r := r9) X G (rm := rm7_count) rfl rfl rfl (c7_count l hfl D κ A ad r0 b p1 (b', r9) e9) (B_rcv (ci := 7) (okL50 _) (by decide)) rfl g_L_40 hdL_yX7_count ⟨Nat.le_of_ble_eq_true rfl, Nat.le_of_ble_eq_true rfl⟩ rfl hl rfl (lv_room (Nat.le_of_ble_eq_true rfl)) dL_count_2 ⟨Nat.le_of_ble_eq_true rfl, Nat.le_of_ble_eq_true rfl⟩) G (fun k q ce H locs hr2 G h1 h2 h3 => ?_) (fun v9 ad' H locs hr2 hag G => ?_)
  · rcases hk9 with ⟨k8, e8, hk⟩ | e8
    · cases hr2.symm.trans e8
      obtain ⟨rfl, rfl⟩ := lk1 hk
      refine X_h1 (pc := 2) (k := 2) (x := ⟨0, 5, 6, 15⟩) X G hT (by decide) (by decide) clx_L_15 (by decide) h1 h2 h3 ?_
      refine lv_astore_n (pc := 6) (lv' := [(2, .ref q), (0, .ref (ad 50)), (1, .int p1)]) X.1 X.2.1 dL_count_6 rfl hl (by decide) rfl (fun ls hl => ?_)
      refine lv_bipush (pc := 7) (v := (-2)) X.1 X.2.1 dL_count_7 (by decide) ?_
      exact C_iret (pc := 9) X G hr hlk dL_count_9 rfl (Ag.rf _ _) rfl (Nat.le_of_ble_eq_true rfl) (Nat.le_of_ble_eq_true rfl)
    · cases hr2.symm.trans e8
  · rcases hk9 with ⟨k8, e8, hk⟩ | e8
    · cases hr2.symm.trans e8
    · cases hr2.symm.trans e8
      subst hag
      exact C_iret (pc := 5) X G hr hlk dL_count_5 rfl (Ag.rf _ _) rfl (Nat.le_of_ble_eq_true rfl) (Nat.le_of_ble_eq_true rfl)
theorem cw_yL_body : Cond.codeWith yL_body cL_body 4 (some .int) [(0, 6, 7, 17), (0, 6, 11, 15)] ∈ G0 := gq (List.mem_of_getElem? (i := 751) (by decide +kernel)) rfl
theorem g_L_43 : GoodIn G0 (wsV RL 43 RX7 yX7_body (gw yX7_body cX7_body 4 (some (FieldType.int)))) := gv_in ml_L_43 im_yX7_body se_yX7_body ini_X7 cd_yX7_body
theorem hdL_yX7_body : yX7_body.cls = RX7 ∧ yX7_body.cls ≠ "java/lang/invoke/MethodHandle" ∧ yX7_body.cls ≠ "java/lang/invoke/VarHandle" ∧ (parseMethodDescriptor yX7_body.desc).map (fun d => d.parameters.length) = some 2 := by decide +kernel
abbrev rmL_body : Room := { frames := 8, cells := 2, slots := 12, locals := 126 }
abbrev cs_body : List (Nat × Int32) := [(1, -3), (2, -2)]
abbrev rmLn_body : Room := { frames := 8, cells := 0, slots := 0, locals := 126 }
set_option maxHeartbeats 4000000 in
set_option maxRecDepth 100000 in
theorem wn_body (l : Launch) (D : va_G) (κ : Nat → ClassId) (A : Nat → Prop) (ad : Nat → Nat) (r0 : Nat → Option va_E) (b : BS) (p1 : Int32) (p2 : Int32) (b' : BS) (v : Int32) (h : nx (F7_body b p1 p2) = some (b', v)) : Met l yL_body (gwh yL_body cL_body 4 (some .int) [(0, 6, 7, 17), (0, 6, 11, 15)]) rmLn_body (va_Pc [.ref (ad 50), .int p1, .int p2] (MW D κ A ad (celB κ ad r0 b))) (QI D κ A ad (celB κ ad r0 b') v) 0 0 A := by
  refine met_ofH (own := RL) (by decide +kernel) rfl (Nat.le_of_ble_eq_true rfl) ?_
  intro p e s m below meth c ls X hr hlk hT G hl
  have hl : lv_has ls 4 [(0, .ref (ad 50)), (1, .int p1), (2, .int p2)] := hl
  refine lv_aload_n (pc := 0) X.1 X.2.1 dL_body_0 rfl (lv_at hl 0 rfl) ?_
  refine lv_iload_n (pc := 1) X.1 X.2.1 dL_body_1 rfl (lv_at hl 1 rfl) ?_
  refine lv_iload_n (pc := 2) X.1 X.2.1 dL_body_2 rfl (lv_at hl 2 rfl) ?_
  refine B_calli (pc := 3) (v := v) (M' := (celB κ ad r0 b')) (i := 50) (As := [.int p1, .int p2]) (rest := []) X G (rm := rmn7_body) rfl rfl rfl (n7_body l D κ A ad r0 b p1 p2 (b', v) (nx_some h)) (B_rcv (ci := 7) (okL50 _) (by decide)) rfl g_L_43 hdL_yX7_body ⟨Nat.le_of_ble_eq_true rfl, Nat.le_of_ble_eq_true rfl⟩ rfl hl rfl (lv_room (Nat.le_of_ble_eq_true rfl)) dL_body_3 ⟨Nat.le_of_ble_eq_true rfl, Nat.le_of_ble_eq_true rfl⟩ (fun H locs G => ?_)
  exact m_iret (pc := 6) X G hr hlk dL_body_6 rfl rfl
set_option maxHeartbeats 4000000 in
set_option maxRecDepth 100000 in
theorem wg_body (l : Launch) (hfl : l.stackTraces = false) (D : va_G) (κ : Nat → ClassId) (A : Nat → Prop) (ad : Nat → Nat) (r0 : Nat → Option va_E) (b : BS) (p1 : Int32) (p2 : Int32) (b' : BS) (v : Int32) (h : gx cs_body (F7_body b p1 p2) = some (b', v)) : Met l yL_body (gwh yL_body cL_body 4 (some .int) [(0, 6, 7, 17), (0, 6, 11, 15)]) rmL_body (va_Pc [.ref (ad 50), .int p1, .int p2] (MW D κ A ad (celB κ ad r0 b))) (QIA D A (fun ad' => Ag b.2.2 ad ad') (fun ad' => celB κ ad' r0 b') v) 2 12 A := by
  obtain ⟨r9, e9, hk9⟩ := gx_some h
  refine met_ofH (own := RL) (by decide +kernel) rfl (Nat.le_of_ble_eq_true rfl) ?_
  intro p e s m below meth c ls X hr hlk hT G hl
  have hl : lv_has ls 4 [(0, .ref (ad 50)), (1, .int p1), (2, .int p2)] := hl
  refine lv_aload_n (pc := 0) X.1 X.2.1 dL_body_0 rfl (lv_at hl 0 rfl) ?_
  refine lv_iload_n (pc := 1) X.1 X.2.1 dL_body_1 rfl (lv_at hl 1 rfl) ?_
  refine lv_iload_n (pc := 2) X.1 X.2.1 dL_body_2 rfl (lv_at hl 2 rfl) ?_
  refine X_cI (X_runV (pc := 3) (i := 50) (As := [.int p1, .int p2]) (rest := []) (M' := celB κ ad r0 b') (r := r9) X G (rm := rm7_body) rfl rfl rfl (c7_body l hfl D κ A ad r0 b p1 p2 (b', r9) e9) (B_rcv (ci := 7) (okL50 _) (by decide)) rfl g_L_43 hdL_yX7_body ⟨Nat.le_of_ble_eq_true rfl, Nat.le_of_ble_eq_true rfl⟩ rfl hl rfl (lv_room (Nat.le_of_ble_eq_true rfl)) dL_body_3 ⟨Nat.le_of_ble_eq_true rfl, Nat.le_of_ble_eq_true rfl⟩) G (fun k q ce H locs hr2 G h1 h2 h3 => ?_) (fun v9 ad' H locs hr2 hag G => ?_)
  · rcases hk9 with ⟨k8, e8, hk⟩ | e8
    · cases hr2.symm.trans e8
      rcases lk2 hk with ⟨rfl, rfl⟩ | ⟨rfl, rfl⟩
      · refine X_h1 (pc := 3) (k := 1) (x := ⟨0, 6, 7, 17⟩) X G hT (by decide) (by decide) clx_L_17 (by decide) h1 h2 h3 ?_
        refine lv_astore_n (pc := 7) (lv' := [(3, .ref q), (0, .ref (ad 50)), (1, .int p1), (2, .int p2)]) X.1 X.2.1 dL_body_7 rfl hl (by decide) rfl (fun ls hl => ?_)
        refine lv_bipush (pc := 8) (v := (-3)) X.1 X.2.1 dL_body_8 (by decide) ?_
        exact C_iret (pc := 10) X G hr hlk dL_body_10 rfl (Ag.rf _ _) rfl (Nat.le_of_ble_eq_true rfl) (Nat.le_of_ble_eq_true rfl)
      · refine X_h2 (pc := 3) (k := 2) (k0 := 1) (x0 := ⟨0, 6, 7, 17⟩) (x := ⟨0, 6, 11, 15⟩) X G hT (by decide) clx_L_17 (by decide) (by decide) (by decide) clx_L_15 (by decide) h1 h2 h3 ?_
        refine lv_astore_n (pc := 11) (lv' := [(3, .ref q), (0, .ref (ad 50)), (1, .int p1), (2, .int p2)]) X.1 X.2.1 dL_body_11 rfl hl (by decide) rfl (fun ls hl => ?_)
        refine lv_bipush (pc := 12) (v := (-2)) X.1 X.2.1 dL_body_12 (by decide) ?_
        exact C_iret (pc := 14) X G hr hlk dL_body_14 rfl (Ag.rf _ _) rfl (Nat.le_of_ble_eq_true rfl) (Nat.le_of_ble_eq_true rfl)
    · cases hr2.symm.trans e8
  · rcases hk9 with ⟨k8, e8, hk⟩ | e8
    · cases hr2.symm.trans e8
    · cases hr2.symm.trans e8
      subst hag
      exact C_iret (pc := 6) X G hr hlk dL_body_6 rfl (Ag.rf _ _) rfl (Nat.le_of_ble_eq_true rfl) (Nat.le_of_ble_eq_true rfl)
theorem cw_yL_uses : Cond.codeWith yL_uses cL_uses 4 (some .int) [(0, 6, 7, 17), (0, 6, 11, 15)] ∈ G0 := gq (List.mem_of_getElem? (i := 780) (by decide +kernel)) rfl
theorem g_L_47 : GoodIn G0 (wsV RL 47 RX7 yX7_uses (gw yX7_uses cX7_uses 3 (some (FieldType.int)))) := gv_in ml_L_47 im_yX7_uses se_yX7_uses ini_X7 cd_yX7_uses
theorem hdL_yX7_uses : yX7_uses.cls = RX7 ∧ yX7_uses.cls ≠ "java/lang/invoke/MethodHandle" ∧ yX7_uses.cls ≠ "java/lang/invoke/VarHandle" ∧ (parseMethodDescriptor yX7_uses.desc).map (fun d => d.parameters.length) = some 2 := by decide +kernel
abbrev rmL_uses : Room := { frames := 8, cells := 2, slots := 12, locals := 125 }
abbrev cs_uses : List (Nat × Int32) := [(1, -3), (2, -2)]
abbrev rmLn_uses : Room := { frames := 8, cells := 0, slots := 0, locals := 125 }
set_option maxHeartbeats 4000000 in
set_option maxRecDepth 100000 in
theorem wn_uses (l : Launch) (D : va_G) (κ : Nat → ClassId) (A : Nat → Prop) (ad : Nat → Nat) (r0 : Nat → Option va_E) (b : BS) (p1 : Int32) (p2 : Int32) (b' : BS) (v : Int32) (h : nx (F7_uses b p1 p2) = some (b', v)) : Met l yL_uses (gwh yL_uses cL_uses 4 (some .int) [(0, 6, 7, 17), (0, 6, 11, 15)]) rmLn_uses (va_Pc [.ref (ad 50), .int p1, .int p2] (MW D κ A ad (celB κ ad r0 b))) (QI D κ A ad (celB κ ad r0 b') v) 0 0 A := by
  refine met_ofH (own := RL) (by decide +kernel) rfl (Nat.le_of_ble_eq_true rfl) ?_
  intro p e s m below meth c ls X hr hlk hT G hl
  have hl : lv_has ls 4 [(0, .ref (ad 50)), (1, .int p1), (2, .int p2)] := hl
  refine lv_aload_n (pc := 0) X.1 X.2.1 dL_uses_0 rfl (lv_at hl 0 rfl) ?_
  refine lv_iload_n (pc := 1) X.1 X.2.1 dL_uses_1 rfl (lv_at hl 1 rfl) ?_
  refine lv_iload_n (pc := 2) X.1 X.2.1 dL_uses_2 rfl (lv_at hl 2 rfl) ?_
  refine B_calli (pc := 3) (v := v) (M' := (celB κ ad r0 b')) (i := 50) (As := [.int p1, .int p2]) (rest := []) X G (rm := rmn7_uses) rfl rfl rfl (n7_uses l D κ A ad r0 b p1 p2 (b', v) (nx_some h)) (B_rcv (ci := 7) (okL50 _) (by decide)) rfl g_L_47 hdL_yX7_uses ⟨Nat.le_of_ble_eq_true rfl, Nat.le_of_ble_eq_true rfl⟩ rfl hl rfl (lv_room (Nat.le_of_ble_eq_true rfl)) dL_uses_3 ⟨Nat.le_of_ble_eq_true rfl, Nat.le_of_ble_eq_true rfl⟩ (fun H locs G => ?_)
  exact m_iret (pc := 6) X G hr hlk dL_uses_6 rfl rfl
set_option maxHeartbeats 4000000 in
set_option maxRecDepth 100000 in
theorem wg_uses (l : Launch) (hfl : l.stackTraces = false) (D : va_G) (κ : Nat → ClassId) (A : Nat → Prop) (ad : Nat → Nat) (r0 : Nat → Option va_E) (b : BS) (p1 : Int32) (p2 : Int32) (b' : BS) (v : Int32) (h : gx cs_uses (F7_uses b p1 p2) = some (b', v)) : Met l yL_uses (gwh yL_uses cL_uses 4 (some .int) [(0, 6, 7, 17), (0, 6, 11, 15)]) rmL_uses (va_Pc [.ref (ad 50), .int p1, .int p2] (MW D κ A ad (celB κ ad r0 b))) (QIA D A (fun ad' => Ag b.2.2 ad ad') (fun ad' => celB κ ad' r0 b') v) 2 12 A := by
  obtain ⟨r9, e9, hk9⟩ := gx_some h
  refine met_ofH (own := RL) (by decide +kernel) rfl (Nat.le_of_ble_eq_true rfl) ?_
  intro p e s m below meth c ls X hr hlk hT G hl
  have hl : lv_has ls 4 [(0, .ref (ad 50)), (1, .int p1), (2, .int p2)] := hl
  refine lv_aload_n (pc := 0) X.1 X.2.1 dL_uses_0 rfl (lv_at hl 0 rfl) ?_
  refine lv_iload_n (pc := 1) X.1 X.2.1 dL_uses_1 rfl (lv_at hl 1 rfl) ?_
  refine lv_iload_n (pc := 2) X.1 X.2.1 dL_uses_2 rfl (lv_at hl 2 rfl) ?_
  refine X_cI (X_runV (pc := 3) (i := 50) (As := [.int p1, .int p2]) (rest := []) (M' := celB κ ad r0 b') (r := r9) X G (rm := rm7_uses) rfl rfl rfl (c7_uses l hfl D κ A ad r0 b p1 p2 (b', r9) e9) (B_rcv (ci := 7) (okL50 _) (by decide)) rfl g_L_47 hdL_yX7_uses ⟨Nat.le_of_ble_eq_true rfl, Nat.le_of_ble_eq_true rfl⟩ rfl hl rfl (lv_room (Nat.le_of_ble_eq_true rfl)) dL_uses_3 ⟨Nat.le_of_ble_eq_true rfl, Nat.le_of_ble_eq_true rfl⟩) G (fun k q ce H locs hr2 G h1 h2 h3 => ?_) (fun v9 ad' H locs hr2 hag G => ?_)
  · rcases hk9 with ⟨k8, e8, hk⟩ | e8
    · cases hr2.symm.trans e8
      rcases lk2 hk with ⟨rfl, rfl⟩ | ⟨rfl, rfl⟩
      · refine X_h1 (pc := 3) (k := 1) (x := ⟨0, 6, 7, 17⟩) X G hT (by decide) (by decide) clx_L_17 (by decide) h1 h2 h3 ?_
        refine lv_astore_n (pc := 7) (lv' := [(3, .ref q), (0, .ref (ad 50)), (1, .int p1), (2, .int p2)]) X.1 X.2.1 dL_uses_7 rfl hl (by decide) rfl (fun ls hl => ?_)
        refine lv_bipush (pc := 8) (v := (-3)) X.1 X.2.1 dL_uses_8 (by decide) ?_
        exact C_iret (pc := 10) X G hr hlk dL_uses_10 rfl (Ag.rf _ _) rfl (Nat.le_of_ble_eq_true rfl) (Nat.le_of_ble_eq_true rfl)
      · refine X_h2 (pc := 3) (k := 2) (k0 := 1) (x0 := ⟨0, 6, 7, 17⟩) (x := ⟨0, 6, 11, 15⟩) X G hT (by decide) clx_L_17 (by decide) (by decide) (by decide) clx_L_15 (by decide) h1 h2 h3 ?_
        refine lv_astore_n (pc := 11) (lv' := [(3, .ref q), (0, .ref (ad 50)), (1, .int p1), (2, .int p2)]) X.1 X.2.1 dL_uses_11 rfl hl (by decide) rfl (fun ls hl => ?_)
        refine lv_bipush (pc := 12) (v := (-2)) X.1 X.2.1 dL_uses_12 (by decide) ?_
        exact C_iret (pc := 14) X G hr hlk dL_uses_14 rfl (Ag.rf _ _) rfl (Nat.le_of_ble_eq_true rfl) (Nat.le_of_ble_eq_true rfl)
    · cases hr2.symm.trans e8
  · rcases hk9 with ⟨k8, e8, hk⟩ | e8
    · cases hr2.symm.trans e8
    · cases hr2.symm.trans e8
      subst hag
      exact C_iret (pc := 6) X G hr hlk dL_uses_6 rfl (Ag.rf _ _) rfl (Nat.le_of_ble_eq_true rfl) (Nat.le_of_ble_eq_true rfl)
theorem cw_yL_chain : Cond.codeWith yL_chain cL_chain 3 (some .int) [(0, 5, 6, 17)] ∈ G0 := gq (List.mem_of_getElem? (i := 803) (by decide +kernel)) rfl
theorem g_L_50 : GoodIn G0 (wsV RL 50 RX7 yX7_chain (gw yX7_chain cX7_chain 2 (some (FieldType.int)))) := gv_in ml_L_50 im_yX7_chain se_yX7_chain ini_X7 cd_yX7_chain
theorem hdL_yX7_chain : yX7_chain.cls = RX7 ∧ yX7_chain.cls ≠ "java/lang/invoke/MethodHandle" ∧ yX7_chain.cls ≠ "java/lang/invoke/VarHandle" ∧ (parseMethodDescriptor yX7_chain.desc).map (fun d => d.parameters.length) = some 1 := by decide +kernel
abbrev rmL_chain : Room := { frames := 8, cells := 1, slots := 6, locals := 123 }
abbrev cs_chain : List (Nat × Int32) := [(1, -3)]
abbrev rmLn_chain : Room := { frames := 8, cells := 0, slots := 0, locals := 123 }
set_option maxHeartbeats 4000000 in
set_option maxRecDepth 100000 in
theorem wn_chain (l : Launch) (D : va_G) (κ : Nat → ClassId) (A : Nat → Prop) (ad : Nat → Nat) (r0 : Nat → Option va_E) (b : BS) (p1 : Int32) (b' : BS) (v : Int32) (h : nx (F7_chain b p1) = some (b', v)) : Met l yL_chain (gwh yL_chain cL_chain 3 (some .int) [(0, 5, 6, 17)]) rmLn_chain (va_Pc [.ref (ad 50), .int p1] (MW D κ A ad (celB κ ad r0 b))) (QI D κ A ad (celB κ ad r0 b') v) 0 0 A := by
  refine met_ofH (own := RL) (by decide +kernel) rfl (Nat.le_of_ble_eq_true rfl) ?_
  intro p e s m below meth c ls X hr hlk hT G hl
  have hl : lv_has ls 3 [(0, .ref (ad 50)), (1, .int p1)] := hl
  refine lv_aload_n (pc := 0) X.1 X.2.1 dL_chain_0 rfl (lv_at hl 0 rfl) ?_
  refine lv_iload_n (pc := 1) X.1 X.2.1 dL_chain_1 rfl (lv_at hl 1 rfl) ?_
  refine B_calli (pc := 2) (v := v) (M' := (celB κ ad r0 b')) (i := 50) (As := [.int p1]) (rest := []) X G (rm := rmn7_chain) rfl rfl rfl (n7_chain l D κ A ad r0 b p1 (b', v) (nx_some h)) (B_rcv (ci := 7) (okL50 _) (by decide)) rfl g_L_50 hdL_yX7_chain ⟨Nat.le_of_ble_eq_true rfl, Nat.le_of_ble_eq_true rfl⟩ rfl hl rfl (lv_room (Nat.le_of_ble_eq_true rfl)) dL_chain_2 ⟨Nat.le_of_ble_eq_true rfl, Nat.le_of_ble_eq_true rfl⟩ (fun H locs G => ?_)
  exact m_iret (pc := 5) X G hr hlk dL_chain_5 rfl rfl
set_option maxHeartbeats 4000000 in
set_option maxRecDepth 100000 in
theorem wg_chain (l : Launch) (hfl : l.stackTraces = false) (D : va_G) (κ : Nat → ClassId) (A : Nat → Prop) (ad : Nat → Nat) (r0 : Nat → Option va_E) (b : BS) (p1 : Int32) (b' : BS) (v : Int32) (h : gx cs_chain (F7_chain b p1) = some (b', v)) : Met l yL_chain (gwh yL_chain cL_chain 3 (some .int) [(0, 5, 6, 17)]) rmL_chain (va_Pc [.ref (ad 50), .int p1] (MW D κ A ad (celB κ ad r0 b))) (QIA D A (fun ad' => Ag b.2.2 ad ad') (fun ad' => celB κ ad' r0 b') v) 1 6 A := by
  obtain ⟨r9, e9, hk9⟩ := gx_some h
  refine met_ofH (own := RL) (by decide +kernel) rfl (Nat.le_of_ble_eq_true rfl) ?_
  intro p e s m below meth c ls X hr hlk hT G hl
  have hl : lv_has ls 3 [(0, .ref (ad 50)), (1, .int p1)] := hl
  refine lv_aload_n (pc := 0) X.1 X.2.1 dL_chain_0 rfl (lv_at hl 0 rfl) ?_
  refine lv_iload_n (pc := 1) X.1 X.2.1 dL_chain_1 rfl (lv_at hl 1 rfl) ?_
  refine X_cI (X_runV (pc := 2) (i := 50) (As := [.int p1]) (rest := []) (M' := celB κ ad r0 b') (r := r9) X G (rm := rm7_chain) rfl rfl rfl (c7_chain l hfl D κ A ad r0 b p1 (b', r9) e9) (B_rcv (ci := 7) (okL50 _) (by decide)) rfl g_L_50 hdL_yX7_chain ⟨Nat.le_of_ble_eq_true rfl, Nat.le_of_ble_eq_true rfl⟩ rfl hl rfl (lv_room (Nat.le_of_ble_eq_true rfl)) dL_chain_2 ⟨Nat.le_of_ble_eq_true rfl, Nat.le_of_ble_eq_true rfl⟩) G (fun k q ce H locs hr2 G h1 h2 h3 => ?_) (fun v9 ad' H locs hr2 hag G => ?_)
  · rcases hk9 with ⟨k8, e8, hk⟩ | e8
    · cases hr2.symm.trans e8
      obtain ⟨rfl, rfl⟩ := lk1 hk
      refine X_h1 (pc := 2) (k := 1) (x := ⟨0, 5, 6, 17⟩) X G hT (by decide) (by decide) clx_L_17 (by decide) h1 h2 h3 ?_
      refine lv_astore_n (pc := 6) (lv' := [(2, .ref q), (0, .ref (ad 50)), (1, .int p1)]) X.1 X.2.1 dL_chain_6 rfl hl (by decide) rfl (fun ls hl => ?_)
      refine lv_bipush (pc := 7) (v := (-3)) X.1 X.2.1 dL_chain_7 (by decide) ?_
      exact C_iret (pc := 9) X G hr hlk dL_chain_9 rfl (Ag.rf _ _) rfl (Nat.le_of_ble_eq_true rfl) (Nat.le_of_ble_eq_true rfl)
    · cases hr2.symm.trans e8
  · rcases hk9 with ⟨k8, e8, hk⟩ | e8
    · cases hr2.symm.trans e8
    · cases hr2.symm.trans e8
      subst hag
      exact C_iret (pc := 5) X G hr hlk dL_chain_5 rfl (Ag.rf _ _) rfl (Nat.le_of_ble_eq_true rfl) (Nat.le_of_ble_eq_true rfl)
theorem cw_yL_ifDefined : Cond.codeWith yL_ifDefined cL_ifDefined 3 (some .int) [(0, 5, 6, 17), (0, 5, 10, 15)] ∈ G0 := gq (List.mem_of_getElem? (i := 854) (by decide +kernel)) rfl
theorem g_L_53 : GoodIn G0 (wsV RL 53 RX7 yX7_ifDefined (gw yX7_ifDefined cX7_ifDefined 2 (some (FieldType.int)))) := gv_in ml_L_53 im_yX7_ifDefined se_yX7_ifDefined ini_X7 cd_yX7_ifDefined
theorem hdL_yX7_ifDefined : yX7_ifDefined.cls = RX7 ∧ yX7_ifDefined.cls ≠ "java/lang/invoke/MethodHandle" ∧ yX7_ifDefined.cls ≠ "java/lang/invoke/VarHandle" ∧ (parseMethodDescriptor yX7_ifDefined.desc).map (fun d => d.parameters.length) = some 1 := by decide +kernel
abbrev rmL_ifDefined : Room := { frames := 8, cells := 2, slots := 12, locals := 123 }
abbrev cs_ifDefined : List (Nat × Int32) := [(1, -3), (2, -2)]
set_option maxHeartbeats 4000000 in
set_option maxRecDepth 100000 in
theorem wg_ifDefined (l : Launch) (hfl : l.stackTraces = false) (D : va_G) (κ : Nat → ClassId) (A : Nat → Prop) (ad : Nat → Nat) (r0 : Nat → Option va_E) (b : BS) (p1 : Int32) (b' : BS) (v : Int32) (h : gx cs_ifDefined (F7_ifDefined b p1) = some (b', v)) : Met l yL_ifDefined (gwh yL_ifDefined cL_ifDefined 3 (some .int) [(0, 5, 6, 17), (0, 5, 10, 15)]) rmL_ifDefined (va_Pc [.ref (ad 50), .int p1] (MW D κ A ad (celB κ ad r0 b))) (QIA D A (fun ad' => Ag b.2.2 ad ad') (fun ad' => celB κ ad' r0 b') v) 2 12 A := by
  obtain ⟨r9, e9, hk9⟩ := gx_some h
  refine met_ofH (own := RL) (by decide +kernel) rfl (Nat.le_of_ble_eq_true rfl) ?_
  intro p e s m below meth c ls X hr hlk hT G hl
  have hl : lv_has ls 3 [(0, .ref (ad 50)), (1, .int p1)] := hl
  refine lv_aload_n (pc := 0) X.1 X.2.1 dL_ifDefined_0 rfl (lv_at hl 0 rfl) ?_
  refine lv_iload_n (pc := 1) X.1 X.2.1 dL_ifDefined_1 rfl (lv_at hl 1 rfl) ?_
  refine X_cI (X_runV (pc := 2) (i := 50) (As := [.int p1]) (rest := []) (M' := celB κ ad r0 b') (r := r9) X G (rm := rm7_ifDefined) rfl rfl rfl (c7_ifDefined l hfl D κ A ad r0 b p1 (b', r9) e9) (B_rcv (ci := 7) (okL50 _) (by decide)) rfl g_L_53 hdL_yX7_ifDefined ⟨Nat.le_of_ble_eq_true rfl, Nat.le_of_ble_eq_true rfl⟩ rfl hl rfl (lv_room (Nat.le_of_ble_eq_true rfl)) dL_ifDefined_2 ⟨Nat.le_of_ble_eq_true rfl, Nat.le_of_ble_eq_true rfl⟩) G (fun k q ce H locs hr2 G h1 h2 h3 => ?_) (fun v9 ad' H locs hr2 hag G => ?_)
  · rcases hk9 with ⟨k8, e8, hk⟩ | e8
    · cases hr2.symm.trans e8
      rcases lk2 hk with ⟨rfl, rfl⟩ | ⟨rfl, rfl⟩
      · refine X_h1 (pc := 2) (k := 1) (x := ⟨0, 5, 6, 17⟩) X G hT (by decide) (by decide) clx_L_17 (by decide) h1 h2 h3 ?_
        refine lv_astore_n (pc := 6) (lv' := [(2, .ref q), (0, .ref (ad 50)), (1, .int p1)]) X.1 X.2.1 dL_ifDefined_6 rfl hl (by decide) rfl (fun ls hl => ?_)
        refine lv_bipush (pc := 7) (v := (-3)) X.1 X.2.1 dL_ifDefined_7 (by decide) ?_
        exact C_iret (pc := 9) X G hr hlk dL_ifDefined_9 rfl (Ag.rf _ _) rfl (Nat.le_of_ble_eq_true rfl) (Nat.le_of_ble_eq_true rfl)
      · refine X_h2 (pc := 2) (k := 2) (k0 := 1) (x0 := ⟨0, 5, 6, 17⟩) (x := ⟨0, 5, 10, 15⟩) X G hT (by decide) clx_L_17 (by decide) (by decide) (by decide) clx_L_15 (by decide) h1 h2 h3 ?_
        refine lv_astore_n (pc := 10) (lv' := [(2, .ref q), (0, .ref (ad 50)), (1, .int p1)]) X.1 X.2.1 dL_ifDefined_10 rfl hl (by decide) rfl (fun ls hl => ?_)
        refine lv_bipush (pc := 11) (v := (-2)) X.1 X.2.1 dL_ifDefined_11 (by decide) ?_
        exact C_iret (pc := 13) X G hr hlk dL_ifDefined_13 rfl (Ag.rf _ _) rfl (Nat.le_of_ble_eq_true rfl) (Nat.le_of_ble_eq_true rfl)
    · cases hr2.symm.trans e8
  · rcases hk9 with ⟨k8, e8, hk⟩ | e8
    · cases hr2.symm.trans e8
    · cases hr2.symm.trans e8
      subst hag
      exact C_iret (pc := 5) X G hr hlk dL_ifDefined_5 rfl (Ag.rf _ _) rfl (Nat.le_of_ble_eq_true rfl) (Nat.le_of_ble_eq_true rfl)
theorem cw_yL_exchange : Cond.codeWith yL_exchange cL_exchange 4 (some .int) [(0, 6, 7, 17)] ∈ G0 := gq (List.mem_of_getElem? (i := 529) (by decide +kernel)) rfl
theorem g_L_56 : GoodIn G0 (wsV RL 56 RX7 yX7_exchange (gw yX7_exchange cX7_exchange 5 (some (FieldType.int)))) := gv_in ml_L_56 im_yX7_exchange se_yX7_exchange ini_X7 cd_yX7_exchange
theorem hdL_yX7_exchange : yX7_exchange.cls = RX7 ∧ yX7_exchange.cls ≠ "java/lang/invoke/MethodHandle" ∧ yX7_exchange.cls ≠ "java/lang/invoke/VarHandle" ∧ (parseMethodDescriptor yX7_exchange.desc).map (fun d => d.parameters.length) = some 2 := by decide +kernel
abbrev rmL_exchange : Room := { frames := 8, cells := 7, slots := 47, locals := 165 }
abbrev cs_exchange : List (Nat × Int32) := [(1, -3)]
set_option maxHeartbeats 4000000 in
set_option maxRecDepth 100000 in
theorem wg_exchange (l : Launch) (hfl : l.stackTraces = false) (D : va_G) (κ : Nat → ClassId) (A : Nat → Prop) (ad : Nat → Nat) (r0 : Nat → Option va_E) (b : BS) (p1 : Int32) (p2 : Int32) (b' : BS) (v : Int32) (h : gx cs_exchange (F7_exchange b p1 p2) = some (b', v)) : Met l yL_exchange (gwh yL_exchange cL_exchange 4 (some .int) [(0, 6, 7, 17)]) rmL_exchange (va_Pc [.ref (ad 50), .int p1, .int p2] (MW D κ A ad (celB κ ad r0 b))) (QIA D A (fun ad' => Ag b.2.2 ad ad') (fun ad' => celB κ ad' r0 b') v) 7 47 A := by
  obtain ⟨r9, e9, hk9⟩ := gx_some h
  refine met_ofH (own := RL) (by decide +kernel) rfl (Nat.le_of_ble_eq_true rfl) ?_
  intro p e s m below meth c ls X hr hlk hT G hl
  have hl : lv_has ls 4 [(0, .ref (ad 50)), (1, .int p1), (2, .int p2)] := hl
  refine lv_aload_n (pc := 0) X.1 X.2.1 dL_exchange_0 rfl (lv_at hl 0 rfl) ?_
  refine lv_iload_n (pc := 1) X.1 X.2.1 dL_exchange_1 rfl (lv_at hl 1 rfl) ?_
  refine lv_iload_n (pc := 2) X.1 X.2.1 dL_exchange_2 rfl (lv_at hl 2 rfl) ?_
  refine X_cIA (X_runV (pc := 3) (i := 50) (As := [.int p1, .int p2]) (rest := []) (M' := celB κ ad r0 b') (r := r9) X G (rm := rm7_exchange) rfl rfl rfl (c7_exchange l hfl D κ A ad r0 b p1 p2 (b', r9) e9) (B_rcv (ci := 7) (okL50 _) (by decide)) rfl g_L_56 hdL_yX7_exchange ⟨Nat.le_of_ble_eq_true rfl, Nat.le_of_ble_eq_true rfl⟩ rfl hl rfl (lv_room (Nat.le_of_ble_eq_true rfl)) dL_exchange_3 ⟨Nat.le_of_ble_eq_true rfl, Nat.le_of_ble_eq_true rfl⟩) G (fun k q ce H locs hr2 G h1 h2 h3 => ?_) (fun v9 ad' H locs hr2 hag G => ?_)
  · rcases hk9 with ⟨k8, e8, hk⟩ | e8
    · cases hr2.symm.trans e8
      obtain ⟨rfl, rfl⟩ := lk1 hk
      refine X_h1 (pc := 3) (k := 1) (x := ⟨0, 6, 7, 17⟩) X G hT (by decide) (by decide) clx_L_17 (by decide) h1 h2 h3 ?_
      refine lv_astore_n (pc := 7) (lv' := [(3, .ref q), (0, .ref (ad 50)), (1, .int p1), (2, .int p2)]) X.1 X.2.1 dL_exchange_7 rfl hl (by decide) rfl (fun ls hl => ?_)
      refine lv_bipush (pc := 8) (v := (-3)) X.1 X.2.1 dL_exchange_8 (by decide) ?_
      exact C_iret (pc := 10) X G hr hlk dL_exchange_10 rfl (Ag.rf _ _) rfl (Nat.le_of_ble_eq_true rfl) (Nat.le_of_ble_eq_true rfl)
    · cases hr2.symm.trans e8
  · rcases hk9 with ⟨k8, e8, hk⟩ | e8
    · cases hr2.symm.trans e8
    · cases hr2.symm.trans e8
      exact C_iret (pc := 6) X G hr hlk dL_exchange_6 rfl hag rfl (Nat.le_of_ble_eq_true rfl) (Nat.le_of_ble_eq_true rfl)
theorem cw_yL_trace : Cond.codeWith yL_trace cL_trace 4 (some .int) [(0, 6, 7, 15)] ∈ G0 := gq (List.mem_of_getElem? (i := 739) (by decide +kernel)) rfl
theorem g_L_59 : GoodIn G0 (wsV RL 59 RX7 yX7_trace (gw yX7_trace cX7_trace 3 (some (FieldType.int)))) := gv_in ml_L_59 im_yX7_trace se_yX7_trace ini_X7 cd_yX7_trace
theorem hdL_yX7_trace : yX7_trace.cls = RX7 ∧ yX7_trace.cls ≠ "java/lang/invoke/MethodHandle" ∧ yX7_trace.cls ≠ "java/lang/invoke/VarHandle" ∧ (parseMethodDescriptor yX7_trace.desc).map (fun d => d.parameters.length) = some 2 := by decide +kernel
abbrev rmL_trace : Room := { frames := 8, cells := 1, slots := 6, locals := 125 }
abbrev cs_trace : List (Nat × Int32) := [(2, -2)]
abbrev rmLn_trace : Room := { frames := 8, cells := 0, slots := 0, locals := 125 }
set_option maxHeartbeats 4000000 in
set_option maxRecDepth 100000 in
theorem wn_trace (l : Launch) (D : va_G) (κ : Nat → ClassId) (A : Nat → Prop) (ad : Nat → Nat) (r0 : Nat → Option va_E) (b : BS) (p1 : Int32) (p2 : Int32) (b' : BS) (v : Int32) (h : nx (F7_trace b p1 p2) = some (b', v)) : Met l yL_trace (gwh yL_trace cL_trace 4 (some .int) [(0, 6, 7, 15)]) rmLn_trace (va_Pc [.ref (ad 50), .int p1, .int p2] (MW D κ A ad (celB κ ad r0 b))) (QI D κ A ad (celB κ ad r0 b') v) 0 0 A := by
  refine met_ofH (own := RL) (by decide +kernel) rfl (Nat.le_of_ble_eq_true rfl) ?_
  intro p e s m below meth c ls X hr hlk hT G hl
  have hl : lv_has ls 4 [(0, .ref (ad 50)), (1, .int p1), (2, .int p2)] := hl
  refine lv_aload_n (pc := 0) X.1 X.2.1 dL_trace_0 rfl (lv_at hl 0 rfl) ?_
  refine lv_iload_n (pc := 1) X.1 X.2.1 dL_trace_1 rfl (lv_at hl 1 rfl) ?_
  refine lv_iload_n (pc := 2) X.1 X.2.1 dL_trace_2 rfl (lv_at hl 2 rfl) ?_
  refine B_calli (pc := 3) (v := v) (M' := (celB κ ad r0 b')) (i := 50) (As := [.int p1, .int p2]) (rest := []) X G (rm := rmn7_trace) rfl rfl rfl (n7_trace l D κ A ad r0 b p1 p2 (b', v) (nx_some h)) (B_rcv (ci := 7) (okL50 _) (by decide)) rfl g_L_59 hdL_yX7_trace ⟨Nat.le_of_ble_eq_true rfl, Nat.le_of_ble_eq_true rfl⟩ rfl hl rfl (lv_room (Nat.le_of_ble_eq_true rfl)) dL_trace_3 ⟨Nat.le_of_ble_eq_true rfl, Nat.le_of_ble_eq_true rfl⟩ (fun H locs G => ?_)
  exact m_iret (pc := 6) X G hr hlk dL_trace_6 rfl rfl
set_option maxHeartbeats 4000000 in
set_option maxRecDepth 100000 in
theorem wg_trace (l : Launch) (hfl : l.stackTraces = false) (D : va_G) (κ : Nat → ClassId) (A : Nat → Prop) (ad : Nat → Nat) (r0 : Nat → Option va_E) (b : BS) (p1 : Int32) (p2 : Int32) (b' : BS) (v : Int32) (h : gx cs_trace (F7_trace b p1 p2) = some (b', v)) : Met l yL_trace (gwh yL_trace cL_trace 4 (some .int) [(0, 6, 7, 15)]) rmL_trace (va_Pc [.ref (ad 50), .int p1, .int p2] (MW D κ A ad (celB κ ad r0 b))) (QIA D A (fun ad' => Ag b.2.2 ad ad') (fun ad' => celB κ ad' r0 b') v) 1 6 A := by
  obtain ⟨r9, e9, hk9⟩ := gx_some h
  refine met_ofH (own := RL) (by decide +kernel) rfl (Nat.le_of_ble_eq_true rfl) ?_
  intro p e s m below meth c ls X hr hlk hT G hl
  have hl : lv_has ls 4 [(0, .ref (ad 50)), (1, .int p1), (2, .int p2)] := hl
  refine lv_aload_n (pc := 0) X.1 X.2.1 dL_trace_0 rfl (lv_at hl 0 rfl) ?_
  refine lv_iload_n (pc := 1) X.1 X.2.1 dL_trace_1 rfl (lv_at hl 1 rfl) ?_
  refine lv_iload_n (pc := 2) X.1 X.2.1 dL_trace_2 rfl (lv_at hl 2 rfl) ?_
  refine X_cI (X_runV (pc := 3) (i := 50) (As := [.int p1, .int p2]) (rest := []) (M' := celB κ ad r0 b') (r := r9) X G (rm := rm7_trace) rfl rfl rfl (c7_trace l hfl D κ A ad r0 b p1 p2 (b', r9) e9) (B_rcv (ci := 7) (okL50 _) (by decide)) rfl g_L_59 hdL_yX7_trace ⟨Nat.le_of_ble_eq_true rfl, Nat.le_of_ble_eq_true rfl⟩ rfl hl rfl (lv_room (Nat.le_of_ble_eq_true rfl)) dL_trace_3 ⟨Nat.le_of_ble_eq_true rfl, Nat.le_of_ble_eq_true rfl⟩) G (fun k q ce H locs hr2 G h1 h2 h3 => ?_) (fun v9 ad' H locs hr2 hag G => ?_)
  · rcases hk9 with ⟨k8, e8, hk⟩ | e8
    · cases hr2.symm.trans e8
      obtain ⟨rfl, rfl⟩ := lk1 hk
      refine X_h1 (pc := 3) (k := 2) (x := ⟨0, 6, 7, 15⟩) X G hT (by decide) (by decide) clx_L_15 (by decide) h1 h2 h3 ?_
      refine lv_astore_n (pc := 7) (lv' := [(3, .ref q), (0, .ref (ad 50)), (1, .int p1), (2, .int p2)]) X.1 X.2.1 dL_trace_7 rfl hl (by decide) rfl (fun ls hl => ?_)
      refine lv_bipush (pc := 8) (v := (-2)) X.1 X.2.1 dL_trace_8 (by decide) ?_
      exact C_iret (pc := 10) X G hr hlk dL_trace_10 rfl (Ag.rf _ _) rfl (Nat.le_of_ble_eq_true rfl) (Nat.le_of_ble_eq_true rfl)
    · cases hr2.symm.trans e8
  · rcases hk9 with ⟨k8, e8, hk⟩ | e8
    · cases hr2.symm.trans e8
    · cases hr2.symm.trans e8
      subst hag
      exact C_iret (pc := 6) X G hr hlk dL_trace_6 rfl (Ag.rf _ _) rfl (Nat.le_of_ble_eq_true rfl) (Nat.le_of_ble_eq_true rfl)
theorem cw_yL_lengthOf : Cond.codeWith yL_lengthOf cL_lengthOf 4 (some .int) [(0, 6, 7, 17), (0, 6, 11, 15)] ∈ G0 := gq (List.mem_of_getElem? (i := 818) (by decide +kernel)) rfl
theorem g_L_62 : GoodIn G0 (wsV RL 62 RX7 yX7_lengthOf (gw yX7_lengthOf cX7_lengthOf 4 (some (FieldType.int)))) := gv_in ml_L_62 im_yX7_lengthOf se_yX7_lengthOf ini_X7 cd_yX7_lengthOf
theorem hdL_yX7_lengthOf : yX7_lengthOf.cls = RX7 ∧ yX7_lengthOf.cls ≠ "java/lang/invoke/MethodHandle" ∧ yX7_lengthOf.cls ≠ "java/lang/invoke/VarHandle" ∧ (parseMethodDescriptor yX7_lengthOf.desc).map (fun d => d.parameters.length) = some 2 := by decide +kernel
abbrev rmL_lengthOf : Room := { frames := 54, cells := 2, slots := 12, locals := 1738 }
abbrev cs_lengthOf : List (Nat × Int32) := [(1, -3), (2, -2)]
abbrev rmLn_lengthOf : Room := { frames := 54, cells := 0, slots := 0, locals := 1738 }
set_option maxHeartbeats 4000000 in
set_option maxRecDepth 100000 in
theorem wn_lengthOf (l : Launch) (D : va_G) (κ : Nat → ClassId) (A : Nat → Prop) (ad : Nat → Nat) (r0 : Nat → Option va_E) (b : BS) (p1 : Int32) (p2 : Int32) (b' : BS) (v : Int32) (h : nx (F7_lengthOf b p1 p2) = some (b', v)) : Met l yL_lengthOf (gwh yL_lengthOf cL_lengthOf 4 (some .int) [(0, 6, 7, 17), (0, 6, 11, 15)]) rmLn_lengthOf (va_Pc [.ref (ad 50), .int p1, .int p2] (MW D κ A ad (celB κ ad r0 b))) (QI D κ A ad (celB κ ad r0 b') v) 0 0 A := by
  refine met_ofH (own := RL) (by decide +kernel) rfl (Nat.le_of_ble_eq_true rfl) ?_
  intro p e s m below meth c ls X hr hlk hT G hl
  have hl : lv_has ls 4 [(0, .ref (ad 50)), (1, .int p1), (2, .int p2)] := hl
  refine lv_aload_n (pc := 0) X.1 X.2.1 dL_lengthOf_0 rfl (lv_at hl 0 rfl) ?_
  refine lv_iload_n (pc := 1) X.1 X.2.1 dL_lengthOf_1 rfl (lv_at hl 1 rfl) ?_
  refine lv_iload_n (pc := 2) X.1 X.2.1 dL_lengthOf_2 rfl (lv_at hl 2 rfl) ?_
  refine B_calli (pc := 3) (v := v) (M' := (celB κ ad r0 b')) (i := 50) (As := [.int p1, .int p2]) (rest := []) X G (rm := rmn7_lengthOf) rfl rfl rfl (n7_lengthOf l D κ A ad r0 b p1 p2 (b', v) (nx_some h)) (B_rcv (ci := 7) (okL50 _) (by decide)) rfl g_L_62 hdL_yX7_lengthOf ⟨Nat.le_of_ble_eq_true rfl, Nat.le_of_ble_eq_true rfl⟩ rfl hl rfl (lv_room (Nat.le_of_ble_eq_true rfl)) dL_lengthOf_3 ⟨Nat.le_of_ble_eq_true rfl, Nat.le_of_ble_eq_true rfl⟩ (fun H locs G => ?_)
  exact m_iret (pc := 6) X G hr hlk dL_lengthOf_6 rfl rfl
set_option maxHeartbeats 4000000 in
set_option maxRecDepth 100000 in
theorem wg_lengthOf (l : Launch) (hfl : l.stackTraces = false) (D : va_G) (κ : Nat → ClassId) (A : Nat → Prop) (ad : Nat → Nat) (r0 : Nat → Option va_E) (b : BS) (p1 : Int32) (p2 : Int32) (b' : BS) (v : Int32) (h : gx cs_lengthOf (F7_lengthOf b p1 p2) = some (b', v)) : Met l yL_lengthOf (gwh yL_lengthOf cL_lengthOf 4 (some .int) [(0, 6, 7, 17), (0, 6, 11, 15)]) rmL_lengthOf (va_Pc [.ref (ad 50), .int p1, .int p2] (MW D κ A ad (celB κ ad r0 b))) (QIA D A (fun ad' => Ag b.2.2 ad ad') (fun ad' => celB κ ad' r0 b') v) 2 12 A := by
  obtain ⟨r9, e9, hk9⟩ := gx_some h
  refine met_ofH (own := RL) (by decide +kernel) rfl (Nat.le_of_ble_eq_true rfl) ?_
  intro p e s m below meth c ls X hr hlk hT G hl
  have hl : lv_has ls 4 [(0, .ref (ad 50)), (1, .int p1), (2, .int p2)] := hl
  refine lv_aload_n (pc := 0) X.1 X.2.1 dL_lengthOf_0 rfl (lv_at hl 0 rfl) ?_
  refine lv_iload_n (pc := 1) X.1 X.2.1 dL_lengthOf_1 rfl (lv_at hl 1 rfl) ?_
  refine lv_iload_n (pc := 2) X.1 X.2.1 dL_lengthOf_2 rfl (lv_at hl 2 rfl) ?_
  refine X_cI (X_runV (pc := 3) (i := 50) (As := [.int p1, .int p2]) (rest := []) (M' := celB κ ad r0 b') (r := r9) X G (rm := rm7_lengthOf) rfl rfl rfl (c7_lengthOf l hfl D κ A ad r0 b p1 p2 (b', r9) e9) (B_rcv (ci := 7) (okL50 _) (by decide)) rfl g_L_62 hdL_yX7_lengthOf ⟨Nat.le_of_ble_eq_true rfl, Nat.le_of_ble_eq_true rfl⟩ rfl hl rfl (lv_room (Nat.le_of_ble_eq_true rfl)) dL_lengthOf_3 ⟨Nat.le_of_ble_eq_true rfl, Nat.le_of_ble_eq_true rfl⟩) G (fun k q ce H locs hr2 G h1 h2 h3 => ?_) (fun v9 ad' H locs hr2 hag G => ?_)
  · rcases hk9 with ⟨k8, e8, hk⟩ | e8
    · cases hr2.symm.trans e8
      rcases lk2 hk with ⟨rfl, rfl⟩ | ⟨rfl, rfl⟩
      · refine X_h1 (pc := 3) (k := 1) (x := ⟨0, 6, 7, 17⟩) X G hT (by decide) (by decide) clx_L_17 (by decide) h1 h2 h3 ?_
        refine lv_astore_n (pc := 7) (lv' := [(3, .ref q), (0, .ref (ad 50)), (1, .int p1), (2, .int p2)]) X.1 X.2.1 dL_lengthOf_7 rfl hl (by decide) rfl (fun ls hl => ?_)
        refine lv_bipush (pc := 8) (v := (-3)) X.1 X.2.1 dL_lengthOf_8 (by decide) ?_
        exact C_iret (pc := 10) X G hr hlk dL_lengthOf_10 rfl (Ag.rf _ _) rfl (Nat.le_of_ble_eq_true rfl) (Nat.le_of_ble_eq_true rfl)
      · refine X_h2 (pc := 3) (k := 2) (k0 := 1) (x0 := ⟨0, 6, 7, 17⟩) (x := ⟨0, 6, 11, 15⟩) X G hT (by decide) clx_L_17 (by decide) (by decide) (by decide) clx_L_15 (by decide) h1 h2 h3 ?_
        refine lv_astore_n (pc := 11) (lv' := [(3, .ref q), (0, .ref (ad 50)), (1, .int p1), (2, .int p2)]) X.1 X.2.1 dL_lengthOf_11 rfl hl (by decide) rfl (fun ls hl => ?_)
        refine lv_bipush (pc := 12) (v := (-2)) X.1 X.2.1 dL_lengthOf_12 (by decide) ?_
        exact C_iret (pc := 14) X G hr hlk dL_lengthOf_14 rfl (Ag.rf _ _) rfl (Nat.le_of_ble_eq_true rfl) (Nat.le_of_ble_eq_true rfl)
    · cases hr2.symm.trans e8
  · rcases hk9 with ⟨k8, e8, hk⟩ | e8
    · cases hr2.symm.trans e8
    · cases hr2.symm.trans e8
      subst hag
      exact C_iret (pc := 6) X G hr hlk dL_lengthOf_6 rfl (Ag.rf _ _) rfl (Nat.le_of_ble_eq_true rfl) (Nat.le_of_ble_eq_true rfl)
theorem cw_yL_load : Cond.codeWith yL_load cL_load 3 (some .int) [(0, 5, 6, 17), (0, 5, 10, 26)] ∈ G0 := gq (List.mem_of_getElem? (i := 847) (by decide +kernel)) rfl
theorem g_L_65 : GoodIn G0 (wsV RL 65 RX7 yX7_load (gw yX7_load cX7_load 5 (some (FieldType.int)))) := gv_in ml_L_65 im_yX7_load se_yX7_load ini_X7 cd_yX7_load
theorem hdL_yX7_load : yX7_load.cls = RX7 ∧ yX7_load.cls ≠ "java/lang/invoke/MethodHandle" ∧ yX7_load.cls ≠ "java/lang/invoke/VarHandle" ∧ (parseMethodDescriptor yX7_load.desc).map (fun d => d.parameters.length) = some 1 := by decide +kernel
abbrev rmL_load : Room := { frames := 8, cells := 2, slots := 12, locals := 128 }
abbrev cs_load : List (Nat × Int32) := [(1, -3), (3, -2)]
set_option maxHeartbeats 4000000 in
set_option maxRecDepth 100000 in
theorem wg_load (l : Launch) (hfl : l.stackTraces = false) (D : va_G) (κ : Nat → ClassId) (A : Nat → Prop) (ad : Nat → Nat) (r0 : Nat → Option va_E) (b : BS) (p1 : Int32) (b' : BS) (v : Int32) (h : gx cs_load (F7_load b p1) = some (b', v)) : Met l yL_load (gwh yL_load cL_load 3 (some .int) [(0, 5, 6, 17), (0, 5, 10, 26)]) rmL_load (va_Pc [.ref (ad 50), .int p1] (MW D κ A ad (celB κ ad r0 b))) (QIA D A (fun ad' => Ag b.2.2 ad ad') (fun ad' => celB κ ad' r0 b') v) 2 12 A := by
  obtain ⟨r9, e9, hk9⟩ := gx_some h
  refine met_ofH (own := RL) (by decide +kernel) rfl (Nat.le_of_ble_eq_true rfl) ?_
  intro p e s m below meth c ls X hr hlk hT G hl
  have hl : lv_has ls 3 [(0, .ref (ad 50)), (1, .int p1)] := hl
  refine lv_aload_n (pc := 0) X.1 X.2.1 dL_load_0 rfl (lv_at hl 0 rfl) ?_
  refine lv_iload_n (pc := 1) X.1 X.2.1 dL_load_1 rfl (lv_at hl 1 rfl) ?_
  refine X_cI (X_runV (pc := 2) (i := 50) (As := [.int p1]) (rest := []) (M' := celB κ ad r0 b') (r := r9) X G (rm := rm7_load) rfl rfl rfl (c7_load l hfl D κ A ad r0 b p1 (b', r9) e9) (B_rcv (ci := 7) (okL50 _) (by decide)) rfl g_L_65 hdL_yX7_load ⟨Nat.le_of_ble_eq_true rfl, Nat.le_of_ble_eq_true rfl⟩ rfl hl rfl (lv_room (Nat.le_of_ble_eq_true rfl)) dL_load_2 ⟨Nat.le_of_ble_eq_true rfl, Nat.le_of_ble_eq_true rfl⟩) G (fun k q ce H locs hr2 G h1 h2 h3 => ?_) (fun v9 ad' H locs hr2 hag G => ?_)
  · rcases hk9 with ⟨k8, e8, hk⟩ | e8
    · cases hr2.symm.trans e8
      rcases lk2 hk with ⟨rfl, rfl⟩ | ⟨rfl, rfl⟩
      · refine X_h1 (pc := 2) (k := 1) (x := ⟨0, 5, 6, 17⟩) X G hT (by decide) (by decide) clx_L_17 (by decide) h1 h2 h3 ?_
        refine lv_astore_n (pc := 6) (lv' := [(2, .ref q), (0, .ref (ad 50)), (1, .int p1)]) X.1 X.2.1 dL_load_6 rfl hl (by decide) rfl (fun ls hl => ?_)
        refine lv_bipush (pc := 7) (v := (-3)) X.1 X.2.1 dL_load_7 (by decide) ?_
        exact C_iret (pc := 9) X G hr hlk dL_load_9 rfl (Ag.rf _ _) rfl (Nat.le_of_ble_eq_true rfl) (Nat.le_of_ble_eq_true rfl)
      · refine X_h2 (pc := 2) (k := 3) (k0 := 1) (x0 := ⟨0, 5, 6, 17⟩) (x := ⟨0, 5, 10, 26⟩) X G hT (by decide) clx_L_17 (by decide) (by decide) (by decide) clx_L_26 (by decide) h1 h2 h3 ?_
        refine lv_astore_n (pc := 10) (lv' := [(2, .ref q), (0, .ref (ad 50)), (1, .int p1)]) X.1 X.2.1 dL_load_10 rfl hl (by decide) rfl (fun ls hl => ?_)
        refine lv_bipush (pc := 11) (v := (-2)) X.1 X.2.1 dL_load_11 (by decide) ?_
        exact C_iret (pc := 13) X G hr hlk dL_load_13 rfl (Ag.rf _ _) rfl (Nat.le_of_ble_eq_true rfl) (Nat.le_of_ble_eq_true rfl)
    · cases hr2.symm.trans e8
  · rcases hk9 with ⟨k8, e8, hk⟩ | e8
    · cases hr2.symm.trans e8
    · cases hr2.symm.trans e8
      subst hag
      exact C_iret (pc := 5) X G hr hlk dL_load_5 rfl (Ag.rf _ _) rfl (Nat.le_of_ble_eq_true rfl) (Nat.le_of_ble_eq_true rfl)
theorem cw_yL_undo : Cond.codeWith yL_undo cL_undo 2 (some .int) [(0, 4, 5, 26)] ∈ G0 := gq (List.mem_of_getElem? (i := 425) (by decide +kernel)) rfl
theorem g_L_68 : GoodIn G0 (wsV RL 68 RX7 yX7_undo (gw yX7_undo cX7_undo 1 (some (FieldType.int)))) := gv_in ml_L_68 im_yX7_undo se_yX7_undo ini_X7 cd_yX7_undo
theorem hdL_yX7_undo : yX7_undo.cls = RX7 ∧ yX7_undo.cls ≠ "java/lang/invoke/MethodHandle" ∧ yX7_undo.cls ≠ "java/lang/invoke/VarHandle" ∧ (parseMethodDescriptor yX7_undo.desc).map (fun d => d.parameters.length) = some 0 := by decide +kernel
abbrev rmL_undo : Room := { frames := 7, cells := 1, slots := 6, locals := 102 }
abbrev cs_undo : List (Nat × Int32) := [(3, -2)]
abbrev rmLn_undo : Room := { frames := 7, cells := 0, slots := 0, locals := 102 }
set_option maxHeartbeats 4000000 in
set_option maxRecDepth 100000 in
theorem wn_undo (l : Launch) (D : va_G) (κ : Nat → ClassId) (A : Nat → Prop) (ad : Nat → Nat) (r0 : Nat → Option va_E) (b : BS) (b' : BS) (v : Int32) (h : nx (F7_undo b) = some (b', v)) : Met l yL_undo (gwh yL_undo cL_undo 2 (some .int) [(0, 4, 5, 26)]) rmLn_undo (va_Pc [.ref (ad 50)] (MW D κ A ad (celB κ ad r0 b))) (QI D κ A ad (celB κ ad r0 b') v) 0 0 A := by
  refine met_ofH (own := RL) (by decide +kernel) rfl (Nat.le_of_ble_eq_true rfl) ?_
  intro p e s m below meth c ls X hr hlk hT G hl
  have hl : lv_has ls 2 [(0, .ref (ad 50))] := hl
  refine lv_aload_n (pc := 0) X.1 X.2.1 dL_undo_0 rfl (lv_at hl 0 rfl) ?_
  refine B_calli (pc := 1) (v := v) (M' := (celB κ ad r0 b')) (i := 50) (As := []) (rest := []) X G (rm := rmn7_undo) rfl rfl rfl (n7_undo l D κ A ad r0 b (b', v) (nx_some h)) (B_rcv (ci := 7) (okL50 _) (by decide)) rfl g_L_68 hdL_yX7_undo ⟨Nat.le_of_ble_eq_true rfl, Nat.le_of_ble_eq_true rfl⟩ rfl hl rfl (lv_room (Nat.le_of_ble_eq_true rfl)) dL_undo_1 ⟨Nat.le_of_ble_eq_true rfl, Nat.le_of_ble_eq_true rfl⟩ (fun H locs G => ?_)
  exact m_iret (pc := 4) X G hr hlk dL_undo_4 rfl rfl
set_option maxHeartbeats 4000000 in
set_option maxRecDepth 100000 in
theorem wg_undo (l : Launch) (hfl : l.stackTraces = false) (D : va_G) (κ : Nat → ClassId) (A : Nat → Prop) (ad : Nat → Nat) (r0 : Nat → Option va_E) (b : BS) (b' : BS) (v : Int32) (h : gx cs_undo (F7_undo b) = some (b', v)) : Met l yL_undo (gwh yL_undo cL_undo 2 (some .int) [(0, 4, 5, 26)]) rmL_undo (va_Pc [.ref (ad 50)] (MW D κ A ad (celB κ ad r0 b))) (QIA D A (fun ad' => Ag b.2.2 ad ad') (fun ad' => celB κ ad' r0 b') v) 1 6 A := by
  obtain ⟨r9, e9, hk9⟩ := gx_some h
  refine met_ofH (own := RL) (by decide +kernel) rfl (Nat.le_of_ble_eq_true rfl) ?_
  intro p e s m below meth c ls X hr hlk hT G hl
  have hl : lv_has ls 2 [(0, .ref (ad 50))] := hl
  refine lv_aload_n (pc := 0) X.1 X.2.1 dL_undo_0 rfl (lv_at hl 0 rfl) ?_
  refine X_cI (X_runV (pc := 1) (i := 50) (As := []) (rest := []) (M' := celB κ ad r0 b') (r := r9) X G (rm := rm7_undo) rfl rfl rfl (c7_undo l hfl D κ A ad r0 b (b', r9) e9) (B_rcv (ci := 7) (okL50 _) (by decide)) rfl g_L_68 hdL_yX7_undo ⟨Nat.le_of_ble_eq_true rfl, Nat.le_of_ble_eq_true rfl⟩ rfl hl rfl (lv_room (Nat.le_of_ble_eq_true rfl)) dL_undo_1 ⟨Nat.le_of_ble_eq_true rfl, Nat.le_of_ble_eq_true rfl⟩) G (fun k q ce H locs hr2 G h1 h2 h3 => ?_) (fun v9 ad' H locs hr2 hag G => ?_)
  · rcases hk9 with ⟨k8, e8, hk⟩ | e8
    · cases hr2.symm.trans e8
      obtain ⟨rfl, rfl⟩ := lk1 hk
      refine X_h1 (pc := 1) (k := 3) (x := ⟨0, 4, 5, 26⟩) X G hT (by decide) (by decide) clx_L_26 (by decide) h1 h2 h3 ?_
      refine lv_astore_n (pc := 5) (lv' := [(1, .ref q), (0, .ref (ad 50))]) X.1 X.2.1 dL_undo_5 rfl hl (by decide) rfl (fun ls hl => ?_)
      refine lv_bipush (pc := 6) (v := (-2)) X.1 X.2.1 dL_undo_6 (by decide) ?_
      exact C_iret (pc := 8) X G hr hlk dL_undo_8 rfl (Ag.rf _ _) rfl (Nat.le_of_ble_eq_true rfl) (Nat.le_of_ble_eq_true rfl)
    · cases hr2.symm.trans e8
  · rcases hk9 with ⟨k8, e8, hk⟩ | e8
    · cases hr2.symm.trans e8
    · cases hr2.symm.trans e8
      subst hag
      exact C_iret (pc := 4) X G hr hlk dL_undo_4 rfl (Ag.rf _ _) rfl (Nat.le_of_ble_eq_true rfl) (Nat.le_of_ble_eq_true rfl)
theorem cw_yL_keep : Cond.codeWith yL_keep cL_keep 3 (some .int) [(0, 5, 6, 15)] ∈ G0 := gq (List.mem_of_getElem? (i := 544) (by decide +kernel)) rfl
theorem g_L_71 : GoodIn G0 (wsV RL 71 RX7 yX7_keep (gw yX7_keep cX7_keep 2 (some (FieldType.int)))) := gv_in ml_L_71 im_yX7_keep se_yX7_keep ini_X7 cd_yX7_keep
theorem hdL_yX7_keep : yX7_keep.cls = RX7 ∧ yX7_keep.cls ≠ "java/lang/invoke/MethodHandle" ∧ yX7_keep.cls ≠ "java/lang/invoke/VarHandle" ∧ (parseMethodDescriptor yX7_keep.desc).map (fun d => d.parameters.length) = some 1 := by decide +kernel
abbrev rmL_keep : Room := { frames := 8, cells := 6, slots := 41, locals := 163 }
abbrev cs_keep : List (Nat × Int32) := [(2, -2)]
set_option maxHeartbeats 4000000 in
set_option maxRecDepth 100000 in
theorem wg_keep (l : Launch) (hfl : l.stackTraces = false) (D : va_G) (κ : Nat → ClassId) (A : Nat → Prop) (ad : Nat → Nat) (r0 : Nat → Option va_E) (b : BS) (p1 : Int32) (b' : BS) (v : Int32) (h : gx cs_keep (F7_keep b p1) = some (b', v)) : Met l yL_keep (gwh yL_keep cL_keep 3 (some .int) [(0, 5, 6, 15)]) rmL_keep (va_Pc [.ref (ad 50), .int p1] (MW D κ A ad (celB κ ad r0 b))) (QIA D A (fun ad' => Ag b.2.2 ad ad') (fun ad' => celB κ ad' r0 b') v) 6 41 A := by
  obtain ⟨r9, e9, hk9⟩ := gx_some h
  refine met_ofH (own := RL) (by decide +kernel) rfl (Nat.le_of_ble_eq_true rfl) ?_
  intro p e s m below meth c ls X hr hlk hT G hl
  have hl : lv_has ls 3 [(0, .ref (ad 50)), (1, .int p1)] := hl
  refine lv_aload_n (pc := 0) X.1 X.2.1 dL_keep_0 rfl (lv_at hl 0 rfl) ?_
  refine lv_iload_n (pc := 1) X.1 X.2.1 dL_keep_1 rfl (lv_at hl 1 rfl) ?_
  refine X_cIA (X_runV (pc := 2) (i := 50) (As := [.int p1]) (rest := []) (M' := celB κ ad r0 b') (r := r9) X G (rm := rm7_keep) rfl rfl rfl (c7_keep l hfl D κ A ad r0 b p1 (b', r9) e9) (B_rcv (ci := 7) (okL50 _) (by decide)) rfl g_L_71 hdL_yX7_keep ⟨Nat.le_of_ble_eq_true rfl, Nat.le_of_ble_eq_true rfl⟩ rfl hl rfl (lv_room (Nat.le_of_ble_eq_true rfl)) dL_keep_2 ⟨Nat.le_of_ble_eq_true rfl, Nat.le_of_ble_eq_true rfl⟩) G (fun k q ce H locs hr2 G h1 h2 h3 => ?_) (fun v9 ad' H locs hr2 hag G => ?_)
  · rcases hk9 with ⟨k8, e8, hk⟩ | e8
    · cases hr2.symm.trans e8
      obtain ⟨rfl, rfl⟩ := lk1 hk
      refine X_h1 (pc := 2) (k := 2) (x := ⟨0, 5, 6, 15⟩) X G hT (by decide) (by decide) clx_L_15 (by decide) h1 h2 h3 ?_
      refine lv_astore_n (pc := 6) (lv' := [(2, .ref q), (0, .ref (ad 50)), (1, .int p1)]) X.1 X.2.1 dL_keep_6 rfl hl (by decide) rfl (fun ls hl => ?_)
      refine lv_bipush (pc := 7) (v := (-2)) X.1 X.2.1 dL_keep_7 (by decide) ?_
      exact C_iret (pc := 9) X G hr hlk dL_keep_9 rfl (Ag.rf _ _) rfl (Nat.le_of_ble_eq_true rfl) (Nat.le_of_ble_eq_true rfl)
    · cases hr2.symm.trans e8
  · rcases hk9 with ⟨k8, e8, hk⟩ | e8
    · cases hr2.symm.trans e8
    · cases hr2.symm.trans e8
      exact C_iret (pc := 5) X G hr hlk dL_keep_5 rfl hag rfl (Nat.le_of_ble_eq_true rfl) (Nat.le_of_ble_eq_true rfl)
theorem cw_yL_goBack : Cond.codeWith yL_goBack cL_goBack 3 (some .int) [(0, 5, 6, 15), (0, 5, 10, 26)] ∈ G0 := gq (List.mem_of_getElem? (i := 457) (by decide +kernel)) rfl
theorem g_L_74 : GoodIn G0 (wsV RL 74 RX7 yX7_goBack (gw yX7_goBack cX7_goBack 3 (some (FieldType.int)))) := gv_in ml_L_74 im_yX7_goBack se_yX7_goBack ini_X7 cd_yX7_goBack
theorem hdL_yX7_goBack : yX7_goBack.cls = RX7 ∧ yX7_goBack.cls ≠ "java/lang/invoke/MethodHandle" ∧ yX7_goBack.cls ≠ "java/lang/invoke/VarHandle" ∧ (parseMethodDescriptor yX7_goBack.desc).map (fun d => d.parameters.length) = some 1 := by decide +kernel
abbrev rmL_goBack : Room := { frames := 8, cells := 6, slots := 41, locals := 163 }
abbrev cs_goBack : List (Nat × Int32) := [(2, -2), (3, -3)]
set_option maxHeartbeats 4000000 in
set_option maxRecDepth 100000 in
theorem wg_goBack (l : Launch) (hfl : l.stackTraces = false) (D : va_G) (κ : Nat → ClassId) (A : Nat → Prop) (ad : Nat → Nat) (r0 : Nat → Option va_E) (b : BS) (p1 : Int32) (b' : BS) (v : Int32) (h : gx cs_goBack (F7_goBack b p1) = some (b', v)) : Met l yL_goBack (gwh yL_goBack cL_goBack 3 (some .int) [(0, 5, 6, 15), (0, 5, 10, 26)]) rmL_goBack (va_Pc [.ref (ad 50), .int p1] (MW D κ A ad (celB κ ad r0 b))) (QIA D A (fun ad' => Ag b.2.2 ad ad') (fun ad' => celB κ ad' r0 b') v) 6 41 A := by
  obtain ⟨r9, e9, hk9⟩ := gx_some h
  refine met_ofH (own := RL) (by decide +kernel) rfl (Nat.le_of_ble_eq_true rfl) ?_
  intro p e s m below meth c ls X hr hlk hT G hl
  have hl : lv_has ls 3 [(0, .ref (ad 50)), (1, .int p1)] := hl
  refine lv_aload_n (pc := 0) X.1 X.2.1 dL_goBack_0 rfl (lv_at hl 0 rfl) ?_
  refine lv_iload_n (pc := 1) X.1 X.2.1 dL_goBack_1 rfl (lv_at hl 1 rfl) ?_
  refine X_cIA (X_runV (pc := 2) (i := 50) (As := [.int p1]) (rest := []) (M' := celB κ ad r0 b') (r := r9) X G (rm := rm7_goBack) rfl rfl rfl (c7_goBack l hfl D κ A ad r0 b p1 (b', r9) e9) (B_rcv (ci := 7) (okL50 _) (by decide)) rfl g_L_74 hdL_yX7_goBack ⟨Nat.le_of_ble_eq_true rfl, Nat.le_of_ble_eq_true rfl⟩ rfl hl rfl (lv_room (Nat.le_of_ble_eq_true rfl)) dL_goBack_2 ⟨Nat.le_of_ble_eq_true rfl, Nat.le_of_ble_eq_true rfl⟩) G (fun k q ce H locs hr2 G h1 h2 h3 => ?_) (fun v9 ad' H locs hr2 hag G => ?_)
  · rcases hk9 with ⟨k8, e8, hk⟩ | e8
    · cases hr2.symm.trans e8
      rcases lk2 hk with ⟨rfl, rfl⟩ | ⟨rfl, rfl⟩
      · refine X_h1 (pc := 2) (k := 2) (x := ⟨0, 5, 6, 15⟩) X G hT (by decide) (by decide) clx_L_15 (by decide) h1 h2 h3 ?_
        refine lv_astore_n (pc := 6) (lv' := [(2, .ref q), (0, .ref (ad 50)), (1, .int p1)]) X.1 X.2.1 dL_goBack_6 rfl hl (by decide) rfl (fun ls hl => ?_)
        refine lv_bipush (pc := 7) (v := (-2)) X.1 X.2.1 dL_goBack_7 (by decide) ?_
        exact C_iret (pc := 9) X G hr hlk dL_goBack_9 rfl (Ag.rf _ _) rfl (Nat.le_of_ble_eq_true rfl) (Nat.le_of_ble_eq_true rfl)
      · refine X_h2 (pc := 2) (k := 3) (k0 := 2) (x0 := ⟨0, 5, 6, 15⟩) (x := ⟨0, 5, 10, 26⟩) X G hT (by decide) clx_L_15 (by decide) (by decide) (by decide) clx_L_26 (by decide) h1 h2 h3 ?_
        refine lv_astore_n (pc := 10) (lv' := [(2, .ref q), (0, .ref (ad 50)), (1, .int p1)]) X.1 X.2.1 dL_goBack_10 rfl hl (by decide) rfl (fun ls hl => ?_)
        refine lv_bipush (pc := 11) (v := (-3)) X.1 X.2.1 dL_goBack_11 (by decide) ?_
        exact C_iret (pc := 13) X G hr hlk dL_goBack_13 rfl (Ag.rf _ _) rfl (Nat.le_of_ble_eq_true rfl) (Nat.le_of_ble_eq_true rfl)
    · cases hr2.symm.trans e8
  · rcases hk9 with ⟨k8, e8, hk⟩ | e8
    · cases hr2.symm.trans e8
    · cases hr2.symm.trans e8
      exact C_iret (pc := 5) X G hr hlk dL_goBack_5 rfl hag rfl (Nat.le_of_ble_eq_true rfl) (Nat.le_of_ble_eq_true rfl)
