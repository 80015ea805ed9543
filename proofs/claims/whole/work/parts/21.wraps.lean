/-! THE LAW'S WRAPPERS: static methods with a table of handlers -/
def gwh (y : MethodName) (b : ByteArray) (n : Nat) (r : Option FieldType) (hh : List (Nat × Nat × Nat × Nat)) : List Cond := .codeWith y b n r hh :: G0
theorem gwh_in {own : String} {ix : Nat} {y : MethodName} {b : ByteArray} {n : Nat} {r : Option FieldType} {hh : List (Nat × Nat × Nat × Nat)} (h1 : Cond.methodLink own ix y ∈ G0) (h2 : Cond.static y ∈ G0) (h4 : Cond.initialized y.cls ∈ G0) (h5 : Cond.codeWith y b n r hh ∈ G0) : GoodIn G0 (va_wsS own ix y (gwh y b n r hh)) := fun w hw => by
  have hg : ∀ q ∈ gwh y b n r hh, q ∈ G0 := fun q h => (List.mem_cons.mp h).elim (fun e => by rw [e]; exact h5) id
  refine g0_in ?_
  unfold va_wsS at hw
  simp only [List.mem_append, List.mem_cons, List.not_mem_nil, or_false] at hw
  rcases hw with (rfl | rfl | rfl) | hw
  · exact h1
  · exact h2
  · exact h4
  · exact hg _ hw
def outC (κ : Nat → ClassId) (x : Int64) : va_E := .inl (κ 4, 1, .inr (.inl (fun _ => x)))
def celO (κ : Nat → ClassId) (r1 : Nat → Option va_E) (x : Int64) : Nat → Option va_E := fun i => if i = 44 then some (outC κ x) else r1 i
def outv (x : Int64) : Nat ⊕ Int32 → Int64
  | .inr v => v.toInt64
  | .inl _ => x
def codeOf (c0 : Nat) : Nat ⊕ Int32 → Int32
  | .inr _ => 0
  | .inl k => if k = c0 then 1 else 2
abbrev QIA (D : va_G) (A : Nat → Prop) (ok : (Nat → Nat) → Prop) (M' : (Nat → Nat) → Nat → Option va_E) (v : Int32) : Array Value → State → Outcome → State → Prop := va_Qi (fun (x : Int32) (ad' : Nat → Nat) => x = v ∧ ok ad') (fun ad' t => MC D A ad' (M' ad') t.heap) A
theorem met_ofH {l : Launch} {y : MethodName} {own : String} {b : ByteArray} {nL : Nat} {ret : Option FieldType} {hh : List (Nat × Nat × Nat × Nat)} {rm : Room} {As : List Value} {D : va_G} {κ : Nat → ClassId} {A : Nat → Prop} {ad : Nat → Nat} {M : Nat → Option va_E} {Qc : Array Value → State → Outcome → State → Prop} {mc ms : Nat} (hy : plainName y.cls = true) (ho : y.cls = own) (hn : (lg_sl As).length ≤ nL)
    (body : ∀ (p : Program) (e : Env) (s : State) (m : MethodId) (below : List Frame) (meth : Method) (c : Code) (ls : Array Slot), CallFix p m c b nL s As.toArray G0 own → meth.sig.returnType = ret → meth.locks = false → c.exceptionTable.toList = tableOf hh → Mm D κ A ad M s s.heap [] → lv_has ls nL (lv_args 0 As) → W p l e rm s m As.toArray below meth c s.heap [] 0 0 (MQ below Qc As.toArray s mc ms A) (F0 m 0 ls [])) : Met l y (gwh y b nL ret hh) rm (va_Pc As (MW D κ A ad M)) Qc mc ms A := by
  refine MetFree.of_bodyS (code := b) (maxLocals := nL) (ret := ret) hy ?_ ?_
  · intro args s m h hn
    obtain ⟨m9, meth, c, hn9, h1, h2, h3, h4, -, h5, h6, -⟩ := Cond.codeWith_spec (atoms_spec (ws := gwh y b nL ret hh) h _ List.mem_cons_self)
    cases hn.symm.trans hn9
    exact ⟨meth, c, h1, h2, h3, h4, h5, h6⟩
  · intro p e s m args below meth c s₁ B hml hv _
    obtain ⟨rfl, hG⟩ := hv
    have hh0 : s₁.heap = s.heap := by rw [B.state]; rfl
    have hts := atoms_spec (ws := gwh y b nL ret hh) B.pre
    have hT := vx_table (x := y) B (hts _ List.mem_cons_self)
    have hown : s.vm.findClass own = some m.cls := by rw [← ho]; exact findClass_of_methodNamed B.named
    have hl := lv_entry As (n := nL) hn
    have key := body p e s m below meth c _ ⟨B.exec, B.bytes, hml, hown, fun w hw => hts w (List.mem_cons_of_mem _ hw)⟩ B.returns B.notSynchronized hT hG hl
    rw [← lg_entry_eq] at key
    obtain ⟨t, a1, o, b1, b2, b3⟩ := key s₁ hh0 (Stand.of_body B)
    exact ⟨t, o, a1, b1, b2, ⟨b3.1, b3.2⟩⟩
section LW
variable {p : Program} {l : Launch} {e : Env} {R : Room} {s : State} {m : MethodId} {args : Array Value} {below : List Frame} {meth : Method} {c : Code} {H : Heap} {locs : List Loc} {cells slots : Nat} {Q : State → Prop}
variable {cc : ByteArray} {pc nL : Nat} {ls : Array Slot} {rest : List Value} {D : va_G} {κ : Nat → ClassId} {A : Nat → Prop} {ad : Nat → Nat} {own : String} {lv : List (Nat × Value)} {M M' : Nat → Option va_E} {mc ms : Nat}
/-- it returned, or it threw and this method may catch it -/
theorem X_cI {st : List Value} {a : Array Value} {r : Nat ⊕ Int32} (hx : XRun p l e R s m args below meth c H locs cells slots mc ms pc ls st rest (QIX D A ad M' r a) D A ad M' r) (G : Mm D κ A ad M s H locs)
    (kx : ∀ (k q : Nat) (ce : Cell) (H1 : Heap) (locs1 : List Loc), r = .inl k → Mm D κ A ad M' s H1 locs1 → H1[q]? = some ce → ce.vm = .none → s.vm.findClass (exn k) = some ce.cls → vx_W p l e R s m args below meth c H1 locs1 (cells + mc) (slots + ms) Q (F0 m pc ls rest) q)
    (kk : ∀ (v : Int32) (ad' : Nat → Nat) (H1 : Heap) (locs1 : List Loc), r = .inr v → ad' = ad → Mm D κ A ad' M' s H1 locs1 → W p l e R s m args below meth c H1 locs1 (cells + mc) (slots + ms) Q (F0 m (pc + 3) ls (.int v :: rest))) : W p l e R s m args below meth c H locs cells slots Q (F0 m pc ls st) := by
  refine vx_calli hx G.2.2.2.2.1 (fun q _ h => h) (fun q h => h) (fun q _ h => h) (fun E ce q9 u t H1 locs1 ht hvm hp hB hz hk hS hc1 hc2 hc3 => ?_) (fun r1 u t H1 locs1 ht hvm hw hB hz hk hS => ?_)
  · obtain ⟨⟨k, hk', rfl⟩, hB⟩ := hB
    exact kx k q9 ce H1 locs1 hk' (G.nextC (by rw [← ht]; exact hB) hS) hc1 hc2 hc3
  · exact kk r1 ad H1 locs1 hw rfl (G.nextC (by rw [← ht]; exact hB) hS)
theorem X_cIA {st : List Value} {a : Array Value} {r : Nat ⊕ Int32} {ok : (Nat → Nat) → Prop} {M2 : (Nat → Nat) → Nat → Option va_E} (hx : XRun p l e R s m args below meth c H locs cells slots mc ms pc ls st rest (QIXA D A ok M2 r a) D A ad M' r) (G : Mm D κ A ad M s H locs)
    (kx : ∀ (k q : Nat) (ce : Cell) (H1 : Heap) (locs1 : List Loc), r = .inl k → Mm D κ A ad M' s H1 locs1 → H1[q]? = some ce → ce.vm = .none → s.vm.findClass (exn k) = some ce.cls → vx_W p l e R s m args below meth c H1 locs1 (cells + mc) (slots + ms) Q (F0 m pc ls rest) q)
    (kk : ∀ (v : Int32) (ad' : Nat → Nat) (H1 : Heap) (locs1 : List Loc), r = .inr v → ok ad' → Mm D κ A ad' (M2 ad') s H1 locs1 → W p l e R s m args below meth c H1 locs1 (cells + mc) (slots + ms) Q (F0 m (pc + 3) ls (.int v :: rest))) : W p l e R s m args below meth c H locs cells slots Q (F0 m pc ls st) := by
  refine vx_calli hx G.2.2.2.2.1 (fun q _ h => h) (fun q h => h) (fun q _ h => h) (fun E ce q9 u t H1 locs1 ht hvm hp hB hz hk hS hc1 hc2 hc3 => ?_) (fun r1 u t H1 locs1 ht hvm hw hB hz hk hS => ?_)
  · obtain ⟨⟨k, hk', rfl⟩, hB⟩ := hB
    exact kx k q9 ce H1 locs1 hk' (G.nextC (by rw [← ht]; exact hB) hS) hc1 hc2 hc3
  · exact kk r1 u H1 locs1 hw.1 hw.2 (G.nextC (by rw [← ht]; exact hB) hS)
theorem X_h1 (X : CallFix p m c cc nL s args G0 RL) (G : Mm D κ A ad M s H locs) {k q : Nat} {ce : Cell} {x : ExceptionTableEntry} {suf : List ExceptionTableEntry} (hs : c.exceptionTable.toList = x :: suf) (hx : covers x pc = true) (h0 : x.catchType ≠ 0) (hl : Cond.classLink RL x.catchType (exn k) ∈ G0) (hc : (exn k, exn k) ∈ thC) (h1 : H[q]? = some ce) (h2 : ce.vm = .none) (h3 : s.vm.findClass (exn k) = some ce.cls)
    (kk : W p l e R s m args below meth c H locs cells slots Q (F0 m x.handlerPc ls [.ref q])) : vx_W p l e R s m args below meth c H locs cells slots Q (F0 m pc ls rest) q :=
  vx_catch X.2.2.2.1 [] x suf hs (fun z h => by cases h) hx h0 (X.2.2.2.2 _ hl) (va_Nw.use rfl (G.2.2.2.2.2.2.2.2.2.1 _ hc)) h1 h2 h3 kk
theorem X_h2 (X : CallFix p m c cc nL s args G0 RL) (G : Mm D κ A ad M s H locs) {k k0 q : Nat} {ce : Cell} {x0 x : ExceptionTableEntry} {suf : List ExceptionTableEntry} (hs : c.exceptionTable.toList = x0 :: x :: suf) (hx0 : x0.catchType ≠ 0) (hl0 : Cond.classLink RL x0.catchType (exn k0) ∈ G0) (hn : (exn k, exn k0) ∈ thN) (hx : covers x pc = true) (h0 : x.catchType ≠ 0) (hl : Cond.classLink RL x.catchType (exn k) ∈ G0) (hc : (exn k, exn k) ∈ thC) (h1 : H[q]? = some ce) (h2 : ce.vm = .none) (h3 : s.vm.findClass (exn k) = some ce.cls)
    (kk : W p l e R s m args below meth c H locs cells slots Q (F0 m x.handlerPc ls [.ref q])) : vx_W p l e R s m args below meth c H locs cells slots Q (F0 m pc ls rest) q :=
  vx_catch X.2.2.2.1 [x0] x suf hs (fun z h => by rw [List.mem_singleton.mp h]; exact Or.inr ⟨hx0, exn k0, X.2.2.2.2 _ hl0, G.2.2.2.2.2.2.2.2.2.2.2.1 _ hn⟩) hx h0 (X.2.2.2.2 _ hl) (va_Nw.use rfl (G.2.2.2.2.2.2.2.2.2.1 _ hc)) h1 h2 h3 kk
theorem m_lastO (X : CallFix p m c cc nL s args G0 own) (G : Mm D κ A ad M s H locs) {i a : Nat} {x0 v : Int64} {M' : Nat → Option va_E} (ha : a = ad i) (hM : M i = some (outC κ x0)) (hM' : M' i = some (outC κ v)) (hj : ∀ j, j ≠ i → M' j = M j) (hdg : decode cc pc = .ok (.lastore, 1))
    (kk : ∀ (H1 : Heap) (locs1 : List Loc), Mm D κ A ad M' s H1 locs1 → W p l e R s m args below meth c H1 locs1 cells slots Q (F0 m (pc + 1) ls rest)) : W p l e R s m args below meth c H locs cells slots Q (F0 m pc ls (.long v :: .int 0 :: .ref a :: rest)) := by
  subst ha
  refine W.last X.1 X.2.1 (G.2.1 i _ hM).1 ((G.1.2 4 (κ 4, .long) rfl).1 1 (fun j => .long x0)) (fun q => by cases q) (by show ¬ ((0 : Int32) < 0 ∨ (arrV _ _ _).slots.size ≤ _); rw [arrV_size]; show ¬ ((0 : Int32) < 0 ∨ 1 ≤ (0 : Int32).toNatClampNeg); decide) rfl rfl hdg fun H1 e z oq => ?_
  refine kk H1 _ (G.put hM hM' hj ?_ z oq)
  show H1[ad i]? = some (vp_cell _ _)
  rw [e]
  rw [vp_cell_l, vp_cell_l, arrV_store]
  refine congrArg some ?_
  unfold arrV
  congr 1
theorem C_iret (X : CallFix p m c cc nL s args G0 own) (G : Mm D κ A ad M s H locs) {ok : (Nat → Nat) → Prop} {M' : (Nat → Nat) → Nat → Option va_E} {x v : Int32} {k n : Nat} (hr : meth.sig.returnType = some .int) (hl : meth.locks = false) (hdg : decode cc pc = .ok (.ireturn, 1)) (hx : x = v) (hok : ok ad) (hM : M = M' ad) (h1 : cells ≤ k) (h2 : slots ≤ n) : W p l e R s m args below meth c H locs cells slots (MQ below (QIA D A ok M' v) args s k n A) (F0 m pc ls [.int x]) :=
  W.widen h1 h2 (W.iret X.1 X.2.1 hr (fun t ht hW => ⟨⟨x, ad, rfl, ⟨hx, hok⟩, by show MC D A ad (M' ad) t.heap; rw [ht, ← hM]; exact G.mc⟩, G.2.2.2.2.1.F ht⟩) G.2.2.2.2.1.2.2 hdg hl)
end LW
theorem celB_O2 {κ : Nat → ClassId} {ad : Nat → Nat} {r1 : Nat → Option va_E} {x : Int64} {b : BS} : celB κ ad (celO κ r1 x) b 44 = some (outC κ x) := rfl
theorem celB_O3 {κ : Nat → ClassId} {ad : Nat → Nat} {r1 : Nat → Option va_E} {x y : Int64} {b : BS} (j : Nat) (h : j ≠ 44) : celB κ ad (celO κ r1 y) b j = celB κ ad (celO κ r1 x) b j := by
  unfold celB celO
  simp only [h, if_false]
theorem clx_L_13 : Cond.classLink RL 13 (exn 1) ∈ G0 := gq (List.mem_of_getElem? (i := 403) (by decide +kernel)) rfl
theorem clx_L_15 : Cond.classLink RL 15 (exn 2) ∈ G0 := gq (List.mem_of_getElem? (i := 404) (by decide +kernel)) rfl
theorem clx_L_20 : Cond.classLink RL 20 (exn 3) ∈ G0 := gq (List.mem_of_getElem? (i := 584) (by decide +kernel)) rfl
theorem cw_yL_define : Cond.codeWith yL_define cL_define 4 (some .int) [(0, 9, 12, 13), (0, 9, 15, 15)] ∈ G0 := gq (List.mem_of_getElem? (i := 402) (by decide +kernel)) rfl
theorem g_L_7 : GoodIn G0 (wsV RL 7 RX7 yX7_define (gw yX7_define cX7_define 3 (some (FieldType.int)))) := gv_in ml_L_7 im_yX7_define se_yX7_define ini_X7 cd_yX7_define
theorem hdL_yX7_define : yX7_define.cls = RX7 ∧ yX7_define.cls ≠ "java/lang/invoke/MethodHandle" ∧ yX7_define.cls ≠ "java/lang/invoke/VarHandle" ∧ (parseMethodDescriptor yX7_define.desc).map (fun d => d.parameters.length) = some 1 := by decide +kernel
abbrev rmL_define : Room := { frames := 8, cells := 9, slots := 114, locals := 163 }
set_option maxHeartbeats 4000000 in
set_option maxRecDepth 100000 in
theorem wdefine (l : Launch) (hfl : l.stackTraces = false) (D : va_G) (κ : Nat → ClassId) (A : Nat → Prop) (ad : Nat → Nat) (r1 : Nat → Option va_E) (x : Int64) (b : BS) (p1 : Int32) (res : BS × (Nat ⊕ Int32)) (h : F7_define b p1 = some res) (hk : ∀ k, res.2 = .inl k → k = 1 ∨ k = 2) : Met l yL_define (gwh yL_define cL_define 4 (some .int) [(0, 9, 12, 13), (0, 9, 15, 15)]) rmL_define (va_Pc [.ref (ad 50), .int p1, .ref (ad 44)] (MW D κ A ad (celB κ ad (celO κ r1 x) b))) (QIA D A (fun ad' => Ag b.2.2 ad ad') (fun ad' => celB κ ad' (celO κ r1 (outv x res.2)) res.1) (codeOf 1 res.2)) 9 114 A := by
  refine met_ofH (own := RL) (by decide +kernel) rfl (Nat.le_of_ble_eq_true rfl) ?_
  intro p e s m below meth c ls X hr hlk hT G hl
  have hl : lv_has ls 4 [(0, .ref (ad 50)), (1, .int p1), (2, .ref (ad 44))] := hl
  refine lv_aload_n (pc := 0) X.1 X.2.1 dL_define_0 rfl (lv_at hl 2 rfl) ?_
  refine lv_iconst (pc := 1) (v := 0) X.1 X.2.1 dL_define_1 (by decide) ?_
  refine lv_aload_n (pc := 2) X.1 X.2.1 dL_define_2 rfl (lv_at hl 0 rfl) ?_
  refine lv_iload_n (pc := 3) X.1 X.2.1 dL_define_3 rfl (lv_at hl 1 rfl) ?_
  refine X_cIA (X_runV (pc := 4) (i := 50) (As := [.int p1]) (rest := [.int 0, .ref (ad 44)]) (M' := celB κ ad (celO κ r1 x) res.1) (r := res.2) X G (rm := rm7_define) rfl rfl rfl (c7_define l hfl D κ A ad (celO κ r1 x) b p1 res h) (B_rcv (ci := 7) (okL50 _) (by decide)) rfl g_L_7 hdL_yX7_define ⟨Nat.le_of_ble_eq_true rfl, Nat.le_of_ble_eq_true rfl⟩ rfl hl rfl (lv_room (Nat.le_of_ble_eq_true rfl)) dL_define_4 ⟨Nat.le_of_ble_eq_true rfl, Nat.le_of_ble_eq_true rfl⟩) G (fun k q ce H locs hr2 G h1 h2 h3 => ?_) (fun v ad' H locs hr2 hag G => ?_)
  · have ek : outv x res.2 = x := by rw [hr2]; rfl
    have hk := hk k hr2
    rcases hk with rfl | rfl
    · refine X_h1 (pc := 4) (k := 1) (x := ⟨0, 9, 12, 13⟩) X G hT (by decide) (by decide) clx_L_13 (by decide) h1 h2 h3 ?_
      refine lv_astore_n (pc := 12) (lv' := [(3, .ref q), (0, .ref (ad 50)), (1, .int p1), (2, .ref (ad 44))]) X.1 X.2.1 dL_define_12 rfl hl (by decide) rfl (fun ls hl => ?_)
      refine lv_iconst (pc := 13) (v := 1) X.1 X.2.1 dL_define_13 (by decide) ?_
      exact C_iret (pc := 14) X G hr hlk dL_define_14 (by rw [hr2]; rfl) (Ag.rf _ _) (by rw [ek]) (Nat.le_of_ble_eq_true rfl) (Nat.le_of_ble_eq_true rfl)
    · refine X_h2 (pc := 4) (k := 2) (k0 := 1) (x0 := ⟨0, 9, 12, 13⟩) (x := ⟨0, 9, 15, 15⟩) X G hT (by decide) clx_L_13 (by decide) (by decide) (by decide) clx_L_15 (by decide) h1 h2 h3 ?_
      refine lv_astore_n (pc := 15) (lv' := [(3, .ref q), (0, .ref (ad 50)), (1, .int p1), (2, .ref (ad 44))]) X.1 X.2.1 dL_define_15 rfl hl (by decide) rfl (fun ls hl => ?_)
      refine lv_iconst (pc := 16) (v := 2) X.1 X.2.1 dL_define_16 (by decide) ?_
      exact C_iret (pc := 17) X G hr hlk dL_define_17 (by rw [hr2]; rfl) (Ag.rf _ _) (by rw [ek]) (Nat.le_of_ble_eq_true rfl) (Nat.le_of_ble_eq_true rfl)
  · have ek : outv x res.2 = v.toInt64 := by rw [hr2]; rfl
    refine lv_i2l (pc := 7) X.1 X.2.1 dL_define_7 rfl ?_
    refine m_lastO (pc := 8) (i := 44) (M' := celB κ ad' (celO κ r1 (outv x res.2)) res.1) X G (hag 44 (Or.inl (by decide))).symm celB_O2 (by rw [ek]; exact celB_O2) (fun j hj => celB_O3 j hj) dL_define_8 (fun H locs G => ?_)
    refine lv_goto (pc := 9) (tgt := 18) X.1 X.2.1 dL_define_9 (by decide) ?_
    refine lv_iconst (pc := 18) (v := 0) X.1 X.2.1 dL_define_18 (by decide) ?_
    exact C_iret (pc := 19) X G hr hlk dL_define_19 (by rw [hr2]; rfl) hag rfl (Nat.le_of_ble_eq_true rfl) (Nat.le_of_ble_eq_true rfl)
theorem cw_yL_remove : Cond.codeWith yL_remove cL_remove 4 (some .int) [(0, 9, 12, 13), (0, 9, 15, 20)] ∈ G0 := gq (List.mem_of_getElem? (i := 583) (by decide +kernel)) rfl
theorem g_L_17 : GoodIn G0 (wsV RL 17 RX7 yX7_remove (gw yX7_remove cX7_remove 2 (some (FieldType.int)))) := gv_in ml_L_17 im_yX7_remove se_yX7_remove ini_X7 cd_yX7_remove
theorem hdL_yX7_remove : yX7_remove.cls = RX7 ∧ yX7_remove.cls ≠ "java/lang/invoke/MethodHandle" ∧ yX7_remove.cls ≠ "java/lang/invoke/VarHandle" ∧ (parseMethodDescriptor yX7_remove.desc).map (fun d => d.parameters.length) = some 1 := by decide +kernel
abbrev rmL_remove : Room := { frames := 8, cells := 7, slots := 47, locals := 162 }
set_option maxHeartbeats 4000000 in
set_option maxRecDepth 100000 in
theorem wremove (l : Launch) (hfl : l.stackTraces = false) (D : va_G) (κ : Nat → ClassId) (A : Nat → Prop) (ad : Nat → Nat) (r1 : Nat → Option va_E) (x : Int64) (b : BS) (p1 : Int32) (res : BS × (Nat ⊕ Int32)) (h : F7_remove b p1 = some res) (hk : ∀ k, res.2 = .inl k → k = 1 ∨ k = 3) : Met l yL_remove (gwh yL_remove cL_remove 4 (some .int) [(0, 9, 12, 13), (0, 9, 15, 20)]) rmL_remove (va_Pc [.ref (ad 50), .int p1, .ref (ad 44)] (MW D κ A ad (celB κ ad (celO κ r1 x) b))) (QIA D A (fun ad' => Ag b.2.2 ad ad') (fun ad' => celB κ ad' (celO κ r1 (outv x res.2)) res.1) (codeOf 1 res.2)) 7 47 A := by
  refine met_ofH (own := RL) (by decide +kernel) rfl (Nat.le_of_ble_eq_true rfl) ?_
  intro p e s m below meth c ls X hr hlk hT G hl
  have hl : lv_has ls 4 [(0, .ref (ad 50)), (1, .int p1), (2, .ref (ad 44))] := hl
  refine lv_aload_n (pc := 0) X.1 X.2.1 dL_remove_0 rfl (lv_at hl 2 rfl) ?_
  refine lv_iconst (pc := 1) (v := 0) X.1 X.2.1 dL_remove_1 (by decide) ?_
  refine lv_aload_n (pc := 2) X.1 X.2.1 dL_remove_2 rfl (lv_at hl 0 rfl) ?_
  refine lv_iload_n (pc := 3) X.1 X.2.1 dL_remove_3 rfl (lv_at hl 1 rfl) ?_
  refine X_cIA (X_runV (pc := 4) (i := 50) (As := [.int p1]) (rest := [.int 0, .ref (ad 44)]) (M' := celB κ ad (celO κ r1 x) res.1) (r := res.2) X G (rm := rm7_remove) rfl rfl rfl (c7_remove l hfl D κ A ad (celO κ r1 x) b p1 res h) (B_rcv (ci := 7) (okL50 _) (by decide)) rfl g_L_17 hdL_yX7_remove ⟨Nat.le_of_ble_eq_true rfl, Nat.le_of_ble_eq_true rfl⟩ rfl hl rfl (lv_room (Nat.le_of_ble_eq_true rfl)) dL_remove_4 ⟨Nat.le_of_ble_eq_true rfl, Nat.le_of_ble_eq_true rfl⟩) G (fun k q ce H locs hr2 G h1 h2 h3 => ?_) (fun v ad' H locs hr2 hag G => ?_)
  · have ek : outv x res.2 = x := by rw [hr2]; rfl
    have hk := hk k hr2
    rcases hk with rfl | rfl
    · refine X_h1 (pc := 4) (k := 1) (x := ⟨0, 9, 12, 13⟩) X G hT (by decide) (by decide) clx_L_13 (by decide) h1 h2 h3 ?_
      refine lv_astore_n (pc := 12) (lv' := [(3, .ref q), (0, .ref (ad 50)), (1, .int p1), (2, .ref (ad 44))]) X.1 X.2.1 dL_remove_12 rfl hl (by decide) rfl (fun ls hl => ?_)
      refine lv_iconst (pc := 13) (v := 1) X.1 X.2.1 dL_remove_13 (by decide) ?_
      exact C_iret (pc := 14) X G hr hlk dL_remove_14 (by rw [hr2]; rfl) (Ag.rf _ _) (by rw [ek]) (Nat.le_of_ble_eq_true rfl) (Nat.le_of_ble_eq_true rfl)
    · refine X_h2 (pc := 4) (k := 3) (k0 := 1) (x0 := ⟨0, 9, 12, 13⟩) (x := ⟨0, 9, 15, 20⟩) X G hT (by decide) clx_L_13 (by decide) (by decide) (by decide) clx_L_20 (by decide) h1 h2 h3 ?_
      refine lv_astore_n (pc := 15) (lv' := [(3, .ref q), (0, .ref (ad 50)), (1, .int p1), (2, .ref (ad 44))]) X.1 X.2.1 dL_remove_15 rfl hl (by decide) rfl (fun ls hl => ?_)
      refine lv_iconst (pc := 16) (v := 2) X.1 X.2.1 dL_remove_16 (by decide) ?_
      exact C_iret (pc := 17) X G hr hlk dL_remove_17 (by rw [hr2]; rfl) (Ag.rf _ _) (by rw [ek]) (Nat.le_of_ble_eq_true rfl) (Nat.le_of_ble_eq_true rfl)
  · have ek : outv x res.2 = v.toInt64 := by rw [hr2]; rfl
    refine lv_i2l (pc := 7) X.1 X.2.1 dL_remove_7 rfl ?_
    refine m_lastO (pc := 8) (i := 44) (M' := celB κ ad' (celO κ r1 (outv x res.2)) res.1) X G (hag 44 (Or.inl (by decide))).symm celB_O2 (by rw [ek]; exact celB_O2) (fun j hj => celB_O3 j hj) dL_remove_8 (fun H locs G => ?_)
    refine lv_goto (pc := 9) (tgt := 18) X.1 X.2.1 dL_remove_9 (by decide) ?_
    refine lv_iconst (pc := 18) (v := 0) X.1 X.2.1 dL_remove_18 (by decide) ?_
    exact C_iret (pc := 19) X G hr hlk dL_remove_19 (by rw [hr2]; rfl) hag rfl (Nat.le_of_ble_eq_true rfl) (Nat.le_of_ble_eq_true rfl)
theorem cw_yL_exchange : Cond.codeWith yL_exchange cL_exchange 5 (some .int) [(0, 10, 13, 13)] ∈ G0 := gq (List.mem_of_getElem? (i := 612) (by decide +kernel)) rfl
theorem g_L_22 : GoodIn G0 (wsV RL 22 RX7 yX7_exchange (gw yX7_exchange cX7_exchange 5 (some (FieldType.int)))) := gv_in ml_L_22 im_yX7_exchange se_yX7_exchange ini_X7 cd_yX7_exchange
theorem hdL_yX7_exchange : yX7_exchange.cls = RX7 ∧ yX7_exchange.cls ≠ "java/lang/invoke/MethodHandle" ∧ yX7_exchange.cls ≠ "java/lang/invoke/VarHandle" ∧ (parseMethodDescriptor yX7_exchange.desc).map (fun d => d.parameters.length) = some 2 := by decide +kernel
abbrev rmL_exchange : Room := { frames := 8, cells := 7, slots := 47, locals := 165 }
set_option maxHeartbeats 4000000 in
set_option maxRecDepth 100000 in
theorem wexchange (l : Launch) (hfl : l.stackTraces = false) (D : va_G) (κ : Nat → ClassId) (A : Nat → Prop) (ad : Nat → Nat) (r1 : Nat → Option va_E) (x : Int64) (b : BS) (p1 : Int32) (p2 : Int32) (res : BS × (Nat ⊕ Int32)) (h : F7_exchange b p1 p2 = some res) (hk : ∀ k, res.2 = .inl k → k = 1) : Met l yL_exchange (gwh yL_exchange cL_exchange 5 (some .int) [(0, 10, 13, 13)]) rmL_exchange (va_Pc [.ref (ad 50), .int p1, .int p2, .ref (ad 44)] (MW D κ A ad (celB κ ad (celO κ r1 x) b))) (QIA D A (fun ad' => Ag b.2.2 ad ad') (fun ad' => celB κ ad' (celO κ r1 (outv x res.2)) res.1) (codeOf 1 res.2)) 7 47 A := by
  refine met_ofH (own := RL) (by decide +kernel) rfl (Nat.le_of_ble_eq_true rfl) ?_
  intro p e s m below meth c ls X hr hlk hT G hl
  have hl : lv_has ls 5 [(0, .ref (ad 50)), (1, .int p1), (2, .int p2), (3, .ref (ad 44))] := hl
  refine lv_aload_n (pc := 0) X.1 X.2.1 dL_exchange_0 rfl (lv_at hl 3 rfl) ?_
  refine lv_iconst (pc := 1) (v := 0) X.1 X.2.1 dL_exchange_1 (by decide) ?_
  refine lv_aload_n (pc := 2) X.1 X.2.1 dL_exchange_2 rfl (lv_at hl 0 rfl) ?_
  refine lv_iload_n (pc := 3) X.1 X.2.1 dL_exchange_3 rfl (lv_at hl 1 rfl) ?_
  refine lv_iload_n (pc := 4) X.1 X.2.1 dL_exchange_4 rfl (lv_at hl 2 rfl) ?_
  refine X_cIA (X_runV (pc := 5) (i := 50) (As := [.int p1, .int p2]) (rest := [.int 0, .ref (ad 44)]) (M' := celB κ ad (celO κ r1 x) res.1) (r := res.2) X G (rm := rm7_exchange) rfl rfl rfl (c7_exchange l hfl D κ A ad (celO κ r1 x) b p1 p2 res h) (B_rcv (ci := 7) (okL50 _) (by decide)) rfl g_L_22 hdL_yX7_exchange ⟨Nat.le_of_ble_eq_true rfl, Nat.le_of_ble_eq_true rfl⟩ rfl hl rfl (lv_room (Nat.le_of_ble_eq_true rfl)) dL_exchange_5 ⟨Nat.le_of_ble_eq_true rfl, Nat.le_of_ble_eq_true rfl⟩) G (fun k q ce H locs hr2 G h1 h2 h3 => ?_) (fun v ad' H locs hr2 hag G => ?_)
  · have ek : outv x res.2 = x := by rw [hr2]; rfl
    have hk := hk k hr2
    subst hk
    refine X_h1 (pc := 5) (k := 1) (x := ⟨0, 10, 13, 13⟩) X G hT (by decide) (by decide) clx_L_13 (by decide) h1 h2 h3 ?_
    refine lv_astore (pc := 13) (lv' := [(4, .ref q), (0, .ref (ad 50)), (1, .int p1), (2, .int p2), (3, .ref (ad 44))]) X.1 X.2.1 dL_exchange_13 hl (by decide) rfl (fun ls hl => ?_)
    refine lv_iconst (pc := 15) (v := 1) X.1 X.2.1 dL_exchange_15 (by decide) ?_
    exact C_iret (pc := 16) X G hr hlk dL_exchange_16 (by rw [hr2]; rfl) (Ag.rf _ _) (by rw [ek]) (Nat.le_of_ble_eq_true rfl) (Nat.le_of_ble_eq_true rfl)
  · have ek : outv x res.2 = v.toInt64 := by rw [hr2]; rfl
    refine lv_i2l (pc := 8) X.1 X.2.1 dL_exchange_8 rfl ?_
    refine m_lastO (pc := 9) (i := 44) (M' := celB κ ad' (celO κ r1 (outv x res.2)) res.1) X G (hag 44 (Or.inl (by decide))).symm celB_O2 (by rw [ek]; exact celB_O2) (fun j hj => celB_O3 j hj) dL_exchange_9 (fun H locs G => ?_)
    refine lv_goto (pc := 10) (tgt := 17) X.1 X.2.1 dL_exchange_10 (by decide) ?_
    refine lv_iconst (pc := 17) (v := 0) X.1 X.2.1 dL_exchange_17 (by decide) ?_
    exact C_iret (pc := 18) X G hr hlk dL_exchange_18 (by rw [hr2]; rfl) hag rfl (Nat.le_of_ble_eq_true rfl) (Nat.le_of_ble_eq_true rfl)
theorem cw_yL_set : Cond.codeWith yL_set cL_set 4 (some .int) [(0, 9, 12, 15)] ∈ G0 := gq (List.mem_of_getElem? (i := 619) (by decide +kernel)) rfl
theorem g_L_26 : GoodIn G0 (wsV RL 26 RX7 yX7_set (gw yX7_set cX7_set 3 (some (FieldType.int)))) := gv_in ml_L_26 im_yX7_set se_yX7_set ini_X7 cd_yX7_set
theorem hdL_yX7_set : yX7_set.cls = RX7 ∧ yX7_set.cls ≠ "java/lang/invoke/MethodHandle" ∧ yX7_set.cls ≠ "java/lang/invoke/VarHandle" ∧ (parseMethodDescriptor yX7_set.desc).map (fun d => d.parameters.length) = some 1 := by decide +kernel
abbrev rmL_set : Room := { frames := 7, cells := 5, slots := 35, locals := 163 }
set_option maxHeartbeats 4000000 in
set_option maxRecDepth 100000 in
theorem wset (l : Launch) (hfl : l.stackTraces = false) (D : va_G) (κ : Nat → ClassId) (A : Nat → Prop) (ad : Nat → Nat) (r1 : Nat → Option va_E) (x : Int64) (b : BS) (p1 : Int32) (res : BS × (Nat ⊕ Int32)) (h : F7_set b p1 = some res) (hk : ∀ k, res.2 = .inl k → k = 2) : Met l yL_set (gwh yL_set cL_set 4 (some .int) [(0, 9, 12, 15)]) rmL_set (va_Pc [.ref (ad 50), .int p1, .ref (ad 44)] (MW D κ A ad (celB κ ad (celO κ r1 x) b))) (QIA D A (fun ad' => Ag b.2.2 ad ad') (fun ad' => celB κ ad' (celO κ r1 (outv x res.2)) res.1) (codeOf 2 res.2)) 5 35 A := by
  refine met_ofH (own := RL) (by decide +kernel) rfl (Nat.le_of_ble_eq_true rfl) ?_
  intro p e s m below meth c ls X hr hlk hT G hl
  have hl : lv_has ls 4 [(0, .ref (ad 50)), (1, .int p1), (2, .ref (ad 44))] := hl
  refine lv_aload_n (pc := 0) X.1 X.2.1 dL_set_0 rfl (lv_at hl 2 rfl) ?_
  refine lv_iconst (pc := 1) (v := 0) X.1 X.2.1 dL_set_1 (by decide) ?_
  refine lv_aload_n (pc := 2) X.1 X.2.1 dL_set_2 rfl (lv_at hl 0 rfl) ?_
  refine lv_iload_n (pc := 3) X.1 X.2.1 dL_set_3 rfl (lv_at hl 1 rfl) ?_
  refine X_cIA (X_runV (pc := 4) (i := 50) (As := [.int p1]) (rest := [.int 0, .ref (ad 44)]) (M' := celB κ ad (celO κ r1 x) res.1) (r := res.2) X G (rm := rm7_set) rfl rfl rfl (c7_set l hfl D κ A ad (celO κ r1 x) b p1 res h) (B_rcv (ci := 7) (okL50 _) (by decide)) rfl g_L_26 hdL_yX7_set ⟨Nat.le_of_ble_eq_true rfl, Nat.le_of_ble_eq_true rfl⟩ rfl hl rfl (lv_room (Nat.le_of_ble_eq_true rfl)) dL_set_4 ⟨Nat.le_of_ble_eq_true rfl, Nat.le_of_ble_eq_true rfl⟩) G (fun k q ce H locs hr2 G h1 h2 h3 => ?_) (fun v ad' H locs hr2 hag G => ?_)
  · have ek : outv x res.2 = x := by rw [hr2]; rfl
    have hk := hk k hr2
    subst hk
    refine X_h1 (pc := 4) (k := 2) (x := ⟨0, 9, 12, 15⟩) X G hT (by decide) (by decide) clx_L_15 (by decide) h1 h2 h3 ?_
    refine lv_astore_n (pc := 12) (lv' := [(3, .ref q), (0, .ref (ad 50)), (1, .int p1), (2, .ref (ad 44))]) X.1 X.2.1 dL_set_12 rfl hl (by decide) rfl (fun ls hl => ?_)
    refine lv_iconst (pc := 13) (v := 1) X.1 X.2.1 dL_set_13 (by decide) ?_
    exact C_iret (pc := 14) X G hr hlk dL_set_14 (by rw [hr2]; rfl) (Ag.rf _ _) (by rw [ek]) (Nat.le_of_ble_eq_true rfl) (Nat.le_of_ble_eq_true rfl)
  · have ek : outv x res.2 = v.toInt64 := by rw [hr2]; rfl
    refine lv_i2l (pc := 7) X.1 X.2.1 dL_set_7 rfl ?_
    refine m_lastO (pc := 8) (i := 44) (M' := celB κ ad' (celO κ r1 (outv x res.2)) res.1) X G (hag 44 (Or.inl (by decide))).symm celB_O2 (by rw [ek]; exact celB_O2) (fun j hj => celB_O3 j hj) dL_set_8 (fun H locs G => ?_)
    refine lv_goto (pc := 9) (tgt := 15) X.1 X.2.1 dL_set_9 (by decide) ?_
    refine lv_iconst (pc := 15) (v := 0) X.1 X.2.1 dL_set_15 (by decide) ?_
    exact C_iret (pc := 16) X G hr hlk dL_set_16 (by rw [hr2]; rfl) hag rfl (Nat.le_of_ble_eq_true rfl) (Nat.le_of_ble_eq_true rfl)
theorem cw_yL_expand : Cond.codeWith yL_expand cL_expand 3 (some .int) [(0, 8, 11, 15)] ∈ G0 := gq (List.mem_of_getElem? (i := 627) (by decide +kernel)) rfl
theorem g_L_29 : GoodIn G0 (wsV RL 29 RX7 yX7_expand (gw yX7_expand cX7_expand 1 (some (FieldType.int)))) := gv_in ml_L_29 im_yX7_expand se_yX7_expand ini_X7 cd_yX7_expand
theorem hdL_yX7_expand : yX7_expand.cls = RX7 ∧ yX7_expand.cls ≠ "java/lang/invoke/MethodHandle" ∧ yX7_expand.cls ≠ "java/lang/invoke/VarHandle" ∧ (parseMethodDescriptor yX7_expand.desc).map (fun d => d.parameters.length) = some 0 := by decide +kernel
abbrev rmL_expand : Room := { frames := 55, cells := 9, slots := 605, locals := 1762 }
set_option maxHeartbeats 4000000 in
set_option maxRecDepth 100000 in
theorem wexpand (l : Launch) (hfl : l.stackTraces = false) (D : va_G) (κ : Nat → ClassId) (A : Nat → Prop) (ad : Nat → Nat) (r1 : Nat → Option va_E) (x : Int64) (b : BS)  (res : BS × (Nat ⊕ Int32)) (h : F7_expand b  = some res) (hk : ∀ k, res.2 = .inl k → k = 2) : Met l yL_expand (gwh yL_expand cL_expand 3 (some .int) [(0, 8, 11, 15)]) rmL_expand (va_Pc [.ref (ad 50), .ref (ad 44)] (MW D κ A ad (celB κ ad (celO κ r1 x) b))) (QIA D A (fun ad' => Ag b.2.2 ad ad') (fun ad' => celB κ ad' (celO κ r1 (outv x res.2)) res.1) (codeOf 2 res.2)) 9 605 A := by
  refine met_ofH (own := RL) (by decide +kernel) rfl (Nat.le_of_ble_eq_true rfl) ?_
  intro p e s m below meth c ls X hr hlk hT G hl
  have hl : lv_has ls 3 [(0, .ref (ad 50)), (1, .ref (ad 44))] := hl
  refine lv_aload_n (pc := 0) X.1 X.2.1 dL_expand_0 rfl (lv_at hl 1 rfl) ?_
  refine lv_iconst (pc := 1) (v := 0) X.1 X.2.1 dL_expand_1 (by decide) ?_
  refine lv_aload_n (pc := 2) X.1 X.2.1 dL_expand_2 rfl (lv_at hl 0 rfl) ?_
  refine X_cIA (X_runV (pc := 3) (i := 50) (As := []) (rest := [.int 0, .ref (ad 44)]) (M' := celB κ ad (celO κ r1 x) res.1) (r := res.2) X G (rm := rm7_expand) rfl rfl rfl (c7_expand l hfl D κ A ad (celO κ r1 x) b  res h) (B_rcv (ci := 7) (okL50 _) (by decide)) rfl g_L_29 hdL_yX7_expand ⟨Nat.le_of_ble_eq_true rfl, Nat.le_of_ble_eq_true rfl⟩ rfl hl rfl (lv_room (Nat.le_of_ble_eq_true rfl)) dL_expand_3 ⟨Nat.le_of_ble_eq_true rfl, Nat.le_of_ble_eq_true rfl⟩) G (fun k q ce H locs hr2 G h1 h2 h3 => ?_) (fun v ad' H locs hr2 hag G => ?_)
  · have ek : outv x res.2 = x := by rw [hr2]; rfl
    have hk := hk k hr2
    subst hk
    refine X_h1 (pc := 3) (k := 2) (x := ⟨0, 8, 11, 15⟩) X G hT (by decide) (by decide) clx_L_15 (by decide) h1 h2 h3 ?_
    refine lv_astore_n (pc := 11) (lv' := [(2, .ref q), (0, .ref (ad 50)), (1, .ref (ad 44))]) X.1 X.2.1 dL_expand_11 rfl hl (by decide) rfl (fun ls hl => ?_)
    refine lv_iconst (pc := 12) (v := 1) X.1 X.2.1 dL_expand_12 (by decide) ?_
    exact C_iret (pc := 13) X G hr hlk dL_expand_13 (by rw [hr2]; rfl) (Ag.rf _ _) (by rw [ek]) (Nat.le_of_ble_eq_true rfl) (Nat.le_of_ble_eq_true rfl)
  · have ek : outv x res.2 = v.toInt64 := by rw [hr2]; rfl
    refine lv_i2l (pc := 6) X.1 X.2.1 dL_expand_6 rfl ?_
    refine m_lastO (pc := 7) (i := 44) (M' := celB κ ad' (celO κ r1 (outv x res.2)) res.1) X G (hag 44 (Or.inl (by decide))).symm celB_O2 (by rw [ek]; exact celB_O2) (fun j hj => celB_O3 j hj) dL_expand_7 (fun H locs G => ?_)
    refine lv_goto (pc := 8) (tgt := 14) X.1 X.2.1 dL_expand_8 (by decide) ?_
    refine lv_iconst (pc := 14) (v := 0) X.1 X.2.1 dL_expand_14 (by decide) ?_
    exact C_iret (pc := 15) X G hr hlk dL_expand_15 (by rw [hr2]; rfl) hag rfl (Nat.le_of_ble_eq_true rfl) (Nat.le_of_ble_eq_true rfl)
theorem cw_yL_append : Cond.codeWith yL_append cL_append 4 (some .int) [(0, 9, 12, 15), (0, 9, 15, 20)] ∈ G0 := gq (List.mem_of_getElem? (i := 708) (by decide +kernel)) rfl
theorem g_L_33 : GoodIn G0 (wsV RL 33 RX7 yX7_append (gw yX7_append cX7_append 2 (some (FieldType.int)))) := gv_in ml_L_33 im_yX7_append se_yX7_append ini_X7 cd_yX7_append
theorem hdL_yX7_append : yX7_append.cls = RX7 ∧ yX7_append.cls ≠ "java/lang/invoke/MethodHandle" ∧ yX7_append.cls ≠ "java/lang/invoke/VarHandle" ∧ (parseMethodDescriptor yX7_append.desc).map (fun d => d.parameters.length) = some 1 := by decide +kernel
abbrev rmL_append : Room := { frames := 7, cells := 1, slots := 6, locals := 103 }
set_option maxHeartbeats 4000000 in
set_option maxRecDepth 100000 in
theorem wappend (l : Launch) (hfl : l.stackTraces = false) (D : va_G) (κ : Nat → ClassId) (A : Nat → Prop) (ad : Nat → Nat) (r1 : Nat → Option va_E) (x : Int64) (b : BS) (p1 : Int32) (res : BS × (Nat ⊕ Int32)) (h : F7_append b p1 = some res) (hk : ∀ k, res.2 = .inl k → k = 2 ∨ k = 3) : Met l yL_append (gwh yL_append cL_append 4 (some .int) [(0, 9, 12, 15), (0, 9, 15, 20)]) rmL_append (va_Pc [.ref (ad 50), .int p1, .ref (ad 44)] (MW D κ A ad (celB κ ad (celO κ r1 x) b))) (QIA D A (fun ad' => Ag b.2.2 ad ad') (fun ad' => celB κ ad' (celO κ r1 (outv x res.2)) res.1) (codeOf 2 res.2)) 1 6 A := by
  refine met_ofH (own := RL) (by decide +kernel) rfl (Nat.le_of_ble_eq_true rfl) ?_
  intro p e s m below meth c ls X hr hlk hT G hl
  have hl : lv_has ls 4 [(0, .ref (ad 50)), (1, .int p1), (2, .ref (ad 44))] := hl
  refine lv_aload_n (pc := 0) X.1 X.2.1 dL_append_0 rfl (lv_at hl 2 rfl) ?_
  refine lv_iconst (pc := 1) (v := 0) X.1 X.2.1 dL_append_1 (by decide) ?_
  refine lv_aload_n (pc := 2) X.1 X.2.1 dL_append_2 rfl (lv_at hl 0 rfl) ?_
  refine lv_iload_n (pc := 3) X.1 X.2.1 dL_append_3 rfl (lv_at hl 1 rfl) ?_
  refine X_cI (X_runV (pc := 4) (i := 50) (As := [.int p1]) (rest := [.int 0, .ref (ad 44)]) (M' := celB κ ad (celO κ r1 x) res.1) (r := res.2) X G (rm := rm7_append) rfl rfl rfl (c7_append l hfl D κ A ad (celO κ r1 x) b p1 res h) (B_rcv (ci := 7) (okL50 _) (by decide)) rfl g_L_33 hdL_yX7_append ⟨Nat.le_of_ble_eq_true rfl, Nat.le_of_ble_eq_true rfl⟩ rfl hl rfl (lv_room (Nat.le_of_ble_eq_true rfl)) dL_append_4 ⟨Nat.le_of_ble_eq_true rfl, Nat.le_of_ble_eq_true rfl⟩) G (fun k q ce H locs hr2 G h1 h2 h3 => ?_) (fun v ad' H locs hr2 hag G => ?_)
  · have ek : outv x res.2 = x := by rw [hr2]; rfl
    have hk := hk k hr2
    rcases hk with rfl | rfl
    · refine X_h1 (pc := 4) (k := 2) (x := ⟨0, 9, 12, 15⟩) X G hT (by decide) (by decide) clx_L_15 (by decide) h1 h2 h3 ?_
      refine lv_astore_n (pc := 12) (lv' := [(3, .ref q), (0, .ref (ad 50)), (1, .int p1), (2, .ref (ad 44))]) X.1 X.2.1 dL_append_12 rfl hl (by decide) rfl (fun ls hl => ?_)
      refine lv_iconst (pc := 13) (v := 1) X.1 X.2.1 dL_append_13 (by decide) ?_
      exact C_iret (pc := 14) X G hr hlk dL_append_14 (by rw [hr2]; rfl) (Ag.rf _ _) (by rw [ek]) (Nat.le_of_ble_eq_true rfl) (Nat.le_of_ble_eq_true rfl)
    · refine X_h2 (pc := 4) (k := 3) (k0 := 2) (x0 := ⟨0, 9, 12, 15⟩) (x := ⟨0, 9, 15, 20⟩) X G hT (by decide) clx_L_15 (by decide) (by decide) (by decide) clx_L_20 (by decide) h1 h2 h3 ?_
      refine lv_astore_n (pc := 15) (lv' := [(3, .ref q), (0, .ref (ad 50)), (1, .int p1), (2, .ref (ad 44))]) X.1 X.2.1 dL_append_15 rfl hl (by decide) rfl (fun ls hl => ?_)
      refine lv_iconst (pc := 16) (v := 2) X.1 X.2.1 dL_append_16 (by decide) ?_
      exact C_iret (pc := 17) X G hr hlk dL_append_17 (by rw [hr2]; rfl) (Ag.rf _ _) (by rw [ek]) (Nat.le_of_ble_eq_true rfl) (Nat.le_of_ble_eq_true rfl)
  · have ek : outv x res.2 = v.toInt64 := by rw [hr2]; rfl
    subst hag
    refine lv_i2l (pc := 7) X.1 X.2.1 dL_append_7 rfl ?_
    refine m_lastO (pc := 8) (i := 44) (M' := celB κ ad' (celO κ r1 (outv x res.2)) res.1) X G rfl celB_O2 (by rw [ek]; exact celB_O2) (fun j hj => celB_O3 j hj) dL_append_8 (fun H locs G => ?_)
    refine lv_goto (pc := 9) (tgt := 18) X.1 X.2.1 dL_append_9 (by decide) ?_
    refine lv_iconst (pc := 18) (v := 0) X.1 X.2.1 dL_append_18 (by decide) ?_
    exact C_iret (pc := 19) X G hr hlk dL_append_19 (by rw [hr2]; rfl) (Ag.rf _ _) rfl (Nat.le_of_ble_eq_true rfl) (Nat.le_of_ble_eq_true rfl)
theorem cw_yL_load : Cond.codeWith yL_load cL_load 4 (some .int) [(0, 9, 12, 13), (0, 9, 15, 20)] ∈ G0 := gq (List.mem_of_getElem? (i := 717) (by decide +kernel)) rfl
theorem g_L_36 : GoodIn G0 (wsV RL 36 RX7 yX7_load (gw yX7_load cX7_load 5 (some (FieldType.int)))) := gv_in ml_L_36 im_yX7_load se_yX7_load ini_X7 cd_yX7_load
theorem hdL_yX7_load : yX7_load.cls = RX7 ∧ yX7_load.cls ≠ "java/lang/invoke/MethodHandle" ∧ yX7_load.cls ≠ "java/lang/invoke/VarHandle" ∧ (parseMethodDescriptor yX7_load.desc).map (fun d => d.parameters.length) = some 1 := by decide +kernel
abbrev rmL_load : Room := { frames := 8, cells := 2, slots := 12, locals := 128 }
set_option maxHeartbeats 4000000 in
set_option maxRecDepth 100000 in
theorem wload (l : Launch) (hfl : l.stackTraces = false) (D : va_G) (κ : Nat → ClassId) (A : Nat → Prop) (ad : Nat → Nat) (r1 : Nat → Option va_E) (x : Int64) (b : BS) (p1 : Int32) (res : BS × (Nat ⊕ Int32)) (h : F7_load b p1 = some res) (hk : ∀ k, res.2 = .inl k → k = 1 ∨ k = 3) : Met l yL_load (gwh yL_load cL_load 4 (some .int) [(0, 9, 12, 13), (0, 9, 15, 20)]) rmL_load (va_Pc [.ref (ad 50), .int p1, .ref (ad 44)] (MW D κ A ad (celB κ ad (celO κ r1 x) b))) (QIA D A (fun ad' => Ag b.2.2 ad ad') (fun ad' => celB κ ad' (celO κ r1 (outv x res.2)) res.1) (codeOf 1 res.2)) 2 12 A := by
  refine met_ofH (own := RL) (by decide +kernel) rfl (Nat.le_of_ble_eq_true rfl) ?_
  intro p e s m below meth c ls X hr hlk hT G hl
  have hl : lv_has ls 4 [(0, .ref (ad 50)), (1, .int p1), (2, .ref (ad 44))] := hl
  refine lv_aload_n (pc := 0) X.1 X.2.1 dL_load_0 rfl (lv_at hl 2 rfl) ?_
  refine lv_iconst (pc := 1) (v := 0) X.1 X.2.1 dL_load_1 (by decide) ?_
  refine lv_aload_n (pc := 2) X.1 X.2.1 dL_load_2 rfl (lv_at hl 0 rfl) ?_
  refine lv_iload_n (pc := 3) X.1 X.2.1 dL_load_3 rfl (lv_at hl 1 rfl) ?_
  refine X_cI (X_runV (pc := 4) (i := 50) (As := [.int p1]) (rest := [.int 0, .ref (ad 44)]) (M' := celB κ ad (celO κ r1 x) res.1) (r := res.2) X G (rm := rm7_load) rfl rfl rfl (c7_load l hfl D κ A ad (celO κ r1 x) b p1 res h) (B_rcv (ci := 7) (okL50 _) (by decide)) rfl g_L_36 hdL_yX7_load ⟨Nat.le_of_ble_eq_true rfl, Nat.le_of_ble_eq_true rfl⟩ rfl hl rfl (lv_room (Nat.le_of_ble_eq_true rfl)) dL_load_4 ⟨Nat.le_of_ble_eq_true rfl, Nat.le_of_ble_eq_true rfl⟩) G (fun k q ce H locs hr2 G h1 h2 h3 => ?_) (fun v ad' H locs hr2 hag G => ?_)
  · have ek : outv x res.2 = x := by rw [hr2]; rfl
    have hk := hk k hr2
    rcases hk with rfl | rfl
    · refine X_h1 (pc := 4) (k := 1) (x := ⟨0, 9, 12, 13⟩) X G hT (by decide) (by decide) clx_L_13 (by decide) h1 h2 h3 ?_
      refine lv_astore_n (pc := 12) (lv' := [(3, .ref q), (0, .ref (ad 50)), (1, .int p1), (2, .ref (ad 44))]) X.1 X.2.1 dL_load_12 rfl hl (by decide) rfl (fun ls hl => ?_)
      refine lv_iconst (pc := 13) (v := 1) X.1 X.2.1 dL_load_13 (by decide) ?_
      exact C_iret (pc := 14) X G hr hlk dL_load_14 (by rw [hr2]; rfl) (Ag.rf _ _) (by rw [ek]) (Nat.le_of_ble_eq_true rfl) (Nat.le_of_ble_eq_true rfl)
    · refine X_h2 (pc := 4) (k := 3) (k0 := 1) (x0 := ⟨0, 9, 12, 13⟩) (x := ⟨0, 9, 15, 20⟩) X G hT (by decide) clx_L_13 (by decide) (by decide) (by decide) clx_L_20 (by decide) h1 h2 h3 ?_
      refine lv_astore_n (pc := 15) (lv' := [(3, .ref q), (0, .ref (ad 50)), (1, .int p1), (2, .ref (ad 44))]) X.1 X.2.1 dL_load_15 rfl hl (by decide) rfl (fun ls hl => ?_)
      refine lv_iconst (pc := 16) (v := 2) X.1 X.2.1 dL_load_16 (by decide) ?_
      exact C_iret (pc := 17) X G hr hlk dL_load_17 (by rw [hr2]; rfl) (Ag.rf _ _) (by rw [ek]) (Nat.le_of_ble_eq_true rfl) (Nat.le_of_ble_eq_true rfl)
  · have ek : outv x res.2 = v.toInt64 := by rw [hr2]; rfl
    subst hag
    refine lv_i2l (pc := 7) X.1 X.2.1 dL_load_7 rfl ?_
    refine m_lastO (pc := 8) (i := 44) (M' := celB κ ad' (celO κ r1 (outv x res.2)) res.1) X G rfl celB_O2 (by rw [ek]; exact celB_O2) (fun j hj => celB_O3 j hj) dL_load_8 (fun H locs G => ?_)
    refine lv_goto (pc := 9) (tgt := 18) X.1 X.2.1 dL_load_9 (by decide) ?_
    refine lv_iconst (pc := 18) (v := 0) X.1 X.2.1 dL_load_18 (by decide) ?_
    exact C_iret (pc := 19) X G hr hlk dL_load_19 (by rw [hr2]; rfl) (Ag.rf _ _) rfl (Nat.le_of_ble_eq_true rfl) (Nat.le_of_ble_eq_true rfl)
theorem cw_yL_undo : Cond.codeWith yL_undo cL_undo 3 (some .int) [(0, 8, 11, 20)] ∈ G0 := gq (List.mem_of_getElem? (i := 724) (by decide +kernel)) rfl
theorem g_L_39 : GoodIn G0 (wsV RL 39 RX7 yX7_undo (gw yX7_undo cX7_undo 1 (some (FieldType.int)))) := gv_in ml_L_39 im_yX7_undo se_yX7_undo ini_X7 cd_yX7_undo
theorem hdL_yX7_undo : yX7_undo.cls = RX7 ∧ yX7_undo.cls ≠ "java/lang/invoke/MethodHandle" ∧ yX7_undo.cls ≠ "java/lang/invoke/VarHandle" ∧ (parseMethodDescriptor yX7_undo.desc).map (fun d => d.parameters.length) = some 0 := by decide +kernel
abbrev rmL_undo : Room := { frames := 7, cells := 1, slots := 6, locals := 102 }
set_option maxHeartbeats 4000000 in
set_option maxRecDepth 100000 in
theorem wundo (l : Launch) (hfl : l.stackTraces = false) (D : va_G) (κ : Nat → ClassId) (A : Nat → Prop) (ad : Nat → Nat) (r1 : Nat → Option va_E) (x : Int64) (b : BS)  (res : BS × (Nat ⊕ Int32)) (h : F7_undo b  = some res) (hk : ∀ k, res.2 = .inl k → k = 3) : Met l yL_undo (gwh yL_undo cL_undo 3 (some .int) [(0, 8, 11, 20)]) rmL_undo (va_Pc [.ref (ad 50), .ref (ad 44)] (MW D κ A ad (celB κ ad (celO κ r1 x) b))) (QIA D A (fun ad' => Ag b.2.2 ad ad') (fun ad' => celB κ ad' (celO κ r1 (outv x res.2)) res.1) (codeOf 3 res.2)) 1 6 A := by
  refine met_ofH (own := RL) (by decide +kernel) rfl (Nat.le_of_ble_eq_true rfl) ?_
  intro p e s m below meth c ls X hr hlk hT G hl
  have hl : lv_has ls 3 [(0, .ref (ad 50)), (1, .ref (ad 44))] := hl
  refine lv_aload_n (pc := 0) X.1 X.2.1 dL_undo_0 rfl (lv_at hl 1 rfl) ?_
  refine lv_iconst (pc := 1) (v := 0) X.1 X.2.1 dL_undo_1 (by decide) ?_
  refine lv_aload_n (pc := 2) X.1 X.2.1 dL_undo_2 rfl (lv_at hl 0 rfl) ?_
  refine X_cI (X_runV (pc := 3) (i := 50) (As := []) (rest := [.int 0, .ref (ad 44)]) (M' := celB κ ad (celO κ r1 x) res.1) (r := res.2) X G (rm := rm7_undo) rfl rfl rfl (c7_undo l hfl D κ A ad (celO κ r1 x) b  res h) (B_rcv (ci := 7) (okL50 _) (by decide)) rfl g_L_39 hdL_yX7_undo ⟨Nat.le_of_ble_eq_true rfl, Nat.le_of_ble_eq_true rfl⟩ rfl hl rfl (lv_room (Nat.le_of_ble_eq_true rfl)) dL_undo_3 ⟨Nat.le_of_ble_eq_true rfl, Nat.le_of_ble_eq_true rfl⟩) G (fun k q ce H locs hr2 G h1 h2 h3 => ?_) (fun v ad' H locs hr2 hag G => ?_)
  · have ek : outv x res.2 = x := by rw [hr2]; rfl
    have hk := hk k hr2
    subst hk
    refine X_h1 (pc := 3) (k := 3) (x := ⟨0, 8, 11, 20⟩) X G hT (by decide) (by decide) clx_L_20 (by decide) h1 h2 h3 ?_
    refine lv_astore_n (pc := 11) (lv' := [(2, .ref q), (0, .ref (ad 50)), (1, .ref (ad 44))]) X.1 X.2.1 dL_undo_11 rfl hl (by decide) rfl (fun ls hl => ?_)
    refine lv_iconst (pc := 12) (v := 1) X.1 X.2.1 dL_undo_12 (by decide) ?_
    exact C_iret (pc := 13) X G hr hlk dL_undo_13 (by rw [hr2]; rfl) (Ag.rf _ _) (by rw [ek]) (Nat.le_of_ble_eq_true rfl) (Nat.le_of_ble_eq_true rfl)
  · have ek : outv x res.2 = v.toInt64 := by rw [hr2]; rfl
    subst hag
    refine lv_i2l (pc := 6) X.1 X.2.1 dL_undo_6 rfl ?_
    refine m_lastO (pc := 7) (i := 44) (M' := celB κ ad' (celO κ r1 (outv x res.2)) res.1) X G rfl celB_O2 (by rw [ek]; exact celB_O2) (fun j hj => celB_O3 j hj) dL_undo_7 (fun H locs G => ?_)
    refine lv_goto (pc := 8) (tgt := 14) X.1 X.2.1 dL_undo_8 (by decide) ?_
    refine lv_iconst (pc := 14) (v := 0) X.1 X.2.1 dL_undo_14 (by decide) ?_
    exact C_iret (pc := 15) X G hr hlk dL_undo_15 (by rw [hr2]; rfl) (Ag.rf _ _) rfl (Nat.le_of_ble_eq_true rfl) (Nat.le_of_ble_eq_true rfl)
theorem cw_yL_keep : Cond.codeWith yL_keep cL_keep 4 (some .int) [(0, 9, 12, 15)] ∈ G0 := gq (List.mem_of_getElem? (i := 736) (by decide +kernel)) rfl
theorem g_L_42 : GoodIn G0 (wsV RL 42 RX7 yX7_keep (gw yX7_keep cX7_keep 2 (some (FieldType.int)))) := gv_in ml_L_42 im_yX7_keep se_yX7_keep ini_X7 cd_yX7_keep
theorem hdL_yX7_keep : yX7_keep.cls = RX7 ∧ yX7_keep.cls ≠ "java/lang/invoke/MethodHandle" ∧ yX7_keep.cls ≠ "java/lang/invoke/VarHandle" ∧ (parseMethodDescriptor yX7_keep.desc).map (fun d => d.parameters.length) = some 1 := by decide +kernel
abbrev rmL_keep : Room := { frames := 8, cells := 6, slots := 41, locals := 163 }
set_option maxHeartbeats 4000000 in
set_option maxRecDepth 100000 in
theorem wkeep (l : Launch) (hfl : l.stackTraces = false) (D : va_G) (κ : Nat → ClassId) (A : Nat → Prop) (ad : Nat → Nat) (r1 : Nat → Option va_E) (x : Int64) (b : BS) (p1 : Int32) (res : BS × (Nat ⊕ Int32)) (h : F7_keep b p1 = some res) (hk : ∀ k, res.2 = .inl k → k = 2) : Met l yL_keep (gwh yL_keep cL_keep 4 (some .int) [(0, 9, 12, 15)]) rmL_keep (va_Pc [.ref (ad 50), .int p1, .ref (ad 44)] (MW D κ A ad (celB κ ad (celO κ r1 x) b))) (QIA D A (fun ad' => Ag b.2.2 ad ad') (fun ad' => celB κ ad' (celO κ r1 (outv x res.2)) res.1) (codeOf 2 res.2)) 6 41 A := by
  refine met_ofH (own := RL) (by decide +kernel) rfl (Nat.le_of_ble_eq_true rfl) ?_
  intro p e s m below meth c ls X hr hlk hT G hl
  have hl : lv_has ls 4 [(0, .ref (ad 50)), (1, .int p1), (2, .ref (ad 44))] := hl
  refine lv_aload_n (pc := 0) X.1 X.2.1 dL_keep_0 rfl (lv_at hl 2 rfl) ?_
  refine lv_iconst (pc := 1) (v := 0) X.1 X.2.1 dL_keep_1 (by decide) ?_
  refine lv_aload_n (pc := 2) X.1 X.2.1 dL_keep_2 rfl (lv_at hl 0 rfl) ?_
  refine lv_iload_n (pc := 3) X.1 X.2.1 dL_keep_3 rfl (lv_at hl 1 rfl) ?_
  refine X_cIA (X_runV (pc := 4) (i := 50) (As := [.int p1]) (rest := [.int 0, .ref (ad 44)]) (M' := celB κ ad (celO κ r1 x) res.1) (r := res.2) X G (rm := rm7_keep) rfl rfl rfl (c7_keep l hfl D κ A ad (celO κ r1 x) b p1 res h) (B_rcv (ci := 7) (okL50 _) (by decide)) rfl g_L_42 hdL_yX7_keep ⟨Nat.le_of_ble_eq_true rfl, Nat.le_of_ble_eq_true rfl⟩ rfl hl rfl (lv_room (Nat.le_of_ble_eq_true rfl)) dL_keep_4 ⟨Nat.le_of_ble_eq_true rfl, Nat.le_of_ble_eq_true rfl⟩) G (fun k q ce H locs hr2 G h1 h2 h3 => ?_) (fun v ad' H locs hr2 hag G => ?_)
  · have ek : outv x res.2 = x := by rw [hr2]; rfl
    have hk := hk k hr2
    subst hk
    refine X_h1 (pc := 4) (k := 2) (x := ⟨0, 9, 12, 15⟩) X G hT (by decide) (by decide) clx_L_15 (by decide) h1 h2 h3 ?_
    refine lv_astore_n (pc := 12) (lv' := [(3, .ref q), (0, .ref (ad 50)), (1, .int p1), (2, .ref (ad 44))]) X.1 X.2.1 dL_keep_12 rfl hl (by decide) rfl (fun ls hl => ?_)
    refine lv_iconst (pc := 13) (v := 1) X.1 X.2.1 dL_keep_13 (by decide) ?_
    exact C_iret (pc := 14) X G hr hlk dL_keep_14 (by rw [hr2]; rfl) (Ag.rf _ _) (by rw [ek]) (Nat.le_of_ble_eq_true rfl) (Nat.le_of_ble_eq_true rfl)
  · have ek : outv x res.2 = v.toInt64 := by rw [hr2]; rfl
    refine lv_i2l (pc := 7) X.1 X.2.1 dL_keep_7 rfl ?_
    refine m_lastO (pc := 8) (i := 44) (M' := celB κ ad' (celO κ r1 (outv x res.2)) res.1) X G (hag 44 (Or.inl (by decide))).symm celB_O2 (by rw [ek]; exact celB_O2) (fun j hj => celB_O3 j hj) dL_keep_8 (fun H locs G => ?_)
    refine lv_goto (pc := 9) (tgt := 15) X.1 X.2.1 dL_keep_9 (by decide) ?_
    refine lv_iconst (pc := 15) (v := 0) X.1 X.2.1 dL_keep_15 (by decide) ?_
    exact C_iret (pc := 16) X G hr hlk dL_keep_16 (by rw [hr2]; rfl) hag rfl (Nat.le_of_ble_eq_true rfl) (Nat.le_of_ble_eq_true rfl)
theorem cw_yL_goBack : Cond.codeWith yL_goBack cL_goBack 4 (some .int) [(0, 9, 12, 15), (0, 9, 15, 20)] ∈ G0 := gq (List.mem_of_getElem? (i := 751) (by decide +kernel)) rfl
theorem g_L_45 : GoodIn G0 (wsV RL 45 RX7 yX7_goBack (gw yX7_goBack cX7_goBack 3 (some (FieldType.int)))) := gv_in ml_L_45 im_yX7_goBack se_yX7_goBack ini_X7 cd_yX7_goBack
theorem hdL_yX7_goBack : yX7_goBack.cls = RX7 ∧ yX7_goBack.cls ≠ "java/lang/invoke/MethodHandle" ∧ yX7_goBack.cls ≠ "java/lang/invoke/VarHandle" ∧ (parseMethodDescriptor yX7_goBack.desc).map (fun d => d.parameters.length) = some 1 := by decide +kernel
abbrev rmL_goBack : Room := { frames := 8, cells := 6, slots := 41, locals := 163 }
set_option maxHeartbeats 4000000 in
set_option maxRecDepth 100000 in
theorem wgoBack (l : Launch) (hfl : l.stackTraces = false) (D : va_G) (κ : Nat → ClassId) (A : Nat → Prop) (ad : Nat → Nat) (r1 : Nat → Option va_E) (x : Int64) (b : BS) (p1 : Int32) (res : BS × (Nat ⊕ Int32)) (h : F7_goBack b p1 = some res) (hk : ∀ k, res.2 = .inl k → k = 2 ∨ k = 3) : Met l yL_goBack (gwh yL_goBack cL_goBack 4 (some .int) [(0, 9, 12, 15), (0, 9, 15, 20)]) rmL_goBack (va_Pc [.ref (ad 50), .int p1, .ref (ad 44)] (MW D κ A ad (celB κ ad (celO κ r1 x) b))) (QIA D A (fun ad' => Ag b.2.2 ad ad') (fun ad' => celB κ ad' (celO κ r1 (outv x res.2)) res.1) (codeOf 2 res.2)) 6 41 A := by
  refine met_ofH (own := RL) (by decide +kernel) rfl (Nat.le_of_ble_eq_true rfl) ?_
  intro p e s m below meth c ls X hr hlk hT G hl
  have hl : lv_has ls 4 [(0, .ref (ad 50)), (1, .int p1), (2, .ref (ad 44))] := hl
  refine lv_aload_n (pc := 0) X.1 X.2.1 dL_goBack_0 rfl (lv_at hl 2 rfl) ?_
  refine lv_iconst (pc := 1) (v := 0) X.1 X.2.1 dL_goBack_1 (by decide) ?_
  refine lv_aload_n (pc := 2) X.1 X.2.1 dL_goBack_2 rfl (lv_at hl 0 rfl) ?_
  refine lv_iload_n (pc := 3) X.1 X.2.1 dL_goBack_3 rfl (lv_at hl 1 rfl) ?_
  refine X_cIA (X_runV (pc := 4) (i := 50) (As := [.int p1]) (rest := [.int 0, .ref (ad 44)]) (M' := celB κ ad (celO κ r1 x) res.1) (r := res.2) X G (rm := rm7_goBack) rfl rfl rfl (c7_goBack l hfl D κ A ad (celO κ r1 x) b p1 res h) (B_rcv (ci := 7) (okL50 _) (by decide)) rfl g_L_45 hdL_yX7_goBack ⟨Nat.le_of_ble_eq_true rfl, Nat.le_of_ble_eq_true rfl⟩ rfl hl rfl (lv_room (Nat.le_of_ble_eq_true rfl)) dL_goBack_4 ⟨Nat.le_of_ble_eq_true rfl, Nat.le_of_ble_eq_true rfl⟩) G (fun k q ce H locs hr2 G h1 h2 h3 => ?_) (fun v ad' H locs hr2 hag G => ?_)
  · have ek : outv x res.2 = x := by rw [hr2]; rfl
    have hk := hk k hr2
    rcases hk with rfl | rfl
    · refine X_h1 (pc := 4) (k := 2) (x := ⟨0, 9, 12, 15⟩) X G hT (by decide) (by decide) clx_L_15 (by decide) h1 h2 h3 ?_
      refine lv_astore_n (pc := 12) (lv' := [(3, .ref q), (0, .ref (ad 50)), (1, .int p1), (2, .ref (ad 44))]) X.1 X.2.1 dL_goBack_12 rfl hl (by decide) rfl (fun ls hl => ?_)
      refine lv_iconst (pc := 13) (v := 1) X.1 X.2.1 dL_goBack_13 (by decide) ?_
      exact C_iret (pc := 14) X G hr hlk dL_goBack_14 (by rw [hr2]; rfl) (Ag.rf _ _) (by rw [ek]) (Nat.le_of_ble_eq_true rfl) (Nat.le_of_ble_eq_true rfl)
    · refine X_h2 (pc := 4) (k := 3) (k0 := 2) (x0 := ⟨0, 9, 12, 15⟩) (x := ⟨0, 9, 15, 20⟩) X G hT (by decide) clx_L_15 (by decide) (by decide) (by decide) clx_L_20 (by decide) h1 h2 h3 ?_
      refine lv_astore_n (pc := 15) (lv' := [(3, .ref q), (0, .ref (ad 50)), (1, .int p1), (2, .ref (ad 44))]) X.1 X.2.1 dL_goBack_15 rfl hl (by decide) rfl (fun ls hl => ?_)
      refine lv_iconst (pc := 16) (v := 2) X.1 X.2.1 dL_goBack_16 (by decide) ?_
      exact C_iret (pc := 17) X G hr hlk dL_goBack_17 (by rw [hr2]; rfl) (Ag.rf _ _) (by rw [ek]) (Nat.le_of_ble_eq_true rfl) (Nat.le_of_ble_eq_true rfl)
  · have ek : outv x res.2 = v.toInt64 := by rw [hr2]; rfl
    refine lv_i2l (pc := 7) X.1 X.2.1 dL_goBack_7 rfl ?_
    refine m_lastO (pc := 8) (i := 44) (M' := celB κ ad' (celO κ r1 (outv x res.2)) res.1) X G (hag 44 (Or.inl (by decide))).symm celB_O2 (by rw [ek]; exact celB_O2) (fun j hj => celB_O3 j hj) dL_goBack_8 (fun H locs G => ?_)
    refine lv_goto (pc := 9) (tgt := 18) X.1 X.2.1 dL_goBack_9 (by decide) ?_
    refine lv_iconst (pc := 18) (v := 0) X.1 X.2.1 dL_goBack_18 (by decide) ?_
    exact C_iret (pc := 19) X G hr hlk dL_goBack_19 (by rw [hr2]; rfl) hag rfl (Nat.le_of_ble_eq_true rfl) (Nat.le_of_ble_eq_true rfl)
theorem cw_yL_body : Cond.codeWith yL_body cL_body 5 (some .int) [(0, 10, 13, 13), (0, 10, 17, 15)] ∈ G0 := gq (List.mem_of_getElem? (i := 764) (by decide +kernel)) rfl
theorem g_L_48 : GoodIn G0 (wsV RL 48 RX7 yX7_body (gw yX7_body cX7_body 4 (some (FieldType.int)))) := gv_in ml_L_48 im_yX7_body se_yX7_body ini_X7 cd_yX7_body
theorem hdL_yX7_body : yX7_body.cls = RX7 ∧ yX7_body.cls ≠ "java/lang/invoke/MethodHandle" ∧ yX7_body.cls ≠ "java/lang/invoke/VarHandle" ∧ (parseMethodDescriptor yX7_body.desc).map (fun d => d.parameters.length) = some 2 := by decide +kernel
abbrev rmL_body : Room := { frames := 8, cells := 2, slots := 12, locals := 126 }
set_option maxHeartbeats 4000000 in
set_option maxRecDepth 100000 in
theorem wbody (l : Launch) (hfl : l.stackTraces = false) (D : va_G) (κ : Nat → ClassId) (A : Nat → Prop) (ad : Nat → Nat) (r1 : Nat → Option va_E) (x : Int64) (b : BS) (p1 : Int32) (p2 : Int32) (res : BS × (Nat ⊕ Int32)) (h : F7_body b p1 p2 = some res) (hk : ∀ k, res.2 = .inl k → k = 1 ∨ k = 2) : Met l yL_body (gwh yL_body cL_body 5 (some .int) [(0, 10, 13, 13), (0, 10, 17, 15)]) rmL_body (va_Pc [.ref (ad 50), .int p1, .int p2, .ref (ad 44)] (MW D κ A ad (celB κ ad (celO κ r1 x) b))) (QIA D A (fun ad' => Ag b.2.2 ad ad') (fun ad' => celB κ ad' (celO κ r1 (outv x res.2)) res.1) (codeOf 1 res.2)) 2 12 A := by
  refine met_ofH (own := RL) (by decide +kernel) rfl (Nat.le_of_ble_eq_true rfl) ?_
  intro p e s m below meth c ls X hr hlk hT G hl
  have hl : lv_has ls 5 [(0, .ref (ad 50)), (1, .int p1), (2, .int p2), (3, .ref (ad 44))] := hl
  refine lv_aload_n (pc := 0) X.1 X.2.1 dL_body_0 rfl (lv_at hl 3 rfl) ?_
  refine lv_iconst (pc := 1) (v := 0) X.1 X.2.1 dL_body_1 (by decide) ?_
  refine lv_aload_n (pc := 2) X.1 X.2.1 dL_body_2 rfl (lv_at hl 0 rfl) ?_
  refine lv_iload_n (pc := 3) X.1 X.2.1 dL_body_3 rfl (lv_at hl 1 rfl) ?_
  refine lv_iload_n (pc := 4) X.1 X.2.1 dL_body_4 rfl (lv_at hl 2 rfl) ?_
  refine X_cI (X_runV (pc := 5) (i := 50) (As := [.int p1, .int p2]) (rest := [.int 0, .ref (ad 44)]) (M' := celB κ ad (celO κ r1 x) res.1) (r := res.2) X G (rm := rm7_body) rfl rfl rfl (c7_body l hfl D κ A ad (celO κ r1 x) b p1 p2 res h) (B_rcv (ci := 7) (okL50 _) (by decide)) rfl g_L_48 hdL_yX7_body ⟨Nat.le_of_ble_eq_true rfl, Nat.le_of_ble_eq_true rfl⟩ rfl hl rfl (lv_room (Nat.le_of_ble_eq_true rfl)) dL_body_5 ⟨Nat.le_of_ble_eq_true rfl, Nat.le_of_ble_eq_true rfl⟩) G (fun k q ce H locs hr2 G h1 h2 h3 => ?_) (fun v ad' H locs hr2 hag G => ?_)
  · have ek : outv x res.2 = x := by rw [hr2]; rfl
    have hk := hk k hr2
    rcases hk with rfl | rfl
    · refine X_h1 (pc := 5) (k := 1) (x := ⟨0, 10, 13, 13⟩) X G hT (by decide) (by decide) clx_L_13 (by decide) h1 h2 h3 ?_
      refine lv_astore (pc := 13) (lv' := [(4, .ref q), (0, .ref (ad 50)), (1, .int p1), (2, .int p2), (3, .ref (ad 44))]) X.1 X.2.1 dL_body_13 hl (by decide) rfl (fun ls hl => ?_)
      refine lv_iconst (pc := 15) (v := 1) X.1 X.2.1 dL_body_15 (by decide) ?_
      exact C_iret (pc := 16) X G hr hlk dL_body_16 (by rw [hr2]; rfl) (Ag.rf _ _) (by rw [ek]) (Nat.le_of_ble_eq_true rfl) (Nat.le_of_ble_eq_true rfl)
    · refine X_h2 (pc := 5) (k := 2) (k0 := 1) (x0 := ⟨0, 10, 13, 13⟩) (x := ⟨0, 10, 17, 15⟩) X G hT (by decide) clx_L_13 (by decide) (by decide) (by decide) clx_L_15 (by decide) h1 h2 h3 ?_
      refine lv_astore (pc := 17) (lv' := [(4, .ref q), (0, .ref (ad 50)), (1, .int p1), (2, .int p2), (3, .ref (ad 44))]) X.1 X.2.1 dL_body_17 hl (by decide) rfl (fun ls hl => ?_)
      refine lv_iconst (pc := 19) (v := 2) X.1 X.2.1 dL_body_19 (by decide) ?_
      exact C_iret (pc := 20) X G hr hlk dL_body_20 (by rw [hr2]; rfl) (Ag.rf _ _) (by rw [ek]) (Nat.le_of_ble_eq_true rfl) (Nat.le_of_ble_eq_true rfl)
  · have ek : outv x res.2 = v.toInt64 := by rw [hr2]; rfl
    subst hag
    refine lv_i2l (pc := 8) X.1 X.2.1 dL_body_8 rfl ?_
    refine m_lastO (pc := 9) (i := 44) (M' := celB κ ad' (celO κ r1 (outv x res.2)) res.1) X G rfl celB_O2 (by rw [ek]; exact celB_O2) (fun j hj => celB_O3 j hj) dL_body_9 (fun H locs G => ?_)
    refine lv_goto (pc := 10) (tgt := 21) X.1 X.2.1 dL_body_10 (by decide) ?_
    refine lv_iconst (pc := 21) (v := 0) X.1 X.2.1 dL_body_21 (by decide) ?_
    exact C_iret (pc := 22) X G hr hlk dL_body_22 (by rw [hr2]; rfl) (Ag.rf _ _) rfl (Nat.le_of_ble_eq_true rfl) (Nat.le_of_ble_eq_true rfl)
theorem cw_yL_uses : Cond.codeWith yL_uses cL_uses 5 (some .int) [(0, 10, 13, 13), (0, 10, 17, 15)] ∈ G0 := gq (List.mem_of_getElem? (i := 775) (by decide +kernel)) rfl
theorem g_L_51 : GoodIn G0 (wsV RL 51 RX7 yX7_uses (gw yX7_uses cX7_uses 3 (some (FieldType.int)))) := gv_in ml_L_51 im_yX7_uses se_yX7_uses ini_X7 cd_yX7_uses
theorem hdL_yX7_uses : yX7_uses.cls = RX7 ∧ yX7_uses.cls ≠ "java/lang/invoke/MethodHandle" ∧ yX7_uses.cls ≠ "java/lang/invoke/VarHandle" ∧ (parseMethodDescriptor yX7_uses.desc).map (fun d => d.parameters.length) = some 2 := by decide +kernel
abbrev rmL_uses : Room := { frames := 8, cells := 2, slots := 12, locals := 125 }
set_option maxHeartbeats 4000000 in
set_option maxRecDepth 100000 in
theorem wuses (l : Launch) (hfl : l.stackTraces = false) (D : va_G) (κ : Nat → ClassId) (A : Nat → Prop) (ad : Nat → Nat) (r1 : Nat → Option va_E) (x : Int64) (b : BS) (p1 : Int32) (p2 : Int32) (res : BS × (Nat ⊕ Int32)) (h : F7_uses b p1 p2 = some res) (hk : ∀ k, res.2 = .inl k → k = 1 ∨ k = 2) : Met l yL_uses (gwh yL_uses cL_uses 5 (some .int) [(0, 10, 13, 13), (0, 10, 17, 15)]) rmL_uses (va_Pc [.ref (ad 50), .int p1, .int p2, .ref (ad 44)] (MW D κ A ad (celB κ ad (celO κ r1 x) b))) (QIA D A (fun ad' => Ag b.2.2 ad ad') (fun ad' => celB κ ad' (celO κ r1 (outv x res.2)) res.1) (codeOf 1 res.2)) 2 12 A := by
  refine met_ofH (own := RL) (by decide +kernel) rfl (Nat.le_of_ble_eq_true rfl) ?_
  intro p e s m below meth c ls X hr hlk hT G hl
  have hl : lv_has ls 5 [(0, .ref (ad 50)), (1, .int p1), (2, .int p2), (3, .ref (ad 44))] := hl
  refine lv_aload_n (pc := 0) X.1 X.2.1 dL_uses_0 rfl (lv_at hl 3 rfl) ?_
  refine lv_iconst (pc := 1) (v := 0) X.1 X.2.1 dL_uses_1 (by decide) ?_
  refine lv_aload_n (pc := 2) X.1 X.2.1 dL_uses_2 rfl (lv_at hl 0 rfl) ?_
  refine lv_iload_n (pc := 3) X.1 X.2.1 dL_uses_3 rfl (lv_at hl 1 rfl) ?_
  refine lv_iload_n (pc := 4) X.1 X.2.1 dL_uses_4 rfl (lv_at hl 2 rfl) ?_
  refine X_cI (X_runV (pc := 5) (i := 50) (As := [.int p1, .int p2]) (rest := [.int 0, .ref (ad 44)]) (M' := celB κ ad (celO κ r1 x) res.1) (r := res.2) X G (rm := rm7_uses) rfl rfl rfl (c7_uses l hfl D κ A ad (celO κ r1 x) b p1 p2 res h) (B_rcv (ci := 7) (okL50 _) (by decide)) rfl g_L_51 hdL_yX7_uses ⟨Nat.le_of_ble_eq_true rfl, Nat.le_of_ble_eq_true rfl⟩ rfl hl rfl (lv_room (Nat.le_of_ble_eq_true rfl)) dL_uses_5 ⟨Nat.le_of_ble_eq_true rfl, Nat.le_of_ble_eq_true rfl⟩) G (fun k q ce H locs hr2 G h1 h2 h3 => ?_) (fun v ad' H locs hr2 hag G => ?_)
  · have ek : outv x res.2 = x := by rw [hr2]; rfl
    have hk := hk k hr2
    rcases hk with rfl | rfl
    · refine X_h1 (pc := 5) (k := 1) (x := ⟨0, 10, 13, 13⟩) X G hT (by decide) (by decide) clx_L_13 (by decide) h1 h2 h3 ?_
      refine lv_astore (pc := 13) (lv' := [(4, .ref q), (0, .ref (ad 50)), (1, .int p1), (2, .int p2), (3, .ref (ad 44))]) X.1 X.2.1 dL_uses_13 hl (by decide) rfl (fun ls hl => ?_)
      refine lv_iconst (pc := 15) (v := 1) X.1 X.2.1 dL_uses_15 (by decide) ?_
      exact C_iret (pc := 16) X G hr hlk dL_uses_16 (by rw [hr2]; rfl) (Ag.rf _ _) (by rw [ek]) (Nat.le_of_ble_eq_true rfl) (Nat.le_of_ble_eq_true rfl)
    · refine X_h2 (pc := 5) (k := 2) (k0 := 1) (x0 := ⟨0, 10, 13, 13⟩) (x := ⟨0, 10, 17, 15⟩) X G hT (by decide) clx_L_13 (by decide) (by decide) (by decide) clx_L_15 (by decide) h1 h2 h3 ?_
      refine lv_astore (pc := 17) (lv' := [(4, .ref q), (0, .ref (ad 50)), (1, .int p1), (2, .int p2), (3, .ref (ad 44))]) X.1 X.2.1 dL_uses_17 hl (by decide) rfl (fun ls hl => ?_)
      refine lv_iconst (pc := 19) (v := 2) X.1 X.2.1 dL_uses_19 (by decide) ?_
      exact C_iret (pc := 20) X G hr hlk dL_uses_20 (by rw [hr2]; rfl) (Ag.rf _ _) (by rw [ek]) (Nat.le_of_ble_eq_true rfl) (Nat.le_of_ble_eq_true rfl)
  · have ek : outv x res.2 = v.toInt64 := by rw [hr2]; rfl
    subst hag
    refine lv_i2l (pc := 8) X.1 X.2.1 dL_uses_8 rfl ?_
    refine m_lastO (pc := 9) (i := 44) (M' := celB κ ad' (celO κ r1 (outv x res.2)) res.1) X G rfl celB_O2 (by rw [ek]; exact celB_O2) (fun j hj => celB_O3 j hj) dL_uses_9 (fun H locs G => ?_)
    refine lv_goto (pc := 10) (tgt := 21) X.1 X.2.1 dL_uses_10 (by decide) ?_
    refine lv_iconst (pc := 21) (v := 0) X.1 X.2.1 dL_uses_21 (by decide) ?_
    exact C_iret (pc := 22) X G hr hlk dL_uses_22 (by rw [hr2]; rfl) (Ag.rf _ _) rfl (Nat.le_of_ble_eq_true rfl) (Nat.le_of_ble_eq_true rfl)
theorem cw_yL_chain : Cond.codeWith yL_chain cL_chain 4 (some .int) [(0, 9, 12, 13)] ∈ G0 := gq (List.mem_of_getElem? (i := 798) (by decide +kernel)) rfl
theorem g_L_54 : GoodIn G0 (wsV RL 54 RX7 yX7_chain (gw yX7_chain cX7_chain 2 (some (FieldType.int)))) := gv_in ml_L_54 im_yX7_chain se_yX7_chain ini_X7 cd_yX7_chain
theorem hdL_yX7_chain : yX7_chain.cls = RX7 ∧ yX7_chain.cls ≠ "java/lang/invoke/MethodHandle" ∧ yX7_chain.cls ≠ "java/lang/invoke/VarHandle" ∧ (parseMethodDescriptor yX7_chain.desc).map (fun d => d.parameters.length) = some 1 := by decide +kernel
abbrev rmL_chain : Room := { frames := 8, cells := 1, slots := 6, locals := 123 }
set_option maxHeartbeats 4000000 in
set_option maxRecDepth 100000 in
theorem wchain (l : Launch) (hfl : l.stackTraces = false) (D : va_G) (κ : Nat → ClassId) (A : Nat → Prop) (ad : Nat → Nat) (r1 : Nat → Option va_E) (x : Int64) (b : BS) (p1 : Int32) (res : BS × (Nat ⊕ Int32)) (h : F7_chain b p1 = some res) (hk : ∀ k, res.2 = .inl k → k = 1) : Met l yL_chain (gwh yL_chain cL_chain 4 (some .int) [(0, 9, 12, 13)]) rmL_chain (va_Pc [.ref (ad 50), .int p1, .ref (ad 44)] (MW D κ A ad (celB κ ad (celO κ r1 x) b))) (QIA D A (fun ad' => Ag b.2.2 ad ad') (fun ad' => celB κ ad' (celO κ r1 (outv x res.2)) res.1) (codeOf 1 res.2)) 1 6 A := by
  refine met_ofH (own := RL) (by decide +kernel) rfl (Nat.le_of_ble_eq_true rfl) ?_
  intro p e s m below meth c ls X hr hlk hT G hl
  have hl : lv_has ls 4 [(0, .ref (ad 50)), (1, .int p1), (2, .ref (ad 44))] := hl
  refine lv_aload_n (pc := 0) X.1 X.2.1 dL_chain_0 rfl (lv_at hl 2 rfl) ?_
  refine lv_iconst (pc := 1) (v := 0) X.1 X.2.1 dL_chain_1 (by decide) ?_
  refine lv_aload_n (pc := 2) X.1 X.2.1 dL_chain_2 rfl (lv_at hl 0 rfl) ?_
  refine lv_iload_n (pc := 3) X.1 X.2.1 dL_chain_3 rfl (lv_at hl 1 rfl) ?_
  refine X_cI (X_runV (pc := 4) (i := 50) (As := [.int p1]) (rest := [.int 0, .ref (ad 44)]) (M' := celB κ ad (celO κ r1 x) res.1) (r := res.2) X G (rm := rm7_chain) rfl rfl rfl (c7_chain l hfl D κ A ad (celO κ r1 x) b p1 res h) (B_rcv (ci := 7) (okL50 _) (by decide)) rfl g_L_54 hdL_yX7_chain ⟨Nat.le_of_ble_eq_true rfl, Nat.le_of_ble_eq_true rfl⟩ rfl hl rfl (lv_room (Nat.le_of_ble_eq_true rfl)) dL_chain_4 ⟨Nat.le_of_ble_eq_true rfl, Nat.le_of_ble_eq_true rfl⟩) G (fun k q ce H locs hr2 G h1 h2 h3 => ?_) (fun v ad' H locs hr2 hag G => ?_)
  · have ek : outv x res.2 = x := by rw [hr2]; rfl
    have hk := hk k hr2
    subst hk
    refine X_h1 (pc := 4) (k := 1) (x := ⟨0, 9, 12, 13⟩) X G hT (by decide) (by decide) clx_L_13 (by decide) h1 h2 h3 ?_
    refine lv_astore_n (pc := 12) (lv' := [(3, .ref q), (0, .ref (ad 50)), (1, .int p1), (2, .ref (ad 44))]) X.1 X.2.1 dL_chain_12 rfl hl (by decide) rfl (fun ls hl => ?_)
    refine lv_iconst (pc := 13) (v := 1) X.1 X.2.1 dL_chain_13 (by decide) ?_
    exact C_iret (pc := 14) X G hr hlk dL_chain_14 (by rw [hr2]; rfl) (Ag.rf _ _) (by rw [ek]) (Nat.le_of_ble_eq_true rfl) (Nat.le_of_ble_eq_true rfl)
  · have ek : outv x res.2 = v.toInt64 := by rw [hr2]; rfl
    subst hag
    refine lv_i2l (pc := 7) X.1 X.2.1 dL_chain_7 rfl ?_
    refine m_lastO (pc := 8) (i := 44) (M' := celB κ ad' (celO κ r1 (outv x res.2)) res.1) X G rfl celB_O2 (by rw [ek]; exact celB_O2) (fun j hj => celB_O3 j hj) dL_chain_8 (fun H locs G => ?_)
    refine lv_goto (pc := 9) (tgt := 15) X.1 X.2.1 dL_chain_9 (by decide) ?_
    refine lv_iconst (pc := 15) (v := 0) X.1 X.2.1 dL_chain_15 (by decide) ?_
    exact C_iret (pc := 16) X G hr hlk dL_chain_16 (by rw [hr2]; rfl) (Ag.rf _ _) rfl (Nat.le_of_ble_eq_true rfl) (Nat.le_of_ble_eq_true rfl)
theorem cw_yL_ifDefined : Cond.codeWith yL_ifDefined cL_ifDefined 4 (some .int) [(0, 9, 12, 13), (0, 9, 15, 15)] ∈ G0 := gq (List.mem_of_getElem? (i := 809) (by decide +kernel)) rfl
theorem g_L_57 : GoodIn G0 (wsV RL 57 RX7 yX7_ifDefined (gw yX7_ifDefined cX7_ifDefined 2 (some (FieldType.int)))) := gv_in ml_L_57 im_yX7_ifDefined se_yX7_ifDefined ini_X7 cd_yX7_ifDefined
theorem hdL_yX7_ifDefined : yX7_ifDefined.cls = RX7 ∧ yX7_ifDefined.cls ≠ "java/lang/invoke/MethodHandle" ∧ yX7_ifDefined.cls ≠ "java/lang/invoke/VarHandle" ∧ (parseMethodDescriptor yX7_ifDefined.desc).map (fun d => d.parameters.length) = some 1 := by decide +kernel
abbrev rmL_ifDefined : Room := { frames := 8, cells := 2, slots := 12, locals := 123 }
set_option maxHeartbeats 4000000 in
set_option maxRecDepth 100000 in
theorem wifDefined (l : Launch) (hfl : l.stackTraces = false) (D : va_G) (κ : Nat → ClassId) (A : Nat → Prop) (ad : Nat → Nat) (r1 : Nat → Option va_E) (x : Int64) (b : BS) (p1 : Int32) (res : BS × (Nat ⊕ Int32)) (h : F7_ifDefined b p1 = some res) (hk : ∀ k, res.2 = .inl k → k = 1 ∨ k = 2) : Met l yL_ifDefined (gwh yL_ifDefined cL_ifDefined 4 (some .int) [(0, 9, 12, 13), (0, 9, 15, 15)]) rmL_ifDefined (va_Pc [.ref (ad 50), .int p1, .ref (ad 44)] (MW D κ A ad (celB κ ad (celO κ r1 x) b))) (QIA D A (fun ad' => Ag b.2.2 ad ad') (fun ad' => celB κ ad' (celO κ r1 (outv x res.2)) res.1) (codeOf 1 res.2)) 2 12 A := by
  refine met_ofH (own := RL) (by decide +kernel) rfl (Nat.le_of_ble_eq_true rfl) ?_
  intro p e s m below meth c ls X hr hlk hT G hl
  have hl : lv_has ls 4 [(0, .ref (ad 50)), (1, .int p1), (2, .ref (ad 44))] := hl
  refine lv_aload_n (pc := 0) X.1 X.2.1 dL_ifDefined_0 rfl (lv_at hl 2 rfl) ?_
  refine lv_iconst (pc := 1) (v := 0) X.1 X.2.1 dL_ifDefined_1 (by decide) ?_
  refine lv_aload_n (pc := 2) X.1 X.2.1 dL_ifDefined_2 rfl (lv_at hl 0 rfl) ?_
  refine lv_iload_n (pc := 3) X.1 X.2.1 dL_ifDefined_3 rfl (lv_at hl 1 rfl) ?_
  refine X_cI (X_runV (pc := 4) (i := 50) (As := [.int p1]) (rest := [.int 0, .ref (ad 44)]) (M' := celB κ ad (celO κ r1 x) res.1) (r := res.2) X G (rm := rm7_ifDefined) rfl rfl rfl (c7_ifDefined l hfl D κ A ad (celO κ r1 x) b p1 res h) (B_rcv (ci := 7) (okL50 _) (by decide)) rfl g_L_57 hdL_yX7_ifDefined ⟨Nat.le_of_ble_eq_true rfl, Nat.le_of_ble_eq_true rfl⟩ rfl hl rfl (lv_room (Nat.le_of_ble_eq_true rfl)) dL_ifDefined_4 ⟨Nat.le_of_ble_eq_true rfl, Nat.le_of_ble_eq_true rfl⟩) G (fun k q ce H locs hr2 G h1 h2 h3 => ?_) (fun v ad' H locs hr2 hag G => ?_)
  · have ek : outv x res.2 = x := by rw [hr2]; rfl
    have hk := hk k hr2
    rcases hk with rfl | rfl
    · refine X_h1 (pc := 4) (k := 1) (x := ⟨0, 9, 12, 13⟩) X G hT (by decide) (by decide) clx_L_13 (by decide) h1 h2 h3 ?_
      refine lv_astore_n (pc := 12) (lv' := [(3, .ref q), (0, .ref (ad 50)), (1, .int p1), (2, .ref (ad 44))]) X.1 X.2.1 dL_ifDefined_12 rfl hl (by decide) rfl (fun ls hl => ?_)
      refine lv_iconst (pc := 13) (v := 1) X.1 X.2.1 dL_ifDefined_13 (by decide) ?_
      exact C_iret (pc := 14) X G hr hlk dL_ifDefined_14 (by rw [hr2]; rfl) (Ag.rf _ _) (by rw [ek]) (Nat.le_of_ble_eq_true rfl) (Nat.le_of_ble_eq_true rfl)
    · refine X_h2 (pc := 4) (k := 2) (k0 := 1) (x0 := ⟨0, 9, 12, 13⟩) (x := ⟨0, 9, 15, 15⟩) X G hT (by decide) clx_L_13 (by decide) (by decide) (by decide) clx_L_15 (by decide) h1 h2 h3 ?_
      refine lv_astore_n (pc := 15) (lv' := [(3, .ref q), (0, .ref (ad 50)), (1, .int p1), (2, .ref (ad 44))]) X.1 X.2.1 dL_ifDefined_15 rfl hl (by decide) rfl (fun ls hl => ?_)
      refine lv_iconst (pc := 16) (v := 2) X.1 X.2.1 dL_ifDefined_16 (by decide) ?_
      exact C_iret (pc := 17) X G hr hlk dL_ifDefined_17 (by rw [hr2]; rfl) (Ag.rf _ _) (by rw [ek]) (Nat.le_of_ble_eq_true rfl) (Nat.le_of_ble_eq_true rfl)
  · have ek : outv x res.2 = v.toInt64 := by rw [hr2]; rfl
    subst hag
    refine lv_i2l (pc := 7) X.1 X.2.1 dL_ifDefined_7 rfl ?_
    refine m_lastO (pc := 8) (i := 44) (M' := celB κ ad' (celO κ r1 (outv x res.2)) res.1) X G rfl celB_O2 (by rw [ek]; exact celB_O2) (fun j hj => celB_O3 j hj) dL_ifDefined_8 (fun H locs G => ?_)
    refine lv_goto (pc := 9) (tgt := 18) X.1 X.2.1 dL_ifDefined_9 (by decide) ?_
    refine lv_iconst (pc := 18) (v := 0) X.1 X.2.1 dL_ifDefined_18 (by decide) ?_
    exact C_iret (pc := 19) X G hr hlk dL_ifDefined_19 (by rw [hr2]; rfl) (Ag.rf _ _) rfl (Nat.le_of_ble_eq_true rfl) (Nat.le_of_ble_eq_true rfl)
theorem cw_yL_sign : Cond.codeWith yL_sign cL_sign 4 (some .int) [(0, 9, 12, 15)] ∈ G0 := gq (List.mem_of_getElem? (i := 820) (by decide +kernel)) rfl
theorem g_L_60 : GoodIn G0 (wsV RL 60 RX7 yX7_sign (gw yX7_sign cX7_sign 3 (some (FieldType.int)))) := gv_in ml_L_60 im_yX7_sign se_yX7_sign ini_X7 cd_yX7_sign
theorem hdL_yX7_sign : yX7_sign.cls = RX7 ∧ yX7_sign.cls ≠ "java/lang/invoke/MethodHandle" ∧ yX7_sign.cls ≠ "java/lang/invoke/VarHandle" ∧ (parseMethodDescriptor yX7_sign.desc).map (fun d => d.parameters.length) = some 1 := by decide +kernel
abbrev rmL_sign : Room := { frames := 7, cells := 1, slots := 6, locals := 104 }
set_option maxHeartbeats 4000000 in
set_option maxRecDepth 100000 in
theorem wsign (l : Launch) (hfl : l.stackTraces = false) (D : va_G) (κ : Nat → ClassId) (A : Nat → Prop) (ad : Nat → Nat) (r1 : Nat → Option va_E) (x : Int64) (b : BS) (p1 : Int32) (res : BS × (Nat ⊕ Int32)) (h : F7_sign b p1 = some res) (hk : ∀ k, res.2 = .inl k → k = 2) : Met l yL_sign (gwh yL_sign cL_sign 4 (some .int) [(0, 9, 12, 15)]) rmL_sign (va_Pc [.ref (ad 50), .int p1, .ref (ad 44)] (MW D κ A ad (celB κ ad (celO κ r1 x) b))) (QIA D A (fun ad' => Ag b.2.2 ad ad') (fun ad' => celB κ ad' (celO κ r1 (outv x res.2)) res.1) (codeOf 2 res.2)) 1 6 A := by
  refine met_ofH (own := RL) (by decide +kernel) rfl (Nat.le_of_ble_eq_true rfl) ?_
  intro p e s m below meth c ls X hr hlk hT G hl
  have hl : lv_has ls 4 [(0, .ref (ad 50)), (1, .int p1), (2, .ref (ad 44))] := hl
  refine lv_aload_n (pc := 0) X.1 X.2.1 dL_sign_0 rfl (lv_at hl 2 rfl) ?_
  refine lv_iconst (pc := 1) (v := 0) X.1 X.2.1 dL_sign_1 (by decide) ?_
  refine lv_aload_n (pc := 2) X.1 X.2.1 dL_sign_2 rfl (lv_at hl 0 rfl) ?_
  refine lv_iload_n (pc := 3) X.1 X.2.1 dL_sign_3 rfl (lv_at hl 1 rfl) ?_
  refine X_cI (X_runV (pc := 4) (i := 50) (As := [.int p1]) (rest := [.int 0, .ref (ad 44)]) (M' := celB κ ad (celO κ r1 x) res.1) (r := res.2) X G (rm := rm7_sign) rfl rfl rfl (c7_sign l hfl D κ A ad (celO κ r1 x) b p1 res h) (B_rcv (ci := 7) (okL50 _) (by decide)) rfl g_L_60 hdL_yX7_sign ⟨Nat.le_of_ble_eq_true rfl, Nat.le_of_ble_eq_true rfl⟩ rfl hl rfl (lv_room (Nat.le_of_ble_eq_true rfl)) dL_sign_4 ⟨Nat.le_of_ble_eq_true rfl, Nat.le_of_ble_eq_true rfl⟩) G (fun k q ce H locs hr2 G h1 h2 h3 => ?_) (fun v ad' H locs hr2 hag G => ?_)
  · have ek : outv x res.2 = x := by rw [hr2]; rfl
    have hk := hk k hr2
    subst hk
    refine X_h1 (pc := 4) (k := 2) (x := ⟨0, 9, 12, 15⟩) X G hT (by decide) (by decide) clx_L_15 (by decide) h1 h2 h3 ?_
    refine lv_astore_n (pc := 12) (lv' := [(3, .ref q), (0, .ref (ad 50)), (1, .int p1), (2, .ref (ad 44))]) X.1 X.2.1 dL_sign_12 rfl hl (by decide) rfl (fun ls hl => ?_)
    refine lv_iconst (pc := 13) (v := 1) X.1 X.2.1 dL_sign_13 (by decide) ?_
    exact C_iret (pc := 14) X G hr hlk dL_sign_14 (by rw [hr2]; rfl) (Ag.rf _ _) (by rw [ek]) (Nat.le_of_ble_eq_true rfl) (Nat.le_of_ble_eq_true rfl)
  · have ek : outv x res.2 = v.toInt64 := by rw [hr2]; rfl
    subst hag
    refine lv_i2l (pc := 7) X.1 X.2.1 dL_sign_7 rfl ?_
    refine m_lastO (pc := 8) (i := 44) (M' := celB κ ad' (celO κ r1 (outv x res.2)) res.1) X G rfl celB_O2 (by rw [ek]; exact celB_O2) (fun j hj => celB_O3 j hj) dL_sign_8 (fun H locs G => ?_)
    refine lv_goto (pc := 9) (tgt := 15) X.1 X.2.1 dL_sign_9 (by decide) ?_
    refine lv_iconst (pc := 15) (v := 0) X.1 X.2.1 dL_sign_15 (by decide) ?_
    exact C_iret (pc := 16) X G hr hlk dL_sign_16 (by rw [hr2]; rfl) (Ag.rf _ _) rfl (Nat.le_of_ble_eq_true rfl) (Nat.le_of_ble_eq_true rfl)
theorem cw_yL_result : Cond.codeWith yL_result cL_result 4 (some .int) [(0, 9, 12, 15)] ∈ G0 := gq (List.mem_of_getElem? (i := 828) (by decide +kernel)) rfl
theorem g_L_63 : GoodIn G0 (wsV RL 63 RX7 yX7_result (gw yX7_result cX7_result 3 (some (FieldType.int)))) := gv_in ml_L_63 im_yX7_result se_yX7_result ini_X7 cd_yX7_result
theorem hdL_yX7_result : yX7_result.cls = RX7 ∧ yX7_result.cls ≠ "java/lang/invoke/MethodHandle" ∧ yX7_result.cls ≠ "java/lang/invoke/VarHandle" ∧ (parseMethodDescriptor yX7_result.desc).map (fun d => d.parameters.length) = some 1 := by decide +kernel
abbrev rmL_result : Room := { frames := 8, cells := 1, slots := 6, locals := 125 }
set_option maxHeartbeats 4000000 in
set_option maxRecDepth 100000 in
theorem wresult (l : Launch) (hfl : l.stackTraces = false) (D : va_G) (κ : Nat → ClassId) (A : Nat → Prop) (ad : Nat → Nat) (r1 : Nat → Option va_E) (x : Int64) (b : BS) (p1 : Int32) (res : BS × (Nat ⊕ Int32)) (h : F7_result b p1 = some res) (hk : ∀ k, res.2 = .inl k → k = 2) : Met l yL_result (gwh yL_result cL_result 4 (some .int) [(0, 9, 12, 15)]) rmL_result (va_Pc [.ref (ad 50), .int p1, .ref (ad 44)] (MW D κ A ad (celB κ ad (celO κ r1 x) b))) (QIA D A (fun ad' => Ag b.2.2 ad ad') (fun ad' => celB κ ad' (celO κ r1 (outv x res.2)) res.1) (codeOf 2 res.2)) 1 6 A := by
  refine met_ofH (own := RL) (by decide +kernel) rfl (Nat.le_of_ble_eq_true rfl) ?_
  intro p e s m below meth c ls X hr hlk hT G hl
  have hl : lv_has ls 4 [(0, .ref (ad 50)), (1, .int p1), (2, .ref (ad 44))] := hl
  refine lv_aload_n (pc := 0) X.1 X.2.1 dL_result_0 rfl (lv_at hl 2 rfl) ?_
  refine lv_iconst (pc := 1) (v := 0) X.1 X.2.1 dL_result_1 (by decide) ?_
  refine lv_aload_n (pc := 2) X.1 X.2.1 dL_result_2 rfl (lv_at hl 0 rfl) ?_
  refine lv_iload_n (pc := 3) X.1 X.2.1 dL_result_3 rfl (lv_at hl 1 rfl) ?_
  refine X_cI (X_runV (pc := 4) (i := 50) (As := [.int p1]) (rest := [.int 0, .ref (ad 44)]) (M' := celB κ ad (celO κ r1 x) res.1) (r := res.2) X G (rm := rm7_result) rfl rfl rfl (c7_result l hfl D κ A ad (celO κ r1 x) b p1 res h) (B_rcv (ci := 7) (okL50 _) (by decide)) rfl g_L_63 hdL_yX7_result ⟨Nat.le_of_ble_eq_true rfl, Nat.le_of_ble_eq_true rfl⟩ rfl hl rfl (lv_room (Nat.le_of_ble_eq_true rfl)) dL_result_4 ⟨Nat.le_of_ble_eq_true rfl, Nat.le_of_ble_eq_true rfl⟩) G (fun k q ce H locs hr2 G h1 h2 h3 => ?_) (fun v ad' H locs hr2 hag G => ?_)
  · have ek : outv x res.2 = x := by rw [hr2]; rfl
    have hk := hk k hr2
    subst hk
    refine X_h1 (pc := 4) (k := 2) (x := ⟨0, 9, 12, 15⟩) X G hT (by decide) (by decide) clx_L_15 (by decide) h1 h2 h3 ?_
    refine lv_astore_n (pc := 12) (lv' := [(3, .ref q), (0, .ref (ad 50)), (1, .int p1), (2, .ref (ad 44))]) X.1 X.2.1 dL_result_12 rfl hl (by decide) rfl (fun ls hl => ?_)
    refine lv_iconst (pc := 13) (v := 1) X.1 X.2.1 dL_result_13 (by decide) ?_
    exact C_iret (pc := 14) X G hr hlk dL_result_14 (by rw [hr2]; rfl) (Ag.rf _ _) (by rw [ek]) (Nat.le_of_ble_eq_true rfl) (Nat.le_of_ble_eq_true rfl)
  · have ek : outv x res.2 = v.toInt64 := by rw [hr2]; rfl
    subst hag
    refine lv_i2l (pc := 7) X.1 X.2.1 dL_result_7 rfl ?_
    refine m_lastO (pc := 8) (i := 44) (M' := celB κ ad' (celO κ r1 (outv x res.2)) res.1) X G rfl celB_O2 (by rw [ek]; exact celB_O2) (fun j hj => celB_O3 j hj) dL_result_8 (fun H locs G => ?_)
    refine lv_goto (pc := 9) (tgt := 15) X.1 X.2.1 dL_result_9 (by decide) ?_
    refine lv_iconst (pc := 15) (v := 0) X.1 X.2.1 dL_result_15 (by decide) ?_
    exact C_iret (pc := 16) X G hr hlk dL_result_16 (by rw [hr2]; rfl) (Ag.rf _ _) rfl (Nat.le_of_ble_eq_true rfl) (Nat.le_of_ble_eq_true rfl)
theorem cw_yL_trace : Cond.codeWith yL_trace cL_trace 5 (some .int) [(0, 10, 13, 15)] ∈ G0 := gq (List.mem_of_getElem? (i := 843) (by decide +kernel)) rfl
theorem g_L_66 : GoodIn G0 (wsV RL 66 RX7 yX7_trace (gw yX7_trace cX7_trace 3 (some (FieldType.int)))) := gv_in ml_L_66 im_yX7_trace se_yX7_trace ini_X7 cd_yX7_trace
theorem hdL_yX7_trace : yX7_trace.cls = RX7 ∧ yX7_trace.cls ≠ "java/lang/invoke/MethodHandle" ∧ yX7_trace.cls ≠ "java/lang/invoke/VarHandle" ∧ (parseMethodDescriptor yX7_trace.desc).map (fun d => d.parameters.length) = some 2 := by decide +kernel
abbrev rmL_trace : Room := { frames := 8, cells := 1, slots := 6, locals := 125 }
set_option maxHeartbeats 4000000 in
set_option maxRecDepth 100000 in
theorem wtrace (l : Launch) (hfl : l.stackTraces = false) (D : va_G) (κ : Nat → ClassId) (A : Nat → Prop) (ad : Nat → Nat) (r1 : Nat → Option va_E) (x : Int64) (b : BS) (p1 : Int32) (p2 : Int32) (res : BS × (Nat ⊕ Int32)) (h : F7_trace b p1 p2 = some res) (hk : ∀ k, res.2 = .inl k → k = 2) : Met l yL_trace (gwh yL_trace cL_trace 5 (some .int) [(0, 10, 13, 15)]) rmL_trace (va_Pc [.ref (ad 50), .int p1, .int p2, .ref (ad 44)] (MW D κ A ad (celB κ ad (celO κ r1 x) b))) (QIA D A (fun ad' => Ag b.2.2 ad ad') (fun ad' => celB κ ad' (celO κ r1 (outv x res.2)) res.1) (codeOf 2 res.2)) 1 6 A := by
  refine met_ofH (own := RL) (by decide +kernel) rfl (Nat.le_of_ble_eq_true rfl) ?_
  intro p e s m below meth c ls X hr hlk hT G hl
  have hl : lv_has ls 5 [(0, .ref (ad 50)), (1, .int p1), (2, .int p2), (3, .ref (ad 44))] := hl
  refine lv_aload_n (pc := 0) X.1 X.2.1 dL_trace_0 rfl (lv_at hl 3 rfl) ?_
  refine lv_iconst (pc := 1) (v := 0) X.1 X.2.1 dL_trace_1 (by decide) ?_
  refine lv_aload_n (pc := 2) X.1 X.2.1 dL_trace_2 rfl (lv_at hl 0 rfl) ?_
  refine lv_iload_n (pc := 3) X.1 X.2.1 dL_trace_3 rfl (lv_at hl 1 rfl) ?_
  refine lv_iload_n (pc := 4) X.1 X.2.1 dL_trace_4 rfl (lv_at hl 2 rfl) ?_
  refine X_cI (X_runV (pc := 5) (i := 50) (As := [.int p1, .int p2]) (rest := [.int 0, .ref (ad 44)]) (M' := celB κ ad (celO κ r1 x) res.1) (r := res.2) X G (rm := rm7_trace) rfl rfl rfl (c7_trace l hfl D κ A ad (celO κ r1 x) b p1 p2 res h) (B_rcv (ci := 7) (okL50 _) (by decide)) rfl g_L_66 hdL_yX7_trace ⟨Nat.le_of_ble_eq_true rfl, Nat.le_of_ble_eq_true rfl⟩ rfl hl rfl (lv_room (Nat.le_of_ble_eq_true rfl)) dL_trace_5 ⟨Nat.le_of_ble_eq_true rfl, Nat.le_of_ble_eq_true rfl⟩) G (fun k q ce H locs hr2 G h1 h2 h3 => ?_) (fun v ad' H locs hr2 hag G => ?_)
  · have ek : outv x res.2 = x := by rw [hr2]; rfl
    have hk := hk k hr2
    subst hk
    refine X_h1 (pc := 5) (k := 2) (x := ⟨0, 10, 13, 15⟩) X G hT (by decide) (by decide) clx_L_15 (by decide) h1 h2 h3 ?_
    refine lv_astore (pc := 13) (lv' := [(4, .ref q), (0, .ref (ad 50)), (1, .int p1), (2, .int p2), (3, .ref (ad 44))]) X.1 X.2.1 dL_trace_13 hl (by decide) rfl (fun ls hl => ?_)
    refine lv_iconst (pc := 15) (v := 1) X.1 X.2.1 dL_trace_15 (by decide) ?_
    exact C_iret (pc := 16) X G hr hlk dL_trace_16 (by rw [hr2]; rfl) (Ag.rf _ _) (by rw [ek]) (Nat.le_of_ble_eq_true rfl) (Nat.le_of_ble_eq_true rfl)
  · have ek : outv x res.2 = v.toInt64 := by rw [hr2]; rfl
    subst hag
    refine lv_i2l (pc := 8) X.1 X.2.1 dL_trace_8 rfl ?_
    refine m_lastO (pc := 9) (i := 44) (M' := celB κ ad' (celO κ r1 (outv x res.2)) res.1) X G rfl celB_O2 (by rw [ek]; exact celB_O2) (fun j hj => celB_O3 j hj) dL_trace_9 (fun H locs G => ?_)
    refine lv_goto (pc := 10) (tgt := 17) X.1 X.2.1 dL_trace_10 (by decide) ?_
    refine lv_iconst (pc := 17) (v := 0) X.1 X.2.1 dL_trace_17 (by decide) ?_
    exact C_iret (pc := 18) X G hr hlk dL_trace_18 (by rw [hr2]; rfl) (Ag.rf _ _) rfl (Nat.le_of_ble_eq_true rfl) (Nat.le_of_ble_eq_true rfl)
theorem cw_yL_lengthOf : Cond.codeWith yL_lengthOf cL_lengthOf 5 (some .int) [(0, 10, 13, 13), (0, 10, 17, 15)] ∈ G0 := gq (List.mem_of_getElem? (i := 855) (by decide +kernel)) rfl
theorem g_L_69 : GoodIn G0 (wsV RL 69 RX7 yX7_lengthOf (gw yX7_lengthOf cX7_lengthOf 4 (some (FieldType.int)))) := gv_in ml_L_69 im_yX7_lengthOf se_yX7_lengthOf ini_X7 cd_yX7_lengthOf
theorem hdL_yX7_lengthOf : yX7_lengthOf.cls = RX7 ∧ yX7_lengthOf.cls ≠ "java/lang/invoke/MethodHandle" ∧ yX7_lengthOf.cls ≠ "java/lang/invoke/VarHandle" ∧ (parseMethodDescriptor yX7_lengthOf.desc).map (fun d => d.parameters.length) = some 2 := by decide +kernel
abbrev rmL_lengthOf : Room := { frames := 54, cells := 2, slots := 12, locals := 1738 }
set_option maxHeartbeats 4000000 in
set_option maxRecDepth 100000 in
theorem wlengthOf (l : Launch) (hfl : l.stackTraces = false) (D : va_G) (κ : Nat → ClassId) (A : Nat → Prop) (ad : Nat → Nat) (r1 : Nat → Option va_E) (x : Int64) (b : BS) (p1 : Int32) (p2 : Int32) (res : BS × (Nat ⊕ Int32)) (h : F7_lengthOf b p1 p2 = some res) (hk : ∀ k, res.2 = .inl k → k = 1 ∨ k = 2) : Met l yL_lengthOf (gwh yL_lengthOf cL_lengthOf 5 (some .int) [(0, 10, 13, 13), (0, 10, 17, 15)]) rmL_lengthOf (va_Pc [.ref (ad 50), .int p1, .int p2, .ref (ad 44)] (MW D κ A ad (celB κ ad (celO κ r1 x) b))) (QIA D A (fun ad' => Ag b.2.2 ad ad') (fun ad' => celB κ ad' (celO κ r1 (outv x res.2)) res.1) (codeOf 1 res.2)) 2 12 A := by
  refine met_ofH (own := RL) (by decide +kernel) rfl (Nat.le_of_ble_eq_true rfl) ?_
  intro p e s m below meth c ls X hr hlk hT G hl
  have hl : lv_has ls 5 [(0, .ref (ad 50)), (1, .int p1), (2, .int p2), (3, .ref (ad 44))] := hl
  refine lv_aload_n (pc := 0) X.1 X.2.1 dL_lengthOf_0 rfl (lv_at hl 3 rfl) ?_
  refine lv_iconst (pc := 1) (v := 0) X.1 X.2.1 dL_lengthOf_1 (by decide) ?_
  refine lv_aload_n (pc := 2) X.1 X.2.1 dL_lengthOf_2 rfl (lv_at hl 0 rfl) ?_
  refine lv_iload_n (pc := 3) X.1 X.2.1 dL_lengthOf_3 rfl (lv_at hl 1 rfl) ?_
  refine lv_iload_n (pc := 4) X.1 X.2.1 dL_lengthOf_4 rfl (lv_at hl 2 rfl) ?_
  refine X_cI (X_runV (pc := 5) (i := 50) (As := [.int p1, .int p2]) (rest := [.int 0, .ref (ad 44)]) (M' := celB κ ad (celO κ r1 x) res.1) (r := res.2) X G (rm := rm7_lengthOf) rfl rfl rfl (c7_lengthOf l hfl D κ A ad (celO κ r1 x) b p1 p2 res h) (B_rcv (ci := 7) (okL50 _) (by decide)) rfl g_L_69 hdL_yX7_lengthOf ⟨Nat.le_of_ble_eq_true rfl, Nat.le_of_ble_eq_true rfl⟩ rfl hl rfl (lv_room (Nat.le_of_ble_eq_true rfl)) dL_lengthOf_5 ⟨Nat.le_of_ble_eq_true rfl, Nat.le_of_ble_eq_true rfl⟩) G (fun k q ce H locs hr2 G h1 h2 h3 => ?_) (fun v ad' H locs hr2 hag G => ?_)
  · have ek : outv x res.2 = x := by rw [hr2]; rfl
    have hk := hk k hr2
    rcases hk with rfl | rfl
    · refine X_h1 (pc := 5) (k := 1) (x := ⟨0, 10, 13, 13⟩) X G hT (by decide) (by decide) clx_L_13 (by decide) h1 h2 h3 ?_
      refine lv_astore (pc := 13) (lv' := [(4, .ref q), (0, .ref (ad 50)), (1, .int p1), (2, .int p2), (3, .ref (ad 44))]) X.1 X.2.1 dL_lengthOf_13 hl (by decide) rfl (fun ls hl => ?_)
      refine lv_iconst (pc := 15) (v := 1) X.1 X.2.1 dL_lengthOf_15 (by decide) ?_
      exact C_iret (pc := 16) X G hr hlk dL_lengthOf_16 (by rw [hr2]; rfl) (Ag.rf _ _) (by rw [ek]) (Nat.le_of_ble_eq_true rfl) (Nat.le_of_ble_eq_true rfl)
    · refine X_h2 (pc := 5) (k := 2) (k0 := 1) (x0 := ⟨0, 10, 13, 13⟩) (x := ⟨0, 10, 17, 15⟩) X G hT (by decide) clx_L_13 (by decide) (by decide) (by decide) clx_L_15 (by decide) h1 h2 h3 ?_
      refine lv_astore (pc := 17) (lv' := [(4, .ref q), (0, .ref (ad 50)), (1, .int p1), (2, .int p2), (3, .ref (ad 44))]) X.1 X.2.1 dL_lengthOf_17 hl (by decide) rfl (fun ls hl => ?_)
      refine lv_iconst (pc := 19) (v := 2) X.1 X.2.1 dL_lengthOf_19 (by decide) ?_
      exact C_iret (pc := 20) X G hr hlk dL_lengthOf_20 (by rw [hr2]; rfl) (Ag.rf _ _) (by rw [ek]) (Nat.le_of_ble_eq_true rfl) (Nat.le_of_ble_eq_true rfl)
  · have ek : outv x res.2 = v.toInt64 := by rw [hr2]; rfl
    subst hag
    refine lv_i2l (pc := 8) X.1 X.2.1 dL_lengthOf_8 rfl ?_
    refine m_lastO (pc := 9) (i := 44) (M' := celB κ ad' (celO κ r1 (outv x res.2)) res.1) X G rfl celB_O2 (by rw [ek]; exact celB_O2) (fun j hj => celB_O3 j hj) dL_lengthOf_9 (fun H locs G => ?_)
    refine lv_goto (pc := 10) (tgt := 21) X.1 X.2.1 dL_lengthOf_10 (by decide) ?_
    refine lv_iconst (pc := 21) (v := 0) X.1 X.2.1 dL_lengthOf_21 (by decide) ?_
    exact C_iret (pc := 22) X G hr hlk dL_lengthOf_22 (by rw [hr2]; rfl) (Ag.rf _ _) rfl (Nat.le_of_ble_eq_true rfl) (Nat.le_of_ble_eq_true rfl)
theorem cw_yL_count : Cond.codeWith yL_count cL_count 4 (some .int) [(0, 9, 12, 15)] ∈ G0 := gq (List.mem_of_getElem? (i := 867) (by decide +kernel)) rfl
theorem g_L_72 : GoodIn G0 (wsV RL 72 RX7 yX7_count (gw yX7_count cX7_count 2 (some (FieldType.int)))) := gv_in ml_L_72 im_yX7_count se_yX7_count ini_X7 cd_yX7_count
theorem hdL_yX7_count : yX7_count.cls = RX7 ∧ yX7_count.cls ≠ "java/lang/invoke/MethodHandle" ∧ yX7_count.cls ≠ "java/lang/invoke/VarHandle" ∧ (parseMethodDescriptor yX7_count.desc).map (fun d => d.parameters.length) = some 1 := by decide +kernel
abbrev rmL_count : Room := { frames := 8, cells := 1, slots := 6, locals := 124 }
set_option maxHeartbeats 4000000 in
set_option maxRecDepth 100000 in
theorem wcount (l : Launch) (hfl : l.stackTraces = false) (D : va_G) (κ : Nat → ClassId) (A : Nat → Prop) (ad : Nat → Nat) (r1 : Nat → Option va_E) (x : Int64) (b : BS) (p1 : Int32) (res : BS × (Nat ⊕ Int32)) (h : F7_count b p1 = some res) (hk : ∀ k, res.2 = .inl k → k = 2) : Met l yL_count (gwh yL_count cL_count 4 (some .int) [(0, 9, 12, 15)]) rmL_count (va_Pc [.ref (ad 50), .int p1, .ref (ad 44)] (MW D κ A ad (celB κ ad (celO κ r1 x) b))) (QIA D A (fun ad' => Ag b.2.2 ad ad') (fun ad' => celB κ ad' (celO κ r1 (outv x res.2)) res.1) (codeOf 2 res.2)) 1 6 A := by
  refine met_ofH (own := RL) (by decide +kernel) rfl (Nat.le_of_ble_eq_true rfl) ?_
  intro p e s m below meth c ls X hr hlk hT G hl
  have hl : lv_has ls 4 [(0, .ref (ad 50)), (1, .int p1), (2, .ref (ad 44))] := hl
  refine lv_aload_n (pc := 0) X.1 X.2.1 dL_count_0 rfl (lv_at hl 2 rfl) ?_
  refine lv_iconst (pc := 1) (v := 0) X.1 X.2.1 dL_count_1 (by decide) ?_
  refine lv_aload_n (pc := 2) X.1 X.2.1 dL_count_2 rfl (lv_at hl 0 rfl) ?_
  refine lv_iload_n (pc := 3) X.1 X.2.1 dL_count_3 rfl (lv_at hl 1 rfl) ?_
  refine X_cI (X_runV (pc := 4) (i := 50) (As := [.int p1]) (rest := [.int 0, .ref (ad 44)]) (M' := celB κ ad (celO κ r1 x) res.1) (r := res.2) X G (rm := rm7_count) rfl rfl rfl (c7_count l hfl D κ A ad (celO κ r1 x) b p1 res h) (B_rcv (ci := 7) (okL50 _) (by decide)) rfl g_L_72 hdL_yX7_count ⟨Nat.le_of_ble_eq_true rfl, Nat.le_of_ble_eq_true rfl⟩ rfl hl rfl (lv_room (Nat.le_of_ble_eq_true rfl)) dL_count_4 ⟨Nat.le_of_ble_eq_true rfl, Nat.le_of_ble_eq_true rfl⟩) G (fun k q ce H locs hr2 G h1 h2 h3 => ?_) (fun v ad' H locs hr2 hag G => ?_)
  · have ek : outv x res.2 = x := by rw [hr2]; rfl
    have hk := hk k hr2
    subst hk
    refine X_h1 (pc := 4) (k := 2) (x := ⟨0, 9, 12, 15⟩) X G hT (by decide) (by decide) clx_L_15 (by decide) h1 h2 h3 ?_
    refine lv_astore_n (pc := 12) (lv' := [(3, .ref q), (0, .ref (ad 50)), (1, .int p1), (2, .ref (ad 44))]) X.1 X.2.1 dL_count_12 rfl hl (by decide) rfl (fun ls hl => ?_)
    refine lv_iconst (pc := 13) (v := 1) X.1 X.2.1 dL_count_13 (by decide) ?_
    exact C_iret (pc := 14) X G hr hlk dL_count_14 (by rw [hr2]; rfl) (Ag.rf _ _) (by rw [ek]) (Nat.le_of_ble_eq_true rfl) (Nat.le_of_ble_eq_true rfl)
  · have ek : outv x res.2 = v.toInt64 := by rw [hr2]; rfl
    subst hag
    refine lv_i2l (pc := 7) X.1 X.2.1 dL_count_7 rfl ?_
    refine m_lastO (pc := 8) (i := 44) (M' := celB κ ad' (celO κ r1 (outv x res.2)) res.1) X G rfl celB_O2 (by rw [ek]; exact celB_O2) (fun j hj => celB_O3 j hj) dL_count_8 (fun H locs G => ?_)
    refine lv_goto (pc := 9) (tgt := 15) X.1 X.2.1 dL_count_9 (by decide) ?_
    refine lv_iconst (pc := 15) (v := 0) X.1 X.2.1 dL_count_15 (by decide) ?_
    exact C_iret (pc := 16) X G hr hlk dL_count_16 (by rw [hr2]; rfl) (Ag.rf _ _) rfl (Nat.le_of_ble_eq_true rfl) (Nat.le_of_ble_eq_true rfl)
