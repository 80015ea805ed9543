/-! EXCEPTIONS: a result is .inl k (k 1: IndexOutOfBounds, 2: IllegalArgument, 3: IllegalState) or .inr v; both ends leave a known world -/
def exn : Nat → String := fun k => if k = 1 then "java/lang/IndexOutOfBoundsException" else if k = 2 then "java/lang/IllegalArgumentException" else "java/lang/IllegalStateException"
def MC (D : va_G) (A : Nat → Prop) (ad : Nat → Nat) (M : Nat → Option va_E) (H : Heap) : Prop := (∀ i e, M i = some e → va_at D vwCl (ad i, e) H ∧ A (ad i)) ∧ ∀ i j e e', M i = some e → M j = some e' → ad i = ad j → i = j
theorem Mm.mc {D : va_G} {κ : Nat → ClassId} {A : Nat → Prop} {ad : Nat → Nat} {M : Nat → Option va_E} {s : State} {H : Heap} {locs : List Loc} (h : Mm D κ A ad M s H locs) : MC D A ad M H := ⟨h.2.1, h.2.2.1⟩
theorem MC.kept {D : va_G} {A : Nat → Prop} {ad : Nat → Nat} {M : Nat → Option va_E} {H H1 : Heap} (h : MC D A ad M H) (hq : ∀ q : Nat, q < H.size → H1[q]? = H[q]?) : MC D A ad M H1 := ⟨fun i e hi => ⟨(h.1 i e hi).1.kept (hq _ (h.1 i e hi).1.lt), (h.1 i e hi).2⟩, h.2⟩
theorem Mm.nextC {D : va_G} {κ : Nat → ClassId} {A : Nat → Prop} {ad ad' : Nat → Nat} {M M' : Nat → Option va_E} {s : State} {H H1 : Heap} {locs locs1 : List Loc} (h : Mm D κ A ad M s H locs) (hB : MC D A ad' M' H1) (hS : va_S A s.heap H1 locs1) : Mm D κ A ad' M' s H1 locs1 := ⟨h.1, hB.1, hB.2, h.2.2.2.1, hS, h.2.2.2.2.2⟩
abbrev XX {τ : Type} (D : va_G) (A : Nat → Prop) (ad : Nat → Nat) (M' : Nat → Option va_E) (r : Nat ⊕ τ) : String → State → State → Prop := vx_X (fun (_ : Unit) => True) (fun E _ t => (∃ k, r = .inl k ∧ E = exn k) ∧ MC D A ad M' t.heap) A
abbrev QIX (D : va_G) (A : Nat → Prop) (ad : Nat → Nat) (M' : Nat → Option va_E) (r : Nat ⊕ Int32) : Array Value → State → Outcome → State → Prop := va_Qi (fun (x : Int32) (_ : Unit) => r = .inr x) (fun _ t => MC D A ad M' t.heap) A
abbrev QVX (D : va_G) (A : Nat → Prop) (ad : Nat → Nat) (M' : Nat → Option va_E) (r : Nat ⊕ Unit) : Array Value → State → Outcome → State → Prop := va_Qv (fun (_ : Unit) => r = .inr ()) (fun _ t => MC D A ad M' t.heap) A
abbrev QRX (D : va_G) (A : Nat → Prop) (ad : Nat → Nat) (M' : Nat → Option va_E) (r : Nat ⊕ Option Nat) : Array Value → State → Outcome → State → Prop := va_Qq (fun (x : Option Nat) (_ : Unit) => ∃ v, r = .inr v ∧ x = v.map ad) (fun _ t => MC D A ad M' t.heap) A
/-- the three classes of exceptions, as the class's constant pool has them -/
def exC : List (Nat × Nat × Nat) := [(1, 252, 256), (2, 90, 94), (3, 125, 129)]
def exN : List String := ["java/lang/RuntimeException", "java/lang/Exception"]
def exB (k : Nat) : List Cond := [.declares (Bundle.initS "java/lang/RuntimeException"), .declares (Bundle.initS "java/lang/Exception"), .declares (Bundle.initS Bundle.tN), .castable (exn k) (exn k)]
theorem exW : ∀ q ∈ exC, (∀ w ∈ (vx_atS RX7 q.2.2 (exn q.1) exN).filter goodWord, w ∈ lw_tbl) ∧ (∀ w ∈ (vx_atS RX7 q.2.2 (exn q.1) exN).filter (fun w => !goodWord w), w ∈ exB q.1) ∧ (∀ w ∈ Cond.classLink RX7 q.2.1 (exn q.1) :: Cond.initialized (exn q.1) :: vx_atS RX7 q.2.2 (exn q.1) exN, vx_ot w = true) ∧ Cond.classLink RX7 q.2.1 (exn q.1) ∈ lw_tbl ∧ Cond.initialized (exn q.1) ∈ lw_tbl ∧ goodWord (Cond.classLink RX7 q.2.1 (exn q.1)) = true ∧ goodWord (Cond.initialized (exn q.1)) = true ∧ Bundle.fit (exn q.1) = true ∧ (exn q.1, exn q.1) ∈ thC := by decide +kernel
theorem exF : ∀ n ∈ exN, Bundle.fit n = true := by decide +kernel
section XL
variable {p : Program} {l : Launch} {e : Env} {R : Room} {s : State} {m : MethodId} {args : Array Value} {below : List Frame} {meth : Method} {c : Code} {H : Heap} {locs : List Loc} {cells slots : Nat} {Q : State → Prop}
variable {cc : ByteArray} {pc nL : Nat} {ls : Array Slot} {rest : List Value} {D : va_G} {κ : Nat → ClassId} {A : Nat → Prop} {ad : Nat → Nat} {own : String} {lv : List (Nat × Value)} {M M' M2 : Nat → Option va_E} {mc ms : Nat}
theorem ex_at (X : CallFix p m c cc nL s args G0 RX7) (G : Mm D κ A ad M s H locs) {k ik ic : Nat} (hq : (k, ik, ic) ∈ exC) : ∀ w ∈ vx_atS RX7 ic (exn k) exN, w.before args s = true := by
  obtain ⟨h1, h2, -, -, -, -, -, -, h9⟩ := exW _ hq
  refine vx_hat (B := exB k) (fun w hw => X.2.2.2.2 _ (gq (h1 w hw) (List.mem_filter.mp hw).2)) h2 (fun w hw => ?_)
  obtain ⟨-, -, -, hD, hC, -⟩ := G.2.2.2.2.2
  simp only [exB, List.mem_cons, List.not_mem_nil, or_false] at hw
  rcases hw with rfl | rfl | rfl | rfl
  · exact va_Nw.use rfl (hD _ (by simp [thD]))
  · exact va_Nw.use rfl (hD _ (by simp [thD]))
  · exact va_Nw.use rfl (hD _ (by simp [thD]))
  · exact va_Nw.use rfl (hC _ h9)
theorem m_throwS {τ : Type} {Qc : Array Value → State → Outcome → State → Prop} (X : CallFix p m c cc nL s args G0 RX7) (G : Mm D κ A ad M s H locs) (hf0 : l.stackTraces = false) {k ik ic is : Nat} {text : String} {r : Nat ⊕ τ} (hq : (k, ik, ic) ∈ exC) (hs : (is, text) ∈ thS) (hl : lv_has ls nL lv)
    (d0 : decode cc pc = .ok (.new ik, 3)) (d3 : decode cc (pc + 3) = .ok (.dup, 1)) (d4 : decode cc (pc + 4) = .ok (.ldc is, 2)) (d6 : decode cc (pc + 6) = .ok (.invokespecial ic, 3)) (d9 : decode cc (pc + 9) = .ok (.athrow, 1))
    (hout : ∀ x ∈ c.exceptionTable.toList, False) (hRf : 5 < R.frames) (hRl : (rest.map fun v => v.category).sum + 82 ≤ R.locals) (hRc : cells + 1 ≤ R.cells) (hRs : slots + 6 ≤ R.slots) (hlocks : meth.locks = false) (hr : r = .inl k) (hM : M = M') (hc : cells + 1 ≤ mc) (hsl : slots + 6 ≤ ms) : W p l e R s m args below meth c H locs cells slots (vx_MQ below Qc (XX D A ad M' r) args s mc ms A) (F0 m pc ls rest) := by
  subst hM
  obtain ⟨-, -, g3, g4, g5, g6, g7, g8, -⟩ := exW _ hq
  obtain ⟨hU, hN, hS', -⟩ := G.2.2.2.2.2
  obtain ⟨sa, hsa⟩ := hS' _ hs
  exact vx_throwS (names := exN) (A := A) X.1 X.2.1 hf0 X.2.2.2.1 g8 exF (X.2.2.2.2 _ (gq g4 g6)) (X.2.2.2.2 _ (gq g5 g7)) hsa (ex_at X G hq) g3 hU hN G.2.2.2.2.1 (hl.1.trans X.2.2.1.symm) d0 d3 d4 d6 d9 (fun x hx => (hout x hx).elim) hRf hRl hRc hRs hlocks
    (fun t hv hz hk => ⟨(), trivial, ⟨⟨k, hr, rfl⟩, G.mc.kept hk⟩, Nat.le_trans G.2.2.2.2.1.1 hz, fun q h1 h2 => (hk q (Nat.lt_of_lt_of_le h1 G.2.2.2.2.1.1)).trans (G.2.2.2.2.1.2.1 q h1 h2)⟩) G.2.2.2.2.1.2.2 hc hsl
theorem m_throwSW {τ : Type} {Qc : Array Value → State → Outcome → State → Prop} (X : CallFix p m c cc nL s args G0 RX7) (G : Mm D κ A ad M s H locs) (hf0 : l.stackTraces = false) {k ik ic is : Nat} {text : String} {r : Nat ⊕ τ} (hq : (k, ik, ic) ∈ exC) (hs : (is, text) ∈ thS) (hl : lv_has ls nL lv)
    (d0 : decode cc pc = .ok (.new ik, 3)) (d3 : decode cc (pc + 3) = .ok (.dup, 1)) (d4 : decode cc (pc + 4) = .ok (.ldc_w is, 3)) (d7 : decode cc (pc + 7) = .ok (.invokespecial ic, 3)) (d10 : decode cc (pc + 10) = .ok (.athrow, 1))
    (hout : ∀ x ∈ c.exceptionTable.toList, False) (hRf : 5 < R.frames) (hRl : (rest.map fun v => v.category).sum + 82 ≤ R.locals) (hRc : cells + 1 ≤ R.cells) (hRs : slots + 6 ≤ R.slots) (hlocks : meth.locks = false) (hr : r = .inl k) (hM : M = M') (hc : cells + 1 ≤ mc) (hsl : slots + 6 ≤ ms) : W p l e R s m args below meth c H locs cells slots (vx_MQ below Qc (XX D A ad M' r) args s mc ms A) (F0 m pc ls rest) := by
  subst hM
  obtain ⟨-, -, g3, g4, g5, g6, g7, g8, -⟩ := exW _ hq
  obtain ⟨hU, hN, hS', -⟩ := G.2.2.2.2.2
  obtain ⟨sa, hsa⟩ := hS' _ hs
  exact vx_throwSW (names := exN) (A := A) X.1 X.2.1 hf0 X.2.2.2.1 g8 exF (X.2.2.2.2 _ (gq g4 g6)) (X.2.2.2.2 _ (gq g5 g7)) hsa (ex_at X G hq) g3 hU hN G.2.2.2.2.1 (hl.1.trans X.2.2.1.symm) d0 d3 d4 d7 d10 (fun x hx => (hout x hx).elim) hRf hRl hRc hRs hlocks
    (fun t hv hz hk => ⟨(), trivial, ⟨⟨k, hr, rfl⟩, G.mc.kept hk⟩, Nat.le_trans G.2.2.2.2.1.1 hz, fun q h1 h2 => (hk q (Nat.lt_of_lt_of_le h1 G.2.2.2.2.1.1)).trans (G.2.2.2.2.1.2.1 q h1 h2)⟩) G.2.2.2.2.1.2.2 hc hsl
/-- the same for callees that answer a reference -/
theorem vx_callq {S SX : Type} {post : Option Nat → S → Prop} {px : SX → Prop} {B : S → State → Prop} {BX : String → SX → State → Prop} {AX A0 A1 : Nat → Prop} {a : Array Value} {H0 : Heap} {free : Addr → Prop} {st0 : List Value} (hr : vx_Run p l e R s m args below meth c H locs cells slots mc ms (F0 m pc ls st0) rest (va_Qq post B A1 a) (vx_X px BX AX) free) (hS : va_S A0 H0 H locs) (hA : ∀ q, q < H.size → A1 q → A0 q) (hf : ∀ q, free q → A0 q) (hAX : ∀ q, q < H.size → AX q → A0 q)
    (kx : ∀ (E : String) (ce : Cell) (q9 : Addr) (u : SX) (t : State) (H1 : Heap) (locs1 : List Loc), t.heap = H1 → s.vm.Alike t.vm → px u → BX E u t → H.size ≤ H1.size → (∀ q : Nat, q < H.size → ¬ AX q → H1[q]? = H[q]?) → va_S A0 H0 H1 locs1 → H1[q9]? = some ce → ce.vm = .none → s.vm.findClass E = some ce.cls → vx_W p l e R s m args below meth c H1 locs1 (cells + mc) (slots + ms) Q (F0 m pc ls rest) q9)
    (kk : ∀ (r : Option Nat) (u : S) (t : State) (H1 : Heap) (locs1 : List Loc), t.heap = H1 → s.vm.Alike t.vm → post r u → B u t → H.size ≤ H1.size → (∀ q : Nat, q < H.size → ¬ A1 q → H1[q]? = H[q]?) → va_S A0 H0 H1 locs1 → W p l e R s m args below meth c H1 locs1 (cells + mc) (slots + ms) Q (F0 m (pc + 3) ls (va_rf r :: rest))) : W p l e R s m args below meth c H locs cells slots Q (F0 m pc ls st0) := by
  intro T hT X
  rcases hr T hT X with ⟨v, st₀, t, T', L, h0, X', hL, e1, e2, ⟨⟨r, u, hv, hp, hb⟩, hF⟩, st⟩ | ⟨q, st₀, t, T', L, E, ce, h0, X', hL, e1, e2, ⟨u, hp, hb, hF⟩, hce, hcv, hcl, st⟩
  · cases hv
    obtain ⟨k1, k2, k3⟩ := vx_keep h0 e1 hS hA hf hL hF
    obtain ⟨t2, a1, b1⟩ := kk r u t T'.heap (locs ++ L) e1.symm (by rw [← e2]; exact X'.warmed.alike) hp hb k1 k2 k3 T' rfl X'
    exact ⟨t2, st t2 a1, b1⟩
  · obtain ⟨k1, k2, k3⟩ := vx_keep h0 e1 hS hAX hf hL hF
    obtain ⟨t2, a1, b1⟩ := kx E ce q u t T'.heap (locs ++ L) e1.symm (by rw [← e2]; exact X'.warmed.alike) hp hb k1 k2 k3 (by rw [e1]; exact hce) hcv hcl T' rfl X'
    exact ⟨t2, st.trans a1, b1⟩
/-- what a call of a method that may throw needs, beside its contract -/
def XRun {τ : Type} (p : Program) (l : Launch) (e : Env) (R : Room) (s : State) (m : MethodId) (args : Array Value) (below : List Frame) (meth : Method) (c : Code) (H : Heap) (locs : List Loc) (cells slots mc ms pc : Nat) (ls : Array Slot) (st rest : List Value) (Qa : State → Outcome → State → Prop) (D : va_G) (A : Nat → Prop) (ad : Nat → Nat) (M' : Nat → Option va_E) (r : Nat ⊕ τ) : Prop := vx_Run p l e R s m args below meth c H locs cells slots mc ms (F0 m pc ls st) rest Qa (XX D A ad M' r) A
theorem X_runV {τ : Type} (X : CallFix p m c cc nL s args G0 own) (G : Mm D κ A ad M s H locs) {n index maxL i a ci N : Nat} {As st fs : List Value} {C : String} {T : u_T} {y : MethodName} {bb : ByteArray} {ret : Option FieldType} {rm : Room} {r : Nat ⊕ τ} {Qc : Array Value → State → Outcome → State → Prop} (h0 : rm.cells = mc) (h1 : rm.slots = ms) (ha : a = ad i)
    (hM : vx_Met l y (gw y bb maxL ret) rm (va_Pc (.ref a :: As) (MW D κ A ad M)) Qc (XX D A ad M' r) mc ms A) (hi : M i = some (.inr (ci, fs))) (hc : vwCl[ci]? = some (C, T, N)) (hG : GoodIn G0 (wsV own index C y (gw y bb maxL ret)))
    (hd : y.cls = C ∧ y.cls ≠ "java/lang/invoke/MethodHandle" ∧ y.cls ≠ "java/lang/invoke/VarHandle" ∧ (parseMethodDescriptor y.desc).map (fun d => d.parameters.length) = some n) (hR : rm.frames + 1 ≤ R.frames ∧ 8 + (maxL + 11) + rm.locals ≤ R.locals) (hn : As.length = n) (hl : lv_has ls nL lv) (hst : st = As.reverse ++ .ref a :: rest) (hW : 2 * (F0 m pc ls st).monitorRoom + (rest.map fun v => v.category).sum ≤ 8) (hdg : decode cc pc = .ok (.invokevirtual index, 3)) (hf : cells + mc ≤ R.cells ∧ slots + ms ≤ R.slots) : XRun p l e R s m args below meth c H locs cells slots mc ms pc ls st rest (Qc (Value.ref a :: As).toArray) D A ad M' r := by
  subst ha
  exact vx_runV X hM (cwV n X.2.2.2.2 hG rfl h0 h1 hd hR) ⟨fun a U g mk q => ⟨q.1, q.2.blind⟩, m_recv G hi hc, fun U hU hW => ⟨rfl, m_pre G hU hW⟩⟩ rfl hn hl.1 hst hW hdg hf
theorem X_runS {τ : Type} (X : CallFix p m c cc nL s args G0 own) (G : Mm D κ A ad M s H locs) {n index maxL : Nat} {As st : List Value} {y : MethodName} {bb : ByteArray} {ret : Option FieldType} {rm : Room} {r : Nat ⊕ τ} {Qc : Array Value → State → Outcome → State → Prop} (h0 : rm.cells = mc) (h1 : rm.slots = ms)
    (hM : vx_Met l y (gw y bb maxL ret) rm (va_Pc As (MW D κ A ad M)) Qc (XX D A ad M' r) mc ms A) (hG : GoodIn G0 (va_wsS own index y (gw y bb maxL ret)))
    (hd : y.cls ≠ "java/lang/invoke/MethodHandle" ∧ y.cls ≠ "java/lang/invoke/VarHandle" ∧ (parseMethodDescriptor y.desc).map (fun d => d.parameters.length) = some n) (hR : rm.frames + 1 ≤ R.frames ∧ 8 + (maxL + 11) + rm.locals ≤ R.locals) (hn : As.length = n) (hl : lv_has ls nL lv) (hst : st = As.reverse ++ rest) (hW : 2 * (F0 m pc ls st).monitorRoom + (rest.map fun v => v.category).sum ≤ 8) (hdg : decode cc pc = .ok (.invokestatic index, 3)) (hf : cells + mc ≤ R.cells ∧ slots + ms ≤ R.slots) : XRun p l e R s m args below meth c H locs cells slots mc ms pc ls st rest (Qc As.toArray) D A ad M' r :=
  vx_runS X hM (va_cwS n X.2.2.2.2 hG rfl h0 h1 hd hR) ⟨fun a U g mk q => ⟨q.1, q.2.blind⟩, fun U hU hW => ⟨rfl, m_pre G hU hW⟩⟩ rfl hn hl.1 hst hW hdg hf
/-- it returned -/
theorem X_i {st : List Value} {a : Array Value} {r : Nat ⊕ Int32} (hx : XRun p l e R s m args below meth c H locs cells slots mc ms pc ls st rest (QIX D A ad M' r a) D A ad M' r) (G : Mm D κ A ad M s H locs) {v : Int32} (hr : r = .inr v)
    (kk : ∀ (H : Heap) (locs : List Loc), Mm D κ A ad M' s H locs → W p l e R s m args below meth c H locs (cells + mc) (slots + ms) Q (F0 m (pc + 3) ls (.int v :: rest))) : W p l e R s m args below meth c H locs cells slots Q (F0 m pc ls st) := by
  refine vx_calli hx G.2.2.2.2.1 (fun q _ h => h) (fun q h => h) (fun q _ h => h) (fun E ce q9 u t H1 locs1 ht hvm hp hB hz hk hS hc1 hc2 hc3 => ?_) (fun r1 u t H1 locs1 ht hvm hw hB hz hk hS => ?_)
  · obtain ⟨⟨k, hk', -⟩, -⟩ := hB
    rw [hr] at hk'; cases hk'
  · rw [hr] at hw; cases hw
    exact kk H1 locs1 (G.nextC (by rw [← ht]; exact hB) hS)
theorem X_v {st : List Value} {a : Array Value} {r : Nat ⊕ Unit} (hx : XRun p l e R s m args below meth c H locs cells slots mc ms pc ls st rest (QVX D A ad M' r a) D A ad M' r) (G : Mm D κ A ad M s H locs) (hr : r = .inr ())
    (kk : ∀ (H : Heap) (locs : List Loc), Mm D κ A ad M' s H locs → W p l e R s m args below meth c H locs (cells + mc) (slots + ms) Q (F0 m (pc + 3) ls rest)) : W p l e R s m args below meth c H locs cells slots Q (F0 m pc ls st) := by
  refine vx_callv hx G.2.2.2.2.1 (fun q _ h => h) (fun q h => h) (fun q _ h => h) (fun E ce q9 u t H1 locs1 ht hvm hp hB hz hk hS hc1 hc2 hc3 => ?_) (fun u t H1 locs1 ht hvm hw hB hz hk hS => ?_)
  · obtain ⟨⟨k, hk', -⟩, -⟩ := hB
    rw [hr] at hk'; cases hk'
  · exact kk H1 locs1 (G.nextC (by rw [← ht]; exact hB) hS)
theorem X_q {st : List Value} {a : Array Value} {r : Nat ⊕ Option Nat} (hx : XRun p l e R s m args below meth c H locs cells slots mc ms pc ls st rest (QRX D A ad M' r a) D A ad M' r) (G : Mm D κ A ad M s H locs) {v : Option Nat} (hr : r = .inr v)
    (kk : ∀ (H : Heap) (locs : List Loc), Mm D κ A ad M' s H locs → W p l e R s m args below meth c H locs (cells + mc) (slots + ms) Q (F0 m (pc + 3) ls (va_rf (v.map ad) :: rest))) : W p l e R s m args below meth c H locs cells slots Q (F0 m pc ls st) := by
  refine vx_callq hx G.2.2.2.2.1 (fun q _ h => h) (fun q h => h) (fun q _ h => h) (fun E ce q9 u t H1 locs1 ht hvm hp hB hz hk hS hc1 hc2 hc3 => ?_) (fun r1 u t H1 locs1 ht hvm hw hB hz hk hS => ?_)
  · obtain ⟨⟨k, hk', -⟩, -⟩ := hB
    rw [hr] at hk'; cases hk'
  · obtain ⟨v', h1, h2⟩ := hw
    rw [hr] at h1; cases h1
    rw [h2]
    exact kk H1 locs1 (G.nextC (by rw [← ht]; exact hB) hS)
/-- it threw, and so does the caller -/
theorem X_ti {τ : Type} {Qc : Array Value → State → Outcome → State → Prop} {mc2 ms2 : Nat} {r2 : Nat ⊕ τ} {st : List Value} {a : Array Value} {r : Nat ⊕ Int32} (hx : XRun p l e R s m args below meth c H locs cells slots mc ms pc ls st rest (QIX D A ad M' r a) D A ad M' r) (G : Mm D κ A ad M s H locs) (hout : ∀ x ∈ c.exceptionTable.toList, False) (hlocks : meth.locks = false) {k : Nat} (hr : r = .inl k) (hr2 : r2 = .inl k) (hM : M' = M2) (hc : cells + mc ≤ mc2) (hs : slots + ms ≤ ms2) : W p l e R s m args below meth c H locs cells slots (vx_MQ below Qc (XX D A ad M2 r2) args s mc2 ms2 A) (F0 m pc ls st) := by
  subst hM
  refine vx_calli hx G.2.2.2.2.1 (fun q _ h => h) (fun q h => h) (fun q _ h => h) (fun E ce q9 u t H1 locs1 ht hvm hp hB hz hk hS hc1 hc2 hc3 => ?_) (fun r1 u t H1 locs1 ht hvm hw hB hz hk hS => ?_)
  · obtain ⟨⟨k', hk', hE⟩, hB⟩ := hB
    rw [hr] at hk'; cases hk'
    exact vx_out (fun x hx => (hout x hx).elim) hlocks hc1 hc2 hc3 (fun t' ht' hv' => ⟨(), trivial, ⟨⟨k, hr2, hE⟩, by rw [ht', ← ht]; exact hB⟩, hS.F ht'⟩) hS.2.2 hc hs
  · rw [hr] at hw; cases hw
theorem X_tv {τ : Type} {Qc : Array Value → State → Outcome → State → Prop} {mc2 ms2 : Nat} {r2 : Nat ⊕ τ} {st : List Value} {a : Array Value} {r : Nat ⊕ Unit} (hx : XRun p l e R s m args below meth c H locs cells slots mc ms pc ls st rest (QVX D A ad M' r a) D A ad M' r) (G : Mm D κ A ad M s H locs) (hout : ∀ x ∈ c.exceptionTable.toList, False) (hlocks : meth.locks = false) {k : Nat} (hr : r = .inl k) (hr2 : r2 = .inl k) (hM : M' = M2) (hc : cells + mc ≤ mc2) (hs : slots + ms ≤ ms2) : W p l e R s m args below meth c H locs cells slots (vx_MQ below Qc (XX D A ad M2 r2) args s mc2 ms2 A) (F0 m pc ls st) := by
  subst hM
  refine vx_callv hx G.2.2.2.2.1 (fun q _ h => h) (fun q h => h) (fun q _ h => h) (fun E ce q9 u t H1 locs1 ht hvm hp hB hz hk hS hc1 hc2 hc3 => ?_) (fun u t H1 locs1 ht hvm hw hB hz hk hS => ?_)
  · obtain ⟨⟨k', hk', hE⟩, hB⟩ := hB
    rw [hr] at hk'; cases hk'
    exact vx_out (fun x hx => (hout x hx).elim) hlocks hc1 hc2 hc3 (fun t' ht' hv' => ⟨(), trivial, ⟨⟨k, hr2, hE⟩, by rw [ht', ← ht]; exact hB⟩, hS.F ht'⟩) hS.2.2 hc hs
  · rw [hr] at hw; cases hw
theorem X_tq {τ : Type} {Qc : Array Value → State → Outcome → State → Prop} {mc2 ms2 : Nat} {r2 : Nat ⊕ τ} {st : List Value} {a : Array Value} {r : Nat ⊕ Option Nat} (hx : XRun p l e R s m args below meth c H locs cells slots mc ms pc ls st rest (QRX D A ad M' r a) D A ad M' r) (G : Mm D κ A ad M s H locs) (hout : ∀ x ∈ c.exceptionTable.toList, False) (hlocks : meth.locks = false) {k : Nat} (hr : r = .inl k) (hr2 : r2 = .inl k) (hM : M' = M2) (hc : cells + mc ≤ mc2) (hs : slots + ms ≤ ms2) : W p l e R s m args below meth c H locs cells slots (vx_MQ below Qc (XX D A ad M2 r2) args s mc2 ms2 A) (F0 m pc ls st) := by
  subst hM
  refine vx_callq hx G.2.2.2.2.1 (fun q _ h => h) (fun q h => h) (fun q _ h => h) (fun E ce q9 u t H1 locs1 ht hvm hp hB hz hk hS hc1 hc2 hc3 => ?_) (fun r1 u t H1 locs1 ht hvm hw hB hz hk hS => ?_)
  · obtain ⟨⟨k', hk', hE⟩, hB⟩ := hB
    rw [hr] at hk'; cases hk'
    exact vx_out (fun x hx => (hout x hx).elim) hlocks hc1 hc2 hc3 (fun t' ht' hv' => ⟨(), trivial, ⟨⟨k, hr2, hE⟩, by rw [ht', ← ht]; exact hB⟩, hS.F ht'⟩) hS.2.2 hc hs
  · obtain ⟨v', h1, -⟩ := hw
    rw [hr] at h1; cases h1
/-- a method's own ends where it may throw -/
theorem X_iret (X : CallFix p m c cc nL s args G0 own) (G : Mm D κ A ad M s H locs) {x : Int32} {r : Nat ⊕ Int32} {XC : String → State → State → Prop} (hr : meth.sig.returnType = some .int) (hl : meth.locks = false) (hdg : decode cc pc = .ok (.ireturn, 1)) (hx : r = .inr x) (hM : M = M') (hc : cells ≤ mc) (hs : slots ≤ ms) : W p l e R s m args below meth c H locs cells slots (vx_MQ below (QIX D A ad M' r) XC args s mc ms A) (F0 m pc ls [.int x]) := by
  subst hM
  exact W.widen hc hs (vx_ret (W.iret X.1 X.2.1 hr (fun t ht hW => ⟨⟨x, (), rfl, hx, by show MC D A ad M t.heap; rw [ht]; exact G.mc⟩, G.2.2.2.2.1.F ht⟩) G.2.2.2.2.1.2.2 hdg hl))
theorem X_vret (X : CallFix p m c cc nL s args G0 own) (G : Mm D κ A ad M s H locs) {r : Nat ⊕ Unit} {XC : String → State → State → Prop} (hr : meth.sig.returnType = none) (hl : meth.locks = false) (hdg : decode cc pc = .ok (.return_, 1)) (hx : r = .inr ()) (hM : M = M') (hc : cells ≤ mc) (hs : slots ≤ ms) : W p l e R s m args below meth c H locs cells slots (vx_MQ below (QVX D A ad M' r) XC args s mc ms A) (F0 m pc ls []) := by
  subst hM
  exact W.widen hc hs (vx_ret (W.vret X.1 X.2.1 hr (fun t ht hW => ⟨⟨(), rfl, hx, by show MC D A ad M t.heap; rw [ht]; exact G.mc⟩, G.2.2.2.2.1.F ht⟩) G.2.2.2.2.1.2.2 hdg hl))
theorem X_aret (X : CallFix p m c cc nL s args G0 own) (G : Mm D κ A ad M s H locs) {x : Option Nat} {r : Nat ⊕ Option Nat} {rt : FieldType} {XC : String → State → State → Prop} (hr : meth.sig.returnType = some rt) (hrt : (∃ n, rt = .object n) ∨ ∃ t, rt = .array t) (hl : meth.locks = false) (hdg : decode cc pc = .ok (.areturn, 1)) (hx : r = .inr x) (hM : M = M') (hc : cells ≤ mc) (hs : slots ≤ ms) : W p l e R s m args below meth c H locs cells slots (vx_MQ below (QRX D A ad M' r) XC args s mc ms A) (F0 m pc ls [va_rf (x.map ad)]) := by
  subst hM
  exact W.widen hc hs (vx_ret (W.aret X.1 X.2.1 hr hrt (by cases x with | none => exact Or.inl rfl | some a => exact Or.inr ⟨_, rfl⟩) (fun t ht hW => ⟨⟨x.map ad, (), rfl, ⟨x, hx, rfl⟩, by show MC D A ad M t.heap; rw [ht]; exact G.mc⟩, G.2.2.2.2.1.F ht⟩) G.2.2.2.2.1.2.2 hdg hl))
end XL
theorem met_ofX {l : Launch} {y : MethodName} {own : String} {b : ByteArray} {nL : Nat} {ret : Option FieldType} {rm : Room} {As : List Value} {D : va_G} {κ : Nat → ClassId} {A : Nat → Prop} {ad : Nat → Nat} {M : Nat → Option va_E} {Qc : Array Value → State → Outcome → State → Prop} {XC : String → State → State → Prop} {mc ms : Nat} (hy : plainName y.cls = true) (ho : y.cls = own) (hn : (lg_sl As).length ≤ nL)
    (body : ∀ (p : Program) (e : Env) (s : State) (m : MethodId) (below : List Frame) (meth : Method) (c : Code) (ls : Array Slot), CallFix p m c b nL s As.toArray G0 own → meth.sig.returnType = ret → meth.locks = false → (∀ x ∈ c.exceptionTable.toList, False) → Mm D κ A ad M s s.heap [] → lv_has ls nL (lv_args 0 As) → W p l e rm s m As.toArray below meth c s.heap [] 0 0 (vx_MQ below Qc XC As.toArray s mc ms A) (F0 m 0 ls [])) : vx_Met l y (gw y b nL ret) rm (va_Pc As (MW D κ A ad M)) Qc XC mc ms A := by
  refine vx_ofW (cc := b) (maxL := nL) (ret := ret) hy rfl ?_
  intro p e s m args below meth c s₁ B hml hout hv
  obtain ⟨rfl, hG⟩ := hv
  have hts := atoms_spec (ws := gw y b nL ret) B.pre
  have hown : s.vm.findClass own = some m.cls := by rw [← ho]; exact findClass_of_methodNamed B.named
  have hl := lv_entry As (n := nL) hn
  rw [lg_entry_eq]
  exact body p e s m below meth c _ ⟨B.exec, B.bytes, hml, hown, fun w hw => hts w (List.mem_cons_of_mem _ hw)⟩ B.returns B.notSynchronized hout hG hl
def bx {α τ ρ : Type} : Option (α × (Nat ⊕ τ)) → (α → Nat → Option ρ) → (α → τ → Option ρ) → Option ρ
  | none, _, _ => none
  | some (b, .inl k), T, _ => T b k
  | some (b, .inr v), _, K => K b v
theorem bx_some {α τ ρ : Type} {x : Option (α × (Nat ⊕ τ))} {T : α → Nat → Option ρ} {K : α → τ → Option ρ} {y : ρ} (h : bx x T K = some y) : (∃ b k, x = some (b, .inl k) ∧ T b k = some y) ∨ ∃ b v, x = some (b, .inr v) ∧ K b v = some y := by
  cases x with
  | none => cases h
  | some q =>
    obtain ⟨b, r⟩ := q
    cases r with
    | inl k => exact Or.inl ⟨b, k, rfl, h⟩
    | inr v => exact Or.inr ⟨b, v, rfl, h⟩
