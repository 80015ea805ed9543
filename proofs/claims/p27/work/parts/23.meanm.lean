/-! MEANHOLES OF BOTH, laid by wip/whole/walkm.py -/
theorem okDiv_at {h d : Nat} (hd : (List.range 1561).all (fun h => okDiv h d) = true) (hh : h ≤ 1560) : okDiv h d = true := List.all_eq_true.mp hd h (List.mem_range.mpr (by omega))
def dvok (x y : Int32) : Prop := ∃ a c : Nat, a ≤ 1560 ∧ c < 26 ∧ x = nI a ∧ y = nI (c + 1)
theorem mean_n64 {x y : Int32} (h : dvok x y) : vf_n64 (FP.ddiv (FP.i2d x) (FP.i2d y)) := by
  obtain ⟨a, c, ha, hc, rfl, rfl⟩ := h
  have key : okDiv a (c + 1) = true := by
    rcases (show c = 0 ∨ c = 1 ∨ c = 2 ∨ c = 3 ∨ c = 4 ∨ c = 5 ∨ c = 6 ∨ c = 7 ∨ c = 8 ∨ c = 9 ∨ c = 10 ∨ c = 11 ∨ c = 12 ∨ c = 13 ∨ c = 14 ∨ c = 15 ∨ c = 16 ∨ c = 17 ∨ c = 18 ∨ c = 19 ∨ c = 20 ∨ c = 21 ∨ c = 22 ∨ c = 23 ∨ c = 24 ∨ c = 25 by omega) with rfl | rfl | rfl | rfl | rfl | rfl | rfl | rfl | rfl | rfl | rfl | rfl | rfl | rfl | rfl | rfl | rfl | rfl | rfl | rfl | rfl | rfl | rfl | rfl | rfl | rfl
    · exact okDiv_at okDiv_1 ha
    · exact okDiv_at okDiv_2 ha
    · exact okDiv_at okDiv_3 ha
    · exact okDiv_at okDiv_4 ha
    · exact okDiv_at okDiv_5 ha
    · exact okDiv_at okDiv_6 ha
    · exact okDiv_at okDiv_7 ha
    · exact okDiv_at okDiv_8 ha
    · exact okDiv_at okDiv_9 ha
    · exact okDiv_at okDiv_10 ha
    · exact okDiv_at okDiv_11 ha
    · exact okDiv_at okDiv_12 ha
    · exact okDiv_at okDiv_13 ha
    · exact okDiv_at okDiv_14 ha
    · exact okDiv_at okDiv_15 ha
    · exact okDiv_at okDiv_16 ha
    · exact okDiv_at okDiv_17 ha
    · exact okDiv_at okDiv_18 ha
    · exact okDiv_at okDiv_19 ha
    · exact okDiv_at okDiv_20 ha
    · exact okDiv_at okDiv_21 ha
    · exact okDiv_at okDiv_22 ha
    · exact okDiv_at okDiv_23 ha
    · exact okDiv_at okDiv_24 ha
    · exact okDiv_at okDiv_25 ha
    · exact okDiv_at okDiv_26 ha
  unfold vf_n64
  unfold okDiv at key
  exact of_decide_eq_true key
abbrev QD (D : va_G) (κ : Nat → ClassId) (A : Nat → Prop) (ad : Nat → Nat) (M' : Nat → Option va_E) (v : UInt64) : Array Value → State → Outcome → State → Prop := va_Qd (fun (x : UInt64) (_ : Unit) => x = v) (fun _ t => MW D κ A ad M' t) A
section DW
variable {p : Program} {l : Launch} {e : Env} {R : Room} {s : State} {m : MethodId} {args : Array Value} {below : List Frame} {meth : Method} {c : Code} {H : Heap} {locs : List Loc} {cells slots : Nat} {Q : State → Prop}
variable {cc : ByteArray} {pc nL : Nat} {ls : Array Slot} {rest : List Value} {D : va_G} {κ : Nat → ClassId} {A : Nat → Prop} {ad : Nat → Nat} {M M' : Nat → Option va_E} {own : String} {lv : List (Nat × Value)}
theorem m_dret (X : CallFix p m c cc nL s args G0 own) (G : Mm D κ A ad M s H locs) {x v : UInt64} (hr : meth.sig.returnType = some .double) (hl : meth.locks = false) (hdg : decode cc pc = .ok (.dreturn, 1)) (hx : x = v) (hM : M = M') : W p l e R s m args below meth c H locs cells slots (MQ below (QD D κ A ad M' v) args s cells slots A) (F0 m pc ls [.double x]) := by
  subst hx; subst hM
  exact W.dret X.1 X.2.1 hr (fun t ht hW => ⟨⟨x, (), rfl, rfl, G.out ht hW⟩, G.2.2.2.2.1.F ht⟩) G.2.2.2.2.1.2.2 hdg hl
theorem m_calld (X : CallFix p m c cc nL s args G0 own) (G : Mm D κ A ad M s H locs) {i ci N n index maxL a : Nat} {fs As st : List Value} {C : String} {T : u_T} {y : MethodName} {b : ByteArray} {rm : Room} {v : UInt64} (ha : a = ad i)
    (hM : Met l y (gw y b maxL (some .double)) rm (va_Pc (.ref (ad i) :: As) (MW D κ A ad M)) (QD D κ A ad M' v) rm.cells rm.slots A) (hi : M i = some (.inr (ci, fs))) (hc : vwCl[ci]? = some (C, T, N)) (hG : GoodIn G0 (wsV own index C y (gw y b maxL (some .double))))
    (hd : y.cls = C ∧ y.cls ≠ "java/lang/invoke/MethodHandle" ∧ y.cls ≠ "java/lang/invoke/VarHandle" ∧ (parseMethodDescriptor y.desc).map (fun d => d.parameters.length) = some n) (hR : rm.frames + 1 ≤ R.frames ∧ 8 + (maxL + 11) + rm.locals ≤ R.locals) (hn : As.length = n) (hl : lv_has ls nL lv) (hst : st = As.reverse ++ .ref a :: rest) (hW : 2 * (F0 m pc ls st).monitorRoom + (rest.map fun v => v.category).sum ≤ 8) (hdg : decode cc pc = .ok (.invokevirtual index, 3)) (hf : cells + rm.cells ≤ R.cells ∧ slots + rm.slots ≤ R.slots)
    (kk : ∀ (H1 : Heap) (locs1 : List Loc), Mm D κ A ad M' s H1 locs1 → W p l e R s m args below meth c H1 locs1 (cells + rm.cells) (slots + rm.slots) Q (F0 m (pc + 3) ls (.double v :: rest))) : W p l e R s m args below meth c H locs cells slots Q (F0 m pc ls st) := by
  subst ha
  refine va_calld (va_runV X hM (cwV n X.2.2.2.2 hG rfl rfl rfl hd hR) ⟨fun a U g mk q => ⟨q.1, q.2.blind⟩, m_recv G hi hc, fun U hU hW => ⟨rfl, m_pre G hU hW⟩⟩ rfl hn hl.1 hst hW hdg hf) G.2.2.2.2.1 (fun q _ h => h) (fun q h => h) (fun r u t H1 locs1 ht hvm hw hB hz hk hS => ?_)
  subst hw
  exact kk H1 locs1 (G.next hB ht hS)
end DW
theorem g_X7_245 : GoodIn G0 (wsV RX7 245 RX5 yX5_holesOfBodies (gw yX5_holesOfBodies cX5_holesOfBodies 4 (some (FieldType.int)))) := gv_in ml_X7_245 im_yX5_holesOfBodies se_yX5_holesOfBodies ini_X5 cd_yX5_holesOfBodies
theorem hd_yX5_holesOfBodies : yX5_holesOfBodies.cls = RX5 ∧ yX5_holesOfBodies.cls ≠ "java/lang/invoke/MethodHandle" ∧ yX5_holesOfBodies.cls ≠ "java/lang/invoke/VarHandle" ∧ (parseMethodDescriptor yX5_holesOfBodies.desc).map (fun d => d.parameters.length) = some 0 := by decide +kernel
abbrev rm7_meanHoles : Room := { frames := 2, cells := 0, slots := 0, locals := 42 }
noncomputable def F7_meanHoles (b : BS)  : Option (UInt64) :=
  bn (F5_definedCount b 70) fun x3 =>
  if ¬ x3 = 0 then
  bn (F5_holesOfBodies b 70) fun x11 =>
  pr (dvok x11 x3) <|
  some (FP.ddiv (FP.i2d x11) (FP.i2d x3))
  else
  some FP.dconst0
set_option maxHeartbeats 4000000 in
set_option maxRecDepth 100000 in
theorem c7_meanHoles (l : Launch) (D : va_G) (κ : Nat → ClassId) (A : Nat → Prop) (ad : Nat → Nat) (r0 : Nat → Option va_E) (b : BS)  (res : UInt64) (h : F7_meanHoles b  = some res) : Met l yX7_meanHoles (gw yX7_meanHoles cX7_meanHoles 2 (some (FieldType.double))) rm7_meanHoles (va_Pc [.ref (ad 50)] (MW D κ A ad (celB κ ad r0 b))) (QD D κ A ad (celB κ ad r0 b) res) 0 0 A := by
  refine met_of (own := RX7) (by decide +kernel) rfl (Nat.le_of_ble_eq_true rfl) ?_
  intro p e s m below meth c ls X hr hlk G hl
  have hl : lv_has ls 2 [(0, .ref (ad 50))] := hl
  unfold F7_meanHoles at h
  refine lv_aload_n (pc := 0) X.1 X.2.1 dX7_meanHoles_0 rfl (lv_at hl 0 rfl) ?_
  refine B_getc (pc := 1) (i := 50) (k := 0) (j := 70) X G rfl clX7 (okL50 _) (by decide) rfl fl_X7_10 dX7_meanHoles_1 ?_
  obtain ⟨x3, ex3, h1⟩ := bn_some h
  refine B_calli (pc := 4) (v := x3) (M' := (celB κ ad r0 b)) (i := 70) (As := []) (rest := []) X G (rm := rm5_definedCount) rfl rfl rfl (c5_definedCount l D κ A ad r0 b 70 x3 ex3) (B_rcv (ci := 5) (okL70 _) (by decide)) rfl g_X7_83 hd_yX5_definedCount ⟨Nat.le_of_ble_eq_true rfl, Nat.le_of_ble_eq_true rfl⟩ rfl hl rfl (lv_room (Nat.le_of_ble_eq_true rfl)) dX7_meanHoles_4 ⟨Nat.le_of_ble_eq_true rfl, Nat.le_of_ble_eq_true rfl⟩ (fun H locs G2 => ?_)
  refine lv_istore_n (pc := 7) (lv' := [(1, .int x3), (0, .ref (ad 50))]) X.1 X.2.1 dX7_meanHoles_7 rfl hl (by decide) rfl (fun ls4 hl5 => ?_)
  refine lv_iload_n (pc := 8) X.1 X.2.1 dX7_meanHoles_8 rfl (lv_at hl5 0 rfl) ?_
  refine lv_if_ne (pc := 9) (tgt := 14) X.1 X.2.1 dX7_meanHoles_9 (by decide) (fun hc6 => ?_) (fun hc6 => ?_)
  · have h7 := it_pos h1 hc6
    refine lv_aload_n (pc := 14) X.1 X.2.1 dX7_meanHoles_14 rfl (lv_at hl5 1 rfl) ?_
    refine B_getc (pc := 15) (i := 50) (k := 0) (j := 70) X G2 rfl clX7 (okL50 _) (by decide) rfl fl_X7_10 dX7_meanHoles_15 ?_
    obtain ⟨x11, ex11, h9⟩ := bn_some h7
    refine B_calli (pc := 18) (v := x11) (M' := (celB κ ad r0 b)) (i := 70) (As := []) (rest := []) X G2 (rm := rm5_holesOfBodies) rfl rfl rfl (c5_holesOfBodies l D κ A ad r0 b 70 x11 ex11) (B_rcv (ci := 5) (okL70 _) (by decide)) rfl g_X7_245 hd_yX5_holesOfBodies ⟨Nat.le_of_ble_eq_true rfl, Nat.le_of_ble_eq_true rfl⟩ rfl hl5 rfl (lv_room (Nat.le_of_ble_eq_true rfl)) dX7_meanHoles_18 ⟨Nat.le_of_ble_eq_true rfl, Nat.le_of_ble_eq_true rfl⟩ (fun H locs G10 => ?_)
    refine lv_i2d (pc := 21) X.1 X.2.1 dX7_meanHoles_21 ?_
    refine lv_iload_n (pc := 22) X.1 X.2.1 dX7_meanHoles_22 rfl (lv_at hl5 0 rfl) ?_
    refine lv_i2d (pc := 23) X.1 X.2.1 dX7_meanHoles_23 ?_
    obtain ⟨dv, h12⟩ := pr_some h9
    refine lv_ddiv (pc := 24) X.1 X.2.1 dX7_meanHoles_24 (mean_n64 dv) ?_
    have h12_i := Option.some.inj h12
    exact m_dret (pc := 25) X G10 hr hlk dX7_meanHoles_25 h12_i rfl
  · have h8 := it_neg h1 (fun q => q hc6)
    refine lv_dconst0 (pc := 12) X.1 X.2.1 dX7_meanHoles_12 ?_
    have h8_i := Option.some.inj h8
    exact m_dret (pc := 13) X G2 hr hlk dX7_meanHoles_13 h8_i rfl
