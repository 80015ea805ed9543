/-! ROWS FOR CALLS OF METHODS THAT MAKE: addresses are new behind them -/
abbrev QIXA (D : va_G) (A : Nat → Prop) (ok : (Nat → Nat) → Prop) (M' : (Nat → Nat) → Nat → Option va_E) (r : Nat ⊕ Int32) : Array Value → State → Outcome → State → Prop := va_Qi (fun (x : Int32) (ad' : Nat → Nat) => r = .inr x ∧ ok ad') (fun ad' t => MC D A ad' (M' ad') t.heap) A
abbrev QRA (D : va_G) (A : Nat → Prop) (ok : (Nat → Nat) → Prop) (M' : (Nat → Nat) → Nat → Option va_E) (q : Nat) : Array Value → State → Outcome → State → Prop := va_Qr (fun (ad' : Nat → Nat) => ok ad') (fun ad' a t => a = ad' q ∧ MC D A ad' (M' ad') t.heap) A
section AR
variable {p : Program} {l : Launch} {e : Env} {R : Room} {s : State} {m : MethodId} {args : Array Value} {below : List Frame} {meth : Method} {c : Code} {H : Heap} {locs : List Loc} {cells slots : Nat} {Q : State → Prop}
variable {cc : ByteArray} {pc nL : Nat} {ls : Array Slot} {rest : List Value} {D : va_G} {κ : Nat → ClassId} {A : Nat → Prop} {ad : Nat → Nat} {own : String} {lv : List (Nat × Value)} {M : Nat → Option va_E}
theorem m_getA (X : CallFix p m c cc nL s args G0 own) (G : Mm D κ A ad M s H locs) {i ci k N index a : Nat} {C : String} {T : u_T} {fs : List Value} {v : Value} (ha : a = ad i) (hM : M i = some (.inr (ci, fs))) (hc : vwCl[ci]? = some (C, T, N)) (hw : ∀ w ∈ u_ws C T N, w ∈ G0) (hk : k < N) (hl : Cond.fieldLink own index C (T k).2.1 (T k).2.2.1 ∈ G0) (ho : (T k).1 = C) (hv : fs[k]? = some v) (hdg : decode cc pc = .ok (.getfield index, 3))
    (kk : W p l e R s m args below meth c H locs cells slots Q (F0 m (pc + 3) ls (v :: rest))) : W p l e R s m args below meth c H locs cells slots Q (F0 m pc ls (.ref a :: rest)) := by
  subst ha
  exact m_get X G hM hc hw hk hl ho hv hdg kk
theorem m_callvA (X : CallFix p m c cc nL s args G0 own) (G : Mm D κ A ad M s H locs) {i ci N n index maxL a : Nat} {fs As st : List Value} {C : String} {T : u_T} {y : MethodName} {b : ByteArray} {rm : Room} {ok : (Nat → Nat) → Prop} {M' : (Nat → Nat) → Nat → Option va_E} (ha : a = ad i)
    (hM : Met l y (gw y b maxL none) rm (va_Pc (.ref (ad i) :: As) (MW D κ A ad M)) (QVC D A ok M') rm.cells rm.slots A) (hi : M i = some (.inr (ci, fs))) (hc : vwCl[ci]? = some (C, T, N)) (hG : GoodIn G0 (wsV own index C y (gw y b maxL none)))
    (hd : y.cls = C ∧ y.cls ≠ "java/lang/invoke/MethodHandle" ∧ y.cls ≠ "java/lang/invoke/VarHandle" ∧ (parseMethodDescriptor y.desc).map (fun d => d.parameters.length) = some n) (hR : rm.frames + 1 ≤ R.frames ∧ 8 + (maxL + 11) + rm.locals ≤ R.locals) (hn : As.length = n) (hl : lv_has ls nL lv) (hst : st = As.reverse ++ .ref a :: rest) (hW : 2 * (F0 m pc ls st).monitorRoom + (rest.map fun v => v.category).sum ≤ 8) (hdg : decode cc pc = .ok (.invokevirtual index, 3)) (hf : cells + rm.cells ≤ R.cells ∧ slots + rm.slots ≤ R.slots)
    (kk : ∀ (ad' : Nat → Nat) (H1 : Heap) (locs1 : List Loc), ok ad' → Mm D κ A ad' (M' ad') s H1 locs1 → W p l e R s m args below meth c H1 locs1 (cells + rm.cells) (slots + rm.slots) Q (F0 m (pc + 3) ls rest)) : W p l e R s m args below meth c H locs cells slots Q (F0 m pc ls st) := by
  subst ha
  refine va_callv (va_runV X hM (cwV n X.2.2.2.2 hG rfl rfl rfl hd hR) ⟨fun a U g mk q => ⟨q.1, q.2.blind⟩, m_recv G hi hc, fun U hU hW => ⟨rfl, m_pre G hU hW⟩⟩ rfl hn hl.1 hst hW hdg hf) G.2.2.2.2.1 (fun q _ h => h) (fun q h => h) (fun u t H1 locs1 ht hvm hw hB hz hk hS => ?_)
  exact kk u H1 locs1 hw (G.nextC (by rw [← ht]; exact hB) hS)
theorem m_callsvA (X : CallFix p m c cc nL s args G0 own) (G : Mm D κ A ad M s H locs) {n index maxL : Nat} {As st : List Value} {y : MethodName} {b : ByteArray} {rm : Room} {ok : (Nat → Nat) → Prop} {M' : (Nat → Nat) → Nat → Option va_E}
    (hM : Met l y (gw y b maxL none) rm (va_Pc As (MW D κ A ad M)) (QVC D A ok M') rm.cells rm.slots A) (hG : GoodIn G0 (va_wsS own index y (gw y b maxL none)))
    (hd : y.cls ≠ "java/lang/invoke/MethodHandle" ∧ y.cls ≠ "java/lang/invoke/VarHandle" ∧ (parseMethodDescriptor y.desc).map (fun d => d.parameters.length) = some n) (hR : rm.frames + 1 ≤ R.frames ∧ 8 + (maxL + 11) + rm.locals ≤ R.locals) (hn : As.length = n) (hl : lv_has ls nL lv) (hst : st = As.reverse ++ rest) (hW : 2 * (F0 m pc ls st).monitorRoom + (rest.map fun v => v.category).sum ≤ 8) (hdg : decode cc pc = .ok (.invokestatic index, 3)) (hf : cells + rm.cells ≤ R.cells ∧ slots + rm.slots ≤ R.slots)
    (kk : ∀ (ad' : Nat → Nat) (H1 : Heap) (locs1 : List Loc), ok ad' → Mm D κ A ad' (M' ad') s H1 locs1 → W p l e R s m args below meth c H1 locs1 (cells + rm.cells) (slots + rm.slots) Q (F0 m (pc + 3) ls rest)) : W p l e R s m args below meth c H locs cells slots Q (F0 m pc ls st) := by
  refine va_callv (va_runS X hM (va_cwS n X.2.2.2.2 hG rfl rfl rfl hd hR) ⟨fun a U g mk q => ⟨q.1, q.2.blind⟩, fun U hU hW => ⟨rfl, m_pre G hU hW⟩⟩ rfl hn hl.1 hst hW hdg hf) G.2.2.2.2.1 (fun q _ h => h) (fun q h => h) (fun u t H1 locs1 ht hvm hw hB hz hk hS => ?_)
  exact kk u H1 locs1 hw (G.nextC (by rw [← ht]; exact hB) hS)
theorem m_callrA (X : CallFix p m c cc nL s args G0 own) (G : Mm D κ A ad M s H locs) {i ci N n index maxL a q0 : Nat} {fs As st : List Value} {C : String} {T : u_T} {y : MethodName} {b : ByteArray} {ret : FieldType} {rm : Room} {ok : (Nat → Nat) → Prop} {M' : (Nat → Nat) → Nat → Option va_E} (ha : a = ad i)
    (hM : Met l y (gw y b maxL (some ret)) rm (va_Pc (.ref (ad i) :: As) (MW D κ A ad M)) (QRA D A ok M' q0) rm.cells rm.slots A) (hi : M i = some (.inr (ci, fs))) (hc : vwCl[ci]? = some (C, T, N)) (hG : GoodIn G0 (wsV own index C y (gw y b maxL (some ret))))
    (hd : y.cls = C ∧ y.cls ≠ "java/lang/invoke/MethodHandle" ∧ y.cls ≠ "java/lang/invoke/VarHandle" ∧ (parseMethodDescriptor y.desc).map (fun d => d.parameters.length) = some n) (hR : rm.frames + 1 ≤ R.frames ∧ 8 + (maxL + 11) + rm.locals ≤ R.locals) (hn : As.length = n) (hl : lv_has ls nL lv) (hst : st = As.reverse ++ .ref a :: rest) (hW : 2 * (F0 m pc ls st).monitorRoom + (rest.map fun v => v.category).sum ≤ 8) (hdg : decode cc pc = .ok (.invokevirtual index, 3)) (hf : cells + rm.cells ≤ R.cells ∧ slots + rm.slots ≤ R.slots)
    (kk : ∀ (ad' : Nat → Nat) (H1 : Heap) (locs1 : List Loc), ok ad' → Mm D κ A ad' (M' ad') s H1 locs1 → W p l e R s m args below meth c H1 locs1 (cells + rm.cells) (slots + rm.slots) Q (F0 m (pc + 3) ls (.ref (ad' q0) :: rest))) : W p l e R s m args below meth c H locs cells slots Q (F0 m pc ls st) := by
  subst ha
  refine va_callr (va_runV X hM (cwV n X.2.2.2.2 hG rfl rfl rfl hd hR) ⟨fun a U g mk q => ⟨q.1, q.2.blind⟩, m_recv G hi hc, fun U hU hW => ⟨rfl, m_pre G hU hW⟩⟩ rfl hn hl.1 hst hW hdg hf) G.2.2.2.2.1 (fun q _ h => h) (fun q h => h) (fun u ra t H1 locs1 ht hvm hw hB hz hk hS => ?_)
  obtain ⟨rfl, hB⟩ := hB
  exact kk u H1 locs1 hw (G.nextC (by rw [← ht]; exact hB) hS)
theorem C_aret (X : CallFix p m c cc nL s args G0 own) (G : Mm D κ A ad M s H locs) {ok : (Nat → Nat) → Prop} {M' : (Nat → Nat) → Nat → Option va_E} {q a : Nat} {rt : FieldType} (hr : meth.sig.returnType = some rt) (hrt : (∃ n, rt = .object n) ∨ ∃ t, rt = .array t) (hl : meth.locks = false) (hdg : decode cc pc = .ok (.areturn, 1)) (ha : a = ad q) (hok : ok ad) (hM : M = M' ad) : W p l e R s m args below meth c H locs cells slots (MQ below (QRA D A ok M' q) args s cells slots A) (F0 m pc ls [.ref a]) :=
  W.aret X.1 X.2.1 hr hrt (Or.inr ⟨_, rfl⟩) (fun t ht hW => ⟨⟨ad, a, rfl, hok, ha, by show MC D A ad (M' ad) t.heap; rw [ht, ← hM]; exact G.mc⟩, G.2.2.2.2.1.F ht⟩) G.2.2.2.2.1.2.2 hdg hl
theorem X_iretA (X : CallFix p m c cc nL s args G0 own) (G : Mm D κ A ad M s H locs) {x : Int32} {r : Nat ⊕ Int32} {XC : String → State → State → Prop} {ok : (Nat → Nat) → Prop} {M' : (Nat → Nat) → Nat → Option va_E} {mc ms : Nat} (hr : meth.sig.returnType = some .int) (hl : meth.locks = false) (hdg : decode cc pc = .ok (.ireturn, 1)) (hx : r = .inr x) (hok : ok ad) (hM : M = M' ad) (hc : cells ≤ mc) (hs : slots ≤ ms) : W p l e R s m args below meth c H locs cells slots (vx_MQ below (QIXA D A ok M' r) XC args s mc ms A) (F0 m pc ls [.int x]) :=
  W.widen hc hs (vx_ret (W.iret X.1 X.2.1 hr (fun t ht hW => ⟨⟨x, ad, rfl, ⟨hx, hok⟩, by show MC D A ad (M' ad) t.heap; rw [ht, ← hM]; exact G.mc⟩, G.2.2.2.2.1.F ht⟩) G.2.2.2.2.1.2.2 hdg hl))
end AR
theorem g_X2_27 : GoodIn G0 (va_wsS RX2 27 yX2_copyInto (gw yX2_copyInto cX2_copyInto 4 none)) := gsS_in ml_X2_27 sm_yX2_copyInto ini_X2 cd_yX2_copyInto
theorem hs_yX2_copyInto : yX2_copyInto.cls ≠ "java/lang/invoke/MethodHandle" ∧ yX2_copyInto.cls ≠ "java/lang/invoke/VarHandle" ∧ (parseMethodDescriptor yX2_copyInto.desc).map (fun d => d.parameters.length) = some 3 := by decide +kernel
/-- where the state of a place of history lies -/
def plc (p0 : Nat) (p1 : Int32) : Nat := if p0 = 64 then 72 + 2 * p1.toNatClampNeg else 84 + 2 * p1.toNatClampNeg
noncomputable def F2_copyInto (b : BS) (p0 : Nat) (p1 : Int32) (p2 : Nat) : Option BS :=
  if p1 < 0 then some b else
  ck (okB b.2.2 p0 23) <|
  if nI (lnB b.2.2 p0) ≤ p1 then some b else
  ro (b.2.1 p0) (lnB b.2.2 p0) p1 fun o =>
  on o (pr (Closed b ∧ (72 ≤ plc p0 p1 ∧ plc p0 p1 < 88 ∧ plc p0 p1 % 2 = 0) ∧ lvB b.2.2 (plc p0 p1) = false ∧ lvB b.2.2 p2 = true) <|
    F5_copyFrom (setR (nwS b (plc p0 p1)) p0 p1.toNatClampNeg (some (plc p0 p1))) (plc p0 p1) p2) fun t =>
  ck (okB b.2.2 t 5) <| F5_copyFrom b t p2
abbrev rm2_copyInto : Room := { frames := 3, cells := 5, slots := 35, locals := 90 }
set_option maxHeartbeats 4000000 in
set_option maxRecDepth 100000 in
theorem c2_copyInto (l : Launch) (D : va_G) (κ : Nat → ClassId) (A : Nat → Prop) (ad : Nat → Nat) (r0 : Nat → Option va_E) (b : BS) (p0 : Nat) (p1 : Int32) (p2 : Nat) (res : BS) (h : F2_copyInto b p0 p1 p2 = some res) : Met l yX2_copyInto (gw yX2_copyInto cX2_copyInto 4 none) rm2_copyInto (va_Pc [.ref (ad p0), .int p1, .ref (ad p2)] (MW D κ A ad (celB κ ad r0 b))) (QVC D A (fun ad' => Ag b.2.2 ad ad') (fun ad' => celB κ ad' r0 res)) 5 35 A := by
  refine met_of (own := RX2) (by decide +kernel) rfl (Nat.le_of_ble_eq_true rfl) ?_
  intro p e s m below meth c ls X hr hlk G hl
  have hl : lv_has ls 4 [(0, .ref (ad p0)), (1, .int p1), (2, .ref (ad p2))] := hl
  unfold F2_copyInto at h
  have tail : ∀ (ad1 : Nat → Nat) (b1 : BS) (t : Nat) (cells slots : Nat) (H : Heap) (locs : List Loc) (ls : Array Slot), Ag b.2.2 ad ad1 → ad1 p2 = ad p2 → okB b1.2.2 t 5 = true → F5_copyFrom b1 t p2 = some res → cells ≤ 5 → slots ≤ 35 → Mm D κ A ad1 (celB κ ad1 r0 b1) s H locs → lv_has ls 4 [(3, .ref (ad1 t)), (0, .ref (ad p0)), (1, .int p1), (2, .ref (ad p2))] → W p l e rm2_copyInto s m ([.ref (ad p0), .int p1, .ref (ad p2)] : List Value).toArray below meth c H locs cells slots (MQ below (QVC D A (fun ad' => Ag b.2.2 ad ad') (fun ad' => celB κ ad' r0 res)) ([.ref (ad p0), .int p1, .ref (ad p2)] : List Value).toArray s 5 35 A) (F0 m 31 ls []) := by
    intro ad1 b1 t cells slots H locs ls hA h2 ht hf hc hs G hl
    refine lv_aload_n (pc := 31) X.1 X.2.1 dX2_copyInto_31 rfl (lv_at hl 0 rfl) ?_
    refine lv_aload_n (pc := 32) X.1 X.2.1 dX2_copyInto_32 rfl (lv_at hl 3 rfl) ?_
    refine B_callv (pc := 33) (M' := celB κ ad1 r0 res) (i := t) (As := [.ref (ad p2)]) (rest := []) X G (rm := rm5_copyFrom) rfl rfl rfl (by rw [← h2]; exact c5_copyFrom l D κ A ad1 r0 b1 t p2 res hf) (B_rcv (ci := 5) ht (by decide)) rfl g_X2_31 hd_yX5_copyFrom ⟨Nat.le_of_ble_eq_true rfl, Nat.le_of_ble_eq_true rfl⟩ rfl hl rfl (lv_room (Nat.le_of_ble_eq_true rfl)) dX2_copyInto_33 ⟨hc, hs⟩ (fun H locs G => ?_)
    refine W.widen (k := 5) (n := 35) hc hs ?_
    exact C_ret (pc := 36) X G hr hlk dX2_copyInto_36 hA rfl
  refine lv_iload_n X.1 X.2.1 dX2_copyInto_0 rfl (lv_at hl 1 rfl) ?_
  refine lv_if_lt (pc := 1) (tgt := 10) X.1 X.2.1 dX2_copyInto_1 (by decide) (fun hc => ?_) (fun hc => ?_)
  · have h := Option.some.inj (it_pos h hc)
    subst h
    refine W.widen (k := 5) (n := 35) (Nat.zero_le _) (Nat.zero_le _) ?_
    exact C_ret (pc := 10) X G hr hlk dX2_copyInto_10 (Ag.rf _ _) rfl
  · have h := it_neg h hc
    obtain ⟨ok0, h⟩ := ck_some h
    refine lv_iload_n (pc := 4) X.1 X.2.1 dX2_copyInto_4 rfl (lv_at hl 1 rfl) ?_
    refine lv_aload_n (pc := 5) X.1 X.2.1 dX2_copyInto_5 rfl (lv_at hl 0 rfl) ?_
    refine B_alenS (pc := 6) (i := p0) (n := lnB b.2.2 p0) X G rfl ok0 rfl dX2_copyInto_6 ?_
    refine lv_icmp_lt (pc := 7) (tgt := 11) X.1 X.2.1 dX2_copyInto_7 (by decide) (fun hc => ?_) (fun hc => ?_)
    · have h := it_neg h (Int32.not_le.mpr hc)
      obtain ⟨hi, o, eo, h⟩ := ro_some h
      refine lv_aload_n (pc := 11) X.1 X.2.1 dX2_copyInto_11 rfl (lv_at hl 0 rfl) ?_
      refine lv_iload_n (pc := 12) X.1 X.2.1 dX2_copyInto_12 rfl (lv_at hl 1 rfl) ?_
      refine B_alds (pc := 13) (i := p0) (n := lnB b.2.2 p0) (o := o) X G rfl ok0 rfl hi eo dX2_copyInto_13 ?_
      refine lq_astore_n (pc := 14) (lv' := [(3, va_rf (o.map ad)), (0, .ref (ad p0)), (1, .int p1), (2, .ref (ad p2))]) X dX2_copyInto_14 rfl hl (by decide) rfl (fun ls hl => ?_)
      refine lq_aload_n (pc := 15) X dX2_copyInto_15 rfl (lv_at hl 0 rfl) ?_
      rcases o with _ | t
      · have h := on_n h
        obtain ⟨⟨hC, hrg, hnl, hl2⟩, h⟩ := pr_some h
        generalize hi0 : plc p0 p1 = i at h hrg hnl
        refine lv_ifnonnullN (pc := 16) X.1 X.2.1 dX2_copyInto_16 ?_
        have n1 : celB κ ad r0 b i = none := celB_not (by omega) hnl
        have n2 : celB κ ad r0 b (i + 1) = none := celB_not (by omega) (lvB_false fun q => by
          have e1 : i + 1 - (i + 1) % 2 = i - i % 2 := by omega
          rw [lvB_iff, e1] at q
          have : lvB b.2.2 i = true := by rw [lvB_iff]; omega
          rw [hnl] at this; cases this)
        have n3 : celB κ ad r0 b (102 + 5 * b.2.2 1) = none := celB_not (by omega) (lv_new1 _ (by omega) (by omega))
        have n4 : celB κ ad r0 b (103 + 5 * b.2.2 1) = none := celB_not (by omega) (lv_new1 _ (by omega) (by omega))
        have n5 : celB κ ad r0 b (104 + 5 * b.2.2 1) = none := celB_not (by omega) (lv_new1 _ (by omega) (by omega))
        refine m_new (pc := 19) X G i (ci := 5) (N := 5) (C := RX5) (T := TX5) (ty := tyX5) (fs := [.null, .null, .int 0, .int 0, .int 0]) n1 rfl wl_X5 tyX5_ok (by decide +kernel) cl_X2_9 ins_X5 ini_X5 (Nat.le_of_ble_eq_true rfl) (Nat.le_of_ble_eq_true rfl) dX2_copyInto_19 (fun a H G => ?_)
        refine lv_dup (pc := 22) X.1 X.2.1 dX2_copyInto_22 rfl ?_
        have ea : a = upA ad i a i := upA_s.symm
        refine m_callN (pc := 23) (As := []) (rest := [.ref a]) (n := 0) (a := a) X G (rm := rm5_init) (host := RX7) (by have q := c5_init l D κ A (upA ad i a) (upO (celB κ ad r0 b) i (.inr (5, [.null, .null, .int 0, .int 0, .int 0]))) i (i + 1) (102 + 5 * b.2.2 1) (103 + 5 * b.2.2 1) (104 + 5 * b.2.2 1) (by omega) (by omega) (by omega) (by omega) (by omega) (by omega) (by omega) (by omega) (by omega) (by omega) (by omega) (by omega) (by omega) (by omega) (by omega) (by omega) (by omega) (by omega) (by omega) (by omega) ((upO_n (by omega)).trans n2) ((upO_n (by omega)).trans n3) ((upO_n (by omega)).trans n4) ((upO_n (by omega)).trans n5) upO_s; rw [← ea] at q; exact q) (by decide +kernel) rfl im_yX5_init ini_X5 (gw_in cd_yX5_init) (by decide +kernel) ⟨Nat.le_of_ble_eq_true rfl, Nat.le_of_ble_eq_true rfl⟩ rfl hl rfl (lv_room (Nat.le_of_ble_eq_true rfl)) dX2_copyInto_23 ⟨Nat.le_of_ble_eq_true rfl, Nat.le_of_ble_eq_true rfl⟩ (fun ad1 H locs hok G => ?_)
        have hne : ∀ j, j < 66 ∨ lvB b.2.2 j = true → j ∉ ([i + 1, 102 + 5 * b.2.2 1, 103 + 5 * b.2.2 1, 104 + 5 * b.2.2 1] : List Nat) ∧ j ≠ i := by
          intro j hj
          have k1 : lvB b.2.2 i = false := hnl
          have k2 : lvB b.2.2 (i + 1) = false := lvB_false fun q => by
            have e1 : i + 1 - (i + 1) % 2 = i - i % 2 := by omega
            rw [lvB_iff, e1] at q
            have : lvB b.2.2 i = true := by rw [lvB_iff]; omega
            rw [hnl] at this; cases this
          have k3 : lvB b.2.2 (102 + 5 * b.2.2 1) = false := lv_new1 _ (by omega) (by omega)
          have k4 : lvB b.2.2 (103 + 5 * b.2.2 1) = false := lv_new1 _ (by omega) (by omega)
          have k5 : lvB b.2.2 (104 + 5 * b.2.2 1) = false := lv_new1 _ (by omega) (by omega)
          have no : ∀ q, 66 ≤ q → lvB b.2.2 q = false → j ≠ q := by
            intro q h1 h2 h3
            subst h3
            rcases hj with hj | hj
            · omega
            · rw [h2] at hj; cases hj
          simp only [List.mem_cons, List.not_mem_nil, or_false, not_or]
          exact ⟨⟨no _ (by omega) k2, no _ (by omega) k3, no _ (by omega) k4, no _ (by omega) k5⟩, no _ (by omega) k1⟩
        have hA : Ag b.2.2 ad ad1 := fun j hj => (hok j (hne j hj).1).trans (upA_n (hne j hj).2)
        have G : Mm D κ A ad1 (celB κ ad1 r0 (nwS b i)) s H locs := G.same (celB_S hC hA hrg hnl)
        have ea1 : a = ad1 i := (upA_s (ad := ad) (i := i) (a := a)).symm.trans (hok i (by simp only [List.mem_cons, List.not_mem_nil, or_false, not_or]; omega)).symm
        have L := nwS_lv b i hrg
        have ki : okB (nwS b i).2.2 i 5 = true := by
          have k : kd i = 5 := by unfold kd; repeat' (first | rw [if_pos (by omega)] | rw [if_neg (by omega)])
          unfold okB
          rw [(L i).mpr (by omega), k]; rfl
        have ok0' : okB (nwS b i).2.2 p0 23 = true := by
          unfold okB
          rw [(L p0).mpr (Or.inl (okB_1 ok0)), okB_2 ok0]; rfl
        have lo : p0 = 64 ∨ p0 = 65 := by
          have q := okB_2 ok0
          unfold kd at q
          repeat' split at q
          all_goals first | omega | (simp at q)
        have ln0 : lnB (nwS b i).2.2 p0 = lnB b.2.2 p0 := by rcases lo with rfl | rfl <;> rfl
        refine lv_astore_n (pc := 26) (lv' := [(3, .ref a), (0, .ref (ad p0)), (1, .int p1), (2, .ref (ad p2))]) X.1 X.2.1 dX2_copyInto_26 rfl hl (by decide) rfl (fun ls hl => ?_)
        refine lv_aload_n (pc := 27) X.1 X.2.1 dX2_copyInto_27 rfl (lv_at hl 1 rfl) ?_
        refine lv_iload_n (pc := 28) X.1 X.2.1 dX2_copyInto_28 rfl (lv_at hl 2 rfl) ?_
        refine lv_aload_n (pc := 29) X.1 X.2.1 dX2_copyInto_29 rfl (lv_at hl 0 rfl) ?_
        rw [ea1] at hl ⊢
        refine B_ast (pc := 30) (i := p0) (j := i) (ci := 5) (t0 := 3) (C := RX5) (T := TX5) (ty := tyX5) (n := lnB b.2.2 p0) X G rfl (hA p0 (Or.inl (by omega))).symm (Or.inr ⟨rfl, rfl, rfl⟩) ok0' ln0 hi clX5 ki rfl dX2_copyInto_30 (fun H locs G => ?_)
        exact tail ad1 (setR (nwS b i) p0 p1.toNatClampNeg (some i)) i 5 35 H locs ls hA (hA p2 (Or.inr hl2)) ki h (Nat.le_refl _) (Nat.le_refl _) G hl
      · have h := on_s h
        obtain ⟨okt, h⟩ := ck_some h
        refine lv_ifnonnull (pc := 16) (tgt := 31) (x := ad t) X.1 X.2.1 dX2_copyInto_16 (by decide) ?_
        exact tail ad b t 0 0 _ _ ls (Ag.rf _ _) rfl okt h (Nat.zero_le _) (Nat.zero_le _) G hl
    · have h := Option.some.inj (it_pos h (Int32.not_lt.mp hc))
      subst h
      refine W.widen (k := 5) (n := 35) (Nat.zero_le _) (Nat.zero_le _) ?_
      exact C_ret (pc := 10) X G hr hlk dX2_copyInto_10 (Ag.rf _ _) rfl
theorem hd_yX2_saveState : yX2_saveState.cls = RX2 ∧ yX2_saveState.cls ≠ "java/lang/invoke/MethodHandle" ∧ yX2_saveState.cls ≠ "java/lang/invoke/VarHandle" ∧ (parseMethodDescriptor yX2_saveState.desc).map (fun d => d.parameters.length) = some 1 := by decide +kernel
theorem hd_yX2_takeSnapshot : yX2_takeSnapshot.cls = RX2 ∧ yX2_takeSnapshot.cls ≠ "java/lang/invoke/MethodHandle" ∧ yX2_takeSnapshot.cls ≠ "java/lang/invoke/VarHandle" ∧ (parseMethodDescriptor yX2_takeSnapshot.desc).map (fun d => d.parameters.length) = some 2 := by decide +kernel
theorem hd_yX1_makeOutcome : yX1_makeOutcome.cls = RX1 ∧ yX1_makeOutcome.cls ≠ "java/lang/invoke/MethodHandle" ∧ yX1_makeOutcome.cls ≠ "java/lang/invoke/VarHandle" ∧ (parseMethodDescriptor yX1_makeOutcome.desc).map (fun d => d.parameters.length) = some 0 := by decide +kernel
theorem hd_yX7_copyOfBuffer : yX7_copyOfBuffer.cls = RX7 ∧ yX7_copyOfBuffer.cls ≠ "java/lang/invoke/MethodHandle" ∧ yX7_copyOfBuffer.cls ≠ "java/lang/invoke/VarHandle" ∧ (parseMethodDescriptor yX7_copyOfBuffer.desc).map (fun d => d.parameters.length) = some 0 := by decide +kernel
noncomputable def F2_saveState (b : BS) (p0 : Nat) : Option BS :=
  bd (setI b 63 2 (if (6 : Int32) ≤ b.1 63 2 + 1 then 0 else b.1 63 2 + 1)) fun b1 =>
  bn (F2_copyInto b1 64 (b1.1 63 2) p0) fun b2 =>
  if (6 : Int32) ≤ b2.1 63 3 then some b2 else some (setI b2 63 3 (b2.1 63 3 + 1))
abbrev rm2_saveState : Room := { frames := 4, cells := 5, slots := 35, locals := 120 }
set_option maxHeartbeats 4000000 in
set_option maxRecDepth 100000 in
theorem c2_saveState (l : Launch) (D : va_G) (κ : Nat → ClassId) (A : Nat → Prop) (ad : Nat → Nat) (r0 : Nat → Option va_E) (b : BS) (p0 : Nat) (res : BS) (h : F2_saveState b p0 = some res) : Met l yX2_saveState (gw yX2_saveState cX2_saveState 2 none) rm2_saveState (va_Pc [.ref (ad 63), .ref (ad p0)] (MW D κ A ad (celB κ ad r0 b))) (QVC D A (fun ad' => Ag b.2.2 ad ad') (fun ad' => celB κ ad' r0 res)) 5 35 A := by
  refine met_of (own := RX2) (by decide +kernel) rfl (Nat.le_of_ble_eq_true rfl) ?_
  intro p e s m below meth c ls X hr hlk G hl
  have hl : lv_has ls 2 [(0, .ref (ad 63)), (1, .ref (ad p0))] := hl
  unfold F2_saveState at h
  obtain ⟨b1, eb1, h⟩ := bd_some h
  obtain ⟨b2, e2, h⟩ := bn_some h
  have mid : ∀ (x : Int32), x = (if (6 : Int32) ≤ b.1 63 2 + 1 then 0 else b.1 63 2 + 1) → W p l e rm2_saveState s m ([.ref (ad 63), .ref (ad p0)] : List Value).toArray below meth c s.heap [] 0 0 (MQ below (QVC D A (fun ad' => Ag b.2.2 ad ad') (fun ad' => celB κ ad' r0 res)) ([.ref (ad 63), .ref (ad p0)] : List Value).toArray s 5 35 A) (F0 m 22 ls [.int x, .ref (ad 63)]) := by
    intro x hx
    subst hx
    refine B_puti (pc := 22) (i := 63) (k := 2) X G eb1 rfl clX2 (okL63 _) (by decide) rfl rfl rfl rfl fl_X2_20 dX2_saveState_22 (fun H locs G => ?_)
    have n1 : b1.2.2 = b.2.2 := by rw [eb1]; rfl
    refine lv_aload_n (pc := 25) X.1 X.2.1 dX2_saveState_25 rfl (lv_at hl 0 rfl) ?_
    refine B_getc (pc := 26) (i := 63) (k := 0) (j := 64) X G rfl clX2 (okL63 _) (by decide) rfl fl_X2_11 dX2_saveState_26 ?_
    refine lv_aload_n (pc := 29) X.1 X.2.1 dX2_saveState_29 rfl (lv_at hl 0 rfl) ?_
    refine B_geti (pc := 30) (i := 63) (k := 2) X G rfl clX2 (okL63 _) (by decide) rfl rfl fl_X2_20 dX2_saveState_30 ?_
    refine lv_aload_n (pc := 33) X.1 X.2.1 dX2_saveState_33 rfl (lv_at hl 1 rfl) ?_
    refine m_callsvA (pc := 34) (As := [.ref (ad 64), .int (b1.1 63 2), .ref (ad p0)]) (rest := []) X G (rm := rm2_copyInto) (c2_copyInto l D κ A ad r0 b1 64 (b1.1 63 2) p0 b2 e2) g_X2_27 hs_yX2_copyInto ⟨Nat.le_of_ble_eq_true rfl, Nat.le_of_ble_eq_true rfl⟩ rfl hl rfl (lv_room (Nat.le_of_ble_eq_true rfl)) dX2_saveState_34 ⟨Nat.le_of_ble_eq_true rfl, Nat.le_of_ble_eq_true rfl⟩ (fun ad1 H locs hA G => ?_)
    have hA : Ag b.2.2 ad ad1 := by rw [← n1]; exact hA
    have e63 : ad 63 = ad1 63 := (hA 63 (Or.inl (by decide))).symm
    refine lv_aload_n (pc := 37) X.1 X.2.1 dX2_saveState_37 rfl (lv_at hl 0 rfl) ?_
    refine B_geti (pc := 38) (i := 63) (k := 3) X G e63 clX2 (okL63 _) (by decide) rfl rfl fl_X2_24 dX2_saveState_38 ?_
    refine lv_bipush (pc := 41) (v := 6) X.1 X.2.1 dX2_saveState_41 (by decide) ?_
    refine lv_icmp_ge (pc := 43) (tgt := 56) X.1 X.2.1 dX2_saveState_43 (by decide) (fun hc => ?_) (fun hc => ?_)
    · have h := Option.some.inj (it_pos h hc)
      subst h
      exact C_ret (pc := 56) X G hr hlk dX2_saveState_56 hA rfl
    · have h := Option.some.inj (it_neg h hc)
      refine lv_aload_n (pc := 46) X.1 X.2.1 dX2_saveState_46 rfl (lv_at hl 0 rfl) ?_
      refine lv_dup (pc := 47) X.1 X.2.1 dX2_saveState_47 rfl ?_
      refine B_geti (pc := 48) (i := 63) (k := 3) X G e63 clX2 (okL63 _) (by decide) rfl rfl fl_X2_24 dX2_saveState_48 ?_
      refine lv_iconst (pc := 51) (v := 1) X.1 X.2.1 dX2_saveState_51 (by decide) ?_
      refine lv_iadd (pc := 52) X.1 X.2.1 dX2_saveState_52 ?_
      refine B_puti (pc := 53) (i := 63) (k := 3) X G h.symm e63 clX2 (okL63 _) (by decide) rfl rfl rfl rfl fl_X2_24 dX2_saveState_53 (fun H locs G => ?_)
      exact C_ret (pc := 56) X G hr hlk dX2_saveState_56 hA rfl
  refine lv_aload_n X.1 X.2.1 dX2_saveState_0 rfl (lv_at hl 0 rfl) ?_
  refine lv_aload_n (pc := 1) X.1 X.2.1 dX2_saveState_1 rfl (lv_at hl 0 rfl) ?_
  refine B_geti (pc := 2) (i := 63) (k := 2) X G rfl clX2 (okL63 _) (by decide) rfl rfl fl_X2_20 dX2_saveState_2 ?_
  refine lv_iconst (pc := 5) (v := 1) X.1 X.2.1 dX2_saveState_5 (by decide) ?_
  refine lv_iadd (pc := 6) X.1 X.2.1 dX2_saveState_6 ?_
  refine lv_bipush (pc := 7) (v := 6) X.1 X.2.1 dX2_saveState_7 (by decide) ?_
  refine lv_icmp_ge (pc := 9) (tgt := 21) X.1 X.2.1 dX2_saveState_9 (by decide) (fun hc => ?_) (fun hc => ?_)
  · refine lv_iconst (pc := 21) (v := 0) X.1 X.2.1 dX2_saveState_21 (by decide) ?_
    exact mid 0 (if_pos hc).symm
  · refine lv_aload_n (pc := 12) X.1 X.2.1 dX2_saveState_12 rfl (lv_at hl 0 rfl) ?_
    refine B_geti (pc := 13) (i := 63) (k := 2) X G rfl clX2 (okL63 _) (by decide) rfl rfl fl_X2_20 dX2_saveState_13 ?_
    refine lv_iconst (pc := 16) (v := 1) X.1 X.2.1 dX2_saveState_16 (by decide) ?_
    refine lv_iadd (pc := 17) X.1 X.2.1 dX2_saveState_17 ?_
    refine lv_goto (pc := 18) (tgt := 22) X.1 X.2.1 dX2_saveState_18 (by decide) ?_
    exact mid _ (if_neg hc).symm
noncomputable def F2_takeSnapshot (b : BS) (p0 : Int32) (p1 : Nat) : Option BS := F2_copyInto b 65 p0 p1
abbrev rm2_takeSnapshot : Room := { frames := 4, cells := 5, slots := 35, locals := 120 }
set_option maxHeartbeats 4000000 in
set_option maxRecDepth 100000 in
theorem c2_takeSnapshot (l : Launch) (D : va_G) (κ : Nat → ClassId) (A : Nat → Prop) (ad : Nat → Nat) (r0 : Nat → Option va_E) (b : BS) (p0 : Int32) (p1 : Nat) (res : BS) (h : F2_takeSnapshot b p0 p1 = some res) : Met l yX2_takeSnapshot (gw yX2_takeSnapshot cX2_takeSnapshot 3 none) rm2_takeSnapshot (va_Pc [.ref (ad 63), .int p0, .ref (ad p1)] (MW D κ A ad (celB κ ad r0 b))) (QVC D A (fun ad' => Ag b.2.2 ad ad') (fun ad' => celB κ ad' r0 res)) 5 35 A := by
  refine met_of (own := RX2) (by decide +kernel) rfl (Nat.le_of_ble_eq_true rfl) ?_
  intro p e s m below meth c ls X hr hlk G hl
  have hl : lv_has ls 3 [(0, .ref (ad 63)), (1, .int p0), (2, .ref (ad p1))] := hl
  unfold F2_takeSnapshot at h
  refine lv_aload_n X.1 X.2.1 dX2_takeSnapshot_0 rfl (lv_at hl 0 rfl) ?_
  refine B_getc (pc := 1) (i := 63) (k := 1) (j := 65) X G rfl clX2 (okL63 _) (by decide) rfl fl_X2_17 dX2_takeSnapshot_1 ?_
  refine lv_iload_n (pc := 4) X.1 X.2.1 dX2_takeSnapshot_4 rfl (lv_at hl 1 rfl) ?_
  refine lv_aload_n (pc := 5) X.1 X.2.1 dX2_takeSnapshot_5 rfl (lv_at hl 2 rfl) ?_
  refine m_callsvA (pc := 6) (As := [.ref (ad 65), .int p0, .ref (ad p1)]) (rest := []) X G (rm := rm2_copyInto) (c2_copyInto l D κ A ad r0 b 65 p0 p1 res h) g_X2_27 hs_yX2_copyInto ⟨Nat.le_of_ble_eq_true rfl, Nat.le_of_ble_eq_true rfl⟩ rfl hl rfl (lv_room (Nat.le_of_ble_eq_true rfl)) dX2_takeSnapshot_6 ⟨Nat.le_of_ble_eq_true rfl, Nat.le_of_ble_eq_true rfl⟩ (fun ad1 H locs hA G => ?_)
  exact C_ret (pc := 9) X G hr hlk dX2_takeSnapshot_9 hA rfl
/-! copies that are cut -/
def mmI (N : Nat) (x : Int32) : Int32 := if (0 : Int32) < (if nI N < x then nI N else x) then (if nI N < x then nI N else x) else 0
theorem mmI_nI (N : Nat) (x : Int32) (hN : N < 2 ^ 31) : mmI N x = nI (mmI N x).toNatClampNeg ∧ (mmI N x).toNatClampNeg ≤ N := by
  unfold mmI
  by_cases c : nI N < x
  · rw [if_pos c]
    by_cases c2 : 0 < nI N
    · rw [if_pos c2, nI_clamp hN]; exact ⟨rfl, Nat.le_refl _⟩
    · rw [if_neg c2]; exact ⟨rfl, Nat.zero_le _⟩
  · rw [if_neg c]
    by_cases c2 : 0 < x
    · rw [if_pos c2]
      obtain ⟨j, hj, rfl⟩ := nI_of (x := x) (fun q => absurd (Int32.lt_trans c2 q) (by decide))
      rw [nI_clamp hj]
      refine ⟨rfl, ?_⟩
      rw [nI_ltI hN hj] at c
      omega
    · rw [if_neg c2]; exact ⟨rfl, Nat.zero_le _⟩
theorem nI_mul (a b : Nat) : nI a * nI b = nI (a * b) := (Int32.ofNat_mul a b).symm
theorem g_X7_65 : GoodIn G0 (wsV RX7 65 RX7 yX7_copyOfBuffer (gw yX7_copyOfBuffer cX7_copyOfBuffer 1 (some (.array .int)))) := gv_in ml_X7_65 im_yX7_copyOfBuffer se_yX7_copyOfBuffer ini_X7 cd_yX7_copyOfBuffer
abbrev rm7_copyOfBuffer : Room := { frames := 2, cells := 1, slots := 60, locals := 90 }
set_option maxHeartbeats 4000000 in
set_option maxRecDepth 100000 in
theorem c7_copyOfBuffer (l : Launch) (D : va_G) (κ : Nat → ClassId) (A : Nat → Prop) (ad : Nat → Nat) (M : Nat → Option va_E) (b : BS) (q : Nat) (hM : M 50 = some (.inr (7, objB ad b 50 7))) (hB : M 51 = some (.inl (κ 0, 60, .inl (b.1 51)))) (hq : M q = none) : Met l yX7_copyOfBuffer (gw yX7_copyOfBuffer cX7_copyOfBuffer 1 (some (.array .int))) rm7_copyOfBuffer (va_Pc [.ref (ad 50)] (MW D κ A ad M)) (QRA D A (fun ad' => ∀ j, j ≠ q → ad' j = ad j) (fun _ => upO M q (.inl (κ 0, (mmI 60 (b.1 50 6)).toNatClampNeg, .inl (cutI (b.1 51) 60)))) q) 1 60 A := by
  refine met_of (own := RX7) (by decide +kernel) rfl (Nat.le_of_ble_eq_true rfl) ?_
  intro p e s m below meth c ls X hr hlk G hl
  have hl : lv_has ls 1 [(0, .ref (ad 50))] := hl
  obtain ⟨k1, k2⟩ := mmI_nI 60 (b.1 50 6) (by decide)
  refine lv_aload_n X.1 X.2.1 dX7_copyOfBuffer_0 rfl (lv_at hl 0 rfl) ?_
  refine m_get (pc := 1) X G (i := 50) (ci := 7) (k := 2) (v := .ref (ad 51)) (T := TX7) (C := RX7) (N := 7) hM rfl wl_X7 (by decide) fl_X7_23 rfl ((objB_get (by decide)).trans rfl) dX7_copyOfBuffer_1 ?_
  refine lv_iconst (pc := 4) (v := 0) X.1 X.2.1 dX7_copyOfBuffer_4 (by decide) ?_
  refine lv_aload_n (pc := 5) X.1 X.2.1 dX7_copyOfBuffer_5 rfl (lv_at hl 0 rfl) ?_
  refine m_get (pc := 6) X G (i := 50) (ci := 7) (k := 6) (v := .int (b.1 50 6)) (T := TX7) (C := RX7) (N := 7) hM rfl wl_X7 (by decide) fl_X7_48 rfl ((objB_get (by decide)).trans rfl) dX7_copyOfBuffer_6 ?_
  refine lv_aload_n (pc := 9) X.1 X.2.1 dX7_copyOfBuffer_9 rfl (lv_at hl 0 rfl) ?_
  refine m_get (pc := 10) X G (i := 50) (ci := 7) (k := 2) (v := .ref (ad 51)) (T := TX7) (C := RX7) (N := 7) hM rfl wl_X7 (by decide) fl_X7_23 rfl ((objB_get (by decide)).trans rfl) dX7_copyOfBuffer_10 ?_
  refine m_alen (pc := 13) X G (t0 := 0) hB rfl rfl dX7_copyOfBuffer_13 ?_
  refine lq_mmin (pc := 14) (rest := [.int 0, .ref (ad 51)]) X hl (ml_X7_138 : Cond.methodLink RX7 138 Lib.Math.min.name ∈ G0) w_min_s w_math w_min_c (Nat.le_of_ble_eq_true rfl) (Nat.le_of_ble_eq_true rfl) (Nat.le_of_ble_eq_true rfl) (Nat.le_of_ble_eq_true rfl) dX7_copyOfBuffer_14 ?_
  refine lq_mmax (pc := 17) (rest := [.ref (ad 51)]) X hl (ml_X7_263 : Cond.methodLink RX7 263 Lib.Math.max.name ∈ G0) w_max_s w_math w_max_c (Nat.le_of_ble_eq_true rfl) (Nat.le_of_ble_eq_true rfl) (Nat.le_of_ble_eq_true rfl) (Nat.le_of_ble_eq_true rfl) dX7_copyOfBuffer_17 ?_
  refine lv_topi (fun x ex => ?_)
  have ex : x = nI (mmI 60 (b.1 50 6)).toNatClampNeg := ex.trans k1
  subst ex
  refine m_copyOf (pc := 20) X G q (i := 51) (n := 60) (k := (mmI 60 (b.1 50 6)).toNatClampNeg) rfl hB hq (by omega) (by decide) ml_X7_266 hl ⟨Nat.le_of_ble_eq_true rfl, Nat.le_of_ble_eq_true rfl⟩ (lv_room (Nat.le_of_ble_eq_true rfl)) dX7_copyOfBuffer_20 ⟨Nat.le_of_ble_eq_true rfl, by show 0 + _ ≤ 60; omega⟩ (fun a H locs G => ?_)
  refine W.widen (k := 1) (n := 60) (Nat.le_refl _) (by omega) ?_
  exact C_aret (pc := 23) X G hr (Or.inr ⟨_, rfl⟩) hlk dX7_copyOfBuffer_23 upA_s.symm (fun j hj => upA_n hj) rfl
/-- the outcome of an expansion -/
noncomputable def F1_makeOutcome (b : BS) : Option BS := pr (Closed b) <| some (nwO b (mmI 200 (b.1 57 5)).toNatClampNeg ((mmI 60 (b.1 57 8)).toNatClampNeg * 6) (cutI (b.1 58) 28380) (cutI (b.1 62) 360) (b.1 57 9) (b.1 57 10))
theorem g_X7_107 : GoodIn G0 (wsV RX7 107 RX1 yX1_makeOutcome (gw yX1_makeOutcome cX1_makeOutcome 3 (some (.object "AbbreviationBook$Outcome")))) := gv_in ml_X7_107 im_yX1_makeOutcome se_yX1_makeOutcome ini_X1 cd_yX1_makeOutcome
abbrev rm1_makeOutcome : Room := { frames := 3, cells := 3, slots := 564, locals := 110 }
set_option maxHeartbeats 4000000 in
set_option maxRecDepth 100000 in
theorem c1_makeOutcome (l : Launch) (D : va_G) (κ : Nat → ClassId) (A : Nat → Prop) (ad : Nat → Nat) (r0 : Nat → Option va_E) (b : BS) (res : BS) (h : F1_makeOutcome b = some res) : Met l yX1_makeOutcome (gw yX1_makeOutcome cX1_makeOutcome 3 (some (.object "AbbreviationBook$Outcome"))) rm1_makeOutcome (va_Pc [.ref (ad 57)] (MW D κ A ad (celB κ ad r0 b))) (QRA D A (fun ad' => Ag b.2.2 ad ad') (fun ad' => celB κ ad' r0 res) (102 + 5 * b.2.2 1)) 3 564 A := by
  refine met_of (own := RX1) (by decide +kernel) rfl (Nat.le_of_ble_eq_true rfl) ?_
  intro p e s m below meth c ls X hr hlk G hl
  have hl : lv_has ls 3 [(0, .ref (ad 57))] := hl
  unfold F1_makeOutcome at h
  obtain ⟨hC, h⟩ := pr_some h
  have h := Option.some.inj h
  subst h
  obtain ⟨k1, k2⟩ := mmI_nI 200 (b.1 57 5) (by decide)
  obtain ⟨k3, k4⟩ := mmI_nI 60 (b.1 57 8) (by decide)
  obtain ⟨o, ho⟩ : ∃ o, o = 102 + 5 * b.2.2 1 := ⟨_, rfl⟩
  have ho3 : 103 + 5 * b.2.2 1 = o + 1 := by omega
  have ho4 : 104 + 5 * b.2.2 1 = o + 2 := by omega
  have k5 : lvB b.2.2 o = false := lv_new1 _ (by omega) (by omega)
  have k6 : lvB b.2.2 (o + 1) = false := lv_new1 _ (by omega) (by omega)
  have k7 : lvB b.2.2 (o + 2) = false := lv_new1 _ (by omega) (by omega)
  have n5 : celB κ ad r0 b o = none := celB_not (by omega) k5
  have n6 : celB κ ad r0 b (o + 1) = none := celB_not (by omega) k6
  have n7 : celB κ ad r0 b (o + 2) = none := celB_not (by omega) k7
  refine lv_iconst (v := 0) X.1 X.2.1 dX1_makeOutcome_0 (by decide) ?_
  refine lv_aload_n (pc := 1) X.1 X.2.1 dX1_makeOutcome_1 rfl (lv_at hl 0 rfl) ?_
  refine B_geti (pc := 2) (i := 57) (k := 5) X G rfl clX1 (okL57 _) (by decide) rfl rfl fl_X1_27 dX1_makeOutcome_2 ?_
  refine lv_sipush (pc := 5) (v := 200) X.1 X.2.1 dX1_makeOutcome_5 (by decide) ?_
  refine lq_mmin (pc := 8) (rest := [.int 0]) X hl (ml_X1_67 : Cond.methodLink RX1 67 Lib.Math.min.name ∈ G0) w_min_s w_math w_min_c (Nat.le_of_ble_eq_true rfl) (Nat.le_of_ble_eq_true rfl) (Nat.le_of_ble_eq_true rfl) (Nat.le_of_ble_eq_true rfl) dX1_makeOutcome_8 ?_
  refine lq_mmax (pc := 11) (rest := []) X hl (ml_X1_73 : Cond.methodLink RX1 73 Lib.Math.max.name ∈ G0) w_max_s w_math w_max_c (Nat.le_of_ble_eq_true rfl) (Nat.le_of_ble_eq_true rfl) (Nat.le_of_ble_eq_true rfl) (Nat.le_of_ble_eq_true rfl) dX1_makeOutcome_11 ?_
  refine lv_topi (fun x ex => ?_)
  have ex : x = nI (mmI 200 (b.1 57 5)).toNatClampNeg := ex.trans k1
  generalize hx1 : (mmI 200 (b.1 57 5)).toNatClampNeg = x1 at ex k2 ⊢
  subst ex
  refine lv_istore_n (pc := 14) (lv' := [(1, .int (nI x1)), (0, .ref (ad 57))]) X.1 X.2.1 dX1_makeOutcome_14 rfl hl (by decide) rfl (fun ls hl => ?_)
  refine lv_iconst (pc := 15) (v := 0) X.1 X.2.1 dX1_makeOutcome_15 (by decide) ?_
  refine lv_aload_n (pc := 16) X.1 X.2.1 dX1_makeOutcome_16 rfl (lv_at hl 1 rfl) ?_
  refine B_geti (pc := 17) (i := 57) (k := 8) X G rfl clX1 (okL57 _) (by decide) rfl rfl fl_X1_37 dX1_makeOutcome_17 ?_
  refine lv_bipush (pc := 20) (v := 60) X.1 X.2.1 dX1_makeOutcome_20 (by decide) ?_
  refine lq_mmin (pc := 22) (rest := [.int 0]) X hl (ml_X1_67 : Cond.methodLink RX1 67 Lib.Math.min.name ∈ G0) w_min_s w_math w_min_c (Nat.le_of_ble_eq_true rfl) (Nat.le_of_ble_eq_true rfl) (Nat.le_of_ble_eq_true rfl) (Nat.le_of_ble_eq_true rfl) dX1_makeOutcome_22 ?_
  refine lq_mmax (pc := 25) (rest := []) X hl (ml_X1_73 : Cond.methodLink RX1 73 Lib.Math.max.name ∈ G0) w_max_s w_math w_max_c (Nat.le_of_ble_eq_true rfl) (Nat.le_of_ble_eq_true rfl) (Nat.le_of_ble_eq_true rfl) (Nat.le_of_ble_eq_true rfl) dX1_makeOutcome_25 ?_
  refine lv_bipush (pc := 28) (v := 6) X.1 X.2.1 dX1_makeOutcome_28 (by decide) ?_
  refine lv_imul (pc := 30) X.1 X.2.1 dX1_makeOutcome_30 ?_
  refine lv_topi (fun x ex => ?_)
  have ex : x = nI ((mmI 60 (b.1 57 8)).toNatClampNeg * 6) := ex.trans ((congrArg (· * (6 : Int32)) k3).trans (nI_mul _ 6))
  generalize hx2 : (mmI 60 (b.1 57 8)).toNatClampNeg * 6 = x2 at ex ⊢
  have k8 : x2 ≤ 360 := by omega
  subst ex
  refine lv_istore_n (pc := 31) (lv' := [(2, .int (nI x2)), (1, .int (nI x1)), (0, .ref (ad 57))]) X.1 X.2.1 dX1_makeOutcome_31 rfl hl (by decide) rfl (fun ls hl => ?_)
  refine m_new (pc := 32) X G o (ci := 3) (N := 4) (C := RX3) (T := TX3) (ty := tyX3) (fs := [.null, .int 0, .int 0, .null]) n5 rfl wl_X3 tyX3_ok (by decide +kernel) cl_X1_76 ins_X3 ini_X3 (Nat.le_of_ble_eq_true rfl) (Nat.le_of_ble_eq_true rfl) dX1_makeOutcome_32 (fun a H G => ?_)
  refine lv_dup (pc := 35) X.1 X.2.1 dX1_makeOutcome_35 rfl ?_
  have c57 : upO (celB κ ad r0 b) o (.inr (3, [.null, .int 0, .int 0, .null])) 57 = some (.inr (1, objB ad b 57 1)) := (upO_n (by omega)).trans (B_rcv (okL57 _) (by decide))
  have f57 : ad 57 = upA ad o a 57 := (upA_n (by omega)).symm
  refine lv_aload_n (pc := 36) X.1 X.2.1 dX1_makeOutcome_36 rfl (lv_at hl 2 rfl) ?_
  refine m_getA (pc := 37) X G f57 (i := 57) (ci := 1) (k := 0) (v := .ref (ad 58)) (T := TX1) (C := RX1) (N := 14) c57 rfl wl_X1 (by decide) fl_X1_11 rfl ((objB_get (by decide)).trans rfl) dX1_makeOutcome_37 ?_
  refine lv_iload_n (pc := 40) X.1 X.2.1 dX1_makeOutcome_40 rfl (lv_at hl 1 rfl) ?_
  refine m_copyOf (pc := 41) X G (o + 1) (i := 58) (n := 28380) (k := x1) (f := b.1 58) (upA_n (by omega)).symm ((upO_n (by omega)).trans ((celB_at (okB_1 (okL58 _))).trans (congrArg some (cellB_a rfl)))) ((upO_n (by omega)).trans n6) (by omega) (by decide) ml_X1_78 hl ⟨Nat.le_of_ble_eq_true rfl, Nat.le_of_ble_eq_true rfl⟩ (lv_room (Nat.le_of_ble_eq_true rfl)) dX1_makeOutcome_41 ⟨Nat.le_of_ble_eq_true rfl, by show 0 + 4 + _ ≤ 564; omega⟩ (fun a1 H locs G => ?_)
  refine lv_aload_n (pc := 44) X.1 X.2.1 dX1_makeOutcome_44 rfl (lv_at hl 2 rfl) ?_
  have g57 : ad 57 = upA (upA ad o a) (o + 1) a1 57 := by rw [upA_n (by omega), upA_n (by omega)]
  have c57' := (upO_n (M := upO (celB κ ad r0 b) o (.inr (3, [.null, .int 0, .int 0, .null]))) (i := o + 1) (j := 57) (e := .inl (κ 0, x1, .inl (cutI (b.1 58) 28380))) (by omega)).trans c57
  refine m_getA (pc := 45) X G g57 (i := 57) (ci := 1) (k := 4) (v := .ref (ad 62)) (T := TX1) (C := RX1) (N := 14) c57' rfl wl_X1 (by decide) fl_X1_24 rfl ((objB_get (by decide)).trans rfl) dX1_makeOutcome_45 ?_
  refine lv_iload_n (pc := 48) X.1 X.2.1 dX1_makeOutcome_48 rfl (lv_at hl 0 rfl) ?_
  refine m_copyOf (pc := 49) X G (o + 2) (i := 62) (n := 360) (k := x2) (f := b.1 62) (by rw [upA_n (by omega), upA_n (by omega)]) ((upO_n (by omega)).trans ((upO_n (by omega)).trans ((celB_at (okB_1 (okL62 _))).trans (congrArg some (cellB_a rfl))))) ((upO_n (by omega)).trans ((upO_n (by omega)).trans n7)) (by omega) (by decide) ml_X1_78 hl ⟨Nat.le_of_ble_eq_true rfl, Nat.le_of_ble_eq_true rfl⟩ (lv_room (Nat.le_of_ble_eq_true rfl)) dX1_makeOutcome_49 ⟨Nat.le_of_ble_eq_true rfl, by show 0 + 4 + _ + _ ≤ 564; omega⟩ (fun a2 H locs G => ?_)
  refine lv_aload_n (pc := 52) X.1 X.2.1 dX1_makeOutcome_52 rfl (lv_at hl 2 rfl) ?_
  have h57 : ad 57 = upA (upA (upA ad o a) (o + 1) a1) (o + 2) a2 57 := by rw [upA_n (by omega), ← g57]
  have c57'' := (upO_n (M := upO (upO (celB κ ad r0 b) o (.inr (3, [.null, .int 0, .int 0, .null]))) (o + 1) (.inl (κ 0, x1, .inl (cutI (b.1 58) 28380)))) (i := o + 2) (j := 57) (e := .inl (κ 0, x2, .inl (cutI (b.1 62) 360))) (by omega)).trans c57'
  refine m_getA (pc := 53) X G h57 (i := 57) (ci := 1) (k := 9) (v := .int (b.1 57 9)) (T := TX1) (C := RX1) (N := 14) c57'' rfl wl_X1 (by decide) fl_X1_40 rfl ((objB_get (by decide)).trans rfl) dX1_makeOutcome_53 ?_
  refine lv_aload_n (pc := 56) X.1 X.2.1 dX1_makeOutcome_56 rfl (lv_at hl 2 rfl) ?_
  refine m_getA (pc := 57) X G h57 (i := 57) (ci := 1) (k := 10) (v := .int (b.1 57 10)) (T := TX1) (C := RX1) (N := 14) c57'' rfl wl_X1 (by decide) fl_X1_43 rfl ((objB_get (by decide)).trans rfl) dX1_makeOutcome_57 ?_
  have ea : a = upA (upA (upA ad o a) (o + 1) a1) (o + 2) a2 o := by rw [upA_n (by omega), upA_n (by omega), upA_s]
  refine m_callC (pc := 60) (As := [.ref a1, .ref a2, .int (b.1 57 9), .int (b.1 57 10)]) (rest := [.ref a]) (n := 4) X G (rm := rm3_init) (by have q := c3_init l D κ A (upA (upA (upA ad o a) (o + 1) a1) (o + 2) a2) (upO (upO (upO (celB κ ad r0 b) o (.inr (3, [.null, .int 0, .int 0, .null]))) (o + 1) (.inl (κ 0, x1, .inl (cutI (b.1 58) 28380)))) (o + 2) (.inl (κ 0, x2, .inl (cutI (b.1 62) 360)))) o a1 a2 (b.1 57 9) (b.1 57 10) (by rw [upO_n (by omega), upO_n (by omega)]; exact upO_s); rw [← ea] at q; exact q) ml_X1_84 rfl im_yX3_init ini_X3 cd_yX3_init (by decide +kernel) ⟨Nat.le_of_ble_eq_true rfl, Nat.le_of_ble_eq_true rfl⟩ rfl hl rfl (lv_room (Nat.le_of_ble_eq_true rfl)) dX1_makeOutcome_60 ⟨Nat.le_of_ble_eq_true rfl, by show 0 + 4 + x1 + x2 + 0 ≤ 564; omega⟩ (fun ad1 H locs hok G => ?_)
  have hok : ad1 = upA (upA (upA ad o a) (o + 1) a1) (o + 2) a2 := funext fun j => hok j List.not_mem_nil
  have e1 : a1 = ad1 (o + 1) := by rw [hok, upA_n (by omega), upA_s]
  have e2 : a2 = ad1 (o + 2) := by rw [hok, upA_s]
  have e0 : a = ad1 o := by rw [hok]; exact ea
  have hA : Ag b.2.2 ad ad1 := by
    intro j hj
    have no : ∀ q, 66 ≤ q → lvB b.2.2 q = false → j ≠ q := by
      intro q h1 h2 h3
      subst h3
      rcases hj with hj | hj
      · omega
      · rw [h2] at hj; cases hj
    rw [hok, upA_n (no _ (by omega) k7), upA_n (no _ (by omega) k6), upA_n (no _ (by omega) k5)]
  have G : Mm D κ A ad1 (celB κ ad1 r0 (nwO b x1 x2 (cutI (b.1 58) 28380) (cutI (b.1 62) 360) (b.1 57 9) (b.1 57 10))) s H locs := G.same (fun j => by
    have q := celB_O (κ := κ) (r0 := r0) hC hA (l1 := x1) (l2 := x2) (f1 := cutI (b.1 58) 28380) (f2 := cutI (b.1 62) 360) (e := b.1 57 9) (d := b.1 57 10) (x1 := .inr (3, [.null, .int 0, .int 0, .null])) j
    rw [← ho, ho3, ho4, ← e1, ← e2] at q
    exact q)
  refine W.widen (k := 3) (n := 564) (Nat.le_refl _) (by show 0 + 4 + x1 + x2 + 0 ≤ 564; omega) ?_
  exact C_aret (pc := 63) X G hr (Or.inl ⟨_, rfl⟩) hlk dX1_makeOutcome_63 (e0.trans (congrArg ad1 ho)) hA rfl
