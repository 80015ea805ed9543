/-! THE BOOK'S METHODS THAT MAKE, laid by wip/whole/walka.py -/
theorem g_X7_153 : GoodIn G0 (va_wsS RX7 153 yX7_requireSlot (gw yX7_requireSlot cX7_requireSlot 1 none)) := gsS_in ml_X7_153 sm_yX7_requireSlot ini_X7 cd_yX7_requireSlot
theorem hs_yX7_requireSlot : yX7_requireSlot.cls ≠ "java/lang/invoke/MethodHandle" ∧ yX7_requireSlot.cls ≠ "java/lang/invoke/VarHandle" ∧ (parseMethodDescriptor yX7_requireSlot.desc).map (fun d => d.parameters.length) = some 1 := by decide +kernel
theorem g_X7_100 : GoodIn G0 (wsV RX7 100 RX1 yX1_writeResult (gw yX1_writeResult cX1_writeResult 4 (some (FieldType.boolean)))) := gv_in ml_X7_100 im_yX1_writeResult se_yX1_writeResult ini_X1 cd_yX1_writeResult
theorem hd_yX1_writeResult : yX1_writeResult.cls = RX1 ∧ yX1_writeResult.cls ≠ "java/lang/invoke/MethodHandle" ∧ yX1_writeResult.cls ≠ "java/lang/invoke/VarHandle" ∧ (parseMethodDescriptor yX1_writeResult.desc).map (fun d => d.parameters.length) = some 3 := by decide +kernel
theorem g_X7_156 : GoodIn G0 (wsV RX7 156 RX2 yX2_takeSnapshot (gw yX2_takeSnapshot cX2_takeSnapshot 3 none)) := gv_in ml_X7_156 im_yX2_takeSnapshot se_yX2_takeSnapshot ini_X2 cd_yX2_takeSnapshot
theorem g_X7_160 : GoodIn G0 (wsV RX7 160 RX2 yX2_snapshotIn (gw yX2_snapshotIn cX2_snapshotIn 2 (some ((FieldType.object "AbbreviationBook$State"))))) := gv_in ml_X7_160 im_yX2_snapshotIn se_yX2_snapshotIn ini_X2 cd_yX2_snapshotIn
theorem hd_yX2_snapshotIn : yX2_snapshotIn.cls = RX2 ∧ yX2_snapshotIn.cls ≠ "java/lang/invoke/MethodHandle" ∧ yX2_snapshotIn.cls ≠ "java/lang/invoke/VarHandle" ∧ (parseMethodDescriptor yX2_snapshotIn.desc).map (fun d => d.parameters.length) = some 1 := by decide +kernel
theorem g_X7_166 : GoodIn G0 (wsV RX7 166 RX5 yX5_copyFrom (gw yX5_copyFrom cX5_copyFrom 3 none)) := gv_in ml_X7_166 im_yX5_copyFrom se_yX5_copyFrom ini_X5 cd_yX5_copyFrom
theorem g_X7_59 : GoodIn G0 (wsV RX7 59 RX2 yX2_saveState (gw yX2_saveState cX2_saveState 2 none)) := gv_in ml_X7_59 im_yX2_saveState se_yX2_saveState ini_X2 cd_yX2_saveState
theorem g_X7_72 : GoodIn G0 (wsV RX7 72 RX5 yX5_putDefinition (gw yX5_putDefinition cX5_putDefinition 3 none)) := gv_in ml_X7_72 im_yX5_putDefinition se_yX5_putDefinition ini_X5 cd_yX5_putDefinition
theorem hd_yX5_putDefinition : yX5_putDefinition.cls = RX5 ∧ yX5_putDefinition.cls ≠ "java/lang/invoke/MethodHandle" ∧ yX5_putDefinition.cls ≠ "java/lang/invoke/VarHandle" ∧ (parseMethodDescriptor yX5_putDefinition.desc).map (fun d => d.parameters.length) = some 2 := by decide +kernel
section AT
variable {p : Program} {l : Launch} {e : Env} {R : Room} {s : State} {m : MethodId} {args : Array Value} {below : List Frame} {meth : Method} {c : Code} {H : Heap} {locs : List Loc} {cells slots : Nat} {Q : State → Prop}
variable {ls : Array Slot} {D : va_G} {κ : Nat → ClassId} {A : Nat → Prop} {ad : Nat → Nat} {r0 : Nat → Option va_E} {b b1 : BS} {p1 : Int32}
set_option maxHeartbeats 4000000 in
set_option maxRecDepth 100000 in
theorem A_text (X : CallFix p m c cX7_define 3 s args G0 RX7) (G : Mm D κ A ad (celB κ ad r0 b) s H locs) (hC : Closed b) (eb : b1 = nwT b (mmI 60 (b.1 50 6)).toNatClampNeg (cutI (b.1 51) 60)) (hl : lv_has ls 3 [(0, .ref (ad 50)), (1, .int p1)]) (hR : 3 ≤ R.frames) (hL : 110 ≤ R.locals) (hc : cells + 2 ≤ R.cells) (hs : slots + 67 ≤ R.slots)
    (kk : ∀ (ad1 : Nat → Nat) (H : Heap) (locs : List Loc) (ls1 : Array Slot), Ag b.2.2 ad ad1 → Mm D κ A ad1 (celB κ ad1 r0 b1) s H locs → lv_has ls1 3 [(2, .ref (ad1 (100 + 5 * b.2.2 0))), (0, .ref (ad1 50)), (1, .int p1)] → W p l e R s m args below meth c H locs (cells + 2) (slots + 67) Q (F0 m 35 ls1 [])) : W p l e R s m args below meth c H locs cells slots Q (F0 m 19 ls []) := by
  subst eb
  obtain ⟨k1, k2⟩ := mmI_nI 60 (b.1 50 6) (by decide)
  obtain ⟨o, ho⟩ : ∃ o, o = 100 + 5 * b.2.2 0 := ⟨_, rfl⟩
  have ho3 : 101 + 5 * b.2.2 0 = o + 1 := by omega
  have k5 : lvB b.2.2 o = false := lv_new0 _ (by omega) (by omega)
  have k6 : lvB b.2.2 (o + 1) = false := lv_new0 _ (by omega) (by omega)
  have n5 : celB κ ad r0 b o = none := celB_not (by omega) k5
  have n6 : celB κ ad r0 b (o + 1) = none := celB_not (by omega) k6
  refine m_new (pc := 19) X G o (ci := 6) (N := 7) (C := RX6) (T := TX6) (ty := tyX6) (fs := [.null, .int 0, .int 0, .int 0, .int 0, .int 0, .int 0]) n5 rfl wl_X6 tyX6_ok (by decide +kernel) cl_X7_63 ins_X6 ini_X6 (by omega) (by omega) dX7_define_19 (fun a H G => ?_)
  refine lv_dup (pc := 22) X.1 X.2.1 dX7_define_22 rfl ?_
  refine lv_aload_n (pc := 23) X.1 X.2.1 dX7_define_23 rfl (lv_at hl 0 rfl) ?_
  have c50 : upO (celB κ ad r0 b) o (.inr (6, [.null, .int 0, .int 0, .int 0, .int 0, .int 0, .int 0])) 50 = some (.inr (7, objB (upA ad o a) b 50 7)) := (upO_n (by omega)).trans ((B_rcv (okL50 _) (by decide)).trans (by
    refine congrArg (fun q => some (Sum.inr (7, q))) ?_
    have f : ∀ j, j < 100 → upA ad o a j = ad j := fun j hj => upA_n (by omega)
    simp only [objB, nfB, List.range, List.range.loop, List.map, fvB, ctB, mrB, f 70 (by decide), f 63 (by decide), f 51 (by decide), f 52 (by decide), f 54 (by decide), f 57 (by decide)]
    simp))
  have c51 : upO (celB κ ad r0 b) o (.inr (6, [.null, .int 0, .int 0, .int 0, .int 0, .int 0, .int 0])) 51 = some (.inl (κ 0, 60, .inl (b.1 51))) := (upO_n (by omega)).trans ((celB_at (okB_1 (okL51 _))).trans (congrArg some (cellB_a rfl)))
  refine m_callrA (pc := 24) (i := 50) (As := []) (rest := [.ref a, .ref a]) X G (upA_n (by omega)).symm (rm := rm7_copyOfBuffer) (q0 := o + 1) (c7_copyOfBuffer l D κ A (upA ad o a) _ b (o + 1) c50 c51 ((upO_n (by omega)).trans n6)) c50 rfl g_X7_65 hd_yX7_copyOfBuffer ⟨by show 2 + 1 ≤ _; omega, by show 8 + (1 + 11) + 90 ≤ _; omega⟩ rfl hl rfl (lv_room (Nat.le_of_ble_eq_true rfl)) dX7_define_24 ⟨by show cells + 1 + 1 ≤ _; omega, by show slots + 7 + 60 ≤ _; omega⟩ (fun ad1 H locs hok G => ?_)
  have e50 : ad 50 = ad1 50 := by rw [hok 50 (by omega), upA_n (by omega)]
  have e52 : ad 52 = ad1 52 := by rw [hok 52 (by omega), upA_n (by omega)]
  have ea : a = ad1 o := by rw [hok o (by omega), upA_s]
  refine lv_aload_n (pc := 27) X.1 X.2.1 dX7_define_27 rfl (lv_at hl 0 rfl) ?_
  have c50' : upO (upO (celB κ ad r0 b) o (.inr (6, [.null, .int 0, .int 0, .int 0, .int 0, .int 0, .int 0]))) (o + 1) (.inl (κ 0, (mmI 60 (b.1 50 6)).toNatClampNeg, .inl (cutI (b.1 51) 60))) 50 = some (.inr (7, objB ad b 50 7)) := (upO_n (by omega)).trans ((upO_n (by omega)).trans (B_rcv (okL50 _) (by decide)))
  refine m_getA (pc := 28) X G e50 (i := 50) (ci := 7) (k := 3) (v := .ref (ad 52)) (T := TX7) (C := RX7) (N := 7) c50' rfl wl_X7 (by decide) fl_X7_30 rfl ((objB_get (by decide)).trans rfl) dX7_define_28 ?_
  refine m_callC (pc := 31) (As := [.ref (ad1 (o + 1)), .ref (ad 52)]) (rest := [.ref a]) (n := 2) X G (rm := rm6_init) (by
    have q := c6_init l D κ A ad1 (upO (upO (celB κ ad r0 b) o (.inr (6, [.null, .int 0, .int 0, .int 0, .int 0, .int 0, .int 0]))) (o + 1) (.inl (κ 0, (mmI 60 (b.1 50 6)).toNatClampNeg, .inl (cutI (b.1 51) 60)))) o (ad1 (o + 1)) ((upO_n (by omega)).trans upO_s) (by omega) (b.1 52) (ad 53) ((upO_n (by omega)).trans ((upO_n (by omega)).trans (B_rcv (okL52 _) (by decide))))
    rw [← ea, ← e52] at q
    exact q) ml_X7_69 rfl im_yX6_init ini_X6 cd_yX6_init (by decide +kernel) ⟨by show 1 + 1 ≤ _; omega, by show 8 + (3 + 11) + 12 ≤ _; omega⟩ rfl hl rfl (lv_room (Nat.le_of_ble_eq_true rfl)) dX7_define_31 ⟨by show cells + 1 + 1 + 0 ≤ _; omega, by show slots + 7 + 60 + 0 ≤ _; omega⟩ (fun ad2 H locs hok2 G => ?_)
  have hok2 : ad2 = ad1 := funext fun j => hok2 j List.not_mem_nil
  subst hok2
  have hA : Ag b.2.2 ad ad2 := by
    intro j hj
    have no : ∀ q, 66 ≤ q → lvB b.2.2 q = false → j ≠ q := by
      intro q h1 h2 h3
      subst h3
      rcases hj with hj | hj
      · omega
      · rw [h2] at hj; cases hj
    rw [hok j (no _ (by omega) k6), upA_n (no _ (by omega) k5)]
  have G : Mm D κ A ad2 (celB κ ad2 r0 (nwT b (mmI 60 (b.1 50 6)).toNatClampNeg (cutI (b.1 51) 60))) s H locs := G.same (fun j => by
    have q := celB_T (κ := κ) (r0 := r0) hC hA (n := (mmI 60 (b.1 50 6)).toNatClampNeg) (f := cutI (b.1 51) 60) (x1 := .inr (6, [.null, .int 0, .int 0, .int 0, .int 0, .int 0, .int 0])) j
    rw [← ho, ho3] at q
    exact q)
  rw [ea]
  refine lv_astore_n (pc := 34) (lv' := [(2, .ref (ad2 (100 + 5 * b.2.2 0))), (0, .ref (ad 50)), (1, .int p1)]) X.1 X.2.1 dX7_define_34 rfl hl (by decide) (by rw [← ho]; rfl) (fun ls hl => ?_)
  rw [e50] at hl
  exact kk ad2 H locs ls hA G hl
end AT
abbrev rm7_remove : Room := { frames := 7, cells := 7, slots := 47, locals := 141 }
noncomputable def F7_remove (b : BS) (p1 : Int32) : Option (BS × (Nat ⊕ Int32)) :=
  bx (F7_requireLetter p1) (fun u1 k2 => some (b, .inl k2)) fun u1 v3 =>
  bx (F7_requireDefinition b p1) (fun b8 k9 => some (b8, .inl k9)) fun b8 o10 =>
  pr (Gr b b8) <|
  bn (F2_saveState b8 70) fun b15 =>
  bn (F5_putDefinition b15 70 p1 (none : Option Nat)) fun b25 =>
  bn (F5_definedCount b25 70) fun x28 =>
  some (b25, .inr x28)
set_option maxHeartbeats 4000000 in
set_option maxRecDepth 100000 in
theorem c7_remove (l : Launch) (hfl : l.stackTraces = false) (D : va_G) (κ : Nat → ClassId) (A : Nat → Prop) (ad0 : Nat → Nat) (r0 : Nat → Option va_E) (b : BS) (p1 : Int32) (res : BS × (Nat ⊕ Int32)) (h : F7_remove b p1 = some res) : vx_Met l yX7_remove (gw yX7_remove cX7_remove 2 (some (FieldType.int))) rm7_remove (va_Pc [.ref (ad0 50), .int p1] (MW D κ A ad0 (celB κ ad0 r0 b))) (QIXA D A (fun ad' => Ag b.2.2 ad0 ad') (fun ad' => celB κ ad' r0 res.1) res.2) (XX D A ad0 (celB κ ad0 r0 res.1) res.2) 7 47 A := by
  refine met_ofX (own := RX7) (by decide +kernel) rfl (Nat.le_of_ble_eq_true rfl) ?_
  intro p e s m below meth c ls X hr hlk hout G hl
  have hl : lv_has ls 2 [(0, .ref (ad0 50)), (1, .int p1)] := hl
  unfold F7_remove at h
  refine lv_iload_n (pc := 0) X.1 X.2.1 dX7_remove_0 rfl (lv_at hl 1 rfl) ?_
  rcases bx_some h with ⟨u1, k2, e4, h5⟩ | ⟨u1, v3, e4, h6⟩
  · have h5_i := Option.some.inj h5
    exact X_tv (X_runS (pc := 1) (As := [.int p1]) (rest := []) (M' := (celB κ ad0 r0 b)) (r := (.inl k2 : Nat ⊕ Unit)) X G (rm := rm7_requireLetter) rfl rfl (c7_requireLetter l hfl D κ A ad0 (celB κ ad0 r0 b) p1 (u1, (.inl k2 : Nat ⊕ Unit)) e4) g_X7_52 hs_yX7_requireLetter ⟨Nat.le_of_ble_eq_true rfl, Nat.le_of_ble_eq_true rfl⟩ rfl hl rfl (lv_room (Nat.le_of_ble_eq_true rfl)) dX7_remove_1 ⟨Nat.le_of_ble_eq_true rfl, Nat.le_of_ble_eq_true rfl⟩) G hout hlk rfl (congrArg Prod.snd h5_i).symm (congrArg (fun q : BS × (Nat ⊕ Int32) => celB κ ad0 r0 q.1) h5_i) (Nat.le_of_ble_eq_true rfl) (Nat.le_of_ble_eq_true rfl)
  refine X_v (X_runS (pc := 1) (As := [.int p1]) (rest := []) (M' := (celB κ ad0 r0 b)) (r := (.inr v3 : Nat ⊕ Unit)) X G (rm := rm7_requireLetter) rfl rfl (c7_requireLetter l hfl D κ A ad0 (celB κ ad0 r0 b) p1 (u1, (.inr v3 : Nat ⊕ Unit)) e4) g_X7_52 hs_yX7_requireLetter ⟨Nat.le_of_ble_eq_true rfl, Nat.le_of_ble_eq_true rfl⟩ rfl hl rfl (lv_room (Nat.le_of_ble_eq_true rfl)) dX7_remove_1 ⟨Nat.le_of_ble_eq_true rfl, Nat.le_of_ble_eq_true rfl⟩) G rfl (fun H locs G7 => ?_)
  refine lv_aload_n (pc := 4) X.1 X.2.1 dX7_remove_4 rfl (lv_at hl 0 rfl) ?_
  refine lv_iload_n (pc := 5) X.1 X.2.1 dX7_remove_5 rfl (lv_at hl 1 rfl) ?_
  rcases bx_some h6 with ⟨b8, k9, e11, h12⟩ | ⟨b8, o10, e11, h13⟩
  · have h12_i := Option.some.inj h12
    exact X_tq (X_runV (pc := 6) (i := 50) (As := [.int p1]) (rest := []) (M' := (celB κ ad0 r0 b8)) (r := (.inl k9 : Nat ⊕ Option Nat)) X G7 (rm := rm7_requireDefinition) rfl rfl rfl (c7_requireDefinition l hfl D κ A ad0 r0 b p1 (b8, (.inl k9 : Nat ⊕ Option Nat)) e11) (B_rcv (ci := 7) (okL50 _) (by decide)) rfl g_X7_79 hd_yX7_requireDefinition ⟨Nat.le_of_ble_eq_true rfl, Nat.le_of_ble_eq_true rfl⟩ rfl hl rfl (lv_room (Nat.le_of_ble_eq_true rfl)) dX7_remove_6 ⟨Nat.le_of_ble_eq_true rfl, Nat.le_of_ble_eq_true rfl⟩) G7 hout hlk rfl (congrArg Prod.snd h12_i).symm (congrArg (fun q : BS × (Nat ⊕ Int32) => celB κ ad0 r0 q.1) h12_i) (Nat.le_of_ble_eq_true rfl) (Nat.le_of_ble_eq_true rfl)
  refine X_q (X_runV (pc := 6) (i := 50) (As := [.int p1]) (rest := []) (M' := (celB κ ad0 r0 b8)) (r := (.inr o10 : Nat ⊕ Option Nat)) X G7 (rm := rm7_requireDefinition) rfl rfl rfl (c7_requireDefinition l hfl D κ A ad0 r0 b p1 (b8, (.inr o10 : Nat ⊕ Option Nat)) e11) (B_rcv (ci := 7) (okL50 _) (by decide)) rfl g_X7_79 hd_yX7_requireDefinition ⟨Nat.le_of_ble_eq_true rfl, Nat.le_of_ble_eq_true rfl⟩ rfl hl rfl (lv_room (Nat.le_of_ble_eq_true rfl)) dX7_remove_6 ⟨Nat.le_of_ble_eq_true rfl, Nat.le_of_ble_eq_true rfl⟩) G7 rfl (fun H locs G14 => ?_)
  refine lv_pop (pc := 9) X.1 X.2.1 dX7_remove_9 (by cases o10 <;> rfl) ?_
  refine lv_aload_n (pc := 10) X.1 X.2.1 dX7_remove_10 rfl (lv_at hl 0 rfl) ?_
  refine B_getc (pc := 11) (i := 50) (k := 1) (j := 63) X G14 rfl clX7 (okL50 _) (by decide) rfl fl_X7_19 dX7_remove_11 ?_
  refine lv_aload_n (pc := 14) X.1 X.2.1 dX7_remove_14 rfl (lv_at hl 0 rfl) ?_
  refine B_getc (pc := 15) (i := 50) (k := 0) (j := 70) X G14 rfl clX7 (okL50 _) (by decide) rfl fl_X7_10 dX7_remove_15 ?_
  obtain ⟨g17, h13_g⟩ := pr_some h13
  obtain ⟨b15, e18, h19⟩ := bn_some h13_g
  refine m_callvA (pc := 18) (i := 63) (As := [.ref (ad0 70)]) (rest := []) X G14 rfl (rm := rm2_saveState) (c2_saveState l D κ A ad0 r0 b8 70 b15 e18) (B_rcv (ci := 2) (okL63 _) (by decide)) rfl g_X7_59 hd_yX2_saveState ⟨Nat.le_of_ble_eq_true rfl, Nat.le_of_ble_eq_true rfl⟩ rfl hl rfl (lv_room (Nat.le_of_ble_eq_true rfl)) dX7_remove_18 ⟨Nat.le_of_ble_eq_true rfl, Nat.le_of_ble_eq_true rfl⟩ (fun ad1 H locs hA16 G20 => ?_)
  have hag21 : Ag b.2.2 ad0 ad1 := Ag.tr (Ag.rf _ _) g17 hA16
  have hl22 : lv_has ls 2 [(0, .ref (ad1 50)), (1, .int p1)] := by rw [hA16 50 (Or.inl (by decide))]; exact hl
  refine lv_aload_n (pc := 21) X.1 X.2.1 dX7_remove_21 rfl (lv_at hl22 0 rfl) ?_
  refine B_getc (pc := 22) (i := 50) (k := 0) (j := 70) X G20 rfl clX7 (okL50 _) (by decide) rfl fl_X7_10 dX7_remove_22 ?_
  refine lv_iload_n (pc := 25) X.1 X.2.1 dX7_remove_25 rfl (lv_at hl22 1 rfl) ?_
  refine lv_null (pc := 26) X.1 X.2.1 dX7_remove_26 ?_
  obtain ⟨b25, eb25, h23⟩ := bn_some h19
  refine B_callv (pc := 27) (M' := (celB κ ad1 r0 b25)) (i := 70) (As := [.int p1, va_rf ((none : Option Nat).map ad1)]) (rest := []) X G20 (rm := rm5_putDefinition) rfl rfl rfl (c5_putDefinition l D κ A ad1 r0 b15 70 p1 (none : Option Nat) b25 eb25) (B_rcv (ci := 5) (okL70 _) (by decide)) rfl g_X7_72 hd_yX5_putDefinition ⟨Nat.le_of_ble_eq_true rfl, Nat.le_of_ble_eq_true rfl⟩ rfl hl22 rfl (lv_room (Nat.le_of_ble_eq_true rfl)) dX7_remove_27 ⟨Nat.le_of_ble_eq_true rfl, Nat.le_of_ble_eq_true rfl⟩ (fun H locs G24 => ?_)
  refine lv_aload_n (pc := 30) X.1 X.2.1 dX7_remove_30 rfl (lv_at hl22 0 rfl) ?_
  refine B_getc (pc := 31) (i := 50) (k := 0) (j := 70) X G24 rfl clX7 (okL50 _) (by decide) rfl fl_X7_10 dX7_remove_31 ?_
  obtain ⟨x28, ex28, h26⟩ := bn_some h23
  refine B_calli (pc := 34) (v := x28) (M' := (celB κ ad1 r0 b25)) (i := 70) (As := []) (rest := []) X G24 (rm := rm5_definedCount) rfl rfl rfl (c5_definedCount l D κ A ad1 r0 b25 70 x28 ex28) (B_rcv (ci := 5) (okL70 _) (by decide)) rfl g_X7_83 hd_yX5_definedCount ⟨Nat.le_of_ble_eq_true rfl, Nat.le_of_ble_eq_true rfl⟩ rfl hl22 rfl (lv_room (Nat.le_of_ble_eq_true rfl)) dX7_remove_34 ⟨Nat.le_of_ble_eq_true rfl, Nat.le_of_ble_eq_true rfl⟩ (fun H locs G27 => ?_)
  have h26_i := Option.some.inj h26
  exact X_iretA (pc := 37) X G27 hr hlk dX7_remove_37 (congrArg Prod.snd h26_i).symm hag21 (congrArg (fun q : BS × (Nat ⊕ Int32) => celB κ ad1 r0 q.1) h26_i) (Nat.le_of_ble_eq_true rfl) (Nat.le_of_ble_eq_true rfl)

abbrev rm7_exchange : Room := { frames := 7, cells := 7, slots := 47, locals := 141 }
noncomputable def F7_exchange (b : BS) (p1 : Int32) (p2 : Int32) : Option (BS × (Nat ⊕ Int32)) :=
  bx (F7_requireLetter p1) (fun u1 k2 => some (b, .inl k2)) fun u1 v3 =>
  bx (F7_requireLetter p2) (fun u8 k9 => some (b, .inl k9)) fun u8 v10 =>
  pr (Gr b b) <|
  bn (F2_saveState b 70) fun b15 =>
  bn (F5_definitionOf b15 70 p1) fun o25 =>
  bn (F5_definitionOf b15 70 p2) fun o30 =>
  bn (F5_putDefinition b15 70 p1 o30) fun b35 =>
  bn (F5_putDefinition b35 70 p2 o25) fun b38 =>
  jp (fun (x48 : Int32) => jp (fun (x62 : Int32) => some (b38, .inr (x48 + x62))) fun k53 =>
  on o30 (k53 0) fun t55 =>
  k53 1) fun k39 =>
  on o25 (k39 0) fun t41 =>
  k39 1
set_option maxHeartbeats 4000000 in
set_option maxRecDepth 100000 in
theorem c7_exchange (l : Launch) (hfl : l.stackTraces = false) (D : va_G) (κ : Nat → ClassId) (A : Nat → Prop) (ad0 : Nat → Nat) (r0 : Nat → Option va_E) (b : BS) (p1 : Int32) (p2 : Int32) (res : BS × (Nat ⊕ Int32)) (h : F7_exchange b p1 p2 = some res) : vx_Met l yX7_exchange (gw yX7_exchange cX7_exchange 5 (some (FieldType.int))) rm7_exchange (va_Pc [.ref (ad0 50), .int p1, .int p2] (MW D κ A ad0 (celB κ ad0 r0 b))) (QIXA D A (fun ad' => Ag b.2.2 ad0 ad') (fun ad' => celB κ ad' r0 res.1) res.2) (XX D A ad0 (celB κ ad0 r0 res.1) res.2) 7 47 A := by
  refine met_ofX (own := RX7) (by decide +kernel) rfl (Nat.le_of_ble_eq_true rfl) ?_
  intro p e s m below meth c ls X hr hlk hout G hl
  have hl : lv_has ls 5 [(0, .ref (ad0 50)), (1, .int p1), (2, .int p2)] := hl
  unfold F7_exchange at h
  refine lv_iload_n (pc := 0) X.1 X.2.1 dX7_exchange_0 rfl (lv_at hl 1 rfl) ?_
  rcases bx_some h with ⟨u1, k2, e4, h5⟩ | ⟨u1, v3, e4, h6⟩
  · have h5_i := Option.some.inj h5
    exact X_tv (X_runS (pc := 1) (As := [.int p1]) (rest := []) (M' := (celB κ ad0 r0 b)) (r := (.inl k2 : Nat ⊕ Unit)) X G (rm := rm7_requireLetter) rfl rfl (c7_requireLetter l hfl D κ A ad0 (celB κ ad0 r0 b) p1 (u1, (.inl k2 : Nat ⊕ Unit)) e4) g_X7_52 hs_yX7_requireLetter ⟨Nat.le_of_ble_eq_true rfl, Nat.le_of_ble_eq_true rfl⟩ rfl hl rfl (lv_room (Nat.le_of_ble_eq_true rfl)) dX7_exchange_1 ⟨Nat.le_of_ble_eq_true rfl, Nat.le_of_ble_eq_true rfl⟩) G hout hlk rfl (congrArg Prod.snd h5_i).symm (congrArg (fun q : BS × (Nat ⊕ Int32) => celB κ ad0 r0 q.1) h5_i) (Nat.le_of_ble_eq_true rfl) (Nat.le_of_ble_eq_true rfl)
  refine X_v (X_runS (pc := 1) (As := [.int p1]) (rest := []) (M' := (celB κ ad0 r0 b)) (r := (.inr v3 : Nat ⊕ Unit)) X G (rm := rm7_requireLetter) rfl rfl (c7_requireLetter l hfl D κ A ad0 (celB κ ad0 r0 b) p1 (u1, (.inr v3 : Nat ⊕ Unit)) e4) g_X7_52 hs_yX7_requireLetter ⟨Nat.le_of_ble_eq_true rfl, Nat.le_of_ble_eq_true rfl⟩ rfl hl rfl (lv_room (Nat.le_of_ble_eq_true rfl)) dX7_exchange_1 ⟨Nat.le_of_ble_eq_true rfl, Nat.le_of_ble_eq_true rfl⟩) G rfl (fun H locs G7 => ?_)
  refine lv_iload_n (pc := 4) X.1 X.2.1 dX7_exchange_4 rfl (lv_at hl 2 rfl) ?_
  rcases bx_some h6 with ⟨u8, k9, e11, h12⟩ | ⟨u8, v10, e11, h13⟩
  · have h12_i := Option.some.inj h12
    exact X_tv (X_runS (pc := 5) (As := [.int p2]) (rest := []) (M' := (celB κ ad0 r0 b)) (r := (.inl k9 : Nat ⊕ Unit)) X G7 (rm := rm7_requireLetter) rfl rfl (c7_requireLetter l hfl D κ A ad0 (celB κ ad0 r0 b) p2 (u8, (.inl k9 : Nat ⊕ Unit)) e11) g_X7_52 hs_yX7_requireLetter ⟨Nat.le_of_ble_eq_true rfl, Nat.le_of_ble_eq_true rfl⟩ rfl hl rfl (lv_room (Nat.le_of_ble_eq_true rfl)) dX7_exchange_5 ⟨Nat.le_of_ble_eq_true rfl, Nat.le_of_ble_eq_true rfl⟩) G7 hout hlk rfl (congrArg Prod.snd h12_i).symm (congrArg (fun q : BS × (Nat ⊕ Int32) => celB κ ad0 r0 q.1) h12_i) (Nat.le_of_ble_eq_true rfl) (Nat.le_of_ble_eq_true rfl)
  refine X_v (X_runS (pc := 5) (As := [.int p2]) (rest := []) (M' := (celB κ ad0 r0 b)) (r := (.inr v10 : Nat ⊕ Unit)) X G7 (rm := rm7_requireLetter) rfl rfl (c7_requireLetter l hfl D κ A ad0 (celB κ ad0 r0 b) p2 (u8, (.inr v10 : Nat ⊕ Unit)) e11) g_X7_52 hs_yX7_requireLetter ⟨Nat.le_of_ble_eq_true rfl, Nat.le_of_ble_eq_true rfl⟩ rfl hl rfl (lv_room (Nat.le_of_ble_eq_true rfl)) dX7_exchange_5 ⟨Nat.le_of_ble_eq_true rfl, Nat.le_of_ble_eq_true rfl⟩) G7 rfl (fun H locs G14 => ?_)
  refine lv_aload_n (pc := 8) X.1 X.2.1 dX7_exchange_8 rfl (lv_at hl 0 rfl) ?_
  refine B_getc (pc := 9) (i := 50) (k := 1) (j := 63) X G14 rfl clX7 (okL50 _) (by decide) rfl fl_X7_19 dX7_exchange_9 ?_
  refine lv_aload_n (pc := 12) X.1 X.2.1 dX7_exchange_12 rfl (lv_at hl 0 rfl) ?_
  refine B_getc (pc := 13) (i := 50) (k := 0) (j := 70) X G14 rfl clX7 (okL50 _) (by decide) rfl fl_X7_10 dX7_exchange_13 ?_
  obtain ⟨g17, h13_g⟩ := pr_some h13
  obtain ⟨b15, e18, h19⟩ := bn_some h13_g
  refine m_callvA (pc := 16) (i := 63) (As := [.ref (ad0 70)]) (rest := []) X G14 rfl (rm := rm2_saveState) (c2_saveState l D κ A ad0 r0 b 70 b15 e18) (B_rcv (ci := 2) (okL63 _) (by decide)) rfl g_X7_59 hd_yX2_saveState ⟨Nat.le_of_ble_eq_true rfl, Nat.le_of_ble_eq_true rfl⟩ rfl hl rfl (lv_room (Nat.le_of_ble_eq_true rfl)) dX7_exchange_16 ⟨Nat.le_of_ble_eq_true rfl, Nat.le_of_ble_eq_true rfl⟩ (fun ad1 H locs hA16 G20 => ?_)
  have hag21 : Ag b.2.2 ad0 ad1 := Ag.tr (Ag.rf _ _) g17 hA16
  have hl22 : lv_has ls 5 [(0, .ref (ad1 50)), (1, .int p1), (2, .int p2)] := by rw [hA16 50 (Or.inl (by decide))]; exact hl
  refine lv_aload_n (pc := 19) X.1 X.2.1 dX7_exchange_19 rfl (lv_at hl22 0 rfl) ?_
  refine B_getc (pc := 20) (i := 50) (k := 0) (j := 70) X G20 rfl clX7 (okL50 _) (by decide) rfl fl_X7_10 dX7_exchange_20 ?_
  refine lv_iload_n (pc := 23) X.1 X.2.1 dX7_exchange_23 rfl (lv_at hl22 1 rfl) ?_
  obtain ⟨o25, eo25, h23⟩ := bn_some h19
  refine B_callq (pc := 24) (v := o25) (M' := (celB κ ad1 r0 b15)) (i := 70) (As := [.int p1]) (rest := []) X G20 (rm := rm5_definitionOf) rfl rfl rfl (c5_definitionOf l D κ A ad1 r0 b15 70 p1 o25 eo25) (B_rcv (ci := 5) (okL70 _) (by decide)) rfl g_X7_87 hd_yX5_definitionOf ⟨Nat.le_of_ble_eq_true rfl, Nat.le_of_ble_eq_true rfl⟩ rfl hl22 rfl (lv_room (Nat.le_of_ble_eq_true rfl)) dX7_exchange_24 ⟨Nat.le_of_ble_eq_true rfl, Nat.le_of_ble_eq_true rfl⟩ (fun H locs G24 => ?_)
  refine lq_astore_n (pc := 27) (lv' := [(3, va_rf (o25.map ad1)), (0, .ref (ad1 50)), (1, .int p1), (2, .int p2)]) X dX7_exchange_27 rfl hl22 (by decide) rfl (fun ls26 hl27 => ?_)
  refine lv_aload_n (pc := 28) X.1 X.2.1 dX7_exchange_28 rfl (lv_at hl27 1 rfl) ?_
  refine B_getc (pc := 29) (i := 50) (k := 0) (j := 70) X G24 rfl clX7 (okL50 _) (by decide) rfl fl_X7_10 dX7_exchange_29 ?_
  refine lv_iload_n (pc := 32) X.1 X.2.1 dX7_exchange_32 rfl (lv_at hl27 3 rfl) ?_
  obtain ⟨o30, eo30, h28⟩ := bn_some h23
  refine B_callq (pc := 33) (v := o30) (M' := (celB κ ad1 r0 b15)) (i := 70) (As := [.int p2]) (rest := []) X G24 (rm := rm5_definitionOf) rfl rfl rfl (c5_definitionOf l D κ A ad1 r0 b15 70 p2 o30 eo30) (B_rcv (ci := 5) (okL70 _) (by decide)) rfl g_X7_87 hd_yX5_definitionOf ⟨Nat.le_of_ble_eq_true rfl, Nat.le_of_ble_eq_true rfl⟩ rfl hl27 rfl (lv_room (Nat.le_of_ble_eq_true rfl)) dX7_exchange_33 ⟨Nat.le_of_ble_eq_true rfl, Nat.le_of_ble_eq_true rfl⟩ (fun H locs G29 => ?_)
  refine lq_astore (pc := 36) (lv' := [(4, va_rf (o30.map ad1)), (3, va_rf (o25.map ad1)), (0, .ref (ad1 50)), (1, .int p1), (2, .int p2)]) X dX7_exchange_36 hl27 (by decide) (by cases o25 <;> rfl) (fun ls31 hl32 => ?_)
  refine lv_aload_n (pc := 38) X.1 X.2.1 dX7_exchange_38 rfl (lv_at hl32 2 rfl) ?_
  refine B_getc (pc := 39) (i := 50) (k := 0) (j := 70) X G29 rfl clX7 (okL50 _) (by decide) rfl fl_X7_10 dX7_exchange_39 ?_
  refine lv_iload_n (pc := 42) X.1 X.2.1 dX7_exchange_42 rfl (lv_at hl32 3 rfl) ?_
  refine lq_aload (pc := 43) X dX7_exchange_43 (lv_at hl32 0 rfl) ?_
  obtain ⟨b35, eb35, h33⟩ := bn_some h28
  refine B_callv (pc := 45) (M' := (celB κ ad1 r0 b35)) (i := 70) (As := [.int p1, va_rf (o30.map ad1)]) (rest := []) X G29 (rm := rm5_putDefinition) rfl rfl rfl (c5_putDefinition l D κ A ad1 r0 b15 70 p1 o30 b35 eb35) (B_rcv (ci := 5) (okL70 _) (by decide)) rfl g_X7_72 hd_yX5_putDefinition ⟨Nat.le_of_ble_eq_true rfl, Nat.le_of_ble_eq_true rfl⟩ rfl hl32 rfl (lv_room (Nat.le_of_ble_eq_true rfl)) dX7_exchange_45 ⟨Nat.le_of_ble_eq_true rfl, Nat.le_of_ble_eq_true rfl⟩ (fun H locs G34 => ?_)
  refine lv_aload_n (pc := 48) X.1 X.2.1 dX7_exchange_48 rfl (lv_at hl32 2 rfl) ?_
  refine B_getc (pc := 49) (i := 50) (k := 0) (j := 70) X G34 rfl clX7 (okL50 _) (by decide) rfl fl_X7_10 dX7_exchange_49 ?_
  refine lv_iload_n (pc := 52) X.1 X.2.1 dX7_exchange_52 rfl (lv_at hl32 4 rfl) ?_
  refine lq_aload_n (pc := 53) X dX7_exchange_53 rfl (lv_at hl32 1 rfl) ?_
  obtain ⟨b38, eb38, h36⟩ := bn_some h33
  refine B_callv (pc := 54) (M' := (celB κ ad1 r0 b38)) (i := 70) (As := [.int p2, va_rf (o25.map ad1)]) (rest := []) X G34 (rm := rm5_putDefinition) rfl rfl rfl (c5_putDefinition l D κ A ad1 r0 b35 70 p2 o25 b38 eb38) (B_rcv (ci := 5) (okL70 _) (by decide)) rfl g_X7_72 hd_yX5_putDefinition ⟨Nat.le_of_ble_eq_true rfl, Nat.le_of_ble_eq_true rfl⟩ rfl hl32 rfl (lv_room (Nat.le_of_ble_eq_true rfl)) dX7_exchange_54 ⟨Nat.le_of_ble_eq_true rfl, Nat.le_of_ble_eq_true rfl⟩ (fun H locs G37 => ?_)
  refine lq_aload_n (pc := 57) X dX7_exchange_57 rfl (lv_at hl32 1 rfl) ?_
  obtain ⟨k39, ek39, h40⟩ := jp_some h36
  have hk39 : ∀ (x48 : Int32) (H : Heap) (locs : List Loc) (ls : Array Slot), k39 x48 = some res → Mm D κ A ad1 (celB κ ad1 r0 b38) s H locs → lv_has ls 5 [(4, va_rf (o30.map ad1))] → W p l e rm7_exchange s m [.ref (ad0 50), .int p1, .int p2].toArray below meth c H locs 7 47 (vx_MQ below (QIXA D A (fun ad1' => Ag b.2.2 ad0 ad1') (fun ad1' => celB κ ad1' r0 res.1) res.2) (XX D A ad0 (celB κ ad0 r0 res.1) res.2) [.ref (ad0 50), .int p1, .int p2].toArray s 7 47 A) (F0 m 66 ls [.int x48]) := by
    intro x48 H locs ls52 h49 G50 hl51
    rw [ek39] at h49
    try dsimp only at h49
    refine lq_aload (pc := 66) X dX7_exchange_66 (lv_at hl51 0 rfl) ?_
    obtain ⟨k53, ek53, h54⟩ := jp_some h49
    have hk53 : ∀ (x62 : Int32) (H : Heap) (locs : List Loc) (ls : Array Slot), k53 x62 = some res → Mm D κ A ad1 (celB κ ad1 r0 b38) s H locs → lv_has ls 5 [] → W p l e rm7_exchange s m [.ref (ad0 50), .int p1, .int p2].toArray below meth c H locs 7 47 (vx_MQ below (QIXA D A (fun ad1' => Ag b.2.2 ad0 ad1') (fun ad1' => celB κ ad1' r0 res.1) res.2) (XX D A ad0 (celB κ ad0 r0 res.1) res.2) [.ref (ad0 50), .int p1, .int p2].toArray s 7 47 A) (F0 m 76 ls [.int x62, .int x48]) := by
      intro x62 H locs ls66 h63 G64 hl65
      rw [ek53] at h63
      try dsimp only at h63
      refine lv_iadd (pc := 76) X.1 X.2.1 dX7_exchange_76 ?_
      have h63_i := Option.some.inj h63
      exact X_iretA (pc := 77) X G64 hr hlk dX7_exchange_77 (congrArg Prod.snd h63_i).symm hag21 (congrArg (fun q : BS × (Nat ⊕ Int32) => celB κ ad1 r0 q.1) h63_i) (Nat.le_of_ble_eq_true rfl) (Nat.le_of_ble_eq_true rfl)
    rcases o30 with _ | t55
    · have h56 := on_n h54
      have hl58 : lv_has ls52 5 [(4, va_rf ((none : Option Nat).map ad1))] := hl51
      refine lv_ifnonnullN (pc := 68) X.1 X.2.1 dX7_exchange_68 ?_
      refine lv_iconst (pc := 71) (v := 0) X.1 X.2.1 dX7_exchange_71 (by decide) ?_
      refine lv_goto (pc := 72) (tgt := 76) X.1 X.2.1 dX7_exchange_72 (by decide) ?_
      exact hk53 0 _ _ ls52 h56 G50 (lv_sub hl58 [] rfl)
    · have h57 := on_s h54
      have hl59 : lv_has ls52 5 [(4, .ref (ad1 t55))] := hl51
      refine lv_ifnonnull (pc := 68) (tgt := 75) (x := ad1 t55) X.1 X.2.1 dX7_exchange_68 (by decide) ?_
      refine lv_iconst (pc := 75) (v := 1) X.1 X.2.1 dX7_exchange_75 (by decide) ?_
      exact hk53 1 _ _ ls52 h57 G50 (lv_sub hl59 [] rfl)
  rcases o25 with _ | t41
  · have h42 := on_n h40
    have hl44 : lv_has ls31 5 [(4, va_rf (o30.map ad1)), (3, va_rf ((none : Option Nat).map ad1)), (0, .ref (ad1 50)), (1, .int p1), (2, .int p2)] := hl32
    refine lv_ifnonnullN (pc := 58) X.1 X.2.1 dX7_exchange_58 ?_
    refine lv_iconst (pc := 61) (v := 0) X.1 X.2.1 dX7_exchange_61 (by decide) ?_
    refine lv_goto (pc := 62) (tgt := 66) X.1 X.2.1 dX7_exchange_62 (by decide) ?_
    exact hk39 0 _ _ ls31 h42 G37 (lv_sub hl44 [0] rfl)
  · have h43 := on_s h40
    have hl45 : lv_has ls31 5 [(4, va_rf (o30.map ad1)), (3, .ref (ad1 t41)), (0, .ref (ad1 50)), (1, .int p1), (2, .int p2)] := hl32
    refine lv_ifnonnull (pc := 58) (tgt := 65) (x := ad1 t41) X.1 X.2.1 dX7_exchange_58 (by decide) ?_
    refine lv_iconst (pc := 65) (v := 1) X.1 X.2.1 dX7_exchange_65 (by decide) ?_
    exact hk39 1 _ _ ls31 h43 G37 (lv_sub hl45 [0] rfl)

abbrev rm7_set : Room := { frames := 6, cells := 5, slots := 35, locals := 141 }
noncomputable def F7_set (b : BS) (p1 : Int32) : Option (BS × (Nat ⊕ Int32)) :=
  jp (fun (_ : Unit) => some (b, .inl 2)) fun k1 =>
  if p1 < 1 then
  k1 ()
  else
  if p1 ≤ 12 then
  pr (Gr b b) <|
  bn (F2_saveState b 70) fun b9 =>
  bd (b9.1 70 2) fun x17 =>
  bd (setI b9 70 2 p1) fun b21 =>
  some (b21, .inr x17)
  else
  k1 ()
set_option maxHeartbeats 4000000 in
set_option maxRecDepth 100000 in
theorem c7_set (l : Launch) (hfl : l.stackTraces = false) (D : va_G) (κ : Nat → ClassId) (A : Nat → Prop) (ad0 : Nat → Nat) (r0 : Nat → Option va_E) (b : BS) (p1 : Int32) (res : BS × (Nat ⊕ Int32)) (h : F7_set b p1 = some res) : vx_Met l yX7_set (gw yX7_set cX7_set 3 (some (FieldType.int))) rm7_set (va_Pc [.ref (ad0 50), .int p1] (MW D κ A ad0 (celB κ ad0 r0 b))) (QIXA D A (fun ad' => Ag b.2.2 ad0 ad') (fun ad' => celB κ ad' r0 res.1) res.2) (XX D A ad0 (celB κ ad0 r0 res.1) res.2) 5 35 A := by
  refine met_ofX (own := RX7) (by decide +kernel) rfl (Nat.le_of_ble_eq_true rfl) ?_
  intro p e s m below meth c ls X hr hlk hout G hl
  have hl : lv_has ls 3 [(0, .ref (ad0 50)), (1, .int p1)] := hl
  unfold F7_set at h
  refine lv_iload_n (pc := 0) X.1 X.2.1 dX7_set_0 rfl (lv_at hl 1 rfl) ?_
  refine lv_iconst (pc := 1) (v := 1) X.1 X.2.1 dX7_set_1 (by decide) ?_
  obtain ⟨k1, ek1, h2⟩ := jp_some h
  have hk1 : ∀  (H : Heap) (locs : List Loc) (ls : Array Slot), k1 () = some res → Mm D κ A ad0 (celB κ ad0 r0 b) s H locs → lv_has ls 3 [] → W p l e rm7_set s m [.ref (ad0 50), .int p1].toArray below meth c H locs 0 0 (vx_MQ below (QIXA D A (fun ad0' => Ag b.2.2 ad0 ad0') (fun ad0' => celB κ ad0' r0 res.1) res.2) (XX D A ad0 (celB κ ad0 r0 res.1) res.2) [.ref (ad0 50), .int p1].toArray s 5 35 A) (F0 m 11 ls []) := by
    intro  H locs ls27 h24 G25 hl26
    rw [ek1] at h24
    try dsimp only at h24
    have h24_i := Option.some.inj h24
    exact m_throwS (pc := 11) (k := 2) (is := 92) X G25 hfl (ik := 90) (ic := 94) (by decide) (List.mem_of_getElem? (i := 3) rfl) hl26 dX7_set_11 dX7_set_14 dX7_set_15 dX7_set_17 dX7_set_20 hout (Nat.le_of_ble_eq_true rfl) (Nat.le_of_ble_eq_true rfl) (Nat.le_of_ble_eq_true rfl) (Nat.le_of_ble_eq_true rfl) hlk (congrArg Prod.snd h24_i).symm (congrArg (fun q : BS × (Nat ⊕ Int32) => celB κ ad0 r0 q.1) h24_i) (Nat.le_of_ble_eq_true rfl) (Nat.le_of_ble_eq_true rfl)
  refine lv_icmp_lt (pc := 2) (tgt := 11) X.1 X.2.1 dX7_set_2 (by decide) (fun hc3 => ?_) (fun hc3 => ?_)
  · have h4 := it_pos h2 hc3
    exact hk1  _ _ ls h4 G (lv_sub hl [] rfl)
  · have h5 := it_neg h2 hc3
    refine lv_iload_n (pc := 5) X.1 X.2.1 dX7_set_5 rfl (lv_at hl 1 rfl) ?_
    refine lv_bipush (pc := 6) (v := 12) X.1 X.2.1 dX7_set_6 (by decide) ?_
    refine lv_icmp_le (pc := 8) (tgt := 21) X.1 X.2.1 dX7_set_8 (by decide) (fun hc6 => ?_) (fun hc6 => ?_)
    · have h7 := it_pos h5 hc6
      refine lv_aload_n (pc := 21) X.1 X.2.1 dX7_set_21 rfl (lv_at hl 0 rfl) ?_
      refine B_getc (pc := 22) (i := 50) (k := 1) (j := 63) X G rfl clX7 (okL50 _) (by decide) rfl fl_X7_19 dX7_set_22 ?_
      refine lv_aload_n (pc := 25) X.1 X.2.1 dX7_set_25 rfl (lv_at hl 0 rfl) ?_
      refine B_getc (pc := 26) (i := 50) (k := 0) (j := 70) X G rfl clX7 (okL50 _) (by decide) rfl fl_X7_10 dX7_set_26 ?_
      obtain ⟨g11, h7_g⟩ := pr_some h7
      obtain ⟨b9, e12, h13⟩ := bn_some h7_g
      refine m_callvA (pc := 29) (i := 63) (As := [.ref (ad0 70)]) (rest := []) X G rfl (rm := rm2_saveState) (c2_saveState l D κ A ad0 r0 b 70 b9 e12) (B_rcv (ci := 2) (okL63 _) (by decide)) rfl g_X7_59 hd_yX2_saveState ⟨Nat.le_of_ble_eq_true rfl, Nat.le_of_ble_eq_true rfl⟩ rfl hl rfl (lv_room (Nat.le_of_ble_eq_true rfl)) dX7_set_29 ⟨Nat.le_of_ble_eq_true rfl, Nat.le_of_ble_eq_true rfl⟩ (fun ad1 H locs hA10 G14 => ?_)
      have hag15 : Ag b.2.2 ad0 ad1 := Ag.tr (Ag.rf _ _) g11 hA10
      have hl16 : lv_has ls 3 [(0, .ref (ad1 50)), (1, .int p1)] := by rw [hA10 50 (Or.inl (by decide))]; exact hl
      refine lv_aload_n (pc := 32) X.1 X.2.1 dX7_set_32 rfl (lv_at hl16 0 rfl) ?_
      refine B_getc (pc := 33) (i := 50) (k := 0) (j := 70) X G14 rfl clX7 (okL50 _) (by decide) rfl fl_X7_10 dX7_set_33 ?_
      refine B_geti (pc := 36) (i := 70) (k := 2) X G14 rfl clX5 (okL70 _) (by decide) rfl rfl fl_X7_97 dX7_set_36 ?_
      refine lv_topi (fun x17 ex17 => ?_)
      have h18 := bd_at h13 ex17
      refine lv_istore_n (pc := 39) (lv' := [(2, .int x17), (0, .ref (ad1 50)), (1, .int p1)]) X.1 X.2.1 dX7_set_39 rfl hl16 (by decide) rfl (fun ls19 hl20 => ?_)
      refine lv_aload_n (pc := 40) X.1 X.2.1 dX7_set_40 rfl (lv_at hl20 1 rfl) ?_
      refine B_getc (pc := 41) (i := 50) (k := 0) (j := 70) X G14 rfl clX7 (okL50 _) (by decide) rfl fl_X7_10 dX7_set_41 ?_
      refine lv_iload_n (pc := 44) X.1 X.2.1 dX7_set_44 rfl (lv_at hl20 2 rfl) ?_
      obtain ⟨b21, eb21, h22⟩ := bd_some h18
      refine B_puti (pc := 45) (i := 70) (k := 2) (v := p1) X G14 eb21 rfl clX5 (okL70 _) (by decide) rfl rfl rfl rfl fl_X7_97 dX7_set_45 (fun H locs G23 => ?_)
      have nb21 : b21.2.2 = b9.2.2 := by rw [eb21]; rfl
      refine lv_iload_n (pc := 48) X.1 X.2.1 dX7_set_48 rfl (lv_at hl20 0 rfl) ?_
      have h22_i := Option.some.inj h22
      exact X_iretA (pc := 49) X G23 hr hlk dX7_set_49 (congrArg Prod.snd h22_i).symm hag15 (congrArg (fun q : BS × (Nat ⊕ Int32) => celB κ ad1 r0 q.1) h22_i) (Nat.le_of_ble_eq_true rfl) (Nat.le_of_ble_eq_true rfl)
    · have h8 := it_neg h5 hc6
      exact hk1  _ _ ls h8 G (lv_sub hl [] rfl)

abbrev rm7_expand : Room := { frames := 54, cells := 9, slots := 605, locals := 1742 }
noncomputable def F7_expand (b : BS)  : Option (BS × (Nat ⊕ Int32)) :=
  bx (F7_requireCompleteText b) (fun b1 k2 => some (b1, .inl k2)) fun b1 v3 =>
  pr (Gr b b1) <|
  bn (F2_saveState b1 70) fun b8 =>
  bn2 (F1_writeResult b8 70 51 (b8.1 50 6)) fun b19 x18 =>
  if ¬ x18 = 0 then
  pr (Gr b b19) <|
  bn (F1_makeOutcome b19) fun b23 =>
  bd (setR b23 70 1 (some (102 + 5 * b19.2.2 1))) fun b24 =>
  bd (setI b24 70 3 ((b24.1 70 3) + 1)) fun b33 =>
  bd (b33.2.1 70 1) fun o36 =>
  de o36 fun t38 =>
  ck (okB b33.2.2 t38 3) <|
  some (b33, .inr (nI (lnB b33.2.2 (t38 + 1))))
  else
  bd (setI b19 70 4 ((b19.1 70 4) + 1)) fun b43 =>
  some (b43, .inr (-1))
set_option maxHeartbeats 4000000 in
set_option maxRecDepth 100000 in
theorem c7_expand (l : Launch) (hfl : l.stackTraces = false) (D : va_G) (κ : Nat → ClassId) (A : Nat → Prop) (ad0 : Nat → Nat) (r0 : Nat → Option va_E) (b : BS)  (res : BS × (Nat ⊕ Int32)) (h : F7_expand b  = some res) : vx_Met l yX7_expand (gw yX7_expand cX7_expand 1 (some (FieldType.int))) rm7_expand (va_Pc [.ref (ad0 50)] (MW D κ A ad0 (celB κ ad0 r0 b))) (QIXA D A (fun ad' => Ag b.2.2 ad0 ad') (fun ad' => celB κ ad' r0 res.1) res.2) (XX D A ad0 (celB κ ad0 r0 res.1) res.2) 9 605 A := by
  refine met_ofX (own := RX7) (by decide +kernel) rfl (Nat.le_of_ble_eq_true rfl) ?_
  intro p e s m below meth c ls X hr hlk hout G hl
  have hl : lv_has ls 1 [(0, .ref (ad0 50))] := hl
  unfold F7_expand at h
  refine lv_aload_n (pc := 0) X.1 X.2.1 dX7_expand_0 rfl (lv_at hl 0 rfl) ?_
  rcases bx_some h with ⟨b1, k2, e4, h5⟩ | ⟨b1, v3, e4, h6⟩
  · have h5_i := Option.some.inj h5
    exact X_tv (X_runV (pc := 1) (i := 50) (As := []) (rest := []) (M' := (celB κ ad0 r0 b1)) (r := (.inl k2 : Nat ⊕ Unit)) X G (rm := rm7_requireCompleteText) rfl rfl rfl (c7_requireCompleteText l hfl D κ A ad0 r0 b  (b1, (.inl k2 : Nat ⊕ Unit)) e4) (B_rcv (ci := 7) (okL50 _) (by decide)) rfl g_X7_56 hd_yX7_requireCompleteText ⟨Nat.le_of_ble_eq_true rfl, Nat.le_of_ble_eq_true rfl⟩ rfl hl rfl (lv_room (Nat.le_of_ble_eq_true rfl)) dX7_expand_1 ⟨Nat.le_of_ble_eq_true rfl, Nat.le_of_ble_eq_true rfl⟩) G hout hlk rfl (congrArg Prod.snd h5_i).symm (congrArg (fun q : BS × (Nat ⊕ Int32) => celB κ ad0 r0 q.1) h5_i) (Nat.le_of_ble_eq_true rfl) (Nat.le_of_ble_eq_true rfl)
  refine X_v (X_runV (pc := 1) (i := 50) (As := []) (rest := []) (M' := (celB κ ad0 r0 b1)) (r := (.inr v3 : Nat ⊕ Unit)) X G (rm := rm7_requireCompleteText) rfl rfl rfl (c7_requireCompleteText l hfl D κ A ad0 r0 b  (b1, (.inr v3 : Nat ⊕ Unit)) e4) (B_rcv (ci := 7) (okL50 _) (by decide)) rfl g_X7_56 hd_yX7_requireCompleteText ⟨Nat.le_of_ble_eq_true rfl, Nat.le_of_ble_eq_true rfl⟩ rfl hl rfl (lv_room (Nat.le_of_ble_eq_true rfl)) dX7_expand_1 ⟨Nat.le_of_ble_eq_true rfl, Nat.le_of_ble_eq_true rfl⟩) G rfl (fun H locs G7 => ?_)
  refine lv_aload_n (pc := 4) X.1 X.2.1 dX7_expand_4 rfl (lv_at hl 0 rfl) ?_
  refine B_getc (pc := 5) (i := 50) (k := 1) (j := 63) X G7 rfl clX7 (okL50 _) (by decide) rfl fl_X7_19 dX7_expand_5 ?_
  refine lv_aload_n (pc := 8) X.1 X.2.1 dX7_expand_8 rfl (lv_at hl 0 rfl) ?_
  refine B_getc (pc := 9) (i := 50) (k := 0) (j := 70) X G7 rfl clX7 (okL50 _) (by decide) rfl fl_X7_10 dX7_expand_9 ?_
  obtain ⟨g10, h6_g⟩ := pr_some h6
  obtain ⟨b8, e11, h12⟩ := bn_some h6_g
  refine m_callvA (pc := 12) (i := 63) (As := [.ref (ad0 70)]) (rest := []) X G7 rfl (rm := rm2_saveState) (c2_saveState l D κ A ad0 r0 b1 70 b8 e11) (B_rcv (ci := 2) (okL63 _) (by decide)) rfl g_X7_59 hd_yX2_saveState ⟨Nat.le_of_ble_eq_true rfl, Nat.le_of_ble_eq_true rfl⟩ rfl hl rfl (lv_room (Nat.le_of_ble_eq_true rfl)) dX7_expand_12 ⟨Nat.le_of_ble_eq_true rfl, Nat.le_of_ble_eq_true rfl⟩ (fun ad1 H locs hA9 G13 => ?_)
  have hag14 : Ag b.2.2 ad0 ad1 := Ag.tr (Ag.rf _ _) g10 hA9
  have hl15 : lv_has ls 1 [(0, .ref (ad1 50))] := by rw [hA9 50 (Or.inl (by decide))]; exact hl
  refine lv_aload_n (pc := 15) X.1 X.2.1 dX7_expand_15 rfl (lv_at hl15 0 rfl) ?_
  refine B_getc (pc := 16) (i := 50) (k := 5) (j := 57) X G13 rfl clX7 (okL50 _) (by decide) rfl fl_X7_44 dX7_expand_16 ?_
  refine lv_aload_n (pc := 19) X.1 X.2.1 dX7_expand_19 rfl (lv_at hl15 0 rfl) ?_
  refine B_getc (pc := 20) (i := 50) (k := 0) (j := 70) X G13 rfl clX7 (okL50 _) (by decide) rfl fl_X7_10 dX7_expand_20 ?_
  refine lv_aload_n (pc := 23) X.1 X.2.1 dX7_expand_23 rfl (lv_at hl15 0 rfl) ?_
  refine B_getc (pc := 24) (i := 50) (k := 2) (j := 51) X G13 rfl clX7 (okL50 _) (by decide) rfl fl_X7_23 dX7_expand_24 ?_
  refine lv_aload_n (pc := 27) X.1 X.2.1 dX7_expand_27 rfl (lv_at hl15 0 rfl) ?_
  refine B_geti (pc := 28) (i := 50) (k := 6) X G13 rfl clX7 (okL50 _) (by decide) rfl rfl fl_X7_48 dX7_expand_28 ?_
  obtain ⟨b19, x18, ex18, h16⟩ := bn2_some h12
  refine B_calli (pc := 31) (v := x18) (M' := (celB κ ad1 r0 b19)) (i := 57) (As := [.ref (ad1 70), .ref (ad1 51), .int (b8.1 50 6)]) (rest := []) X G13 (rm := rm1_writeResult) rfl rfl rfl (c1_writeResult l D κ A ad1 r0 b8 70 51 (b8.1 50 6) (b19, x18) ex18) (B_rcv (ci := 1) (okL57 _) (by decide)) rfl g_X7_100 hd_yX1_writeResult ⟨Nat.le_of_ble_eq_true rfl, Nat.le_of_ble_eq_true rfl⟩ rfl hl15 rfl (lv_room (Nat.le_of_ble_eq_true rfl)) dX7_expand_31 ⟨Nat.le_of_ble_eq_true rfl, Nat.le_of_ble_eq_true rfl⟩ (fun H locs G17 => ?_)
  refine lv_if_ne (pc := 34) (tgt := 52) X.1 X.2.1 dX7_expand_34 (by decide) (fun hc20 => ?_) (fun hc20 => ?_)
  · have h21 := it_pos h16 hc20
    refine lv_aload_n (pc := 52) X.1 X.2.1 dX7_expand_52 rfl (lv_at hl15 0 rfl) ?_
    refine B_getc (pc := 53) (i := 50) (k := 0) (j := 70) X G17 rfl clX7 (okL50 _) (by decide) rfl fl_X7_10 dX7_expand_53 ?_
    refine lv_aload_n (pc := 56) X.1 X.2.1 dX7_expand_56 rfl (lv_at hl15 0 rfl) ?_
    refine B_getc (pc := 57) (i := 50) (k := 5) (j := 57) X G17 rfl clX7 (okL50 _) (by decide) rfl fl_X7_44 dX7_expand_57 ?_
    obtain ⟨g26, h21_g⟩ := pr_some h21
    obtain ⟨b23, e27, h21_h⟩ := bn_some h21_g
    obtain ⟨b24, eb24, h28⟩ := bd_some h21_h
    refine m_callrA (pc := 60) (i := 57) (As := []) (rest := [.ref (ad1 70)]) X G17 rfl (rm := rm1_makeOutcome) (c1_makeOutcome l D κ A ad1 r0 b19 b23 e27) (B_rcv (ci := 1) (okL57 _) (by decide)) rfl g_X7_107 hd_yX1_makeOutcome ⟨Nat.le_of_ble_eq_true rfl, Nat.le_of_ble_eq_true rfl⟩ rfl hl15 rfl (lv_room (Nat.le_of_ble_eq_true rfl)) dX7_expand_60 ⟨Nat.le_of_ble_eq_true rfl, Nat.le_of_ble_eq_true rfl⟩ (fun ad2 H locs hA25 G29 => ?_)
    have hag31 : Ag b.2.2 ad0 ad2 := Ag.tr hag14 g26 hA25
    have hl32 : lv_has ls 1 [(0, .ref (ad2 50))] := by rw [hA25 50 (Or.inl (by decide))]; exact hl15
    refine B_putm (pc := 63) (i := 70) (k := 1) (v := some (102 + 5 * b19.2.2 1)) X G29 eb24 (hA25 70 (Or.inr rfl)).symm clX5 (okL70 _) (by decide) rfl rfl rfl rfl fl_X7_111 dX7_expand_63 (fun H locs G30 => ?_)
    refine lv_aload_n (pc := 66) X.1 X.2.1 dX7_expand_66 rfl (lv_at hl32 0 rfl) ?_
    refine B_getc (pc := 67) (i := 50) (k := 0) (j := 70) X G30 rfl clX7 (okL50 _) (by decide) rfl fl_X7_10 dX7_expand_67 ?_
    refine lv_dup (pc := 70) X.1 X.2.1 dX7_expand_70 rfl ?_
    refine B_geti (pc := 71) (i := 70) (k := 3) X G30 rfl clX5 (okL70 _) (by decide) rfl rfl fl_X7_115 dX7_expand_71 ?_
    refine lv_iconst (pc := 74) (v := 1) X.1 X.2.1 dX7_expand_74 (by decide) ?_
    refine lv_iadd (pc := 75) X.1 X.2.1 dX7_expand_75 ?_
    obtain ⟨b33, eb33, h34⟩ := bd_some h28
    refine B_puti (pc := 76) (i := 70) (k := 3) (v := ((b24.1 70 3) + 1)) X G30 eb33 rfl clX5 (okL70 _) (by decide) rfl rfl rfl rfl fl_X7_115 dX7_expand_76 (fun H locs G35 => ?_)
    have nb33 : b33.2.2 = b24.2.2 := by rw [eb33]; rfl
    refine lv_aload_n (pc := 79) X.1 X.2.1 dX7_expand_79 rfl (lv_at hl32 0 rfl) ?_
    refine B_getc (pc := 80) (i := 50) (k := 0) (j := 70) X G35 rfl clX7 (okL50 _) (by decide) rfl fl_X7_10 dX7_expand_80 ?_
    obtain ⟨o36, eo36, h37⟩ := bd_some h34
    refine B_getm (pc := 83) (i := 70) (k := 1) (o := o36) X G35 rfl clX5 (okL70 _) (by decide) rfl rfl eo36 fl_X7_111 dX7_expand_83 ?_
    obtain ⟨t38, rfl, h39⟩ := de_some h37
    have hl40 : lv_has ls 1 [(0, .ref (ad2 50))] := hl32
    obtain ⟨ok41, h42⟩ := ck_some h39
    refine B_getc (pc := 86) (i := t38) (k := 0) (j := t38 + 1) X G35 rfl clX3 ok41 (by decide) rfl fl_X7_118 dX7_expand_86 ?_
    refine B_alen (pc := 89) (i := t38 + 1) (n := (lnB b33.2.2 (t38 + 1))) X G35 rfl (ok3_arr ok41) rfl dX7_expand_89 ?_
    have h42_i := Option.some.inj h42
    exact X_iretA (pc := 90) X G35 hr hlk dX7_expand_90 (congrArg Prod.snd h42_i).symm hag31 (congrArg (fun q : BS × (Nat ⊕ Int32) => celB κ ad2 r0 q.1) h42_i) (Nat.le_of_ble_eq_true rfl) (Nat.le_of_ble_eq_true rfl)
  · have h22 := it_neg h16 (fun q => q hc20)
    refine lv_aload_n (pc := 37) X.1 X.2.1 dX7_expand_37 rfl (lv_at hl15 0 rfl) ?_
    refine B_getc (pc := 38) (i := 50) (k := 0) (j := 70) X G17 rfl clX7 (okL50 _) (by decide) rfl fl_X7_10 dX7_expand_38 ?_
    refine lv_dup (pc := 41) X.1 X.2.1 dX7_expand_41 rfl ?_
    refine B_geti (pc := 42) (i := 70) (k := 4) X G17 rfl clX5 (okL70 _) (by decide) rfl rfl fl_X7_104 dX7_expand_42 ?_
    refine lv_iconst (pc := 45) (v := 1) X.1 X.2.1 dX7_expand_45 (by decide) ?_
    refine lv_iadd (pc := 46) X.1 X.2.1 dX7_expand_46 ?_
    obtain ⟨b43, eb43, h44⟩ := bd_some h22
    refine B_puti (pc := 47) (i := 70) (k := 4) (v := ((b19.1 70 4) + 1)) X G17 eb43 rfl clX5 (okL70 _) (by decide) rfl rfl rfl rfl fl_X7_104 dX7_expand_47 (fun H locs G45 => ?_)
    have nb43 : b43.2.2 = b19.2.2 := by rw [eb43]; rfl
    refine lv_iconst (pc := 50) (v := (-1)) X.1 X.2.1 dX7_expand_50 (by decide) ?_
    have h44_i := Option.some.inj h44
    exact X_iretA (pc := 51) X G45 hr hlk dX7_expand_51 (congrArg Prod.snd h44_i).symm hag14 (congrArg (fun q : BS × (Nat ⊕ Int32) => celB κ ad1 r0 q.1) h44_i) (Nat.le_of_ble_eq_true rfl) (Nat.le_of_ble_eq_true rfl)

abbrev rm7_keep : Room := { frames := 7, cells := 6, slots := 41, locals := 142 }
noncomputable def F7_keep (b : BS) (p1 : Int32) : Option (BS × (Nat ⊕ Int32)) :=
  bx (F7_requireSlot p1) (fun u1 k2 => some (b, .inl k2)) fun u1 v3 =>
  pr (Gr b b) <|
  bn (F2_takeSnapshot b p1 70) fun b8 =>
  bn (F5_definedCount b8 70) fun x18 =>
  some (b8, .inr x18)
set_option maxHeartbeats 4000000 in
set_option maxRecDepth 100000 in
theorem c7_keep (l : Launch) (hfl : l.stackTraces = false) (D : va_G) (κ : Nat → ClassId) (A : Nat → Prop) (ad0 : Nat → Nat) (r0 : Nat → Option va_E) (b : BS) (p1 : Int32) (res : BS × (Nat ⊕ Int32)) (h : F7_keep b p1 = some res) : vx_Met l yX7_keep (gw yX7_keep cX7_keep 2 (some (FieldType.int))) rm7_keep (va_Pc [.ref (ad0 50), .int p1] (MW D κ A ad0 (celB κ ad0 r0 b))) (QIXA D A (fun ad' => Ag b.2.2 ad0 ad') (fun ad' => celB κ ad' r0 res.1) res.2) (XX D A ad0 (celB κ ad0 r0 res.1) res.2) 6 41 A := by
  refine met_ofX (own := RX7) (by decide +kernel) rfl (Nat.le_of_ble_eq_true rfl) ?_
  intro p e s m below meth c ls X hr hlk hout G hl
  have hl : lv_has ls 2 [(0, .ref (ad0 50)), (1, .int p1)] := hl
  unfold F7_keep at h
  refine lv_iload_n (pc := 0) X.1 X.2.1 dX7_keep_0 rfl (lv_at hl 1 rfl) ?_
  rcases bx_some h with ⟨u1, k2, e4, h5⟩ | ⟨u1, v3, e4, h6⟩
  · have h5_i := Option.some.inj h5
    exact X_tv (X_runS (pc := 1) (As := [.int p1]) (rest := []) (M' := (celB κ ad0 r0 b)) (r := (.inl k2 : Nat ⊕ Unit)) X G (rm := rm7_requireSlot) rfl rfl (c7_requireSlot l hfl D κ A ad0 (celB κ ad0 r0 b) p1 (u1, (.inl k2 : Nat ⊕ Unit)) e4) g_X7_153 hs_yX7_requireSlot ⟨Nat.le_of_ble_eq_true rfl, Nat.le_of_ble_eq_true rfl⟩ rfl hl rfl (lv_room (Nat.le_of_ble_eq_true rfl)) dX7_keep_1 ⟨Nat.le_of_ble_eq_true rfl, Nat.le_of_ble_eq_true rfl⟩) G hout hlk rfl (congrArg Prod.snd h5_i).symm (congrArg (fun q : BS × (Nat ⊕ Int32) => celB κ ad0 r0 q.1) h5_i) (Nat.le_of_ble_eq_true rfl) (Nat.le_of_ble_eq_true rfl)
  refine X_v (X_runS (pc := 1) (As := [.int p1]) (rest := []) (M' := (celB κ ad0 r0 b)) (r := (.inr v3 : Nat ⊕ Unit)) X G (rm := rm7_requireSlot) rfl rfl (c7_requireSlot l hfl D κ A ad0 (celB κ ad0 r0 b) p1 (u1, (.inr v3 : Nat ⊕ Unit)) e4) g_X7_153 hs_yX7_requireSlot ⟨Nat.le_of_ble_eq_true rfl, Nat.le_of_ble_eq_true rfl⟩ rfl hl rfl (lv_room (Nat.le_of_ble_eq_true rfl)) dX7_keep_1 ⟨Nat.le_of_ble_eq_true rfl, Nat.le_of_ble_eq_true rfl⟩) G rfl (fun H locs G7 => ?_)
  refine lv_aload_n (pc := 4) X.1 X.2.1 dX7_keep_4 rfl (lv_at hl 0 rfl) ?_
  refine B_getc (pc := 5) (i := 50) (k := 1) (j := 63) X G7 rfl clX7 (okL50 _) (by decide) rfl fl_X7_19 dX7_keep_5 ?_
  refine lv_iload_n (pc := 8) X.1 X.2.1 dX7_keep_8 rfl (lv_at hl 1 rfl) ?_
  refine lv_aload_n (pc := 9) X.1 X.2.1 dX7_keep_9 rfl (lv_at hl 0 rfl) ?_
  refine B_getc (pc := 10) (i := 50) (k := 0) (j := 70) X G7 rfl clX7 (okL50 _) (by decide) rfl fl_X7_10 dX7_keep_10 ?_
  obtain ⟨g10, h6_g⟩ := pr_some h6
  obtain ⟨b8, e11, h12⟩ := bn_some h6_g
  refine m_callvA (pc := 13) (i := 63) (As := [.int p1, .ref (ad0 70)]) (rest := []) X G7 rfl (rm := rm2_takeSnapshot) (c2_takeSnapshot l D κ A ad0 r0 b p1 70 b8 e11) (B_rcv (ci := 2) (okL63 _) (by decide)) rfl g_X7_156 hd_yX2_takeSnapshot ⟨Nat.le_of_ble_eq_true rfl, Nat.le_of_ble_eq_true rfl⟩ rfl hl rfl (lv_room (Nat.le_of_ble_eq_true rfl)) dX7_keep_13 ⟨Nat.le_of_ble_eq_true rfl, Nat.le_of_ble_eq_true rfl⟩ (fun ad1 H locs hA9 G13 => ?_)
  have hag14 : Ag b.2.2 ad0 ad1 := Ag.tr (Ag.rf _ _) g10 hA9
  have hl15 : lv_has ls 2 [(0, .ref (ad1 50)), (1, .int p1)] := by rw [hA9 50 (Or.inl (by decide))]; exact hl
  refine lv_aload_n (pc := 16) X.1 X.2.1 dX7_keep_16 rfl (lv_at hl15 0 rfl) ?_
  refine B_getc (pc := 17) (i := 50) (k := 0) (j := 70) X G13 rfl clX7 (okL50 _) (by decide) rfl fl_X7_10 dX7_keep_17 ?_
  obtain ⟨x18, ex18, h16⟩ := bn_some h12
  refine B_calli (pc := 20) (v := x18) (M' := (celB κ ad1 r0 b8)) (i := 70) (As := []) (rest := []) X G13 (rm := rm5_definedCount) rfl rfl rfl (c5_definedCount l D κ A ad1 r0 b8 70 x18 ex18) (B_rcv (ci := 5) (okL70 _) (by decide)) rfl g_X7_83 hd_yX5_definedCount ⟨Nat.le_of_ble_eq_true rfl, Nat.le_of_ble_eq_true rfl⟩ rfl hl15 rfl (lv_room (Nat.le_of_ble_eq_true rfl)) dX7_keep_20 ⟨Nat.le_of_ble_eq_true rfl, Nat.le_of_ble_eq_true rfl⟩ (fun H locs G17 => ?_)
  have h16_i := Option.some.inj h16
  exact X_iretA (pc := 23) X G17 hr hlk dX7_keep_23 (congrArg Prod.snd h16_i).symm hag14 (congrArg (fun q : BS × (Nat ⊕ Int32) => celB κ ad1 r0 q.1) h16_i) (Nat.le_of_ble_eq_true rfl) (Nat.le_of_ble_eq_true rfl)

abbrev rm7_goBack : Room := { frames := 7, cells := 6, slots := 41, locals := 141 }
noncomputable def F7_goBack (b : BS) (p1 : Int32) : Option (BS × (Nat ⊕ Int32)) :=
  bx (F7_requireSlot p1) (fun u1 k2 => some (b, .inl k2)) fun u1 v3 =>
  bn (F2_snapshotIn b p1) fun o10 =>
  on o10 (some (b, .inl 3)) fun t13 =>
  ck (okB b.2.2 t13 5) <|
  pr (Gr b b) <|
  bn (F2_saveState b 70) fun b20 =>
  bn (F5_copyFrom b20 70 t13) fun b32 =>
  bn (F5_definedCount b32 70) fun x35 =>
  some (b32, .inr x35)
set_option maxHeartbeats 4000000 in
set_option maxRecDepth 100000 in
theorem c7_goBack (l : Launch) (hfl : l.stackTraces = false) (D : va_G) (κ : Nat → ClassId) (A : Nat → Prop) (ad0 : Nat → Nat) (r0 : Nat → Option va_E) (b : BS) (p1 : Int32) (res : BS × (Nat ⊕ Int32)) (h : F7_goBack b p1 = some res) : vx_Met l yX7_goBack (gw yX7_goBack cX7_goBack 3 (some (FieldType.int))) rm7_goBack (va_Pc [.ref (ad0 50), .int p1] (MW D κ A ad0 (celB κ ad0 r0 b))) (QIXA D A (fun ad' => Ag b.2.2 ad0 ad') (fun ad' => celB κ ad' r0 res.1) res.2) (XX D A ad0 (celB κ ad0 r0 res.1) res.2) 6 41 A := by
  refine met_ofX (own := RX7) (by decide +kernel) rfl (Nat.le_of_ble_eq_true rfl) ?_
  intro p e s m below meth c ls X hr hlk hout G hl
  have hl : lv_has ls 3 [(0, .ref (ad0 50)), (1, .int p1)] := hl
  unfold F7_goBack at h
  refine lv_iload_n (pc := 0) X.1 X.2.1 dX7_goBack_0 rfl (lv_at hl 1 rfl) ?_
  rcases bx_some h with ⟨u1, k2, e4, h5⟩ | ⟨u1, v3, e4, h6⟩
  · have h5_i := Option.some.inj h5
    exact X_tv (X_runS (pc := 1) (As := [.int p1]) (rest := []) (M' := (celB κ ad0 r0 b)) (r := (.inl k2 : Nat ⊕ Unit)) X G (rm := rm7_requireSlot) rfl rfl (c7_requireSlot l hfl D κ A ad0 (celB κ ad0 r0 b) p1 (u1, (.inl k2 : Nat ⊕ Unit)) e4) g_X7_153 hs_yX7_requireSlot ⟨Nat.le_of_ble_eq_true rfl, Nat.le_of_ble_eq_true rfl⟩ rfl hl rfl (lv_room (Nat.le_of_ble_eq_true rfl)) dX7_goBack_1 ⟨Nat.le_of_ble_eq_true rfl, Nat.le_of_ble_eq_true rfl⟩) G hout hlk rfl (congrArg Prod.snd h5_i).symm (congrArg (fun q : BS × (Nat ⊕ Int32) => celB κ ad0 r0 q.1) h5_i) (Nat.le_of_ble_eq_true rfl) (Nat.le_of_ble_eq_true rfl)
  refine X_v (X_runS (pc := 1) (As := [.int p1]) (rest := []) (M' := (celB κ ad0 r0 b)) (r := (.inr v3 : Nat ⊕ Unit)) X G (rm := rm7_requireSlot) rfl rfl (c7_requireSlot l hfl D κ A ad0 (celB κ ad0 r0 b) p1 (u1, (.inr v3 : Nat ⊕ Unit)) e4) g_X7_153 hs_yX7_requireSlot ⟨Nat.le_of_ble_eq_true rfl, Nat.le_of_ble_eq_true rfl⟩ rfl hl rfl (lv_room (Nat.le_of_ble_eq_true rfl)) dX7_goBack_1 ⟨Nat.le_of_ble_eq_true rfl, Nat.le_of_ble_eq_true rfl⟩) G rfl (fun H locs G7 => ?_)
  refine lv_aload_n (pc := 4) X.1 X.2.1 dX7_goBack_4 rfl (lv_at hl 0 rfl) ?_
  refine B_getc (pc := 5) (i := 50) (k := 1) (j := 63) X G7 rfl clX7 (okL50 _) (by decide) rfl fl_X7_19 dX7_goBack_5 ?_
  refine lv_iload_n (pc := 8) X.1 X.2.1 dX7_goBack_8 rfl (lv_at hl 1 rfl) ?_
  obtain ⟨o10, eo10, h8⟩ := bn_some h6
  refine B_callq (pc := 9) (v := o10) (M' := (celB κ ad0 r0 b)) (i := 63) (As := [.int p1]) (rest := []) X G7 (rm := rm2_snapshotIn) rfl rfl rfl (c2_snapshotIn l D κ A ad0 r0 b p1 o10 eo10) (B_rcv (ci := 2) (okL63 _) (by decide)) rfl g_X7_160 hd_yX2_snapshotIn ⟨Nat.le_of_ble_eq_true rfl, Nat.le_of_ble_eq_true rfl⟩ rfl hl rfl (lv_room (Nat.le_of_ble_eq_true rfl)) dX7_goBack_9 ⟨Nat.le_of_ble_eq_true rfl, Nat.le_of_ble_eq_true rfl⟩ (fun H locs G9 => ?_)
  refine lq_astore_n (pc := 12) (lv' := [(2, va_rf (o10.map ad0)), (0, .ref (ad0 50)), (1, .int p1)]) X dX7_goBack_12 rfl hl (by decide) rfl (fun ls11 hl12 => ?_)
  refine lq_aload_n (pc := 13) X dX7_goBack_13 rfl (lv_at hl12 0 rfl) ?_
  rcases o10 with _ | t13
  · have h14 := on_n h8
    have hl16 : lv_has ls11 3 [(2, va_rf ((none : Option Nat).map ad0)), (0, .ref (ad0 50)), (1, .int p1)] := hl12
    refine lv_ifnonnullN (pc := 14) X.1 X.2.1 dX7_goBack_14 ?_
    have h14_i := Option.some.inj h14
    exact m_throwS (pc := 17) (k := 3) (is := 164) X G9 hfl (ik := 125) (ic := 129) (by decide) (List.mem_of_getElem? (i := 8) rfl) hl16 dX7_goBack_17 dX7_goBack_20 dX7_goBack_21 dX7_goBack_23 dX7_goBack_26 hout (Nat.le_of_ble_eq_true rfl) (Nat.le_of_ble_eq_true rfl) (Nat.le_of_ble_eq_true rfl) (Nat.le_of_ble_eq_true rfl) hlk (congrArg Prod.snd h14_i).symm (congrArg (fun q : BS × (Nat ⊕ Int32) => celB κ ad0 r0 q.1) h14_i) (Nat.le_of_ble_eq_true rfl) (Nat.le_of_ble_eq_true rfl)
  · have h15 := on_s h8
    have hl17 : lv_has ls11 3 [(2, .ref (ad0 t13)), (0, .ref (ad0 50)), (1, .int p1)] := hl12
    refine lv_ifnonnull (pc := 14) (tgt := 27) (x := ad0 t13) X.1 X.2.1 dX7_goBack_14 (by decide) ?_
    refine lv_aload_n (pc := 27) X.1 X.2.1 dX7_goBack_27 rfl (lv_at hl17 1 rfl) ?_
    refine B_getc (pc := 28) (i := 50) (k := 1) (j := 63) X G9 rfl clX7 (okL50 _) (by decide) rfl fl_X7_19 dX7_goBack_28 ?_
    refine lv_aload_n (pc := 31) X.1 X.2.1 dX7_goBack_31 rfl (lv_at hl17 1 rfl) ?_
    refine B_getc (pc := 32) (i := 50) (k := 0) (j := 70) X G9 rfl clX7 (okL50 _) (by decide) rfl fl_X7_10 dX7_goBack_32 ?_
    obtain ⟨ok26, h27⟩ := ck_some h15
    obtain ⟨g22, h27_g⟩ := pr_some h27
    obtain ⟨b20, e23, h24⟩ := bn_some h27_g
    refine m_callvA (pc := 35) (i := 63) (As := [.ref (ad0 70)]) (rest := []) X G9 rfl (rm := rm2_saveState) (c2_saveState l D κ A ad0 r0 b 70 b20 e23) (B_rcv (ci := 2) (okL63 _) (by decide)) rfl g_X7_59 hd_yX2_saveState ⟨Nat.le_of_ble_eq_true rfl, Nat.le_of_ble_eq_true rfl⟩ rfl hl17 rfl (lv_room (Nat.le_of_ble_eq_true rfl)) dX7_goBack_35 ⟨Nat.le_of_ble_eq_true rfl, Nat.le_of_ble_eq_true rfl⟩ (fun ad1 H locs hA21 G25 => ?_)
    have hag28 : Ag b.2.2 ad0 ad1 := Ag.tr (Ag.rf _ _) g22 hA21
    have hl29 : lv_has ls11 3 [(2, .ref (ad1 t13)), (0, .ref (ad1 50)), (1, .int p1)] := by rw [hA21 t13 (Or.inr (okB_1 ok26)), hA21 50 (Or.inl (by decide))]; exact hl17
    refine lv_aload_n (pc := 38) X.1 X.2.1 dX7_goBack_38 rfl (lv_at hl29 1 rfl) ?_
    refine B_getc (pc := 39) (i := 50) (k := 0) (j := 70) X G25 rfl clX7 (okL50 _) (by decide) rfl fl_X7_10 dX7_goBack_39 ?_
    refine lv_aload_n (pc := 42) X.1 X.2.1 dX7_goBack_42 rfl (lv_at hl29 0 rfl) ?_
    obtain ⟨b32, eb32, h30⟩ := bn_some h24
    refine B_callv (pc := 43) (M' := (celB κ ad1 r0 b32)) (i := 70) (As := [.ref (ad1 t13)]) (rest := []) X G25 (rm := rm5_copyFrom) rfl rfl rfl (c5_copyFrom l D κ A ad1 r0 b20 70 t13 b32 eb32) (B_rcv (ci := 5) (okL70 _) (by decide)) rfl g_X7_166 hd_yX5_copyFrom ⟨Nat.le_of_ble_eq_true rfl, Nat.le_of_ble_eq_true rfl⟩ rfl hl29 rfl (lv_room (Nat.le_of_ble_eq_true rfl)) dX7_goBack_43 ⟨Nat.le_of_ble_eq_true rfl, Nat.le_of_ble_eq_true rfl⟩ (fun H locs G31 => ?_)
    refine lv_aload_n (pc := 46) X.1 X.2.1 dX7_goBack_46 rfl (lv_at hl29 1 rfl) ?_
    refine B_getc (pc := 47) (i := 50) (k := 0) (j := 70) X G31 rfl clX7 (okL50 _) (by decide) rfl fl_X7_10 dX7_goBack_47 ?_
    obtain ⟨x35, ex35, h33⟩ := bn_some h30
    refine B_calli (pc := 50) (v := x35) (M' := (celB κ ad1 r0 b32)) (i := 70) (As := []) (rest := []) X G31 (rm := rm5_definedCount) rfl rfl rfl (c5_definedCount l D κ A ad1 r0 b32 70 x35 ex35) (B_rcv (ci := 5) (okL70 _) (by decide)) rfl g_X7_83 hd_yX5_definedCount ⟨Nat.le_of_ble_eq_true rfl, Nat.le_of_ble_eq_true rfl⟩ rfl hl29 rfl (lv_room (Nat.le_of_ble_eq_true rfl)) dX7_goBack_50 ⟨Nat.le_of_ble_eq_true rfl, Nat.le_of_ble_eq_true rfl⟩ (fun H locs G34 => ?_)
    have h33_i := Option.some.inj h33
    exact X_iretA (pc := 53) X G34 hr hlk dX7_goBack_53 (congrArg Prod.snd h33_i).symm hag28 (congrArg (fun q : BS × (Nat ⊕ Int32) => celB κ ad1 r0 q.1) h33_i) (Nat.le_of_ble_eq_true rfl) (Nat.le_of_ble_eq_true rfl)

abbrev rm7_define : Room := { frames := 7, cells := 9, slots := 114, locals := 141 }
noncomputable def F7_define (b : BS) (p1 : Int32) : Option (BS × (Nat ⊕ Int32)) :=
  bx (F7_requireLetter p1) (fun u1 k2 => some (b, .inl k2)) fun u1 v3 =>
  bx (F7_requireCompleteText b) (fun b8 k9 => some (b8, .inl k9)) fun b8 v10 =>
  pr (Gr b b8) <|
  bn (F2_saveState b8 70) fun b15 =>
  pr (Gr b b15 ∧ Closed b15) <|
  bd (nwT b15 (mmI 60 (b15.1 50 6)).toNatClampNeg (cutI (b15.1 51) 60)) fun b23 =>
  bn (F5_putDefinition b23 70 p1 (some (100 + 5 * b15.2.2 0))) fun b33 =>
  bd (setI b33 50 6 0) fun b34 =>
  ck (okB b34.2.2 (100 + 5 * b15.2.2 0) 6) <|
  some (b34, .inr (b34.1 (100 + 5 * b15.2.2 0) 1))
set_option maxHeartbeats 4000000 in
set_option maxRecDepth 100000 in
theorem c7_define (l : Launch) (hfl : l.stackTraces = false) (D : va_G) (κ : Nat → ClassId) (A : Nat → Prop) (ad0 : Nat → Nat) (r0 : Nat → Option va_E) (b : BS) (p1 : Int32) (res : BS × (Nat ⊕ Int32)) (h : F7_define b p1 = some res) : vx_Met l yX7_define (gw yX7_define cX7_define 3 (some (FieldType.int))) rm7_define (va_Pc [.ref (ad0 50), .int p1] (MW D κ A ad0 (celB κ ad0 r0 b))) (QIXA D A (fun ad' => Ag b.2.2 ad0 ad') (fun ad' => celB κ ad' r0 res.1) res.2) (XX D A ad0 (celB κ ad0 r0 res.1) res.2) 9 114 A := by
  refine met_ofX (own := RX7) (by decide +kernel) rfl (Nat.le_of_ble_eq_true rfl) ?_
  intro p e s m below meth c ls X hr hlk hout G hl
  have hl : lv_has ls 3 [(0, .ref (ad0 50)), (1, .int p1)] := hl
  unfold F7_define at h
  refine lv_iload_n (pc := 0) X.1 X.2.1 dX7_define_0 rfl (lv_at hl 1 rfl) ?_
  rcases bx_some h with ⟨u1, k2, e4, h5⟩ | ⟨u1, v3, e4, h6⟩
  · have h5_i := Option.some.inj h5
    exact X_tv (X_runS (pc := 1) (As := [.int p1]) (rest := []) (M' := (celB κ ad0 r0 b)) (r := (.inl k2 : Nat ⊕ Unit)) X G (rm := rm7_requireLetter) rfl rfl (c7_requireLetter l hfl D κ A ad0 (celB κ ad0 r0 b) p1 (u1, (.inl k2 : Nat ⊕ Unit)) e4) g_X7_52 hs_yX7_requireLetter ⟨Nat.le_of_ble_eq_true rfl, Nat.le_of_ble_eq_true rfl⟩ rfl hl rfl (lv_room (Nat.le_of_ble_eq_true rfl)) dX7_define_1 ⟨Nat.le_of_ble_eq_true rfl, Nat.le_of_ble_eq_true rfl⟩) G hout hlk rfl (congrArg Prod.snd h5_i).symm (congrArg (fun q : BS × (Nat ⊕ Int32) => celB κ ad0 r0 q.1) h5_i) (Nat.le_of_ble_eq_true rfl) (Nat.le_of_ble_eq_true rfl)
  refine X_v (X_runS (pc := 1) (As := [.int p1]) (rest := []) (M' := (celB κ ad0 r0 b)) (r := (.inr v3 : Nat ⊕ Unit)) X G (rm := rm7_requireLetter) rfl rfl (c7_requireLetter l hfl D κ A ad0 (celB κ ad0 r0 b) p1 (u1, (.inr v3 : Nat ⊕ Unit)) e4) g_X7_52 hs_yX7_requireLetter ⟨Nat.le_of_ble_eq_true rfl, Nat.le_of_ble_eq_true rfl⟩ rfl hl rfl (lv_room (Nat.le_of_ble_eq_true rfl)) dX7_define_1 ⟨Nat.le_of_ble_eq_true rfl, Nat.le_of_ble_eq_true rfl⟩) G rfl (fun H locs G7 => ?_)
  refine lv_aload_n (pc := 4) X.1 X.2.1 dX7_define_4 rfl (lv_at hl 0 rfl) ?_
  rcases bx_some h6 with ⟨b8, k9, e11, h12⟩ | ⟨b8, v10, e11, h13⟩
  · have h12_i := Option.some.inj h12
    exact X_tv (X_runV (pc := 5) (i := 50) (As := []) (rest := []) (M' := (celB κ ad0 r0 b8)) (r := (.inl k9 : Nat ⊕ Unit)) X G7 (rm := rm7_requireCompleteText) rfl rfl rfl (c7_requireCompleteText l hfl D κ A ad0 r0 b  (b8, (.inl k9 : Nat ⊕ Unit)) e11) (B_rcv (ci := 7) (okL50 _) (by decide)) rfl g_X7_56 hd_yX7_requireCompleteText ⟨Nat.le_of_ble_eq_true rfl, Nat.le_of_ble_eq_true rfl⟩ rfl hl rfl (lv_room (Nat.le_of_ble_eq_true rfl)) dX7_define_5 ⟨Nat.le_of_ble_eq_true rfl, Nat.le_of_ble_eq_true rfl⟩) G7 hout hlk rfl (congrArg Prod.snd h12_i).symm (congrArg (fun q : BS × (Nat ⊕ Int32) => celB κ ad0 r0 q.1) h12_i) (Nat.le_of_ble_eq_true rfl) (Nat.le_of_ble_eq_true rfl)
  refine X_v (X_runV (pc := 5) (i := 50) (As := []) (rest := []) (M' := (celB κ ad0 r0 b8)) (r := (.inr v10 : Nat ⊕ Unit)) X G7 (rm := rm7_requireCompleteText) rfl rfl rfl (c7_requireCompleteText l hfl D κ A ad0 r0 b  (b8, (.inr v10 : Nat ⊕ Unit)) e11) (B_rcv (ci := 7) (okL50 _) (by decide)) rfl g_X7_56 hd_yX7_requireCompleteText ⟨Nat.le_of_ble_eq_true rfl, Nat.le_of_ble_eq_true rfl⟩ rfl hl rfl (lv_room (Nat.le_of_ble_eq_true rfl)) dX7_define_5 ⟨Nat.le_of_ble_eq_true rfl, Nat.le_of_ble_eq_true rfl⟩) G7 rfl (fun H locs G14 => ?_)
  refine lv_aload_n (pc := 8) X.1 X.2.1 dX7_define_8 rfl (lv_at hl 0 rfl) ?_
  refine B_getc (pc := 9) (i := 50) (k := 1) (j := 63) X G14 rfl clX7 (okL50 _) (by decide) rfl fl_X7_19 dX7_define_9 ?_
  refine lv_aload_n (pc := 12) X.1 X.2.1 dX7_define_12 rfl (lv_at hl 0 rfl) ?_
  refine B_getc (pc := 13) (i := 50) (k := 0) (j := 70) X G14 rfl clX7 (okL50 _) (by decide) rfl fl_X7_10 dX7_define_13 ?_
  obtain ⟨g17, h13_g⟩ := pr_some h13
  obtain ⟨b15, e18, h19⟩ := bn_some h13_g
  refine m_callvA (pc := 16) (i := 63) (As := [.ref (ad0 70)]) (rest := []) X G14 rfl (rm := rm2_saveState) (c2_saveState l D κ A ad0 r0 b8 70 b15 e18) (B_rcv (ci := 2) (okL63 _) (by decide)) rfl g_X7_59 hd_yX2_saveState ⟨Nat.le_of_ble_eq_true rfl, Nat.le_of_ble_eq_true rfl⟩ rfl hl rfl (lv_room (Nat.le_of_ble_eq_true rfl)) dX7_define_16 ⟨Nat.le_of_ble_eq_true rfl, Nat.le_of_ble_eq_true rfl⟩ (fun ad1 H locs hA16 G20 => ?_)
  have hag21 : Ag b.2.2 ad0 ad1 := Ag.tr (Ag.rf _ _) g17 hA16
  have hl22 : lv_has ls 3 [(0, .ref (ad1 50)), (1, .int p1)] := by rw [hA16 50 (Or.inl (by decide))]; exact hl
  obtain ⟨g25, h19_g⟩ := pr_some h19
  obtain ⟨b23, eb23, h26⟩ := bd_some h19_g
  refine A_text X G20 g25.2 eb23 hl22 (Nat.le_of_ble_eq_true rfl) (Nat.le_of_ble_eq_true rfl) (Nat.le_of_ble_eq_true rfl) (Nat.le_of_ble_eq_true rfl) (fun ad2 H locs ls29 hA24 G27 hl30 => ?_)
  have hag28 : Ag b.2.2 ad0 ad2 := Ag.tr hag21 g25.1 hA24
  refine lv_aload_n (pc := 35) X.1 X.2.1 dX7_define_35 rfl (lv_at hl30 1 rfl) ?_
  refine B_getc (pc := 36) (i := 50) (k := 0) (j := 70) X G27 rfl clX7 (okL50 _) (by decide) rfl fl_X7_10 dX7_define_36 ?_
  refine lv_iload_n (pc := 39) X.1 X.2.1 dX7_define_39 rfl (lv_at hl30 2 rfl) ?_
  refine lv_aload_n (pc := 40) X.1 X.2.1 dX7_define_40 rfl (lv_at hl30 0 rfl) ?_
  obtain ⟨b33, eb33, h31⟩ := bn_some h26
  refine B_callv (pc := 41) (M' := (celB κ ad2 r0 b33)) (i := 70) (As := [.int p1, va_rf ((some (100 + 5 * b15.2.2 0)).map ad2)]) (rest := []) X G27 (rm := rm5_putDefinition) rfl rfl rfl (c5_putDefinition l D κ A ad2 r0 b23 70 p1 (some (100 + 5 * b15.2.2 0)) b33 eb33) (B_rcv (ci := 5) (okL70 _) (by decide)) rfl g_X7_72 hd_yX5_putDefinition ⟨Nat.le_of_ble_eq_true rfl, Nat.le_of_ble_eq_true rfl⟩ rfl hl30 rfl (lv_room (Nat.le_of_ble_eq_true rfl)) dX7_define_41 ⟨Nat.le_of_ble_eq_true rfl, Nat.le_of_ble_eq_true rfl⟩ (fun H locs G32 => ?_)
  refine lv_aload_n (pc := 44) X.1 X.2.1 dX7_define_44 rfl (lv_at hl30 1 rfl) ?_
  refine lv_iconst (pc := 45) (v := 0) X.1 X.2.1 dX7_define_45 (by decide) ?_
  obtain ⟨b34, eb34, h35⟩ := bd_some h31
  refine B_puti (pc := 46) (i := 50) (k := 6) (v := 0) X G32 eb34 rfl clX7 (okL50 _) (by decide) rfl rfl rfl rfl fl_X7_48 dX7_define_46 (fun H locs G36 => ?_)
  have nb34 : b34.2.2 = b33.2.2 := by rw [eb34]; rfl
  refine lv_aload_n (pc := 49) X.1 X.2.1 dX7_define_49 rfl (lv_at hl30 0 rfl) ?_
  obtain ⟨ok37, h38⟩ := ck_some h35
  refine B_geti (pc := 50) (i := (100 + 5 * b15.2.2 0)) (k := 1) X G36 rfl clX6 ok37 (by decide) rfl rfl fl_X7_76 dX7_define_50 ?_
  have h38_i := Option.some.inj h38
  exact X_iretA (pc := 53) X G36 hr hlk dX7_define_53 (congrArg Prod.snd h38_i).symm hag28 (congrArg (fun q : BS × (Nat ⊕ Int32) => celB κ ad2 r0 q.1) h38_i) (Nat.le_of_ble_eq_true rfl) (Nat.le_of_ble_eq_true rfl)
