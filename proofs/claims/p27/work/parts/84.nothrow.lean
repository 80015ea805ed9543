/-! THE CLASS'S FACE FOR CALLS THAT DO NOT THROW, laid by wip/p27/walkn.py -/

section N0
variable {p : Program} {l : Launch} {e : Env} {R : Room} {s : State} {m : MethodId} {args : Array Value} {below : List Frame} {meth : Method} {c : Code} {H : Heap} {locs : List Loc} {cells slots : Nat} {Q : State → Prop}
variable {cc : ByteArray} {pc nL : Nat} {ls : Array Slot} {rest : List Value} {D : va_G} {κ : Nat → ClassId} {A : Nat → Prop} {ad : Nat → Nat} {own : String} {lv : List (Nat × Value)} {M M' : Nat → Option va_E}
theorem m_callsv0 (X : CallFix p m c cc nL s args G0 own) (G : Mm D κ A ad M s H locs) {n index maxL : Nat} {As st : List Value} {y : MethodName} {b : ByteArray} {rm : Room} (h0 : rm.cells = 0) (h1 : rm.slots = 0)
    (hM : Met l y (gw y b maxL none) rm (va_Pc As (MW D κ A ad M)) (QV D κ A ad M) 0 0 A) (hG : GoodIn G0 (va_wsS own index y (gw y b maxL none)))
    (hd : y.cls ≠ "java/lang/invoke/MethodHandle" ∧ y.cls ≠ "java/lang/invoke/VarHandle" ∧ (parseMethodDescriptor y.desc).map (fun d => d.parameters.length) = some n) (hR : rm.frames + 1 ≤ R.frames ∧ 8 + (maxL + 11) + rm.locals ≤ R.locals) (hn : As.length = n) (hl : lv_has ls nL lv) (hst : st = As.reverse ++ rest) (hW : 2 * (F0 m pc ls st).monitorRoom + (rest.map fun v => v.category).sum ≤ 8) (hdg : decode cc pc = .ok (.invokestatic index, 3)) (hf : cells ≤ R.cells ∧ slots ≤ R.slots)
    (kk : ∀ (H : Heap) (locs : List Loc), Mm D κ A ad M s H locs → W p l e R s m args below meth c H locs cells slots Q (F0 m (pc + 3) ls rest)) : W p l e R s m args below meth c H locs cells slots Q (F0 m pc ls st) := by
  have hM' : Met l y (gw y b maxL none) rm (va_Pc As (MW D κ A ad M)) (QV D κ A ad M) rm.cells rm.slots A := by rw [h0, h1]; exact hM
  refine va_callv (va_runS X hM' (va_cwS n X.2.2.2.2 hG rfl rfl rfl hd hR) ⟨fun a U g mk q => ⟨q.1, q.2.blind⟩, fun U hU hW => ⟨rfl, m_pre G hU hW⟩⟩ rfl hn hl.1 hst hW hdg (by rw [h0, h1]; exact hf)) G.2.2.2.2.1 (fun q _ h => h) (fun q h => h) (fun u t H1 locs1 ht hvm hw hB hz hk hS => ?_)
  rw [h0, h1]
  exact kk H1 locs1 (G.next hB ht hS)
end N0
abbrev rmn7_requireLetter : Room := { frames := 6, cells := 0, slots := 0, locals := 82 }
set_option maxHeartbeats 4000000 in
set_option maxRecDepth 100000 in
theorem n7_requireLetter (l : Launch) (D : va_G) (κ : Nat → ClassId) (A : Nat → Prop) (ad : Nat → Nat) (M : Nat → Option va_E) (p0 : Int32) (h : F7_requireLetter p0 = some ((), .inr ())) : Met l yX7_requireLetter (gw yX7_requireLetter cX7_requireLetter 1 none) rmn7_requireLetter (va_Pc [.int p0] (MW D κ A ad M)) (QV D κ A ad M) 0 0 A := by
  refine met_of (own := RX7) (by decide +kernel) rfl (Nat.le_of_ble_eq_true rfl) ?_
  intro p e s m below meth c ls X hr hlk G hl
  have hl : lv_has ls 1 [(0, .int p0)] := hl
  unfold F7_requireLetter at h
  refine lv_iload_n (pc := 0) X.1 X.2.1 dX7_requireLetter_0 rfl (lv_at hl 0 rfl) ?_
  obtain ⟨x1, ex1, h2⟩ := bn_some h
  refine m_callsi0 (pc := 1) (v := x1) (As := [.int p0]) (rest := []) X G (rm := rm7_isLetter) rfl rfl (c7_isLetter l D κ A ad M p0 x1 ex1) g_X7_248 hs_yX7_isLetter ⟨Nat.le_of_ble_eq_true rfl, Nat.le_of_ble_eq_true rfl⟩ rfl hl rfl (lv_room (Nat.le_of_ble_eq_true rfl)) dX7_requireLetter_1 ⟨Nat.le_of_ble_eq_true rfl, Nat.le_of_ble_eq_true rfl⟩ (fun H locs G3 => ?_)
  refine lv_if_ne (pc := 4) (tgt := 17) X.1 X.2.1 dX7_requireLetter_4 (by decide) (fun hc4 => ?_) (fun hc4 => ?_)
  · have h5 := it_pos h2 hc4
    have h5_i := Option.some.inj h5
    exact m_vret (pc := 17) X G3 hr hlk dX7_requireLetter_17 rfl
  · have h6 := it_neg h2 (fun q => q hc4)
    exact nomatch (show (Sum.inl 1 : Nat ⊕ Unit) = Sum.inr _ from congrArg Prod.snd (Option.some.inj h6))

abbrev rmn7_requireWhat : Room := { frames := 6, cells := 0, slots := 0, locals := 82 }
set_option maxHeartbeats 4000000 in
set_option maxRecDepth 100000 in
theorem n7_requireWhat (l : Launch) (D : va_G) (κ : Nat → ClassId) (A : Nat → Prop) (ad : Nat → Nat) (M : Nat → Option va_E) (p0 : Int32) (p1 : Int32) (h : F7_requireWhat p0 p1 = some ((), .inr ())) : Met l yX7_requireWhat (gw yX7_requireWhat cX7_requireWhat 2 none) rmn7_requireWhat (va_Pc [.int p0, .int p1] (MW D κ A ad M)) (QV D κ A ad M) 0 0 A := by
  refine met_of (own := RX7) (by decide +kernel) rfl (Nat.le_of_ble_eq_true rfl) ?_
  intro p e s m below meth c ls X hr hlk G hl
  have hl : lv_has ls 2 [(0, .int p0), (1, .int p1)] := hl
  unfold F7_requireWhat at h
  refine lv_iload_n (pc := 0) X.1 X.2.1 dX7_requireWhat_0 rfl (lv_at hl 0 rfl) ?_
  obtain ⟨k1, ek1, h2⟩ := jp_some h
  have hk1 : ∀  (H : Heap) (locs : List Loc) (ls : Array Slot), k1 () = some ((), .inr ()) → Mm D κ A ad M s H locs → lv_has ls 2 [] → W p l e rmn7_requireWhat s m [.int p0, .int p1].toArray below meth c H locs 0 0 (MQ below (QV D κ A ad M) [.int p0, .int p1].toArray s 0 0 A) (F0 m 9 ls []) := by
    intro  H locs ls12 h9 G10 hl11
    rw [ek1] at h9
    try dsimp only at h9
    exact nomatch (show (Sum.inl 2 : Nat ⊕ Unit) = Sum.inr _ from congrArg Prod.snd (Option.some.inj h9))
  refine lv_if_lt (pc := 1) (tgt := 9) X.1 X.2.1 dX7_requireWhat_1 (by decide) (fun hc3 => ?_) (fun hc3 => ?_)
  · have h4 := it_pos h2 hc3
    exact hk1  _ _ ls h4 G (lv_sub hl [] rfl)
  · have h5 := it_neg h2 hc3
    refine lv_iload_n (pc := 4) X.1 X.2.1 dX7_requireWhat_4 rfl (lv_at hl 0 rfl) ?_
    refine lv_iload_n (pc := 5) X.1 X.2.1 dX7_requireWhat_5 rfl (lv_at hl 1 rfl) ?_
    refine lv_icmp_le (pc := 6) (tgt := 20) X.1 X.2.1 dX7_requireWhat_6 (by decide) (fun hc6 => ?_) (fun hc6 => ?_)
    · have h7 := it_pos h5 hc6
      have h7_i := Option.some.inj h7
      exact m_vret (pc := 20) X G hr hlk dX7_requireWhat_20 rfl
    · have h8 := it_neg h5 hc6
      exact hk1  _ _ ls h8 G (lv_sub hl [] rfl)

abbrev rmn7_requireDefinition : Room := { frames := 6, cells := 0, slots := 0, locals := 82 }
set_option maxHeartbeats 4000000 in
set_option maxRecDepth 100000 in
theorem n7_requireDefinition (l : Launch) (D : va_G) (κ : Nat → ClassId) (A : Nat → Prop) (ad : Nat → Nat) (r0 : Nat → Option va_E) (b : BS) (p0 : Int32) (res : BS × Option Nat) (h : F7_requireDefinition b p0 = some (res.1, .inr res.2)) : Met l yX7_requireDefinition (gw yX7_requireDefinition cX7_requireDefinition 3 (some ((FieldType.object "AbbreviationBook$Text")))) rmn7_requireDefinition (va_Pc [.ref (ad 50), .int p0] (MW D κ A ad (celB κ ad r0 b))) (QR D κ A ad (celB κ ad r0 res.1) res.2) 0 0 A := by
  refine met_of (own := RX7) (by decide +kernel) rfl (Nat.le_of_ble_eq_true rfl) ?_
  intro p e s m below meth c ls X hr hlk G hl
  have hl : lv_has ls 3 [(0, .ref (ad 50)), (1, .int p0)] := hl
  unfold F7_requireDefinition at h
  refine lv_aload_n (pc := 0) X.1 X.2.1 dX7_requireDefinition_0 rfl (lv_at hl 0 rfl) ?_
  refine B_getc (pc := 1) (i := 50) (k := 0) (j := 70) X G rfl clX7 (okL50 _) (by decide) rfl fl_X7_10 dX7_requireDefinition_1 ?_
  refine lv_iload_n (pc := 4) X.1 X.2.1 dX7_requireDefinition_4 rfl (lv_at hl 1 rfl) ?_
  obtain ⟨o3, eo3, h1⟩ := bn_some h
  refine B_callq (pc := 5) (v := o3) (M' := (celB κ ad r0 b)) (i := 70) (As := [.int p0]) (rest := []) X G (rm := rm5_definitionOf) rfl rfl rfl (c5_definitionOf l D κ A ad r0 b 70 p0 o3 eo3) (B_rcv (ci := 5) (okL70 _) (by decide)) rfl g_X7_87 hd_yX5_definitionOf ⟨Nat.le_of_ble_eq_true rfl, Nat.le_of_ble_eq_true rfl⟩ rfl hl rfl (lv_room (Nat.le_of_ble_eq_true rfl)) dX7_requireDefinition_5 ⟨Nat.le_of_ble_eq_true rfl, Nat.le_of_ble_eq_true rfl⟩ (fun H locs G2 => ?_)
  refine lq_astore_n (pc := 8) (lv' := [(2, va_rf (o3.map ad)), (0, .ref (ad 50)), (1, .int p0)]) X dX7_requireDefinition_8 rfl hl (by decide) rfl (fun ls4 hl5 => ?_)
  refine lq_aload_n (pc := 9) X dX7_requireDefinition_9 rfl (lv_at hl5 0 rfl) ?_
  rcases o3 with _ | t6
  · have h7 := on_n h1
    have hl9 : lv_has ls4 3 [(2, va_rf ((none : Option Nat).map ad)), (0, .ref (ad 50)), (1, .int p0)] := hl5
    refine lv_ifnonnullN (pc := 10) X.1 X.2.1 dX7_requireDefinition_10 ?_
    exact nomatch (show (Sum.inl 3 : Nat ⊕ Option Nat) = Sum.inr _ from congrArg Prod.snd (Option.some.inj h7))
  · have h8 := on_s h1
    have hl10 : lv_has ls4 3 [(2, .ref (ad t6)), (0, .ref (ad 50)), (1, .int p0)] := hl5
    refine lv_ifnonnull (pc := 10) (tgt := 24) (x := ad t6) X.1 X.2.1 dX7_requireDefinition_10 (by decide) ?_
    refine lv_aload_n (pc := 24) X.1 X.2.1 dX7_requireDefinition_24 rfl (lv_at hl10 0 rfl) ?_
    have h8_i := Option.some.inj h8
    exact m_aret (pc := 25) (x := (some t6)) X G2 hr (Or.inl ⟨_, rfl⟩) hlk dX7_requireDefinition_25 (Sum.inr.inj (congrArg Prod.snd h8_i)) (congrArg (fun q : BS × (Nat ⊕ Option Nat) => celB κ ad r0 q.1) h8_i)

abbrev rmn7_requireCompleteText : Room := { frames := 6, cells := 0, slots := 0, locals := 82 }
set_option maxHeartbeats 4000000 in
set_option maxRecDepth 100000 in
theorem n7_requireCompleteText (l : Launch) (D : va_G) (κ : Nat → ClassId) (A : Nat → Prop) (ad : Nat → Nat) (r0 : Nat → Option va_E) (b : BS)  (res : BS) (h : F7_requireCompleteText b  = some (res, .inr ())) : Met l yX7_requireCompleteText (gw yX7_requireCompleteText cX7_requireCompleteText 1 none) rmn7_requireCompleteText (va_Pc [.ref (ad 50)] (MW D κ A ad (celB κ ad r0 b))) (QV D κ A ad (celB κ ad r0 res)) 0 0 A := by
  refine met_of (own := RX7) (by decide +kernel) rfl (Nat.le_of_ble_eq_true rfl) ?_
  intro p e s m below meth c ls X hr hlk G hl
  have hl : lv_has ls 1 [(0, .ref (ad 50))] := hl
  unfold F7_requireCompleteText at h
  refine lv_aload_n (pc := 0) X.1 X.2.1 dX7_requireCompleteText_0 rfl (lv_at hl 0 rfl) ?_
  refine B_getc (pc := 1) (i := 50) (k := 3) (j := 52) X G rfl clX7 (okL50 _) (by decide) rfl fl_X7_30 dX7_requireCompleteText_1 ?_
  refine lv_aload_n (pc := 4) X.1 X.2.1 dX7_requireCompleteText_4 rfl (lv_at hl 0 rfl) ?_
  refine B_getc (pc := 5) (i := 50) (k := 2) (j := 51) X G rfl clX7 (okL50 _) (by decide) rfl fl_X7_23 dX7_requireCompleteText_5 ?_
  refine lv_aload_n (pc := 8) X.1 X.2.1 dX7_requireCompleteText_8 rfl (lv_at hl 0 rfl) ?_
  refine B_geti (pc := 9) (i := 50) (k := 6) X G rfl clX7 (okL50 _) (by decide) rfl rfl fl_X7_48 dX7_requireCompleteText_9 ?_
  obtain ⟨b3, eb3, h1⟩ := bn_some h
  refine B_callv (pc := 12) (M' := (celB κ ad r0 b3)) (i := 52) (As := [.ref (ad 51), .int (b.1 50 6)]) (rest := []) X G (rm := rm4_readText) rfl rfl rfl (c4_readText l D κ A ad r0 b 51 (b.1 50 6) b3 eb3) (B_rcv (ci := 4) (okL52 _) (by decide)) rfl g_X7_130 hd_yX4_readText ⟨Nat.le_of_ble_eq_true rfl, Nat.le_of_ble_eq_true rfl⟩ rfl hl rfl (lv_room (Nat.le_of_ble_eq_true rfl)) dX7_requireCompleteText_12 ⟨Nat.le_of_ble_eq_true rfl, Nat.le_of_ble_eq_true rfl⟩ (fun H locs G2 => ?_)
  refine lv_aload_n (pc := 15) X.1 X.2.1 dX7_requireCompleteText_15 rfl (lv_at hl 0 rfl) ?_
  refine B_getc (pc := 16) (i := 50) (k := 3) (j := 52) X G2 rfl clX7 (okL50 _) (by decide) rfl fl_X7_30 dX7_requireCompleteText_16 ?_
  obtain ⟨x6, ex6, h4⟩ := bn_some h1
  refine B_calli (pc := 19) (v := x6) (M' := (celB κ ad r0 b3)) (i := 52) (As := []) (rest := []) X G2 (rm := rm4_isComplete) rfl rfl rfl (c4_isComplete l D κ A ad r0 b3 x6 ex6) (B_rcv (ci := 4) (okL52 _) (by decide)) rfl g_X7_272 hd_yX4_isComplete ⟨Nat.le_of_ble_eq_true rfl, Nat.le_of_ble_eq_true rfl⟩ rfl hl rfl (lv_room (Nat.le_of_ble_eq_true rfl)) dX7_requireCompleteText_19 ⟨Nat.le_of_ble_eq_true rfl, Nat.le_of_ble_eq_true rfl⟩ (fun H locs G5 => ?_)
  refine lv_if_ne (pc := 22) (tgt := 36) X.1 X.2.1 dX7_requireCompleteText_22 (by decide) (fun hc7 => ?_) (fun hc7 => ?_)
  · have h8 := it_pos h4 hc7
    have h8_i := Option.some.inj h8
    exact m_vret (pc := 36) X G5 hr hlk dX7_requireCompleteText_36 (congrArg (fun q : BS × (Nat ⊕ Unit) => celB κ ad r0 q.1) h8_i)
  · have h9 := it_neg h4 (fun q => q hc7)
    exact nomatch (show (Sum.inl 2 : Nat ⊕ Unit) = Sum.inr _ from congrArg Prod.snd (Option.some.inj h9))

abbrev rmn7_append : Room := { frames := 6, cells := 0, slots := 0, locals := 82 }
set_option maxHeartbeats 4000000 in
set_option maxRecDepth 100000 in
theorem n7_append (l : Launch) (D : va_G) (κ : Nat → ClassId) (A : Nat → Prop) (ad : Nat → Nat) (r0 : Nat → Option va_E) (b : BS) (p0 : Int32) (res : BS × Int32) (h : F7_append b p0 = some (res.1, .inr res.2)) : Met l yX7_append (gw yX7_append cX7_append 2 (some (FieldType.int))) rmn7_append (va_Pc [.ref (ad 50), .int p0] (MW D κ A ad (celB κ ad r0 b))) (QI D κ A ad (celB κ ad r0 res.1) res.2) 0 0 A := by
  refine met_of (own := RX7) (by decide +kernel) rfl (Nat.le_of_ble_eq_true rfl) ?_
  intro p e s m below meth c ls X hr hlk G hl
  have hl : lv_has ls 2 [(0, .ref (ad 50)), (1, .int p0)] := hl
  unfold F7_append at h
  refine lv_iload_n (pc := 0) X.1 X.2.1 dX7_append_0 rfl (lv_at hl 1 rfl) ?_
  refine lv_bipush (pc := 1) (v := 33) X.1 X.2.1 dX7_append_1 (by decide) ?_
  obtain ⟨k1, ek1, h2⟩ := jp_some h
  have hk1 : ∀  (H : Heap) (locs : List Loc) (ls : Array Slot), k1 () = some (res.1, .inr res.2) → Mm D κ A ad (celB κ ad r0 b) s H locs → lv_has ls 2 [] → W p l e rmn7_append s m [.ref (ad 50), .int p0].toArray below meth c H locs 0 0 (MQ below (QI D κ A ad (celB κ ad r0 res.1) res.2) [.ref (ad 50), .int p0].toArray s 0 0 A) (F0 m 12 ls []) := by
    intro  H locs ls30 h27 G28 hl29
    rw [ek1] at h27
    try dsimp only at h27
    exact nomatch (show (Sum.inl 2 : Nat ⊕ Int32) = Sum.inr _ from congrArg Prod.snd (Option.some.inj h27))
  refine lv_icmp_lt (pc := 3) (tgt := 12) X.1 X.2.1 dX7_append_3 (by decide) (fun hc3 => ?_) (fun hc3 => ?_)
  · have h4 := it_pos h2 hc3
    exact hk1  _ _ ls h4 G (lv_sub hl [] rfl)
  · have h5 := it_neg h2 hc3
    refine lv_iload_n (pc := 6) X.1 X.2.1 dX7_append_6 rfl (lv_at hl 1 rfl) ?_
    refine lv_bipush (pc := 7) (v := 126) X.1 X.2.1 dX7_append_7 (by decide) ?_
    refine lv_icmp_le (pc := 9) (tgt := 22) X.1 X.2.1 dX7_append_9 (by decide) (fun hc6 => ?_) (fun hc6 => ?_)
    · have h7 := it_pos h5 hc6
      refine lv_aload_n (pc := 22) X.1 X.2.1 dX7_append_22 rfl (lv_at hl 0 rfl) ?_
      refine B_geti (pc := 23) (i := 50) (k := 6) X G rfl clX7 (okL50 _) (by decide) rfl rfl fl_X7_48 dX7_append_23 ?_
      obtain ⟨k9, ek9, h10⟩ := jp_some h7
      have hk9 : ∀  (H : Heap) (locs : List Loc) (ls : Array Slot), k9 () = some (res.1, .inr res.2) → Mm D κ A ad (celB κ ad r0 b) s H locs → lv_has ls 2 [] → W p l e rmn7_append s m [.ref (ad 50), .int p0].toArray below meth c H locs 0 0 (MQ below (QI D κ A ad (celB κ ad r0 res.1) res.2) [.ref (ad 50), .int p0].toArray s 0 0 A) (F0 m 41 ls []) := by
        intro  H locs ls26 h23 G24 hl25
        rw [ek9] at h23
        try dsimp only at h23
        exact nomatch (show (Sum.inl 3 : Nat ⊕ Int32) = Sum.inr _ from congrArg Prod.snd (Option.some.inj h23))
      refine lv_if_lt (pc := 26) (tgt := 41) X.1 X.2.1 dX7_append_26 (by decide) (fun hc11 => ?_) (fun hc11 => ?_)
      · have h12 := it_pos h10 hc11
        exact hk9  _ _ ls h12 G (lv_sub hl [] rfl)
      · have h13 := it_neg h10 hc11
        refine lv_aload_n (pc := 29) X.1 X.2.1 dX7_append_29 rfl (lv_at hl 0 rfl) ?_
        refine B_geti (pc := 30) (i := 50) (k := 6) X G rfl clX7 (okL50 _) (by decide) rfl rfl fl_X7_48 dX7_append_30 ?_
        refine lv_aload_n (pc := 33) X.1 X.2.1 dX7_append_33 rfl (lv_at hl 0 rfl) ?_
        refine B_getc (pc := 34) (i := 50) (k := 2) (j := 51) X G rfl clX7 (okL50 _) (by decide) rfl fl_X7_23 dX7_append_34 ?_
        refine B_alen (pc := 37) (i := 51) (n := 60) X G rfl (okL51 _) rfl dX7_append_37 ?_
        refine lv_icmp_lt (pc := 38) (tgt := 51) X.1 X.2.1 dX7_append_38 (by decide) (fun hc14 => ?_) (fun hc14 => ?_)
        · have h15 := it_pos h13 hc14
          refine lv_aload_n (pc := 51) X.1 X.2.1 dX7_append_51 rfl (lv_at hl 0 rfl) ?_
          refine B_getc (pc := 52) (i := 50) (k := 2) (j := 51) X G rfl clX7 (okL50 _) (by decide) rfl fl_X7_23 dX7_append_52 ?_
          refine lv_aload_n (pc := 55) X.1 X.2.1 dX7_append_55 rfl (lv_at hl 0 rfl) ?_
          refine B_geti (pc := 56) (i := 50) (k := 6) X G rfl clX7 (okL50 _) (by decide) rfl rfl fl_X7_48 dX7_append_56 ?_
          refine lv_iload_n (pc := 59) X.1 X.2.1 dX7_append_59 rfl (lv_at hl 1 rfl) ?_
          obtain ⟨hib17, b17, eb17, h18⟩ := wb_some h15
          refine B_iast (pc := 60) (i := 51) (n := 60) X G eb17 rfl (okL51 _) rfl hib17 dX7_append_60 (fun H locs G19 => ?_)
          have nb17 : b17.2.2 = b.2.2 := by rw [eb17]; rfl
          refine lv_aload_n (pc := 61) X.1 X.2.1 dX7_append_61 rfl (lv_at hl 0 rfl) ?_
          refine lv_dup (pc := 62) X.1 X.2.1 dX7_append_62 rfl ?_
          refine B_geti (pc := 63) (i := 50) (k := 6) X G19 rfl clX7 (okL50 _) (by decide) rfl rfl fl_X7_48 dX7_append_63 ?_
          refine lv_iconst (pc := 66) (v := 1) X.1 X.2.1 dX7_append_66 (by decide) ?_
          refine lv_iadd (pc := 67) X.1 X.2.1 dX7_append_67 ?_
          obtain ⟨b20, eb20, h21⟩ := bd_some h18
          refine B_puti (pc := 68) (i := 50) (k := 6) (v := ((b17.1 50 6) + 1)) X G19 eb20 rfl clX7 (okL50 _) (by decide) rfl rfl rfl rfl fl_X7_48 dX7_append_68 (fun H locs G22 => ?_)
          have nb20 : b20.2.2 = b17.2.2 := by rw [eb20]; rfl
          refine lv_aload_n (pc := 71) X.1 X.2.1 dX7_append_71 rfl (lv_at hl 0 rfl) ?_
          refine B_geti (pc := 72) (i := 50) (k := 6) X G22 rfl clX7 (okL50 _) (by decide) rfl rfl fl_X7_48 dX7_append_72 ?_
          have h21_i := Option.some.inj h21
          exact m_iret (pc := 75) X G22 hr hlk dX7_append_75 (Sum.inr.inj (congrArg Prod.snd h21_i)) (congrArg (fun q : BS × (Nat ⊕ Int32) => celB κ ad r0 q.1) h21_i)
        · have h16 := it_neg h13 hc14
          exact hk9  _ _ ls h16 G (lv_sub hl [] rfl)
    · have h8 := it_neg h5 hc6
      exact hk1  _ _ ls h8 G (lv_sub hl [] rfl)

abbrev rmn7_body : Room := { frames := 7, cells := 0, slots := 0, locals := 103 }
set_option maxHeartbeats 4000000 in
set_option maxRecDepth 100000 in
theorem n7_body (l : Launch) (D : va_G) (κ : Nat → ClassId) (A : Nat → Prop) (ad : Nat → Nat) (r0 : Nat → Option va_E) (b : BS) (p0 : Int32) (p1 : Int32) (res : BS × Int32) (h : F7_body b p0 p1 = some (res.1, .inr res.2)) : Met l yX7_body (gw yX7_body cX7_body 4 (some (FieldType.int))) rmn7_body (va_Pc [.ref (ad 50), .int p0, .int p1] (MW D κ A ad (celB κ ad r0 b))) (QI D κ A ad (celB κ ad r0 res.1) res.2) 0 0 A := by
  refine met_of (own := RX7) (by decide +kernel) rfl (Nat.le_of_ble_eq_true rfl) ?_
  intro p e s m below meth c ls X hr hlk G hl
  have hl : lv_has ls 4 [(0, .ref (ad 50)), (1, .int p0), (2, .int p1)] := hl
  unfold F7_body at h
  refine lv_iload_n (pc := 0) X.1 X.2.1 dX7_body_0 rfl (lv_at hl 1 rfl) ?_
  rcases bx_some h with ⟨u1, k2, e4, h5⟩ | ⟨u1, v3, e4, h6⟩
  · exact nomatch (show (Sum.inl k2 : Nat ⊕ Int32) = Sum.inr _ from congrArg Prod.snd (Option.some.inj h5))
  refine m_callsv0 (pc := 1) (As := [.int p0]) (rest := []) X G (rm := rmn7_requireLetter) rfl rfl (n7_requireLetter l D κ A ad (celB κ ad r0 b) p0 e4) g_X7_52 hs_yX7_requireLetter ⟨Nat.le_of_ble_eq_true rfl, Nat.le_of_ble_eq_true rfl⟩ rfl hl rfl (lv_room (Nat.le_of_ble_eq_true rfl)) dX7_body_1 ⟨Nat.le_of_ble_eq_true rfl, Nat.le_of_ble_eq_true rfl⟩ (fun H locs G7 => ?_)
  refine lv_iload_n (pc := 4) X.1 X.2.1 dX7_body_4 rfl (lv_at hl 2 rfl) ?_
  refine lv_iconst (pc := 5) (v := 5) X.1 X.2.1 dX7_body_5 (by decide) ?_
  rcases bx_some h6 with ⟨u8, k9, e11, h12⟩ | ⟨u8, v10, e11, h13⟩
  · exact nomatch (show (Sum.inl k9 : Nat ⊕ Int32) = Sum.inr _ from congrArg Prod.snd (Option.some.inj h12))
  refine m_callsv0 (pc := 6) (As := [.int p1, .int 5]) (rest := []) X G7 (rm := rmn7_requireWhat) rfl rfl (n7_requireWhat l D κ A ad (celB κ ad r0 b) p1 5 e11) g_X7_169 hs_yX7_requireWhat ⟨Nat.le_of_ble_eq_true rfl, Nat.le_of_ble_eq_true rfl⟩ rfl hl rfl (lv_room (Nat.le_of_ble_eq_true rfl)) dX7_body_6 ⟨Nat.le_of_ble_eq_true rfl, Nat.le_of_ble_eq_true rfl⟩ (fun H locs G14 => ?_)
  refine lv_aload_n (pc := 9) X.1 X.2.1 dX7_body_9 rfl (lv_at hl 0 rfl) ?_
  refine B_getc (pc := 10) (i := 50) (k := 0) (j := 70) X G14 rfl clX7 (okL50 _) (by decide) rfl fl_X7_10 dX7_body_10 ?_
  refine lv_iload_n (pc := 13) X.1 X.2.1 dX7_body_13 rfl (lv_at hl 1 rfl) ?_
  obtain ⟨o17, eo17, h15⟩ := bn_some h13
  refine B_callq (pc := 14) (v := o17) (M' := (celB κ ad r0 b)) (i := 70) (As := [.int p0]) (rest := []) X G14 (rm := rm5_definitionOf) rfl rfl rfl (c5_definitionOf l D κ A ad r0 b 70 p0 o17 eo17) (B_rcv (ci := 5) (okL70 _) (by decide)) rfl g_X7_87 hd_yX5_definitionOf ⟨Nat.le_of_ble_eq_true rfl, Nat.le_of_ble_eq_true rfl⟩ rfl hl rfl (lv_room (Nat.le_of_ble_eq_true rfl)) dX7_body_14 ⟨Nat.le_of_ble_eq_true rfl, Nat.le_of_ble_eq_true rfl⟩ (fun H locs G16 => ?_)
  refine lq_astore_n (pc := 17) (lv' := [(3, va_rf (o17.map ad)), (0, .ref (ad 50)), (1, .int p0), (2, .int p1)]) X dX7_body_17 rfl hl (by decide) rfl (fun ls18 hl19 => ?_)
  refine lq_aload_n (pc := 18) X dX7_body_18 rfl (lv_at hl19 0 rfl) ?_
  rcases o17 with _ | t20
  · have h21 := on_n h15
    have hl23 : lv_has ls18 4 [(3, va_rf ((none : Option Nat).map ad)), (0, .ref (ad 50)), (1, .int p0), (2, .int p1)] := hl19
    refine lv_ifnonnullN (pc := 19) X.1 X.2.1 dX7_body_19 ?_
    refine lv_iconst (pc := 22) (v := (-1)) X.1 X.2.1 dX7_body_22 (by decide) ?_
    have h21_i := Option.some.inj h21
    exact m_iret (pc := 23) X G16 hr hlk dX7_body_23 (Sum.inr.inj (congrArg Prod.snd h21_i)) (congrArg (fun q : BS × (Nat ⊕ Int32) => celB κ ad r0 q.1) h21_i)
  · have h22 := on_s h15
    have hl24 : lv_has ls18 4 [(3, .ref (ad t20)), (0, .ref (ad 50)), (1, .int p0), (2, .int p1)] := hl19
    refine lv_ifnonnull (pc := 19) (tgt := 24) (x := ad t20) X.1 X.2.1 dX7_body_19 (by decide) ?_
    refine lv_iload_n (pc := 24) X.1 X.2.1 dX7_body_24 rfl (lv_at hl24 3 rfl) ?_
    by_cases hc37_0 : p1 = 0
    · have h27 := it_pos h22 hc37_0
      refine lv_tableIn (pc := 25) (tgt := 60) (off := 35) X.1 X.2.1 dX7_body_25 (by rw [hc37_0]; decide) (by rw [hc37_0]; decide) (by rw [hc37_0]; decide +kernel) (by decide) ?_
      refine lv_aload_n (pc := 60) X.1 X.2.1 dX7_body_60 rfl (lv_at hl24 0 rfl) ?_
      obtain ⟨ok38, h39⟩ := ck_some h27
      refine B_getc (pc := 61) (i := t20) (k := 0) (j := t20 + 1) X G16 rfl clX6 ok38 (by decide) rfl fl_X7_137 dX7_body_61 ?_
      refine B_alen (pc := 64) (i := t20 + 1) (n := (lnB b.2.2 (t20 + 1))) X G16 rfl (ok6_arr ok38) rfl dX7_body_64 ?_
      have h39_i := Option.some.inj h39
      exact m_iret (pc := 65) X G16 hr hlk dX7_body_65 (Sum.inr.inj (congrArg Prod.snd h39_i)) (congrArg (fun q : BS × (Nat ⊕ Int32) => celB κ ad r0 q.1) h39_i)
    · have h28 := it_neg h22 hc37_0
      by_cases hc37_1 : p1 = 1
      · have h29 := it_pos h28 hc37_1
        refine lv_tableIn (pc := 25) (tgt := 66) (off := 41) X.1 X.2.1 dX7_body_25 (by rw [hc37_1]; decide) (by rw [hc37_1]; decide) (by rw [hc37_1]; decide +kernel) (by decide) ?_
        refine lv_aload_n (pc := 66) X.1 X.2.1 dX7_body_66 rfl (lv_at hl24 0 rfl) ?_
        obtain ⟨ok40, h41⟩ := ck_some h29
        refine B_geti (pc := 67) (i := t20) (k := 1) X G16 rfl clX6 ok40 (by decide) rfl rfl fl_X7_76 dX7_body_67 ?_
        have h41_i := Option.some.inj h41
        exact m_iret (pc := 70) X G16 hr hlk dX7_body_70 (Sum.inr.inj (congrArg Prod.snd h41_i)) (congrArg (fun q : BS × (Nat ⊕ Int32) => celB κ ad r0 q.1) h41_i)
      · have h30 := it_neg h28 hc37_1
        by_cases hc37_2 : p1 = 2
        · have h31 := it_pos h30 hc37_2
          refine lv_tableIn (pc := 25) (tgt := 71) (off := 46) X.1 X.2.1 dX7_body_25 (by rw [hc37_2]; decide) (by rw [hc37_2]; decide) (by rw [hc37_2]; decide +kernel) (by decide) ?_
          refine lv_aload_n (pc := 71) X.1 X.2.1 dX7_body_71 rfl (lv_at hl24 0 rfl) ?_
          obtain ⟨ok42, h43⟩ := ck_some h31
          refine B_geti (pc := 72) (i := t20) (k := 2) X G16 rfl clX6 ok42 (by decide) rfl rfl fl_X7_173 dX7_body_72 ?_
          have h43_i := Option.some.inj h43
          exact m_iret (pc := 75) X G16 hr hlk dX7_body_75 (Sum.inr.inj (congrArg Prod.snd h43_i)) (congrArg (fun q : BS × (Nat ⊕ Int32) => celB κ ad r0 q.1) h43_i)
        · have h32 := it_neg h30 hc37_2
          by_cases hc37_3 : p1 = 3
          · have h33 := it_pos h32 hc37_3
            refine lv_tableIn (pc := 25) (tgt := 76) (off := 51) X.1 X.2.1 dX7_body_25 (by rw [hc37_3]; decide) (by rw [hc37_3]; decide) (by rw [hc37_3]; decide +kernel) (by decide) ?_
            refine lv_aload_n (pc := 76) X.1 X.2.1 dX7_body_76 rfl (lv_at hl24 0 rfl) ?_
            obtain ⟨ok44, h45⟩ := ck_some h33
            refine B_geti (pc := 77) (i := t20) (k := 3) X G16 rfl clX6 ok44 (by decide) rfl rfl fl_X7_176 dX7_body_77 ?_
            have h45_i := Option.some.inj h45
            exact m_iret (pc := 80) X G16 hr hlk dX7_body_80 (Sum.inr.inj (congrArg Prod.snd h45_i)) (congrArg (fun q : BS × (Nat ⊕ Int32) => celB κ ad r0 q.1) h45_i)
          · have h34 := it_neg h32 hc37_3
            by_cases hc37_4 : p1 = 4
            · have h35 := it_pos h34 hc37_4
              refine lv_tableIn (pc := 25) (tgt := 81) (off := 56) X.1 X.2.1 dX7_body_25 (by rw [hc37_4]; decide) (by rw [hc37_4]; decide) (by rw [hc37_4]; decide +kernel) (by decide) ?_
              refine lv_aload_n (pc := 81) X.1 X.2.1 dX7_body_81 rfl (lv_at hl24 0 rfl) ?_
              obtain ⟨ok46, h47⟩ := ck_some h35
              refine B_geti (pc := 82) (i := t20) (k := 4) X G16 rfl clX6 ok46 (by decide) rfl rfl fl_X7_179 dX7_body_82 ?_
              have h47_i := Option.some.inj h47
              exact m_iret (pc := 85) X G16 hr hlk dX7_body_85 (Sum.inr.inj (congrArg Prod.snd h47_i)) (congrArg (fun q : BS × (Nat ⊕ Int32) => celB κ ad r0 q.1) h47_i)
            · have h36 := it_neg h34 hc37_4
              refine lv_tableOut (pc := 25) (tgt := 86) X.1 X.2.1 dX7_body_25 (sw_out (n := 4) (by decide) (fun k hk => ?_)) (by decide) ?_
              · rcases (show k = 0 ∨ k = 1 ∨ k = 2 ∨ k = 3 ∨ k = 4 by omega) with rfl | rfl | rfl | rfl | rfl
                · exact hc37_0
                · exact hc37_1
                · exact hc37_2
                · exact hc37_3
                · exact hc37_4
              · refine lv_aload_n (pc := 86) X.1 X.2.1 dX7_body_86 rfl (lv_at hl24 0 rfl) ?_
                obtain ⟨ok48, h49⟩ := ck_some h36
                refine B_geti (pc := 87) (i := t20) (k := 5) X G16 rfl clX6 ok48 (by decide) rfl rfl fl_X7_182 dX7_body_87 ?_
                have h49_i := Option.some.inj h49
                exact m_iret (pc := 90) X G16 hr hlk dX7_body_90 (Sum.inr.inj (congrArg Prod.snd h49_i)) (congrArg (fun q : BS × (Nat ⊕ Int32) => celB κ ad r0 q.1) h49_i)

abbrev rmn7_uses : Room := { frames := 7, cells := 0, slots := 0, locals := 103 }
set_option maxHeartbeats 4000000 in
set_option maxRecDepth 100000 in
theorem n7_uses (l : Launch) (D : va_G) (κ : Nat → ClassId) (A : Nat → Prop) (ad : Nat → Nat) (r0 : Nat → Option va_E) (b : BS) (p0 : Int32) (p1 : Int32) (res : BS × Int32) (h : F7_uses b p0 p1 = some (res.1, .inr res.2)) : Met l yX7_uses (gw yX7_uses cX7_uses 3 (some (FieldType.int))) rmn7_uses (va_Pc [.ref (ad 50), .int p0, .int p1] (MW D κ A ad (celB κ ad r0 b))) (QI D κ A ad (celB κ ad r0 res.1) res.2) 0 0 A := by
  refine met_of (own := RX7) (by decide +kernel) rfl (Nat.le_of_ble_eq_true rfl) ?_
  intro p e s m below meth c ls X hr hlk G hl
  have hl : lv_has ls 3 [(0, .ref (ad 50)), (1, .int p0), (2, .int p1)] := hl
  unfold F7_uses at h
  refine lv_iload_n (pc := 0) X.1 X.2.1 dX7_uses_0 rfl (lv_at hl 1 rfl) ?_
  rcases bx_some h with ⟨u1, k2, e4, h5⟩ | ⟨u1, v3, e4, h6⟩
  · exact nomatch (show (Sum.inl k2 : Nat ⊕ Int32) = Sum.inr _ from congrArg Prod.snd (Option.some.inj h5))
  refine m_callsv0 (pc := 1) (As := [.int p0]) (rest := []) X G (rm := rmn7_requireLetter) rfl rfl (n7_requireLetter l D κ A ad (celB κ ad r0 b) p0 e4) g_X7_52 hs_yX7_requireLetter ⟨Nat.le_of_ble_eq_true rfl, Nat.le_of_ble_eq_true rfl⟩ rfl hl rfl (lv_room (Nat.le_of_ble_eq_true rfl)) dX7_uses_1 ⟨Nat.le_of_ble_eq_true rfl, Nat.le_of_ble_eq_true rfl⟩ (fun H locs G7 => ?_)
  refine lv_iload_n (pc := 4) X.1 X.2.1 dX7_uses_4 rfl (lv_at hl 2 rfl) ?_
  refine lv_iconst (pc := 5) (v := 3) X.1 X.2.1 dX7_uses_5 (by decide) ?_
  rcases bx_some h6 with ⟨u8, k9, e11, h12⟩ | ⟨u8, v10, e11, h13⟩
  · exact nomatch (show (Sum.inl k9 : Nat ⊕ Int32) = Sum.inr _ from congrArg Prod.snd (Option.some.inj h12))
  refine m_callsv0 (pc := 6) (As := [.int p1, .int 3]) (rest := []) X G7 (rm := rmn7_requireWhat) rfl rfl (n7_requireWhat l D κ A ad (celB κ ad r0 b) p1 3 e11) g_X7_169 hs_yX7_requireWhat ⟨Nat.le_of_ble_eq_true rfl, Nat.le_of_ble_eq_true rfl⟩ rfl hl rfl (lv_room (Nat.le_of_ble_eq_true rfl)) dX7_uses_6 ⟨Nat.le_of_ble_eq_true rfl, Nat.le_of_ble_eq_true rfl⟩ (fun H locs G14 => ?_)
  refine lv_aload_n (pc := 9) X.1 X.2.1 dX7_uses_9 rfl (lv_at hl 0 rfl) ?_
  refine B_getc (pc := 10) (i := 50) (k := 4) (j := 54) X G14 rfl clX7 (okL50 _) (by decide) rfl fl_X7_37 dX7_uses_10 ?_
  refine lv_aload_n (pc := 13) X.1 X.2.1 dX7_uses_13 rfl (lv_at hl 0 rfl) ?_
  refine B_getc (pc := 14) (i := 50) (k := 0) (j := 70) X G14 rfl clX7 (okL50 _) (by decide) rfl fl_X7_10 dX7_uses_14 ?_
  obtain ⟨b17, eb17, h15⟩ := bn_some h13
  refine B_callv (pc := 17) (M' := (celB κ ad r0 b17)) (i := 54) (As := [.ref (ad 70)]) (rest := []) X G14 (rm := rm0_takeFrom) rfl rfl rfl (c0_takeFrom l D κ A ad r0 b 70 b17 eb17) (B_rcv (ci := 0) (okL54 _) (by decide)) rfl g_X7_185 hd_yX0_takeFrom ⟨Nat.le_of_ble_eq_true rfl, Nat.le_of_ble_eq_true rfl⟩ rfl hl rfl (lv_room (Nat.le_of_ble_eq_true rfl)) dX7_uses_17 ⟨Nat.le_of_ble_eq_true rfl, Nat.le_of_ble_eq_true rfl⟩ (fun H locs G16 => ?_)
  refine lv_iload_n (pc := 20) X.1 X.2.1 dX7_uses_20 rfl (lv_at hl 2 rfl) ?_
  by_cases hc24_0 : p1 = 0
  · have h18 := it_pos h15 hc24_0
    refine lv_tableIn (pc := 21) (tgt := 48) (off := 27) X.1 X.2.1 dX7_uses_21 (by rw [hc24_0]; decide) (by rw [hc24_0]; decide) (by rw [hc24_0]; decide +kernel) (by decide) ?_
    refine lv_aload_n (pc := 48) X.1 X.2.1 dX7_uses_48 rfl (lv_at hl 0 rfl) ?_
    refine B_getc (pc := 49) (i := 50) (k := 4) (j := 54) X G16 rfl clX7 (okL50 _) (by decide) rfl fl_X7_37 dX7_uses_49 ?_
    refine lv_iload_n (pc := 52) X.1 X.2.1 dX7_uses_52 rfl (lv_at hl 1 rfl) ?_
    obtain ⟨x27, ex27, h25⟩ := bn_some h18
    refine B_calli (pc := 53) (v := x27) (M' := (celB κ ad r0 b17)) (i := 54) (As := [.int p0]) (rest := []) X G16 (rm := rm0_calledBy) rfl rfl rfl (c0_calledBy l D κ A ad r0 b17 p0 x27 ex27) (B_rcv (ci := 0) (okL54 _) (by decide)) rfl g_X7_188 hd_yX0_calledBy ⟨Nat.le_of_ble_eq_true rfl, Nat.le_of_ble_eq_true rfl⟩ rfl hl rfl (lv_room (Nat.le_of_ble_eq_true rfl)) dX7_uses_53 ⟨Nat.le_of_ble_eq_true rfl, Nat.le_of_ble_eq_true rfl⟩ (fun H locs G26 => ?_)
    have h25_i := Option.some.inj h25
    exact m_iret (pc := 56) X G26 hr hlk dX7_uses_56 (Sum.inr.inj (congrArg Prod.snd h25_i)) (congrArg (fun q : BS × (Nat ⊕ Int32) => celB κ ad r0 q.1) h25_i)
  · have h19 := it_neg h15 hc24_0
    by_cases hc24_1 : p1 = 1
    · have h20 := it_pos h19 hc24_1
      refine lv_tableIn (pc := 21) (tgt := 57) (off := 36) X.1 X.2.1 dX7_uses_21 (by rw [hc24_1]; decide) (by rw [hc24_1]; decide) (by rw [hc24_1]; decide +kernel) (by decide) ?_
      refine lv_aload_n (pc := 57) X.1 X.2.1 dX7_uses_57 rfl (lv_at hl 0 rfl) ?_
      refine B_getc (pc := 58) (i := 50) (k := 4) (j := 54) X G16 rfl clX7 (okL50 _) (by decide) rfl fl_X7_37 dX7_uses_58 ?_
      refine lv_iload_n (pc := 61) X.1 X.2.1 dX7_uses_61 rfl (lv_at hl 1 rfl) ?_
      obtain ⟨b31, x30, ex30, h28⟩ := bn2_some h20
      refine B_calli (pc := 62) (v := x30) (M' := (celB κ ad r0 b31)) (i := 54) (As := [.int p0]) (rest := []) X G16 (rm := rm0_reachedFrom) rfl rfl rfl (c0_reachedFrom l D κ A ad r0 b17 p0 (b31, x30) ex30) (B_rcv (ci := 0) (okL54 _) (by decide)) rfl g_X7_192 hd_yX0_reachedFrom ⟨Nat.le_of_ble_eq_true rfl, Nat.le_of_ble_eq_true rfl⟩ rfl hl rfl (lv_room (Nat.le_of_ble_eq_true rfl)) dX7_uses_62 ⟨Nat.le_of_ble_eq_true rfl, Nat.le_of_ble_eq_true rfl⟩ (fun H locs G29 => ?_)
      have h28_i := Option.some.inj h28
      exact m_iret (pc := 65) X G29 hr hlk dX7_uses_65 (Sum.inr.inj (congrArg Prod.snd h28_i)) (congrArg (fun q : BS × (Nat ⊕ Int32) => celB κ ad r0 q.1) h28_i)
    · have h21 := it_neg h19 hc24_1
      by_cases hc24_2 : p1 = 2
      · have h22 := it_pos h21 hc24_2
        refine lv_tableIn (pc := 21) (tgt := 66) (off := 45) X.1 X.2.1 dX7_uses_21 (by rw [hc24_2]; decide) (by rw [hc24_2]; decide) (by rw [hc24_2]; decide +kernel) (by decide) ?_
        refine lv_aload_n (pc := 66) X.1 X.2.1 dX7_uses_66 rfl (lv_at hl 0 rfl) ?_
        refine B_getc (pc := 67) (i := 50) (k := 4) (j := 54) X G16 rfl clX7 (okL50 _) (by decide) rfl fl_X7_37 dX7_uses_67 ?_
        refine lv_iload_n (pc := 70) X.1 X.2.1 dX7_uses_70 rfl (lv_at hl 1 rfl) ?_
        obtain ⟨x34, ex34, h32⟩ := bn_some h22
        refine B_calli (pc := 71) (v := x34) (M' := (celB κ ad r0 b17)) (i := 54) (As := [.int p0]) (rest := []) X G16 (rm := rm0_callersOf) rfl rfl rfl (c0_callersOf l D κ A ad r0 b17 p0 x34 ex34) (B_rcv (ci := 0) (okL54 _) (by decide)) rfl g_X7_195 hd_yX0_callersOf ⟨Nat.le_of_ble_eq_true rfl, Nat.le_of_ble_eq_true rfl⟩ rfl hl rfl (lv_room (Nat.le_of_ble_eq_true rfl)) dX7_uses_71 ⟨Nat.le_of_ble_eq_true rfl, Nat.le_of_ble_eq_true rfl⟩ (fun H locs G33 => ?_)
        have h32_i := Option.some.inj h32
        exact m_iret (pc := 74) X G33 hr hlk dX7_uses_74 (Sum.inr.inj (congrArg Prod.snd h32_i)) (congrArg (fun q : BS × (Nat ⊕ Int32) => celB κ ad r0 q.1) h32_i)
      · have h23 := it_neg h21 hc24_2
        refine lv_tableOut (pc := 21) (tgt := 75) X.1 X.2.1 dX7_uses_21 (sw_out (n := 2) (by decide) (fun k hk => ?_)) (by decide) ?_
        · rcases (show k = 0 ∨ k = 1 ∨ k = 2 by omega) with rfl | rfl | rfl
          · exact hc24_0
          · exact hc24_1
          · exact hc24_2
        · refine lv_aload_n (pc := 75) X.1 X.2.1 dX7_uses_75 rfl (lv_at hl 0 rfl) ?_
          refine B_getc (pc := 76) (i := 50) (k := 4) (j := 54) X G16 rfl clX7 (okL50 _) (by decide) rfl fl_X7_37 dX7_uses_76 ?_
          refine lv_iload_n (pc := 79) X.1 X.2.1 dX7_uses_79 rfl (lv_at hl 1 rfl) ?_
          obtain ⟨b38, x37, ex37, h35⟩ := bn2_some h23
          refine B_calli (pc := 80) (v := x37) (M' := (celB κ ad r0 b38)) (i := 54) (As := [.int p0]) (rest := []) X G16 (rm := rm0_reaching) rfl rfl rfl (c0_reaching l D κ A ad r0 b17 p0 (b38, x37) ex37) (B_rcv (ci := 0) (okL54 _) (by decide)) rfl g_X7_198 hd_yX0_reaching ⟨Nat.le_of_ble_eq_true rfl, Nat.le_of_ble_eq_true rfl⟩ rfl hl rfl (lv_room (Nat.le_of_ble_eq_true rfl)) dX7_uses_80 ⟨Nat.le_of_ble_eq_true rfl, Nat.le_of_ble_eq_true rfl⟩ (fun H locs G36 => ?_)
          have h35_i := Option.some.inj h35
          exact m_iret (pc := 83) X G36 hr hlk dX7_uses_83 (Sum.inr.inj (congrArg Prod.snd h35_i)) (congrArg (fun q : BS × (Nat ⊕ Int32) => celB κ ad r0 q.1) h35_i)

abbrev rmn7_chain : Room := { frames := 7, cells := 0, slots := 0, locals := 102 }
set_option maxHeartbeats 4000000 in
set_option maxRecDepth 100000 in
theorem n7_chain (l : Launch) (D : va_G) (κ : Nat → ClassId) (A : Nat → Prop) (ad : Nat → Nat) (r0 : Nat → Option va_E) (b : BS) (p0 : Int32) (res : BS × Int32) (h : F7_chain b p0 = some (res.1, .inr res.2)) : Met l yX7_chain (gw yX7_chain cX7_chain 2 (some (FieldType.int))) rmn7_chain (va_Pc [.ref (ad 50), .int p0] (MW D κ A ad (celB κ ad r0 b))) (QI D κ A ad (celB κ ad r0 res.1) res.2) 0 0 A := by
  refine met_of (own := RX7) (by decide +kernel) rfl (Nat.le_of_ble_eq_true rfl) ?_
  intro p e s m below meth c ls X hr hlk G hl
  have hl : lv_has ls 2 [(0, .ref (ad 50)), (1, .int p0)] := hl
  unfold F7_chain at h
  refine lv_iload_n (pc := 0) X.1 X.2.1 dX7_chain_0 rfl (lv_at hl 1 rfl) ?_
  rcases bx_some h with ⟨u1, k2, e4, h5⟩ | ⟨u1, v3, e4, h6⟩
  · exact nomatch (show (Sum.inl k2 : Nat ⊕ Int32) = Sum.inr _ from congrArg Prod.snd (Option.some.inj h5))
  refine m_callsv0 (pc := 1) (As := [.int p0]) (rest := []) X G (rm := rmn7_requireLetter) rfl rfl (n7_requireLetter l D κ A ad (celB κ ad r0 b) p0 e4) g_X7_52 hs_yX7_requireLetter ⟨Nat.le_of_ble_eq_true rfl, Nat.le_of_ble_eq_true rfl⟩ rfl hl rfl (lv_room (Nat.le_of_ble_eq_true rfl)) dX7_chain_1 ⟨Nat.le_of_ble_eq_true rfl, Nat.le_of_ble_eq_true rfl⟩ (fun H locs G7 => ?_)
  refine lv_aload_n (pc := 4) X.1 X.2.1 dX7_chain_4 rfl (lv_at hl 0 rfl) ?_
  refine B_getc (pc := 5) (i := 50) (k := 4) (j := 54) X G7 rfl clX7 (okL50 _) (by decide) rfl fl_X7_37 dX7_chain_5 ?_
  refine lv_aload_n (pc := 8) X.1 X.2.1 dX7_chain_8 rfl (lv_at hl 0 rfl) ?_
  refine B_getc (pc := 9) (i := 50) (k := 0) (j := 70) X G7 rfl clX7 (okL50 _) (by decide) rfl fl_X7_10 dX7_chain_9 ?_
  obtain ⟨b10, eb10, h8⟩ := bn_some h6
  refine B_callv (pc := 12) (M' := (celB κ ad r0 b10)) (i := 54) (As := [.ref (ad 70)]) (rest := []) X G7 (rm := rm0_takeFrom) rfl rfl rfl (c0_takeFrom l D κ A ad r0 b 70 b10 eb10) (B_rcv (ci := 0) (okL54 _) (by decide)) rfl g_X7_185 hd_yX0_takeFrom ⟨Nat.le_of_ble_eq_true rfl, Nat.le_of_ble_eq_true rfl⟩ rfl hl rfl (lv_room (Nat.le_of_ble_eq_true rfl)) dX7_chain_12 ⟨Nat.le_of_ble_eq_true rfl, Nat.le_of_ble_eq_true rfl⟩ (fun H locs G9 => ?_)
  refine lv_aload_n (pc := 15) X.1 X.2.1 dX7_chain_15 rfl (lv_at hl 0 rfl) ?_
  refine B_getc (pc := 16) (i := 50) (k := 4) (j := 54) X G9 rfl clX7 (okL50 _) (by decide) rfl fl_X7_37 dX7_chain_16 ?_
  refine lv_iload_n (pc := 19) X.1 X.2.1 dX7_chain_19 rfl (lv_at hl 1 rfl) ?_
  obtain ⟨x13, ex13, h11⟩ := bn_some h8
  refine B_calli (pc := 20) (v := x13) (M' := (celB κ ad r0 b10)) (i := 54) (As := [.int p0]) (rest := []) X G9 (rm := rm0_longestChain) rfl rfl rfl (c0_longestChain l D κ A ad r0 b10 p0 x13 ex13) (B_rcv (ci := 0) (okL54 _) (by decide)) rfl g_X7_207 hd_yX0_longestChain ⟨Nat.le_of_ble_eq_true rfl, Nat.le_of_ble_eq_true rfl⟩ rfl hl rfl (lv_room (Nat.le_of_ble_eq_true rfl)) dX7_chain_20 ⟨Nat.le_of_ble_eq_true rfl, Nat.le_of_ble_eq_true rfl⟩ (fun H locs G12 => ?_)
  have h11_i := Option.some.inj h11
  exact m_iret (pc := 23) X G12 hr hlk dX7_chain_23 (Sum.inr.inj (congrArg Prod.snd h11_i)) (congrArg (fun q : BS × (Nat ⊕ Int32) => celB κ ad r0 q.1) h11_i)

abbrev rmn7_sign : Room := { frames := 6, cells := 0, slots := 0, locals := 82 }
set_option maxHeartbeats 4000000 in
set_option maxRecDepth 100000 in
theorem n7_sign (l : Launch) (D : va_G) (κ : Nat → ClassId) (A : Nat → Prop) (ad : Nat → Nat) (r0 : Nat → Option va_E) (b : BS) (p0 : Int32) (res : BS × Int32) (h : F7_sign b p0 = some (res.1, .inr res.2)) : Met l yX7_sign (gw yX7_sign cX7_sign 3 (some (FieldType.int))) rmn7_sign (va_Pc [.ref (ad 50), .int p0] (MW D κ A ad (celB κ ad r0 b))) (QI D κ A ad (celB κ ad r0 res.1) res.2) 0 0 A := by
  refine met_of (own := RX7) (by decide +kernel) rfl (Nat.le_of_ble_eq_true rfl) ?_
  intro p e s m below meth c ls X hr hlk G hl
  have hl : lv_has ls 3 [(0, .ref (ad 50)), (1, .int p0)] := hl
  unfold F7_sign at h
  refine lv_iload_n (pc := 0) X.1 X.2.1 dX7_sign_0 rfl (lv_at hl 1 rfl) ?_
  refine lv_if_ge (pc := 1) (tgt := 14) X.1 X.2.1 dX7_sign_1 (by decide) (fun hc1 => ?_) (fun hc1 => ?_)
  · have h2 := it_pos h hc1
    refine lv_aload_n (pc := 14) X.1 X.2.1 dX7_sign_14 rfl (lv_at hl 0 rfl) ?_
    refine B_getc (pc := 15) (i := 50) (k := 0) (j := 70) X G rfl clX7 (okL50 _) (by decide) rfl fl_X7_10 dX7_sign_15 ?_
    obtain ⟨o4, eo4, h5⟩ := bd_some h2
    refine B_getm (pc := 18) (i := 70) (k := 1) (o := o4) X G rfl clX5 (okL70 _) (by decide) rfl rfl eo4 fl_X7_111 dX7_sign_18 ?_
    obtain ⟨t6, rfl, h7⟩ := de_some h5
    have hl8 : lv_has ls 3 [(0, .ref (ad 50)), (1, .int p0)] := hl
    obtain ⟨ok9, h10⟩ := ck_some h7
    refine B_getc (pc := 21) (i := t6) (k := 0) (j := t6 + 1) X G rfl clX3 ok9 (by decide) rfl fl_X7_118 dX7_sign_21 ?_
    refine lv_astore_n (pc := 24) (lv' := [(2, .ref (ad (t6 + 1))), (0, .ref (ad 50)), (1, .int p0)]) X.1 X.2.1 dX7_sign_24 rfl hl8 (by decide) rfl (fun ls11 hl12 => ?_)
    refine lv_iload_n (pc := 25) X.1 X.2.1 dX7_sign_25 rfl (lv_at hl12 2 rfl) ?_
    refine lv_aload_n (pc := 26) X.1 X.2.1 dX7_sign_26 rfl (lv_at hl12 0 rfl) ?_
    refine B_alen (pc := 27) (i := t6 + 1) (n := (lnB b.2.2 (t6 + 1))) X G rfl (ok3_arr ok9) rfl dX7_sign_27 ?_
    obtain ⟨k13, ek13, h14⟩ := jp_some h10
    have hk13 : ∀ (x20 : Int32) (H : Heap) (locs : List Loc) (ls : Array Slot), k13 x20 = some (res.1, .inr res.2) → Mm D κ A ad (celB κ ad r0 b) s H locs → lv_has ls 3 [] → W p l e rmn7_sign s m [.ref (ad 50), .int p0].toArray below meth c H locs 0 0 (MQ below (QI D κ A ad (celB κ ad r0 res.1) res.2) [.ref (ad 50), .int p0].toArray s 0 0 A) (F0 m 38 ls [.int x20]) := by
      intro x20 H locs ls24 h21 G22 hl23
      rw [ek13] at h21
      try dsimp only at h21
      have h21_i := Option.some.inj h21
      exact m_iret (pc := 38) X G22 hr hlk dX7_sign_38 (Sum.inr.inj (congrArg Prod.snd h21_i)) (congrArg (fun q : BS × (Nat ⊕ Int32) => celB κ ad r0 q.1) h21_i)
    refine lv_icmp_ge (pc := 28) (tgt := 37) X.1 X.2.1 dX7_sign_28 (by decide) (fun hc15 => ?_) (fun hc15 => ?_)
    · have h16 := it_pos h14 hc15
      refine lv_iconst (pc := 37) (v := (-1)) X.1 X.2.1 dX7_sign_37 (by decide) ?_
      exact hk13 (-1) _ _ ls11 h16 G (lv_sub hl12 [] rfl)
    · have h17 := it_neg h14 hc15
      refine lv_aload_n (pc := 31) X.1 X.2.1 dX7_sign_31 rfl (lv_at hl12 0 rfl) ?_
      refine lv_iload_n (pc := 32) X.1 X.2.1 dX7_sign_32 rfl (lv_at hl12 2 rfl) ?_
      have h17_r := rd_some h17
      refine B_iald (pc := 33) (i := t6 + 1) (n := (lnB b.2.2 (t6 + 1))) X G rfl (ok3_arr ok9) rfl h17_r.1 dX7_sign_33 ?_
      refine lv_topi (fun x18 ex18 => ?_)
      have h19 := h17_r.2
      rw [← ex18] at h19
      refine lv_goto (pc := 34) (tgt := 38) X.1 X.2.1 dX7_sign_34 (by decide) ?_
      exact hk13 x18 _ _ ls11 h19 G (lv_sub hl12 [] rfl)
  · have h3 := it_neg h hc1
    exact nomatch (show (Sum.inl 2 : Nat ⊕ Int32) = Sum.inr _ from congrArg Prod.snd (Option.some.inj h3))

abbrev rmn7_result : Room := { frames := 7, cells := 0, slots := 0, locals := 103 }
set_option maxHeartbeats 4000000 in
set_option maxRecDepth 100000 in
theorem n7_result (l : Launch) (D : va_G) (κ : Nat → ClassId) (A : Nat → Prop) (ad : Nat → Nat) (r0 : Nat → Option va_E) (b : BS) (p0 : Int32) (res : BS × Int32) (h : F7_result b p0 = some (res.1, .inr res.2)) : Met l yX7_result (gw yX7_result cX7_result 3 (some (FieldType.int))) rmn7_result (va_Pc [.ref (ad 50), .int p0] (MW D κ A ad (celB κ ad r0 b))) (QI D κ A ad (celB κ ad r0 res.1) res.2) 0 0 A := by
  refine met_of (own := RX7) (by decide +kernel) rfl (Nat.le_of_ble_eq_true rfl) ?_
  intro p e s m below meth c ls X hr hlk G hl
  have hl : lv_has ls 3 [(0, .ref (ad 50)), (1, .int p0)] := hl
  unfold F7_result at h
  refine lv_iload_n (pc := 0) X.1 X.2.1 dX7_result_0 rfl (lv_at hl 1 rfl) ?_
  refine lv_bipush (pc := 1) (v := 7) X.1 X.2.1 dX7_result_1 (by decide) ?_
  rcases bx_some h with ⟨u1, k2, e4, h5⟩ | ⟨u1, v3, e4, h6⟩
  · exact nomatch (show (Sum.inl k2 : Nat ⊕ Int32) = Sum.inr _ from congrArg Prod.snd (Option.some.inj h5))
  refine m_callsv0 (pc := 3) (As := [.int p0, .int 7]) (rest := []) X G (rm := rmn7_requireWhat) rfl rfl (n7_requireWhat l D κ A ad (celB κ ad r0 b) p0 7 e4) g_X7_169 hs_yX7_requireWhat ⟨Nat.le_of_ble_eq_true rfl, Nat.le_of_ble_eq_true rfl⟩ rfl hl rfl (lv_room (Nat.le_of_ble_eq_true rfl)) dX7_result_3 ⟨Nat.le_of_ble_eq_true rfl, Nat.le_of_ble_eq_true rfl⟩ (fun H locs G7 => ?_)
  refine lv_aload_n (pc := 6) X.1 X.2.1 dX7_result_6 rfl (lv_at hl 0 rfl) ?_
  refine B_getc (pc := 7) (i := 50) (k := 0) (j := 70) X G7 rfl clX7 (okL50 _) (by decide) rfl fl_X7_10 dX7_result_7 ?_
  obtain ⟨o8, eo8, h9⟩ := bd_some h6
  refine B_getm (pc := 10) (i := 70) (k := 1) (o := o8) X G7 rfl clX5 (okL70 _) (by decide) rfl rfl eo8 fl_X7_111 dX7_result_10 ?_
  refine lq_astore_n (pc := 13) (lv' := [(2, va_rf (o8.map ad)), (0, .ref (ad 50)), (1, .int p0)]) X dX7_result_13 rfl hl (by decide) rfl (fun ls10 hl11 => ?_)
  refine lv_iload_n (pc := 14) X.1 X.2.1 dX7_result_14 rfl (lv_at hl11 2 rfl) ?_
  by_cases hc26_0 : p0 = 0
  · have h12 := it_pos h9 hc26_0
    refine lv_tableIn (pc := 15) (tgt := 56) (off := 41) X.1 X.2.1 dX7_result_15 (by rw [hc26_0]; decide) (by rw [hc26_0]; decide) (by rw [hc26_0]; decide +kernel) (by decide) ?_
    refine lq_aload_n (pc := 56) X dX7_result_56 rfl (lv_at hl11 0 rfl) ?_
    obtain ⟨t27, rfl, h28⟩ := de_some h12
    have hl29 : lv_has ls10 3 [(2, .ref (ad t27)), (0, .ref (ad 50)), (1, .int p0)] := hl11
    obtain ⟨ok30, h31⟩ := ck_some h28
    refine B_getc (pc := 57) (i := t27) (k := 0) (j := t27 + 1) X G7 rfl clX3 ok30 (by decide) rfl fl_X7_118 dX7_result_57 ?_
    refine B_alen (pc := 60) (i := t27 + 1) (n := (lnB b.2.2 (t27 + 1))) X G7 rfl (ok3_arr ok30) rfl dX7_result_60 ?_
    have h31_i := Option.some.inj h31
    exact m_iret (pc := 61) X G7 hr hlk dX7_result_61 (Sum.inr.inj (congrArg Prod.snd h31_i)) (congrArg (fun q : BS × (Nat ⊕ Int32) => celB κ ad r0 q.1) h31_i)
  · have h13 := it_neg h9 hc26_0
    by_cases hc26_1 : p0 = 1
    · have h14 := it_pos h13 hc26_1
      refine lv_tableIn (pc := 15) (tgt := 62) (off := 47) X.1 X.2.1 dX7_result_15 (by rw [hc26_1]; decide) (by rw [hc26_1]; decide) (by rw [hc26_1]; decide +kernel) (by decide) ?_
      refine lq_aload_n (pc := 62) X dX7_result_62 rfl (lv_at hl11 0 rfl) ?_
      refine lv_bipush (pc := 63) (v := 35) X.1 X.2.1 dX7_result_63 (by decide) ?_
      obtain ⟨t32, rfl, h33⟩ := de_some h14
      have hl34 : lv_has ls10 3 [(2, .ref (ad t32)), (0, .ref (ad 50)), (1, .int p0)] := hl11
      obtain ⟨ok35, h36⟩ := ck_some h33
      obtain ⟨x39, ex39, h37⟩ := bn_some h36
      refine B_calli (pc := 65) (v := x39) (M' := (celB κ ad r0 b)) (i := t32) (As := [.int 35]) (rest := []) X G7 (rm := rm3_occurrencesOf) rfl rfl rfl (c3_occurrencesOf l D κ A ad r0 b t32 35 x39 ex39) (B_rcv (ci := 3) ok35 (by decide)) rfl g_X7_218 hd_yX3_occurrencesOf ⟨Nat.le_of_ble_eq_true rfl, Nat.le_of_ble_eq_true rfl⟩ rfl hl34 rfl (lv_room (Nat.le_of_ble_eq_true rfl)) dX7_result_65 ⟨Nat.le_of_ble_eq_true rfl, Nat.le_of_ble_eq_true rfl⟩ (fun H locs G38 => ?_)
      have h37_i := Option.some.inj h37
      exact m_iret (pc := 68) X G38 hr hlk dX7_result_68 (Sum.inr.inj (congrArg Prod.snd h37_i)) (congrArg (fun q : BS × (Nat ⊕ Int32) => celB κ ad r0 q.1) h37_i)
    · have h15 := it_neg h13 hc26_1
      by_cases hc26_2 : p0 = 2
      · have h16 := it_pos h15 hc26_2
        refine lv_tableIn (pc := 15) (tgt := 69) (off := 54) X.1 X.2.1 dX7_result_15 (by rw [hc26_2]; decide) (by rw [hc26_2]; decide) (by rw [hc26_2]; decide +kernel) (by decide) ?_
        refine lq_aload_n (pc := 69) X dX7_result_69 rfl (lv_at hl11 0 rfl) ?_
        refine lv_bipush (pc := 70) (v := 37) X.1 X.2.1 dX7_result_70 (by decide) ?_
        obtain ⟨t40, rfl, h41⟩ := de_some h16
        have hl42 : lv_has ls10 3 [(2, .ref (ad t40)), (0, .ref (ad 50)), (1, .int p0)] := hl11
        obtain ⟨ok43, h44⟩ := ck_some h41
        obtain ⟨x47, ex47, h45⟩ := bn_some h44
        refine B_calli (pc := 72) (v := x47) (M' := (celB κ ad r0 b)) (i := t40) (As := [.int 37]) (rest := []) X G7 (rm := rm3_occurrencesOf) rfl rfl rfl (c3_occurrencesOf l D κ A ad r0 b t40 37 x47 ex47) (B_rcv (ci := 3) ok43 (by decide)) rfl g_X7_218 hd_yX3_occurrencesOf ⟨Nat.le_of_ble_eq_true rfl, Nat.le_of_ble_eq_true rfl⟩ rfl hl42 rfl (lv_room (Nat.le_of_ble_eq_true rfl)) dX7_result_72 ⟨Nat.le_of_ble_eq_true rfl, Nat.le_of_ble_eq_true rfl⟩ (fun H locs G46 => ?_)
        have h45_i := Option.some.inj h45
        exact m_iret (pc := 75) X G46 hr hlk dX7_result_75 (Sum.inr.inj (congrArg Prod.snd h45_i)) (congrArg (fun q : BS × (Nat ⊕ Int32) => celB κ ad r0 q.1) h45_i)
      · have h17 := it_neg h15 hc26_2
        by_cases hc26_3 : p0 = 3
        · have h18 := it_pos h17 hc26_3
          refine lv_tableIn (pc := 15) (tgt := 76) (off := 61) X.1 X.2.1 dX7_result_15 (by rw [hc26_3]; decide) (by rw [hc26_3]; decide) (by rw [hc26_3]; decide +kernel) (by decide) ?_
          refine lq_aload_n (pc := 76) X dX7_result_76 rfl (lv_at hl11 0 rfl) ?_
          refine lv_bipush (pc := 77) (v := 36) X.1 X.2.1 dX7_result_77 (by decide) ?_
          obtain ⟨t48, rfl, h49⟩ := de_some h18
          have hl50 : lv_has ls10 3 [(2, .ref (ad t48)), (0, .ref (ad 50)), (1, .int p0)] := hl11
          obtain ⟨ok51, h52⟩ := ck_some h49
          obtain ⟨x55, ex55, h53⟩ := bn_some h52
          refine B_calli (pc := 79) (v := x55) (M' := (celB κ ad r0 b)) (i := t48) (As := [.int 36]) (rest := []) X G7 (rm := rm3_occurrencesOf) rfl rfl rfl (c3_occurrencesOf l D κ A ad r0 b t48 36 x55 ex55) (B_rcv (ci := 3) ok51 (by decide)) rfl g_X7_218 hd_yX3_occurrencesOf ⟨Nat.le_of_ble_eq_true rfl, Nat.le_of_ble_eq_true rfl⟩ rfl hl50 rfl (lv_room (Nat.le_of_ble_eq_true rfl)) dX7_result_79 ⟨Nat.le_of_ble_eq_true rfl, Nat.le_of_ble_eq_true rfl⟩ (fun H locs G54 => ?_)
          have h53_i := Option.some.inj h53
          exact m_iret (pc := 82) X G54 hr hlk dX7_result_82 (Sum.inr.inj (congrArg Prod.snd h53_i)) (congrArg (fun q : BS × (Nat ⊕ Int32) => celB κ ad r0 q.1) h53_i)
        · have h19 := it_neg h17 hc26_3
          by_cases hc26_4 : p0 = 4
          · have h20 := it_pos h19 hc26_4
            refine lv_tableIn (pc := 15) (tgt := 83) (off := 68) X.1 X.2.1 dX7_result_15 (by rw [hc26_4]; decide) (by rw [hc26_4]; decide) (by rw [hc26_4]; decide +kernel) (by decide) ?_
            refine lq_aload_n (pc := 83) X dX7_result_83 rfl (lv_at hl11 0 rfl) ?_
            refine lv_bipush (pc := 84) (v := 63) X.1 X.2.1 dX7_result_84 (by decide) ?_
            obtain ⟨t56, rfl, h57⟩ := de_some h20
            have hl58 : lv_has ls10 3 [(2, .ref (ad t56)), (0, .ref (ad 50)), (1, .int p0)] := hl11
            obtain ⟨ok59, h60⟩ := ck_some h57
            obtain ⟨x63, ex63, h61⟩ := bn_some h60
            refine B_calli (pc := 86) (v := x63) (M' := (celB κ ad r0 b)) (i := t56) (As := [.int 63]) (rest := []) X G7 (rm := rm3_occurrencesOf) rfl rfl rfl (c3_occurrencesOf l D κ A ad r0 b t56 63 x63 ex63) (B_rcv (ci := 3) ok59 (by decide)) rfl g_X7_218 hd_yX3_occurrencesOf ⟨Nat.le_of_ble_eq_true rfl, Nat.le_of_ble_eq_true rfl⟩ rfl hl58 rfl (lv_room (Nat.le_of_ble_eq_true rfl)) dX7_result_86 ⟨Nat.le_of_ble_eq_true rfl, Nat.le_of_ble_eq_true rfl⟩ (fun H locs G62 => ?_)
            have h61_i := Option.some.inj h61
            exact m_iret (pc := 89) X G62 hr hlk dX7_result_89 (Sum.inr.inj (congrArg Prod.snd h61_i)) (congrArg (fun q : BS × (Nat ⊕ Int32) => celB κ ad r0 q.1) h61_i)
          · have h21 := it_neg h19 hc26_4
            by_cases hc26_5 : p0 = 5
            · have h22 := it_pos h21 hc26_5
              refine lv_tableIn (pc := 15) (tgt := 90) (off := 75) X.1 X.2.1 dX7_result_15 (by rw [hc26_5]; decide) (by rw [hc26_5]; decide) (by rw [hc26_5]; decide +kernel) (by decide) ?_
              refine lq_aload_n (pc := 90) X dX7_result_90 rfl (lv_at hl11 0 rfl) ?_
              obtain ⟨t64, rfl, h65⟩ := de_some h22
              have hl66 : lv_has ls10 3 [(2, .ref (ad t64)), (0, .ref (ad 50)), (1, .int p0)] := hl11
              obtain ⟨ok67, h68⟩ := ck_some h65
              refine B_geti (pc := 91) (i := t64) (k := 1) X G7 rfl clX3 ok67 (by decide) rfl rfl fl_X7_221 dX7_result_91 ?_
              have h68_i := Option.some.inj h68
              exact m_iret (pc := 94) X G7 hr hlk dX7_result_94 (Sum.inr.inj (congrArg Prod.snd h68_i)) (congrArg (fun q : BS × (Nat ⊕ Int32) => celB κ ad r0 q.1) h68_i)
            · have h23 := it_neg h21 hc26_5
              by_cases hc26_6 : p0 = 6
              · have h24 := it_pos h23 hc26_6
                refine lv_tableIn (pc := 15) (tgt := 95) (off := 80) X.1 X.2.1 dX7_result_15 (by rw [hc26_6]; decide) (by rw [hc26_6]; decide) (by rw [hc26_6]; decide +kernel) (by decide) ?_
                refine lq_aload_n (pc := 95) X dX7_result_95 rfl (lv_at hl11 0 rfl) ?_
                obtain ⟨t69, rfl, h70⟩ := de_some h24
                have hl71 : lv_has ls10 3 [(2, .ref (ad t69)), (0, .ref (ad 50)), (1, .int p0)] := hl11
                obtain ⟨ok72, h73⟩ := ck_some h70
                refine B_geti (pc := 96) (i := t69) (k := 2) X G7 rfl clX3 ok72 (by decide) rfl rfl fl_X7_224 dX7_result_96 ?_
                have h73_i := Option.some.inj h73
                exact m_iret (pc := 99) X G7 hr hlk dX7_result_99 (Sum.inr.inj (congrArg Prod.snd h73_i)) (congrArg (fun q : BS × (Nat ⊕ Int32) => celB κ ad r0 q.1) h73_i)
              · have h25 := it_neg h23 hc26_6
                refine lv_tableOut (pc := 15) (tgt := 100) X.1 X.2.1 dX7_result_15 (sw_out (n := 6) (by decide) (fun k hk => ?_)) (by decide) ?_
                · rcases (show k = 0 ∨ k = 1 ∨ k = 2 ∨ k = 3 ∨ k = 4 ∨ k = 5 ∨ k = 6 by omega) with rfl | rfl | rfl | rfl | rfl | rfl | rfl
                  · exact hc26_0
                  · exact hc26_1
                  · exact hc26_2
                  · exact hc26_3
                  · exact hc26_4
                  · exact hc26_5
                  · exact hc26_6
                · refine lq_aload_n (pc := 100) X dX7_result_100 rfl (lv_at hl11 0 rfl) ?_
                  obtain ⟨t74, rfl, h75⟩ := de_some h25
                  have hl76 : lv_has ls10 3 [(2, .ref (ad t74)), (0, .ref (ad 50)), (1, .int p0)] := hl11
                  obtain ⟨ok77, h78⟩ := ck_some h75
                  obtain ⟨x81, ex81, h79⟩ := bn_some h78
                  refine B_calli (pc := 101) (v := x81) (M' := (celB κ ad r0 b)) (i := t74) (As := []) (rest := []) X G7 (rm := rm3_listedCalls) rfl rfl rfl (c3_listedCalls l D κ A ad r0 b t74 x81 ex81) (B_rcv (ci := 3) ok77 (by decide)) rfl g_X7_227 hd_yX3_listedCalls ⟨Nat.le_of_ble_eq_true rfl, Nat.le_of_ble_eq_true rfl⟩ rfl hl76 rfl (lv_room (Nat.le_of_ble_eq_true rfl)) dX7_result_101 ⟨Nat.le_of_ble_eq_true rfl, Nat.le_of_ble_eq_true rfl⟩ (fun H locs G80 => ?_)
                  have h79_i := Option.some.inj h79
                  exact m_iret (pc := 104) X G80 hr hlk dX7_result_104 (Sum.inr.inj (congrArg Prod.snd h79_i)) (congrArg (fun q : BS × (Nat ⊕ Int32) => celB κ ad r0 q.1) h79_i)

abbrev rmn7_trace : Room := { frames := 7, cells := 0, slots := 0, locals := 103 }
set_option maxHeartbeats 4000000 in
set_option maxRecDepth 100000 in
theorem n7_trace (l : Launch) (D : va_G) (κ : Nat → ClassId) (A : Nat → Prop) (ad : Nat → Nat) (r0 : Nat → Option va_E) (b : BS) (p0 : Int32) (p1 : Int32) (res : BS × Int32) (h : F7_trace b p0 p1 = some (res.1, .inr res.2)) : Met l yX7_trace (gw yX7_trace cX7_trace 3 (some (FieldType.int))) rmn7_trace (va_Pc [.ref (ad 50), .int p0, .int p1] (MW D κ A ad (celB κ ad r0 b))) (QI D κ A ad (celB κ ad r0 res.1) res.2) 0 0 A := by
  refine met_of (own := RX7) (by decide +kernel) rfl (Nat.le_of_ble_eq_true rfl) ?_
  intro p e s m below meth c ls X hr hlk G hl
  have hl : lv_has ls 3 [(0, .ref (ad 50)), (1, .int p0), (2, .int p1)] := hl
  unfold F7_trace at h
  refine lv_iload_n (pc := 0) X.1 X.2.1 dX7_trace_0 rfl (lv_at hl 1 rfl) ?_
  refine lv_if_ge (pc := 1) (tgt := 14) X.1 X.2.1 dX7_trace_1 (by decide) (fun hc1 => ?_) (fun hc1 => ?_)
  · have h2 := it_pos h hc1
    refine lv_iload_n (pc := 14) X.1 X.2.1 dX7_trace_14 rfl (lv_at hl 2 rfl) ?_
    refine lv_iconst (pc := 15) (v := 5) X.1 X.2.1 dX7_trace_15 (by decide) ?_
    rcases bx_some h2 with ⟨u4, k5, e7, h8⟩ | ⟨u4, v6, e7, h9⟩
    · exact nomatch (show (Sum.inl k5 : Nat ⊕ Int32) = Sum.inr _ from congrArg Prod.snd (Option.some.inj h8))
    refine m_callsv0 (pc := 16) (As := [.int p1, .int 5]) (rest := []) X G (rm := rmn7_requireWhat) rfl rfl (n7_requireWhat l D κ A ad (celB κ ad r0 b) p1 5 e7) g_X7_169 hs_yX7_requireWhat ⟨Nat.le_of_ble_eq_true rfl, Nat.le_of_ble_eq_true rfl⟩ rfl hl rfl (lv_room (Nat.le_of_ble_eq_true rfl)) dX7_trace_16 ⟨Nat.le_of_ble_eq_true rfl, Nat.le_of_ble_eq_true rfl⟩ (fun H locs G10 => ?_)
    refine lv_aload_n (pc := 19) X.1 X.2.1 dX7_trace_19 rfl (lv_at hl 0 rfl) ?_
    refine B_getc (pc := 20) (i := 50) (k := 0) (j := 70) X G10 rfl clX7 (okL50 _) (by decide) rfl fl_X7_10 dX7_trace_20 ?_
    obtain ⟨o11, eo11, h12⟩ := bd_some h9
    refine B_getm (pc := 23) (i := 70) (k := 1) (o := o11) X G10 rfl clX5 (okL70 _) (by decide) rfl rfl eo11 fl_X7_111 dX7_trace_23 ?_
    refine lv_iload_n (pc := 26) X.1 X.2.1 dX7_trace_26 rfl (lv_at hl 1 rfl) ?_
    refine lv_iload_n (pc := 27) X.1 X.2.1 dX7_trace_27 rfl (lv_at hl 2 rfl) ?_
    obtain ⟨t13, rfl, h14⟩ := de_some h12
    have hl15 : lv_has ls 3 [(0, .ref (ad 50)), (1, .int p0), (2, .int p1)] := hl
    obtain ⟨ok16, h17⟩ := ck_some h14
    obtain ⟨x20, ex20, h18⟩ := bn_some h17
    refine B_calli (pc := 28) (v := x20) (M' := (celB κ ad r0 b)) (i := t13) (As := [.int p0, .int p1]) (rest := []) X G10 (rm := rm3_numberOfCall) rfl rfl rfl (c3_numberOfCall l D κ A ad r0 b t13 p0 p1 x20 ex20) (B_rcv (ci := 3) ok16 (by decide)) rfl g_X7_230 hd_yX3_numberOfCall ⟨Nat.le_of_ble_eq_true rfl, Nat.le_of_ble_eq_true rfl⟩ rfl hl15 rfl (lv_room (Nat.le_of_ble_eq_true rfl)) dX7_trace_28 ⟨Nat.le_of_ble_eq_true rfl, Nat.le_of_ble_eq_true rfl⟩ (fun H locs G19 => ?_)
    have h18_i := Option.some.inj h18
    exact m_iret (pc := 31) X G19 hr hlk dX7_trace_31 (Sum.inr.inj (congrArg Prod.snd h18_i)) (congrArg (fun q : BS × (Nat ⊕ Int32) => celB κ ad r0 q.1) h18_i)
  · have h3 := it_neg h hc1
    exact nomatch (show (Sum.inl 2 : Nat ⊕ Int32) = Sum.inr _ from congrArg Prod.snd (Option.some.inj h3))

abbrev rmn7_lengthOf : Room := { frames := 53, cells := 0, slots := 0, locals := 1715 }
set_option maxHeartbeats 4000000 in
set_option maxRecDepth 100000 in
theorem n7_lengthOf (l : Launch) (D : va_G) (κ : Nat → ClassId) (A : Nat → Prop) (ad : Nat → Nat) (r0 : Nat → Option va_E) (b : BS) (p0 : Int32) (p1 : Int32) (res : BS × Int32) (h : F7_lengthOf b p0 p1 = some (res.1, .inr res.2)) : Met l yX7_lengthOf (gw yX7_lengthOf cX7_lengthOf 4 (some (FieldType.int))) rmn7_lengthOf (va_Pc [.ref (ad 50), .int p0, .int p1] (MW D κ A ad (celB κ ad r0 b))) (QI D κ A ad (celB κ ad r0 res.1) res.2) 0 0 A := by
  refine met_of (own := RX7) (by decide +kernel) rfl (Nat.le_of_ble_eq_true rfl) ?_
  intro p e s m below meth c ls X hr hlk G hl
  have hl : lv_has ls 4 [(0, .ref (ad 50)), (1, .int p0), (2, .int p1)] := hl
  unfold F7_lengthOf at h
  refine lv_iload_n (pc := 0) X.1 X.2.1 dX7_lengthOf_0 rfl (lv_at hl 1 rfl) ?_
  rcases bx_some h with ⟨u1, k2, e4, h5⟩ | ⟨u1, v3, e4, h6⟩
  · exact nomatch (show (Sum.inl k2 : Nat ⊕ Int32) = Sum.inr _ from congrArg Prod.snd (Option.some.inj h5))
  refine m_callsv0 (pc := 1) (As := [.int p0]) (rest := []) X G (rm := rmn7_requireLetter) rfl rfl (n7_requireLetter l D κ A ad (celB κ ad r0 b) p0 e4) g_X7_52 hs_yX7_requireLetter ⟨Nat.le_of_ble_eq_true rfl, Nat.le_of_ble_eq_true rfl⟩ rfl hl rfl (lv_room (Nat.le_of_ble_eq_true rfl)) dX7_lengthOf_1 ⟨Nat.le_of_ble_eq_true rfl, Nat.le_of_ble_eq_true rfl⟩ (fun H locs G7 => ?_)
  refine lv_iload_n (pc := 4) X.1 X.2.1 dX7_lengthOf_4 rfl (lv_at hl 2 rfl) ?_
  obtain ⟨k8, ek8, h9⟩ := jp_some h6
  have hk8 : ∀  (H : Heap) (locs : List Loc) (ls : Array Slot), k8 () = some (res.1, .inr res.2) → Mm D κ A ad (celB κ ad r0 b) s H locs → lv_has ls 4 [] → W p l e rmn7_lengthOf s m [.ref (ad 50), .int p0, .int p1].toArray below meth c H locs 0 0 (MQ below (QI D κ A ad (celB κ ad r0 res.1) res.2) [.ref (ad 50), .int p0, .int p1].toArray s 0 0 A) (F0 m 14 ls []) := by
    intro  H locs ls37 h34 G35 hl36
    rw [ek8] at h34
    try dsimp only at h34
    exact nomatch (show (Sum.inl 2 : Nat ⊕ Int32) = Sum.inr _ from congrArg Prod.snd (Option.some.inj h34))
  refine lv_if_lt (pc := 5) (tgt := 14) X.1 X.2.1 dX7_lengthOf_5 (by decide) (fun hc10 => ?_) (fun hc10 => ?_)
  · have h11 := it_pos h9 hc10
    exact hk8  _ _ ls h11 G7 (lv_sub hl [] rfl)
  · have h12 := it_neg h9 hc10
    refine lv_iload_n (pc := 8) X.1 X.2.1 dX7_lengthOf_8 rfl (lv_at hl 2 rfl) ?_
    refine lv_bipush (pc := 9) (v := 20) X.1 X.2.1 dX7_lengthOf_9 (by decide) ?_
    refine lv_icmp_le (pc := 11) (tgt := 24) X.1 X.2.1 dX7_lengthOf_11 (by decide) (fun hc13 => ?_) (fun hc13 => ?_)
    · have h14 := it_pos h12 hc13
      refine lv_aload_n (pc := 24) X.1 X.2.1 dX7_lengthOf_24 rfl (lv_at hl 0 rfl) ?_
      refine B_getc (pc := 25) (i := 50) (k := 0) (j := 70) X G7 rfl clX7 (okL50 _) (by decide) rfl fl_X7_10 dX7_lengthOf_25 ?_
      refine lv_iload_n (pc := 28) X.1 X.2.1 dX7_lengthOf_28 rfl (lv_at hl 1 rfl) ?_
      obtain ⟨o18, eo18, h16⟩ := bn_some h14
      refine B_callq (pc := 29) (v := o18) (M' := (celB κ ad r0 b)) (i := 70) (As := [.int p0]) (rest := []) X G7 (rm := rm5_definitionOf) rfl rfl rfl (c5_definitionOf l D κ A ad r0 b 70 p0 o18 eo18) (B_rcv (ci := 5) (okL70 _) (by decide)) rfl g_X7_87 hd_yX5_definitionOf ⟨Nat.le_of_ble_eq_true rfl, Nat.le_of_ble_eq_true rfl⟩ rfl hl rfl (lv_room (Nat.le_of_ble_eq_true rfl)) dX7_lengthOf_29 ⟨Nat.le_of_ble_eq_true rfl, Nat.le_of_ble_eq_true rfl⟩ (fun H locs G17 => ?_)
      refine lq_astore_n (pc := 32) (lv' := [(3, va_rf (o18.map ad)), (0, .ref (ad 50)), (1, .int p0), (2, .int p1)]) X dX7_lengthOf_32 rfl hl (by decide) rfl (fun ls19 hl20 => ?_)
      refine lq_aload_n (pc := 33) X dX7_lengthOf_33 rfl (lv_at hl20 0 rfl) ?_
      rcases o18 with _ | t21
      · have h22 := on_n h16
        have hl24 : lv_has ls19 4 [(3, va_rf ((none : Option Nat).map ad)), (0, .ref (ad 50)), (1, .int p0), (2, .int p1)] := hl20
        refine lv_ifnonnullN (pc := 34) X.1 X.2.1 dX7_lengthOf_34 ?_
        refine lv_iconst (pc := 37) (v := (-1)) X.1 X.2.1 dX7_lengthOf_37 (by decide) ?_
        have h22_i := Option.some.inj h22
        exact m_iret (pc := 38) X G17 hr hlk dX7_lengthOf_38 (Sum.inr.inj (congrArg Prod.snd h22_i)) (congrArg (fun q : BS × (Nat ⊕ Int32) => celB κ ad r0 q.1) h22_i)
      · have h23 := on_s h16
        have hl25 : lv_has ls19 4 [(3, .ref (ad t21)), (0, .ref (ad 50)), (1, .int p0), (2, .int p1)] := hl20
        refine lv_ifnonnull (pc := 34) (tgt := 39) (x := ad t21) X.1 X.2.1 dX7_lengthOf_34 (by decide) ?_
        refine lv_aload_n (pc := 39) X.1 X.2.1 dX7_lengthOf_39 rfl (lv_at hl25 1 rfl) ?_
        refine B_getc (pc := 40) (i := 50) (k := 5) (j := 57) X G17 rfl clX7 (okL50 _) (by decide) rfl fl_X7_44 dX7_lengthOf_40 ?_
        refine lv_aload_n (pc := 43) X.1 X.2.1 dX7_lengthOf_43 rfl (lv_at hl25 1 rfl) ?_
        refine B_getc (pc := 44) (i := 50) (k := 0) (j := 70) X G17 rfl clX7 (okL50 _) (by decide) rfl fl_X7_10 dX7_lengthOf_44 ?_
        refine lv_iload_n (pc := 47) X.1 X.2.1 dX7_lengthOf_47 rfl (lv_at hl25 2 rfl) ?_
        refine lv_aload_n (pc := 48) X.1 X.2.1 dX7_lengthOf_48 rfl (lv_at hl25 0 rfl) ?_
        obtain ⟨ok28, h29⟩ := ck_some h23
        refine B_geti (pc := 49) (i := t21) (k := 1) X G17 rfl clX6 ok28 (by decide) rfl rfl fl_X7_76 dX7_lengthOf_49 ?_
        refine lv_iload_n (pc := 52) X.1 X.2.1 dX7_lengthOf_52 rfl (lv_at hl25 3 rfl) ?_
        obtain ⟨b33, x32, ex32, h30⟩ := bn2_some h29
        refine B_calli (pc := 53) (v := x32) (M' := (celB κ ad r0 b33)) (i := 57) (As := [.ref (ad 70), .int p0, .int (b.1 t21 1), .int p1]) (rest := []) X G17 (rm := rm1_measureCall) rfl rfl rfl (c1_measureCall l D κ A ad r0 b 70 p0 (b.1 t21 1) p1 (b33, x32) ex32) (B_rcv (ci := 1) (okL57 _) (by decide)) rfl g_X7_235 hd_yX1_measureCall ⟨Nat.le_of_ble_eq_true rfl, Nat.le_of_ble_eq_true rfl⟩ rfl hl25 rfl (lv_room (Nat.le_of_ble_eq_true rfl)) dX7_lengthOf_53 ⟨Nat.le_of_ble_eq_true rfl, Nat.le_of_ble_eq_true rfl⟩ (fun H locs G31 => ?_)
        have h30_i := Option.some.inj h30
        exact m_iret (pc := 56) X G31 hr hlk dX7_lengthOf_56 (Sum.inr.inj (congrArg Prod.snd h30_i)) (congrArg (fun q : BS × (Nat ⊕ Int32) => celB κ ad r0 q.1) h30_i)
    · have h15 := it_neg h12 hc13
      exact hk8  _ _ ls h15 G7 (lv_sub hl [] rfl)

abbrev rmn7_undo : Room := { frames := 6, cells := 0, slots := 0, locals := 82 }
set_option maxHeartbeats 4000000 in
set_option maxRecDepth 100000 in
theorem n7_undo (l : Launch) (D : va_G) (κ : Nat → ClassId) (A : Nat → Prop) (ad : Nat → Nat) (r0 : Nat → Option va_E) (b : BS)  (res : BS × Int32) (h : F7_undo b  = some (res.1, .inr res.2)) : Met l yX7_undo (gw yX7_undo cX7_undo 1 (some (FieldType.int))) rmn7_undo (va_Pc [.ref (ad 50)] (MW D κ A ad (celB κ ad r0 b))) (QI D κ A ad (celB κ ad r0 res.1) res.2) 0 0 A := by
  refine met_of (own := RX7) (by decide +kernel) rfl (Nat.le_of_ble_eq_true rfl) ?_
  intro p e s m below meth c ls X hr hlk G hl
  have hl : lv_has ls 1 [(0, .ref (ad 50))] := hl
  unfold F7_undo at h
  refine lv_aload_n (pc := 0) X.1 X.2.1 dX7_undo_0 rfl (lv_at hl 0 rfl) ?_
  refine B_getc (pc := 1) (i := 50) (k := 1) (j := 63) X G rfl clX7 (okL50 _) (by decide) rfl fl_X7_19 dX7_undo_1 ?_
  refine lv_aload_n (pc := 4) X.1 X.2.1 dX7_undo_4 rfl (lv_at hl 0 rfl) ?_
  refine B_getc (pc := 5) (i := 50) (k := 0) (j := 70) X G rfl clX7 (okL50 _) (by decide) rfl fl_X7_10 dX7_undo_5 ?_
  obtain ⟨b4, x3, ex3, h1⟩ := bn2_some h
  refine B_calli (pc := 8) (v := x3) (M' := (celB κ ad r0 b4)) (i := 63) (As := [.ref (ad 70)]) (rest := []) X G (rm := rm2_restoreSaved) rfl rfl rfl (c2_restoreSaved l D κ A ad r0 b 70 (b4, x3) ex3) (B_rcv (ci := 2) (okL63 _) (by decide)) rfl g_X7_144 hd_yX2_restoreSaved ⟨Nat.le_of_ble_eq_true rfl, Nat.le_of_ble_eq_true rfl⟩ rfl hl rfl (lv_room (Nat.le_of_ble_eq_true rfl)) dX7_undo_8 ⟨Nat.le_of_ble_eq_true rfl, Nat.le_of_ble_eq_true rfl⟩ (fun H locs G2 => ?_)
  refine lv_if_ne (pc := 11) (tgt := 24) X.1 X.2.1 dX7_undo_11 (by decide) (fun hc5 => ?_) (fun hc5 => ?_)
  · have h6 := it_pos h1 hc5
    refine lv_aload_n (pc := 24) X.1 X.2.1 dX7_undo_24 rfl (lv_at hl 0 rfl) ?_
    refine B_getc (pc := 25) (i := 50) (k := 1) (j := 63) X G2 rfl clX7 (okL50 _) (by decide) rfl fl_X7_19 dX7_undo_25 ?_
    refine B_geti (pc := 28) (i := 63) (k := 3) X G2 rfl clX2 (okL63 _) (by decide) rfl rfl fl_X7_150 dX7_undo_28 ?_
    have h6_i := Option.some.inj h6
    exact m_iret (pc := 31) X G2 hr hlk dX7_undo_31 (Sum.inr.inj (congrArg Prod.snd h6_i)) (congrArg (fun q : BS × (Nat ⊕ Int32) => celB κ ad r0 q.1) h6_i)
  · have h7 := it_neg h1 (fun q => q hc5)
    exact nomatch (show (Sum.inl 3 : Nat ⊕ Int32) = Sum.inr _ from congrArg Prod.snd (Option.some.inj h7))

abbrev rmn7_count : Room := { frames := 7, cells := 0, slots := 0, locals := 103 }
set_option maxHeartbeats 4000000 in
set_option maxRecDepth 100000 in
theorem n7_count (l : Launch) (D : va_G) (κ : Nat → ClassId) (A : Nat → Prop) (ad : Nat → Nat) (r0 : Nat → Option va_E) (b : BS) (p0 : Int32) (res : BS × Int32) (h : F7_count b p0 = some (res.1, .inr res.2)) : Met l yX7_count (gw yX7_count cX7_count 2 (some (FieldType.int))) rmn7_count (va_Pc [.ref (ad 50), .int p0] (MW D κ A ad (celB κ ad r0 b))) (QI D κ A ad (celB κ ad r0 res.1) res.2) 0 0 A := by
  refine met_of (own := RX7) (by decide +kernel) rfl (Nat.le_of_ble_eq_true rfl) ?_
  intro p e s m below meth c ls X hr hlk G hl
  have hl : lv_has ls 2 [(0, .ref (ad 50)), (1, .int p0)] := hl
  unfold F7_count at h
  refine lv_iload_n (pc := 0) X.1 X.2.1 dX7_count_0 rfl (lv_at hl 1 rfl) ?_
  refine lv_bipush (pc := 1) (v := 7) X.1 X.2.1 dX7_count_1 (by decide) ?_
  rcases bx_some h with ⟨u1, k2, e4, h5⟩ | ⟨u1, v3, e4, h6⟩
  · exact nomatch (show (Sum.inl k2 : Nat ⊕ Int32) = Sum.inr _ from congrArg Prod.snd (Option.some.inj h5))
  refine m_callsv0 (pc := 3) (As := [.int p0, .int 7]) (rest := []) X G (rm := rmn7_requireWhat) rfl rfl (n7_requireWhat l D κ A ad (celB κ ad r0 b) p0 7 e4) g_X7_169 hs_yX7_requireWhat ⟨Nat.le_of_ble_eq_true rfl, Nat.le_of_ble_eq_true rfl⟩ rfl hl rfl (lv_room (Nat.le_of_ble_eq_true rfl)) dX7_count_3 ⟨Nat.le_of_ble_eq_true rfl, Nat.le_of_ble_eq_true rfl⟩ (fun H locs G7 => ?_)
  refine lv_iload_n (pc := 6) X.1 X.2.1 dX7_count_6 rfl (lv_at hl 1 rfl) ?_
  by_cases hc22_0 : p0 = 0
  · have h8 := it_pos h6 hc22_0
    refine lv_tableIn (pc := 7) (tgt := 48) (off := 41) X.1 X.2.1 dX7_count_7 (by rw [hc22_0]; decide) (by rw [hc22_0]; decide) (by rw [hc22_0]; decide +kernel) (by decide) ?_
    refine lv_aload_n (pc := 48) X.1 X.2.1 dX7_count_48 rfl (lv_at hl 0 rfl) ?_
    refine B_getc (pc := 49) (i := 50) (k := 0) (j := 70) X G7 rfl clX7 (okL50 _) (by decide) rfl fl_X7_10 dX7_count_49 ?_
    obtain ⟨x25, ex25, h23⟩ := bn_some h8
    refine B_calli (pc := 52) (v := x25) (M' := (celB κ ad r0 b)) (i := 70) (As := []) (rest := []) X G7 (rm := rm5_definedCount) rfl rfl rfl (c5_definedCount l D κ A ad r0 b 70 x25 ex25) (B_rcv (ci := 5) (okL70 _) (by decide)) rfl g_X7_83 hd_yX5_definedCount ⟨Nat.le_of_ble_eq_true rfl, Nat.le_of_ble_eq_true rfl⟩ rfl hl rfl (lv_room (Nat.le_of_ble_eq_true rfl)) dX7_count_52 ⟨Nat.le_of_ble_eq_true rfl, Nat.le_of_ble_eq_true rfl⟩ (fun H locs G24 => ?_)
    have h23_i := Option.some.inj h23
    exact m_iret (pc := 55) X G24 hr hlk dX7_count_55 (Sum.inr.inj (congrArg Prod.snd h23_i)) (congrArg (fun q : BS × (Nat ⊕ Int32) => celB κ ad r0 q.1) h23_i)
  · have h9 := it_neg h6 hc22_0
    by_cases hc22_1 : p0 = 1
    · have h10 := it_pos h9 hc22_1
      refine lv_tableIn (pc := 7) (tgt := 56) (off := 49) X.1 X.2.1 dX7_count_7 (by rw [hc22_1]; decide) (by rw [hc22_1]; decide) (by rw [hc22_1]; decide +kernel) (by decide) ?_
      refine lv_aload_n (pc := 56) X.1 X.2.1 dX7_count_56 rfl (lv_at hl 0 rfl) ?_
      refine B_getc (pc := 57) (i := 50) (k := 0) (j := 70) X G7 rfl clX7 (okL50 _) (by decide) rfl fl_X7_10 dX7_count_57 ?_
      obtain ⟨x28, ex28, h26⟩ := bn_some h10
      refine B_calli (pc := 60) (v := x28) (M' := (celB κ ad r0 b)) (i := 70) (As := []) (rest := []) X G7 (rm := rm5_definedSet) rfl rfl rfl (c5_definedSet l D κ A ad r0 b 70 x28 ex28) (B_rcv (ci := 5) (okL70 _) (by decide)) rfl g_X7_239 hd_yX5_definedSet ⟨Nat.le_of_ble_eq_true rfl, Nat.le_of_ble_eq_true rfl⟩ rfl hl rfl (lv_room (Nat.le_of_ble_eq_true rfl)) dX7_count_60 ⟨Nat.le_of_ble_eq_true rfl, Nat.le_of_ble_eq_true rfl⟩ (fun H locs G27 => ?_)
      have h26_i := Option.some.inj h26
      exact m_iret (pc := 63) X G27 hr hlk dX7_count_63 (Sum.inr.inj (congrArg Prod.snd h26_i)) (congrArg (fun q : BS × (Nat ⊕ Int32) => celB κ ad r0 q.1) h26_i)
    · have h11 := it_neg h9 hc22_1
      by_cases hc22_2 : p0 = 2
      · have h12 := it_pos h11 hc22_2
        refine lv_tableIn (pc := 7) (tgt := 64) (off := 57) X.1 X.2.1 dX7_count_7 (by rw [hc22_2]; decide) (by rw [hc22_2]; decide) (by rw [hc22_2]; decide +kernel) (by decide) ?_
        refine lv_aload_n (pc := 64) X.1 X.2.1 dX7_count_64 rfl (lv_at hl 0 rfl) ?_
        refine B_getc (pc := 65) (i := 50) (k := 0) (j := 70) X G7 rfl clX7 (okL50 _) (by decide) rfl fl_X7_10 dX7_count_65 ?_
        refine B_geti (pc := 68) (i := 70) (k := 2) X G7 rfl clX5 (okL70 _) (by decide) rfl rfl fl_X7_97 dX7_count_68 ?_
        have h12_i := Option.some.inj h12
        exact m_iret (pc := 71) X G7 hr hlk dX7_count_71 (Sum.inr.inj (congrArg Prod.snd h12_i)) (congrArg (fun q : BS × (Nat ⊕ Int32) => celB κ ad r0 q.1) h12_i)
      · have h13 := it_neg h11 hc22_2
        by_cases hc22_3 : p0 = 3
        · have h14 := it_pos h13 hc22_3
          refine lv_tableIn (pc := 7) (tgt := 72) (off := 65) X.1 X.2.1 dX7_count_7 (by rw [hc22_3]; decide) (by rw [hc22_3]; decide) (by rw [hc22_3]; decide +kernel) (by decide) ?_
          refine lv_aload_n (pc := 72) X.1 X.2.1 dX7_count_72 rfl (lv_at hl 0 rfl) ?_
          refine B_getc (pc := 73) (i := 50) (k := 0) (j := 70) X G7 rfl clX7 (okL50 _) (by decide) rfl fl_X7_10 dX7_count_73 ?_
          refine B_geti (pc := 76) (i := 70) (k := 3) X G7 rfl clX5 (okL70 _) (by decide) rfl rfl fl_X7_115 dX7_count_76 ?_
          have h14_i := Option.some.inj h14
          exact m_iret (pc := 79) X G7 hr hlk dX7_count_79 (Sum.inr.inj (congrArg Prod.snd h14_i)) (congrArg (fun q : BS × (Nat ⊕ Int32) => celB κ ad r0 q.1) h14_i)
        · have h15 := it_neg h13 hc22_3
          by_cases hc22_4 : p0 = 4
          · have h16 := it_pos h15 hc22_4
            refine lv_tableIn (pc := 7) (tgt := 80) (off := 73) X.1 X.2.1 dX7_count_7 (by rw [hc22_4]; decide) (by rw [hc22_4]; decide) (by rw [hc22_4]; decide +kernel) (by decide) ?_
            refine lv_aload_n (pc := 80) X.1 X.2.1 dX7_count_80 rfl (lv_at hl 0 rfl) ?_
            refine B_getc (pc := 81) (i := 50) (k := 0) (j := 70) X G7 rfl clX7 (okL50 _) (by decide) rfl fl_X7_10 dX7_count_81 ?_
            refine B_geti (pc := 84) (i := 70) (k := 4) X G7 rfl clX5 (okL70 _) (by decide) rfl rfl fl_X7_104 dX7_count_84 ?_
            have h16_i := Option.some.inj h16
            exact m_iret (pc := 87) X G7 hr hlk dX7_count_87 (Sum.inr.inj (congrArg Prod.snd h16_i)) (congrArg (fun q : BS × (Nat ⊕ Int32) => celB κ ad r0 q.1) h16_i)
          · have h17 := it_neg h15 hc22_4
            by_cases hc22_5 : p0 = 5
            · have h18 := it_pos h17 hc22_5
              refine lv_tableIn (pc := 7) (tgt := 88) (off := 81) X.1 X.2.1 dX7_count_7 (by rw [hc22_5]; decide) (by rw [hc22_5]; decide) (by rw [hc22_5]; decide +kernel) (by decide) ?_
              refine lv_aload_n (pc := 88) X.1 X.2.1 dX7_count_88 rfl (lv_at hl 0 rfl) ?_
              refine B_getc (pc := 89) (i := 50) (k := 0) (j := 70) X G7 rfl clX7 (okL50 _) (by decide) rfl fl_X7_10 dX7_count_89 ?_
              obtain ⟨x31, ex31, h29⟩ := bn_some h18
              refine B_calli (pc := 92) (v := x31) (M' := (celB κ ad r0 b)) (i := 70) (As := []) (rest := []) X G7 (rm := rm5_callsOfBodies) rfl rfl rfl (c5_callsOfBodies l D κ A ad r0 b 70 x31 ex31) (B_rcv (ci := 5) (okL70 _) (by decide)) rfl g_X7_242 hd_yX5_callsOfBodies ⟨Nat.le_of_ble_eq_true rfl, Nat.le_of_ble_eq_true rfl⟩ rfl hl rfl (lv_room (Nat.le_of_ble_eq_true rfl)) dX7_count_92 ⟨Nat.le_of_ble_eq_true rfl, Nat.le_of_ble_eq_true rfl⟩ (fun H locs G30 => ?_)
              have h29_i := Option.some.inj h29
              exact m_iret (pc := 95) X G30 hr hlk dX7_count_95 (Sum.inr.inj (congrArg Prod.snd h29_i)) (congrArg (fun q : BS × (Nat ⊕ Int32) => celB κ ad r0 q.1) h29_i)
            · have h19 := it_neg h17 hc22_5
              by_cases hc22_6 : p0 = 6
              · have h20 := it_pos h19 hc22_6
                refine lv_tableIn (pc := 7) (tgt := 96) (off := 89) X.1 X.2.1 dX7_count_7 (by rw [hc22_6]; decide) (by rw [hc22_6]; decide) (by rw [hc22_6]; decide +kernel) (by decide) ?_
                refine lv_aload_n (pc := 96) X.1 X.2.1 dX7_count_96 rfl (lv_at hl 0 rfl) ?_
                refine B_getc (pc := 97) (i := 50) (k := 1) (j := 63) X G7 rfl clX7 (okL50 _) (by decide) rfl fl_X7_19 dX7_count_97 ?_
                refine B_geti (pc := 100) (i := 63) (k := 3) X G7 rfl clX2 (okL63 _) (by decide) rfl rfl fl_X7_150 dX7_count_100 ?_
                have h20_i := Option.some.inj h20
                exact m_iret (pc := 103) X G7 hr hlk dX7_count_103 (Sum.inr.inj (congrArg Prod.snd h20_i)) (congrArg (fun q : BS × (Nat ⊕ Int32) => celB κ ad r0 q.1) h20_i)
              · have h21 := it_neg h19 hc22_6
                refine lv_tableOut (pc := 7) (tgt := 104) X.1 X.2.1 dX7_count_7 (sw_out (n := 6) (by decide) (fun k hk => ?_)) (by decide) ?_
                · rcases (show k = 0 ∨ k = 1 ∨ k = 2 ∨ k = 3 ∨ k = 4 ∨ k = 5 ∨ k = 6 by omega) with rfl | rfl | rfl | rfl | rfl | rfl | rfl
                  · exact hc22_0
                  · exact hc22_1
                  · exact hc22_2
                  · exact hc22_3
                  · exact hc22_4
                  · exact hc22_5
                  · exact hc22_6
                · refine lv_aload_n (pc := 104) X.1 X.2.1 dX7_count_104 rfl (lv_at hl 0 rfl) ?_
                  refine B_geti (pc := 105) (i := 50) (k := 6) X G7 rfl clX7 (okL50 _) (by decide) rfl rfl fl_X7_48 dX7_count_105 ?_
                  have h21_i := Option.some.inj h21
                  exact m_iret (pc := 108) X G7 hr hlk dX7_count_108 (Sum.inr.inj (congrArg Prod.snd h21_i)) (congrArg (fun q : BS × (Nat ⊕ Int32) => celB κ ad r0 q.1) h21_i)
