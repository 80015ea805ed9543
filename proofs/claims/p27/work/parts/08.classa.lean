/-! THE CLASS, laid by wip/whole/walkb.py -/
theorem g_X0_43 : GoodIn G0 (va_wsS RX0 43 yX0_holds (gw yX0_holds cX0_holds 2 (some (FieldType.boolean)))) := gsS_in ml_X0_43 sm_yX0_holds ini_X0 cd_yX0_holds
theorem hs_yX0_holds : yX0_holds.cls ≠ "java/lang/invoke/MethodHandle" ∧ yX0_holds.cls ≠ "java/lang/invoke/VarHandle" ∧ (parseMethodDescriptor yX0_holds.desc).map (fun d => d.parameters.length) = some 2 := by decide +kernel
theorem g_X1_122 : GoodIn G0 (va_wsS RX1 122 yX1_signOf (gw yX1_signOf cX1_signOf 1 (some (FieldType.int)))) := gsS_in ml_X1_122 sm_yX1_signOf ini_X1 cd_yX1_signOf
theorem hs_yX1_signOf : yX1_signOf.cls ≠ "java/lang/invoke/MethodHandle" ∧ yX1_signOf.cls ≠ "java/lang/invoke/VarHandle" ∧ (parseMethodDescriptor yX1_signOf.desc).map (fun d => d.parameters.length) = some 1 := by decide +kernel
theorem g_X0_22 : GoodIn G0 (wsV RX0 22 RX5 yX5_definedSet (gw yX5_definedSet cX5_definedSet 3 (some (FieldType.int)))) := gv_in ml_X0_22 im_yX5_definedSet se_yX5_definedSet ini_X5 cd_yX5_definedSet
theorem hd_yX5_definedSet : yX5_definedSet.cls = RX5 ∧ yX5_definedSet.cls ≠ "java/lang/invoke/MethodHandle" ∧ yX5_definedSet.cls ≠ "java/lang/invoke/VarHandle" ∧ (parseMethodDescriptor yX5_definedSet.desc).map (fun d => d.parameters.length) = some 0 := by decide +kernel
theorem g_X0_28 : GoodIn G0 (wsV RX0 28 RX5 yX5_definitionOf (gw yX5_definitionOf cX5_definitionOf 2 (some ((FieldType.object "AbbreviationBook$Text"))))) := gv_in ml_X0_28 im_yX5_definitionOf se_yX5_definitionOf ini_X5 cd_yX5_definitionOf
theorem hd_yX5_definitionOf : yX5_definitionOf.cls = RX5 ∧ yX5_definitionOf.cls ≠ "java/lang/invoke/MethodHandle" ∧ yX5_definitionOf.cls ≠ "java/lang/invoke/VarHandle" ∧ (parseMethodDescriptor yX5_definitionOf.desc).map (fun d => d.parameters.length) = some 1 := by decide +kernel
theorem g_X0_40 : GoodIn G0 (wsV RX0 40 RX0 yX0_followCalls (gw yX0_followCalls cX0_followCalls 3 none)) := gv_in ml_X0_40 im_yX0_followCalls se_yX0_followCalls ini_X0 cd_yX0_followCalls
theorem hd_yX0_followCalls : yX0_followCalls.cls = RX0 ∧ yX0_followCalls.cls ≠ "java/lang/invoke/MethodHandle" ∧ yX0_followCalls.cls ≠ "java/lang/invoke/VarHandle" ∧ (parseMethodDescriptor yX0_followCalls.desc).map (fun d => d.parameters.length) = some 0 := by decide +kernel
theorem g_X0_47 : GoodIn G0 (wsV RX0 47 RX0 yX0_calledInBodiesOf (gw yX0_calledInBodiesOf cX0_calledInBodiesOf 4 (some (FieldType.int)))) := gv_in ml_X0_47 im_yX0_calledInBodiesOf se_yX0_calledInBodiesOf ini_X0 cd_yX0_calledInBodiesOf
theorem hd_yX0_calledInBodiesOf : yX0_calledInBodiesOf.cls = RX0 ∧ yX0_calledInBodiesOf.cls ≠ "java/lang/invoke/MethodHandle" ∧ yX0_calledInBodiesOf.cls ≠ "java/lang/invoke/VarHandle" ∧ (parseMethodDescriptor yX0_calledInBodiesOf.desc).map (fun d => d.parameters.length) = some 1 := by decide +kernel
theorem g_X1_103 : GoodIn G0 (wsV RX1 103 RX1 yX1_writeSign (gw yX1_writeSign cX1_writeSign 2 none)) := gv_in ml_X1_103 im_yX1_writeSign se_yX1_writeSign ini_X1 cd_yX1_writeSign
theorem hd_yX1_writeSign : yX1_writeSign.cls = RX1 ∧ yX1_writeSign.cls ≠ "java/lang/invoke/MethodHandle" ∧ yX1_writeSign.cls ≠ "java/lang/invoke/VarHandle" ∧ (parseMethodDescriptor yX1_writeSign.desc).map (fun d => d.parameters.length) = some 1 := by decide +kernel
theorem g_X1_106 : GoodIn G0 (wsV RX1 106 RX1 yX1_markAt (gw yX1_markAt cX1_markAt 2 (some (FieldType.int)))) := gv_in ml_X1_106 im_yX1_markAt se_yX1_markAt ini_X1 cd_yX1_markAt
theorem hd_yX1_markAt : yX1_markAt.cls = RX1 ∧ yX1_markAt.cls ≠ "java/lang/invoke/MethodHandle" ∧ yX1_markAt.cls ≠ "java/lang/invoke/VarHandle" ∧ (parseMethodDescriptor yX1_markAt.desc).map (fun d => d.parameters.length) = some 1 := by decide +kernel
theorem g_X1_110 : GoodIn G0 (wsV RX1 110 RX1 yX1_writeCopy (gw yX1_writeCopy cX1_writeCopy 3 none)) := gv_in ml_X1_110 im_yX1_writeCopy se_yX1_writeCopy ini_X1 cd_yX1_writeCopy
theorem hd_yX1_writeCopy : yX1_writeCopy.cls = RX1 ∧ yX1_writeCopy.cls ≠ "java/lang/invoke/MethodHandle" ∧ yX1_writeCopy.cls ≠ "java/lang/invoke/VarHandle" ∧ (parseMethodDescriptor yX1_writeCopy.desc).map (fun d => d.parameters.length) = some 2 := by decide +kernel
theorem g_X1_114 : GoodIn G0 (wsV RX1 114 RX1 yX1_endingOf (gw yX1_endingOf cX1_endingOf 4 (some (FieldType.int)))) := gv_in ml_X1_114 im_yX1_endingOf se_yX1_endingOf ini_X1 cd_yX1_endingOf
theorem hd_yX1_endingOf : yX1_endingOf.cls = RX1 ∧ yX1_endingOf.cls ≠ "java/lang/invoke/MethodHandle" ∧ yX1_endingOf.cls ≠ "java/lang/invoke/VarHandle" ∧ (parseMethodDescriptor yX1_endingOf.desc).map (fun d => d.parameters.length) = some 3 := by decide +kernel
theorem g_X1_118 : GoodIn G0 (wsV RX1 118 RX1 yX1_writeBody (gw yX1_writeBody cX1_writeBody 7 none)) := gv_in ml_X1_118 im_yX1_writeBody se_yX1_writeBody ini_X1 cd_yX1_writeBody
theorem hd_yX1_writeBody : yX1_writeBody.cls = RX1 ∧ yX1_writeBody.cls ≠ "java/lang/invoke/MethodHandle" ∧ yX1_writeBody.cls ≠ "java/lang/invoke/VarHandle" ∧ (parseMethodDescriptor yX1_writeBody.desc).map (fun d => d.parameters.length) = some 5 := by decide +kernel
theorem g_X1_125 : GoodIn G0 (wsV RX1 125 RX1 yX1_moveSigns (gw yX1_moveSigns cX1_moveSigns 5 none)) := gv_in ml_X1_125 im_yX1_moveSigns se_yX1_moveSigns ini_X1 cd_yX1_moveSigns
theorem hd_yX1_moveSigns : yX1_moveSigns.cls = RX1 ∧ yX1_moveSigns.cls ≠ "java/lang/invoke/MethodHandle" ∧ yX1_moveSigns.cls ≠ "java/lang/invoke/VarHandle" ∧ (parseMethodDescriptor yX1_moveSigns.desc).map (fun d => d.parameters.length) = some 3 := by decide +kernel
theorem g_X1_129 : GoodIn G0 (wsV RX1 129 RX1 yX1_takesMore (gw yX1_takesMore cX1_takesMore 4 (some (FieldType.boolean)))) := gv_in ml_X1_129 im_yX1_takesMore se_yX1_takesMore ini_X1 cd_yX1_takesMore
theorem hd_yX1_takesMore : yX1_takesMore.cls = RX1 ∧ yX1_takesMore.cls ≠ "java/lang/invoke/MethodHandle" ∧ yX1_takesMore.cls ≠ "java/lang/invoke/VarHandle" ∧ (parseMethodDescriptor yX1_takesMore.desc).map (fun d => d.parameters.length) = some 1 := by decide +kernel
theorem g_X1_132 : GoodIn G0 (wsV RX1 132 RX1 yX1_listCall (gw yX1_listCall cX1_listCall 8 none)) := gv_in ml_X1_132 im_yX1_listCall se_yX1_listCall ini_X1 cd_yX1_listCall
theorem hd_yX1_listCall : yX1_listCall.cls = RX1 ∧ yX1_listCall.cls ≠ "java/lang/invoke/MethodHandle" ∧ yX1_listCall.cls ≠ "java/lang/invoke/VarHandle" ∧ (parseMethodDescriptor yX1_listCall.desc).map (fun d => d.parameters.length) = some 6 := by decide +kernel
theorem g_X1_136 : GoodIn G0 (wsV RX1 136 RX5 yX5_definitionOf (gw yX5_definitionOf cX5_definitionOf 2 (some ((FieldType.object "AbbreviationBook$Text"))))) := gv_in ml_X1_136 im_yX5_definitionOf se_yX5_definitionOf ini_X5 cd_yX5_definitionOf
theorem g_X1_56 : GoodIn G0 (wsV RX1 56 RX1 yX1_startOver (gw yX1_startOver cX1_startOver 2 none)) := gv_in ml_X1_56 im_yX1_startOver se_yX1_startOver ini_X1 cd_yX1_startOver
theorem hd_yX1_startOver : yX1_startOver.cls = RX1 ∧ yX1_startOver.cls ≠ "java/lang/invoke/MethodHandle" ∧ yX1_startOver.cls ≠ "java/lang/invoke/VarHandle" ∧ (parseMethodDescriptor yX1_startOver.desc).map (fun d => d.parameters.length) = some 1 := by decide +kernel
theorem g_X1_60 : GoodIn G0 (wsV RX1 60 RX1 yX1_setMark (gw yX1_setMark cX1_setMark 1 none)) := gv_in ml_X1_60 im_yX1_setMark se_yX1_setMark ini_X1 cd_yX1_setMark
theorem hd_yX1_setMark : yX1_setMark.cls = RX1 ∧ yX1_setMark.cls ≠ "java/lang/invoke/MethodHandle" ∧ yX1_setMark.cls ≠ "java/lang/invoke/VarHandle" ∧ (parseMethodDescriptor yX1_setMark.desc).map (fun d => d.parameters.length) = some 0 := by decide +kernel
theorem g_X1_63 : GoodIn G0 (wsV RX1 63 RX1 yX1_writeText (gw yX1_writeText cX1_writeText 10 none)) := gv_in ml_X1_63 im_yX1_writeText se_yX1_writeText ini_X1 cd_yX1_writeText
theorem hd_yX1_writeText : yX1_writeText.cls = RX1 ∧ yX1_writeText.cls ≠ "java/lang/invoke/MethodHandle" ∧ yX1_writeText.cls ≠ "java/lang/invoke/VarHandle" ∧ (parseMethodDescriptor yX1_writeText.desc).map (fun d => d.parameters.length) = some 6 := by decide +kernel
theorem g_X1_87 : GoodIn G0 (wsV RX1 87 RX1 yX1_letCallWait (gw yX1_letCallWait cX1_letCallWait 2 none)) := gv_in ml_X1_87 im_yX1_letCallWait se_yX1_letCallWait ini_X1 cd_yX1_letCallWait
theorem hd_yX1_letCallWait : yX1_letCallWait.cls = RX1 ∧ yX1_letCallWait.cls ≠ "java/lang/invoke/MethodHandle" ∧ yX1_letCallWait.cls ≠ "java/lang/invoke/VarHandle" ∧ (parseMethodDescriptor yX1_letCallWait.desc).map (fun d => d.parameters.length) = some 1 := by decide +kernel
theorem g_X1_91 : GoodIn G0 (wsV RX1 91 RX1 yX1_finishCall (gw yX1_finishCall cX1_finishCall 11 none)) := gv_in ml_X1_91 im_yX1_finishCall se_yX1_finishCall ini_X1 cd_yX1_finishCall
theorem hd_yX1_finishCall : yX1_finishCall.cls = RX1 ∧ yX1_finishCall.cls ≠ "java/lang/invoke/MethodHandle" ∧ yX1_finishCall.cls ≠ "java/lang/invoke/VarHandle" ∧ (parseMethodDescriptor yX1_finishCall.desc).map (fun d => d.parameters.length) = some 2 := by decide +kernel
theorem g_X1_95 : GoodIn G0 (wsV RX1 95 RX1 yX1_fillHole (gw yX1_fillHole cX1_fillHole 6 none)) := gv_in ml_X1_95 im_yX1_fillHole se_yX1_fillHole ini_X1 cd_yX1_fillHole
theorem hd_yX1_fillHole : yX1_fillHole.cls = RX1 ∧ yX1_fillHole.cls ≠ "java/lang/invoke/MethodHandle" ∧ yX1_fillHole.cls ≠ "java/lang/invoke/VarHandle" ∧ (parseMethodDescriptor yX1_fillHole.desc).map (fun d => d.parameters.length) = some 4 := by decide +kernel
theorem g_X2_31 : GoodIn G0 (wsV RX2 31 RX5 yX5_copyFrom (gw yX5_copyFrom cX5_copyFrom 3 none)) := gv_in ml_X2_31 im_yX5_copyFrom se_yX5_copyFrom ini_X5 cd_yX5_copyFrom
theorem hd_yX5_copyFrom : yX5_copyFrom.cls = RX5 ∧ yX5_copyFrom.cls ≠ "java/lang/invoke/MethodHandle" ∧ yX5_copyFrom.cls ≠ "java/lang/invoke/VarHandle" ∧ (parseMethodDescriptor yX5_copyFrom.desc).map (fun d => d.parameters.length) = some 1 := by decide +kernel
theorem g_X3_25 : GoodIn G0 (wsV RX3 25 RX3 yX3_listedCalls (gw yX3_listedCalls cX3_listedCalls 1 (some (FieldType.int)))) := gv_in ml_X3_25 im_yX3_listedCalls se_yX3_listedCalls ini_X3 cd_yX3_listedCalls
theorem hd_yX3_listedCalls : yX3_listedCalls.cls = RX3 ∧ yX3_listedCalls.cls ≠ "java/lang/invoke/MethodHandle" ∧ yX3_listedCalls.cls ≠ "java/lang/invoke/VarHandle" ∧ (parseMethodDescriptor yX3_listedCalls.desc).map (fun d => d.parameters.length) = some 0 := by decide +kernel
theorem g_X4_43 : GoodIn G0 (wsV RX4 43 RX4 yX4_startOver (gw yX4_startOver cX4_startOver 2 none)) := gv_in ml_X4_43 im_yX4_startOver se_yX4_startOver ini_X4 cd_yX4_startOver
theorem hd_yX4_startOver : yX4_startOver.cls = RX4 ∧ yX4_startOver.cls ≠ "java/lang/invoke/MethodHandle" ∧ yX4_startOver.cls ≠ "java/lang/invoke/VarHandle" ∧ (parseMethodDescriptor yX4_startOver.desc).map (fun d => d.parameters.length) = some 1 := by decide +kernel
theorem g_X4_47 : GoodIn G0 (wsV RX4 47 RX4 yX4_accepts (gw yX4_accepts cX4_accepts 3 (some (FieldType.boolean)))) := gv_in ml_X4_47 im_yX4_accepts se_yX4_accepts ini_X4 cd_yX4_accepts
theorem hd_yX4_accepts : yX4_accepts.cls = RX4 ∧ yX4_accepts.cls ≠ "java/lang/invoke/MethodHandle" ∧ yX4_accepts.cls ≠ "java/lang/invoke/VarHandle" ∧ (parseMethodDescriptor yX4_accepts.desc).map (fun d => d.parameters.length) = some 2 := by decide +kernel
theorem g_X4_55 : GoodIn G0 (wsV RX4 55 RX4 yX4_noteCall (gw yX4_noteCall cX4_noteCall 2 none)) := gv_in ml_X4_55 im_yX4_noteCall se_yX4_noteCall ini_X4 cd_yX4_noteCall
theorem hd_yX4_noteCall : yX4_noteCall.cls = RX4 ∧ yX4_noteCall.cls ≠ "java/lang/invoke/MethodHandle" ∧ yX4_noteCall.cls ≠ "java/lang/invoke/VarHandle" ∧ (parseMethodDescriptor yX4_noteCall.desc).map (fun d => d.parameters.length) = some 1 := by decide +kernel
theorem g_X4_58 : GoodIn G0 (wsV RX4 58 RX4 yX4_opensCall (gw yX4_opensCall cX4_opensCall 1 (some (FieldType.boolean)))) := gv_in ml_X4_58 im_yX4_opensCall se_yX4_opensCall ini_X4 cd_yX4_opensCall
theorem hd_yX4_opensCall : yX4_opensCall.cls = RX4 ∧ yX4_opensCall.cls ≠ "java/lang/invoke/MethodHandle" ∧ yX4_opensCall.cls ≠ "java/lang/invoke/VarHandle" ∧ (parseMethodDescriptor yX4_opensCall.desc).map (fun d => d.parameters.length) = some 0 := by decide +kernel
theorem g_X4_62 : GoodIn G0 (wsV RX4 62 RX4 yX4_addsArgument (gw yX4_addsArgument cX4_addsArgument 2 (some (FieldType.boolean)))) := gv_in ml_X4_62 im_yX4_addsArgument se_yX4_addsArgument ini_X4 cd_yX4_addsArgument
theorem hd_yX4_addsArgument : yX4_addsArgument.cls = RX4 ∧ yX4_addsArgument.cls ≠ "java/lang/invoke/MethodHandle" ∧ yX4_addsArgument.cls ≠ "java/lang/invoke/VarHandle" ∧ (parseMethodDescriptor yX4_addsArgument.desc).map (fun d => d.parameters.length) = some 0 := by decide +kernel
theorem g_X4_65 : GoodIn G0 (wsV RX4 65 RX4 yX4_closesCall (gw yX4_closesCall cX4_closesCall 1 (some (FieldType.boolean)))) := gv_in ml_X4_65 im_yX4_closesCall se_yX4_closesCall ini_X4 cd_yX4_closesCall
theorem hd_yX4_closesCall : yX4_closesCall.cls = RX4 ∧ yX4_closesCall.cls ≠ "java/lang/invoke/MethodHandle" ∧ yX4_closesCall.cls ≠ "java/lang/invoke/VarHandle" ∧ (parseMethodDescriptor yX4_closesCall.desc).map (fun d => d.parameters.length) = some 0 := by decide +kernel
theorem hs_yX7_isAbbreviation : yX7_isAbbreviation.cls ≠ "java/lang/invoke/MethodHandle" ∧ yX7_isAbbreviation.cls ≠ "java/lang/invoke/VarHandle" ∧ (parseMethodDescriptor yX7_isAbbreviation.desc).map (fun d => d.parameters.length) = some 1 := by decide +kernel
theorem hs_yX7_isLetter : yX7_isLetter.cls ≠ "java/lang/invoke/MethodHandle" ∧ yX7_isLetter.cls ≠ "java/lang/invoke/VarHandle" ∧ (parseMethodDescriptor yX7_isLetter.desc).map (fun d => d.parameters.length) = some 1 := by decide +kernel
abbrev rm7_isLetter : Room := { frames := 0, cells := 0, slots := 0, locals := 0 }
noncomputable def F7_isLetter (p0 : Int32) : Option (Int32) :=
  jp (fun (x15 : Int32) => bz x15 (some x15)) fun k1 =>
  jp (fun (_ : Unit) => k1 0) fun k3 =>
  if p0 < 0 then
  k3 ()
  else
  if (26 : Int32) ≤ p0 then
  k3 ()
  else
  k1 1
set_option maxHeartbeats 4000000 in
set_option maxRecDepth 100000 in
theorem c7_isLetter (l : Launch) (D : va_G) (κ : Nat → ClassId) (A : Nat → Prop) (ad : Nat → Nat) (M : Nat → Option va_E) (p0 : Int32) (res : Int32) (h : F7_isLetter p0 = some res) : Met l yX7_isLetter (gw yX7_isLetter cX7_isLetter 1 (some (FieldType.boolean))) rm7_isLetter (va_Pc [.int p0] (MW D κ A ad M)) (QI D κ A ad M res) 0 0 A := by
  refine met_of (own := RX7) (by decide +kernel) rfl (Nat.le_of_ble_eq_true rfl) ?_
  intro p e s m below meth c ls X hr hlk G hl
  have hl : lv_has ls 1 [(0, .int p0)] := hl
  unfold F7_isLetter at h
  refine lv_iload_n (pc := 0) X.1 X.2.1 dX7_isLetter_0 rfl (lv_at hl 0 rfl) ?_
  obtain ⟨k1, ek1, h2⟩ := jp_some h
  have hk1 : ∀ (x15 : Int32) (H : Heap) (locs : List Loc) (ls : Array Slot), k1 x15 = some res → Mm D κ A ad M s H locs → lv_has ls 1 [] → W p l e rm7_isLetter s m [.int p0].toArray below meth c H locs 0 0 (MQ below (QI D κ A ad M res) [.int p0].toArray s 0 0 A) (F0 m 15 ls [.int x15]) := by
    intro x15 H locs ls19 h16 G17 hl18
    rw [ek1] at h16
    try dsimp only at h16
    obtain ⟨hb, h16_b⟩ := bz_some h16
    have h16_b_i := Option.some.inj h16_b
    exact m_zret (pc := 15) X G17 hr hlk dX7_isLetter_15 hb h16_b_i rfl
  obtain ⟨k3, ek3, h4⟩ := jp_some h2
  have hk3 : ∀  (H : Heap) (locs : List Loc) (ls : Array Slot), k3 () = some res → Mm D κ A ad M s H locs → lv_has ls 1 [] → W p l e rm7_isLetter s m [.int p0].toArray below meth c H locs 0 0 (MQ below (QI D κ A ad M res) [.int p0].toArray s 0 0 A) (F0 m 14 ls []) := by
    intro  H locs ls14 h11 G12 hl13
    rw [ek3] at h11
    try dsimp only at h11
    refine lv_iconst (pc := 14) (v := 0) X.1 X.2.1 dX7_isLetter_14 (by decide) ?_
    exact hk1 0 _ _ ls14 h11 G12 (lv_sub hl13 [] rfl)
  refine lv_if_lt (pc := 1) (tgt := 14) X.1 X.2.1 dX7_isLetter_1 (by decide) (fun hc5 => ?_) (fun hc5 => ?_)
  · have h6 := it_pos h4 hc5
    exact hk3  _ _ ls h6 G (lv_sub hl [] rfl)
  · have h7 := it_neg h4 hc5
    refine lv_iload_n (pc := 4) X.1 X.2.1 dX7_isLetter_4 rfl (lv_at hl 0 rfl) ?_
    refine lv_bipush (pc := 5) (v := 26) X.1 X.2.1 dX7_isLetter_5 (by decide) ?_
    refine lv_icmp_ge (pc := 7) (tgt := 14) X.1 X.2.1 dX7_isLetter_7 (by decide) (fun hc8 => ?_) (fun hc8 => ?_)
    · have h9 := it_pos h7 hc8
      exact hk3  _ _ ls h9 G (lv_sub hl [] rfl)
    · have h10 := it_neg h7 hc8
      refine lv_iconst (pc := 10) (v := 1) X.1 X.2.1 dX7_isLetter_10 (by decide) ?_
      refine lv_goto (pc := 11) (tgt := 15) X.1 X.2.1 dX7_isLetter_11 (by decide) ?_
      exact hk1 1 _ _ ls h10 G (lv_sub hl [] rfl)

abbrev rm7_isAbbreviation : Room := { frames := 0, cells := 0, slots := 0, locals := 0 }
noncomputable def F7_isAbbreviation (p0 : Int32) : Option (Int32) :=
  jp (fun (x15 : Int32) => bz x15 (some x15)) fun k1 =>
  jp (fun (_ : Unit) => k1 0) fun k3 =>
  if p0 < 65 then
  k3 ()
  else
  if (90 : Int32) < p0 then
  k3 ()
  else
  k1 1
set_option maxHeartbeats 4000000 in
set_option maxRecDepth 100000 in
theorem c7_isAbbreviation (l : Launch) (D : va_G) (κ : Nat → ClassId) (A : Nat → Prop) (ad : Nat → Nat) (M : Nat → Option va_E) (p0 : Int32) (res : Int32) (h : F7_isAbbreviation p0 = some res) : Met l yX7_isAbbreviation (gw yX7_isAbbreviation cX7_isAbbreviation 1 (some (FieldType.boolean))) rm7_isAbbreviation (va_Pc [.int p0] (MW D κ A ad M)) (QI D κ A ad M res) 0 0 A := by
  refine met_of (own := RX7) (by decide +kernel) rfl (Nat.le_of_ble_eq_true rfl) ?_
  intro p e s m below meth c ls X hr hlk G hl
  have hl : lv_has ls 1 [(0, .int p0)] := hl
  unfold F7_isAbbreviation at h
  refine lv_iload_n (pc := 0) X.1 X.2.1 dX7_isAbbreviation_0 rfl (lv_at hl 0 rfl) ?_
  refine lv_bipush (pc := 1) (v := 65) X.1 X.2.1 dX7_isAbbreviation_1 (by decide) ?_
  obtain ⟨k1, ek1, h2⟩ := jp_some h
  have hk1 : ∀ (x15 : Int32) (H : Heap) (locs : List Loc) (ls : Array Slot), k1 x15 = some res → Mm D κ A ad M s H locs → lv_has ls 1 [] → W p l e rm7_isAbbreviation s m [.int p0].toArray below meth c H locs 0 0 (MQ below (QI D κ A ad M res) [.int p0].toArray s 0 0 A) (F0 m 17 ls [.int x15]) := by
    intro x15 H locs ls19 h16 G17 hl18
    rw [ek1] at h16
    try dsimp only at h16
    obtain ⟨hb, h16_b⟩ := bz_some h16
    have h16_b_i := Option.some.inj h16_b
    exact m_zret (pc := 17) X G17 hr hlk dX7_isAbbreviation_17 hb h16_b_i rfl
  obtain ⟨k3, ek3, h4⟩ := jp_some h2
  have hk3 : ∀  (H : Heap) (locs : List Loc) (ls : Array Slot), k3 () = some res → Mm D κ A ad M s H locs → lv_has ls 1 [] → W p l e rm7_isAbbreviation s m [.int p0].toArray below meth c H locs 0 0 (MQ below (QI D κ A ad M res) [.int p0].toArray s 0 0 A) (F0 m 16 ls []) := by
    intro  H locs ls14 h11 G12 hl13
    rw [ek3] at h11
    try dsimp only at h11
    refine lv_iconst (pc := 16) (v := 0) X.1 X.2.1 dX7_isAbbreviation_16 (by decide) ?_
    exact hk1 0 _ _ ls14 h11 G12 (lv_sub hl13 [] rfl)
  refine lv_icmp_lt (pc := 3) (tgt := 16) X.1 X.2.1 dX7_isAbbreviation_3 (by decide) (fun hc5 => ?_) (fun hc5 => ?_)
  · have h6 := it_pos h4 hc5
    exact hk3  _ _ ls h6 G (lv_sub hl [] rfl)
  · have h7 := it_neg h4 hc5
    refine lv_iload_n (pc := 6) X.1 X.2.1 dX7_isAbbreviation_6 rfl (lv_at hl 0 rfl) ?_
    refine lv_bipush (pc := 7) (v := 90) X.1 X.2.1 dX7_isAbbreviation_7 (by decide) ?_
    refine lv_icmp_gt (pc := 9) (tgt := 16) X.1 X.2.1 dX7_isAbbreviation_9 (by decide) (fun hc8 => ?_) (fun hc8 => ?_)
    · have h9 := it_pos h7 hc8
      exact hk3  _ _ ls h9 G (lv_sub hl [] rfl)
    · have h10 := it_neg h7 hc8
      refine lv_iconst (pc := 12) (v := 1) X.1 X.2.1 dX7_isAbbreviation_12 (by decide) ?_
      refine lv_goto (pc := 13) (tgt := 17) X.1 X.2.1 dX7_isAbbreviation_13 (by decide) ?_
      exact hk1 1 _ _ ls h10 G (lv_sub hl [] rfl)

abbrev rm4_startOver : Room := { frames := 0, cells := 0, slots := 0, locals := 0 }
noncomputable def F4_startOver (b : BS) (p0 : Int32) : Option (BS) :=
  bd (setI b 52 2 p0) fun b1 =>
  bd (setI b1 52 3 0) fun b4 =>
  bd (setI b4 52 1 0) fun b7 =>
  bd (setI b7 52 4 0) fun b10 =>
  bd (setI b10 52 5 0) fun b13 =>
  bd (setI b13 52 6 0) fun b16 =>
  bd (setI b16 52 7 0) fun b19 =>
  bd (setI b19 52 8 0) fun b22 =>
  bd (setI b22 52 9 0) fun b25 =>
  some b25
set_option maxHeartbeats 4000000 in
set_option maxRecDepth 100000 in
theorem c4_startOver (l : Launch) (D : va_G) (κ : Nat → ClassId) (A : Nat → Prop) (ad : Nat → Nat) (r0 : Nat → Option va_E) (b : BS) (p0 : Int32) (res : BS) (h : F4_startOver b p0 = some res) : Met l yX4_startOver (gw yX4_startOver cX4_startOver 2 none) rm4_startOver (va_Pc [.ref (ad 52), .int p0] (MW D κ A ad (celB κ ad r0 b))) (QV D κ A ad (celB κ ad r0 res)) 0 0 A := by
  refine met_of (own := RX4) (by decide +kernel) rfl (Nat.le_of_ble_eq_true rfl) ?_
  intro p e s m below meth c ls X hr hlk G hl
  have hl : lv_has ls 2 [(0, .ref (ad 52)), (1, .int p0)] := hl
  unfold F4_startOver at h
  refine lv_aload_n (pc := 0) X.1 X.2.1 dX4_startOver_0 rfl (lv_at hl 0 rfl) ?_
  refine lv_iload_n (pc := 1) X.1 X.2.1 dX4_startOver_1 rfl (lv_at hl 1 rfl) ?_
  obtain ⟨b1, eb1, h2⟩ := bd_some h
  refine B_puti (pc := 2) (i := 52) (k := 2) (v := p0) X G eb1 rfl clX4 (okL52 _) (by decide) rfl rfl rfl rfl fl_X4_19 dX4_startOver_2 (fun H locs G3 => ?_)
  have nb1 : b1.2.2 = b.2.2 := by rw [eb1]; rfl
  refine lv_aload_n (pc := 5) X.1 X.2.1 dX4_startOver_5 rfl (lv_at hl 0 rfl) ?_
  refine lv_iconst (pc := 6) (v := 0) X.1 X.2.1 dX4_startOver_6 (by decide) ?_
  obtain ⟨b4, eb4, h5⟩ := bd_some h2
  refine B_puti (pc := 7) (i := 52) (k := 3) (v := 0) X G3 eb4 rfl clX4 (okL52 _) (by decide) rfl rfl rfl rfl fl_X4_22 dX4_startOver_7 (fun H locs G6 => ?_)
  have nb4 : b4.2.2 = b1.2.2 := by rw [eb4]; rfl
  refine lv_aload_n (pc := 10) X.1 X.2.1 dX4_startOver_10 rfl (lv_at hl 0 rfl) ?_
  refine lv_iconst (pc := 11) (v := 0) X.1 X.2.1 dX4_startOver_11 (by decide) ?_
  obtain ⟨b7, eb7, h8⟩ := bd_some h5
  refine B_puti (pc := 12) (i := 52) (k := 1) (v := 0) X G6 eb7 rfl clX4 (okL52 _) (by decide) rfl rfl rfl rfl fl_X4_15 dX4_startOver_12 (fun H locs G9 => ?_)
  have nb7 : b7.2.2 = b4.2.2 := by rw [eb7]; rfl
  refine lv_aload_n (pc := 15) X.1 X.2.1 dX4_startOver_15 rfl (lv_at hl 0 rfl) ?_
  refine lv_iconst (pc := 16) (v := 0) X.1 X.2.1 dX4_startOver_16 (by decide) ?_
  obtain ⟨b10, eb10, h11⟩ := bd_some h8
  refine B_puti (pc := 17) (i := 52) (k := 4) (v := 0) X G9 eb10 rfl clX4 (okL52 _) (by decide) rfl rfl rfl rfl fl_X4_25 dX4_startOver_17 (fun H locs G12 => ?_)
  have nb10 : b10.2.2 = b7.2.2 := by rw [eb10]; rfl
  refine lv_aload_n (pc := 20) X.1 X.2.1 dX4_startOver_20 rfl (lv_at hl 0 rfl) ?_
  refine lv_iconst (pc := 21) (v := 0) X.1 X.2.1 dX4_startOver_21 (by decide) ?_
  obtain ⟨b13, eb13, h14⟩ := bd_some h11
  refine B_puti (pc := 22) (i := 52) (k := 5) (v := 0) X G12 eb13 rfl clX4 (okL52 _) (by decide) rfl rfl rfl rfl fl_X4_28 dX4_startOver_22 (fun H locs G15 => ?_)
  have nb13 : b13.2.2 = b10.2.2 := by rw [eb13]; rfl
  refine lv_aload_n (pc := 25) X.1 X.2.1 dX4_startOver_25 rfl (lv_at hl 0 rfl) ?_
  refine lv_iconst (pc := 26) (v := 0) X.1 X.2.1 dX4_startOver_26 (by decide) ?_
  obtain ⟨b16, eb16, h17⟩ := bd_some h14
  refine B_puti (pc := 27) (i := 52) (k := 6) (v := 0) X G15 eb16 rfl clX4 (okL52 _) (by decide) rfl rfl rfl rfl fl_X4_31 dX4_startOver_27 (fun H locs G18 => ?_)
  have nb16 : b16.2.2 = b13.2.2 := by rw [eb16]; rfl
  refine lv_aload_n (pc := 30) X.1 X.2.1 dX4_startOver_30 rfl (lv_at hl 0 rfl) ?_
  refine lv_iconst (pc := 31) (v := 0) X.1 X.2.1 dX4_startOver_31 (by decide) ?_
  obtain ⟨b19, eb19, h20⟩ := bd_some h17
  refine B_puti (pc := 32) (i := 52) (k := 7) (v := 0) X G18 eb19 rfl clX4 (okL52 _) (by decide) rfl rfl rfl rfl fl_X4_34 dX4_startOver_32 (fun H locs G21 => ?_)
  have nb19 : b19.2.2 = b16.2.2 := by rw [eb19]; rfl
  refine lv_aload_n (pc := 35) X.1 X.2.1 dX4_startOver_35 rfl (lv_at hl 0 rfl) ?_
  refine lv_iconst (pc := 36) (v := 0) X.1 X.2.1 dX4_startOver_36 (by decide) ?_
  obtain ⟨b22, eb22, h23⟩ := bd_some h20
  refine B_puti (pc := 37) (i := 52) (k := 8) (v := 0) X G21 eb22 rfl clX4 (okL52 _) (by decide) rfl rfl rfl rfl fl_X4_37 dX4_startOver_37 (fun H locs G24 => ?_)
  have nb22 : b22.2.2 = b19.2.2 := by rw [eb22]; rfl
  refine lv_aload_n (pc := 40) X.1 X.2.1 dX4_startOver_40 rfl (lv_at hl 0 rfl) ?_
  refine lv_iconst (pc := 41) (v := 0) X.1 X.2.1 dX4_startOver_41 (by decide) ?_
  obtain ⟨b25, eb25, h26⟩ := bd_some h23
  refine B_puti (pc := 42) (i := 52) (k := 9) (v := 0) X G24 eb25 rfl clX4 (okL52 _) (by decide) rfl rfl rfl rfl fl_X4_40 dX4_startOver_42 (fun H locs G27 => ?_)
  have nb25 : b25.2.2 = b22.2.2 := by rw [eb25]; rfl
  have h26_i := Option.some.inj h26
  exact m_vret (pc := 45) X G27 hr hlk dX4_startOver_45 (congrArg (celB κ ad r0) h26_i)

abbrev rm4_noteCall : Room := { frames := 1, cells := 0, slots := 0, locals := 14 }
noncomputable def F4_noteCall (b : BS) (p0 : Int32) : Option (BS) :=
  bd (setI b 52 5 ((b.1 52 5) + 1)) fun b1 =>
  bd (setI b1 52 9 ((b1.1 52 9) ||| ((1 : Int32) <<< (p0 &&& 31)))) fun b4 =>
  bd (setI b4 52 7 (if (b4.1 52 7) < ((b4.1 52 1) + 1) then ((b4.1 52 1) + 1) else (b4.1 52 7))) fun b7 =>
  some b7
set_option maxHeartbeats 4000000 in
set_option maxRecDepth 100000 in
theorem c4_noteCall (l : Launch) (D : va_G) (κ : Nat → ClassId) (A : Nat → Prop) (ad : Nat → Nat) (r0 : Nat → Option va_E) (b : BS) (p0 : Int32) (res : BS) (h : F4_noteCall b p0 = some res) : Met l yX4_noteCall (gw yX4_noteCall cX4_noteCall 2 none) rm4_noteCall (va_Pc [.ref (ad 52), .int p0] (MW D κ A ad (celB κ ad r0 b))) (QV D κ A ad (celB κ ad r0 res)) 0 0 A := by
  refine met_of (own := RX4) (by decide +kernel) rfl (Nat.le_of_ble_eq_true rfl) ?_
  intro p e s m below meth c ls X hr hlk G hl
  have hl : lv_has ls 2 [(0, .ref (ad 52)), (1, .int p0)] := hl
  unfold F4_noteCall at h
  refine lv_aload_n (pc := 0) X.1 X.2.1 dX4_noteCall_0 rfl (lv_at hl 0 rfl) ?_
  refine lv_dup (pc := 1) X.1 X.2.1 dX4_noteCall_1 rfl ?_
  refine B_geti (pc := 2) (i := 52) (k := 5) X G rfl clX4 (okL52 _) (by decide) rfl rfl fl_X4_28 dX4_noteCall_2 ?_
  refine lv_iconst (pc := 5) (v := 1) X.1 X.2.1 dX4_noteCall_5 (by decide) ?_
  refine lv_iadd (pc := 6) X.1 X.2.1 dX4_noteCall_6 ?_
  obtain ⟨b1, eb1, h2⟩ := bd_some h
  refine B_puti (pc := 7) (i := 52) (k := 5) (v := ((b.1 52 5) + 1)) X G eb1 rfl clX4 (okL52 _) (by decide) rfl rfl rfl rfl fl_X4_28 dX4_noteCall_7 (fun H locs G3 => ?_)
  have nb1 : b1.2.2 = b.2.2 := by rw [eb1]; rfl
  refine lv_aload_n (pc := 10) X.1 X.2.1 dX4_noteCall_10 rfl (lv_at hl 0 rfl) ?_
  refine lv_dup (pc := 11) X.1 X.2.1 dX4_noteCall_11 rfl ?_
  refine B_geti (pc := 12) (i := 52) (k := 9) X G3 rfl clX4 (okL52 _) (by decide) rfl rfl fl_X4_40 dX4_noteCall_12 ?_
  refine lv_iconst (pc := 15) (v := 1) X.1 X.2.1 dX4_noteCall_15 (by decide) ?_
  refine lv_iload_n (pc := 16) X.1 X.2.1 dX4_noteCall_16 rfl (lv_at hl 1 rfl) ?_
  refine lv_ishl (pc := 17) X.1 X.2.1 dX4_noteCall_17 ?_
  refine lv_ior (pc := 18) X.1 X.2.1 dX4_noteCall_18 ?_
  obtain ⟨b4, eb4, h5⟩ := bd_some h2
  refine B_puti (pc := 19) (i := 52) (k := 9) (v := ((b1.1 52 9) ||| ((1 : Int32) <<< (p0 &&& 31)))) X G3 eb4 rfl clX4 (okL52 _) (by decide) rfl rfl rfl rfl fl_X4_40 dX4_noteCall_19 (fun H locs G6 => ?_)
  have nb4 : b4.2.2 = b1.2.2 := by rw [eb4]; rfl
  refine lv_aload_n (pc := 22) X.1 X.2.1 dX4_noteCall_22 rfl (lv_at hl 0 rfl) ?_
  refine lv_aload_n (pc := 23) X.1 X.2.1 dX4_noteCall_23 rfl (lv_at hl 0 rfl) ?_
  refine B_geti (pc := 24) (i := 52) (k := 7) X G6 rfl clX4 (okL52 _) (by decide) rfl rfl fl_X4_34 dX4_noteCall_24 ?_
  refine lv_aload_n (pc := 27) X.1 X.2.1 dX4_noteCall_27 rfl (lv_at hl 0 rfl) ?_
  refine B_geti (pc := 28) (i := 52) (k := 1) X G6 rfl clX4 (okL52 _) (by decide) rfl rfl fl_X4_15 dX4_noteCall_28 ?_
  refine lv_iconst (pc := 31) (v := 1) X.1 X.2.1 dX4_noteCall_31 (by decide) ?_
  refine lv_iadd (pc := 32) X.1 X.2.1 dX4_noteCall_32 ?_
  refine lq_mmax (pc := 33) (rest := [.ref (ad 52)]) X hl (ml_X4_68 : Cond.methodLink RX4 68 Lib.Math.max.name ∈ G0) w_max_s w_math w_max_c (Nat.le_of_ble_eq_true rfl) (Nat.le_of_ble_eq_true rfl) (Nat.le_of_ble_eq_true rfl) (Nat.le_of_ble_eq_true rfl) dX4_noteCall_33 ?_
  obtain ⟨b7, eb7, h8⟩ := bd_some h5
  refine B_puti (pc := 36) (i := 52) (k := 7) (v := (if (b4.1 52 7) < ((b4.1 52 1) + 1) then ((b4.1 52 1) + 1) else (b4.1 52 7))) X G6 eb7 rfl clX4 (okL52 _) (by decide) rfl rfl rfl rfl fl_X4_34 dX4_noteCall_36 (fun H locs G9 => ?_)
  have nb7 : b7.2.2 = b4.2.2 := by rw [eb7]; rfl
  have h8_i := Option.some.inj h8
  exact m_vret (pc := 39) X G9 hr hlk dX4_noteCall_39 (congrArg (celB κ ad r0) h8_i)

abbrev rm4_opensCall : Room := { frames := 1, cells := 0, slots := 0, locals := 14 }
noncomputable def F4_opensCall (b : BS)  : Option (BS × Int32) :=
  jp (fun (_ : Unit) => bz 0 (some (b, 0))) fun k1 =>
  if (b.1 52 1) < 0 then
  k1 ()
  else
  if (b.1 52 1) < (nI 60) then
  wb b 53 60 (b.1 52 1) 1 fun b9 =>
  bd (setI b9 52 6 (if (b9.1 52 6) < 1 then 1 else (b9.1 52 6))) fun b12 =>
  bd (setI b12 52 1 ((b12.1 52 1) + 1)) fun b15 =>
  bz 1 (some (b15, 1))
  else
  k1 ()
set_option maxHeartbeats 4000000 in
set_option maxRecDepth 100000 in
theorem c4_opensCall (l : Launch) (D : va_G) (κ : Nat → ClassId) (A : Nat → Prop) (ad : Nat → Nat) (r0 : Nat → Option va_E) (b : BS)  (res : BS × Int32) (h : F4_opensCall b  = some res) : Met l yX4_opensCall (gw yX4_opensCall cX4_opensCall 1 (some (FieldType.boolean))) rm4_opensCall (va_Pc [.ref (ad 52)] (MW D κ A ad (celB κ ad r0 b))) (QI D κ A ad (celB κ ad r0 res.1) res.2) 0 0 A := by
  refine met_of (own := RX4) (by decide +kernel) rfl (Nat.le_of_ble_eq_true rfl) ?_
  intro p e s m below meth c ls X hr hlk G hl
  have hl : lv_has ls 1 [(0, .ref (ad 52))] := hl
  unfold F4_opensCall at h
  refine lv_aload_n (pc := 0) X.1 X.2.1 dX4_opensCall_0 rfl (lv_at hl 0 rfl) ?_
  refine B_geti (pc := 1) (i := 52) (k := 1) X G rfl clX4 (okL52 _) (by decide) rfl rfl fl_X4_15 dX4_opensCall_1 ?_
  obtain ⟨k1, ek1, h2⟩ := jp_some h
  have hk1 : ∀  (H : Heap) (locs : List Loc) (ls : Array Slot), k1 () = some res → Mm D κ A ad (celB κ ad r0 b) s H locs → lv_has ls 1 [] → W p l e rm4_opensCall s m [.ref (ad 52)].toArray below meth c H locs 0 0 (MQ below (QI D κ A ad (celB κ ad r0 res.1) res.2) [.ref (ad 52)].toArray s 0 0 A) (F0 m 19 ls []) := by
    intro  H locs ls21 h18 G19 hl20
    rw [ek1] at h18
    try dsimp only at h18
    refine lv_iconst (pc := 19) (v := 0) X.1 X.2.1 dX4_opensCall_19 (by decide) ?_
    obtain ⟨hb, h18_b⟩ := bz_some h18
    have h18_b_i := Option.some.inj h18_b
    exact m_zret (pc := 20) X G19 hr hlk dX4_opensCall_20 hb (congrArg Prod.snd h18_b_i) (congrArg (fun q : BS × Int32 => celB κ ad r0 q.1) h18_b_i)
  refine lv_if_lt (pc := 4) (tgt := 19) X.1 X.2.1 dX4_opensCall_4 (by decide) (fun hc3 => ?_) (fun hc3 => ?_)
  · have h4 := it_pos h2 hc3
    exact hk1  _ _ ls h4 G (lv_sub hl [] rfl)
  · have h5 := it_neg h2 hc3
    refine lv_aload_n (pc := 7) X.1 X.2.1 dX4_opensCall_7 rfl (lv_at hl 0 rfl) ?_
    refine B_geti (pc := 8) (i := 52) (k := 1) X G rfl clX4 (okL52 _) (by decide) rfl rfl fl_X4_15 dX4_opensCall_8 ?_
    refine lv_aload_n (pc := 11) X.1 X.2.1 dX4_opensCall_11 rfl (lv_at hl 0 rfl) ?_
    refine B_getc (pc := 12) (i := 52) (k := 0) (j := 53) X G rfl clX4 (okL52 _) (by decide) rfl fl_X4_9 dX4_opensCall_12 ?_
    refine B_alen (pc := 15) (i := 53) (n := 60) X G rfl (okL53 _) rfl dX4_opensCall_15 ?_
    refine lv_icmp_lt (pc := 16) (tgt := 21) X.1 X.2.1 dX4_opensCall_16 (by decide) (fun hc6 => ?_) (fun hc6 => ?_)
    · have h7 := it_pos h5 hc6
      refine lv_aload_n (pc := 21) X.1 X.2.1 dX4_opensCall_21 rfl (lv_at hl 0 rfl) ?_
      refine B_getc (pc := 22) (i := 52) (k := 0) (j := 53) X G rfl clX4 (okL52 _) (by decide) rfl fl_X4_9 dX4_opensCall_22 ?_
      refine lv_aload_n (pc := 25) X.1 X.2.1 dX4_opensCall_25 rfl (lv_at hl 0 rfl) ?_
      refine B_geti (pc := 26) (i := 52) (k := 1) X G rfl clX4 (okL52 _) (by decide) rfl rfl fl_X4_15 dX4_opensCall_26 ?_
      refine lv_iconst (pc := 29) (v := 1) X.1 X.2.1 dX4_opensCall_29 (by decide) ?_
      obtain ⟨hib9, b9, eb9, h10⟩ := wb_some h7
      refine B_iast (pc := 30) (i := 53) (n := 60) X G eb9 rfl (okL53 _) rfl hib9 dX4_opensCall_30 (fun H locs G11 => ?_)
      have nb9 : b9.2.2 = b.2.2 := by rw [eb9]; rfl
      refine lv_aload_n (pc := 31) X.1 X.2.1 dX4_opensCall_31 rfl (lv_at hl 0 rfl) ?_
      refine lv_aload_n (pc := 32) X.1 X.2.1 dX4_opensCall_32 rfl (lv_at hl 0 rfl) ?_
      refine B_geti (pc := 33) (i := 52) (k := 6) X G11 rfl clX4 (okL52 _) (by decide) rfl rfl fl_X4_31 dX4_opensCall_33 ?_
      refine lv_iconst (pc := 36) (v := 1) X.1 X.2.1 dX4_opensCall_36 (by decide) ?_
      refine lq_mmax (pc := 37) (rest := [.ref (ad 52)]) X hl (ml_X4_68 : Cond.methodLink RX4 68 Lib.Math.max.name ∈ G0) w_max_s w_math w_max_c (Nat.le_of_ble_eq_true rfl) (Nat.le_of_ble_eq_true rfl) (Nat.le_of_ble_eq_true rfl) (Nat.le_of_ble_eq_true rfl) dX4_opensCall_37 ?_
      obtain ⟨b12, eb12, h13⟩ := bd_some h10
      refine B_puti (pc := 40) (i := 52) (k := 6) (v := (if (b9.1 52 6) < 1 then 1 else (b9.1 52 6))) X G11 eb12 rfl clX4 (okL52 _) (by decide) rfl rfl rfl rfl fl_X4_31 dX4_opensCall_40 (fun H locs G14 => ?_)
      have nb12 : b12.2.2 = b9.2.2 := by rw [eb12]; rfl
      refine lv_aload_n (pc := 43) X.1 X.2.1 dX4_opensCall_43 rfl (lv_at hl 0 rfl) ?_
      refine lv_dup (pc := 44) X.1 X.2.1 dX4_opensCall_44 rfl ?_
      refine B_geti (pc := 45) (i := 52) (k := 1) X G14 rfl clX4 (okL52 _) (by decide) rfl rfl fl_X4_15 dX4_opensCall_45 ?_
      refine lv_iconst (pc := 48) (v := 1) X.1 X.2.1 dX4_opensCall_48 (by decide) ?_
      refine lv_iadd (pc := 49) X.1 X.2.1 dX4_opensCall_49 ?_
      obtain ⟨b15, eb15, h16⟩ := bd_some h13
      refine B_puti (pc := 50) (i := 52) (k := 1) (v := ((b12.1 52 1) + 1)) X G14 eb15 rfl clX4 (okL52 _) (by decide) rfl rfl rfl rfl fl_X4_15 dX4_opensCall_50 (fun H locs G17 => ?_)
      have nb15 : b15.2.2 = b12.2.2 := by rw [eb15]; rfl
      refine lv_iconst (pc := 53) (v := 1) X.1 X.2.1 dX4_opensCall_53 (by decide) ?_
      obtain ⟨hb, h16_b⟩ := bz_some h16
      have h16_b_i := Option.some.inj h16_b
      exact m_zret (pc := 54) X G17 hr hlk dX4_opensCall_54 hb (congrArg Prod.snd h16_b_i) (congrArg (fun q : BS × Int32 => celB κ ad r0 q.1) h16_b_i)
    · have h8 := it_neg h5 hc6
      exact hk1  _ _ ls h8 G (lv_sub hl [] rfl)

abbrev rm4_addsArgument : Room := { frames := 1, cells := 0, slots := 0, locals := 14 }
noncomputable def F4_addsArgument (b : BS)  : Option (BS × Int32) :=
  bd ((b.1 52 1) - 1) fun x1 =>
  jp (fun (_ : Unit) => bz 0 (some (b, 0))) fun k5 =>
  if x1 < 0 then
  k5 ()
  else
  if x1 < (nI 60) then
  rd (b.1 53) 60 x1 fun x13 =>
  if x13 < 6 then
  rd (b.1 53) 60 x1 fun x18 =>
  wb b 53 60 x1 (x18 + 1) fun b20 =>
  rd (b20.1 53) 60 x1 fun x23 =>
  bd (setI b20 52 6 (if (b20.1 52 6) < x23 then x23 else (b20.1 52 6))) fun b25 =>
  bz 1 (some (b25, 1))
  else
  bz 0 (some (b, 0))
  else
  k5 ()
set_option maxHeartbeats 4000000 in
set_option maxRecDepth 100000 in
theorem c4_addsArgument (l : Launch) (D : va_G) (κ : Nat → ClassId) (A : Nat → Prop) (ad : Nat → Nat) (r0 : Nat → Option va_E) (b : BS)  (res : BS × Int32) (h : F4_addsArgument b  = some res) : Met l yX4_addsArgument (gw yX4_addsArgument cX4_addsArgument 2 (some (FieldType.boolean))) rm4_addsArgument (va_Pc [.ref (ad 52)] (MW D κ A ad (celB κ ad r0 b))) (QI D κ A ad (celB κ ad r0 res.1) res.2) 0 0 A := by
  refine met_of (own := RX4) (by decide +kernel) rfl (Nat.le_of_ble_eq_true rfl) ?_
  intro p e s m below meth c ls X hr hlk G hl
  have hl : lv_has ls 2 [(0, .ref (ad 52))] := hl
  unfold F4_addsArgument at h
  refine lv_aload_n (pc := 0) X.1 X.2.1 dX4_addsArgument_0 rfl (lv_at hl 0 rfl) ?_
  refine B_geti (pc := 1) (i := 52) (k := 1) X G rfl clX4 (okL52 _) (by decide) rfl rfl fl_X4_15 dX4_addsArgument_1 ?_
  refine lv_iconst (pc := 4) (v := 1) X.1 X.2.1 dX4_addsArgument_4 (by decide) ?_
  refine lv_isub (pc := 5) X.1 X.2.1 dX4_addsArgument_5 ?_
  refine lv_topi (fun x1 ex1 => ?_)
  have h2 := bd_at h ex1
  refine lv_istore_n (pc := 6) (lv' := [(1, .int x1), (0, .ref (ad 52))]) X.1 X.2.1 dX4_addsArgument_6 rfl hl (by decide) rfl (fun ls3 hl4 => ?_)
  refine lv_iload_n (pc := 7) X.1 X.2.1 dX4_addsArgument_7 rfl (lv_at hl4 0 rfl) ?_
  obtain ⟨k5, ek5, h6⟩ := jp_some h2
  have hk5 : ∀  (H : Heap) (locs : List Loc) (ls : Array Slot), k5 () = some res → Mm D κ A ad (celB κ ad r0 b) s H locs → lv_has ls 2 [] → W p l e rm4_addsArgument s m [.ref (ad 52)].toArray below meth c H locs 0 0 (MQ below (QI D κ A ad (celB κ ad r0 res.1) res.2) [.ref (ad 52)].toArray s 0 0 A) (F0 m 20 ls []) := by
    intro  H locs ls31 h28 G29 hl30
    rw [ek5] at h28
    try dsimp only at h28
    refine lv_iconst (pc := 20) (v := 0) X.1 X.2.1 dX4_addsArgument_20 (by decide) ?_
    obtain ⟨hb, h28_b⟩ := bz_some h28
    have h28_b_i := Option.some.inj h28_b
    exact m_zret (pc := 21) X G29 hr hlk dX4_addsArgument_21 hb (congrArg Prod.snd h28_b_i) (congrArg (fun q : BS × Int32 => celB κ ad r0 q.1) h28_b_i)
  refine lv_if_lt (pc := 8) (tgt := 20) X.1 X.2.1 dX4_addsArgument_8 (by decide) (fun hc7 => ?_) (fun hc7 => ?_)
  · have h8 := it_pos h6 hc7
    exact hk5  _ _ ls3 h8 G (lv_sub hl4 [] rfl)
  · have h9 := it_neg h6 hc7
    refine lv_iload_n (pc := 11) X.1 X.2.1 dX4_addsArgument_11 rfl (lv_at hl4 0 rfl) ?_
    refine lv_aload_n (pc := 12) X.1 X.2.1 dX4_addsArgument_12 rfl (lv_at hl4 1 rfl) ?_
    refine B_getc (pc := 13) (i := 52) (k := 0) (j := 53) X G rfl clX4 (okL52 _) (by decide) rfl fl_X4_9 dX4_addsArgument_13 ?_
    refine B_alen (pc := 16) (i := 53) (n := 60) X G rfl (okL53 _) rfl dX4_addsArgument_16 ?_
    refine lv_icmp_lt (pc := 17) (tgt := 22) X.1 X.2.1 dX4_addsArgument_17 (by decide) (fun hc10 => ?_) (fun hc10 => ?_)
    · have h11 := it_pos h9 hc10
      refine lv_aload_n (pc := 22) X.1 X.2.1 dX4_addsArgument_22 rfl (lv_at hl4 1 rfl) ?_
      refine B_getc (pc := 23) (i := 52) (k := 0) (j := 53) X G rfl clX4 (okL52 _) (by decide) rfl fl_X4_9 dX4_addsArgument_23 ?_
      refine lv_iload_n (pc := 26) X.1 X.2.1 dX4_addsArgument_26 rfl (lv_at hl4 0 rfl) ?_
      have h11_r := rd_some h11
      refine B_iald (pc := 27) (i := 53) (n := 60) X G rfl (okL53 _) rfl h11_r.1 dX4_addsArgument_27 ?_
      refine lv_topi (fun x13 ex13 => ?_)
      have h14 := h11_r.2
      rw [← ex13] at h14
      refine lv_bipush (pc := 28) (v := 6) X.1 X.2.1 dX4_addsArgument_28 (by decide) ?_
      refine lv_icmp_lt (pc := 30) (tgt := 35) X.1 X.2.1 dX4_addsArgument_30 (by decide) (fun hc15 => ?_) (fun hc15 => ?_)
      · have h16 := it_pos h14 hc15
        refine lv_aload_n (pc := 35) X.1 X.2.1 dX4_addsArgument_35 rfl (lv_at hl4 1 rfl) ?_
        refine B_getc (pc := 36) (i := 52) (k := 0) (j := 53) X G rfl clX4 (okL52 _) (by decide) rfl fl_X4_9 dX4_addsArgument_36 ?_
        refine lv_iload_n (pc := 39) X.1 X.2.1 dX4_addsArgument_39 rfl (lv_at hl4 0 rfl) ?_
        refine lv_dup2_11 (pc := 40) X.1 X.2.1 dX4_addsArgument_40 rfl rfl ?_
        have h16_r := rd_some h16
        refine B_iald (pc := 41) (i := 53) (n := 60) X G rfl (okL53 _) rfl h16_r.1 dX4_addsArgument_41 ?_
        refine lv_topi (fun x18 ex18 => ?_)
        have h19 := h16_r.2
        rw [← ex18] at h19
        refine lv_iconst (pc := 42) (v := 1) X.1 X.2.1 dX4_addsArgument_42 (by decide) ?_
        refine lv_iadd (pc := 43) X.1 X.2.1 dX4_addsArgument_43 ?_
        obtain ⟨hib20, b20, eb20, h21⟩ := wb_some h19
        refine B_iast (pc := 44) (i := 53) (n := 60) X G eb20 rfl (okL53 _) rfl hib20 dX4_addsArgument_44 (fun H locs G22 => ?_)
        have nb20 : b20.2.2 = b.2.2 := by rw [eb20]; rfl
        refine lv_aload_n (pc := 45) X.1 X.2.1 dX4_addsArgument_45 rfl (lv_at hl4 1 rfl) ?_
        refine lv_aload_n (pc := 46) X.1 X.2.1 dX4_addsArgument_46 rfl (lv_at hl4 1 rfl) ?_
        refine B_geti (pc := 47) (i := 52) (k := 6) X G22 rfl clX4 (okL52 _) (by decide) rfl rfl fl_X4_31 dX4_addsArgument_47 ?_
        refine lv_aload_n (pc := 50) X.1 X.2.1 dX4_addsArgument_50 rfl (lv_at hl4 1 rfl) ?_
        refine B_getc (pc := 51) (i := 52) (k := 0) (j := 53) X G22 rfl clX4 (okL52 _) (by decide) rfl fl_X4_9 dX4_addsArgument_51 ?_
        refine lv_iload_n (pc := 54) X.1 X.2.1 dX4_addsArgument_54 rfl (lv_at hl4 0 rfl) ?_
        have h21_r := rd_some h21
        refine B_iald (pc := 55) (i := 53) (n := 60) X G22 rfl (okL53 _) rfl h21_r.1 dX4_addsArgument_55 ?_
        refine lv_topi (fun x23 ex23 => ?_)
        have h24 := h21_r.2
        rw [← ex23] at h24
        refine lq_mmax (pc := 56) (rest := [.ref (ad 52)]) X hl4 (ml_X4_68 : Cond.methodLink RX4 68 Lib.Math.max.name ∈ G0) w_max_s w_math w_max_c (Nat.le_of_ble_eq_true rfl) (Nat.le_of_ble_eq_true rfl) (Nat.le_of_ble_eq_true rfl) (Nat.le_of_ble_eq_true rfl) dX4_addsArgument_56 ?_
        obtain ⟨b25, eb25, h26⟩ := bd_some h24
        refine B_puti (pc := 59) (i := 52) (k := 6) (v := (if (b20.1 52 6) < x23 then x23 else (b20.1 52 6))) X G22 eb25 rfl clX4 (okL52 _) (by decide) rfl rfl rfl rfl fl_X4_31 dX4_addsArgument_59 (fun H locs G27 => ?_)
        have nb25 : b25.2.2 = b20.2.2 := by rw [eb25]; rfl
        refine lv_iconst (pc := 62) (v := 1) X.1 X.2.1 dX4_addsArgument_62 (by decide) ?_
        obtain ⟨hb, h26_b⟩ := bz_some h26
        have h26_b_i := Option.some.inj h26_b
        exact m_zret (pc := 63) X G27 hr hlk dX4_addsArgument_63 hb (congrArg Prod.snd h26_b_i) (congrArg (fun q : BS × Int32 => celB κ ad r0 q.1) h26_b_i)
      · have h17 := it_neg h14 hc15
        refine lv_iconst (pc := 33) (v := 0) X.1 X.2.1 dX4_addsArgument_33 (by decide) ?_
        obtain ⟨hb, h17_b⟩ := bz_some h17
        have h17_b_i := Option.some.inj h17_b
        exact m_zret (pc := 34) X G hr hlk dX4_addsArgument_34 hb (congrArg Prod.snd h17_b_i) (congrArg (fun q : BS × Int32 => celB κ ad r0 q.1) h17_b_i)
    · have h12 := it_neg h9 hc10
      exact hk5  _ _ ls3 h12 G (lv_sub hl4 [] rfl)

abbrev rm4_closesCall : Room := { frames := 0, cells := 0, slots := 0, locals := 0 }
noncomputable def F4_closesCall (b : BS)  : Option (BS × Int32) :=
  if (0 : Int32) < (b.1 52 1) then
  bd (setI b 52 1 ((b.1 52 1) - 1)) fun b4 =>
  bz 1 (some (b4, 1))
  else
  bz 0 (some (b, 0))
set_option maxHeartbeats 4000000 in
set_option maxRecDepth 100000 in
theorem c4_closesCall (l : Launch) (D : va_G) (κ : Nat → ClassId) (A : Nat → Prop) (ad : Nat → Nat) (r0 : Nat → Option va_E) (b : BS)  (res : BS × Int32) (h : F4_closesCall b  = some res) : Met l yX4_closesCall (gw yX4_closesCall cX4_closesCall 1 (some (FieldType.boolean))) rm4_closesCall (va_Pc [.ref (ad 52)] (MW D κ A ad (celB κ ad r0 b))) (QI D κ A ad (celB κ ad r0 res.1) res.2) 0 0 A := by
  refine met_of (own := RX4) (by decide +kernel) rfl (Nat.le_of_ble_eq_true rfl) ?_
  intro p e s m below meth c ls X hr hlk G hl
  have hl : lv_has ls 1 [(0, .ref (ad 52))] := hl
  unfold F4_closesCall at h
  refine lv_aload_n (pc := 0) X.1 X.2.1 dX4_closesCall_0 rfl (lv_at hl 0 rfl) ?_
  refine B_geti (pc := 1) (i := 52) (k := 1) X G rfl clX4 (okL52 _) (by decide) rfl rfl fl_X4_15 dX4_closesCall_1 ?_
  refine lv_if_gt (pc := 4) (tgt := 9) X.1 X.2.1 dX4_closesCall_4 (by decide) (fun hc1 => ?_) (fun hc1 => ?_)
  · have h2 := it_pos h hc1
    refine lv_aload_n (pc := 9) X.1 X.2.1 dX4_closesCall_9 rfl (lv_at hl 0 rfl) ?_
    refine lv_dup (pc := 10) X.1 X.2.1 dX4_closesCall_10 rfl ?_
    refine B_geti (pc := 11) (i := 52) (k := 1) X G rfl clX4 (okL52 _) (by decide) rfl rfl fl_X4_15 dX4_closesCall_11 ?_
    refine lv_iconst (pc := 14) (v := 1) X.1 X.2.1 dX4_closesCall_14 (by decide) ?_
    refine lv_isub (pc := 15) X.1 X.2.1 dX4_closesCall_15 ?_
    obtain ⟨b4, eb4, h5⟩ := bd_some h2
    refine B_puti (pc := 16) (i := 52) (k := 1) (v := ((b.1 52 1) - 1)) X G eb4 rfl clX4 (okL52 _) (by decide) rfl rfl rfl rfl fl_X4_15 dX4_closesCall_16 (fun H locs G6 => ?_)
    have nb4 : b4.2.2 = b.2.2 := by rw [eb4]; rfl
    refine lv_iconst (pc := 19) (v := 1) X.1 X.2.1 dX4_closesCall_19 (by decide) ?_
    obtain ⟨hb, h5_b⟩ := bz_some h5
    have h5_b_i := Option.some.inj h5_b
    exact m_zret (pc := 20) X G6 hr hlk dX4_closesCall_20 hb (congrArg Prod.snd h5_b_i) (congrArg (fun q : BS × Int32 => celB κ ad r0 q.1) h5_b_i)
  · have h3 := it_neg h hc1
    refine lv_iconst (pc := 7) (v := 0) X.1 X.2.1 dX4_closesCall_7 (by decide) ?_
    obtain ⟨hb, h3_b⟩ := bz_some h3
    have h3_b_i := Option.some.inj h3_b
    exact m_zret (pc := 8) X G hr hlk dX4_closesCall_8 hb (congrArg Prod.snd h3_b_i) (congrArg (fun q : BS × Int32 => celB κ ad r0 q.1) h3_b_i)

abbrev rm4_accepts : Room := { frames := 2, cells := 0, slots := 0, locals := 35 }
noncomputable def F4_accepts (b : BS) (p0 : Int32) (p1 : Int32) : Option (BS × Int32) :=
  jp (fun (_ : Unit) => bd (setI b 52 8 ((b.1 52 8) + 1)) fun b100 =>
  bz 1 (some (b100, 1))) fun k1 =>
  jp (fun (_ : Unit) => if ¬ p0 = 95 then
  if ¬ p0 = 63 then
  bn (F7_isAbbreviation p0) fun x21 =>
  if x21 = 0 then
  if ¬ p0 = 40 then
  if ¬ p0 = 44 then
  jp (fun (x52 : Int32) (b53 : BS) => bz x52 (some (b53, x52))) fun k33 =>
  jp (fun (b47 : BS) => k33 0 b47) fun k35 =>
  if ¬ p0 = 41 then
  k35 b
  else
  bn2 (F4_closesCall b) fun b43 x42 =>
  if x42 = 0 then
  k35 b43
  else
  k33 1 b43
  else
  bn2 (F4_addsArgument b) fun b61 x60 =>
  bz x60 (some (b61, x60))
  else
  bn (F7_isAbbreviation p1) fun x62 =>
  jp (fun (x84 : Int32) (b85 : BS) => bz x84 (some (b85, x84))) fun k65 =>
  jp (fun (b79 : BS) => k65 0 b79) fun k67 =>
  if x62 = 0 then
  k67 b
  else
  bn2 (F4_opensCall b) fun b75 x74 =>
  if x74 = 0 then
  k67 b75
  else
  k65 1 b75
  else
  bn (F4_noteCall b (p0 - 65)) fun b92 =>
  bz 1 (some (b92, 1))
  else
  bd (setI b 52 4 ((b.1 52 4) + 1)) fun b93 =>
  bz 1 (some (b93, 1))
  else
  k1 ()) fun k3 =>
  if p0 < 97 then
  k3 ()
  else
  if p0 ≤ 122 then
  k1 ()
  else
  k3 ()
set_option maxHeartbeats 4000000 in
set_option maxRecDepth 100000 in
theorem c4_accepts (l : Launch) (D : va_G) (κ : Nat → ClassId) (A : Nat → Prop) (ad : Nat → Nat) (r0 : Nat → Option va_E) (b : BS) (p0 : Int32) (p1 : Int32) (res : BS × Int32) (h : F4_accepts b p0 p1 = some res) : Met l yX4_accepts (gw yX4_accepts cX4_accepts 3 (some (FieldType.boolean))) rm4_accepts (va_Pc [.ref (ad 52), .int p0, .int p1] (MW D κ A ad (celB κ ad r0 b))) (QI D κ A ad (celB κ ad r0 res.1) res.2) 0 0 A := by
  refine met_of (own := RX4) (by decide +kernel) rfl (Nat.le_of_ble_eq_true rfl) ?_
  intro p e s m below meth c ls X hr hlk G hl
  have hl : lv_has ls 3 [(0, .ref (ad 52)), (1, .int p0), (2, .int p1)] := hl
  unfold F4_accepts at h
  refine lv_iload_n (pc := 0) X.1 X.2.1 dX4_accepts_0 rfl (lv_at hl 1 rfl) ?_
  refine lv_bipush (pc := 1) (v := 97) X.1 X.2.1 dX4_accepts_1 (by decide) ?_
  obtain ⟨k1, ek1, h2⟩ := jp_some h
  have hk1 : ∀  (H : Heap) (locs : List Loc) (ls : Array Slot), k1 () = some res → Mm D κ A ad (celB κ ad r0 b) s H locs → lv_has ls 3 [(0, .ref (ad 52))] → W p l e rm4_accepts s m [.ref (ad 52), .int p0, .int p1].toArray below meth c H locs 0 0 (MQ below (QI D κ A ad (celB κ ad r0 res.1) res.2) [.ref (ad 52), .int p0, .int p1].toArray s 0 0 A) (F0 m 18 ls []) := by
    intro  H locs ls99 h96 G97 hl98
    rw [ek1] at h96
    try dsimp only at h96
    refine lv_aload_n (pc := 18) X.1 X.2.1 dX4_accepts_18 rfl (lv_at hl98 0 rfl) ?_
    refine lv_dup (pc := 19) X.1 X.2.1 dX4_accepts_19 rfl ?_
    refine B_geti (pc := 20) (i := 52) (k := 8) X G97 rfl clX4 (okL52 _) (by decide) rfl rfl fl_X4_37 dX4_accepts_20 ?_
    refine lv_iconst (pc := 23) (v := 1) X.1 X.2.1 dX4_accepts_23 (by decide) ?_
    refine lv_iadd (pc := 24) X.1 X.2.1 dX4_accepts_24 ?_
    obtain ⟨b100, eb100, h101⟩ := bd_some h96
    refine B_puti (pc := 25) (i := 52) (k := 8) (v := ((b.1 52 8) + 1)) X G97 eb100 rfl clX4 (okL52 _) (by decide) rfl rfl rfl rfl fl_X4_37 dX4_accepts_25 (fun H locs G102 => ?_)
    have nb100 : b100.2.2 = b.2.2 := by rw [eb100]; rfl
    refine lv_iconst (pc := 28) (v := 1) X.1 X.2.1 dX4_accepts_28 (by decide) ?_
    obtain ⟨hb, h101_b⟩ := bz_some h101
    have h101_b_i := Option.some.inj h101_b
    exact m_zret (pc := 29) X G102 hr hlk dX4_accepts_29 hb (congrArg Prod.snd h101_b_i) (congrArg (fun q : BS × Int32 => celB κ ad r0 q.1) h101_b_i)
  obtain ⟨k3, ek3, h4⟩ := jp_some h2
  have hk3 : ∀  (H : Heap) (locs : List Loc) (ls : Array Slot), k3 () = some res → Mm D κ A ad (celB κ ad r0 b) s H locs → lv_has ls 3 [(0, .ref (ad 52)), (1, .int p0), (2, .int p1)] → W p l e rm4_accepts s m [.ref (ad 52), .int p0, .int p1].toArray below meth c H locs 0 0 (MQ below (QI D κ A ad (celB κ ad r0 res.1) res.2) [.ref (ad 52), .int p0, .int p1].toArray s 0 0 A) (F0 m 12 ls []) := by
    intro  H locs ls14 h11 G12 hl13
    rw [ek3] at h11
    try dsimp only at h11
    refine lv_iload_n (pc := 12) X.1 X.2.1 dX4_accepts_12 rfl (lv_at hl13 1 rfl) ?_
    refine lv_bipush (pc := 13) (v := 95) X.1 X.2.1 dX4_accepts_13 (by decide) ?_
    refine lv_icmp_ne (pc := 15) (tgt := 30) X.1 X.2.1 dX4_accepts_15 (by decide) (fun hc15 => ?_) (fun hc15 => ?_)
    · have h16 := it_pos h11 hc15
      refine lv_iload_n (pc := 30) X.1 X.2.1 dX4_accepts_30 rfl (lv_at hl13 1 rfl) ?_
      refine lv_bipush (pc := 31) (v := 63) X.1 X.2.1 dX4_accepts_31 (by decide) ?_
      refine lv_icmp_ne (pc := 33) (tgt := 48) X.1 X.2.1 dX4_accepts_33 (by decide) (fun hc18 => ?_) (fun hc18 => ?_)
      · have h19 := it_pos h16 hc18
        refine lv_iload_n (pc := 48) X.1 X.2.1 dX4_accepts_48 rfl (lv_at hl13 1 rfl) ?_
        obtain ⟨x21, ex21, h22⟩ := bn_some h19
        refine B_callsi (pc := 49) (v := x21) (host := RX7) (As := [.int p0]) (rest := []) X G12 (rm := rm7_isAbbreviation) rfl rfl (c7_isAbbreviation l D κ A ad (celB κ ad r0 b) p0 x21 ex21) (by decide +kernel) cd_yX7_isAbbreviation sm_yX7_isAbbreviation ini_X7 hs_yX7_isAbbreviation ⟨Nat.le_of_ble_eq_true rfl, Nat.le_of_ble_eq_true rfl⟩ rfl hl13 rfl (lv_room (Nat.le_of_ble_eq_true rfl)) dX4_accepts_49 ⟨Nat.le_of_ble_eq_true rfl, Nat.le_of_ble_eq_true rfl⟩ (fun H locs G23 => ?_)
        refine lv_if_eq (pc := 52) (tgt := 65) X.1 X.2.1 dX4_accepts_52 (by decide) (fun hc24 => ?_) (fun hc24 => ?_)
        · have h25 := it_pos h22 hc24
          refine lv_iload_n (pc := 65) X.1 X.2.1 dX4_accepts_65 rfl (lv_at hl13 1 rfl) ?_
          refine lv_bipush (pc := 66) (v := 40) X.1 X.2.1 dX4_accepts_66 (by decide) ?_
          refine lv_icmp_ne (pc := 68) (tgt := 91) X.1 X.2.1 dX4_accepts_68 (by decide) (fun hc27 => ?_) (fun hc27 => ?_)
          · have h28 := it_pos h25 hc27
            refine lv_iload_n (pc := 91) X.1 X.2.1 dX4_accepts_91 rfl (lv_at hl13 1 rfl) ?_
            refine lv_bipush (pc := 92) (v := 44) X.1 X.2.1 dX4_accepts_92 (by decide) ?_
            refine lv_icmp_ne (pc := 94) (tgt := 102) X.1 X.2.1 dX4_accepts_94 (by decide) (fun hc30 => ?_) (fun hc30 => ?_)
            · have h31 := it_pos h28 hc30
              refine lv_iload_n (pc := 102) X.1 X.2.1 dX4_accepts_102 rfl (lv_at hl13 1 rfl) ?_
              refine lv_bipush (pc := 103) (v := 41) X.1 X.2.1 dX4_accepts_103 (by decide) ?_
              obtain ⟨k33, ek33, h34⟩ := jp_some h31
              have hk33 : ∀ (x52 : Int32) (b53 : BS) (H : Heap) (locs : List Loc) (ls : Array Slot), k33 x52 b53 = some res → Mm D κ A ad (celB κ ad r0 b53) s H locs → lv_has ls 3 [] → W p l e rm4_accepts s m [.ref (ad 52), .int p0, .int p1].toArray below meth c H locs 0 0 (MQ below (QI D κ A ad (celB κ ad r0 res.1) res.2) [.ref (ad 52), .int p0, .int p1].toArray s 0 0 A) (F0 m 120 ls [.int x52]) := by
                intro x52 b53 H locs ls57 h54 G55 hl56
                rw [ek33] at h54
                try dsimp only at h54
                obtain ⟨hb, h54_b⟩ := bz_some h54
                have h54_b_i := Option.some.inj h54_b
                exact m_zret (pc := 120) X G55 hr hlk dX4_accepts_120 hb (congrArg Prod.snd h54_b_i) (congrArg (fun q : BS × Int32 => celB κ ad r0 q.1) h54_b_i)
              obtain ⟨k35, ek35, h36⟩ := jp_some h34
              have hk35 : ∀ (b47 : BS) (H : Heap) (locs : List Loc) (ls : Array Slot), k35 b47 = some res → Mm D κ A ad (celB κ ad r0 b47) s H locs → lv_has ls 3 [] → W p l e rm4_accepts s m [.ref (ad 52), .int p0, .int p1].toArray below meth c H locs 0 0 (MQ below (QI D κ A ad (celB κ ad r0 res.1) res.2) [.ref (ad 52), .int p0, .int p1].toArray s 0 0 A) (F0 m 119 ls []) := by
                intro b47 H locs ls51 h48 G49 hl50
                rw [ek35] at h48
                try dsimp only at h48
                refine lv_iconst (pc := 119) (v := 0) X.1 X.2.1 dX4_accepts_119 (by decide) ?_
                exact hk33 0 b47 _ _ ls51 h48 G49 (lv_sub hl50 [] rfl)
              refine lv_icmp_ne (pc := 105) (tgt := 119) X.1 X.2.1 dX4_accepts_105 (by decide) (fun hc37 => ?_) (fun hc37 => ?_)
              · have h38 := it_pos h36 hc37
                exact hk35 b _ _ ls14 h38 G23 (lv_sub hl13 [] rfl)
              · have h39 := it_neg h36 (fun q => q hc37)
                refine lv_aload_n (pc := 108) X.1 X.2.1 dX4_accepts_108 rfl (lv_at hl13 0 rfl) ?_
                obtain ⟨b43, x42, ex42, h40⟩ := bn2_some h39
                refine B_calli (pc := 109) (v := x42) (M' := (celB κ ad r0 b43)) (i := 52) (As := []) (rest := []) X G23 (rm := rm4_closesCall) rfl rfl rfl (c4_closesCall l D κ A ad r0 b (b43, x42) ex42) (B_rcv (ci := 4) (okL52 _) (by decide)) rfl g_X4_65 hd_yX4_closesCall ⟨Nat.le_of_ble_eq_true rfl, Nat.le_of_ble_eq_true rfl⟩ rfl hl13 rfl (lv_room (Nat.le_of_ble_eq_true rfl)) dX4_accepts_109 ⟨Nat.le_of_ble_eq_true rfl, Nat.le_of_ble_eq_true rfl⟩ (fun H locs G41 => ?_)
                refine lv_if_eq (pc := 112) (tgt := 119) X.1 X.2.1 dX4_accepts_112 (by decide) (fun hc44 => ?_) (fun hc44 => ?_)
                · have h45 := it_pos h40 hc44
                  exact hk35 b43 _ _ ls14 h45 G41 (lv_sub hl13 [] rfl)
                · have h46 := it_neg h40 hc44
                  refine lv_iconst (pc := 115) (v := 1) X.1 X.2.1 dX4_accepts_115 (by decide) ?_
                  refine lv_goto (pc := 116) (tgt := 120) X.1 X.2.1 dX4_accepts_116 (by decide) ?_
                  exact hk33 1 b43 _ _ ls14 h46 G41 (lv_sub hl13 [] rfl)
            · have h32 := it_neg h28 (fun q => q hc30)
              refine lv_aload_n (pc := 97) X.1 X.2.1 dX4_accepts_97 rfl (lv_at hl13 0 rfl) ?_
              obtain ⟨b61, x60, ex60, h58⟩ := bn2_some h32
              refine B_calli (pc := 98) (v := x60) (M' := (celB κ ad r0 b61)) (i := 52) (As := []) (rest := []) X G23 (rm := rm4_addsArgument) rfl rfl rfl (c4_addsArgument l D κ A ad r0 b (b61, x60) ex60) (B_rcv (ci := 4) (okL52 _) (by decide)) rfl g_X4_62 hd_yX4_addsArgument ⟨Nat.le_of_ble_eq_true rfl, Nat.le_of_ble_eq_true rfl⟩ rfl hl13 rfl (lv_room (Nat.le_of_ble_eq_true rfl)) dX4_accepts_98 ⟨Nat.le_of_ble_eq_true rfl, Nat.le_of_ble_eq_true rfl⟩ (fun H locs G59 => ?_)
              obtain ⟨hb, h58_b⟩ := bz_some h58
              have h58_b_i := Option.some.inj h58_b
              exact m_zret (pc := 101) X G59 hr hlk dX4_accepts_101 hb (congrArg Prod.snd h58_b_i) (congrArg (fun q : BS × Int32 => celB κ ad r0 q.1) h58_b_i)
          · have h29 := it_neg h25 (fun q => q hc27)
            refine lv_iload_n (pc := 71) X.1 X.2.1 dX4_accepts_71 rfl (lv_at hl13 2 rfl) ?_
            obtain ⟨x62, ex62, h63⟩ := bn_some h29
            refine B_callsi (pc := 72) (v := x62) (host := RX7) (As := [.int p1]) (rest := []) X G23 (rm := rm7_isAbbreviation) rfl rfl (c7_isAbbreviation l D κ A ad (celB κ ad r0 b) p1 x62 ex62) (by decide +kernel) cd_yX7_isAbbreviation sm_yX7_isAbbreviation ini_X7 hs_yX7_isAbbreviation ⟨Nat.le_of_ble_eq_true rfl, Nat.le_of_ble_eq_true rfl⟩ rfl hl13 rfl (lv_room (Nat.le_of_ble_eq_true rfl)) dX4_accepts_72 ⟨Nat.le_of_ble_eq_true rfl, Nat.le_of_ble_eq_true rfl⟩ (fun H locs G64 => ?_)
            obtain ⟨k65, ek65, h66⟩ := jp_some h63
            have hk65 : ∀ (x84 : Int32) (b85 : BS) (H : Heap) (locs : List Loc) (ls : Array Slot), k65 x84 b85 = some res → Mm D κ A ad (celB κ ad r0 b85) s H locs → lv_has ls 3 [] → W p l e rm4_accepts s m [.ref (ad 52), .int p0, .int p1].toArray below meth c H locs 0 0 (MQ below (QI D κ A ad (celB κ ad r0 res.1) res.2) [.ref (ad 52), .int p0, .int p1].toArray s 0 0 A) (F0 m 90 ls [.int x84]) := by
              intro x84 b85 H locs ls89 h86 G87 hl88
              rw [ek65] at h86
              try dsimp only at h86
              obtain ⟨hb, h86_b⟩ := bz_some h86
              have h86_b_i := Option.some.inj h86_b
              exact m_zret (pc := 90) X G87 hr hlk dX4_accepts_90 hb (congrArg Prod.snd h86_b_i) (congrArg (fun q : BS × Int32 => celB κ ad r0 q.1) h86_b_i)
            obtain ⟨k67, ek67, h68⟩ := jp_some h66
            have hk67 : ∀ (b79 : BS) (H : Heap) (locs : List Loc) (ls : Array Slot), k67 b79 = some res → Mm D κ A ad (celB κ ad r0 b79) s H locs → lv_has ls 3 [] → W p l e rm4_accepts s m [.ref (ad 52), .int p0, .int p1].toArray below meth c H locs 0 0 (MQ below (QI D κ A ad (celB κ ad r0 res.1) res.2) [.ref (ad 52), .int p0, .int p1].toArray s 0 0 A) (F0 m 89 ls []) := by
              intro b79 H locs ls83 h80 G81 hl82
              rw [ek67] at h80
              try dsimp only at h80
              refine lv_iconst (pc := 89) (v := 0) X.1 X.2.1 dX4_accepts_89 (by decide) ?_
              exact hk65 0 b79 _ _ ls83 h80 G81 (lv_sub hl82 [] rfl)
            refine lv_if_eq (pc := 75) (tgt := 89) X.1 X.2.1 dX4_accepts_75 (by decide) (fun hc69 => ?_) (fun hc69 => ?_)
            · have h70 := it_pos h68 hc69
              exact hk67 b _ _ ls14 h70 G64 (lv_sub hl13 [] rfl)
            · have h71 := it_neg h68 hc69
              refine lv_aload_n (pc := 78) X.1 X.2.1 dX4_accepts_78 rfl (lv_at hl13 0 rfl) ?_
              obtain ⟨b75, x74, ex74, h72⟩ := bn2_some h71
              refine B_calli (pc := 79) (v := x74) (M' := (celB κ ad r0 b75)) (i := 52) (As := []) (rest := []) X G64 (rm := rm4_opensCall) rfl rfl rfl (c4_opensCall l D κ A ad r0 b (b75, x74) ex74) (B_rcv (ci := 4) (okL52 _) (by decide)) rfl g_X4_58 hd_yX4_opensCall ⟨Nat.le_of_ble_eq_true rfl, Nat.le_of_ble_eq_true rfl⟩ rfl hl13 rfl (lv_room (Nat.le_of_ble_eq_true rfl)) dX4_accepts_79 ⟨Nat.le_of_ble_eq_true rfl, Nat.le_of_ble_eq_true rfl⟩ (fun H locs G73 => ?_)
              refine lv_if_eq (pc := 82) (tgt := 89) X.1 X.2.1 dX4_accepts_82 (by decide) (fun hc76 => ?_) (fun hc76 => ?_)
              · have h77 := it_pos h72 hc76
                exact hk67 b75 _ _ ls14 h77 G73 (lv_sub hl13 [] rfl)
              · have h78 := it_neg h72 hc76
                refine lv_iconst (pc := 85) (v := 1) X.1 X.2.1 dX4_accepts_85 (by decide) ?_
                refine lv_goto (pc := 86) (tgt := 90) X.1 X.2.1 dX4_accepts_86 (by decide) ?_
                exact hk65 1 b75 _ _ ls14 h78 G73 (lv_sub hl13 [] rfl)
        · have h26 := it_neg h22 hc24
          refine lv_aload_n (pc := 55) X.1 X.2.1 dX4_accepts_55 rfl (lv_at hl13 0 rfl) ?_
          refine lv_iload_n (pc := 56) X.1 X.2.1 dX4_accepts_56 rfl (lv_at hl13 1 rfl) ?_
          refine lv_bipush (pc := 57) (v := 65) X.1 X.2.1 dX4_accepts_57 (by decide) ?_
          refine lv_isub (pc := 59) X.1 X.2.1 dX4_accepts_59 ?_
          obtain ⟨b92, eb92, h90⟩ := bn_some h26
          refine B_callv (pc := 60) (M' := (celB κ ad r0 b92)) (i := 52) (As := [.int (p0 - 65)]) (rest := []) X G23 (rm := rm4_noteCall) rfl rfl rfl (c4_noteCall l D κ A ad r0 b (p0 - 65) b92 eb92) (B_rcv (ci := 4) (okL52 _) (by decide)) rfl g_X4_55 hd_yX4_noteCall ⟨Nat.le_of_ble_eq_true rfl, Nat.le_of_ble_eq_true rfl⟩ rfl hl13 rfl (lv_room (Nat.le_of_ble_eq_true rfl)) dX4_accepts_60 ⟨Nat.le_of_ble_eq_true rfl, Nat.le_of_ble_eq_true rfl⟩ (fun H locs G91 => ?_)
          refine lv_iconst (pc := 63) (v := 1) X.1 X.2.1 dX4_accepts_63 (by decide) ?_
          obtain ⟨hb, h90_b⟩ := bz_some h90
          have h90_b_i := Option.some.inj h90_b
          exact m_zret (pc := 64) X G91 hr hlk dX4_accepts_64 hb (congrArg Prod.snd h90_b_i) (congrArg (fun q : BS × Int32 => celB κ ad r0 q.1) h90_b_i)
      · have h20 := it_neg h16 (fun q => q hc18)
        refine lv_aload_n (pc := 36) X.1 X.2.1 dX4_accepts_36 rfl (lv_at hl13 0 rfl) ?_
        refine lv_dup (pc := 37) X.1 X.2.1 dX4_accepts_37 rfl ?_
        refine B_geti (pc := 38) (i := 52) (k := 4) X G12 rfl clX4 (okL52 _) (by decide) rfl rfl fl_X4_25 dX4_accepts_38 ?_
        refine lv_iconst (pc := 41) (v := 1) X.1 X.2.1 dX4_accepts_41 (by decide) ?_
        refine lv_iadd (pc := 42) X.1 X.2.1 dX4_accepts_42 ?_
        obtain ⟨b93, eb93, h94⟩ := bd_some h20
        refine B_puti (pc := 43) (i := 52) (k := 4) (v := ((b.1 52 4) + 1)) X G12 eb93 rfl clX4 (okL52 _) (by decide) rfl rfl rfl rfl fl_X4_25 dX4_accepts_43 (fun H locs G95 => ?_)
        have nb93 : b93.2.2 = b.2.2 := by rw [eb93]; rfl
        refine lv_iconst (pc := 46) (v := 1) X.1 X.2.1 dX4_accepts_46 (by decide) ?_
        obtain ⟨hb, h94_b⟩ := bz_some h94
        have h94_b_i := Option.some.inj h94_b
        exact m_zret (pc := 47) X G95 hr hlk dX4_accepts_47 hb (congrArg Prod.snd h94_b_i) (congrArg (fun q : BS × Int32 => celB κ ad r0 q.1) h94_b_i)
    · have h17 := it_neg h11 (fun q => q hc15)
      exact hk1  _ _ ls14 h17 G12 (lv_sub hl13 [0] rfl)
  refine lv_icmp_lt (pc := 3) (tgt := 12) X.1 X.2.1 dX4_accepts_3 (by decide) (fun hc5 => ?_) (fun hc5 => ?_)
  · have h6 := it_pos h4 hc5
    exact hk3  _ _ ls h6 G (lv_sub hl [0, 1, 2] rfl)
  · have h7 := it_neg h4 hc5
    refine lv_iload_n (pc := 6) X.1 X.2.1 dX4_accepts_6 rfl (lv_at hl 1 rfl) ?_
    refine lv_bipush (pc := 7) (v := 122) X.1 X.2.1 dX4_accepts_7 (by decide) ?_
    refine lv_icmp_le (pc := 9) (tgt := 18) X.1 X.2.1 dX4_accepts_9 (by decide) (fun hc8 => ?_) (fun hc8 => ?_)
    · have h9 := it_pos h7 hc8
      exact hk1  _ _ ls h9 G (lv_sub hl [0] rfl)
    · have h10 := it_neg h7 hc8
      exact hk3  _ _ ls h10 G (lv_sub hl [0, 1, 2] rfl)

abbrev rm4_readText : Room := { frames := 3, cells := 0, slots := 0, locals := 57 }
noncomputable def F4_readText (b : BS) (p0 : Nat) (p1 : Int32) : Option (BS) :=
  bn (F4_startOver b p1) fun b3 =>
  Loop (fun (q : Int32 × Int32 × BS) => (fun (x8 : Int32) (x9 : Int32) (b10 : BS) =>
  jp (fun (_ : Unit) => some (.inr b10)) fun k15 =>
  if p1 ≤ x9 then
  k15 ()
  else
  ck (okB b10.2.2 p0 20) <|
  if (nI (lnB b10.2.2 p0)) ≤ x9 then
  k15 ()
  else
  rd (b10.1 p0) (lnB b10.2.2 p0) x9 fun x25 =>
  bn2 (F4_accepts b10 x25 x8) fun b30 x29 =>
  if ¬ x29 = 0 then
  ck (okB b30.2.2 p0 20) <|
  rd (b30.1 p0) (lnB b30.2.2 p0) x9 fun x36 =>
  bd (setI b30 52 3 (x9 + 1)) fun b40 =>
  bd (x9 + 1) fun x43 =>
  some (.inl (x36, x43, b40))
  else
  some (.inr b30)) q.1 q.2.1 q.2.2) (0, 0, b3)
set_option maxHeartbeats 4000000 in
set_option maxRecDepth 100000 in
theorem c4_readText (l : Launch) (D : va_G) (κ : Nat → ClassId) (A : Nat → Prop) (ad : Nat → Nat) (r0 : Nat → Option va_E) (b : BS) (p0 : Nat) (p1 : Int32) (res : BS) (h : F4_readText b p0 p1 = some res) : Met l yX4_readText (gw yX4_readText cX4_readText 5 none) rm4_readText (va_Pc [.ref (ad 52), .ref (ad p0), .int p1] (MW D κ A ad (celB κ ad r0 b))) (QV D κ A ad (celB κ ad r0 res)) 0 0 A := by
  refine met_of (own := RX4) (by decide +kernel) rfl (Nat.le_of_ble_eq_true rfl) ?_
  intro p e s m below meth c ls X hr hlk G hl
  have hl : lv_has ls 5 [(0, .ref (ad 52)), (1, .ref (ad p0)), (2, .int p1)] := hl
  unfold F4_readText at h
  refine lv_aload_n (pc := 0) X.1 X.2.1 dX4_readText_0 rfl (lv_at hl 0 rfl) ?_
  refine lv_iload_n (pc := 1) X.1 X.2.1 dX4_readText_1 rfl (lv_at hl 2 rfl) ?_
  obtain ⟨b3, eb3, h1⟩ := bn_some h
  refine B_callv (pc := 2) (M' := (celB κ ad r0 b3)) (i := 52) (As := [.int p1]) (rest := []) X G (rm := rm4_startOver) rfl rfl rfl (c4_startOver l D κ A ad r0 b p1 b3 eb3) (B_rcv (ci := 4) (okL52 _) (by decide)) rfl g_X4_43 hd_yX4_startOver ⟨Nat.le_of_ble_eq_true rfl, Nat.le_of_ble_eq_true rfl⟩ rfl hl rfl (lv_room (Nat.le_of_ble_eq_true rfl)) dX4_readText_2 ⟨Nat.le_of_ble_eq_true rfl, Nat.le_of_ble_eq_true rfl⟩ (fun H locs G2 => ?_)
  refine lv_iconst (pc := 5) (v := 0) X.1 X.2.1 dX4_readText_5 (by decide) ?_
  refine lv_istore_n (pc := 6) (lv' := [(3, .int 0), (0, .ref (ad 52)), (1, .ref (ad p0)), (2, .int p1)]) X.1 X.2.1 dX4_readText_6 rfl hl (by decide) rfl (fun ls4 hl5 => ?_)
  refine lv_iconst (pc := 7) (v := 0) X.1 X.2.1 dX4_readText_7 (by decide) ?_
  refine lv_istore (pc := 8) (lv' := [(4, .int 0), (3, .int 0), (0, .ref (ad 52)), (1, .ref (ad p0)), (2, .int p1)]) X.1 X.2.1 dX4_readText_8 hl5 (by decide) rfl (fun ls6 hl7 => ?_)
  refine Loop_ind (P := fun (q : Int32 × Int32 × BS) => ∀ (H : Heap) (locs : List Loc) (ls : Array Slot), Mm D κ A ad (celB κ ad r0 q.2.2) s H locs → lv_has ls 5 [(0, .ref (ad 52)), (1, .ref (ad p0)), (2, .int p1), (3, .int q.1), (4, .int q.2.1)] → W p l e rm4_readText s m [.ref (ad 52), .ref (ad p0), .int p1].toArray below meth c H locs 0 0 (MQ below (QV D κ A ad (celB κ ad r0 res)) [.ref (ad 52), .ref (ad p0), .int p1].toArray s 0 0 A) (F0 m 10 ls [])) ?_ h1 _ _ ls6 G2 (lv_sub hl7 [2, 3, 4, 1, 0] rfl)
  intro q y1 h11 ih1 hz1 H locs ls14 G12 hl13
  obtain ⟨x8, x9, b10⟩ := q
  try dsimp only at h11 ih1 G12 hl13 ⊢
  refine lv_iload (pc := 10) X.1 X.2.1 dX4_readText_10 (lv_at hl13 4 rfl) ?_
  refine lv_iload_n (pc := 12) X.1 X.2.1 dX4_readText_12 rfl (lv_at hl13 2 rfl) ?_
  obtain ⟨k15, ek15, h16⟩ := jp_some h11
  have hk15 : ∀  (H : Heap) (locs : List Loc) (ls : Array Slot), k15 () = some y1 → Mm D κ A ad (celB κ ad r0 b10) s H locs → lv_has ls 5 [] → W p l e rm4_readText s m [.ref (ad 52), .ref (ad p0), .int p1].toArray below meth c H locs 0 0 (MQ below (QV D κ A ad (celB κ ad r0 res)) [.ref (ad 52), .ref (ad p0), .int p1].toArray s 0 0 A) (F0 m 55 ls []) := by
    intro  H locs ls50 h47 G48 hl49
    rw [ek15] at h47
    try dsimp only at h47
    have h47_i := Option.some.inj h47
    have h47_i_1 := hz1 _ h47_i.symm
    exact m_vret (pc := 55) X G48 hr hlk dX4_readText_55 (congrArg (celB κ ad r0) h47_i_1)
  refine lv_icmp_ge (pc := 13) (tgt := 55) X.1 X.2.1 dX4_readText_13 (by decide) (fun hc17 => ?_) (fun hc17 => ?_)
  · have h18 := it_pos h16 hc17
    exact hk15  _ _ ls14 h18 G12 (lv_sub hl13 [] rfl)
  · have h19 := it_neg h16 hc17
    refine lv_iload (pc := 16) X.1 X.2.1 dX4_readText_16 (lv_at hl13 4 rfl) ?_
    refine lv_aload_n (pc := 18) X.1 X.2.1 dX4_readText_18 rfl (lv_at hl13 1 rfl) ?_
    obtain ⟨ok20, h21⟩ := ck_some h19
    refine B_alen (pc := 19) (i := p0) (n := (lnB b10.2.2 p0)) X G12 rfl ok20 rfl dX4_readText_19 ?_
    refine lv_icmp_ge (pc := 20) (tgt := 55) X.1 X.2.1 dX4_readText_20 (by decide) (fun hc22 => ?_) (fun hc22 => ?_)
    · have h23 := it_pos h21 hc22
      exact hk15  _ _ ls14 h23 G12 (lv_sub hl13 [] rfl)
    · have h24 := it_neg h21 hc22
      refine lv_aload_n (pc := 23) X.1 X.2.1 dX4_readText_23 rfl (lv_at hl13 0 rfl) ?_
      refine lv_aload_n (pc := 24) X.1 X.2.1 dX4_readText_24 rfl (lv_at hl13 1 rfl) ?_
      refine lv_iload (pc := 25) X.1 X.2.1 dX4_readText_25 (lv_at hl13 4 rfl) ?_
      have h24_r := rd_some h24
      refine B_iald (pc := 27) (i := p0) (n := (lnB b10.2.2 p0)) X G12 rfl ok20 rfl h24_r.1 dX4_readText_27 ?_
      refine lv_topi (fun x25 ex25 => ?_)
      have h26 := h24_r.2
      rw [← ex25] at h26
      refine lv_iload_n (pc := 28) X.1 X.2.1 dX4_readText_28 rfl (lv_at hl13 3 rfl) ?_
      obtain ⟨b30, x29, ex29, h27⟩ := bn2_some h26
      refine B_calli (pc := 29) (v := x29) (M' := (celB κ ad r0 b30)) (i := 52) (As := [.int x25, .int x8]) (rest := []) X G12 (rm := rm4_accepts) rfl rfl rfl (c4_accepts l D κ A ad r0 b10 x25 x8 (b30, x29) ex29) (B_rcv (ci := 4) (okL52 _) (by decide)) rfl g_X4_47 hd_yX4_accepts ⟨Nat.le_of_ble_eq_true rfl, Nat.le_of_ble_eq_true rfl⟩ rfl hl13 rfl (lv_room (Nat.le_of_ble_eq_true rfl)) dX4_readText_29 ⟨Nat.le_of_ble_eq_true rfl, Nat.le_of_ble_eq_true rfl⟩ (fun H locs G28 => ?_)
      refine lv_if_ne (pc := 32) (tgt := 36) X.1 X.2.1 dX4_readText_32 (by decide) (fun hc31 => ?_) (fun hc31 => ?_)
      · have h32 := it_pos h27 hc31
        refine lv_aload_n (pc := 36) X.1 X.2.1 dX4_readText_36 rfl (lv_at hl13 1 rfl) ?_
        refine lv_iload (pc := 37) X.1 X.2.1 dX4_readText_37 (lv_at hl13 4 rfl) ?_
        obtain ⟨ok34, h35⟩ := ck_some h32
        have h35_r := rd_some h35
        refine B_iald (pc := 39) (i := p0) (n := (lnB b30.2.2 p0)) X G28 rfl ok34 rfl h35_r.1 dX4_readText_39 ?_
        refine lv_topi (fun x36 ex36 => ?_)
        have h37 := h35_r.2
        rw [← ex36] at h37
        refine lv_istore_n (pc := 40) (lv' := [(3, .int x36), (0, .ref (ad 52)), (1, .ref (ad p0)), (2, .int p1), (4, .int x9)]) X.1 X.2.1 dX4_readText_40 rfl hl13 (by decide) rfl (fun ls38 hl39 => ?_)
        refine lv_aload_n (pc := 41) X.1 X.2.1 dX4_readText_41 rfl (lv_at hl39 1 rfl) ?_
        refine lv_iload (pc := 42) X.1 X.2.1 dX4_readText_42 (lv_at hl39 4 rfl) ?_
        refine lv_iconst (pc := 44) (v := 1) X.1 X.2.1 dX4_readText_44 (by decide) ?_
        refine lv_iadd (pc := 45) X.1 X.2.1 dX4_readText_45 ?_
        obtain ⟨b40, eb40, h41⟩ := bd_some h37
        refine B_puti (pc := 46) (i := 52) (k := 3) (v := (x9 + 1)) X G28 eb40 rfl clX4 (okL52 _) (by decide) rfl rfl rfl rfl fl_X4_22 dX4_readText_46 (fun H locs G42 => ?_)
        have nb40 : b40.2.2 = b30.2.2 := by rw [eb40]; rfl
        obtain ⟨x43, ex43, h46⟩ := bd_some h41
        refine lv_iinc (pc := 49) (v := x43) (lv' := [(4, .int x43), (3, .int x36), (0, .ref (ad 52)), (1, .ref (ad p0)), (2, .int p1)]) X.1 X.2.1 dX4_readText_49 hl39 (k := 4) rfl (by rw [ex43]; rfl) (by decide) rfl (fun ls44 hl45 => ?_)
        refine lv_goto (pc := 52) (tgt := 10) X.1 X.2.1 dX4_readText_52 (by decide) ?_
        have h46_i := Option.some.inj h46
        exact ih1 _ h46_i.symm _ _ ls44 G42 (lv_sub hl45 [2, 3, 4, 1, 0] rfl)
      · have h33 := it_neg h27 (fun q => q hc31)
        have h33_i := Option.some.inj h33
        have h33_i_1 := hz1 _ h33_i.symm
        exact m_vret (pc := 35) X G28 hr hlk dX4_readText_35 (congrArg (celB κ ad r0) h33_i_1)

abbrev rm4_isComplete : Room := { frames := 0, cells := 0, slots := 0, locals := 0 }
noncomputable def F4_isComplete (b : BS)  : Option (Int32) :=
  jp (fun (x15 : Int32) => bz x15 (some x15)) fun k1 =>
  jp (fun (_ : Unit) => k1 0) fun k3 =>
  if ¬ (b.1 52 3) = (b.1 52 2) then
  k3 ()
  else
  if ¬ (b.1 52 1) = 0 then
  k3 ()
  else
  k1 1
set_option maxHeartbeats 4000000 in
set_option maxRecDepth 100000 in
theorem c4_isComplete (l : Launch) (D : va_G) (κ : Nat → ClassId) (A : Nat → Prop) (ad : Nat → Nat) (r0 : Nat → Option va_E) (b : BS)  (res : Int32) (h : F4_isComplete b  = some res) : Met l yX4_isComplete (gw yX4_isComplete cX4_isComplete 1 (some (FieldType.boolean))) rm4_isComplete (va_Pc [.ref (ad 52)] (MW D κ A ad (celB κ ad r0 b))) (QI D κ A ad (celB κ ad r0 b) res) 0 0 A := by
  refine met_of (own := RX4) (by decide +kernel) rfl (Nat.le_of_ble_eq_true rfl) ?_
  intro p e s m below meth c ls X hr hlk G hl
  have hl : lv_has ls 1 [(0, .ref (ad 52))] := hl
  unfold F4_isComplete at h
  refine lv_aload_n (pc := 0) X.1 X.2.1 dX4_isComplete_0 rfl (lv_at hl 0 rfl) ?_
  refine B_geti (pc := 1) (i := 52) (k := 3) X G rfl clX4 (okL52 _) (by decide) rfl rfl fl_X4_22 dX4_isComplete_1 ?_
  refine lv_aload_n (pc := 4) X.1 X.2.1 dX4_isComplete_4 rfl (lv_at hl 0 rfl) ?_
  refine B_geti (pc := 5) (i := 52) (k := 2) X G rfl clX4 (okL52 _) (by decide) rfl rfl fl_X4_19 dX4_isComplete_5 ?_
  obtain ⟨k1, ek1, h2⟩ := jp_some h
  have hk1 : ∀ (x15 : Int32) (H : Heap) (locs : List Loc) (ls : Array Slot), k1 x15 = some res → Mm D κ A ad (celB κ ad r0 b) s H locs → lv_has ls 1 [] → W p l e rm4_isComplete s m [.ref (ad 52)].toArray below meth c H locs 0 0 (MQ below (QI D κ A ad (celB κ ad r0 b) res) [.ref (ad 52)].toArray s 0 0 A) (F0 m 23 ls [.int x15]) := by
    intro x15 H locs ls19 h16 G17 hl18
    rw [ek1] at h16
    try dsimp only at h16
    obtain ⟨hb, h16_b⟩ := bz_some h16
    have h16_b_i := Option.some.inj h16_b
    exact m_zret (pc := 23) X G17 hr hlk dX4_isComplete_23 hb h16_b_i rfl
  obtain ⟨k3, ek3, h4⟩ := jp_some h2
  have hk3 : ∀  (H : Heap) (locs : List Loc) (ls : Array Slot), k3 () = some res → Mm D κ A ad (celB κ ad r0 b) s H locs → lv_has ls 1 [] → W p l e rm4_isComplete s m [.ref (ad 52)].toArray below meth c H locs 0 0 (MQ below (QI D κ A ad (celB κ ad r0 b) res) [.ref (ad 52)].toArray s 0 0 A) (F0 m 22 ls []) := by
    intro  H locs ls14 h11 G12 hl13
    rw [ek3] at h11
    try dsimp only at h11
    refine lv_iconst (pc := 22) (v := 0) X.1 X.2.1 dX4_isComplete_22 (by decide) ?_
    exact hk1 0 _ _ ls14 h11 G12 (lv_sub hl13 [] rfl)
  refine lv_icmp_ne (pc := 8) (tgt := 22) X.1 X.2.1 dX4_isComplete_8 (by decide) (fun hc5 => ?_) (fun hc5 => ?_)
  · have h6 := it_pos h4 hc5
    exact hk3  _ _ ls h6 G (lv_sub hl [] rfl)
  · have h7 := it_neg h4 (fun q => q hc5)
    refine lv_aload_n (pc := 11) X.1 X.2.1 dX4_isComplete_11 rfl (lv_at hl 0 rfl) ?_
    refine B_geti (pc := 12) (i := 52) (k := 1) X G rfl clX4 (okL52 _) (by decide) rfl rfl fl_X4_15 dX4_isComplete_12 ?_
    refine lv_if_ne (pc := 15) (tgt := 22) X.1 X.2.1 dX4_isComplete_15 (by decide) (fun hc8 => ?_) (fun hc8 => ?_)
    · have h9 := it_pos h7 hc8
      exact hk3  _ _ ls h9 G (lv_sub hl [] rfl)
    · have h10 := it_neg h7 (fun q => q hc8)
      refine lv_iconst (pc := 18) (v := 1) X.1 X.2.1 dX4_isComplete_18 (by decide) ?_
      refine lv_goto (pc := 19) (tgt := 23) X.1 X.2.1 dX4_isComplete_19 (by decide) ?_
      exact hk1 1 _ _ ls h10 G (lv_sub hl [] rfl)

abbrev rm5_definitionOf : Room := { frames := 1, cells := 0, slots := 0, locals := 20 }
noncomputable def F5_definitionOf (b : BS) (i0 : Nat) (p0 : Int32) : Option (Option Nat) :=
  bn (F7_isLetter p0) fun x1 =>
  jp (fun (o13 : Option Nat) => some o13) fun k4 =>
  if x1 = 0 then
  k4 (none : Option Nat)
  else
  ck (okB b.2.2 i0 5) <|
  ro (b.2.1 (i0 + 1)) 26 p0 fun o11 =>
  k4 o11
set_option maxHeartbeats 4000000 in
set_option maxRecDepth 100000 in
theorem c5_definitionOf (l : Launch) (D : va_G) (κ : Nat → ClassId) (A : Nat → Prop) (ad : Nat → Nat) (r0 : Nat → Option va_E) (b : BS) (i0 : Nat) (p0 : Int32) (res : Option Nat) (h : F5_definitionOf b i0 p0 = some res) : Met l yX5_definitionOf (gw yX5_definitionOf cX5_definitionOf 2 (some ((FieldType.object "AbbreviationBook$Text")))) rm5_definitionOf (va_Pc [.ref (ad i0), .int p0] (MW D κ A ad (celB κ ad r0 b))) (QR D κ A ad (celB κ ad r0 b) res) 0 0 A := by
  refine met_of (own := RX5) (by decide +kernel) rfl (Nat.le_of_ble_eq_true rfl) ?_
  intro p e s m below meth c ls X hr hlk G hl
  have hl : lv_has ls 2 [(0, .ref (ad i0)), (1, .int p0)] := hl
  unfold F5_definitionOf at h
  refine lv_iload_n (pc := 0) X.1 X.2.1 dX5_definitionOf_0 rfl (lv_at hl 1 rfl) ?_
  obtain ⟨x1, ex1, h2⟩ := bn_some h
  refine B_callsi (pc := 1) (v := x1) (host := RX7) (As := [.int p0]) (rest := []) X G (rm := rm7_isLetter) rfl rfl (c7_isLetter l D κ A ad (celB κ ad r0 b) p0 x1 ex1) (by decide +kernel) cd_yX7_isLetter sm_yX7_isLetter ini_X7 hs_yX7_isLetter ⟨Nat.le_of_ble_eq_true rfl, Nat.le_of_ble_eq_true rfl⟩ rfl hl rfl (lv_room (Nat.le_of_ble_eq_true rfl)) dX5_definitionOf_1 ⟨Nat.le_of_ble_eq_true rfl, Nat.le_of_ble_eq_true rfl⟩ (fun H locs G3 => ?_)
  obtain ⟨k4, ek4, h5⟩ := jp_some h2
  have hk4 : ∀ (o13 : Option Nat) (H : Heap) (locs : List Loc) (ls : Array Slot), k4 o13 = some res → Mm D κ A ad (celB κ ad r0 b) s H locs → lv_has ls 2 [] → W p l e rm5_definitionOf s m [.ref (ad i0), .int p0].toArray below meth c H locs 0 0 (MQ below (QR D κ A ad (celB κ ad r0 b) res) [.ref (ad i0), .int p0].toArray s 0 0 A) (F0 m 17 ls [va_rf (o13.map ad)]) := by
    intro o13 H locs ls17 h14 G15 hl16
    rw [ek4] at h14
    try dsimp only at h14
    have h14_i := Option.some.inj h14
    exact m_aret (pc := 17) (x := o13) X G15 hr (Or.inl ⟨_, rfl⟩) hlk dX5_definitionOf_17 h14_i rfl
  refine lv_if_eq (pc := 4) (tgt := 16) X.1 X.2.1 dX5_definitionOf_4 (by decide) (fun hc6 => ?_) (fun hc6 => ?_)
  · have h7 := it_pos h5 hc6
    refine lv_null (pc := 16) X.1 X.2.1 dX5_definitionOf_16 ?_
    exact hk4 (none : Option Nat) _ _ ls h7 G3 (lv_sub hl [] rfl)
  · have h8 := it_neg h5 hc6
    refine lv_aload_n (pc := 7) X.1 X.2.1 dX5_definitionOf_7 rfl (lv_at hl 0 rfl) ?_
    obtain ⟨ok9, h10⟩ := ck_some h8
    refine B_getc (pc := 8) (i := i0) (k := 0) (j := i0 + 1) X G3 rfl clX5 ok9 (by decide) rfl fl_X5_11 dX5_definitionOf_8 ?_
    refine lv_iload_n (pc := 11) X.1 X.2.1 dX5_definitionOf_11 rfl (lv_at hl 1 rfl) ?_
    obtain ⟨hio11, o11, eo11, h12⟩ := ro_some h10
    refine B_aldt (pc := 12) (i := i0 + 1) (n := 26) (o := o11) X G3 rfl (ok5_arr ok9) (ln5_arr ok9) hio11 eo11 dX5_definitionOf_12 ?_
    refine lv_goto (pc := 13) (tgt := 17) X.1 X.2.1 dX5_definitionOf_13 (by decide) ?_
    exact hk4 o11 _ _ ls h12 G3 (lv_sub hl [] rfl)
