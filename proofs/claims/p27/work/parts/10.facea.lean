/-! THE CLASS'S FACE, laid by wip/whole/walkx.py -/
theorem g_X5_44 : GoodIn G0 (va_wsS RX5 44 yJ6_bitCount_0f7a4 (gw yJ6_bitCount_0f7a4 cJ6_bitCount_0f7a4 1 (some (FieldType.int)))) := gsS_in ml_X5_44 sm_yJ6_bitCount_0f7a4 ini_J6 cd_yJ6_bitCount_0f7a4
theorem hs_yJ6_bitCount_0f7a4 : yJ6_bitCount_0f7a4.cls ≠ "java/lang/invoke/MethodHandle" ∧ yJ6_bitCount_0f7a4.cls ≠ "java/lang/invoke/VarHandle" ∧ (parseMethodDescriptor yJ6_bitCount_0f7a4.desc).map (fun d => d.parameters.length) = some 1 := by decide +kernel
theorem g_X7_169 : GoodIn G0 (va_wsS RX7 169 yX7_requireWhat (gw yX7_requireWhat cX7_requireWhat 2 none)) := gsS_in ml_X7_169 sm_yX7_requireWhat ini_X7 cd_yX7_requireWhat
theorem hs_yX7_requireWhat : yX7_requireWhat.cls ≠ "java/lang/invoke/MethodHandle" ∧ yX7_requireWhat.cls ≠ "java/lang/invoke/VarHandle" ∧ (parseMethodDescriptor yX7_requireWhat.desc).map (fun d => d.parameters.length) = some 2 := by decide +kernel
theorem g_X7_248 : GoodIn G0 (va_wsS RX7 248 yX7_isLetter (gw yX7_isLetter cX7_isLetter 1 (some (FieldType.boolean)))) := gsS_in ml_X7_248 sm_yX7_isLetter ini_X7 cd_yX7_isLetter
theorem g_X7_52 : GoodIn G0 (va_wsS RX7 52 yX7_requireLetter (gw yX7_requireLetter cX7_requireLetter 1 none)) := gsS_in ml_X7_52 sm_yX7_requireLetter ini_X7 cd_yX7_requireLetter
theorem hs_yX7_requireLetter : yX7_requireLetter.cls ≠ "java/lang/invoke/MethodHandle" ∧ yX7_requireLetter.cls ≠ "java/lang/invoke/VarHandle" ∧ (parseMethodDescriptor yX7_requireLetter.desc).map (fun d => d.parameters.length) = some 1 := by decide +kernel
theorem g_X5_40 : GoodIn G0 (wsV RX5 40 RX5 yX5_definedSet (gw yX5_definedSet cX5_definedSet 3 (some (FieldType.int)))) := gv_in ml_X5_40 im_yX5_definedSet se_yX5_definedSet ini_X5 cd_yX5_definedSet
theorem g_X7_130 : GoodIn G0 (wsV RX7 130 RX4 yX4_readText (gw yX4_readText cX4_readText 5 none)) := gv_in ml_X7_130 im_yX4_readText se_yX4_readText ini_X4 cd_yX4_readText
theorem hd_yX4_readText : yX4_readText.cls = RX4 ∧ yX4_readText.cls ≠ "java/lang/invoke/MethodHandle" ∧ yX4_readText.cls ≠ "java/lang/invoke/VarHandle" ∧ (parseMethodDescriptor yX4_readText.desc).map (fun d => d.parameters.length) = some 2 := by decide +kernel
theorem g_X7_144 : GoodIn G0 (wsV RX7 144 RX2 yX2_restoreSaved (gw yX2_restoreSaved cX2_restoreSaved 3 (some (FieldType.boolean)))) := gv_in ml_X7_144 im_yX2_restoreSaved se_yX2_restoreSaved ini_X2 cd_yX2_restoreSaved
theorem hd_yX2_restoreSaved : yX2_restoreSaved.cls = RX2 ∧ yX2_restoreSaved.cls ≠ "java/lang/invoke/MethodHandle" ∧ yX2_restoreSaved.cls ≠ "java/lang/invoke/VarHandle" ∧ (parseMethodDescriptor yX2_restoreSaved.desc).map (fun d => d.parameters.length) = some 1 := by decide +kernel
theorem g_X7_185 : GoodIn G0 (wsV RX7 185 RX0 yX0_takeFrom (gw yX0_takeFrom cX0_takeFrom 4 none)) := gv_in ml_X7_185 im_yX0_takeFrom se_yX0_takeFrom ini_X0 cd_yX0_takeFrom
theorem hd_yX0_takeFrom : yX0_takeFrom.cls = RX0 ∧ yX0_takeFrom.cls ≠ "java/lang/invoke/MethodHandle" ∧ yX0_takeFrom.cls ≠ "java/lang/invoke/VarHandle" ∧ (parseMethodDescriptor yX0_takeFrom.desc).map (fun d => d.parameters.length) = some 1 := by decide +kernel
theorem g_X7_188 : GoodIn G0 (wsV RX7 188 RX0 yX0_calledBy (gw yX0_calledBy cX0_calledBy 2 (some (FieldType.int)))) := gv_in ml_X7_188 im_yX0_calledBy se_yX0_calledBy ini_X0 cd_yX0_calledBy
theorem hd_yX0_calledBy : yX0_calledBy.cls = RX0 ∧ yX0_calledBy.cls ≠ "java/lang/invoke/MethodHandle" ∧ yX0_calledBy.cls ≠ "java/lang/invoke/VarHandle" ∧ (parseMethodDescriptor yX0_calledBy.desc).map (fun d => d.parameters.length) = some 1 := by decide +kernel
theorem g_X7_192 : GoodIn G0 (wsV RX7 192 RX0 yX0_reachedFrom (gw yX0_reachedFrom cX0_reachedFrom 2 (some (FieldType.int)))) := gv_in ml_X7_192 im_yX0_reachedFrom se_yX0_reachedFrom ini_X0 cd_yX0_reachedFrom
theorem hd_yX0_reachedFrom : yX0_reachedFrom.cls = RX0 ∧ yX0_reachedFrom.cls ≠ "java/lang/invoke/MethodHandle" ∧ yX0_reachedFrom.cls ≠ "java/lang/invoke/VarHandle" ∧ (parseMethodDescriptor yX0_reachedFrom.desc).map (fun d => d.parameters.length) = some 1 := by decide +kernel
theorem g_X7_195 : GoodIn G0 (wsV RX7 195 RX0 yX0_callersOf (gw yX0_callersOf cX0_callersOf 4 (some (FieldType.int)))) := gv_in ml_X7_195 im_yX0_callersOf se_yX0_callersOf ini_X0 cd_yX0_callersOf
theorem hd_yX0_callersOf : yX0_callersOf.cls = RX0 ∧ yX0_callersOf.cls ≠ "java/lang/invoke/MethodHandle" ∧ yX0_callersOf.cls ≠ "java/lang/invoke/VarHandle" ∧ (parseMethodDescriptor yX0_callersOf.desc).map (fun d => d.parameters.length) = some 1 := by decide +kernel
theorem g_X7_198 : GoodIn G0 (wsV RX7 198 RX0 yX0_reaching (gw yX0_reaching cX0_reaching 4 (some (FieldType.int)))) := gv_in ml_X7_198 im_yX0_reaching se_yX0_reaching ini_X0 cd_yX0_reaching
theorem hd_yX0_reaching : yX0_reaching.cls = RX0 ∧ yX0_reaching.cls ≠ "java/lang/invoke/MethodHandle" ∧ yX0_reaching.cls ≠ "java/lang/invoke/VarHandle" ∧ (parseMethodDescriptor yX0_reaching.desc).map (fun d => d.parameters.length) = some 1 := by decide +kernel
theorem g_X7_201 : GoodIn G0 (wsV RX7 201 RX0 yX0_inRings (gw yX0_inRings cX0_inRings 3 (some (FieldType.int)))) := gv_in ml_X7_201 im_yX0_inRings se_yX0_inRings ini_X0 cd_yX0_inRings
theorem hd_yX0_inRings : yX0_inRings.cls = RX0 ∧ yX0_inRings.cls ≠ "java/lang/invoke/MethodHandle" ∧ yX0_inRings.cls ≠ "java/lang/invoke/VarHandle" ∧ (parseMethodDescriptor yX0_inRings.desc).map (fun d => d.parameters.length) = some 0 := by decide +kernel
theorem g_X7_204 : GoodIn G0 (wsV RX7 204 RX0 yX0_calledButNotDefined (gw yX0_calledButNotDefined cX0_calledButNotDefined 1 (some (FieldType.int)))) := gv_in ml_X7_204 im_yX0_calledButNotDefined se_yX0_calledButNotDefined ini_X0 cd_yX0_calledButNotDefined
theorem hd_yX0_calledButNotDefined : yX0_calledButNotDefined.cls = RX0 ∧ yX0_calledButNotDefined.cls ≠ "java/lang/invoke/MethodHandle" ∧ yX0_calledButNotDefined.cls ≠ "java/lang/invoke/VarHandle" ∧ (parseMethodDescriptor yX0_calledButNotDefined.desc).map (fun d => d.parameters.length) = some 0 := by decide +kernel
theorem g_X7_207 : GoodIn G0 (wsV RX7 207 RX0 yX0_longestChain (gw yX0_longestChain cX0_longestChain 4 (some (FieldType.int)))) := gv_in ml_X7_207 im_yX0_longestChain se_yX0_longestChain ini_X0 cd_yX0_longestChain
theorem hd_yX0_longestChain : yX0_longestChain.cls = RX0 ∧ yX0_longestChain.cls ≠ "java/lang/invoke/MethodHandle" ∧ yX0_longestChain.cls ≠ "java/lang/invoke/VarHandle" ∧ (parseMethodDescriptor yX0_longestChain.desc).map (fun d => d.parameters.length) = some 1 := by decide +kernel
theorem g_X7_213 : GoodIn G0 (wsV RX7 213 RX0 yX0_tryBody (gw yX0_tryBody cX0_tryBody 3 none)) := gv_in ml_X7_213 im_yX0_tryBody se_yX0_tryBody ini_X0 cd_yX0_tryBody
theorem hd_yX0_tryBody : yX0_tryBody.cls = RX0 ∧ yX0_tryBody.cls ≠ "java/lang/invoke/MethodHandle" ∧ yX0_tryBody.cls ≠ "java/lang/invoke/VarHandle" ∧ (parseMethodDescriptor yX0_tryBody.desc).map (fun d => d.parameters.length) = some 2 := by decide +kernel
theorem g_X7_218 : GoodIn G0 (wsV RX7 218 RX3 yX3_occurrencesOf (gw yX3_occurrencesOf cX3_occurrencesOf 4 (some (FieldType.int)))) := gv_in ml_X7_218 im_yX3_occurrencesOf se_yX3_occurrencesOf ini_X3 cd_yX3_occurrencesOf
theorem hd_yX3_occurrencesOf : yX3_occurrencesOf.cls = RX3 ∧ yX3_occurrencesOf.cls ≠ "java/lang/invoke/MethodHandle" ∧ yX3_occurrencesOf.cls ≠ "java/lang/invoke/VarHandle" ∧ (parseMethodDescriptor yX3_occurrencesOf.desc).map (fun d => d.parameters.length) = some 1 := by decide +kernel
theorem g_X7_227 : GoodIn G0 (wsV RX7 227 RX3 yX3_listedCalls (gw yX3_listedCalls cX3_listedCalls 1 (some (FieldType.int)))) := gv_in ml_X7_227 im_yX3_listedCalls se_yX3_listedCalls ini_X3 cd_yX3_listedCalls
theorem g_X7_230 : GoodIn G0 (wsV RX7 230 RX3 yX3_numberOfCall (gw yX3_numberOfCall cX3_numberOfCall 3 (some (FieldType.int)))) := gv_in ml_X7_230 im_yX3_numberOfCall se_yX3_numberOfCall ini_X3 cd_yX3_numberOfCall
theorem hd_yX3_numberOfCall : yX3_numberOfCall.cls = RX3 ∧ yX3_numberOfCall.cls ≠ "java/lang/invoke/MethodHandle" ∧ yX3_numberOfCall.cls ≠ "java/lang/invoke/VarHandle" ∧ (parseMethodDescriptor yX3_numberOfCall.desc).map (fun d => d.parameters.length) = some 2 := by decide +kernel
theorem g_X7_235 : GoodIn G0 (wsV RX7 235 RX1 yX1_measureCall (gw yX1_measureCall cX1_measureCall 6 (some (FieldType.int)))) := gv_in ml_X7_235 im_yX1_measureCall se_yX1_measureCall ini_X1 cd_yX1_measureCall
theorem hd_yX1_measureCall : yX1_measureCall.cls = RX1 ∧ yX1_measureCall.cls ≠ "java/lang/invoke/MethodHandle" ∧ yX1_measureCall.cls ≠ "java/lang/invoke/VarHandle" ∧ (parseMethodDescriptor yX1_measureCall.desc).map (fun d => d.parameters.length) = some 4 := by decide +kernel
theorem g_X7_239 : GoodIn G0 (wsV RX7 239 RX5 yX5_definedSet (gw yX5_definedSet cX5_definedSet 3 (some (FieldType.int)))) := gv_in ml_X7_239 im_yX5_definedSet se_yX5_definedSet ini_X5 cd_yX5_definedSet
theorem g_X7_242 : GoodIn G0 (wsV RX7 242 RX5 yX5_callsOfBodies (gw yX5_callsOfBodies cX5_callsOfBodies 4 (some (FieldType.int)))) := gv_in ml_X7_242 im_yX5_callsOfBodies se_yX5_callsOfBodies ini_X5 cd_yX5_callsOfBodies
theorem hd_yX5_callsOfBodies : yX5_callsOfBodies.cls = RX5 ∧ yX5_callsOfBodies.cls ≠ "java/lang/invoke/MethodHandle" ∧ yX5_callsOfBodies.cls ≠ "java/lang/invoke/VarHandle" ∧ (parseMethodDescriptor yX5_callsOfBodies.desc).map (fun d => d.parameters.length) = some 0 := by decide +kernel
theorem g_X7_272 : GoodIn G0 (wsV RX7 272 RX4 yX4_isComplete (gw yX4_isComplete cX4_isComplete 1 (some (FieldType.boolean)))) := gv_in ml_X7_272 im_yX4_isComplete se_yX4_isComplete ini_X4 cd_yX4_isComplete
theorem hd_yX4_isComplete : yX4_isComplete.cls = RX4 ∧ yX4_isComplete.cls ≠ "java/lang/invoke/MethodHandle" ∧ yX4_isComplete.cls ≠ "java/lang/invoke/VarHandle" ∧ (parseMethodDescriptor yX4_isComplete.desc).map (fun d => d.parameters.length) = some 0 := by decide +kernel
theorem g_X7_56 : GoodIn G0 (wsV RX7 56 RX7 yX7_requireCompleteText (gw yX7_requireCompleteText cX7_requireCompleteText 1 none)) := gv_in ml_X7_56 im_yX7_requireCompleteText se_yX7_requireCompleteText ini_X7 cd_yX7_requireCompleteText
theorem hd_yX7_requireCompleteText : yX7_requireCompleteText.cls = RX7 ∧ yX7_requireCompleteText.cls ≠ "java/lang/invoke/MethodHandle" ∧ yX7_requireCompleteText.cls ≠ "java/lang/invoke/VarHandle" ∧ (parseMethodDescriptor yX7_requireCompleteText.desc).map (fun d => d.parameters.length) = some 0 := by decide +kernel
theorem g_X7_79 : GoodIn G0 (wsV RX7 79 RX7 yX7_requireDefinition (gw yX7_requireDefinition cX7_requireDefinition 3 (some ((FieldType.object "AbbreviationBook$Text"))))) := gv_in ml_X7_79 im_yX7_requireDefinition se_yX7_requireDefinition ini_X7 cd_yX7_requireDefinition
theorem hd_yX7_requireDefinition : yX7_requireDefinition.cls = RX7 ∧ yX7_requireDefinition.cls ≠ "java/lang/invoke/MethodHandle" ∧ yX7_requireDefinition.cls ≠ "java/lang/invoke/VarHandle" ∧ (parseMethodDescriptor yX7_requireDefinition.desc).map (fun d => d.parameters.length) = some 1 := by decide +kernel
theorem g_X7_83 : GoodIn G0 (wsV RX7 83 RX5 yX5_definedCount (gw yX5_definedCount cX5_definedCount 1 (some (FieldType.int)))) := gv_in ml_X7_83 im_yX5_definedCount se_yX5_definedCount ini_X5 cd_yX5_definedCount
theorem hd_yX5_definedCount : yX5_definedCount.cls = RX5 ∧ yX5_definedCount.cls ≠ "java/lang/invoke/MethodHandle" ∧ yX5_definedCount.cls ≠ "java/lang/invoke/VarHandle" ∧ (parseMethodDescriptor yX5_definedCount.desc).map (fun d => d.parameters.length) = some 0 := by decide +kernel
theorem g_X7_87 : GoodIn G0 (wsV RX7 87 RX5 yX5_definitionOf (gw yX5_definitionOf cX5_definitionOf 2 (some ((FieldType.object "AbbreviationBook$Text"))))) := gv_in ml_X7_87 im_yX5_definitionOf se_yX5_definitionOf ini_X5 cd_yX5_definitionOf
abbrev rmJ6_bitCount : Room := { frames := 0, cells := 0, slots := 0, locals := 0 }
noncomputable def FJ6_bitCount (p0 : Int32) : Option (Int32) :=
  bd (p0 - (((p0.toUInt32 >>> ((1 : Int32).toUInt32 &&& Int32.toUInt32 31)).toInt32) &&& 1431655765)) fun x1 =>
  bd ((x1 &&& 858993459) + (((x1.toUInt32 >>> ((2 : Int32).toUInt32 &&& Int32.toUInt32 31)).toInt32) &&& 858993459)) fun x5 =>
  bd ((x5 + ((x5.toUInt32 >>> ((4 : Int32).toUInt32 &&& Int32.toUInt32 31)).toInt32)) &&& 252645135) fun x9 =>
  bd (x9 + ((x9.toUInt32 >>> ((8 : Int32).toUInt32 &&& Int32.toUInt32 31)).toInt32)) fun x13 =>
  bd (x13 + ((x13.toUInt32 >>> ((16 : Int32).toUInt32 &&& Int32.toUInt32 31)).toInt32)) fun x17 =>
  some (x17 &&& 63)
set_option maxHeartbeats 4000000 in
set_option maxRecDepth 100000 in
theorem cJ6_bitCount (l : Launch) (D : va_G) (κ : Nat → ClassId) (A : Nat → Prop) (ad : Nat → Nat) (M : Nat → Option va_E) (p0 : Int32) (res : Int32) (h : FJ6_bitCount p0 = some res) : Met l yJ6_bitCount_0f7a4 (gw yJ6_bitCount_0f7a4 cJ6_bitCount_0f7a4 1 (some (FieldType.int))) rmJ6_bitCount (va_Pc [.int p0] (MW D κ A ad M)) (QI D κ A ad M res) 0 0 A := by
  refine met_of (own := RJ6) (by decide +kernel) rfl (Nat.le_of_ble_eq_true rfl) ?_
  intro p e s m below meth c ls X hr hlk G hl
  have hl : lv_has ls 1 [(0, .int p0)] := hl
  unfold FJ6_bitCount at h
  refine lv_iload_n (pc := 0) X.1 X.2.1 dJ6_bitCount_0f7a4_0 rfl (lv_at hl 0 rfl) ?_
  refine lv_iload_n (pc := 1) X.1 X.2.1 dJ6_bitCount_0f7a4_1 rfl (lv_at hl 0 rfl) ?_
  refine lv_iconst (pc := 2) (v := 1) X.1 X.2.1 dJ6_bitCount_0f7a4_2 (by decide) ?_
  refine lv_iushr (pc := 3) X.1 X.2.1 dJ6_bitCount_0f7a4_3 rfl ?_
  refine lv_ldcw (pc := 4) (v := 1431655765) X.1 X.2.1 X.2.2.2.1 (X.2.2.2.2 _ wc_J6_265) dJ6_bitCount_0f7a4_4 ?_
  refine lv_iand (pc := 7) X.1 X.2.1 dJ6_bitCount_0f7a4_7 ?_
  refine lv_isub (pc := 8) X.1 X.2.1 dJ6_bitCount_0f7a4_8 ?_
  refine lv_topi (fun x1 ex1 => ?_)
  have h2 := bd_at h ex1
  refine lv_istore_n (pc := 9) (lv' := [(0, .int x1)]) X.1 X.2.1 dJ6_bitCount_0f7a4_9 rfl hl (by decide) rfl (fun ls3 hl4 => ?_)
  refine lv_iload_n (pc := 10) X.1 X.2.1 dJ6_bitCount_0f7a4_10 rfl (lv_at hl4 0 rfl) ?_
  refine lv_ldcw (pc := 11) (v := 858993459) X.1 X.2.1 X.2.2.2.1 (X.2.2.2.2 _ wc_J6_266) dJ6_bitCount_0f7a4_11 ?_
  refine lv_iand (pc := 14) X.1 X.2.1 dJ6_bitCount_0f7a4_14 ?_
  refine lv_iload_n (pc := 15) X.1 X.2.1 dJ6_bitCount_0f7a4_15 rfl (lv_at hl4 0 rfl) ?_
  refine lv_iconst (pc := 16) (v := 2) X.1 X.2.1 dJ6_bitCount_0f7a4_16 (by decide) ?_
  refine lv_iushr (pc := 17) X.1 X.2.1 dJ6_bitCount_0f7a4_17 rfl ?_
  refine lv_ldcw (pc := 18) (v := 858993459) X.1 X.2.1 X.2.2.2.1 (X.2.2.2.2 _ wc_J6_266) dJ6_bitCount_0f7a4_18 ?_
  refine lv_iand (pc := 21) X.1 X.2.1 dJ6_bitCount_0f7a4_21 ?_
  refine lv_iadd (pc := 22) X.1 X.2.1 dJ6_bitCount_0f7a4_22 ?_
  refine lv_topi (fun x5 ex5 => ?_)
  have h6 := bd_at h2 ex5
  refine lv_istore_n (pc := 23) (lv' := [(0, .int x5)]) X.1 X.2.1 dJ6_bitCount_0f7a4_23 rfl hl4 (by decide) rfl (fun ls7 hl8 => ?_)
  refine lv_iload_n (pc := 24) X.1 X.2.1 dJ6_bitCount_0f7a4_24 rfl (lv_at hl8 0 rfl) ?_
  refine lv_iload_n (pc := 25) X.1 X.2.1 dJ6_bitCount_0f7a4_25 rfl (lv_at hl8 0 rfl) ?_
  refine lv_iconst (pc := 26) (v := 4) X.1 X.2.1 dJ6_bitCount_0f7a4_26 (by decide) ?_
  refine lv_iushr (pc := 27) X.1 X.2.1 dJ6_bitCount_0f7a4_27 rfl ?_
  refine lv_iadd (pc := 28) X.1 X.2.1 dJ6_bitCount_0f7a4_28 ?_
  refine lv_ldcw (pc := 29) (v := 252645135) X.1 X.2.1 X.2.2.2.1 (X.2.2.2.2 _ wc_J6_267) dJ6_bitCount_0f7a4_29 ?_
  refine lv_iand (pc := 32) X.1 X.2.1 dJ6_bitCount_0f7a4_32 ?_
  refine lv_topi (fun x9 ex9 => ?_)
  have h10 := bd_at h6 ex9
  refine lv_istore_n (pc := 33) (lv' := [(0, .int x9)]) X.1 X.2.1 dJ6_bitCount_0f7a4_33 rfl hl8 (by decide) rfl (fun ls11 hl12 => ?_)
  refine lv_iload_n (pc := 34) X.1 X.2.1 dJ6_bitCount_0f7a4_34 rfl (lv_at hl12 0 rfl) ?_
  refine lv_iload_n (pc := 35) X.1 X.2.1 dJ6_bitCount_0f7a4_35 rfl (lv_at hl12 0 rfl) ?_
  refine lv_bipush (pc := 36) (v := 8) X.1 X.2.1 dJ6_bitCount_0f7a4_36 (by decide) ?_
  refine lv_iushr (pc := 38) X.1 X.2.1 dJ6_bitCount_0f7a4_38 rfl ?_
  refine lv_iadd (pc := 39) X.1 X.2.1 dJ6_bitCount_0f7a4_39 ?_
  refine lv_topi (fun x13 ex13 => ?_)
  have h14 := bd_at h10 ex13
  refine lv_istore_n (pc := 40) (lv' := [(0, .int x13)]) X.1 X.2.1 dJ6_bitCount_0f7a4_40 rfl hl12 (by decide) rfl (fun ls15 hl16 => ?_)
  refine lv_iload_n (pc := 41) X.1 X.2.1 dJ6_bitCount_0f7a4_41 rfl (lv_at hl16 0 rfl) ?_
  refine lv_iload_n (pc := 42) X.1 X.2.1 dJ6_bitCount_0f7a4_42 rfl (lv_at hl16 0 rfl) ?_
  refine lv_bipush (pc := 43) (v := 16) X.1 X.2.1 dJ6_bitCount_0f7a4_43 (by decide) ?_
  refine lv_iushr (pc := 45) X.1 X.2.1 dJ6_bitCount_0f7a4_45 rfl ?_
  refine lv_iadd (pc := 46) X.1 X.2.1 dJ6_bitCount_0f7a4_46 ?_
  refine lv_topi (fun x17 ex17 => ?_)
  have h18 := bd_at h14 ex17
  refine lv_istore_n (pc := 47) (lv' := [(0, .int x17)]) X.1 X.2.1 dJ6_bitCount_0f7a4_47 rfl hl16 (by decide) rfl (fun ls19 hl20 => ?_)
  refine lv_iload_n (pc := 48) X.1 X.2.1 dJ6_bitCount_0f7a4_48 rfl (lv_at hl20 0 rfl) ?_
  refine lv_bipush (pc := 49) (v := 63) X.1 X.2.1 dJ6_bitCount_0f7a4_49 (by decide) ?_
  refine lv_iand (pc := 51) X.1 X.2.1 dJ6_bitCount_0f7a4_51 ?_
  have h18_i := Option.some.inj h18
  exact m_iret (pc := 52) X G hr hlk dJ6_bitCount_0f7a4_52 h18_i rfl

abbrev rm5_definedCount : Room := { frames := 1, cells := 0, slots := 0, locals := 22 }
noncomputable def F5_definedCount (b : BS) (i0 : Nat) : Option (Int32) :=
  ck (okB b.2.2 i0 5) <|
  bn (F5_definedSet b i0) fun x5 =>
  bn (FJ6_bitCount x5) fun x6 =>
  some x6
set_option maxHeartbeats 4000000 in
set_option maxRecDepth 100000 in
theorem c5_definedCount (l : Launch) (D : va_G) (κ : Nat → ClassId) (A : Nat → Prop) (ad : Nat → Nat) (r0 : Nat → Option va_E) (b : BS) (i0 : Nat) (res : Int32) (h : F5_definedCount b i0 = some res) : Met l yX5_definedCount (gw yX5_definedCount cX5_definedCount 1 (some (FieldType.int))) rm5_definedCount (va_Pc [.ref (ad i0)] (MW D κ A ad (celB κ ad r0 b))) (QI D κ A ad (celB κ ad r0 b) res) 0 0 A := by
  refine met_of (own := RX5) (by decide +kernel) rfl (Nat.le_of_ble_eq_true rfl) ?_
  intro p e s m below meth c ls X hr hlk G hl
  have hl : lv_has ls 1 [(0, .ref (ad i0))] := hl
  unfold F5_definedCount at h
  refine lv_aload_n (pc := 0) X.1 X.2.1 dX5_definedCount_0 rfl (lv_at hl 0 rfl) ?_
  obtain ⟨ok1, h2⟩ := ck_some h
  obtain ⟨x5, ex5, h3⟩ := bn_some h2
  refine B_calli (pc := 1) (v := x5) (M' := (celB κ ad r0 b)) (i := i0) (As := []) (rest := []) X G (rm := rm5_definedSet) rfl rfl rfl (c5_definedSet l D κ A ad r0 b i0 x5 ex5) (B_rcv (ci := 5) ok1 (by decide)) rfl g_X5_40 hd_yX5_definedSet ⟨Nat.le_of_ble_eq_true rfl, Nat.le_of_ble_eq_true rfl⟩ rfl hl rfl (lv_room (Nat.le_of_ble_eq_true rfl)) dX5_definedCount_1 ⟨Nat.le_of_ble_eq_true rfl, Nat.le_of_ble_eq_true rfl⟩ (fun H locs G4 => ?_)
  obtain ⟨x6, ex6, h7⟩ := bn_some h3
  refine m_callsi0 (pc := 4) (v := x6) (As := [.int x5]) (rest := []) X G4 (rm := rmJ6_bitCount) rfl rfl (cJ6_bitCount l D κ A ad (celB κ ad r0 b) x5 x6 ex6) g_X5_44 hs_yJ6_bitCount_0f7a4 ⟨Nat.le_of_ble_eq_true rfl, Nat.le_of_ble_eq_true rfl⟩ rfl hl rfl (lv_room (Nat.le_of_ble_eq_true rfl)) dX5_definedCount_4 ⟨Nat.le_of_ble_eq_true rfl, Nat.le_of_ble_eq_true rfl⟩ (fun H locs G8 => ?_)
  have h7_i := Option.some.inj h7
  exact m_iret (pc := 7) X G8 hr hlk dX5_definedCount_7 h7_i rfl

abbrev rm7_clearBuffer : Room := { frames := 0, cells := 0, slots := 0, locals := 0 }
noncomputable def F7_clearBuffer (b : BS)  : Option (BS × Int32) :=
  bd (b.1 50 6) fun x1 =>
  bd (setI b 50 6 0) fun b5 =>
  some (b5, x1)
set_option maxHeartbeats 4000000 in
set_option maxRecDepth 100000 in
theorem c7_clearBuffer (l : Launch) (D : va_G) (κ : Nat → ClassId) (A : Nat → Prop) (ad : Nat → Nat) (r0 : Nat → Option va_E) (b : BS)  (res : BS × Int32) (h : F7_clearBuffer b  = some res) : Met l yX7_clearBuffer (gw yX7_clearBuffer cX7_clearBuffer 2 (some (FieldType.int))) rm7_clearBuffer (va_Pc [.ref (ad 50)] (MW D κ A ad (celB κ ad r0 b))) (QI D κ A ad (celB κ ad r0 res.1) res.2) 0 0 A := by
  refine met_of (own := RX7) (by decide +kernel) rfl (Nat.le_of_ble_eq_true rfl) ?_
  intro p e s m below meth c ls X hr hlk G hl
  have hl : lv_has ls 2 [(0, .ref (ad 50))] := hl
  unfold F7_clearBuffer at h
  refine lv_aload_n (pc := 0) X.1 X.2.1 dX7_clearBuffer_0 rfl (lv_at hl 0 rfl) ?_
  refine B_geti (pc := 1) (i := 50) (k := 6) X G rfl clX7 (okL50 _) (by decide) rfl rfl fl_X7_48 dX7_clearBuffer_1 ?_
  refine lv_topi (fun x1 ex1 => ?_)
  have h2 := bd_at h ex1
  refine lv_istore_n (pc := 4) (lv' := [(1, .int x1), (0, .ref (ad 50))]) X.1 X.2.1 dX7_clearBuffer_4 rfl hl (by decide) rfl (fun ls3 hl4 => ?_)
  refine lv_aload_n (pc := 5) X.1 X.2.1 dX7_clearBuffer_5 rfl (lv_at hl4 1 rfl) ?_
  refine lv_iconst (pc := 6) (v := 0) X.1 X.2.1 dX7_clearBuffer_6 (by decide) ?_
  obtain ⟨b5, eb5, h6⟩ := bd_some h2
  refine B_puti (pc := 7) (i := 50) (k := 6) (v := 0) X G eb5 rfl clX7 (okL50 _) (by decide) rfl rfl rfl rfl fl_X7_48 dX7_clearBuffer_7 (fun H locs G7 => ?_)
  have nb5 : b5.2.2 = b.2.2 := by rw [eb5]; rfl
  refine lv_iload_n (pc := 10) X.1 X.2.1 dX7_clearBuffer_10 rfl (lv_at hl4 0 rfl) ?_
  have h6_i := Option.some.inj h6
  exact m_iret (pc := 11) X G7 hr hlk dX7_clearBuffer_11 (congrArg Prod.snd h6_i) (congrArg (fun q : BS × Int32 => celB κ ad r0 q.1) h6_i)

abbrev rm7_firstError : Room := { frames := 4, cells := 0, slots := 0, locals := 81 }
noncomputable def F7_firstError (b : BS)  : Option (BS × Int32) :=
  bn (F4_readText b 51 (b.1 50 6)) fun b3 =>
  some (b3, b3.1 52 3)
set_option maxHeartbeats 4000000 in
set_option maxRecDepth 100000 in
theorem c7_firstError (l : Launch) (D : va_G) (κ : Nat → ClassId) (A : Nat → Prop) (ad : Nat → Nat) (r0 : Nat → Option va_E) (b : BS)  (res : BS × Int32) (h : F7_firstError b  = some res) : Met l yX7_firstError (gw yX7_firstError cX7_firstError 1 (some (FieldType.int))) rm7_firstError (va_Pc [.ref (ad 50)] (MW D κ A ad (celB κ ad r0 b))) (QI D κ A ad (celB κ ad r0 res.1) res.2) 0 0 A := by
  refine met_of (own := RX7) (by decide +kernel) rfl (Nat.le_of_ble_eq_true rfl) ?_
  intro p e s m below meth c ls X hr hlk G hl
  have hl : lv_has ls 1 [(0, .ref (ad 50))] := hl
  unfold F7_firstError at h
  refine lv_aload_n (pc := 0) X.1 X.2.1 dX7_firstError_0 rfl (lv_at hl 0 rfl) ?_
  refine B_getc (pc := 1) (i := 50) (k := 3) (j := 52) X G rfl clX7 (okL50 _) (by decide) rfl fl_X7_30 dX7_firstError_1 ?_
  refine lv_aload_n (pc := 4) X.1 X.2.1 dX7_firstError_4 rfl (lv_at hl 0 rfl) ?_
  refine B_getc (pc := 5) (i := 50) (k := 2) (j := 51) X G rfl clX7 (okL50 _) (by decide) rfl fl_X7_23 dX7_firstError_5 ?_
  refine lv_aload_n (pc := 8) X.1 X.2.1 dX7_firstError_8 rfl (lv_at hl 0 rfl) ?_
  refine B_geti (pc := 9) (i := 50) (k := 6) X G rfl clX7 (okL50 _) (by decide) rfl rfl fl_X7_48 dX7_firstError_9 ?_
  obtain ⟨b3, eb3, h1⟩ := bn_some h
  refine B_callv (pc := 12) (M' := (celB κ ad r0 b3)) (i := 52) (As := [.ref (ad 51), .int (b.1 50 6)]) (rest := []) X G (rm := rm4_readText) rfl rfl rfl (c4_readText l D κ A ad r0 b 51 (b.1 50 6) b3 eb3) (B_rcv (ci := 4) (okL52 _) (by decide)) rfl g_X7_130 hd_yX4_readText ⟨Nat.le_of_ble_eq_true rfl, Nat.le_of_ble_eq_true rfl⟩ rfl hl rfl (lv_room (Nat.le_of_ble_eq_true rfl)) dX7_firstError_12 ⟨Nat.le_of_ble_eq_true rfl, Nat.le_of_ble_eq_true rfl⟩ (fun H locs G2 => ?_)
  refine lv_aload_n (pc := 15) X.1 X.2.1 dX7_firstError_15 rfl (lv_at hl 0 rfl) ?_
  refine B_getc (pc := 16) (i := 50) (k := 3) (j := 52) X G2 rfl clX7 (okL50 _) (by decide) rfl fl_X7_30 dX7_firstError_16 ?_
  refine B_geti (pc := 19) (i := 52) (k := 3) X G2 rfl clX4 (okL52 _) (by decide) rfl rfl fl_X7_134 dX7_firstError_19 ?_
  have h1_i := Option.some.inj h1
  exact m_iret (pc := 22) X G2 hr hlk dX7_firstError_22 (congrArg Prod.snd h1_i) (congrArg (fun q : BS × Int32 => celB κ ad r0 q.1) h1_i)

abbrev rm7_rings : Room := { frames := 4, cells := 0, slots := 0, locals := 85 }
noncomputable def F7_rings (b : BS)  : Option (BS × Int32) :=
  bn (F0_takeFrom b 70) fun b3 =>
  bn2 (F0_inRings b3) fun b7 x6 =>
  some (b7, x6)
set_option maxHeartbeats 4000000 in
set_option maxRecDepth 100000 in
theorem c7_rings (l : Launch) (D : va_G) (κ : Nat → ClassId) (A : Nat → Prop) (ad : Nat → Nat) (r0 : Nat → Option va_E) (b : BS)  (res : BS × Int32) (h : F7_rings b  = some res) : Met l yX7_rings (gw yX7_rings cX7_rings 1 (some (FieldType.int))) rm7_rings (va_Pc [.ref (ad 50)] (MW D κ A ad (celB κ ad r0 b))) (QI D κ A ad (celB κ ad r0 res.1) res.2) 0 0 A := by
  refine met_of (own := RX7) (by decide +kernel) rfl (Nat.le_of_ble_eq_true rfl) ?_
  intro p e s m below meth c ls X hr hlk G hl
  have hl : lv_has ls 1 [(0, .ref (ad 50))] := hl
  unfold F7_rings at h
  refine lv_aload_n (pc := 0) X.1 X.2.1 dX7_rings_0 rfl (lv_at hl 0 rfl) ?_
  refine B_getc (pc := 1) (i := 50) (k := 4) (j := 54) X G rfl clX7 (okL50 _) (by decide) rfl fl_X7_37 dX7_rings_1 ?_
  refine lv_aload_n (pc := 4) X.1 X.2.1 dX7_rings_4 rfl (lv_at hl 0 rfl) ?_
  refine B_getc (pc := 5) (i := 50) (k := 0) (j := 70) X G rfl clX7 (okL50 _) (by decide) rfl fl_X7_10 dX7_rings_5 ?_
  obtain ⟨b3, eb3, h1⟩ := bn_some h
  refine B_callv (pc := 8) (M' := (celB κ ad r0 b3)) (i := 54) (As := [.ref (ad 70)]) (rest := []) X G (rm := rm0_takeFrom) rfl rfl rfl (c0_takeFrom l D κ A ad r0 b 70 b3 eb3) (B_rcv (ci := 0) (okL54 _) (by decide)) rfl g_X7_185 hd_yX0_takeFrom ⟨Nat.le_of_ble_eq_true rfl, Nat.le_of_ble_eq_true rfl⟩ rfl hl rfl (lv_room (Nat.le_of_ble_eq_true rfl)) dX7_rings_8 ⟨Nat.le_of_ble_eq_true rfl, Nat.le_of_ble_eq_true rfl⟩ (fun H locs G2 => ?_)
  refine lv_aload_n (pc := 11) X.1 X.2.1 dX7_rings_11 rfl (lv_at hl 0 rfl) ?_
  refine B_getc (pc := 12) (i := 50) (k := 4) (j := 54) X G2 rfl clX7 (okL50 _) (by decide) rfl fl_X7_37 dX7_rings_12 ?_
  obtain ⟨b7, x6, ex6, h4⟩ := bn2_some h1
  refine B_calli (pc := 15) (v := x6) (M' := (celB κ ad r0 b7)) (i := 54) (As := []) (rest := []) X G2 (rm := rm0_inRings) rfl rfl rfl (c0_inRings l D κ A ad r0 b3 (b7, x6) ex6) (B_rcv (ci := 0) (okL54 _) (by decide)) rfl g_X7_201 hd_yX0_inRings ⟨Nat.le_of_ble_eq_true rfl, Nat.le_of_ble_eq_true rfl⟩ rfl hl rfl (lv_room (Nat.le_of_ble_eq_true rfl)) dX7_rings_15 ⟨Nat.le_of_ble_eq_true rfl, Nat.le_of_ble_eq_true rfl⟩ (fun H locs G5 => ?_)
  have h4_i := Option.some.inj h4
  exact m_iret (pc := 18) X G5 hr hlk dX7_rings_18 (congrArg Prod.snd h4_i) (congrArg (fun q : BS × Int32 => celB κ ad r0 q.1) h4_i)

abbrev rm7_missing : Room := { frames := 4, cells := 0, slots := 0, locals := 84 }
noncomputable def F7_missing (b : BS)  : Option (BS × Int32) :=
  bn (F0_takeFrom b 70) fun b3 =>
  bn (F0_calledButNotDefined b3) fun x6 =>
  some (b3, x6)
set_option maxHeartbeats 4000000 in
set_option maxRecDepth 100000 in
theorem c7_missing (l : Launch) (D : va_G) (κ : Nat → ClassId) (A : Nat → Prop) (ad : Nat → Nat) (r0 : Nat → Option va_E) (b : BS)  (res : BS × Int32) (h : F7_missing b  = some res) : Met l yX7_missing (gw yX7_missing cX7_missing 1 (some (FieldType.int))) rm7_missing (va_Pc [.ref (ad 50)] (MW D κ A ad (celB κ ad r0 b))) (QI D κ A ad (celB κ ad r0 res.1) res.2) 0 0 A := by
  refine met_of (own := RX7) (by decide +kernel) rfl (Nat.le_of_ble_eq_true rfl) ?_
  intro p e s m below meth c ls X hr hlk G hl
  have hl : lv_has ls 1 [(0, .ref (ad 50))] := hl
  unfold F7_missing at h
  refine lv_aload_n (pc := 0) X.1 X.2.1 dX7_missing_0 rfl (lv_at hl 0 rfl) ?_
  refine B_getc (pc := 1) (i := 50) (k := 4) (j := 54) X G rfl clX7 (okL50 _) (by decide) rfl fl_X7_37 dX7_missing_1 ?_
  refine lv_aload_n (pc := 4) X.1 X.2.1 dX7_missing_4 rfl (lv_at hl 0 rfl) ?_
  refine B_getc (pc := 5) (i := 50) (k := 0) (j := 70) X G rfl clX7 (okL50 _) (by decide) rfl fl_X7_10 dX7_missing_5 ?_
  obtain ⟨b3, eb3, h1⟩ := bn_some h
  refine B_callv (pc := 8) (M' := (celB κ ad r0 b3)) (i := 54) (As := [.ref (ad 70)]) (rest := []) X G (rm := rm0_takeFrom) rfl rfl rfl (c0_takeFrom l D κ A ad r0 b 70 b3 eb3) (B_rcv (ci := 0) (okL54 _) (by decide)) rfl g_X7_185 hd_yX0_takeFrom ⟨Nat.le_of_ble_eq_true rfl, Nat.le_of_ble_eq_true rfl⟩ rfl hl rfl (lv_room (Nat.le_of_ble_eq_true rfl)) dX7_missing_8 ⟨Nat.le_of_ble_eq_true rfl, Nat.le_of_ble_eq_true rfl⟩ (fun H locs G2 => ?_)
  refine lv_aload_n (pc := 11) X.1 X.2.1 dX7_missing_11 rfl (lv_at hl 0 rfl) ?_
  refine B_getc (pc := 12) (i := 50) (k := 4) (j := 54) X G2 rfl clX7 (okL50 _) (by decide) rfl fl_X7_37 dX7_missing_12 ?_
  obtain ⟨x6, ex6, h4⟩ := bn_some h1
  refine B_calli (pc := 15) (v := x6) (M' := (celB κ ad r0 b3)) (i := 54) (As := []) (rest := []) X G2 (rm := rm0_calledButNotDefined) rfl rfl rfl (c0_calledButNotDefined l D κ A ad r0 b3 x6 ex6) (B_rcv (ci := 0) (okL54 _) (by decide)) rfl g_X7_204 hd_yX0_calledButNotDefined ⟨Nat.le_of_ble_eq_true rfl, Nat.le_of_ble_eq_true rfl⟩ rfl hl rfl (lv_room (Nat.le_of_ble_eq_true rfl)) dX7_missing_15 ⟨Nat.le_of_ble_eq_true rfl, Nat.le_of_ble_eq_true rfl⟩ (fun H locs G5 => ?_)
  have h4_i := Option.some.inj h4
  exact m_iret (pc := 18) X G5 hr hlk dX7_missing_18 (congrArg Prod.snd h4_i) (congrArg (fun q : BS × Int32 => celB κ ad r0 q.1) h4_i)

abbrev rm7_requireLetter : Room := { frames := 6, cells := 1, slots := 6, locals := 82 }
noncomputable def F7_requireLetter (p0 : Int32) : Option (Unit × (Nat ⊕ Unit)) :=
  bn (F7_isLetter p0) fun x1 =>
  if ¬ x1 = 0 then
  some ((), .inr ())
  else
  some ((), .inl 1)
set_option maxHeartbeats 4000000 in
set_option maxRecDepth 100000 in
theorem c7_requireLetter (l : Launch) (hfl : l.stackTraces = false) (D : va_G) (κ : Nat → ClassId) (A : Nat → Prop) (ad : Nat → Nat) (M : Nat → Option va_E) (p0 : Int32) (res : Unit × (Nat ⊕ Unit)) (h : F7_requireLetter p0 = some res) : vx_Met l yX7_requireLetter (gw yX7_requireLetter cX7_requireLetter 1 none) rm7_requireLetter (va_Pc [.int p0] (MW D κ A ad M)) (QVX D A ad M res.2) (XX D A ad M res.2) 1 6 A := by
  refine met_ofX (own := RX7) (by decide +kernel) rfl (Nat.le_of_ble_eq_true rfl) ?_
  intro p e s m below meth c ls X hr hlk hout G hl
  have hl : lv_has ls 1 [(0, .int p0)] := hl
  unfold F7_requireLetter at h
  refine lv_iload_n (pc := 0) X.1 X.2.1 dX7_requireLetter_0 rfl (lv_at hl 0 rfl) ?_
  obtain ⟨x1, ex1, h2⟩ := bn_some h
  refine m_callsi0 (pc := 1) (v := x1) (As := [.int p0]) (rest := []) X G (rm := rm7_isLetter) rfl rfl (c7_isLetter l D κ A ad M p0 x1 ex1) g_X7_248 hs_yX7_isLetter ⟨Nat.le_of_ble_eq_true rfl, Nat.le_of_ble_eq_true rfl⟩ rfl hl rfl (lv_room (Nat.le_of_ble_eq_true rfl)) dX7_requireLetter_1 ⟨Nat.le_of_ble_eq_true rfl, Nat.le_of_ble_eq_true rfl⟩ (fun H locs G3 => ?_)
  refine lv_if_ne (pc := 4) (tgt := 17) X.1 X.2.1 dX7_requireLetter_4 (by decide) (fun hc4 => ?_) (fun hc4 => ?_)
  · have h5 := it_pos h2 hc4
    have h5_i := Option.some.inj h5
    exact X_vret (pc := 17) X G3 hr hlk dX7_requireLetter_17 (congrArg Prod.snd h5_i).symm rfl (Nat.le_of_ble_eq_true rfl) (Nat.le_of_ble_eq_true rfl)
  · have h6 := it_neg h2 (fun q => q hc4)
    have h6_i := Option.some.inj h6
    exact m_throwS (pc := 7) (k := 1) (is := 254) X G3 hfl (ik := 252) (ic := 256) (by decide) (List.mem_of_getElem? (i := 0) rfl) hl dX7_requireLetter_7 dX7_requireLetter_10 dX7_requireLetter_11 dX7_requireLetter_13 dX7_requireLetter_16 hout (Nat.le_of_ble_eq_true rfl) (Nat.le_of_ble_eq_true rfl) (Nat.le_of_ble_eq_true rfl) (Nat.le_of_ble_eq_true rfl) hlk (congrArg Prod.snd h6_i).symm rfl (Nat.le_of_ble_eq_true rfl) (Nat.le_of_ble_eq_true rfl)

abbrev rm7_requireWhat : Room := { frames := 6, cells := 1, slots := 6, locals := 82 }
noncomputable def F7_requireWhat (p0 : Int32) (p1 : Int32) : Option (Unit × (Nat ⊕ Unit)) :=
  jp (fun (_ : Unit) => some ((), .inl 2)) fun k1 =>
  if p0 < 0 then
  k1 ()
  else
  if p0 ≤ p1 then
  some ((), .inr ())
  else
  k1 ()
set_option maxHeartbeats 4000000 in
set_option maxRecDepth 100000 in
theorem c7_requireWhat (l : Launch) (hfl : l.stackTraces = false) (D : va_G) (κ : Nat → ClassId) (A : Nat → Prop) (ad : Nat → Nat) (M : Nat → Option va_E) (p0 : Int32) (p1 : Int32) (res : Unit × (Nat ⊕ Unit)) (h : F7_requireWhat p0 p1 = some res) : vx_Met l yX7_requireWhat (gw yX7_requireWhat cX7_requireWhat 2 none) rm7_requireWhat (va_Pc [.int p0, .int p1] (MW D κ A ad M)) (QVX D A ad M res.2) (XX D A ad M res.2) 1 6 A := by
  refine met_ofX (own := RX7) (by decide +kernel) rfl (Nat.le_of_ble_eq_true rfl) ?_
  intro p e s m below meth c ls X hr hlk hout G hl
  have hl : lv_has ls 2 [(0, .int p0), (1, .int p1)] := hl
  unfold F7_requireWhat at h
  refine lv_iload_n (pc := 0) X.1 X.2.1 dX7_requireWhat_0 rfl (lv_at hl 0 rfl) ?_
  obtain ⟨k1, ek1, h2⟩ := jp_some h
  have hk1 : ∀  (H : Heap) (locs : List Loc) (ls : Array Slot), k1 () = some res → Mm D κ A ad M s H locs → lv_has ls 2 [] → W p l e rm7_requireWhat s m [.int p0, .int p1].toArray below meth c H locs 0 0 (vx_MQ below (QVX D A ad M res.2) (XX D A ad M res.2) [.int p0, .int p1].toArray s 1 6 A) (F0 m 9 ls []) := by
    intro  H locs ls12 h9 G10 hl11
    rw [ek1] at h9
    try dsimp only at h9
    have h9_i := Option.some.inj h9
    exact m_throwSW (pc := 9) (k := 2) (is := 257) X G10 hfl (ik := 90) (ic := 94) (by decide) (List.mem_of_getElem? (i := 9) rfl) hl11 dX7_requireWhat_9 dX7_requireWhat_12 dX7_requireWhat_13 dX7_requireWhat_16 dX7_requireWhat_19 hout (Nat.le_of_ble_eq_true rfl) (Nat.le_of_ble_eq_true rfl) (Nat.le_of_ble_eq_true rfl) (Nat.le_of_ble_eq_true rfl) hlk (congrArg Prod.snd h9_i).symm rfl (Nat.le_of_ble_eq_true rfl) (Nat.le_of_ble_eq_true rfl)
  refine lv_if_lt (pc := 1) (tgt := 9) X.1 X.2.1 dX7_requireWhat_1 (by decide) (fun hc3 => ?_) (fun hc3 => ?_)
  · have h4 := it_pos h2 hc3
    exact hk1  _ _ ls h4 G (lv_sub hl [] rfl)
  · have h5 := it_neg h2 hc3
    refine lv_iload_n (pc := 4) X.1 X.2.1 dX7_requireWhat_4 rfl (lv_at hl 0 rfl) ?_
    refine lv_iload_n (pc := 5) X.1 X.2.1 dX7_requireWhat_5 rfl (lv_at hl 1 rfl) ?_
    refine lv_icmp_le (pc := 6) (tgt := 20) X.1 X.2.1 dX7_requireWhat_6 (by decide) (fun hc6 => ?_) (fun hc6 => ?_)
    · have h7 := it_pos h5 hc6
      have h7_i := Option.some.inj h7
      exact X_vret (pc := 20) X G hr hlk dX7_requireWhat_20 (congrArg Prod.snd h7_i).symm rfl (Nat.le_of_ble_eq_true rfl) (Nat.le_of_ble_eq_true rfl)
    · have h8 := it_neg h5 hc6
      exact hk1  _ _ ls h8 G (lv_sub hl [] rfl)

abbrev rm7_requireSlot : Room := { frames := 6, cells := 1, slots := 6, locals := 82 }
noncomputable def F7_requireSlot (p0 : Int32) : Option (Unit × (Nat ⊕ Unit)) :=
  jp (fun (_ : Unit) => some ((), .inl 2)) fun k1 =>
  if p0 < 0 then
  k1 ()
  else
  if p0 < 2 then
  some ((), .inr ())
  else
  k1 ()
set_option maxHeartbeats 4000000 in
set_option maxRecDepth 100000 in
theorem c7_requireSlot (l : Launch) (hfl : l.stackTraces = false) (D : va_G) (κ : Nat → ClassId) (A : Nat → Prop) (ad : Nat → Nat) (M : Nat → Option va_E) (p0 : Int32) (res : Unit × (Nat ⊕ Unit)) (h : F7_requireSlot p0 = some res) : vx_Met l yX7_requireSlot (gw yX7_requireSlot cX7_requireSlot 1 none) rm7_requireSlot (va_Pc [.int p0] (MW D κ A ad M)) (QVX D A ad M res.2) (XX D A ad M res.2) 1 6 A := by
  refine met_ofX (own := RX7) (by decide +kernel) rfl (Nat.le_of_ble_eq_true rfl) ?_
  intro p e s m below meth c ls X hr hlk hout G hl
  have hl : lv_has ls 1 [(0, .int p0)] := hl
  unfold F7_requireSlot at h
  refine lv_iload_n (pc := 0) X.1 X.2.1 dX7_requireSlot_0 rfl (lv_at hl 0 rfl) ?_
  obtain ⟨k1, ek1, h2⟩ := jp_some h
  have hk1 : ∀  (H : Heap) (locs : List Loc) (ls : Array Slot), k1 () = some res → Mm D κ A ad M s H locs → lv_has ls 1 [] → W p l e rm7_requireSlot s m [.int p0].toArray below meth c H locs 0 0 (vx_MQ below (QVX D A ad M res.2) (XX D A ad M res.2) [.int p0].toArray s 1 6 A) (F0 m 9 ls []) := by
    intro  H locs ls12 h9 G10 hl11
    rw [ek1] at h9
    try dsimp only at h9
    have h9_i := Option.some.inj h9
    exact m_throwSW (pc := 9) (k := 2) (is := 259) X G10 hfl (ik := 90) (ic := 94) (by decide) (List.mem_of_getElem? (i := 7) rfl) hl11 dX7_requireSlot_9 dX7_requireSlot_12 dX7_requireSlot_13 dX7_requireSlot_16 dX7_requireSlot_19 hout (Nat.le_of_ble_eq_true rfl) (Nat.le_of_ble_eq_true rfl) (Nat.le_of_ble_eq_true rfl) (Nat.le_of_ble_eq_true rfl) hlk (congrArg Prod.snd h9_i).symm rfl (Nat.le_of_ble_eq_true rfl) (Nat.le_of_ble_eq_true rfl)
  refine lv_if_lt (pc := 1) (tgt := 9) X.1 X.2.1 dX7_requireSlot_1 (by decide) (fun hc3 => ?_) (fun hc3 => ?_)
  · have h4 := it_pos h2 hc3
    exact hk1  _ _ ls h4 G (lv_sub hl [] rfl)
  · have h5 := it_neg h2 hc3
    refine lv_iload_n (pc := 4) X.1 X.2.1 dX7_requireSlot_4 rfl (lv_at hl 0 rfl) ?_
    refine lv_iconst (pc := 5) (v := 2) X.1 X.2.1 dX7_requireSlot_5 (by decide) ?_
    refine lv_icmp_lt (pc := 6) (tgt := 20) X.1 X.2.1 dX7_requireSlot_6 (by decide) (fun hc6 => ?_) (fun hc6 => ?_)
    · have h7 := it_pos h5 hc6
      have h7_i := Option.some.inj h7
      exact X_vret (pc := 20) X G hr hlk dX7_requireSlot_20 (congrArg Prod.snd h7_i).symm rfl (Nat.le_of_ble_eq_true rfl) (Nat.le_of_ble_eq_true rfl)
    · have h8 := it_neg h5 hc6
      exact hk1  _ _ ls h8 G (lv_sub hl [] rfl)

abbrev rm7_requireDefinition : Room := { frames := 6, cells := 1, slots := 6, locals := 82 }
noncomputable def F7_requireDefinition (b : BS) (p0 : Int32) : Option (BS × (Nat ⊕ Option Nat)) :=
  bn (F5_definitionOf b 70 p0) fun o3 =>
  on o3 (some (b, .inl 3)) fun t6 =>
  some (b, .inr (some t6))
set_option maxHeartbeats 4000000 in
set_option maxRecDepth 100000 in
theorem c7_requireDefinition (l : Launch) (hfl : l.stackTraces = false) (D : va_G) (κ : Nat → ClassId) (A : Nat → Prop) (ad : Nat → Nat) (r0 : Nat → Option va_E) (b : BS) (p0 : Int32) (res : BS × (Nat ⊕ Option Nat)) (h : F7_requireDefinition b p0 = some res) : vx_Met l yX7_requireDefinition (gw yX7_requireDefinition cX7_requireDefinition 3 (some ((FieldType.object "AbbreviationBook$Text")))) rm7_requireDefinition (va_Pc [.ref (ad 50), .int p0] (MW D κ A ad (celB κ ad r0 b))) (QRX D A ad (celB κ ad r0 res.1) res.2) (XX D A ad (celB κ ad r0 res.1) res.2) 1 6 A := by
  refine met_ofX (own := RX7) (by decide +kernel) rfl (Nat.le_of_ble_eq_true rfl) ?_
  intro p e s m below meth c ls X hr hlk hout G hl
  have hl : lv_has ls 3 [(0, .ref (ad 50)), (1, .int p0)] := hl
  unfold F7_requireDefinition at h
  refine lv_aload_n (pc := 0) X.1 X.2.1 dX7_requireDefinition_0 rfl (lv_at hl 0 rfl) ?_
  refine B_getc (pc := 1) (i := 50) (k := 0) (j := 70) X G rfl clX7 (okL50 _) (by decide) rfl fl_X7_10 dX7_requireDefinition_1 ?_
  refine lv_iload_n (pc := 4) X.1 X.2.1 dX7_requireDefinition_4 rfl (lv_at hl 1 rfl) ?_
  obtain ⟨o3, eo3, h1⟩ := bn_some h
  refine B_callq (pc := 5) (v := o3) (M' := (celB κ ad r0 b)) (i := 70) (As := [.int p0]) (rest := []) X G (rm := rm5_definitionOf) rfl rfl rfl (c5_definitionOf l D κ A ad r0 b 70 p0 o3 eo3) (B_rcv (ci := 5) (okL70 _) (by decide)) rfl g_X7_87 hd_yX5_definitionOf ⟨Nat.le_of_ble_eq_true rfl, Nat.le_of_ble_eq_true rfl⟩ rfl hl rfl (lv_room (Nat.le_of_ble_eq_true rfl)) dX7_requireDefinition_5 ⟨Nat.le_of_ble_eq_true rfl, Nat.le_of_ble_eq_true rfl⟩ (fun H locs G2 => ?_)
  refine lq_astore_n (pc := 8) (lv' := [(2, va_rf (o3.map ad)), (0, .ref (ad 50)), (1, .int p0)]) X dX7_requireDefinition_8 rfl hl (by decide) rfl (fun ls4 hl5 => ?_)
  refine lq_aload_n (pc := 9) X dX7_requireDefinition_9 rfl (lv_at hl5 0 rfl) ?_
  rcases o3 with _ | t6
  · have h7 := on_n h1
    have hl9 : lv_has ls4 3 [(2, va_rf ((none : Option Nat).map ad)), (0, .ref (ad 50)), (1, .int p0)] := hl5
    refine lv_ifnonnullN (pc := 10) X.1 X.2.1 dX7_requireDefinition_10 ?_
    have h7_i := Option.some.inj h7
    exact m_throwSW (pc := 13) (k := 3) (is := 261) X G2 hfl (ik := 125) (ic := 129) (by decide) (List.mem_of_getElem? (i := 2) rfl) hl9 dX7_requireDefinition_13 dX7_requireDefinition_16 dX7_requireDefinition_17 dX7_requireDefinition_20 dX7_requireDefinition_23 hout (Nat.le_of_ble_eq_true rfl) (Nat.le_of_ble_eq_true rfl) (Nat.le_of_ble_eq_true rfl) (Nat.le_of_ble_eq_true rfl) hlk (congrArg Prod.snd h7_i).symm (congrArg (fun q : BS × (Nat ⊕ Option Nat) => celB κ ad r0 q.1) h7_i) (Nat.le_of_ble_eq_true rfl) (Nat.le_of_ble_eq_true rfl)
  · have h8 := on_s h1
    have hl10 : lv_has ls4 3 [(2, .ref (ad t6)), (0, .ref (ad 50)), (1, .int p0)] := hl5
    refine lv_ifnonnull (pc := 10) (tgt := 24) (x := ad t6) X.1 X.2.1 dX7_requireDefinition_10 (by decide) ?_
    refine lv_aload_n (pc := 24) X.1 X.2.1 dX7_requireDefinition_24 rfl (lv_at hl10 0 rfl) ?_
    have h8_i := Option.some.inj h8
    exact X_aret (pc := 25) (x := (some t6)) X G2 hr (Or.inl ⟨_, rfl⟩) hlk dX7_requireDefinition_25 (congrArg Prod.snd h8_i).symm (congrArg (fun q : BS × (Nat ⊕ Option Nat) => celB κ ad r0 q.1) h8_i) (Nat.le_of_ble_eq_true rfl) (Nat.le_of_ble_eq_true rfl)

abbrev rm7_requireCompleteText : Room := { frames := 6, cells := 1, slots := 6, locals := 82 }
noncomputable def F7_requireCompleteText (b : BS)  : Option (BS × (Nat ⊕ Unit)) :=
  bn (F4_readText b 51 (b.1 50 6)) fun b3 =>
  bn (F4_isComplete b3) fun x6 =>
  if ¬ x6 = 0 then
  some (b3, .inr ())
  else
  some (b3, .inl 2)
set_option maxHeartbeats 4000000 in
set_option maxRecDepth 100000 in
theorem c7_requireCompleteText (l : Launch) (hfl : l.stackTraces = false) (D : va_G) (κ : Nat → ClassId) (A : Nat → Prop) (ad : Nat → Nat) (r0 : Nat → Option va_E) (b : BS)  (res : BS × (Nat ⊕ Unit)) (h : F7_requireCompleteText b  = some res) : vx_Met l yX7_requireCompleteText (gw yX7_requireCompleteText cX7_requireCompleteText 1 none) rm7_requireCompleteText (va_Pc [.ref (ad 50)] (MW D κ A ad (celB κ ad r0 b))) (QVX D A ad (celB κ ad r0 res.1) res.2) (XX D A ad (celB κ ad r0 res.1) res.2) 1 6 A := by
  refine met_ofX (own := RX7) (by decide +kernel) rfl (Nat.le_of_ble_eq_true rfl) ?_
  intro p e s m below meth c ls X hr hlk hout G hl
  have hl : lv_has ls 1 [(0, .ref (ad 50))] := hl
  unfold F7_requireCompleteText at h
  refine lv_aload_n (pc := 0) X.1 X.2.1 dX7_requireCompleteText_0 rfl (lv_at hl 0 rfl) ?_
  refine B_getc (pc := 1) (i := 50) (k := 3) (j := 52) X G rfl clX7 (okL50 _) (by decide) rfl fl_X7_30 dX7_requireCompleteText_1 ?_
  refine lv_aload_n (pc := 4) X.1 X.2.1 dX7_requireCompleteText_4 rfl (lv_at hl 0 rfl) ?_
  refine B_getc (pc := 5) (i := 50) (k := 2) (j := 51) X G rfl clX7 (okL50 _) (by decide) rfl fl_X7_23 dX7_requireCompleteText_5 ?_
  refine lv_aload_n (pc := 8) X.1 X.2.1 dX7_requireCompleteText_8 rfl (lv_at hl 0 rfl) ?_
  refine B_geti (pc := 9) (i := 50) (k := 6) X G rfl clX7 (okL50 _) (by decide) rfl rfl fl_X7_48 dX7_requireCompleteText_9 ?_
  obtain ⟨b3, eb3, h1⟩ := bn_some h
  refine B_callv (pc := 12) (M' := (celB κ ad r0 b3)) (i := 52) (As := [.ref (ad 51), .int (b.1 50 6)]) (rest := []) X G (rm := rm4_readText) rfl rfl rfl (c4_readText l D κ A ad r0 b 51 (b.1 50 6) b3 eb3) (B_rcv (ci := 4) (okL52 _) (by decide)) rfl g_X7_130 hd_yX4_readText ⟨Nat.le_of_ble_eq_true rfl, Nat.le_of_ble_eq_true rfl⟩ rfl hl rfl (lv_room (Nat.le_of_ble_eq_true rfl)) dX7_requireCompleteText_12 ⟨Nat.le_of_ble_eq_true rfl, Nat.le_of_ble_eq_true rfl⟩ (fun H locs G2 => ?_)
  refine lv_aload_n (pc := 15) X.1 X.2.1 dX7_requireCompleteText_15 rfl (lv_at hl 0 rfl) ?_
  refine B_getc (pc := 16) (i := 50) (k := 3) (j := 52) X G2 rfl clX7 (okL50 _) (by decide) rfl fl_X7_30 dX7_requireCompleteText_16 ?_
  obtain ⟨x6, ex6, h4⟩ := bn_some h1
  refine B_calli (pc := 19) (v := x6) (M' := (celB κ ad r0 b3)) (i := 52) (As := []) (rest := []) X G2 (rm := rm4_isComplete) rfl rfl rfl (c4_isComplete l D κ A ad r0 b3 x6 ex6) (B_rcv (ci := 4) (okL52 _) (by decide)) rfl g_X7_272 hd_yX4_isComplete ⟨Nat.le_of_ble_eq_true rfl, Nat.le_of_ble_eq_true rfl⟩ rfl hl rfl (lv_room (Nat.le_of_ble_eq_true rfl)) dX7_requireCompleteText_19 ⟨Nat.le_of_ble_eq_true rfl, Nat.le_of_ble_eq_true rfl⟩ (fun H locs G5 => ?_)
  refine lv_if_ne (pc := 22) (tgt := 36) X.1 X.2.1 dX7_requireCompleteText_22 (by decide) (fun hc7 => ?_) (fun hc7 => ?_)
  · have h8 := it_pos h4 hc7
    have h8_i := Option.some.inj h8
    exact X_vret (pc := 36) X G5 hr hlk dX7_requireCompleteText_36 (congrArg Prod.snd h8_i).symm (congrArg (fun q : BS × (Nat ⊕ Unit) => celB κ ad r0 q.1) h8_i) (Nat.le_of_ble_eq_true rfl) (Nat.le_of_ble_eq_true rfl)
  · have h9 := it_neg h4 (fun q => q hc7)
    have h9_i := Option.some.inj h9
    exact m_throwSW (pc := 25) (k := 2) (is := 276) X G5 hfl (ik := 90) (ic := 94) (by decide) (List.mem_of_getElem? (i := 1) rfl) hl dX7_requireCompleteText_25 dX7_requireCompleteText_28 dX7_requireCompleteText_29 dX7_requireCompleteText_32 dX7_requireCompleteText_35 hout (Nat.le_of_ble_eq_true rfl) (Nat.le_of_ble_eq_true rfl) (Nat.le_of_ble_eq_true rfl) (Nat.le_of_ble_eq_true rfl) hlk (congrArg Prod.snd h9_i).symm (congrArg (fun q : BS × (Nat ⊕ Unit) => celB κ ad r0 q.1) h9_i) (Nat.le_of_ble_eq_true rfl) (Nat.le_of_ble_eq_true rfl)

abbrev rm7_append : Room := { frames := 6, cells := 1, slots := 6, locals := 82 }
noncomputable def F7_append (b : BS) (p0 : Int32) : Option (BS × (Nat ⊕ Int32)) :=
  jp (fun (_ : Unit) => some (b, .inl 2)) fun k1 =>
  if p0 < 33 then
  k1 ()
  else
  if p0 ≤ 126 then
  jp (fun (_ : Unit) => some (b, .inl 3)) fun k9 =>
  if (b.1 50 6) < 0 then
  k9 ()
  else
  if (b.1 50 6) < (nI 60) then
  wb b 51 60 (b.1 50 6) p0 fun b17 =>
  bd (setI b17 50 6 ((b17.1 50 6) + 1)) fun b20 =>
  some (b20, .inr (b20.1 50 6))
  else
  k9 ()
  else
  k1 ()
set_option maxHeartbeats 4000000 in
set_option maxRecDepth 100000 in
theorem c7_append (l : Launch) (hfl : l.stackTraces = false) (D : va_G) (κ : Nat → ClassId) (A : Nat → Prop) (ad : Nat → Nat) (r0 : Nat → Option va_E) (b : BS) (p0 : Int32) (res : BS × (Nat ⊕ Int32)) (h : F7_append b p0 = some res) : vx_Met l yX7_append (gw yX7_append cX7_append 2 (some (FieldType.int))) rm7_append (va_Pc [.ref (ad 50), .int p0] (MW D κ A ad (celB κ ad r0 b))) (QIX D A ad (celB κ ad r0 res.1) res.2) (XX D A ad (celB κ ad r0 res.1) res.2) 1 6 A := by
  refine met_ofX (own := RX7) (by decide +kernel) rfl (Nat.le_of_ble_eq_true rfl) ?_
  intro p e s m below meth c ls X hr hlk hout G hl
  have hl : lv_has ls 2 [(0, .ref (ad 50)), (1, .int p0)] := hl
  unfold F7_append at h
  refine lv_iload_n (pc := 0) X.1 X.2.1 dX7_append_0 rfl (lv_at hl 1 rfl) ?_
  refine lv_bipush (pc := 1) (v := 33) X.1 X.2.1 dX7_append_1 (by decide) ?_
  obtain ⟨k1, ek1, h2⟩ := jp_some h
  have hk1 : ∀  (H : Heap) (locs : List Loc) (ls : Array Slot), k1 () = some res → Mm D κ A ad (celB κ ad r0 b) s H locs → lv_has ls 2 [] → W p l e rm7_append s m [.ref (ad 50), .int p0].toArray below meth c H locs 0 0 (vx_MQ below (QIX D A ad (celB κ ad r0 res.1) res.2) (XX D A ad (celB κ ad r0 res.1) res.2) [.ref (ad 50), .int p0].toArray s 1 6 A) (F0 m 12 ls []) := by
    intro  H locs ls30 h27 G28 hl29
    rw [ek1] at h27
    try dsimp only at h27
    have h27_i := Option.some.inj h27
    exact m_throwS (pc := 12) (k := 2) (is := 123) X G28 hfl (ik := 90) (ic := 94) (by decide) (List.mem_of_getElem? (i := 4) rfl) hl29 dX7_append_12 dX7_append_15 dX7_append_16 dX7_append_18 dX7_append_21 hout (Nat.le_of_ble_eq_true rfl) (Nat.le_of_ble_eq_true rfl) (Nat.le_of_ble_eq_true rfl) (Nat.le_of_ble_eq_true rfl) hlk (congrArg Prod.snd h27_i).symm (congrArg (fun q : BS × (Nat ⊕ Int32) => celB κ ad r0 q.1) h27_i) (Nat.le_of_ble_eq_true rfl) (Nat.le_of_ble_eq_true rfl)
  refine lv_icmp_lt (pc := 3) (tgt := 12) X.1 X.2.1 dX7_append_3 (by decide) (fun hc3 => ?_) (fun hc3 => ?_)
  · have h4 := it_pos h2 hc3
    exact hk1  _ _ ls h4 G (lv_sub hl [] rfl)
  · have h5 := it_neg h2 hc3
    refine lv_iload_n (pc := 6) X.1 X.2.1 dX7_append_6 rfl (lv_at hl 1 rfl) ?_
    refine lv_bipush (pc := 7) (v := 126) X.1 X.2.1 dX7_append_7 (by decide) ?_
    refine lv_icmp_le (pc := 9) (tgt := 22) X.1 X.2.1 dX7_append_9 (by decide) (fun hc6 => ?_) (fun hc6 => ?_)
    · have h7 := it_pos h5 hc6
      refine lv_aload_n (pc := 22) X.1 X.2.1 dX7_append_22 rfl (lv_at hl 0 rfl) ?_
      refine B_geti (pc := 23) (i := 50) (k := 6) X G rfl clX7 (okL50 _) (by decide) rfl rfl fl_X7_48 dX7_append_23 ?_
      obtain ⟨k9, ek9, h10⟩ := jp_some h7
      have hk9 : ∀  (H : Heap) (locs : List Loc) (ls : Array Slot), k9 () = some res → Mm D κ A ad (celB κ ad r0 b) s H locs → lv_has ls 2 [] → W p l e rm7_append s m [.ref (ad 50), .int p0].toArray below meth c H locs 0 0 (vx_MQ below (QIX D A ad (celB κ ad r0 res.1) res.2) (XX D A ad (celB κ ad r0 res.1) res.2) [.ref (ad 50), .int p0].toArray s 1 6 A) (F0 m 41 ls []) := by
        intro  H locs ls26 h23 G24 hl25
        rw [ek9] at h23
        try dsimp only at h23
        have h23_i := Option.some.inj h23
        exact m_throwS (pc := 41) (k := 3) (is := 127) X G24 hfl (ik := 125) (ic := 129) (by decide) (List.mem_of_getElem? (i := 5) rfl) hl25 dX7_append_41 dX7_append_44 dX7_append_45 dX7_append_47 dX7_append_50 hout (Nat.le_of_ble_eq_true rfl) (Nat.le_of_ble_eq_true rfl) (Nat.le_of_ble_eq_true rfl) (Nat.le_of_ble_eq_true rfl) hlk (congrArg Prod.snd h23_i).symm (congrArg (fun q : BS × (Nat ⊕ Int32) => celB κ ad r0 q.1) h23_i) (Nat.le_of_ble_eq_true rfl) (Nat.le_of_ble_eq_true rfl)
      refine lv_if_lt (pc := 26) (tgt := 41) X.1 X.2.1 dX7_append_26 (by decide) (fun hc11 => ?_) (fun hc11 => ?_)
      · have h12 := it_pos h10 hc11
        exact hk9  _ _ ls h12 G (lv_sub hl [] rfl)
      · have h13 := it_neg h10 hc11
        refine lv_aload_n (pc := 29) X.1 X.2.1 dX7_append_29 rfl (lv_at hl 0 rfl) ?_
        refine B_geti (pc := 30) (i := 50) (k := 6) X G rfl clX7 (okL50 _) (by decide) rfl rfl fl_X7_48 dX7_append_30 ?_
        refine lv_aload_n (pc := 33) X.1 X.2.1 dX7_append_33 rfl (lv_at hl 0 rfl) ?_
        refine B_getc (pc := 34) (i := 50) (k := 2) (j := 51) X G rfl clX7 (okL50 _) (by decide) rfl fl_X7_23 dX7_append_34 ?_
        refine B_alen (pc := 37) (i := 51) (n := 60) X G rfl (okL51 _) rfl dX7_append_37 ?_
        refine lv_icmp_lt (pc := 38) (tgt := 51) X.1 X.2.1 dX7_append_38 (by decide) (fun hc14 => ?_) (fun hc14 => ?_)
        · have h15 := it_pos h13 hc14
          refine lv_aload_n (pc := 51) X.1 X.2.1 dX7_append_51 rfl (lv_at hl 0 rfl) ?_
          refine B_getc (pc := 52) (i := 50) (k := 2) (j := 51) X G rfl clX7 (okL50 _) (by decide) rfl fl_X7_23 dX7_append_52 ?_
          refine lv_aload_n (pc := 55) X.1 X.2.1 dX7_append_55 rfl (lv_at hl 0 rfl) ?_
          refine B_geti (pc := 56) (i := 50) (k := 6) X G rfl clX7 (okL50 _) (by decide) rfl rfl fl_X7_48 dX7_append_56 ?_
          refine lv_iload_n (pc := 59) X.1 X.2.1 dX7_append_59 rfl (lv_at hl 1 rfl) ?_
          obtain ⟨hib17, b17, eb17, h18⟩ := wb_some h15
          refine B_iast (pc := 60) (i := 51) (n := 60) X G eb17 rfl (okL51 _) rfl hib17 dX7_append_60 (fun H locs G19 => ?_)
          have nb17 : b17.2.2 = b.2.2 := by rw [eb17]; rfl
          refine lv_aload_n (pc := 61) X.1 X.2.1 dX7_append_61 rfl (lv_at hl 0 rfl) ?_
          refine lv_dup (pc := 62) X.1 X.2.1 dX7_append_62 rfl ?_
          refine B_geti (pc := 63) (i := 50) (k := 6) X G19 rfl clX7 (okL50 _) (by decide) rfl rfl fl_X7_48 dX7_append_63 ?_
          refine lv_iconst (pc := 66) (v := 1) X.1 X.2.1 dX7_append_66 (by decide) ?_
          refine lv_iadd (pc := 67) X.1 X.2.1 dX7_append_67 ?_
          obtain ⟨b20, eb20, h21⟩ := bd_some h18
          refine B_puti (pc := 68) (i := 50) (k := 6) (v := ((b17.1 50 6) + 1)) X G19 eb20 rfl clX7 (okL50 _) (by decide) rfl rfl rfl rfl fl_X7_48 dX7_append_68 (fun H locs G22 => ?_)
          have nb20 : b20.2.2 = b17.2.2 := by rw [eb20]; rfl
          refine lv_aload_n (pc := 71) X.1 X.2.1 dX7_append_71 rfl (lv_at hl 0 rfl) ?_
          refine B_geti (pc := 72) (i := 50) (k := 6) X G22 rfl clX7 (okL50 _) (by decide) rfl rfl fl_X7_48 dX7_append_72 ?_
          have h21_i := Option.some.inj h21
          exact X_iret (pc := 75) X G22 hr hlk dX7_append_75 (congrArg Prod.snd h21_i).symm (congrArg (fun q : BS × (Nat ⊕ Int32) => celB κ ad r0 q.1) h21_i) (Nat.le_of_ble_eq_true rfl) (Nat.le_of_ble_eq_true rfl)
        · have h16 := it_neg h13 hc14
          exact hk9  _ _ ls h16 G (lv_sub hl [] rfl)
    · have h8 := it_neg h5 hc6
      exact hk1  _ _ ls h8 G (lv_sub hl [] rfl)

abbrev rm7_load : Room := { frames := 7, cells := 2, slots := 12, locals := 104 }
noncomputable def F7_load (b : BS) (p0 : Int32) : Option (BS × (Nat ⊕ Int32)) :=
  bx (F7_requireLetter p0) (fun u1 k2 => some (b, .inl k2)) fun u1 v3 =>
  bx (F7_requireDefinition b p0) (fun b8 k9 => some (b8, .inl k9)) fun b8 o10 =>
  de o10 fun t17 =>
  ck (okB b8.2.2 t17 6) <|
  bd (if (nI 60) < (nI (lnB b8.2.2 (t17 + 1))) then (nI 60) else (nI (lnB b8.2.2 (t17 + 1)))) fun x22 =>
  Loop (fun (q : Int32 × BS) => (fun (x28 : Int32) (b29 : BS) =>
  if x22 ≤ x28 then
  bd (setI b29 50 6 x22) fun b37 =>
  some (.inr (b37, .inr (b37.1 50 6)))
  else
  ck (okB b29.2.2 t17 6) <|
  rd (b29.1 (t17 + 1)) (lnB b29.2.2 (t17 + 1)) x28 fun x42 =>
  wb b29 51 60 x28 x42 fun b44 =>
  bd (x28 + 1) fun x47 =>
  some (.inl (x47, b44))) q.1 q.2) (0, b8)
set_option maxHeartbeats 4000000 in
set_option maxRecDepth 100000 in
theorem c7_load (l : Launch) (hfl : l.stackTraces = false) (D : va_G) (κ : Nat → ClassId) (A : Nat → Prop) (ad : Nat → Nat) (r0 : Nat → Option va_E) (b : BS) (p0 : Int32) (res : BS × (Nat ⊕ Int32)) (h : F7_load b p0 = some res) : vx_Met l yX7_load (gw yX7_load cX7_load 5 (some (FieldType.int))) rm7_load (va_Pc [.ref (ad 50), .int p0] (MW D κ A ad (celB κ ad r0 b))) (QIX D A ad (celB κ ad r0 res.1) res.2) (XX D A ad (celB κ ad r0 res.1) res.2) 2 12 A := by
  refine met_ofX (own := RX7) (by decide +kernel) rfl (Nat.le_of_ble_eq_true rfl) ?_
  intro p e s m below meth c ls X hr hlk hout G hl
  have hl : lv_has ls 5 [(0, .ref (ad 50)), (1, .int p0)] := hl
  unfold F7_load at h
  refine lv_iload_n (pc := 0) X.1 X.2.1 dX7_load_0 rfl (lv_at hl 1 rfl) ?_
  rcases bx_some h with ⟨u1, k2, e4, h5⟩ | ⟨u1, v3, e4, h6⟩
  · have h5_i := Option.some.inj h5
    exact X_tv (X_runS (pc := 1) (As := [.int p0]) (rest := []) (M' := (celB κ ad r0 b)) (r := (.inl k2 : Nat ⊕ Unit)) X G (rm := rm7_requireLetter) rfl rfl (c7_requireLetter l hfl D κ A ad (celB κ ad r0 b) p0 (u1, (.inl k2 : Nat ⊕ Unit)) e4) g_X7_52 hs_yX7_requireLetter ⟨Nat.le_of_ble_eq_true rfl, Nat.le_of_ble_eq_true rfl⟩ rfl hl rfl (lv_room (Nat.le_of_ble_eq_true rfl)) dX7_load_1 ⟨Nat.le_of_ble_eq_true rfl, Nat.le_of_ble_eq_true rfl⟩) G hout hlk rfl (congrArg Prod.snd h5_i).symm (congrArg (fun q : BS × (Nat ⊕ Int32) => celB κ ad r0 q.1) h5_i) (Nat.le_of_ble_eq_true rfl) (Nat.le_of_ble_eq_true rfl)
  refine X_v (X_runS (pc := 1) (As := [.int p0]) (rest := []) (M' := (celB κ ad r0 b)) (r := (.inr v3 : Nat ⊕ Unit)) X G (rm := rm7_requireLetter) rfl rfl (c7_requireLetter l hfl D κ A ad (celB κ ad r0 b) p0 (u1, (.inr v3 : Nat ⊕ Unit)) e4) g_X7_52 hs_yX7_requireLetter ⟨Nat.le_of_ble_eq_true rfl, Nat.le_of_ble_eq_true rfl⟩ rfl hl rfl (lv_room (Nat.le_of_ble_eq_true rfl)) dX7_load_1 ⟨Nat.le_of_ble_eq_true rfl, Nat.le_of_ble_eq_true rfl⟩) G rfl (fun H locs G7 => ?_)
  refine lv_aload_n (pc := 4) X.1 X.2.1 dX7_load_4 rfl (lv_at hl 0 rfl) ?_
  refine lv_iload_n (pc := 5) X.1 X.2.1 dX7_load_5 rfl (lv_at hl 1 rfl) ?_
  rcases bx_some h6 with ⟨b8, k9, e11, h12⟩ | ⟨b8, o10, e11, h13⟩
  · have h12_i := Option.some.inj h12
    exact X_tq (X_runV (pc := 6) (i := 50) (As := [.int p0]) (rest := []) (M' := (celB κ ad r0 b8)) (r := (.inl k9 : Nat ⊕ Option Nat)) X G7 (rm := rm7_requireDefinition) rfl rfl rfl (c7_requireDefinition l hfl D κ A ad r0 b p0 (b8, (.inl k9 : Nat ⊕ Option Nat)) e11) (B_rcv (ci := 7) (okL50 _) (by decide)) rfl g_X7_79 hd_yX7_requireDefinition ⟨Nat.le_of_ble_eq_true rfl, Nat.le_of_ble_eq_true rfl⟩ rfl hl rfl (lv_room (Nat.le_of_ble_eq_true rfl)) dX7_load_6 ⟨Nat.le_of_ble_eq_true rfl, Nat.le_of_ble_eq_true rfl⟩) G7 hout hlk rfl (congrArg Prod.snd h12_i).symm (congrArg (fun q : BS × (Nat ⊕ Int32) => celB κ ad r0 q.1) h12_i) (Nat.le_of_ble_eq_true rfl) (Nat.le_of_ble_eq_true rfl)
  refine X_q (X_runV (pc := 6) (i := 50) (As := [.int p0]) (rest := []) (M' := (celB κ ad r0 b8)) (r := (.inr o10 : Nat ⊕ Option Nat)) X G7 (rm := rm7_requireDefinition) rfl rfl rfl (c7_requireDefinition l hfl D κ A ad r0 b p0 (b8, (.inr o10 : Nat ⊕ Option Nat)) e11) (B_rcv (ci := 7) (okL50 _) (by decide)) rfl g_X7_79 hd_yX7_requireDefinition ⟨Nat.le_of_ble_eq_true rfl, Nat.le_of_ble_eq_true rfl⟩ rfl hl rfl (lv_room (Nat.le_of_ble_eq_true rfl)) dX7_load_6 ⟨Nat.le_of_ble_eq_true rfl, Nat.le_of_ble_eq_true rfl⟩) G7 rfl (fun H locs G14 => ?_)
  refine lq_astore_n (pc := 9) (lv' := [(2, va_rf (o10.map ad)), (0, .ref (ad 50)), (1, .int p0)]) X dX7_load_9 rfl hl (by decide) rfl (fun ls15 hl16 => ?_)
  refine lq_aload_n (pc := 10) X dX7_load_10 rfl (lv_at hl16 0 rfl) ?_
  obtain ⟨t17, rfl, h18⟩ := de_some h13
  have hl19 : lv_has ls15 5 [(2, .ref (ad t17)), (0, .ref (ad 50)), (1, .int p0)] := hl16
  obtain ⟨ok20, h21⟩ := ck_some h18
  refine B_getc (pc := 11) (i := t17) (k := 0) (j := t17 + 1) X G14 rfl clX6 ok20 (by decide) rfl fl_X7_137 dX7_load_11 ?_
  refine B_alen (pc := 14) (i := t17 + 1) (n := (lnB b8.2.2 (t17 + 1))) X G14 rfl (ok6_arr ok20) rfl dX7_load_14 ?_
  refine lv_aload_n (pc := 15) X.1 X.2.1 dX7_load_15 rfl (lv_at hl19 1 rfl) ?_
  refine B_getc (pc := 16) (i := 50) (k := 2) (j := 51) X G14 rfl clX7 (okL50 _) (by decide) rfl fl_X7_23 dX7_load_16 ?_
  refine B_alen (pc := 19) (i := 51) (n := 60) X G14 rfl (okL51 _) rfl dX7_load_19 ?_
  refine lq_mmin (pc := 20) (rest := []) X hl19 (ml_X7_138 : Cond.methodLink RX7 138 Lib.Math.min.name ∈ G0) w_min_s w_math w_min_c (Nat.le_of_ble_eq_true rfl) (Nat.le_of_ble_eq_true rfl) (Nat.le_of_ble_eq_true rfl) (Nat.le_of_ble_eq_true rfl) dX7_load_20 ?_
  refine lv_topi (fun x22 ex22 => ?_)
  have h23 := bd_at h21 ex22
  refine lv_istore_n (pc := 23) (lv' := [(3, .int x22), (2, .ref (ad t17)), (0, .ref (ad 50)), (1, .int p0)]) X.1 X.2.1 dX7_load_23 rfl hl19 (by decide) rfl (fun ls24 hl25 => ?_)
  refine lv_iconst (pc := 24) (v := 0) X.1 X.2.1 dX7_load_24 (by decide) ?_
  refine lv_istore (pc := 25) (lv' := [(4, .int 0), (3, .int x22), (2, .ref (ad t17)), (0, .ref (ad 50)), (1, .int p0)]) X.1 X.2.1 dX7_load_25 hl25 (by decide) rfl (fun ls26 hl27 => ?_)
  refine Loop_ind (P := fun (q : Int32 × BS) => ∀ (H : Heap) (locs : List Loc) (ls : Array Slot), Mm D κ A ad (celB κ ad r0 q.2) s H locs → lv_has ls 5 [(0, .ref (ad 50)), (2, .ref (ad t17)), (3, .int x22), (4, .int q.1)] → W p l e rm7_load s m [.ref (ad 50), .int p0].toArray below meth c H locs 2 12 (vx_MQ below (QIX D A ad (celB κ ad r0 res.1) res.2) (XX D A ad (celB κ ad r0 res.1) res.2) [.ref (ad 50), .int p0].toArray s 2 12 A) (F0 m 27 ls [])) ?_ h23 _ _ ls26 G14 (lv_sub hl27 [3, 2, 1, 0] rfl)
  intro q y1 h30 ih1 hz1 H locs ls33 G31 hl32
  obtain ⟨x28, b29⟩ := q
  try dsimp only at h30 ih1 G31 hl32 ⊢
  refine lv_iload (pc := 27) X.1 X.2.1 dX7_load_27 (lv_at hl32 3 rfl) ?_
  refine lv_iload_n (pc := 29) X.1 X.2.1 dX7_load_29 rfl (lv_at hl32 2 rfl) ?_
  refine lv_icmp_ge (pc := 30) (tgt := 53) X.1 X.2.1 dX7_load_30 (by decide) (fun hc34 => ?_) (fun hc34 => ?_)
  · have h35 := it_pos h30 hc34
    refine lv_aload_n (pc := 53) X.1 X.2.1 dX7_load_53 rfl (lv_at hl32 0 rfl) ?_
    refine lv_iload_n (pc := 54) X.1 X.2.1 dX7_load_54 rfl (lv_at hl32 2 rfl) ?_
    obtain ⟨b37, eb37, h38⟩ := bd_some h35
    refine B_puti (pc := 55) (i := 50) (k := 6) (v := x22) X G31 eb37 rfl clX7 (okL50 _) (by decide) rfl rfl rfl rfl fl_X7_48 dX7_load_55 (fun H locs G39 => ?_)
    have nb37 : b37.2.2 = b29.2.2 := by rw [eb37]; rfl
    refine lv_aload_n (pc := 58) X.1 X.2.1 dX7_load_58 rfl (lv_at hl32 0 rfl) ?_
    refine B_geti (pc := 59) (i := 50) (k := 6) X G39 rfl clX7 (okL50 _) (by decide) rfl rfl fl_X7_48 dX7_load_59 ?_
    have h38_i := Option.some.inj h38
    have h38_i_1 := hz1 _ h38_i.symm
    exact X_iret (pc := 62) X G39 hr hlk dX7_load_62 (congrArg Prod.snd h38_i_1).symm (congrArg (fun q : BS × (Nat ⊕ Int32) => celB κ ad r0 q.1) h38_i_1) (Nat.le_of_ble_eq_true rfl) (Nat.le_of_ble_eq_true rfl)
  · have h36 := it_neg h30 hc34
    refine lv_aload_n (pc := 33) X.1 X.2.1 dX7_load_33 rfl (lv_at hl32 0 rfl) ?_
    refine B_getc (pc := 34) (i := 50) (k := 2) (j := 51) X G31 rfl clX7 (okL50 _) (by decide) rfl fl_X7_23 dX7_load_34 ?_
    refine lv_iload (pc := 37) X.1 X.2.1 dX7_load_37 (lv_at hl32 3 rfl) ?_
    refine lv_aload_n (pc := 39) X.1 X.2.1 dX7_load_39 rfl (lv_at hl32 1 rfl) ?_
    obtain ⟨ok40, h41⟩ := ck_some h36
    refine B_getc (pc := 40) (i := t17) (k := 0) (j := t17 + 1) X G31 rfl clX6 ok40 (by decide) rfl fl_X7_137 dX7_load_40 ?_
    refine lv_iload (pc := 43) X.1 X.2.1 dX7_load_43 (lv_at hl32 3 rfl) ?_
    have h41_r := rd_some h41
    refine B_iald (pc := 45) (i := t17 + 1) (n := (lnB b29.2.2 (t17 + 1))) X G31 rfl (ok6_arr ok40) rfl h41_r.1 dX7_load_45 ?_
    refine lv_topi (fun x42 ex42 => ?_)
    have h43 := h41_r.2
    rw [← ex42] at h43
    obtain ⟨hib44, b44, eb44, h45⟩ := wb_some h43
    refine B_iast (pc := 46) (i := 51) (n := 60) X G31 eb44 rfl (okL51 _) rfl hib44 dX7_load_46 (fun H locs G46 => ?_)
    have nb44 : b44.2.2 = b29.2.2 := by rw [eb44]; rfl
    obtain ⟨x47, ex47, h50⟩ := bd_some h45
    refine lv_iinc (pc := 47) (v := x47) (lv' := [(4, .int x47), (0, .ref (ad 50)), (2, .ref (ad t17)), (3, .int x22)]) X.1 X.2.1 dX7_load_47 hl32 (k := 3) rfl (by rw [ex47]; rfl) (by decide) rfl (fun ls48 hl49 => ?_)
    refine lv_goto (pc := 50) (tgt := 27) X.1 X.2.1 dX7_load_50 (by decide) ?_
    have h50_i := Option.some.inj h50
    exact ih1 _ h50_i.symm _ _ ls48 G46 (lv_sub hl49 [1, 2, 3, 0] rfl)

abbrev rm7_body : Room := { frames := 7, cells := 2, slots := 12, locals := 103 }
noncomputable def F7_body (b : BS) (p0 : Int32) (p1 : Int32) : Option (BS × (Nat ⊕ Int32)) :=
  bx (F7_requireLetter p0) (fun u1 k2 => some (b, .inl k2)) fun u1 v3 =>
  bx (F7_requireWhat p1 5) (fun u8 k9 => some (b, .inl k9)) fun u8 v10 =>
  bn (F5_definitionOf b 70 p0) fun o17 =>
  on o17 (some (b, .inr (-1))) fun t20 =>
  if p1 = 0 then
  ck (okB b.2.2 t20 6) <|
  some (b, .inr (nI (lnB b.2.2 (t20 + 1))))
  else if p1 = 1 then
  ck (okB b.2.2 t20 6) <|
  some (b, .inr (b.1 t20 1))
  else if p1 = 2 then
  ck (okB b.2.2 t20 6) <|
  some (b, .inr (b.1 t20 2))
  else if p1 = 3 then
  ck (okB b.2.2 t20 6) <|
  some (b, .inr (b.1 t20 3))
  else if p1 = 4 then
  ck (okB b.2.2 t20 6) <|
  some (b, .inr (b.1 t20 4))
  else ck (okB b.2.2 t20 6) <|
  some (b, .inr (b.1 t20 5))
set_option maxHeartbeats 4000000 in
set_option maxRecDepth 100000 in
theorem c7_body (l : Launch) (hfl : l.stackTraces = false) (D : va_G) (κ : Nat → ClassId) (A : Nat → Prop) (ad : Nat → Nat) (r0 : Nat → Option va_E) (b : BS) (p0 : Int32) (p1 : Int32) (res : BS × (Nat ⊕ Int32)) (h : F7_body b p0 p1 = some res) : vx_Met l yX7_body (gw yX7_body cX7_body 4 (some (FieldType.int))) rm7_body (va_Pc [.ref (ad 50), .int p0, .int p1] (MW D κ A ad (celB κ ad r0 b))) (QIX D A ad (celB κ ad r0 res.1) res.2) (XX D A ad (celB κ ad r0 res.1) res.2) 2 12 A := by
  refine met_ofX (own := RX7) (by decide +kernel) rfl (Nat.le_of_ble_eq_true rfl) ?_
  intro p e s m below meth c ls X hr hlk hout G hl
  have hl : lv_has ls 4 [(0, .ref (ad 50)), (1, .int p0), (2, .int p1)] := hl
  unfold F7_body at h
  refine lv_iload_n (pc := 0) X.1 X.2.1 dX7_body_0 rfl (lv_at hl 1 rfl) ?_
  rcases bx_some h with ⟨u1, k2, e4, h5⟩ | ⟨u1, v3, e4, h6⟩
  · have h5_i := Option.some.inj h5
    exact X_tv (X_runS (pc := 1) (As := [.int p0]) (rest := []) (M' := (celB κ ad r0 b)) (r := (.inl k2 : Nat ⊕ Unit)) X G (rm := rm7_requireLetter) rfl rfl (c7_requireLetter l hfl D κ A ad (celB κ ad r0 b) p0 (u1, (.inl k2 : Nat ⊕ Unit)) e4) g_X7_52 hs_yX7_requireLetter ⟨Nat.le_of_ble_eq_true rfl, Nat.le_of_ble_eq_true rfl⟩ rfl hl rfl (lv_room (Nat.le_of_ble_eq_true rfl)) dX7_body_1 ⟨Nat.le_of_ble_eq_true rfl, Nat.le_of_ble_eq_true rfl⟩) G hout hlk rfl (congrArg Prod.snd h5_i).symm (congrArg (fun q : BS × (Nat ⊕ Int32) => celB κ ad r0 q.1) h5_i) (Nat.le_of_ble_eq_true rfl) (Nat.le_of_ble_eq_true rfl)
  refine X_v (X_runS (pc := 1) (As := [.int p0]) (rest := []) (M' := (celB κ ad r0 b)) (r := (.inr v3 : Nat ⊕ Unit)) X G (rm := rm7_requireLetter) rfl rfl (c7_requireLetter l hfl D κ A ad (celB κ ad r0 b) p0 (u1, (.inr v3 : Nat ⊕ Unit)) e4) g_X7_52 hs_yX7_requireLetter ⟨Nat.le_of_ble_eq_true rfl, Nat.le_of_ble_eq_true rfl⟩ rfl hl rfl (lv_room (Nat.le_of_ble_eq_true rfl)) dX7_body_1 ⟨Nat.le_of_ble_eq_true rfl, Nat.le_of_ble_eq_true rfl⟩) G rfl (fun H locs G7 => ?_)
  refine lv_iload_n (pc := 4) X.1 X.2.1 dX7_body_4 rfl (lv_at hl 2 rfl) ?_
  refine lv_iconst (pc := 5) (v := 5) X.1 X.2.1 dX7_body_5 (by decide) ?_
  rcases bx_some h6 with ⟨u8, k9, e11, h12⟩ | ⟨u8, v10, e11, h13⟩
  · have h12_i := Option.some.inj h12
    exact X_tv (X_runS (pc := 6) (As := [.int p1, .int 5]) (rest := []) (M' := (celB κ ad r0 b)) (r := (.inl k9 : Nat ⊕ Unit)) X G7 (rm := rm7_requireWhat) rfl rfl (c7_requireWhat l hfl D κ A ad (celB κ ad r0 b) p1 5 (u8, (.inl k9 : Nat ⊕ Unit)) e11) g_X7_169 hs_yX7_requireWhat ⟨Nat.le_of_ble_eq_true rfl, Nat.le_of_ble_eq_true rfl⟩ rfl hl rfl (lv_room (Nat.le_of_ble_eq_true rfl)) dX7_body_6 ⟨Nat.le_of_ble_eq_true rfl, Nat.le_of_ble_eq_true rfl⟩) G7 hout hlk rfl (congrArg Prod.snd h12_i).symm (congrArg (fun q : BS × (Nat ⊕ Int32) => celB κ ad r0 q.1) h12_i) (Nat.le_of_ble_eq_true rfl) (Nat.le_of_ble_eq_true rfl)
  refine X_v (X_runS (pc := 6) (As := [.int p1, .int 5]) (rest := []) (M' := (celB κ ad r0 b)) (r := (.inr v10 : Nat ⊕ Unit)) X G7 (rm := rm7_requireWhat) rfl rfl (c7_requireWhat l hfl D κ A ad (celB κ ad r0 b) p1 5 (u8, (.inr v10 : Nat ⊕ Unit)) e11) g_X7_169 hs_yX7_requireWhat ⟨Nat.le_of_ble_eq_true rfl, Nat.le_of_ble_eq_true rfl⟩ rfl hl rfl (lv_room (Nat.le_of_ble_eq_true rfl)) dX7_body_6 ⟨Nat.le_of_ble_eq_true rfl, Nat.le_of_ble_eq_true rfl⟩) G7 rfl (fun H locs G14 => ?_)
  refine lv_aload_n (pc := 9) X.1 X.2.1 dX7_body_9 rfl (lv_at hl 0 rfl) ?_
  refine B_getc (pc := 10) (i := 50) (k := 0) (j := 70) X G14 rfl clX7 (okL50 _) (by decide) rfl fl_X7_10 dX7_body_10 ?_
  refine lv_iload_n (pc := 13) X.1 X.2.1 dX7_body_13 rfl (lv_at hl 1 rfl) ?_
  obtain ⟨o17, eo17, h15⟩ := bn_some h13
  refine B_callq (pc := 14) (v := o17) (M' := (celB κ ad r0 b)) (i := 70) (As := [.int p0]) (rest := []) X G14 (rm := rm5_definitionOf) rfl rfl rfl (c5_definitionOf l D κ A ad r0 b 70 p0 o17 eo17) (B_rcv (ci := 5) (okL70 _) (by decide)) rfl g_X7_87 hd_yX5_definitionOf ⟨Nat.le_of_ble_eq_true rfl, Nat.le_of_ble_eq_true rfl⟩ rfl hl rfl (lv_room (Nat.le_of_ble_eq_true rfl)) dX7_body_14 ⟨Nat.le_of_ble_eq_true rfl, Nat.le_of_ble_eq_true rfl⟩ (fun H locs G16 => ?_)
  refine lq_astore_n (pc := 17) (lv' := [(3, va_rf (o17.map ad)), (0, .ref (ad 50)), (1, .int p0), (2, .int p1)]) X dX7_body_17 rfl hl (by decide) rfl (fun ls18 hl19 => ?_)
  refine lq_aload_n (pc := 18) X dX7_body_18 rfl (lv_at hl19 0 rfl) ?_
  rcases o17 with _ | t20
  · have h21 := on_n h15
    have hl23 : lv_has ls18 4 [(3, va_rf ((none : Option Nat).map ad)), (0, .ref (ad 50)), (1, .int p0), (2, .int p1)] := hl19
    refine lv_ifnonnullN (pc := 19) X.1 X.2.1 dX7_body_19 ?_
    refine lv_iconst (pc := 22) (v := (-1)) X.1 X.2.1 dX7_body_22 (by decide) ?_
    have h21_i := Option.some.inj h21
    exact X_iret (pc := 23) X G16 hr hlk dX7_body_23 (congrArg Prod.snd h21_i).symm (congrArg (fun q : BS × (Nat ⊕ Int32) => celB κ ad r0 q.1) h21_i) (Nat.le_of_ble_eq_true rfl) (Nat.le_of_ble_eq_true rfl)
  · have h22 := on_s h15
    have hl24 : lv_has ls18 4 [(3, .ref (ad t20)), (0, .ref (ad 50)), (1, .int p0), (2, .int p1)] := hl19
    refine lv_ifnonnull (pc := 19) (tgt := 24) (x := ad t20) X.1 X.2.1 dX7_body_19 (by decide) ?_
    refine lv_iload_n (pc := 24) X.1 X.2.1 dX7_body_24 rfl (lv_at hl24 3 rfl) ?_
    by_cases hc37_0 : p1 = 0
    · have h27 := it_pos h22 hc37_0
      refine lv_tableIn (pc := 25) (tgt := 60) (off := 35) X.1 X.2.1 dX7_body_25 (by rw [hc37_0]; decide) (by rw [hc37_0]; decide) (by rw [hc37_0]; decide +kernel) (by decide) ?_
      refine lv_aload_n (pc := 60) X.1 X.2.1 dX7_body_60 rfl (lv_at hl24 0 rfl) ?_
      obtain ⟨ok38, h39⟩ := ck_some h27
      refine B_getc (pc := 61) (i := t20) (k := 0) (j := t20 + 1) X G16 rfl clX6 ok38 (by decide) rfl fl_X7_137 dX7_body_61 ?_
      refine B_alen (pc := 64) (i := t20 + 1) (n := (lnB b.2.2 (t20 + 1))) X G16 rfl (ok6_arr ok38) rfl dX7_body_64 ?_
      have h39_i := Option.some.inj h39
      exact X_iret (pc := 65) X G16 hr hlk dX7_body_65 (congrArg Prod.snd h39_i).symm (congrArg (fun q : BS × (Nat ⊕ Int32) => celB κ ad r0 q.1) h39_i) (Nat.le_of_ble_eq_true rfl) (Nat.le_of_ble_eq_true rfl)
    · have h28 := it_neg h22 hc37_0
      by_cases hc37_1 : p1 = 1
      · have h29 := it_pos h28 hc37_1
        refine lv_tableIn (pc := 25) (tgt := 66) (off := 41) X.1 X.2.1 dX7_body_25 (by rw [hc37_1]; decide) (by rw [hc37_1]; decide) (by rw [hc37_1]; decide +kernel) (by decide) ?_
        refine lv_aload_n (pc := 66) X.1 X.2.1 dX7_body_66 rfl (lv_at hl24 0 rfl) ?_
        obtain ⟨ok40, h41⟩ := ck_some h29
        refine B_geti (pc := 67) (i := t20) (k := 1) X G16 rfl clX6 ok40 (by decide) rfl rfl fl_X7_76 dX7_body_67 ?_
        have h41_i := Option.some.inj h41
        exact X_iret (pc := 70) X G16 hr hlk dX7_body_70 (congrArg Prod.snd h41_i).symm (congrArg (fun q : BS × (Nat ⊕ Int32) => celB κ ad r0 q.1) h41_i) (Nat.le_of_ble_eq_true rfl) (Nat.le_of_ble_eq_true rfl)
      · have h30 := it_neg h28 hc37_1
        by_cases hc37_2 : p1 = 2
        · have h31 := it_pos h30 hc37_2
          refine lv_tableIn (pc := 25) (tgt := 71) (off := 46) X.1 X.2.1 dX7_body_25 (by rw [hc37_2]; decide) (by rw [hc37_2]; decide) (by rw [hc37_2]; decide +kernel) (by decide) ?_
          refine lv_aload_n (pc := 71) X.1 X.2.1 dX7_body_71 rfl (lv_at hl24 0 rfl) ?_
          obtain ⟨ok42, h43⟩ := ck_some h31
          refine B_geti (pc := 72) (i := t20) (k := 2) X G16 rfl clX6 ok42 (by decide) rfl rfl fl_X7_173 dX7_body_72 ?_
          have h43_i := Option.some.inj h43
          exact X_iret (pc := 75) X G16 hr hlk dX7_body_75 (congrArg Prod.snd h43_i).symm (congrArg (fun q : BS × (Nat ⊕ Int32) => celB κ ad r0 q.1) h43_i) (Nat.le_of_ble_eq_true rfl) (Nat.le_of_ble_eq_true rfl)
        · have h32 := it_neg h30 hc37_2
          by_cases hc37_3 : p1 = 3
          · have h33 := it_pos h32 hc37_3
            refine lv_tableIn (pc := 25) (tgt := 76) (off := 51) X.1 X.2.1 dX7_body_25 (by rw [hc37_3]; decide) (by rw [hc37_3]; decide) (by rw [hc37_3]; decide +kernel) (by decide) ?_
            refine lv_aload_n (pc := 76) X.1 X.2.1 dX7_body_76 rfl (lv_at hl24 0 rfl) ?_
            obtain ⟨ok44, h45⟩ := ck_some h33
            refine B_geti (pc := 77) (i := t20) (k := 3) X G16 rfl clX6 ok44 (by decide) rfl rfl fl_X7_176 dX7_body_77 ?_
            have h45_i := Option.some.inj h45
            exact X_iret (pc := 80) X G16 hr hlk dX7_body_80 (congrArg Prod.snd h45_i).symm (congrArg (fun q : BS × (Nat ⊕ Int32) => celB κ ad r0 q.1) h45_i) (Nat.le_of_ble_eq_true rfl) (Nat.le_of_ble_eq_true rfl)
          · have h34 := it_neg h32 hc37_3
            by_cases hc37_4 : p1 = 4
            · have h35 := it_pos h34 hc37_4
              refine lv_tableIn (pc := 25) (tgt := 81) (off := 56) X.1 X.2.1 dX7_body_25 (by rw [hc37_4]; decide) (by rw [hc37_4]; decide) (by rw [hc37_4]; decide +kernel) (by decide) ?_
              refine lv_aload_n (pc := 81) X.1 X.2.1 dX7_body_81 rfl (lv_at hl24 0 rfl) ?_
              obtain ⟨ok46, h47⟩ := ck_some h35
              refine B_geti (pc := 82) (i := t20) (k := 4) X G16 rfl clX6 ok46 (by decide) rfl rfl fl_X7_179 dX7_body_82 ?_
              have h47_i := Option.some.inj h47
              exact X_iret (pc := 85) X G16 hr hlk dX7_body_85 (congrArg Prod.snd h47_i).symm (congrArg (fun q : BS × (Nat ⊕ Int32) => celB κ ad r0 q.1) h47_i) (Nat.le_of_ble_eq_true rfl) (Nat.le_of_ble_eq_true rfl)
            · have h36 := it_neg h34 hc37_4
              refine lv_tableOut (pc := 25) (tgt := 86) X.1 X.2.1 dX7_body_25 (sw_out (n := 4) (by decide) (fun k hk => ?_)) (by decide) ?_
              · rcases (show k = 0 ∨ k = 1 ∨ k = 2 ∨ k = 3 ∨ k = 4 by omega) with rfl | rfl | rfl | rfl | rfl
                · exact hc37_0
                · exact hc37_1
                · exact hc37_2
                · exact hc37_3
                · exact hc37_4
              · refine lv_aload_n (pc := 86) X.1 X.2.1 dX7_body_86 rfl (lv_at hl24 0 rfl) ?_
                obtain ⟨ok48, h49⟩ := ck_some h36
                refine B_geti (pc := 87) (i := t20) (k := 5) X G16 rfl clX6 ok48 (by decide) rfl rfl fl_X7_182 dX7_body_87 ?_
                have h49_i := Option.some.inj h49
                exact X_iret (pc := 90) X G16 hr hlk dX7_body_90 (congrArg Prod.snd h49_i).symm (congrArg (fun q : BS × (Nat ⊕ Int32) => celB κ ad r0 q.1) h49_i) (Nat.le_of_ble_eq_true rfl) (Nat.le_of_ble_eq_true rfl)
