/-- the good words of the tables: every method's words behind its own code -/
def G0 : List Cond := lw_tbl.filter goodWord
theorem gq {w : Cond} (h : w ∈ lw_tbl) (g : goodWord w = true) : w ∈ G0 := List.mem_filter.mpr ⟨h, g⟩
theorem g0_good {w : Cond} (h : w ∈ G0) : goodWord w = true := (List.mem_filter.mp h).2
theorem g0_tbl {w : Cond} (h : w ∈ G0) : w ∈ lw_tbl := (List.mem_filter.mp h).1
def gw (y : MethodName) (b : ByteArray) (n : Nat) (r : Option FieldType) : List Cond := .code y b n r :: G0
theorem g0_in {w : Cond} (h : w ∈ G0) : w ∈ G0 ∧ ((w.onTables && w.keeps) = true ∨ ∃ ty, w = .arrayClass ty) := ⟨h, good_of_word (g0_good h)⟩
theorem gw_in {y : MethodName} {b : ByteArray} {n : Nat} {r : Option FieldType} (h : Cond.code y b n r ∈ G0) : GoodIn G0 (gw y b n r) := fun w hw => (List.mem_cons.mp hw).elim (fun e => by rw [e]; exact g0_in h) (fun q => g0_in q)
theorem gv_in {own C : String} {ix : Nat} {y : MethodName} {b : ByteArray} {n : Nat} {r : Option FieldType} (h1 : Cond.methodLink own ix y ∈ G0) (h2 : Cond.instanceMethod y ∈ G0) (h3 : Cond.selects C y y ∈ G0) (h4 : Cond.initialized C ∈ G0) (h5 : Cond.code y b n r ∈ G0) : GoodIn G0 (wsV own ix C y (gw y b n r)) := fun w hw => by
  rcases List.mem_append.mp hw with q | q
  · simp only [List.mem_cons, List.not_mem_nil, or_false] at q
    rcases q with rfl | rfl | rfl | rfl
    · exact g0_in h1
    · exact g0_in h2
    · exact g0_in h3
    · exact g0_in h4
  · exact gw_in h5 w q
theorem gs_in {own : String} {ix : Nat} {y : MethodName} {b : ByteArray} {n : Nat} {r : Option FieldType} (h1 : Cond.methodLink own ix y ∈ G0) (h2 : Cond.static y ∈ G0) (h4 : Cond.initialized own ∈ G0) (h5 : Cond.code y b n r ∈ G0) : GoodIn G0 (wsS own ix y (gw y b n r)) := fun w hw => by
  rcases List.mem_append.mp hw with q | q
  · simp only [List.mem_cons, List.not_mem_nil, or_false] at q
    rcases q with rfl | rfl | rfl
    · exact g0_in h1
    · exact g0_in h2
    · exact g0_in h4
  · exact gw_in h5 w q
theorem gsS_in {own : String} {ix : Nat} {y : MethodName} {b : ByteArray} {n : Nat} {r : Option FieldType} (h1 : Cond.methodLink own ix y ∈ G0) (h2 : Cond.static y ∈ G0) (h4 : Cond.initialized y.cls ∈ G0) (h5 : Cond.code y b n r ∈ G0) : GoodIn G0 (va_wsS own ix y (gw y b n r)) := fun w hw => by
  rcases List.mem_append.mp hw with q | q
  · simp only [List.mem_cons, List.not_mem_nil, or_false] at q
    rcases q with rfl | rfl | rfl
    · exact g0_in h1
    · exact g0_in h2
    · exact g0_in h4
  · exact gw_in h5 w q
theorem se_yX4_startOver : Cond.selects RX4 yX4_startOver yX4_startOver ∈ G0 := gq (List.mem_of_getElem? (i := 0) (by decide +kernel)) rfl
theorem se_yX4_accepts : Cond.selects RX4 yX4_accepts yX4_accepts ∈ G0 := gq (List.mem_of_getElem? (i := 1) (by decide +kernel)) rfl
theorem se_yX4_noteCall : Cond.selects RX4 yX4_noteCall yX4_noteCall ∈ G0 := gq (List.mem_of_getElem? (i := 2) (by decide +kernel)) rfl
theorem se_yX4_opensCall : Cond.selects RX4 yX4_opensCall yX4_opensCall ∈ G0 := gq (List.mem_of_getElem? (i := 3) (by decide +kernel)) rfl
theorem se_yX4_addsArgument : Cond.selects RX4 yX4_addsArgument yX4_addsArgument ∈ G0 := gq (List.mem_of_getElem? (i := 4) (by decide +kernel)) rfl
theorem se_yX4_closesCall : Cond.selects RX4 yX4_closesCall yX4_closesCall ∈ G0 := gq (List.mem_of_getElem? (i := 5) (by decide +kernel)) rfl
theorem se_yX7_requireDefinition : Cond.selects RX7 yX7_requireDefinition yX7_requireDefinition ∈ G0 := gq (List.mem_of_getElem? (i := 7) (by decide +kernel)) rfl
theorem se_yX7_requireCompleteText : Cond.selects RX7 yX7_requireCompleteText yX7_requireCompleteText ∈ G0 := gq (List.mem_of_getElem? (i := 8) (by decide +kernel)) rfl
theorem se_yX7_copyOfBuffer : Cond.selects RX7 yX7_copyOfBuffer yX7_copyOfBuffer ∈ G0 := gq (List.mem_of_getElem? (i := 9) (by decide +kernel)) rfl
theorem se_yX1_startOver : Cond.selects RX1 yX1_startOver yX1_startOver ∈ G0 := gq (List.mem_of_getElem? (i := 10) (by decide +kernel)) rfl
theorem se_yX1_setMark : Cond.selects RX1 yX1_setMark yX1_setMark ∈ G0 := gq (List.mem_of_getElem? (i := 11) (by decide +kernel)) rfl
theorem se_yX1_writeText : Cond.selects RX1 yX1_writeText yX1_writeText ∈ G0 := gq (List.mem_of_getElem? (i := 12) (by decide +kernel)) rfl
theorem se_yX1_fillHole : Cond.selects RX1 yX1_fillHole yX1_fillHole ∈ G0 := gq (List.mem_of_getElem? (i := 13) (by decide +kernel)) rfl
theorem se_yX1_writeSign : Cond.selects RX1 yX1_writeSign yX1_writeSign ∈ G0 := gq (List.mem_of_getElem? (i := 14) (by decide +kernel)) rfl
theorem se_yX1_takesMore : Cond.selects RX1 yX1_takesMore yX1_takesMore ∈ G0 := gq (List.mem_of_getElem? (i := 15) (by decide +kernel)) rfl
theorem se_yX1_markAt : Cond.selects RX1 yX1_markAt yX1_markAt ∈ G0 := gq (List.mem_of_getElem? (i := 16) (by decide +kernel)) rfl
theorem se_yX1_writeCopy : Cond.selects RX1 yX1_writeCopy yX1_writeCopy ∈ G0 := gq (List.mem_of_getElem? (i := 17) (by decide +kernel)) rfl
theorem se_yX1_moveSigns : Cond.selects RX1 yX1_moveSigns yX1_moveSigns ∈ G0 := gq (List.mem_of_getElem? (i := 18) (by decide +kernel)) rfl
theorem se_yX1_letCallWait : Cond.selects RX1 yX1_letCallWait yX1_letCallWait ∈ G0 := gq (List.mem_of_getElem? (i := 19) (by decide +kernel)) rfl
theorem se_yX1_finishCall : Cond.selects RX1 yX1_finishCall yX1_finishCall ∈ G0 := gq (List.mem_of_getElem? (i := 20) (by decide +kernel)) rfl
theorem se_yX1_endingOf : Cond.selects RX1 yX1_endingOf yX1_endingOf ∈ G0 := gq (List.mem_of_getElem? (i := 21) (by decide +kernel)) rfl
theorem se_yX1_writeBody : Cond.selects RX1 yX1_writeBody yX1_writeBody ∈ G0 := gq (List.mem_of_getElem? (i := 22) (by decide +kernel)) rfl
theorem se_yX1_listCall : Cond.selects RX1 yX1_listCall yX1_listCall ∈ G0 := gq (List.mem_of_getElem? (i := 23) (by decide +kernel)) rfl
theorem se_yX0_followCalls : Cond.selects RX0 yX0_followCalls yX0_followCalls ∈ G0 := gq (List.mem_of_getElem? (i := 24) (by decide +kernel)) rfl
theorem se_yX0_calledInBodiesOf : Cond.selects RX0 yX0_calledInBodiesOf yX0_calledInBodiesOf ∈ G0 := gq (List.mem_of_getElem? (i := 25) (by decide +kernel)) rfl
theorem ini_L : Cond.initialized RL ∈ G0 := gq (List.mem_of_getElem? (i := 26) (by decide +kernel)) rfl
theorem ini_X7 : Cond.initialized RX7 ∈ G0 := gq (List.mem_of_getElem? (i := 27) (by decide +kernel)) rfl
theorem ini_X5 : Cond.initialized RX5 ∈ G0 := gq (List.mem_of_getElem? (i := 28) (by decide +kernel)) rfl
theorem ini_X3 : Cond.initialized RX3 ∈ G0 := gq (List.mem_of_getElem? (i := 29) (by decide +kernel)) rfl
theorem ini_X2 : Cond.initialized RX2 ∈ G0 := gq (List.mem_of_getElem? (i := 30) (by decide +kernel)) rfl
theorem ini_X4 : Cond.initialized RX4 ∈ G0 := gq (List.mem_of_getElem? (i := 31) (by decide +kernel)) rfl
theorem ini_X0 : Cond.initialized RX0 ∈ G0 := gq (List.mem_of_getElem? (i := 32) (by decide +kernel)) rfl
theorem ini_X1 : Cond.initialized RX1 ∈ G0 := gq (List.mem_of_getElem? (i := 33) (by decide +kernel)) rfl
theorem ini_J6 : Cond.initialized RJ6 ∈ G0 := gq (List.mem_of_getElem? (i := 39) (by decide +kernel)) rfl
theorem ini_J9 : Cond.initialized RJ9 ∈ G0 := gq (List.mem_of_getElem? (i := 40) (by decide +kernel)) rfl
theorem ini_X6 : Cond.initialized RX6 ∈ G0 := gq (List.mem_of_getElem? (i := 42) (by decide +kernel)) rfl
theorem ini_J7 : Cond.initialized RJ7 ∈ G0 := gq (List.mem_of_getElem? (i := 43) (by decide +kernel)) rfl
theorem ini_J10 : Cond.initialized RJ10 ∈ G0 := gq (List.mem_of_getElem? (i := 44) (by decide +kernel)) rfl
theorem cl_L_10 : Cond.classLink RL 10 RX7 ∈ G0 := gq (List.mem_of_getElem? (i := 45) (by decide +kernel)) rfl
theorem ins_X7 : Cond.instantiable RX7 7 ∈ G0 := gq (List.mem_of_getElem? (i := 46) (by decide +kernel)) rfl
theorem ml_L_136 : Cond.methodLink RL 136 yX7_init ∈ G0 := gq (List.mem_of_getElem? (i := 47) (by decide +kernel)) rfl
theorem im_yX7_init : Cond.instanceMethod yX7_init ∈ G0 := gq (List.mem_of_getElem? (i := 48) (by decide +kernel)) rfl
theorem cd_yX7_init : Cond.code yX7_init cX7_init 1 none ∈ G0 := gq (List.mem_of_getElem? (i := 49) (by decide +kernel)) rfl
theorem ml_X7_1 : Cond.methodLink RX7 1 objectInit ∈ G0 := gq (List.mem_of_getElem? (i := 50) (by decide +kernel)) rfl
theorem im_oi : Cond.instanceMethod objectInit ∈ G0 := gq (List.mem_of_getElem? (i := 51) (by decide +kernel)) rfl
theorem cd_oi : Cond.code objectInit ⟨#[0xb1]⟩ 1 none ∈ G0 := gq (List.mem_of_getElem? (i := 52) (by decide +kernel)) rfl
theorem cl_X7_7 : Cond.classLink RX7 7 RX5 ∈ G0 := gq (List.mem_of_getElem? (i := 53) (by decide +kernel)) rfl
theorem ins_X5 : Cond.instantiable RX5 5 ∈ G0 := gq (List.mem_of_getElem? (i := 54) (by decide +kernel)) rfl
theorem im_yX5_init : Cond.instanceMethod yX5_init ∈ G0 := gq (List.mem_of_getElem? (i := 56) (by decide +kernel)) rfl
theorem cd_yX5_init : Cond.code yX5_init cX5_init 1 none ∈ G0 := gq (List.mem_of_getElem? (i := 57) (by decide +kernel)) rfl
theorem ml_X5_3 : Cond.methodLink RX5 3 objectInit ∈ G0 := gq (List.mem_of_getElem? (i := 58) (by decide +kernel)) rfl
theorem cl_X5_9 : Cond.classLink RX5 9 RX6 ∈ G0 := gq (List.mem_of_getElem? (i := 59) (by decide +kernel)) rfl
theorem cl_X5_17 : Cond.classLink RX5 17 RX3 ∈ G0 := gq (List.mem_of_getElem? (i := 61) (by decide +kernel)) rfl
theorem ins_X3 : Cond.instantiable RX3 4 ∈ G0 := gq (List.mem_of_getElem? (i := 62) (by decide +kernel)) rfl
theorem ml_X5_19 : Cond.methodLink RX5 19 yX3_init ∈ G0 := gq (List.mem_of_getElem? (i := 63) (by decide +kernel)) rfl
theorem im_yX3_init : Cond.instanceMethod yX3_init ∈ G0 := gq (List.mem_of_getElem? (i := 64) (by decide +kernel)) rfl
theorem cd_yX3_init : Cond.code yX3_init cX3_init 5 none ∈ G0 := gq (List.mem_of_getElem? (i := 65) (by decide +kernel)) rfl
theorem ml_X3_3 : Cond.methodLink RX3 3 objectInit ∈ G0 := gq (List.mem_of_getElem? (i := 66) (by decide +kernel)) rfl
theorem fl_X3_9 : Cond.fieldLink RX3 9 RX3 (TX3 0).2.1 (TX3 0).2.2.1 ∈ G0 := gq (List.mem_of_getElem? (i := 67) (by decide +kernel)) rfl
theorem fl_X7_118 : Cond.fieldLink RX7 118 RX3 (TX3 0).2.1 (TX3 0).2.2.1 ∈ G0 := gq (List.mem_of_getElem? (i := 68) (by decide +kernel)) rfl
theorem fl_X3_18 : Cond.fieldLink RX3 18 RX3 (TX3 1).2.1 (TX3 1).2.2.1 ∈ G0 := gq (List.mem_of_getElem? (i := 69) (by decide +kernel)) rfl
theorem fl_X7_221 : Cond.fieldLink RX7 221 RX3 (TX3 1).2.1 (TX3 1).2.2.1 ∈ G0 := gq (List.mem_of_getElem? (i := 70) (by decide +kernel)) rfl
theorem fl_X3_22 : Cond.fieldLink RX3 22 RX3 (TX3 2).2.1 (TX3 2).2.2.1 ∈ G0 := gq (List.mem_of_getElem? (i := 71) (by decide +kernel)) rfl
theorem fl_X7_224 : Cond.fieldLink RX7 224 RX3 (TX3 2).2.1 (TX3 2).2.2.1 ∈ G0 := gq (List.mem_of_getElem? (i := 72) (by decide +kernel)) rfl
theorem fl_X3_15 : Cond.fieldLink RX3 15 RX3 (TX3 3).2.1 (TX3 3).2.2.1 ∈ G0 := gq (List.mem_of_getElem? (i := 73) (by decide +kernel)) rfl
theorem fl_X5_11 : Cond.fieldLink RX5 11 RX5 (TX5 0).2.1 (TX5 0).2.2.1 ∈ G0 := gq (List.mem_of_getElem? (i := 84) (by decide +kernel)) rfl
theorem fl_X5_22 : Cond.fieldLink RX5 22 RX5 (TX5 1).2.1 (TX5 1).2.2.1 ∈ G0 := gq (List.mem_of_getElem? (i := 85) (by decide +kernel)) rfl
theorem fl_X7_111 : Cond.fieldLink RX7 111 RX5 (TX5 1).2.1 (TX5 1).2.2.1 ∈ G0 := gq (List.mem_of_getElem? (i := 86) (by decide +kernel)) rfl
theorem fl_X5_26 : Cond.fieldLink RX5 26 RX5 (TX5 2).2.1 (TX5 2).2.2.1 ∈ G0 := gq (List.mem_of_getElem? (i := 87) (by decide +kernel)) rfl
theorem fl_X7_97 : Cond.fieldLink RX7 97 RX5 (TX5 2).2.1 (TX5 2).2.2.1 ∈ G0 := gq (List.mem_of_getElem? (i := 88) (by decide +kernel)) rfl
theorem fl_X1_142 : Cond.fieldLink RX1 142 RX5 (TX5 2).2.1 (TX5 2).2.2.1 ∈ G0 := gq (List.mem_of_getElem? (i := 89) (by decide +kernel)) rfl
theorem fl_X5_30 : Cond.fieldLink RX5 30 RX5 (TX5 3).2.1 (TX5 3).2.2.1 ∈ G0 := gq (List.mem_of_getElem? (i := 90) (by decide +kernel)) rfl
theorem fl_X7_115 : Cond.fieldLink RX7 115 RX5 (TX5 3).2.1 (TX5 3).2.2.1 ∈ G0 := gq (List.mem_of_getElem? (i := 91) (by decide +kernel)) rfl
theorem fl_X5_33 : Cond.fieldLink RX5 33 RX5 (TX5 4).2.1 (TX5 4).2.2.1 ∈ G0 := gq (List.mem_of_getElem? (i := 92) (by decide +kernel)) rfl
theorem fl_X7_104 : Cond.fieldLink RX7 104 RX5 (TX5 4).2.1 (TX5 4).2.2.1 ∈ G0 := gq (List.mem_of_getElem? (i := 93) (by decide +kernel)) rfl
theorem cl_X7_16 : Cond.classLink RX7 16 RX2 ∈ G0 := gq (List.mem_of_getElem? (i := 105) (by decide +kernel)) rfl
theorem ins_X2 : Cond.instantiable RX2 4 ∈ G0 := gq (List.mem_of_getElem? (i := 106) (by decide +kernel)) rfl
theorem im_yX2_init : Cond.instanceMethod yX2_init ∈ G0 := gq (List.mem_of_getElem? (i := 108) (by decide +kernel)) rfl
theorem cd_yX2_init : Cond.code yX2_init cX2_init 1 none ∈ G0 := gq (List.mem_of_getElem? (i := 109) (by decide +kernel)) rfl
theorem ml_X2_3 : Cond.methodLink RX2 3 objectInit ∈ G0 := gq (List.mem_of_getElem? (i := 110) (by decide +kernel)) rfl
theorem cl_X2_9 : Cond.classLink RX2 9 RX5 ∈ G0 := gq (List.mem_of_getElem? (i := 111) (by decide +kernel)) rfl
theorem fl_X2_11 : Cond.fieldLink RX2 11 RX2 (TX2 0).2.1 (TX2 0).2.2.1 ∈ G0 := gq (List.mem_of_getElem? (i := 113) (by decide +kernel)) rfl
theorem fl_X2_17 : Cond.fieldLink RX2 17 RX2 (TX2 1).2.1 (TX2 1).2.2.1 ∈ G0 := gq (List.mem_of_getElem? (i := 114) (by decide +kernel)) rfl
theorem fl_X2_20 : Cond.fieldLink RX2 20 RX2 (TX2 2).2.1 (TX2 2).2.2.1 ∈ G0 := gq (List.mem_of_getElem? (i := 115) (by decide +kernel)) rfl
theorem fl_X2_24 : Cond.fieldLink RX2 24 RX2 (TX2 3).2.1 (TX2 3).2.2.1 ∈ G0 := gq (List.mem_of_getElem? (i := 116) (by decide +kernel)) rfl
theorem fl_X7_150 : Cond.fieldLink RX7 150 RX2 (TX2 3).2.1 (TX2 3).2.2.1 ∈ G0 := gq (List.mem_of_getElem? (i := 117) (by decide +kernel)) rfl
theorem cl_X7_27 : Cond.classLink RX7 27 RX4 ∈ G0 := gq (List.mem_of_getElem? (i := 127) (by decide +kernel)) rfl
theorem ins_X4 : Cond.instantiable RX4 10 ∈ G0 := gq (List.mem_of_getElem? (i := 128) (by decide +kernel)) rfl
theorem im_yX4_init : Cond.instanceMethod yX4_init ∈ G0 := gq (List.mem_of_getElem? (i := 130) (by decide +kernel)) rfl
theorem cd_yX4_init : Cond.code yX4_init cX4_init 1 none ∈ G0 := gq (List.mem_of_getElem? (i := 131) (by decide +kernel)) rfl
theorem ml_X4_3 : Cond.methodLink RX4 3 objectInit ∈ G0 := gq (List.mem_of_getElem? (i := 132) (by decide +kernel)) rfl
theorem fl_X4_9 : Cond.fieldLink RX4 9 RX4 (TX4 0).2.1 (TX4 0).2.2.1 ∈ G0 := gq (List.mem_of_getElem? (i := 133) (by decide +kernel)) rfl
theorem fl_X4_15 : Cond.fieldLink RX4 15 RX4 (TX4 1).2.1 (TX4 1).2.2.1 ∈ G0 := gq (List.mem_of_getElem? (i := 134) (by decide +kernel)) rfl
theorem fl_X4_19 : Cond.fieldLink RX4 19 RX4 (TX4 2).2.1 (TX4 2).2.2.1 ∈ G0 := gq (List.mem_of_getElem? (i := 135) (by decide +kernel)) rfl
theorem fl_X4_22 : Cond.fieldLink RX4 22 RX4 (TX4 3).2.1 (TX4 3).2.2.1 ∈ G0 := gq (List.mem_of_getElem? (i := 136) (by decide +kernel)) rfl
theorem fl_X7_134 : Cond.fieldLink RX7 134 RX4 (TX4 3).2.1 (TX4 3).2.2.1 ∈ G0 := gq (List.mem_of_getElem? (i := 137) (by decide +kernel)) rfl
theorem fl_X6_13 : Cond.fieldLink RX6 13 RX4 (TX4 4).2.1 (TX4 4).2.2.1 ∈ G0 := gq (List.mem_of_getElem? (i := 138) (by decide +kernel)) rfl
theorem fl_X4_25 : Cond.fieldLink RX4 25 RX4 (TX4 4).2.1 (TX4 4).2.2.1 ∈ G0 := gq (List.mem_of_getElem? (i := 139) (by decide +kernel)) rfl
theorem fl_X6_20 : Cond.fieldLink RX6 20 RX4 (TX4 5).2.1 (TX4 5).2.2.1 ∈ G0 := gq (List.mem_of_getElem? (i := 140) (by decide +kernel)) rfl
theorem fl_X4_28 : Cond.fieldLink RX4 28 RX4 (TX4 5).2.1 (TX4 5).2.2.1 ∈ G0 := gq (List.mem_of_getElem? (i := 141) (by decide +kernel)) rfl
theorem fl_X6_24 : Cond.fieldLink RX6 24 RX4 (TX4 6).2.1 (TX4 6).2.2.1 ∈ G0 := gq (List.mem_of_getElem? (i := 142) (by decide +kernel)) rfl
theorem fl_X4_31 : Cond.fieldLink RX4 31 RX4 (TX4 6).2.1 (TX4 6).2.2.1 ∈ G0 := gq (List.mem_of_getElem? (i := 143) (by decide +kernel)) rfl
theorem fl_X6_28 : Cond.fieldLink RX6 28 RX4 (TX4 7).2.1 (TX4 7).2.2.1 ∈ G0 := gq (List.mem_of_getElem? (i := 144) (by decide +kernel)) rfl
theorem fl_X4_34 : Cond.fieldLink RX4 34 RX4 (TX4 7).2.1 (TX4 7).2.2.1 ∈ G0 := gq (List.mem_of_getElem? (i := 145) (by decide +kernel)) rfl
theorem fl_X6_32 : Cond.fieldLink RX6 32 RX4 (TX4 8).2.1 (TX4 8).2.2.1 ∈ G0 := gq (List.mem_of_getElem? (i := 146) (by decide +kernel)) rfl
theorem fl_X4_37 : Cond.fieldLink RX4 37 RX4 (TX4 8).2.1 (TX4 8).2.2.1 ∈ G0 := gq (List.mem_of_getElem? (i := 147) (by decide +kernel)) rfl
theorem fl_X6_36 : Cond.fieldLink RX6 36 RX4 (TX4 9).2.1 (TX4 9).2.2.1 ∈ G0 := gq (List.mem_of_getElem? (i := 148) (by decide +kernel)) rfl
theorem fl_X4_40 : Cond.fieldLink RX4 40 RX4 (TX4 9).2.1 (TX4 9).2.2.1 ∈ G0 := gq (List.mem_of_getElem? (i := 149) (by decide +kernel)) rfl
theorem fl_X7_210 : Cond.fieldLink RX7 210 RX4 (TX4 9).2.1 (TX4 9).2.2.1 ∈ G0 := gq (List.mem_of_getElem? (i := 150) (by decide +kernel)) rfl
theorem cl_X7_34 : Cond.classLink RX7 34 RX0 ∈ G0 := gq (List.mem_of_getElem? (i := 172) (by decide +kernel)) rfl
theorem ins_X0 : Cond.instantiable RX0 3 ∈ G0 := gq (List.mem_of_getElem? (i := 173) (by decide +kernel)) rfl
theorem im_yX0_init : Cond.instanceMethod yX0_init ∈ G0 := gq (List.mem_of_getElem? (i := 175) (by decide +kernel)) rfl
theorem cd_yX0_init : Cond.code yX0_init cX0_init 1 none ∈ G0 := gq (List.mem_of_getElem? (i := 176) (by decide +kernel)) rfl
theorem ml_X0_3 : Cond.methodLink RX0 3 objectInit ∈ G0 := gq (List.mem_of_getElem? (i := 177) (by decide +kernel)) rfl
theorem fl_X0_9 : Cond.fieldLink RX0 9 RX0 (TX0 0).2.1 (TX0 0).2.2.1 ∈ G0 := gq (List.mem_of_getElem? (i := 178) (by decide +kernel)) rfl
theorem fl_X0_15 : Cond.fieldLink RX0 15 RX0 (TX0 1).2.1 (TX0 1).2.2.1 ∈ G0 := gq (List.mem_of_getElem? (i := 179) (by decide +kernel)) rfl
theorem fl_X0_18 : Cond.fieldLink RX0 18 RX0 (TX0 2).2.1 (TX0 2).2.2.1 ∈ G0 := gq (List.mem_of_getElem? (i := 180) (by decide +kernel)) rfl
theorem cl_X7_41 : Cond.classLink RX7 41 RX1 ∈ G0 := gq (List.mem_of_getElem? (i := 188) (by decide +kernel)) rfl
theorem ins_X1 : Cond.instantiable RX1 14 ∈ G0 := gq (List.mem_of_getElem? (i := 189) (by decide +kernel)) rfl
theorem im_yX1_init : Cond.instanceMethod yX1_init ∈ G0 := gq (List.mem_of_getElem? (i := 191) (by decide +kernel)) rfl
theorem cd_yX1_init : Cond.code yX1_init cX1_init 1 none ∈ G0 := gq (List.mem_of_getElem? (i := 192) (by decide +kernel)) rfl
theorem ml_X1_5 : Cond.methodLink RX1 5 objectInit ∈ G0 := gq (List.mem_of_getElem? (i := 193) (by decide +kernel)) rfl
theorem fl_X1_11 : Cond.fieldLink RX1 11 RX1 (TX1 0).2.1 (TX1 0).2.2.1 ∈ G0 := gq (List.mem_of_getElem? (i := 194) (by decide +kernel)) rfl
theorem fl_X1_15 : Cond.fieldLink RX1 15 RX1 (TX1 1).2.1 (TX1 1).2.2.1 ∈ G0 := gq (List.mem_of_getElem? (i := 195) (by decide +kernel)) rfl
theorem fl_X1_18 : Cond.fieldLink RX1 18 RX1 (TX1 2).2.1 (TX1 2).2.2.1 ∈ G0 := gq (List.mem_of_getElem? (i := 196) (by decide +kernel)) rfl
theorem fl_X1_21 : Cond.fieldLink RX1 21 RX1 (TX1 3).2.1 (TX1 3).2.2.1 ∈ G0 := gq (List.mem_of_getElem? (i := 197) (by decide +kernel)) rfl
theorem fl_X1_24 : Cond.fieldLink RX1 24 RX1 (TX1 4).2.1 (TX1 4).2.2.1 ∈ G0 := gq (List.mem_of_getElem? (i := 198) (by decide +kernel)) rfl
theorem fl_X1_27 : Cond.fieldLink RX1 27 RX1 (TX1 5).2.1 (TX1 5).2.2.1 ∈ G0 := gq (List.mem_of_getElem? (i := 199) (by decide +kernel)) rfl
theorem fl_X1_31 : Cond.fieldLink RX1 31 RX1 (TX1 6).2.1 (TX1 6).2.2.1 ∈ G0 := gq (List.mem_of_getElem? (i := 200) (by decide +kernel)) rfl
theorem fl_X1_34 : Cond.fieldLink RX1 34 RX1 (TX1 7).2.1 (TX1 7).2.2.1 ∈ G0 := gq (List.mem_of_getElem? (i := 201) (by decide +kernel)) rfl
theorem fl_X1_37 : Cond.fieldLink RX1 37 RX1 (TX1 8).2.1 (TX1 8).2.2.1 ∈ G0 := gq (List.mem_of_getElem? (i := 202) (by decide +kernel)) rfl
theorem fl_X1_40 : Cond.fieldLink RX1 40 RX1 (TX1 9).2.1 (TX1 9).2.2.1 ∈ G0 := gq (List.mem_of_getElem? (i := 203) (by decide +kernel)) rfl
theorem fl_X1_43 : Cond.fieldLink RX1 43 RX1 (TX1 10).2.1 (TX1 10).2.2.1 ∈ G0 := gq (List.mem_of_getElem? (i := 204) (by decide +kernel)) rfl
theorem fl_X1_46 : Cond.fieldLink RX1 46 RX1 (TX1 11).2.1 (TX1 11).2.2.1 ∈ G0 := gq (List.mem_of_getElem? (i := 205) (by decide +kernel)) rfl
theorem fl_X1_49 : Cond.fieldLink RX1 49 RX1 (TX1 12).2.1 (TX1 12).2.2.1 ∈ G0 := gq (List.mem_of_getElem? (i := 206) (by decide +kernel)) rfl
theorem fl_X1_53 : Cond.fieldLink RX1 53 RX1 (TX1 13).2.1 (TX1 13).2.2.1 ∈ G0 := gq (List.mem_of_getElem? (i := 207) (by decide +kernel)) rfl
theorem fl_X7_10 : Cond.fieldLink RX7 10 RX7 (TX7 0).2.1 (TX7 0).2.2.1 ∈ G0 := gq (List.mem_of_getElem? (i := 237) (by decide +kernel)) rfl
theorem fl_X7_19 : Cond.fieldLink RX7 19 RX7 (TX7 1).2.1 (TX7 1).2.2.1 ∈ G0 := gq (List.mem_of_getElem? (i := 238) (by decide +kernel)) rfl
theorem fl_X7_23 : Cond.fieldLink RX7 23 RX7 (TX7 2).2.1 (TX7 2).2.2.1 ∈ G0 := gq (List.mem_of_getElem? (i := 239) (by decide +kernel)) rfl
theorem fl_X7_30 : Cond.fieldLink RX7 30 RX7 (TX7 3).2.1 (TX7 3).2.2.1 ∈ G0 := gq (List.mem_of_getElem? (i := 240) (by decide +kernel)) rfl
theorem fl_X7_37 : Cond.fieldLink RX7 37 RX7 (TX7 4).2.1 (TX7 4).2.2.1 ∈ G0 := gq (List.mem_of_getElem? (i := 241) (by decide +kernel)) rfl
theorem fl_X7_44 : Cond.fieldLink RX7 44 RX7 (TX7 5).2.1 (TX7 5).2.2.1 ∈ G0 := gq (List.mem_of_getElem? (i := 242) (by decide +kernel)) rfl
theorem fl_X7_48 : Cond.fieldLink RX7 48 RX7 (TX7 6).2.1 (TX7 6).2.2.1 ∈ G0 := gq (List.mem_of_getElem? (i := 243) (by decide +kernel)) rfl
theorem ml_L_137 : Cond.methodLink RL 137 yX7_firstError ∈ G0 := gq (List.mem_of_getElem? (i := 259) (by decide +kernel)) rfl
theorem im_yX7_firstError : Cond.instanceMethod yX7_firstError ∈ G0 := gq (List.mem_of_getElem? (i := 260) (by decide +kernel)) rfl
theorem se_yX7_firstError : Cond.selects RX7 yX7_firstError yX7_firstError ∈ G0 := gq (List.mem_of_getElem? (i := 261) (by decide +kernel)) rfl
theorem cd_yX7_firstError : Cond.code yX7_firstError cX7_firstError 1 (some (FieldType.int)) ∈ G0 := gq (List.mem_of_getElem? (i := 262) (by decide +kernel)) rfl
theorem ml_X7_130 : Cond.methodLink RX7 130 yX4_readText ∈ G0 := gq (List.mem_of_getElem? (i := 263) (by decide +kernel)) rfl
theorem im_yX4_readText : Cond.instanceMethod yX4_readText ∈ G0 := gq (List.mem_of_getElem? (i := 264) (by decide +kernel)) rfl
theorem se_yX4_readText : Cond.selects RX4 yX4_readText yX4_readText ∈ G0 := gq (List.mem_of_getElem? (i := 265) (by decide +kernel)) rfl
theorem cd_yX4_readText : Cond.code yX4_readText cX4_readText 5 none ∈ G0 := gq (List.mem_of_getElem? (i := 266) (by decide +kernel)) rfl
theorem ml_X4_43 : Cond.methodLink RX4 43 yX4_startOver ∈ G0 := gq (List.mem_of_getElem? (i := 267) (by decide +kernel)) rfl
theorem im_yX4_startOver : Cond.instanceMethod yX4_startOver ∈ G0 := gq (List.mem_of_getElem? (i := 269) (by decide +kernel)) rfl
theorem cd_yX4_startOver : Cond.code yX4_startOver cX4_startOver 2 none ∈ G0 := gq (List.mem_of_getElem? (i := 270) (by decide +kernel)) rfl
theorem ml_X4_47 : Cond.methodLink RX4 47 yX4_accepts ∈ G0 := gq (List.mem_of_getElem? (i := 271) (by decide +kernel)) rfl
theorem im_yX4_accepts : Cond.instanceMethod yX4_accepts ∈ G0 := gq (List.mem_of_getElem? (i := 273) (by decide +kernel)) rfl
theorem cd_yX4_accepts : Cond.code yX4_accepts cX4_accepts 3 (some (FieldType.boolean)) ∈ G0 := gq (List.mem_of_getElem? (i := 274) (by decide +kernel)) rfl
theorem sm_yX7_isAbbreviation : Cond.static yX7_isAbbreviation ∈ G0 := gq (List.mem_of_getElem? (i := 276) (by decide +kernel)) rfl
theorem cd_yX7_isAbbreviation : Cond.code yX7_isAbbreviation cX7_isAbbreviation 1 (some (FieldType.boolean)) ∈ G0 := gq (List.mem_of_getElem? (i := 277) (by decide +kernel)) rfl
theorem ml_X4_55 : Cond.methodLink RX4 55 yX4_noteCall ∈ G0 := gq (List.mem_of_getElem? (i := 278) (by decide +kernel)) rfl
theorem im_yX4_noteCall : Cond.instanceMethod yX4_noteCall ∈ G0 := gq (List.mem_of_getElem? (i := 280) (by decide +kernel)) rfl
theorem cd_yX4_noteCall : Cond.code yX4_noteCall cX4_noteCall 2 none ∈ G0 := gq (List.mem_of_getElem? (i := 281) (by decide +kernel)) rfl
theorem ml_X4_68 : Cond.methodLink RX4 68 yJ9_max_7cf53 ∈ G0 := gq (List.mem_of_getElem? (i := 282) (by decide +kernel)) rfl
theorem sm_yJ9_max_7cf53 : Cond.static yJ9_max_7cf53 ∈ G0 := gq (List.mem_of_getElem? (i := 283) (by decide +kernel)) rfl
theorem cd_yJ9_max_7cf53 : Cond.code yJ9_max_7cf53 cJ9_max_7cf53 2 (some (FieldType.int)) ∈ G0 := gq (List.mem_of_getElem? (i := 284) (by decide +kernel)) rfl
theorem ml_X4_58 : Cond.methodLink RX4 58 yX4_opensCall ∈ G0 := gq (List.mem_of_getElem? (i := 285) (by decide +kernel)) rfl
theorem im_yX4_opensCall : Cond.instanceMethod yX4_opensCall ∈ G0 := gq (List.mem_of_getElem? (i := 287) (by decide +kernel)) rfl
theorem cd_yX4_opensCall : Cond.code yX4_opensCall cX4_opensCall 1 (some (FieldType.boolean)) ∈ G0 := gq (List.mem_of_getElem? (i := 288) (by decide +kernel)) rfl
theorem ml_X4_62 : Cond.methodLink RX4 62 yX4_addsArgument ∈ G0 := gq (List.mem_of_getElem? (i := 289) (by decide +kernel)) rfl
theorem im_yX4_addsArgument : Cond.instanceMethod yX4_addsArgument ∈ G0 := gq (List.mem_of_getElem? (i := 291) (by decide +kernel)) rfl
theorem cd_yX4_addsArgument : Cond.code yX4_addsArgument cX4_addsArgument 2 (some (FieldType.boolean)) ∈ G0 := gq (List.mem_of_getElem? (i := 292) (by decide +kernel)) rfl
theorem ml_X4_65 : Cond.methodLink RX4 65 yX4_closesCall ∈ G0 := gq (List.mem_of_getElem? (i := 293) (by decide +kernel)) rfl
theorem im_yX4_closesCall : Cond.instanceMethod yX4_closesCall ∈ G0 := gq (List.mem_of_getElem? (i := 295) (by decide +kernel)) rfl
theorem cd_yX4_closesCall : Cond.code yX4_closesCall cX4_closesCall 1 (some (FieldType.boolean)) ∈ G0 := gq (List.mem_of_getElem? (i := 296) (by decide +kernel)) rfl
theorem ml_L_125 : Cond.methodLink RL 125 yX7_meanHoles ∈ G0 := gq (List.mem_of_getElem? (i := 297) (by decide +kernel)) rfl
theorem im_yX7_meanHoles : Cond.instanceMethod yX7_meanHoles ∈ G0 := gq (List.mem_of_getElem? (i := 298) (by decide +kernel)) rfl
theorem se_yX7_meanHoles : Cond.selects RX7 yX7_meanHoles yX7_meanHoles ∈ G0 := gq (List.mem_of_getElem? (i := 299) (by decide +kernel)) rfl
theorem cd_yX7_meanHoles : Cond.code yX7_meanHoles cX7_meanHoles 2 (some (FieldType.double)) ∈ G0 := gq (List.mem_of_getElem? (i := 300) (by decide +kernel)) rfl
theorem ml_X7_83 : Cond.methodLink RX7 83 yX5_definedCount ∈ G0 := gq (List.mem_of_getElem? (i := 301) (by decide +kernel)) rfl
theorem im_yX5_definedCount : Cond.instanceMethod yX5_definedCount ∈ G0 := gq (List.mem_of_getElem? (i := 302) (by decide +kernel)) rfl
theorem se_yX5_definedCount : Cond.selects RX5 yX5_definedCount yX5_definedCount ∈ G0 := gq (List.mem_of_getElem? (i := 303) (by decide +kernel)) rfl
theorem cd_yX5_definedCount : Cond.code yX5_definedCount cX5_definedCount 1 (some (FieldType.int)) ∈ G0 := gq (List.mem_of_getElem? (i := 304) (by decide +kernel)) rfl
theorem ml_X5_40 : Cond.methodLink RX5 40 yX5_definedSet ∈ G0 := gq (List.mem_of_getElem? (i := 305) (by decide +kernel)) rfl
theorem im_yX5_definedSet : Cond.instanceMethod yX5_definedSet ∈ G0 := gq (List.mem_of_getElem? (i := 306) (by decide +kernel)) rfl
theorem se_yX5_definedSet : Cond.selects RX5 yX5_definedSet yX5_definedSet ∈ G0 := gq (List.mem_of_getElem? (i := 307) (by decide +kernel)) rfl
theorem cd_yX5_definedSet : Cond.code yX5_definedSet cX5_definedSet 3 (some (FieldType.int)) ∈ G0 := gq (List.mem_of_getElem? (i := 308) (by decide +kernel)) rfl
theorem ml_X5_44 : Cond.methodLink RX5 44 yJ6_bitCount_0f7a4 ∈ G0 := gq (List.mem_of_getElem? (i := 309) (by decide +kernel)) rfl
theorem sm_yJ6_bitCount_0f7a4 : Cond.static yJ6_bitCount_0f7a4 ∈ G0 := gq (List.mem_of_getElem? (i := 310) (by decide +kernel)) rfl
theorem cd_yJ6_bitCount_0f7a4 : Cond.code yJ6_bitCount_0f7a4 cJ6_bitCount_0f7a4 1 (some (FieldType.int)) ∈ G0 := gq (List.mem_of_getElem? (i := 311) (by decide +kernel)) rfl
theorem ml_X7_245 : Cond.methodLink RX7 245 yX5_holesOfBodies ∈ G0 := gq (List.mem_of_getElem? (i := 315) (by decide +kernel)) rfl
theorem im_yX5_holesOfBodies : Cond.instanceMethod yX5_holesOfBodies ∈ G0 := gq (List.mem_of_getElem? (i := 316) (by decide +kernel)) rfl
theorem se_yX5_holesOfBodies : Cond.selects RX5 yX5_holesOfBodies yX5_holesOfBodies ∈ G0 := gq (List.mem_of_getElem? (i := 317) (by decide +kernel)) rfl
theorem cd_yX5_holesOfBodies : Cond.code yX5_holesOfBodies cX5_holesOfBodies 4 (some (FieldType.int)) ∈ G0 := gq (List.mem_of_getElem? (i := 318) (by decide +kernel)) rfl
theorem ml_L_144 : Cond.methodLink RL 144 yL_cell ∈ G0 := gq (List.mem_of_getElem? (i := 319) (by decide +kernel)) rfl
theorem sm_yL_cell : Cond.static yL_cell ∈ G0 := gq (List.mem_of_getElem? (i := 320) (by decide +kernel)) rfl
theorem cd_yL_cell : Cond.code yL_cell cL_cell 2 (some (FieldType.int)) ∈ G0 := gq (List.mem_of_getElem? (i := 321) (by decide +kernel)) rfl
theorem ml_L_106 : Cond.methodLink RL 106 yL_result ∈ G0 := gq (List.mem_of_getElem? (i := 324) (by decide +kernel)) rfl
theorem sm_yL_result : Cond.static yL_result ∈ G0 := gq (List.mem_of_getElem? (i := 325) (by decide +kernel)) rfl
theorem ml_L_37 : Cond.methodLink RL 37 yX7_result ∈ G0 := gq (List.mem_of_getElem? (i := 328) (by decide +kernel)) rfl
theorem im_yX7_result : Cond.instanceMethod yX7_result ∈ G0 := gq (List.mem_of_getElem? (i := 329) (by decide +kernel)) rfl
theorem se_yX7_result : Cond.selects RX7 yX7_result yX7_result ∈ G0 := gq (List.mem_of_getElem? (i := 330) (by decide +kernel)) rfl
theorem cd_yX7_result : Cond.code yX7_result cX7_result 3 (some (FieldType.int)) ∈ G0 := gq (List.mem_of_getElem? (i := 331) (by decide +kernel)) rfl
theorem ml_X7_169 : Cond.methodLink RX7 169 yX7_requireWhat ∈ G0 := gq (List.mem_of_getElem? (i := 332) (by decide +kernel)) rfl
theorem sm_yX7_requireWhat : Cond.static yX7_requireWhat ∈ G0 := gq (List.mem_of_getElem? (i := 333) (by decide +kernel)) rfl
theorem cd_yX7_requireWhat : Cond.code yX7_requireWhat cX7_requireWhat 2 none ∈ G0 := gq (List.mem_of_getElem? (i := 334) (by decide +kernel)) rfl
theorem ml_X7_218 : Cond.methodLink RX7 218 yX3_occurrencesOf ∈ G0 := gq (List.mem_of_getElem? (i := 403) (by decide +kernel)) rfl
theorem im_yX3_occurrencesOf : Cond.instanceMethod yX3_occurrencesOf ∈ G0 := gq (List.mem_of_getElem? (i := 404) (by decide +kernel)) rfl
theorem se_yX3_occurrencesOf : Cond.selects RX3 yX3_occurrencesOf yX3_occurrencesOf ∈ G0 := gq (List.mem_of_getElem? (i := 405) (by decide +kernel)) rfl
theorem cd_yX3_occurrencesOf : Cond.code yX3_occurrencesOf cX3_occurrencesOf 4 (some (FieldType.int)) ∈ G0 := gq (List.mem_of_getElem? (i := 406) (by decide +kernel)) rfl
theorem ml_X7_227 : Cond.methodLink RX7 227 yX3_listedCalls ∈ G0 := gq (List.mem_of_getElem? (i := 407) (by decide +kernel)) rfl
theorem im_yX3_listedCalls : Cond.instanceMethod yX3_listedCalls ∈ G0 := gq (List.mem_of_getElem? (i := 408) (by decide +kernel)) rfl
theorem se_yX3_listedCalls : Cond.selects RX3 yX3_listedCalls yX3_listedCalls ∈ G0 := gq (List.mem_of_getElem? (i := 409) (by decide +kernel)) rfl
theorem cd_yX3_listedCalls : Cond.code yX3_listedCalls cX3_listedCalls 1 (some (FieldType.int)) ∈ G0 := gq (List.mem_of_getElem? (i := 410) (by decide +kernel)) rfl
theorem ml_L_112 : Cond.methodLink RL 112 yL_count ∈ G0 := gq (List.mem_of_getElem? (i := 411) (by decide +kernel)) rfl
theorem sm_yL_count : Cond.static yL_count ∈ G0 := gq (List.mem_of_getElem? (i := 412) (by decide +kernel)) rfl
theorem ml_L_40 : Cond.methodLink RL 40 yX7_count ∈ G0 := gq (List.mem_of_getElem? (i := 414) (by decide +kernel)) rfl
theorem im_yX7_count : Cond.instanceMethod yX7_count ∈ G0 := gq (List.mem_of_getElem? (i := 415) (by decide +kernel)) rfl
theorem se_yX7_count : Cond.selects RX7 yX7_count yX7_count ∈ G0 := gq (List.mem_of_getElem? (i := 416) (by decide +kernel)) rfl
theorem cd_yX7_count : Cond.code yX7_count cX7_count 2 (some (FieldType.int)) ∈ G0 := gq (List.mem_of_getElem? (i := 417) (by decide +kernel)) rfl
theorem ml_X7_239 : Cond.methodLink RX7 239 yX5_definedSet ∈ G0 := gq (List.mem_of_getElem? (i := 418) (by decide +kernel)) rfl
theorem ml_X7_242 : Cond.methodLink RX7 242 yX5_callsOfBodies ∈ G0 := gq (List.mem_of_getElem? (i := 419) (by decide +kernel)) rfl
theorem im_yX5_callsOfBodies : Cond.instanceMethod yX5_callsOfBodies ∈ G0 := gq (List.mem_of_getElem? (i := 420) (by decide +kernel)) rfl
theorem se_yX5_callsOfBodies : Cond.selects RX5 yX5_callsOfBodies yX5_callsOfBodies ∈ G0 := gq (List.mem_of_getElem? (i := 421) (by decide +kernel)) rfl
theorem cd_yX5_callsOfBodies : Cond.code yX5_callsOfBodies cX5_callsOfBodies 4 (some (FieldType.int)) ∈ G0 := gq (List.mem_of_getElem? (i := 422) (by decide +kernel)) rfl
theorem ml_L_92 : Cond.methodLink RL 92 yL_undo ∈ G0 := gq (List.mem_of_getElem? (i := 423) (by decide +kernel)) rfl
theorem sm_yL_undo : Cond.static yL_undo ∈ G0 := gq (List.mem_of_getElem? (i := 424) (by decide +kernel)) rfl
theorem ml_L_68 : Cond.methodLink RL 68 yX7_undo ∈ G0 := gq (List.mem_of_getElem? (i := 427) (by decide +kernel)) rfl
theorem im_yX7_undo : Cond.instanceMethod yX7_undo ∈ G0 := gq (List.mem_of_getElem? (i := 428) (by decide +kernel)) rfl
theorem se_yX7_undo : Cond.selects RX7 yX7_undo yX7_undo ∈ G0 := gq (List.mem_of_getElem? (i := 429) (by decide +kernel)) rfl
theorem cd_yX7_undo : Cond.code yX7_undo cX7_undo 1 (some (FieldType.int)) ∈ G0 := gq (List.mem_of_getElem? (i := 430) (by decide +kernel)) rfl
theorem ml_X7_144 : Cond.methodLink RX7 144 yX2_restoreSaved ∈ G0 := gq (List.mem_of_getElem? (i := 431) (by decide +kernel)) rfl
theorem im_yX2_restoreSaved : Cond.instanceMethod yX2_restoreSaved ∈ G0 := gq (List.mem_of_getElem? (i := 432) (by decide +kernel)) rfl
theorem se_yX2_restoreSaved : Cond.selects RX2 yX2_restoreSaved yX2_restoreSaved ∈ G0 := gq (List.mem_of_getElem? (i := 433) (by decide +kernel)) rfl
theorem cd_yX2_restoreSaved : Cond.code yX2_restoreSaved cX2_restoreSaved 3 (some (FieldType.boolean)) ∈ G0 := gq (List.mem_of_getElem? (i := 434) (by decide +kernel)) rfl
theorem ml_X2_31 : Cond.methodLink RX2 31 yX5_copyFrom ∈ G0 := gq (List.mem_of_getElem? (i := 435) (by decide +kernel)) rfl
theorem im_yX5_copyFrom : Cond.instanceMethod yX5_copyFrom ∈ G0 := gq (List.mem_of_getElem? (i := 436) (by decide +kernel)) rfl
theorem se_yX5_copyFrom : Cond.selects RX5 yX5_copyFrom yX5_copyFrom ∈ G0 := gq (List.mem_of_getElem? (i := 437) (by decide +kernel)) rfl
theorem cd_yX5_copyFrom : Cond.code yX5_copyFrom cX5_copyFrom 3 none ∈ G0 := gq (List.mem_of_getElem? (i := 438) (by decide +kernel)) rfl
theorem ml_L_97 : Cond.methodLink RL 97 yL_goBack ∈ G0 := gq (List.mem_of_getElem? (i := 455) (by decide +kernel)) rfl
theorem sm_yL_goBack : Cond.static yL_goBack ∈ G0 := gq (List.mem_of_getElem? (i := 456) (by decide +kernel)) rfl
theorem ml_L_74 : Cond.methodLink RL 74 yX7_goBack ∈ G0 := gq (List.mem_of_getElem? (i := 458) (by decide +kernel)) rfl
theorem im_yX7_goBack : Cond.instanceMethod yX7_goBack ∈ G0 := gq (List.mem_of_getElem? (i := 459) (by decide +kernel)) rfl
theorem se_yX7_goBack : Cond.selects RX7 yX7_goBack yX7_goBack ∈ G0 := gq (List.mem_of_getElem? (i := 460) (by decide +kernel)) rfl
theorem cd_yX7_goBack : Cond.code yX7_goBack cX7_goBack 3 (some (FieldType.int)) ∈ G0 := gq (List.mem_of_getElem? (i := 461) (by decide +kernel)) rfl
theorem ml_X7_153 : Cond.methodLink RX7 153 yX7_requireSlot ∈ G0 := gq (List.mem_of_getElem? (i := 462) (by decide +kernel)) rfl
theorem sm_yX7_requireSlot : Cond.static yX7_requireSlot ∈ G0 := gq (List.mem_of_getElem? (i := 463) (by decide +kernel)) rfl
theorem cd_yX7_requireSlot : Cond.code yX7_requireSlot cX7_requireSlot 1 none ∈ G0 := gq (List.mem_of_getElem? (i := 464) (by decide +kernel)) rfl
theorem ml_X7_160 : Cond.methodLink RX7 160 yX2_snapshotIn ∈ G0 := gq (List.mem_of_getElem? (i := 466) (by decide +kernel)) rfl
theorem im_yX2_snapshotIn : Cond.instanceMethod yX2_snapshotIn ∈ G0 := gq (List.mem_of_getElem? (i := 467) (by decide +kernel)) rfl
theorem se_yX2_snapshotIn : Cond.selects RX2 yX2_snapshotIn yX2_snapshotIn ∈ G0 := gq (List.mem_of_getElem? (i := 468) (by decide +kernel)) rfl
theorem cd_yX2_snapshotIn : Cond.code yX2_snapshotIn cX2_snapshotIn 2 (some ((FieldType.object "AbbreviationBook$State"))) ∈ G0 := gq (List.mem_of_getElem? (i := 469) (by decide +kernel)) rfl
theorem ml_X7_59 : Cond.methodLink RX7 59 yX2_saveState ∈ G0 := gq (List.mem_of_getElem? (i := 471) (by decide +kernel)) rfl
theorem im_yX2_saveState : Cond.instanceMethod yX2_saveState ∈ G0 := gq (List.mem_of_getElem? (i := 472) (by decide +kernel)) rfl
theorem se_yX2_saveState : Cond.selects RX2 yX2_saveState yX2_saveState ∈ G0 := gq (List.mem_of_getElem? (i := 473) (by decide +kernel)) rfl
theorem cd_yX2_saveState : Cond.code yX2_saveState cX2_saveState 2 none ∈ G0 := gq (List.mem_of_getElem? (i := 474) (by decide +kernel)) rfl
theorem ml_X2_27 : Cond.methodLink RX2 27 yX2_copyInto ∈ G0 := gq (List.mem_of_getElem? (i := 475) (by decide +kernel)) rfl
theorem sm_yX2_copyInto : Cond.static yX2_copyInto ∈ G0 := gq (List.mem_of_getElem? (i := 476) (by decide +kernel)) rfl
theorem cd_yX2_copyInto : Cond.code yX2_copyInto cX2_copyInto 4 none ∈ G0 := gq (List.mem_of_getElem? (i := 477) (by decide +kernel)) rfl
theorem ml_X7_166 : Cond.methodLink RX7 166 yX5_copyFrom ∈ G0 := gq (List.mem_of_getElem? (i := 479) (by decide +kernel)) rfl
theorem ml_L_148 : Cond.methodLink RL 148 yL_acts ∈ G0 := gq (List.mem_of_getElem? (i := 480) (by decide +kernel)) rfl
theorem sm_yL_acts : Cond.static yL_acts ∈ G0 := gq (List.mem_of_getElem? (i := 481) (by decide +kernel)) rfl
theorem cd_yL_acts : Cond.code yL_acts cL_acts 5 (some (FieldType.int)) ∈ G0 := gq (List.mem_of_getElem? (i := 482) (by decide +kernel)) rfl
theorem ml_L_85 : Cond.methodLink RL 85 yL_remove ∈ G0 := gq (List.mem_of_getElem? (i := 483) (by decide +kernel)) rfl
theorem sm_yL_remove : Cond.static yL_remove ∈ G0 := gq (List.mem_of_getElem? (i := 484) (by decide +kernel)) rfl
theorem ml_L_31 : Cond.methodLink RL 31 yX7_remove ∈ G0 := gq (List.mem_of_getElem? (i := 487) (by decide +kernel)) rfl
theorem im_yX7_remove : Cond.instanceMethod yX7_remove ∈ G0 := gq (List.mem_of_getElem? (i := 488) (by decide +kernel)) rfl
theorem se_yX7_remove : Cond.selects RX7 yX7_remove yX7_remove ∈ G0 := gq (List.mem_of_getElem? (i := 489) (by decide +kernel)) rfl
theorem cd_yX7_remove : Cond.code yX7_remove cX7_remove 2 (some (FieldType.int)) ∈ G0 := gq (List.mem_of_getElem? (i := 490) (by decide +kernel)) rfl
theorem ml_X7_52 : Cond.methodLink RX7 52 yX7_requireLetter ∈ G0 := gq (List.mem_of_getElem? (i := 491) (by decide +kernel)) rfl
theorem sm_yX7_requireLetter : Cond.static yX7_requireLetter ∈ G0 := gq (List.mem_of_getElem? (i := 492) (by decide +kernel)) rfl
theorem cd_yX7_requireLetter : Cond.code yX7_requireLetter cX7_requireLetter 1 none ∈ G0 := gq (List.mem_of_getElem? (i := 493) (by decide +kernel)) rfl
theorem ml_X7_248 : Cond.methodLink RX7 248 yX7_isLetter ∈ G0 := gq (List.mem_of_getElem? (i := 494) (by decide +kernel)) rfl
theorem sm_yX7_isLetter : Cond.static yX7_isLetter ∈ G0 := gq (List.mem_of_getElem? (i := 495) (by decide +kernel)) rfl
theorem cd_yX7_isLetter : Cond.code yX7_isLetter cX7_isLetter 1 (some (FieldType.boolean)) ∈ G0 := gq (List.mem_of_getElem? (i := 496) (by decide +kernel)) rfl
theorem ml_X7_79 : Cond.methodLink RX7 79 yX7_requireDefinition ∈ G0 := gq (List.mem_of_getElem? (i := 513) (by decide +kernel)) rfl
theorem im_yX7_requireDefinition : Cond.instanceMethod yX7_requireDefinition ∈ G0 := gq (List.mem_of_getElem? (i := 515) (by decide +kernel)) rfl
theorem cd_yX7_requireDefinition : Cond.code yX7_requireDefinition cX7_requireDefinition 3 (some ((FieldType.object "AbbreviationBook$Text"))) ∈ G0 := gq (List.mem_of_getElem? (i := 516) (by decide +kernel)) rfl
theorem ml_X7_87 : Cond.methodLink RX7 87 yX5_definitionOf ∈ G0 := gq (List.mem_of_getElem? (i := 517) (by decide +kernel)) rfl
theorem im_yX5_definitionOf : Cond.instanceMethod yX5_definitionOf ∈ G0 := gq (List.mem_of_getElem? (i := 518) (by decide +kernel)) rfl
theorem se_yX5_definitionOf : Cond.selects RX5 yX5_definitionOf yX5_definitionOf ∈ G0 := gq (List.mem_of_getElem? (i := 519) (by decide +kernel)) rfl
theorem cd_yX5_definitionOf : Cond.code yX5_definitionOf cX5_definitionOf 2 (some ((FieldType.object "AbbreviationBook$Text"))) ∈ G0 := gq (List.mem_of_getElem? (i := 520) (by decide +kernel)) rfl
theorem ml_X7_72 : Cond.methodLink RX7 72 yX5_putDefinition ∈ G0 := gq (List.mem_of_getElem? (i := 523) (by decide +kernel)) rfl
theorem im_yX5_putDefinition : Cond.instanceMethod yX5_putDefinition ∈ G0 := gq (List.mem_of_getElem? (i := 524) (by decide +kernel)) rfl
theorem se_yX5_putDefinition : Cond.selects RX5 yX5_putDefinition yX5_putDefinition ∈ G0 := gq (List.mem_of_getElem? (i := 525) (by decide +kernel)) rfl
theorem cd_yX5_putDefinition : Cond.code yX5_putDefinition cX5_putDefinition 3 none ∈ G0 := gq (List.mem_of_getElem? (i := 526) (by decide +kernel)) rfl
theorem ml_L_87 : Cond.methodLink RL 87 yL_exchange ∈ G0 := gq (List.mem_of_getElem? (i := 527) (by decide +kernel)) rfl
theorem sm_yL_exchange : Cond.static yL_exchange ∈ G0 := gq (List.mem_of_getElem? (i := 528) (by decide +kernel)) rfl
theorem ml_L_56 : Cond.methodLink RL 56 yX7_exchange ∈ G0 := gq (List.mem_of_getElem? (i := 530) (by decide +kernel)) rfl
theorem im_yX7_exchange : Cond.instanceMethod yX7_exchange ∈ G0 := gq (List.mem_of_getElem? (i := 531) (by decide +kernel)) rfl
theorem se_yX7_exchange : Cond.selects RX7 yX7_exchange yX7_exchange ∈ G0 := gq (List.mem_of_getElem? (i := 532) (by decide +kernel)) rfl
theorem cd_yX7_exchange : Cond.code yX7_exchange cX7_exchange 5 (some (FieldType.int)) ∈ G0 := gq (List.mem_of_getElem? (i := 533) (by decide +kernel)) rfl
theorem ml_L_90 : Cond.methodLink RL 90 yL_set ∈ G0 := gq (List.mem_of_getElem? (i := 534) (by decide +kernel)) rfl
theorem sm_yL_set : Cond.static yL_set ∈ G0 := gq (List.mem_of_getElem? (i := 535) (by decide +kernel)) rfl
theorem ml_L_28 : Cond.methodLink RL 28 yX7_set ∈ G0 := gq (List.mem_of_getElem? (i := 537) (by decide +kernel)) rfl
theorem im_yX7_set : Cond.instanceMethod yX7_set ∈ G0 := gq (List.mem_of_getElem? (i := 538) (by decide +kernel)) rfl
theorem se_yX7_set : Cond.selects RX7 yX7_set yX7_set ∈ G0 := gq (List.mem_of_getElem? (i := 539) (by decide +kernel)) rfl
theorem cd_yX7_set : Cond.code yX7_set cX7_set 3 (some (FieldType.int)) ∈ G0 := gq (List.mem_of_getElem? (i := 540) (by decide +kernel)) rfl
theorem ml_L_95 : Cond.methodLink RL 95 yL_keep ∈ G0 := gq (List.mem_of_getElem? (i := 542) (by decide +kernel)) rfl
theorem sm_yL_keep : Cond.static yL_keep ∈ G0 := gq (List.mem_of_getElem? (i := 543) (by decide +kernel)) rfl
theorem ml_L_71 : Cond.methodLink RL 71 yX7_keep ∈ G0 := gq (List.mem_of_getElem? (i := 545) (by decide +kernel)) rfl
theorem im_yX7_keep : Cond.instanceMethod yX7_keep ∈ G0 := gq (List.mem_of_getElem? (i := 546) (by decide +kernel)) rfl
theorem se_yX7_keep : Cond.selects RX7 yX7_keep yX7_keep ∈ G0 := gq (List.mem_of_getElem? (i := 547) (by decide +kernel)) rfl
theorem cd_yX7_keep : Cond.code yX7_keep cX7_keep 2 (some (FieldType.int)) ∈ G0 := gq (List.mem_of_getElem? (i := 548) (by decide +kernel)) rfl
theorem ml_X7_156 : Cond.methodLink RX7 156 yX2_takeSnapshot ∈ G0 := gq (List.mem_of_getElem? (i := 549) (by decide +kernel)) rfl
theorem im_yX2_takeSnapshot : Cond.instanceMethod yX2_takeSnapshot ∈ G0 := gq (List.mem_of_getElem? (i := 550) (by decide +kernel)) rfl
theorem se_yX2_takeSnapshot : Cond.selects RX2 yX2_takeSnapshot yX2_takeSnapshot ∈ G0 := gq (List.mem_of_getElem? (i := 551) (by decide +kernel)) rfl
theorem cd_yX2_takeSnapshot : Cond.code yX2_takeSnapshot cX2_takeSnapshot 3 none ∈ G0 := gq (List.mem_of_getElem? (i := 552) (by decide +kernel)) rfl
theorem ml_L_99 : Cond.methodLink RL 99 yL_typed ∈ G0 := gq (List.mem_of_getElem? (i := 553) (by decide +kernel)) rfl
theorem sm_yL_typed : Cond.static yL_typed ∈ G0 := gq (List.mem_of_getElem? (i := 554) (by decide +kernel)) rfl
theorem cd_yL_typed : Cond.code yL_typed cL_typed 7 (some (FieldType.int)) ∈ G0 := gq (List.mem_of_getElem? (i := 555) (by decide +kernel)) rfl
theorem ml_L_77 : Cond.methodLink RL 77 yX7_clearBuffer ∈ G0 := gq (List.mem_of_getElem? (i := 556) (by decide +kernel)) rfl
theorem im_yX7_clearBuffer : Cond.instanceMethod yX7_clearBuffer ∈ G0 := gq (List.mem_of_getElem? (i := 557) (by decide +kernel)) rfl
theorem se_yX7_clearBuffer : Cond.selects RX7 yX7_clearBuffer yX7_clearBuffer ∈ G0 := gq (List.mem_of_getElem? (i := 558) (by decide +kernel)) rfl
theorem cd_yX7_clearBuffer : Cond.code yX7_clearBuffer cX7_clearBuffer 2 (some (FieldType.int)) ∈ G0 := gq (List.mem_of_getElem? (i := 559) (by decide +kernel)) rfl
theorem ml_L_80 : Cond.methodLink RL 80 yL_append ∈ G0 := gq (List.mem_of_getElem? (i := 560) (by decide +kernel)) rfl
theorem sm_yL_append : Cond.static yL_append ∈ G0 := gq (List.mem_of_getElem? (i := 561) (by decide +kernel)) rfl
theorem ml_L_23 : Cond.methodLink RL 23 yX7_append ∈ G0 := gq (List.mem_of_getElem? (i := 563) (by decide +kernel)) rfl
theorem im_yX7_append : Cond.instanceMethod yX7_append ∈ G0 := gq (List.mem_of_getElem? (i := 564) (by decide +kernel)) rfl
theorem se_yX7_append : Cond.selects RX7 yX7_append yX7_append ∈ G0 := gq (List.mem_of_getElem? (i := 565) (by decide +kernel)) rfl
theorem cd_yX7_append : Cond.code yX7_append cX7_append 2 (some (FieldType.int)) ∈ G0 := gq (List.mem_of_getElem? (i := 566) (by decide +kernel)) rfl
theorem ml_L_102 : Cond.methodLink RL 102 yL_define ∈ G0 := gq (List.mem_of_getElem? (i := 569) (by decide +kernel)) rfl
theorem sm_yL_define : Cond.static yL_define ∈ G0 := gq (List.mem_of_getElem? (i := 570) (by decide +kernel)) rfl
theorem ml_L_9 : Cond.methodLink RL 9 yX7_define ∈ G0 := gq (List.mem_of_getElem? (i := 572) (by decide +kernel)) rfl
theorem im_yX7_define : Cond.instanceMethod yX7_define ∈ G0 := gq (List.mem_of_getElem? (i := 573) (by decide +kernel)) rfl
theorem se_yX7_define : Cond.selects RX7 yX7_define yX7_define ∈ G0 := gq (List.mem_of_getElem? (i := 574) (by decide +kernel)) rfl
theorem cd_yX7_define : Cond.code yX7_define cX7_define 3 (some (FieldType.int)) ∈ G0 := gq (List.mem_of_getElem? (i := 575) (by decide +kernel)) rfl
theorem ml_X7_56 : Cond.methodLink RX7 56 yX7_requireCompleteText ∈ G0 := gq (List.mem_of_getElem? (i := 576) (by decide +kernel)) rfl
theorem im_yX7_requireCompleteText : Cond.instanceMethod yX7_requireCompleteText ∈ G0 := gq (List.mem_of_getElem? (i := 578) (by decide +kernel)) rfl
theorem cd_yX7_requireCompleteText : Cond.code yX7_requireCompleteText cX7_requireCompleteText 1 none ∈ G0 := gq (List.mem_of_getElem? (i := 579) (by decide +kernel)) rfl
theorem ml_X7_272 : Cond.methodLink RX7 272 yX4_isComplete ∈ G0 := gq (List.mem_of_getElem? (i := 580) (by decide +kernel)) rfl
theorem im_yX4_isComplete : Cond.instanceMethod yX4_isComplete ∈ G0 := gq (List.mem_of_getElem? (i := 581) (by decide +kernel)) rfl
theorem se_yX4_isComplete : Cond.selects RX4 yX4_isComplete yX4_isComplete ∈ G0 := gq (List.mem_of_getElem? (i := 582) (by decide +kernel)) rfl
theorem cd_yX4_isComplete : Cond.code yX4_isComplete cX4_isComplete 1 (some (FieldType.boolean)) ∈ G0 := gq (List.mem_of_getElem? (i := 583) (by decide +kernel)) rfl
theorem cl_X7_63 : Cond.classLink RX7 63 RX6 ∈ G0 := gq (List.mem_of_getElem? (i := 585) (by decide +kernel)) rfl
theorem ins_X6 : Cond.instantiable RX6 7 ∈ G0 := gq (List.mem_of_getElem? (i := 586) (by decide +kernel)) rfl
theorem ml_X7_65 : Cond.methodLink RX7 65 yX7_copyOfBuffer ∈ G0 := gq (List.mem_of_getElem? (i := 587) (by decide +kernel)) rfl
theorem im_yX7_copyOfBuffer : Cond.instanceMethod yX7_copyOfBuffer ∈ G0 := gq (List.mem_of_getElem? (i := 589) (by decide +kernel)) rfl
theorem cd_yX7_copyOfBuffer : Cond.code yX7_copyOfBuffer cX7_copyOfBuffer 1 (some ((FieldType.array FieldType.int))) ∈ G0 := gq (List.mem_of_getElem? (i := 590) (by decide +kernel)) rfl
theorem ml_X7_138 : Cond.methodLink RX7 138 yJ9_min_7cf53 ∈ G0 := gq (List.mem_of_getElem? (i := 591) (by decide +kernel)) rfl
theorem sm_yJ9_min_7cf53 : Cond.static yJ9_min_7cf53 ∈ G0 := gq (List.mem_of_getElem? (i := 592) (by decide +kernel)) rfl
theorem cd_yJ9_min_7cf53 : Cond.code yJ9_min_7cf53 cJ9_min_7cf53 2 (some (FieldType.int)) ∈ G0 := gq (List.mem_of_getElem? (i := 593) (by decide +kernel)) rfl
theorem ml_X7_263 : Cond.methodLink RX7 263 yJ9_max_7cf53 ∈ G0 := gq (List.mem_of_getElem? (i := 594) (by decide +kernel)) rfl
theorem ml_X7_266 : Cond.methodLink RX7 266 yJ7_copyOf_59c91 ∈ G0 := gq (List.mem_of_getElem? (i := 595) (by decide +kernel)) rfl
theorem sm_yJ7_copyOf_59c91 : Cond.static yJ7_copyOf_59c91 ∈ G0 := gq (List.mem_of_getElem? (i := 596) (by decide +kernel)) rfl
theorem cd_yJ7_copyOf_59c91 : Cond.code yJ7_copyOf_59c91 cJ7_copyOf_59c91 3 (some ((FieldType.array FieldType.int))) ∈ G0 := gq (List.mem_of_getElem? (i := 597) (by decide +kernel)) rfl
theorem ml_J7_304 : Cond.methodLink RJ7 304 yJ9_min_7cf53 ∈ G0 := gq (List.mem_of_getElem? (i := 605) (by decide +kernel)) rfl
theorem ml_X7_69 : Cond.methodLink RX7 69 yX6_init ∈ G0 := gq (List.mem_of_getElem? (i := 609) (by decide +kernel)) rfl
theorem im_yX6_init : Cond.instanceMethod yX6_init ∈ G0 := gq (List.mem_of_getElem? (i := 610) (by decide +kernel)) rfl
theorem cd_yX6_init : Cond.code yX6_init cX6_init 3 none ∈ G0 := gq (List.mem_of_getElem? (i := 611) (by decide +kernel)) rfl
theorem ml_X6_1 : Cond.methodLink RX6 1 objectInit ∈ G0 := gq (List.mem_of_getElem? (i := 612) (by decide +kernel)) rfl
theorem fl_X6_7 : Cond.fieldLink RX6 7 RX6 (TX6 0).2.1 (TX6 0).2.2.1 ∈ G0 := gq (List.mem_of_getElem? (i := 613) (by decide +kernel)) rfl
theorem fl_X7_137 : Cond.fieldLink RX7 137 RX6 (TX6 0).2.1 (TX6 0).2.2.1 ∈ G0 := gq (List.mem_of_getElem? (i := 614) (by decide +kernel)) rfl
theorem fl_X1_145 : Cond.fieldLink RX1 145 RX6 (TX6 0).2.1 (TX6 0).2.2.1 ∈ G0 := gq (List.mem_of_getElem? (i := 615) (by decide +kernel)) rfl
theorem fl_X6_19 : Cond.fieldLink RX6 19 RX6 (TX6 1).2.1 (TX6 1).2.2.1 ∈ G0 := gq (List.mem_of_getElem? (i := 616) (by decide +kernel)) rfl
theorem fl_X7_76 : Cond.fieldLink RX7 76 RX6 (TX6 1).2.1 (TX6 1).2.2.1 ∈ G0 := gq (List.mem_of_getElem? (i := 617) (by decide +kernel)) rfl
theorem fl_X5_53 : Cond.fieldLink RX5 53 RX6 (TX6 1).2.1 (TX6 1).2.2.1 ∈ G0 := gq (List.mem_of_getElem? (i := 618) (by decide +kernel)) rfl
theorem fl_X6_23 : Cond.fieldLink RX6 23 RX6 (TX6 2).2.1 (TX6 2).2.2.1 ∈ G0 := gq (List.mem_of_getElem? (i := 619) (by decide +kernel)) rfl
theorem fl_X5_50 : Cond.fieldLink RX5 50 RX6 (TX6 2).2.1 (TX6 2).2.2.1 ∈ G0 := gq (List.mem_of_getElem? (i := 620) (by decide +kernel)) rfl
theorem fl_X7_173 : Cond.fieldLink RX7 173 RX6 (TX6 2).2.1 (TX6 2).2.2.1 ∈ G0 := gq (List.mem_of_getElem? (i := 621) (by decide +kernel)) rfl
theorem fl_X6_27 : Cond.fieldLink RX6 27 RX6 (TX6 3).2.1 (TX6 3).2.2.1 ∈ G0 := gq (List.mem_of_getElem? (i := 622) (by decide +kernel)) rfl
theorem fl_X7_176 : Cond.fieldLink RX7 176 RX6 (TX6 3).2.1 (TX6 3).2.2.1 ∈ G0 := gq (List.mem_of_getElem? (i := 623) (by decide +kernel)) rfl
theorem fl_X6_31 : Cond.fieldLink RX6 31 RX6 (TX6 4).2.1 (TX6 4).2.2.1 ∈ G0 := gq (List.mem_of_getElem? (i := 624) (by decide +kernel)) rfl
theorem fl_X7_179 : Cond.fieldLink RX7 179 RX6 (TX6 4).2.1 (TX6 4).2.2.1 ∈ G0 := gq (List.mem_of_getElem? (i := 625) (by decide +kernel)) rfl
theorem fl_X6_35 : Cond.fieldLink RX6 35 RX6 (TX6 5).2.1 (TX6 5).2.2.1 ∈ G0 := gq (List.mem_of_getElem? (i := 626) (by decide +kernel)) rfl
theorem fl_X7_182 : Cond.fieldLink RX7 182 RX6 (TX6 5).2.1 (TX6 5).2.2.1 ∈ G0 := gq (List.mem_of_getElem? (i := 627) (by decide +kernel)) rfl
theorem fl_X6_39 : Cond.fieldLink RX6 39 RX6 (TX6 6).2.1 (TX6 6).2.2.1 ∈ G0 := gq (List.mem_of_getElem? (i := 628) (by decide +kernel)) rfl
theorem fl_X0_32 : Cond.fieldLink RX0 32 RX6 (TX6 6).2.1 (TX6 6).2.2.1 ∈ G0 := gq (List.mem_of_getElem? (i := 629) (by decide +kernel)) rfl
theorem ml_L_104 : Cond.methodLink RL 104 yL_expand ∈ G0 := gq (List.mem_of_getElem? (i := 645) (by decide +kernel)) rfl
theorem sm_yL_expand : Cond.static yL_expand ∈ G0 := gq (List.mem_of_getElem? (i := 646) (by decide +kernel)) rfl
theorem ml_L_19 : Cond.methodLink RL 19 yX7_expand ∈ G0 := gq (List.mem_of_getElem? (i := 648) (by decide +kernel)) rfl
theorem im_yX7_expand : Cond.instanceMethod yX7_expand ∈ G0 := gq (List.mem_of_getElem? (i := 649) (by decide +kernel)) rfl
theorem se_yX7_expand : Cond.selects RX7 yX7_expand yX7_expand ∈ G0 := gq (List.mem_of_getElem? (i := 650) (by decide +kernel)) rfl
theorem cd_yX7_expand : Cond.code yX7_expand cX7_expand 1 (some (FieldType.int)) ∈ G0 := gq (List.mem_of_getElem? (i := 651) (by decide +kernel)) rfl
theorem ml_X7_100 : Cond.methodLink RX7 100 yX1_writeResult ∈ G0 := gq (List.mem_of_getElem? (i := 652) (by decide +kernel)) rfl
theorem im_yX1_writeResult : Cond.instanceMethod yX1_writeResult ∈ G0 := gq (List.mem_of_getElem? (i := 653) (by decide +kernel)) rfl
theorem se_yX1_writeResult : Cond.selects RX1 yX1_writeResult yX1_writeResult ∈ G0 := gq (List.mem_of_getElem? (i := 654) (by decide +kernel)) rfl
theorem cd_yX1_writeResult : Cond.code yX1_writeResult cX1_writeResult 4 (some (FieldType.boolean)) ∈ G0 := gq (List.mem_of_getElem? (i := 655) (by decide +kernel)) rfl
theorem ml_X1_56 : Cond.methodLink RX1 56 yX1_startOver ∈ G0 := gq (List.mem_of_getElem? (i := 656) (by decide +kernel)) rfl
theorem im_yX1_startOver : Cond.instanceMethod yX1_startOver ∈ G0 := gq (List.mem_of_getElem? (i := 658) (by decide +kernel)) rfl
theorem cd_yX1_startOver : Cond.code yX1_startOver cX1_startOver 2 none ∈ G0 := gq (List.mem_of_getElem? (i := 659) (by decide +kernel)) rfl
theorem ml_X1_60 : Cond.methodLink RX1 60 yX1_setMark ∈ G0 := gq (List.mem_of_getElem? (i := 660) (by decide +kernel)) rfl
theorem im_yX1_setMark : Cond.instanceMethod yX1_setMark ∈ G0 := gq (List.mem_of_getElem? (i := 662) (by decide +kernel)) rfl
theorem cd_yX1_setMark : Cond.code yX1_setMark cX1_setMark 1 none ∈ G0 := gq (List.mem_of_getElem? (i := 663) (by decide +kernel)) rfl
theorem ml_X1_63 : Cond.methodLink RX1 63 yX1_writeText ∈ G0 := gq (List.mem_of_getElem? (i := 664) (by decide +kernel)) rfl
theorem im_yX1_writeText : Cond.instanceMethod yX1_writeText ∈ G0 := gq (List.mem_of_getElem? (i := 666) (by decide +kernel)) rfl
theorem cd_yX1_writeText : Cond.code yX1_writeText cX1_writeText 10 none ∈ G0 := gq (List.mem_of_getElem? (i := 667) (by decide +kernel)) rfl
theorem ml_X1_95 : Cond.methodLink RX1 95 yX1_fillHole ∈ G0 := gq (List.mem_of_getElem? (i := 668) (by decide +kernel)) rfl
theorem im_yX1_fillHole : Cond.instanceMethod yX1_fillHole ∈ G0 := gq (List.mem_of_getElem? (i := 670) (by decide +kernel)) rfl
theorem cd_yX1_fillHole : Cond.code yX1_fillHole cX1_fillHole 6 none ∈ G0 := gq (List.mem_of_getElem? (i := 671) (by decide +kernel)) rfl
theorem ml_X1_103 : Cond.methodLink RX1 103 yX1_writeSign ∈ G0 := gq (List.mem_of_getElem? (i := 672) (by decide +kernel)) rfl
theorem im_yX1_writeSign : Cond.instanceMethod yX1_writeSign ∈ G0 := gq (List.mem_of_getElem? (i := 674) (by decide +kernel)) rfl
theorem cd_yX1_writeSign : Cond.code yX1_writeSign cX1_writeSign 2 none ∈ G0 := gq (List.mem_of_getElem? (i := 675) (by decide +kernel)) rfl
theorem ml_X1_129 : Cond.methodLink RX1 129 yX1_takesMore ∈ G0 := gq (List.mem_of_getElem? (i := 676) (by decide +kernel)) rfl
theorem im_yX1_takesMore : Cond.instanceMethod yX1_takesMore ∈ G0 := gq (List.mem_of_getElem? (i := 678) (by decide +kernel)) rfl
theorem cd_yX1_takesMore : Cond.code yX1_takesMore cX1_takesMore 4 (some (FieldType.boolean)) ∈ G0 := gq (List.mem_of_getElem? (i := 679) (by decide +kernel)) rfl
theorem ml_X1_106 : Cond.methodLink RX1 106 yX1_markAt ∈ G0 := gq (List.mem_of_getElem? (i := 680) (by decide +kernel)) rfl
theorem im_yX1_markAt : Cond.instanceMethod yX1_markAt ∈ G0 := gq (List.mem_of_getElem? (i := 682) (by decide +kernel)) rfl
theorem cd_yX1_markAt : Cond.code yX1_markAt cX1_markAt 2 (some (FieldType.int)) ∈ G0 := gq (List.mem_of_getElem? (i := 683) (by decide +kernel)) rfl
theorem ml_X1_110 : Cond.methodLink RX1 110 yX1_writeCopy ∈ G0 := gq (List.mem_of_getElem? (i := 684) (by decide +kernel)) rfl
theorem im_yX1_writeCopy : Cond.instanceMethod yX1_writeCopy ∈ G0 := gq (List.mem_of_getElem? (i := 686) (by decide +kernel)) rfl
theorem cd_yX1_writeCopy : Cond.code yX1_writeCopy cX1_writeCopy 3 none ∈ G0 := gq (List.mem_of_getElem? (i := 687) (by decide +kernel)) rfl
theorem ml_X1_125 : Cond.methodLink RX1 125 yX1_moveSigns ∈ G0 := gq (List.mem_of_getElem? (i := 688) (by decide +kernel)) rfl
theorem im_yX1_moveSigns : Cond.instanceMethod yX1_moveSigns ∈ G0 := gq (List.mem_of_getElem? (i := 690) (by decide +kernel)) rfl
theorem cd_yX1_moveSigns : Cond.code yX1_moveSigns cX1_moveSigns 5 none ∈ G0 := gq (List.mem_of_getElem? (i := 691) (by decide +kernel)) rfl
theorem ml_X1_87 : Cond.methodLink RX1 87 yX1_letCallWait ∈ G0 := gq (List.mem_of_getElem? (i := 693) (by decide +kernel)) rfl
theorem im_yX1_letCallWait : Cond.instanceMethod yX1_letCallWait ∈ G0 := gq (List.mem_of_getElem? (i := 695) (by decide +kernel)) rfl
theorem cd_yX1_letCallWait : Cond.code yX1_letCallWait cX1_letCallWait 2 none ∈ G0 := gq (List.mem_of_getElem? (i := 696) (by decide +kernel)) rfl
theorem ml_X1_91 : Cond.methodLink RX1 91 yX1_finishCall ∈ G0 := gq (List.mem_of_getElem? (i := 697) (by decide +kernel)) rfl
theorem im_yX1_finishCall : Cond.instanceMethod yX1_finishCall ∈ G0 := gq (List.mem_of_getElem? (i := 699) (by decide +kernel)) rfl
theorem cd_yX1_finishCall : Cond.code yX1_finishCall cX1_finishCall 11 none ∈ G0 := gq (List.mem_of_getElem? (i := 700) (by decide +kernel)) rfl
theorem ml_X1_114 : Cond.methodLink RX1 114 yX1_endingOf ∈ G0 := gq (List.mem_of_getElem? (i := 701) (by decide +kernel)) rfl
theorem im_yX1_endingOf : Cond.instanceMethod yX1_endingOf ∈ G0 := gq (List.mem_of_getElem? (i := 703) (by decide +kernel)) rfl
theorem cd_yX1_endingOf : Cond.code yX1_endingOf cX1_endingOf 4 (some (FieldType.int)) ∈ G0 := gq (List.mem_of_getElem? (i := 704) (by decide +kernel)) rfl
theorem ml_X1_136 : Cond.methodLink RX1 136 yX5_definitionOf ∈ G0 := gq (List.mem_of_getElem? (i := 705) (by decide +kernel)) rfl
theorem ml_X1_118 : Cond.methodLink RX1 118 yX1_writeBody ∈ G0 := gq (List.mem_of_getElem? (i := 706) (by decide +kernel)) rfl
theorem im_yX1_writeBody : Cond.instanceMethod yX1_writeBody ∈ G0 := gq (List.mem_of_getElem? (i := 708) (by decide +kernel)) rfl
theorem cd_yX1_writeBody : Cond.code yX1_writeBody cX1_writeBody 7 none ∈ G0 := gq (List.mem_of_getElem? (i := 709) (by decide +kernel)) rfl
theorem ml_X1_73 : Cond.methodLink RX1 73 yJ9_max_7cf53 ∈ G0 := gq (List.mem_of_getElem? (i := 710) (by decide +kernel)) rfl
theorem ml_X1_122 : Cond.methodLink RX1 122 yX1_signOf ∈ G0 := gq (List.mem_of_getElem? (i := 711) (by decide +kernel)) rfl
theorem sm_yX1_signOf : Cond.static yX1_signOf ∈ G0 := gq (List.mem_of_getElem? (i := 712) (by decide +kernel)) rfl
theorem cd_yX1_signOf : Cond.code yX1_signOf cX1_signOf 1 (some (FieldType.int)) ∈ G0 := gq (List.mem_of_getElem? (i := 713) (by decide +kernel)) rfl
theorem ml_X1_132 : Cond.methodLink RX1 132 yX1_listCall ∈ G0 := gq (List.mem_of_getElem? (i := 714) (by decide +kernel)) rfl
theorem im_yX1_listCall : Cond.instanceMethod yX1_listCall ∈ G0 := gq (List.mem_of_getElem? (i := 716) (by decide +kernel)) rfl
theorem cd_yX1_listCall : Cond.code yX1_listCall cX1_listCall 8 none ∈ G0 := gq (List.mem_of_getElem? (i := 717) (by decide +kernel)) rfl
theorem ml_X7_107 : Cond.methodLink RX7 107 yX1_makeOutcome ∈ G0 := gq (List.mem_of_getElem? (i := 718) (by decide +kernel)) rfl
theorem im_yX1_makeOutcome : Cond.instanceMethod yX1_makeOutcome ∈ G0 := gq (List.mem_of_getElem? (i := 719) (by decide +kernel)) rfl
theorem se_yX1_makeOutcome : Cond.selects RX1 yX1_makeOutcome yX1_makeOutcome ∈ G0 := gq (List.mem_of_getElem? (i := 720) (by decide +kernel)) rfl
theorem cd_yX1_makeOutcome : Cond.code yX1_makeOutcome cX1_makeOutcome 3 (some ((FieldType.object "AbbreviationBook$Outcome"))) ∈ G0 := gq (List.mem_of_getElem? (i := 721) (by decide +kernel)) rfl
theorem ml_X1_67 : Cond.methodLink RX1 67 yJ9_min_7cf53 ∈ G0 := gq (List.mem_of_getElem? (i := 722) (by decide +kernel)) rfl
theorem cl_X1_76 : Cond.classLink RX1 76 RX3 ∈ G0 := gq (List.mem_of_getElem? (i := 723) (by decide +kernel)) rfl
theorem ml_X1_78 : Cond.methodLink RX1 78 yJ7_copyOf_59c91 ∈ G0 := gq (List.mem_of_getElem? (i := 724) (by decide +kernel)) rfl
theorem ml_X1_84 : Cond.methodLink RX1 84 yX3_init ∈ G0 := gq (List.mem_of_getElem? (i := 725) (by decide +kernel)) rfl
theorem ml_L_140 : Cond.methodLink RL 140 yL_hangs ∈ G0 := gq (List.mem_of_getElem? (i := 726) (by decide +kernel)) rfl
theorem sm_yL_hangs : Cond.static yL_hangs ∈ G0 := gq (List.mem_of_getElem? (i := 727) (by decide +kernel)) rfl
theorem ml_L_108 : Cond.methodLink RL 108 yL_sign ∈ G0 := gq (List.mem_of_getElem? (i := 729) (by decide +kernel)) rfl
theorem sm_yL_sign : Cond.static yL_sign ∈ G0 := gq (List.mem_of_getElem? (i := 730) (by decide +kernel)) rfl
theorem ml_L_34 : Cond.methodLink RL 34 yX7_sign ∈ G0 := gq (List.mem_of_getElem? (i := 732) (by decide +kernel)) rfl
theorem im_yX7_sign : Cond.instanceMethod yX7_sign ∈ G0 := gq (List.mem_of_getElem? (i := 733) (by decide +kernel)) rfl
theorem se_yX7_sign : Cond.selects RX7 yX7_sign yX7_sign ∈ G0 := gq (List.mem_of_getElem? (i := 734) (by decide +kernel)) rfl
theorem cd_yX7_sign : Cond.code yX7_sign cX7_sign 3 (some (FieldType.int)) ∈ G0 := gq (List.mem_of_getElem? (i := 735) (by decide +kernel)) rfl
theorem ml_L_110 : Cond.methodLink RL 110 yL_trace ∈ G0 := gq (List.mem_of_getElem? (i := 737) (by decide +kernel)) rfl
theorem sm_yL_trace : Cond.static yL_trace ∈ G0 := gq (List.mem_of_getElem? (i := 738) (by decide +kernel)) rfl
theorem ml_L_59 : Cond.methodLink RL 59 yX7_trace ∈ G0 := gq (List.mem_of_getElem? (i := 740) (by decide +kernel)) rfl
theorem im_yX7_trace : Cond.instanceMethod yX7_trace ∈ G0 := gq (List.mem_of_getElem? (i := 741) (by decide +kernel)) rfl
theorem se_yX7_trace : Cond.selects RX7 yX7_trace yX7_trace ∈ G0 := gq (List.mem_of_getElem? (i := 742) (by decide +kernel)) rfl
theorem cd_yX7_trace : Cond.code yX7_trace cX7_trace 3 (some (FieldType.int)) ∈ G0 := gq (List.mem_of_getElem? (i := 743) (by decide +kernel)) rfl
theorem ml_X7_230 : Cond.methodLink RX7 230 yX3_numberOfCall ∈ G0 := gq (List.mem_of_getElem? (i := 744) (by decide +kernel)) rfl
theorem im_yX3_numberOfCall : Cond.instanceMethod yX3_numberOfCall ∈ G0 := gq (List.mem_of_getElem? (i := 745) (by decide +kernel)) rfl
theorem se_yX3_numberOfCall : Cond.selects RX3 yX3_numberOfCall yX3_numberOfCall ∈ G0 := gq (List.mem_of_getElem? (i := 746) (by decide +kernel)) rfl
theorem cd_yX3_numberOfCall : Cond.code yX3_numberOfCall cX3_numberOfCall 3 (some (FieldType.int)) ∈ G0 := gq (List.mem_of_getElem? (i := 747) (by decide +kernel)) rfl
theorem ml_X3_25 : Cond.methodLink RX3 25 yX3_listedCalls ∈ G0 := gq (List.mem_of_getElem? (i := 748) (by decide +kernel)) rfl
theorem ml_L_114 : Cond.methodLink RL 114 yL_body ∈ G0 := gq (List.mem_of_getElem? (i := 749) (by decide +kernel)) rfl
theorem sm_yL_body : Cond.static yL_body ∈ G0 := gq (List.mem_of_getElem? (i := 750) (by decide +kernel)) rfl
theorem ml_L_43 : Cond.methodLink RL 43 yX7_body ∈ G0 := gq (List.mem_of_getElem? (i := 752) (by decide +kernel)) rfl
theorem im_yX7_body : Cond.instanceMethod yX7_body ∈ G0 := gq (List.mem_of_getElem? (i := 753) (by decide +kernel)) rfl
theorem se_yX7_body : Cond.selects RX7 yX7_body yX7_body ∈ G0 := gq (List.mem_of_getElem? (i := 754) (by decide +kernel)) rfl
theorem cd_yX7_body : Cond.code yX7_body cX7_body 4 (some (FieldType.int)) ∈ G0 := gq (List.mem_of_getElem? (i := 755) (by decide +kernel)) rfl
theorem ml_L_116 : Cond.methodLink RL 116 yX7_rings ∈ G0 := gq (List.mem_of_getElem? (i := 756) (by decide +kernel)) rfl
theorem im_yX7_rings : Cond.instanceMethod yX7_rings ∈ G0 := gq (List.mem_of_getElem? (i := 757) (by decide +kernel)) rfl
theorem se_yX7_rings : Cond.selects RX7 yX7_rings yX7_rings ∈ G0 := gq (List.mem_of_getElem? (i := 758) (by decide +kernel)) rfl
theorem cd_yX7_rings : Cond.code yX7_rings cX7_rings 1 (some (FieldType.int)) ∈ G0 := gq (List.mem_of_getElem? (i := 759) (by decide +kernel)) rfl
theorem ml_X7_185 : Cond.methodLink RX7 185 yX0_takeFrom ∈ G0 := gq (List.mem_of_getElem? (i := 760) (by decide +kernel)) rfl
theorem im_yX0_takeFrom : Cond.instanceMethod yX0_takeFrom ∈ G0 := gq (List.mem_of_getElem? (i := 761) (by decide +kernel)) rfl
theorem se_yX0_takeFrom : Cond.selects RX0 yX0_takeFrom yX0_takeFrom ∈ G0 := gq (List.mem_of_getElem? (i := 762) (by decide +kernel)) rfl
theorem cd_yX0_takeFrom : Cond.code yX0_takeFrom cX0_takeFrom 4 none ∈ G0 := gq (List.mem_of_getElem? (i := 763) (by decide +kernel)) rfl
theorem ml_X0_22 : Cond.methodLink RX0 22 yX5_definedSet ∈ G0 := gq (List.mem_of_getElem? (i := 764) (by decide +kernel)) rfl
theorem ml_X0_28 : Cond.methodLink RX0 28 yX5_definitionOf ∈ G0 := gq (List.mem_of_getElem? (i := 765) (by decide +kernel)) rfl
theorem ml_X7_201 : Cond.methodLink RX7 201 yX0_inRings ∈ G0 := gq (List.mem_of_getElem? (i := 766) (by decide +kernel)) rfl
theorem im_yX0_inRings : Cond.instanceMethod yX0_inRings ∈ G0 := gq (List.mem_of_getElem? (i := 767) (by decide +kernel)) rfl
theorem se_yX0_inRings : Cond.selects RX0 yX0_inRings yX0_inRings ∈ G0 := gq (List.mem_of_getElem? (i := 768) (by decide +kernel)) rfl
theorem cd_yX0_inRings : Cond.code yX0_inRings cX0_inRings 3 (some (FieldType.int)) ∈ G0 := gq (List.mem_of_getElem? (i := 769) (by decide +kernel)) rfl
theorem ml_X0_40 : Cond.methodLink RX0 40 yX0_followCalls ∈ G0 := gq (List.mem_of_getElem? (i := 770) (by decide +kernel)) rfl
theorem im_yX0_followCalls : Cond.instanceMethod yX0_followCalls ∈ G0 := gq (List.mem_of_getElem? (i := 772) (by decide +kernel)) rfl
theorem cd_yX0_followCalls : Cond.code yX0_followCalls cX0_followCalls 3 none ∈ G0 := gq (List.mem_of_getElem? (i := 773) (by decide +kernel)) rfl
theorem ml_X0_43 : Cond.methodLink RX0 43 yX0_holds ∈ G0 := gq (List.mem_of_getElem? (i := 774) (by decide +kernel)) rfl
theorem sm_yX0_holds : Cond.static yX0_holds ∈ G0 := gq (List.mem_of_getElem? (i := 775) (by decide +kernel)) rfl
theorem cd_yX0_holds : Cond.code yX0_holds cX0_holds 2 (some (FieldType.boolean)) ∈ G0 := gq (List.mem_of_getElem? (i := 776) (by decide +kernel)) rfl
theorem ml_L_119 : Cond.methodLink RL 119 yL_uses ∈ G0 := gq (List.mem_of_getElem? (i := 778) (by decide +kernel)) rfl
theorem sm_yL_uses : Cond.static yL_uses ∈ G0 := gq (List.mem_of_getElem? (i := 779) (by decide +kernel)) rfl
theorem ml_L_47 : Cond.methodLink RL 47 yX7_uses ∈ G0 := gq (List.mem_of_getElem? (i := 781) (by decide +kernel)) rfl
theorem im_yX7_uses : Cond.instanceMethod yX7_uses ∈ G0 := gq (List.mem_of_getElem? (i := 782) (by decide +kernel)) rfl
theorem se_yX7_uses : Cond.selects RX7 yX7_uses yX7_uses ∈ G0 := gq (List.mem_of_getElem? (i := 783) (by decide +kernel)) rfl
theorem cd_yX7_uses : Cond.code yX7_uses cX7_uses 3 (some (FieldType.int)) ∈ G0 := gq (List.mem_of_getElem? (i := 784) (by decide +kernel)) rfl
theorem ml_X7_188 : Cond.methodLink RX7 188 yX0_calledBy ∈ G0 := gq (List.mem_of_getElem? (i := 785) (by decide +kernel)) rfl
theorem im_yX0_calledBy : Cond.instanceMethod yX0_calledBy ∈ G0 := gq (List.mem_of_getElem? (i := 786) (by decide +kernel)) rfl
theorem se_yX0_calledBy : Cond.selects RX0 yX0_calledBy yX0_calledBy ∈ G0 := gq (List.mem_of_getElem? (i := 787) (by decide +kernel)) rfl
theorem cd_yX0_calledBy : Cond.code yX0_calledBy cX0_calledBy 2 (some (FieldType.int)) ∈ G0 := gq (List.mem_of_getElem? (i := 788) (by decide +kernel)) rfl
theorem ml_X7_192 : Cond.methodLink RX7 192 yX0_reachedFrom ∈ G0 := gq (List.mem_of_getElem? (i := 789) (by decide +kernel)) rfl
theorem im_yX0_reachedFrom : Cond.instanceMethod yX0_reachedFrom ∈ G0 := gq (List.mem_of_getElem? (i := 790) (by decide +kernel)) rfl
theorem se_yX0_reachedFrom : Cond.selects RX0 yX0_reachedFrom yX0_reachedFrom ∈ G0 := gq (List.mem_of_getElem? (i := 791) (by decide +kernel)) rfl
theorem cd_yX0_reachedFrom : Cond.code yX0_reachedFrom cX0_reachedFrom 2 (some (FieldType.int)) ∈ G0 := gq (List.mem_of_getElem? (i := 792) (by decide +kernel)) rfl
theorem ml_X7_195 : Cond.methodLink RX7 195 yX0_callersOf ∈ G0 := gq (List.mem_of_getElem? (i := 793) (by decide +kernel)) rfl
theorem im_yX0_callersOf : Cond.instanceMethod yX0_callersOf ∈ G0 := gq (List.mem_of_getElem? (i := 794) (by decide +kernel)) rfl
theorem se_yX0_callersOf : Cond.selects RX0 yX0_callersOf yX0_callersOf ∈ G0 := gq (List.mem_of_getElem? (i := 795) (by decide +kernel)) rfl
theorem cd_yX0_callersOf : Cond.code yX0_callersOf cX0_callersOf 4 (some (FieldType.int)) ∈ G0 := gq (List.mem_of_getElem? (i := 796) (by decide +kernel)) rfl
theorem ml_X7_198 : Cond.methodLink RX7 198 yX0_reaching ∈ G0 := gq (List.mem_of_getElem? (i := 797) (by decide +kernel)) rfl
theorem im_yX0_reaching : Cond.instanceMethod yX0_reaching ∈ G0 := gq (List.mem_of_getElem? (i := 798) (by decide +kernel)) rfl
theorem se_yX0_reaching : Cond.selects RX0 yX0_reaching yX0_reaching ∈ G0 := gq (List.mem_of_getElem? (i := 799) (by decide +kernel)) rfl
theorem cd_yX0_reaching : Cond.code yX0_reaching cX0_reaching 4 (some (FieldType.int)) ∈ G0 := gq (List.mem_of_getElem? (i := 800) (by decide +kernel)) rfl
theorem ml_L_121 : Cond.methodLink RL 121 yL_chain ∈ G0 := gq (List.mem_of_getElem? (i := 801) (by decide +kernel)) rfl
theorem sm_yL_chain : Cond.static yL_chain ∈ G0 := gq (List.mem_of_getElem? (i := 802) (by decide +kernel)) rfl
theorem ml_L_50 : Cond.methodLink RL 50 yX7_chain ∈ G0 := gq (List.mem_of_getElem? (i := 804) (by decide +kernel)) rfl
theorem im_yX7_chain : Cond.instanceMethod yX7_chain ∈ G0 := gq (List.mem_of_getElem? (i := 805) (by decide +kernel)) rfl
theorem se_yX7_chain : Cond.selects RX7 yX7_chain yX7_chain ∈ G0 := gq (List.mem_of_getElem? (i := 806) (by decide +kernel)) rfl
theorem cd_yX7_chain : Cond.code yX7_chain cX7_chain 2 (some (FieldType.int)) ∈ G0 := gq (List.mem_of_getElem? (i := 807) (by decide +kernel)) rfl
theorem ml_X7_207 : Cond.methodLink RX7 207 yX0_longestChain ∈ G0 := gq (List.mem_of_getElem? (i := 808) (by decide +kernel)) rfl
theorem im_yX0_longestChain : Cond.instanceMethod yX0_longestChain ∈ G0 := gq (List.mem_of_getElem? (i := 809) (by decide +kernel)) rfl
theorem se_yX0_longestChain : Cond.selects RX0 yX0_longestChain yX0_longestChain ∈ G0 := gq (List.mem_of_getElem? (i := 810) (by decide +kernel)) rfl
theorem cd_yX0_longestChain : Cond.code yX0_longestChain cX0_longestChain 4 (some (FieldType.int)) ∈ G0 := gq (List.mem_of_getElem? (i := 811) (by decide +kernel)) rfl
theorem ml_X0_47 : Cond.methodLink RX0 47 yX0_calledInBodiesOf ∈ G0 := gq (List.mem_of_getElem? (i := 812) (by decide +kernel)) rfl
theorem im_yX0_calledInBodiesOf : Cond.instanceMethod yX0_calledInBodiesOf ∈ G0 := gq (List.mem_of_getElem? (i := 814) (by decide +kernel)) rfl
theorem cd_yX0_calledInBodiesOf : Cond.code yX0_calledInBodiesOf cX0_calledInBodiesOf 4 (some (FieldType.int)) ∈ G0 := gq (List.mem_of_getElem? (i := 815) (by decide +kernel)) rfl
theorem ml_L_123 : Cond.methodLink RL 123 yL_lengthOf ∈ G0 := gq (List.mem_of_getElem? (i := 816) (by decide +kernel)) rfl
theorem sm_yL_lengthOf : Cond.static yL_lengthOf ∈ G0 := gq (List.mem_of_getElem? (i := 817) (by decide +kernel)) rfl
theorem ml_L_62 : Cond.methodLink RL 62 yX7_lengthOf ∈ G0 := gq (List.mem_of_getElem? (i := 819) (by decide +kernel)) rfl
theorem im_yX7_lengthOf : Cond.instanceMethod yX7_lengthOf ∈ G0 := gq (List.mem_of_getElem? (i := 820) (by decide +kernel)) rfl
theorem se_yX7_lengthOf : Cond.selects RX7 yX7_lengthOf yX7_lengthOf ∈ G0 := gq (List.mem_of_getElem? (i := 821) (by decide +kernel)) rfl
theorem cd_yX7_lengthOf : Cond.code yX7_lengthOf cX7_lengthOf 4 (some (FieldType.int)) ∈ G0 := gq (List.mem_of_getElem? (i := 822) (by decide +kernel)) rfl
theorem ml_X7_235 : Cond.methodLink RX7 235 yX1_measureCall ∈ G0 := gq (List.mem_of_getElem? (i := 824) (by decide +kernel)) rfl
theorem im_yX1_measureCall : Cond.instanceMethod yX1_measureCall ∈ G0 := gq (List.mem_of_getElem? (i := 825) (by decide +kernel)) rfl
theorem se_yX1_measureCall : Cond.selects RX1 yX1_measureCall yX1_measureCall ∈ G0 := gq (List.mem_of_getElem? (i := 826) (by decide +kernel)) rfl
theorem cd_yX1_measureCall : Cond.code yX1_measureCall cX1_measureCall 6 (some (FieldType.int)) ∈ G0 := gq (List.mem_of_getElem? (i := 827) (by decide +kernel)) rfl
theorem ml_L_129 : Cond.methodLink RL 129 yX7_missing ∈ G0 := gq (List.mem_of_getElem? (i := 828) (by decide +kernel)) rfl
theorem im_yX7_missing : Cond.instanceMethod yX7_missing ∈ G0 := gq (List.mem_of_getElem? (i := 829) (by decide +kernel)) rfl
theorem se_yX7_missing : Cond.selects RX7 yX7_missing yX7_missing ∈ G0 := gq (List.mem_of_getElem? (i := 830) (by decide +kernel)) rfl
theorem cd_yX7_missing : Cond.code yX7_missing cX7_missing 1 (some (FieldType.int)) ∈ G0 := gq (List.mem_of_getElem? (i := 831) (by decide +kernel)) rfl
theorem ml_X7_204 : Cond.methodLink RX7 204 yX0_calledButNotDefined ∈ G0 := gq (List.mem_of_getElem? (i := 832) (by decide +kernel)) rfl
theorem im_yX0_calledButNotDefined : Cond.instanceMethod yX0_calledButNotDefined ∈ G0 := gq (List.mem_of_getElem? (i := 833) (by decide +kernel)) rfl
theorem se_yX0_calledButNotDefined : Cond.selects RX0 yX0_calledButNotDefined yX0_calledButNotDefined ∈ G0 := gq (List.mem_of_getElem? (i := 834) (by decide +kernel)) rfl
theorem cd_yX0_calledButNotDefined : Cond.code yX0_calledButNotDefined cX0_calledButNotDefined 1 (some (FieldType.int)) ∈ G0 := gq (List.mem_of_getElem? (i := 835) (by decide +kernel)) rfl
theorem ml_L_156 : Cond.methodLink RL 156 yL_same ∈ G0 := gq (List.mem_of_getElem? (i := 836) (by decide +kernel)) rfl
theorem sm_yL_same : Cond.static yL_same ∈ G0 := gq (List.mem_of_getElem? (i := 837) (by decide +kernel)) rfl
theorem cd_yL_same : Cond.code yL_same cL_same 4 (some (FieldType.boolean)) ∈ G0 := gq (List.mem_of_getElem? (i := 838) (by decide +kernel)) rfl
theorem ml_L_160 : Cond.methodLink RL 160 yL_isLength ∈ G0 := gq (List.mem_of_getElem? (i := 839) (by decide +kernel)) rfl
theorem sm_yL_isLength : Cond.static yL_isLength ∈ G0 := gq (List.mem_of_getElem? (i := 840) (by decide +kernel)) rfl
theorem cd_yL_isLength : Cond.code yL_isLength cL_isLength 8 (some (FieldType.boolean)) ∈ G0 := gq (List.mem_of_getElem? (i := 841) (by decide +kernel)) rfl
theorem ml_L_152 : Cond.methodLink RL 152 yL_refuses ∈ G0 := gq (List.mem_of_getElem? (i := 842) (by decide +kernel)) rfl
theorem sm_yL_refuses : Cond.static yL_refuses ∈ G0 := gq (List.mem_of_getElem? (i := 843) (by decide +kernel)) rfl
theorem cd_yL_refuses : Cond.code yL_refuses cL_refuses 4 (some (FieldType.boolean)) ∈ G0 := gq (List.mem_of_getElem? (i := 844) (by decide +kernel)) rfl
theorem ml_L_132 : Cond.methodLink RL 132 yL_load ∈ G0 := gq (List.mem_of_getElem? (i := 845) (by decide +kernel)) rfl
theorem sm_yL_load : Cond.static yL_load ∈ G0 := gq (List.mem_of_getElem? (i := 846) (by decide +kernel)) rfl
theorem ml_L_65 : Cond.methodLink RL 65 yX7_load ∈ G0 := gq (List.mem_of_getElem? (i := 848) (by decide +kernel)) rfl
theorem im_yX7_load : Cond.instanceMethod yX7_load ∈ G0 := gq (List.mem_of_getElem? (i := 849) (by decide +kernel)) rfl
theorem se_yX7_load : Cond.selects RX7 yX7_load yX7_load ∈ G0 := gq (List.mem_of_getElem? (i := 850) (by decide +kernel)) rfl
theorem cd_yX7_load : Cond.code yX7_load cX7_load 5 (some (FieldType.int)) ∈ G0 := gq (List.mem_of_getElem? (i := 851) (by decide +kernel)) rfl
theorem ml_L_134 : Cond.methodLink RL 134 yL_ifDefined ∈ G0 := gq (List.mem_of_getElem? (i := 852) (by decide +kernel)) rfl
theorem sm_yL_ifDefined : Cond.static yL_ifDefined ∈ G0 := gq (List.mem_of_getElem? (i := 853) (by decide +kernel)) rfl
theorem ml_L_53 : Cond.methodLink RL 53 yX7_ifDefined ∈ G0 := gq (List.mem_of_getElem? (i := 855) (by decide +kernel)) rfl
theorem im_yX7_ifDefined : Cond.instanceMethod yX7_ifDefined ∈ G0 := gq (List.mem_of_getElem? (i := 856) (by decide +kernel)) rfl
theorem se_yX7_ifDefined : Cond.selects RX7 yX7_ifDefined yX7_ifDefined ∈ G0 := gq (List.mem_of_getElem? (i := 857) (by decide +kernel)) rfl
theorem cd_yX7_ifDefined : Cond.code yX7_ifDefined cX7_ifDefined 2 (some (FieldType.int)) ∈ G0 := gq (List.mem_of_getElem? (i := 858) (by decide +kernel)) rfl
theorem ml_X7_213 : Cond.methodLink RX7 213 yX0_tryBody ∈ G0 := gq (List.mem_of_getElem? (i := 859) (by decide +kernel)) rfl
theorem im_yX0_tryBody : Cond.instanceMethod yX0_tryBody ∈ G0 := gq (List.mem_of_getElem? (i := 860) (by decide +kernel)) rfl
theorem se_yX0_tryBody : Cond.selects RX0 yX0_tryBody yX0_tryBody ∈ G0 := gq (List.mem_of_getElem? (i := 861) (by decide +kernel)) rfl
theorem cd_yX0_tryBody : Cond.code yX0_tryBody cX0_tryBody 3 none ∈ G0 := gq (List.mem_of_getElem? (i := 862) (by decide +kernel)) rfl
theorem wl_X0 : ∀ w ∈ u_ws RX0 TX0 3, w ∈ G0 := fun w h => gq ((show ∀ w ∈ u_ws RX0 TX0 3, w ∈ lw_tbl by decide +kernel) w h) ((show ∀ w ∈ u_ws RX0 TX0 3, goodWord w = true by decide +kernel) w h)
theorem wl_X1 : ∀ w ∈ u_ws RX1 TX1 14, w ∈ G0 := fun w h => gq ((show ∀ w ∈ u_ws RX1 TX1 14, w ∈ lw_tbl by decide +kernel) w h) ((show ∀ w ∈ u_ws RX1 TX1 14, goodWord w = true by decide +kernel) w h)
theorem wl_X2 : ∀ w ∈ u_ws RX2 TX2 4, w ∈ G0 := fun w h => gq ((show ∀ w ∈ u_ws RX2 TX2 4, w ∈ lw_tbl by decide +kernel) w h) ((show ∀ w ∈ u_ws RX2 TX2 4, goodWord w = true by decide +kernel) w h)
theorem wl_X3 : ∀ w ∈ u_ws RX3 TX3 4, w ∈ G0 := fun w h => gq ((show ∀ w ∈ u_ws RX3 TX3 4, w ∈ lw_tbl by decide +kernel) w h) ((show ∀ w ∈ u_ws RX3 TX3 4, goodWord w = true by decide +kernel) w h)
theorem wl_X4 : ∀ w ∈ u_ws RX4 TX4 10, w ∈ G0 := fun w h => gq ((show ∀ w ∈ u_ws RX4 TX4 10, w ∈ lw_tbl by decide +kernel) w h) ((show ∀ w ∈ u_ws RX4 TX4 10, goodWord w = true by decide +kernel) w h)
theorem wl_X5 : ∀ w ∈ u_ws RX5 TX5 5, w ∈ G0 := fun w h => gq ((show ∀ w ∈ u_ws RX5 TX5 5, w ∈ lw_tbl by decide +kernel) w h) ((show ∀ w ∈ u_ws RX5 TX5 5, goodWord w = true by decide +kernel) w h)
theorem wl_X6 : ∀ w ∈ u_ws RX6 TX6 7, w ∈ G0 := fun w h => gq ((show ∀ w ∈ u_ws RX6 TX6 7, w ∈ lw_tbl by decide +kernel) w h) ((show ∀ w ∈ u_ws RX6 TX6 7, goodWord w = true by decide +kernel) w h)
theorem wl_X7 : ∀ w ∈ u_ws RX7 TX7 7, w ∈ G0 := fun w h => gq ((show ∀ w ∈ u_ws RX7 TX7 7, w ∈ lw_tbl by decide +kernel) w h) ((show ∀ w ∈ u_ws RX7 TX7 7, goodWord w = true by decide +kernel) w h)
