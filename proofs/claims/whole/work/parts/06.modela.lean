/-! THE REFERENCE, laid by wip/whole/walk.py: F8_: what a method does; c8_: the machine does it -/
theorem g_X8_102 : GoodIn G0 (va_wsS RX8 102 yX8_in (gw yX8_in cX8_in 3 (some (FieldType.boolean)))) := gsS_in ml_X8_102 sm_yX8_in ini_X8 cd_yX8_in
theorem hs_yX8_in : yX8_in.cls ≠ "java/lang/invoke/MethodHandle" ∧ yX8_in.cls ≠ "java/lang/invoke/VarHandle" ∧ (parseMethodDescriptor yX8_in.desc).map (fun d => d.parameters.length) = some 3 := by decide +kernel
theorem g_X8_112 : GoodIn G0 (wsV RX8 112 RX8 yX8_isDefined (gw yX8_isDefined cX8_isDefined 2 (some (FieldType.boolean)))) := gv_in ml_X8_112 im_yX8_isDefined se_yX8_isDefined ini_X8 cd_yX8_isDefined
theorem hd_yX8_isDefined : yX8_isDefined.cls = RX8 ∧ yX8_isDefined.cls ≠ "java/lang/invoke/MethodHandle" ∧ yX8_isDefined.cls ≠ "java/lang/invoke/VarHandle" ∧ (parseMethodDescriptor yX8_isDefined.desc).map (fun d => d.parameters.length) = some 1 := by decide +kernel
theorem g_X8_116 : GoodIn G0 (wsV RX8 116 RX8 yX8_refused (gw yX8_refused cX8_refused 2 (some (FieldType.boolean)))) := gv_in ml_X8_116 im_yX8_refused se_yX8_refused ini_X8 cd_yX8_refused
theorem hd_yX8_refused : yX8_refused.cls = RX8 ∧ yX8_refused.cls ≠ "java/lang/invoke/MethodHandle" ∧ yX8_refused.cls ≠ "java/lang/invoke/VarHandle" ∧ (parseMethodDescriptor yX8_refused.desc).map (fun d => d.parameters.length) = some 1 := by decide +kernel
theorem g_X8_122 : GoodIn G0 (va_wsS RX8 122 yX8_isPlain (gw yX8_isPlain cX8_isPlain 1 (some (FieldType.boolean)))) := gsS_in ml_X8_122 sm_yX8_isPlain ini_X8 cd_yX8_isPlain
theorem hs_yX8_isPlain : yX8_isPlain.cls ≠ "java/lang/invoke/MethodHandle" ∧ yX8_isPlain.cls ≠ "java/lang/invoke/VarHandle" ∧ (parseMethodDescriptor yX8_isPlain.desc).map (fun d => d.parameters.length) = some 1 := by decide +kernel
theorem g_X8_125 : GoodIn G0 (va_wsS RX8 125 yX8_isCall (gw yX8_isCall cX8_isCall 1 (some (FieldType.boolean)))) := gsS_in ml_X8_125 sm_yX8_isCall ini_X8 cd_yX8_isCall
theorem hs_yX8_isCall : yX8_isCall.cls ≠ "java/lang/invoke/MethodHandle" ∧ yX8_isCall.cls ≠ "java/lang/invoke/VarHandle" ∧ (parseMethodDescriptor yX8_isCall.desc).map (fun d => d.parameters.length) = some 1 := by decide +kernel
theorem g_X8_128 : GoodIn G0 (wsV RX8 128 RX8 yX8_error (gw yX8_error cX8_error 5 (some (FieldType.int)))) := gv_in ml_X8_128 im_yX8_error se_yX8_error ini_X8 cd_yX8_error
theorem hd_yX8_error : yX8_error.cls = RX8 ∧ yX8_error.cls ≠ "java/lang/invoke/MethodHandle" ∧ yX8_error.cls ≠ "java/lang/invoke/VarHandle" ∧ (parseMethodDescriptor yX8_error.desc).map (fun d => d.parameters.length) = some 0 := by decide +kernel
theorem g_X8_132 : GoodIn G0 (va_wsS RX8 132 yX8_isLetter (gw yX8_isLetter cX8_isLetter 1 (some (FieldType.boolean)))) := gsS_in ml_X8_132 sm_yX8_isLetter ini_X8 cd_yX8_isLetter
theorem hs_yX8_isLetter : yX8_isLetter.cls ≠ "java/lang/invoke/MethodHandle" ∧ yX8_isLetter.cls ≠ "java/lang/invoke/VarHandle" ∧ (parseMethodDescriptor yX8_isLetter.desc).map (fun d => d.parameters.length) = some 1 := by decide +kernel
theorem g_X8_135 : GoodIn G0 (wsV RX8 135 RX8 yX8_signOf (gw yX8_signOf cX8_signOf 3 (some (FieldType.int)))) := gv_in ml_X8_135 im_yX8_signOf se_yX8_signOf ini_X8 cd_yX8_signOf
theorem hd_yX8_signOf : yX8_signOf.cls = RX8 ∧ yX8_signOf.cls ≠ "java/lang/invoke/MethodHandle" ∧ yX8_signOf.cls ≠ "java/lang/invoke/VarHandle" ∧ (parseMethodDescriptor yX8_signOf.desc).map (fun d => d.parameters.length) = some 2 := by decide +kernel
theorem g_X8_139 : GoodIn G0 (wsV RX8 139 RX8 yX8_isWhole (gw yX8_isWhole cX8_isWhole 1 (some (FieldType.boolean)))) := gv_in ml_X8_139 im_yX8_isWhole se_yX8_isWhole ini_X8 cd_yX8_isWhole
theorem hd_yX8_isWhole : yX8_isWhole.cls = RX8 ∧ yX8_isWhole.cls ≠ "java/lang/invoke/MethodHandle" ∧ yX8_isWhole.cls ≠ "java/lang/invoke/VarHandle" ∧ (parseMethodDescriptor yX8_isWhole.desc).map (fun d => d.parameters.length) = some 0 := by decide +kernel
theorem g_X8_143 : GoodIn G0 (wsV RX8 143 RX8 yX8_saves (gw yX8_saves cX8_saves 2 none)) := gv_in ml_X8_143 im_yX8_saves se_yX8_saves ini_X8 cd_yX8_saves
theorem hd_yX8_saves : yX8_saves.cls = RX8 ∧ yX8_saves.cls ≠ "java/lang/invoke/MethodHandle" ∧ yX8_saves.cls ≠ "java/lang/invoke/VarHandle" ∧ (parseMethodDescriptor yX8_saves.desc).map (fun d => d.parameters.length) = some 0 := by decide +kernel
theorem g_X8_146 : GoodIn G0 (wsV RX8 146 RX8 yX8_lays (gw yX8_lays cX8_lays 3 none)) := gv_in ml_X8_146 im_yX8_lays se_yX8_lays ini_X8 cd_yX8_lays
theorem hd_yX8_lays : yX8_lays.cls = RX8 ∧ yX8_lays.cls ≠ "java/lang/invoke/MethodHandle" ∧ yX8_lays.cls ≠ "java/lang/invoke/VarHandle" ∧ (parseMethodDescriptor yX8_lays.desc).map (fun d => d.parameters.length) = some 1 := by decide +kernel
theorem g_X8_150 : GoodIn G0 (wsV RX8 150 RX8 yX8_holesOf (gw yX8_holesOf cX8_holesOf 5 (some (FieldType.int)))) := gv_in ml_X8_150 im_yX8_holesOf se_yX8_holesOf ini_X8 cd_yX8_holesOf
theorem hd_yX8_holesOf : yX8_holesOf.cls = RX8 ∧ yX8_holesOf.cls ≠ "java/lang/invoke/MethodHandle" ∧ yX8_holesOf.cls ≠ "java/lang/invoke/VarHandle" ∧ (parseMethodDescriptor yX8_holesOf.desc).map (fun d => d.parameters.length) = some 2 := by decide +kernel
theorem g_X8_153 : GoodIn G0 (wsV RX8 153 RX8 yX8_defined (gw yX8_defined cX8_defined 3 (some (FieldType.int)))) := gv_in ml_X8_153 im_yX8_defined se_yX8_defined ini_X8 cd_yX8_defined
theorem hd_yX8_defined : yX8_defined.cls = RX8 ∧ yX8_defined.cls ≠ "java/lang/invoke/MethodHandle" ∧ yX8_defined.cls ≠ "java/lang/invoke/VarHandle" ∧ (parseMethodDescriptor yX8_defined.desc).map (fun d => d.parameters.length) = some 0 := by decide +kernel
theorem g_X8_175 : GoodIn G0 (wsV RX8 175 RX8 yX8_isOpen (gw yX8_isOpen cX8_isOpen 4 (some (FieldType.boolean)))) := gv_in ml_X8_175 im_yX8_isOpen se_yX8_isOpen ini_X8 cd_yX8_isOpen
theorem hd_yX8_isOpen : yX8_isOpen.cls = RX8 ∧ yX8_isOpen.cls ≠ "java/lang/invoke/MethodHandle" ∧ yX8_isOpen.cls ≠ "java/lang/invoke/VarHandle" ∧ (parseMethodDescriptor yX8_isOpen.desc).map (fun d => d.parameters.length) = some 1 := by decide +kernel
theorem g_X8_178 : GoodIn G0 (wsV RX8 178 RX8 yX8_writes (gw yX8_writes cX8_writes 2 none)) := gv_in ml_X8_178 im_yX8_writes se_yX8_writes ini_X8 cd_yX8_writes
theorem hd_yX8_writes : yX8_writes.cls = RX8 ∧ yX8_writes.cls ≠ "java/lang/invoke/MethodHandle" ∧ yX8_writes.cls ≠ "java/lang/invoke/VarHandle" ∧ (parseMethodDescriptor yX8_writes.desc).map (fun d => d.parameters.length) = some 1 := by decide +kernel
theorem g_X8_181 : GoodIn G0 (wsV RX8 181 RX8 yX8_notes (gw yX8_notes cX8_notes 7 none)) := gv_in ml_X8_181 im_yX8_notes se_yX8_notes ini_X8 cd_yX8_notes
theorem hd_yX8_notes : yX8_notes.cls = RX8 ∧ yX8_notes.cls ≠ "java/lang/invoke/MethodHandle" ∧ yX8_notes.cls ≠ "java/lang/invoke/VarHandle" ∧ (parseMethodDescriptor yX8_notes.desc).map (fun d => d.parameters.length) = some 6 := by decide +kernel
theorem g_X8_185 : GoodIn G0 (wsV RX8 185 RX8 yX8_opens (gw yX8_opens cX8_opens 2 none)) := gv_in ml_X8_185 im_yX8_opens se_yX8_opens ini_X8 cd_yX8_opens
theorem hd_yX8_opens : yX8_opens.cls = RX8 ∧ yX8_opens.cls ≠ "java/lang/invoke/MethodHandle" ∧ yX8_opens.cls ≠ "java/lang/invoke/VarHandle" ∧ (parseMethodDescriptor yX8_opens.desc).map (fun d => d.parameters.length) = some 1 := by decide +kernel
theorem g_X8_191 : GoodIn G0 (wsV RX8 191 RX8 yX8_longOf (gw yX8_longOf cX8_longOf 2 (some (FieldType.int)))) := gv_in ml_X8_191 im_yX8_longOf se_yX8_longOf ini_X8 cd_yX8_longOf
theorem hd_yX8_longOf : yX8_longOf.cls = RX8 ∧ yX8_longOf.cls ≠ "java/lang/invoke/MethodHandle" ∧ yX8_longOf.cls ≠ "java/lang/invoke/VarHandle" ∧ (parseMethodDescriptor yX8_longOf.desc).map (fun d => d.parameters.length) = some 1 := by decide +kernel
theorem g_X8_195 : GoodIn G0 (wsV RX8 195 RX8 yX8_goesOn (gw yX8_goesOn cX8_goesOn 6 none)) := gv_in ml_X8_195 im_yX8_goesOn se_yX8_goesOn ini_X8 cd_yX8_goesOn
theorem hd_yX8_goesOn : yX8_goesOn.cls = RX8 ∧ yX8_goesOn.cls ≠ "java/lang/invoke/MethodHandle" ∧ yX8_goesOn.cls ≠ "java/lang/invoke/VarHandle" ∧ (parseMethodDescriptor yX8_goesOn.desc).map (fun d => d.parameters.length) = some 2 := by decide +kernel
theorem g_X8_199 : GoodIn G0 (wsV RX8 199 RX8 yX8_filling (gw yX8_filling cX8_filling 2 (some (FieldType.int)))) := gv_in ml_X8_199 im_yX8_filling se_yX8_filling ini_X8 cd_yX8_filling
theorem hd_yX8_filling : yX8_filling.cls = RX8 ∧ yX8_filling.cls ≠ "java/lang/invoke/MethodHandle" ∧ yX8_filling.cls ≠ "java/lang/invoke/VarHandle" ∧ (parseMethodDescriptor yX8_filling.desc).map (fun d => d.parameters.length) = some 0 := by decide +kernel
theorem g_X8_202 : GoodIn G0 (wsV RX8 202 RX8 yX8_reads (gw yX8_reads cX8_reads 3 none)) := gv_in ml_X8_202 im_yX8_reads se_yX8_reads ini_X8 cd_yX8_reads
theorem hd_yX8_reads : yX8_reads.cls = RX8 ∧ yX8_reads.cls ≠ "java/lang/invoke/MethodHandle" ∧ yX8_reads.cls ≠ "java/lang/invoke/VarHandle" ∧ (parseMethodDescriptor yX8_reads.desc).map (fun d => d.parameters.length) = some 0 := by decide +kernel
theorem g_X8_214 : GoodIn G0 (wsV RX8 214 RX8 yX8_skips (gw yX8_skips cX8_skips 4 none)) := gv_in ml_X8_214 im_yX8_skips se_yX8_skips ini_X8 cd_yX8_skips
theorem hd_yX8_skips : yX8_skips.cls = RX8 ∧ yX8_skips.cls ≠ "java/lang/invoke/MethodHandle" ∧ yX8_skips.cls ≠ "java/lang/invoke/VarHandle" ∧ (parseMethodDescriptor yX8_skips.desc).map (fun d => d.parameters.length) = some 0 := by decide +kernel
theorem g_X8_217 : GoodIn G0 (wsV RX8 217 RX8 yX8_puts (gw yX8_puts cX8_puts 2 none)) := gv_in ml_X8_217 im_yX8_puts se_yX8_puts ini_X8 cd_yX8_puts
theorem hd_yX8_puts : yX8_puts.cls = RX8 ∧ yX8_puts.cls ≠ "java/lang/invoke/MethodHandle" ∧ yX8_puts.cls ≠ "java/lang/invoke/VarHandle" ∧ (parseMethodDescriptor yX8_puts.desc).map (fun d => d.parameters.length) = some 1 := by decide +kernel
theorem g_X8_220 : GoodIn G0 (wsV RX8 220 RX8 yX8_enters (gw yX8_enters cX8_enters 4 none)) := gv_in ml_X8_220 im_yX8_enters se_yX8_enters ini_X8 cd_yX8_enters
theorem hd_yX8_enters : yX8_enters.cls = RX8 ∧ yX8_enters.cls ≠ "java/lang/invoke/MethodHandle" ∧ yX8_enters.cls ≠ "java/lang/invoke/VarHandle" ∧ (parseMethodDescriptor yX8_enters.desc).map (fun d => d.parameters.length) = some 3 := by decide +kernel
theorem g_X8_224 : GoodIn G0 (wsV RX8 224 RX8 yX8_calls (gw yX8_calls cX8_calls 7 none)) := gv_in ml_X8_224 im_yX8_calls se_yX8_calls ini_X8 cd_yX8_calls
theorem hd_yX8_calls : yX8_calls.cls = RX8 ∧ yX8_calls.cls ≠ "java/lang/invoke/MethodHandle" ∧ yX8_calls.cls ≠ "java/lang/invoke/VarHandle" ∧ (parseMethodDescriptor yX8_calls.desc).map (fun d => d.parameters.length) = some 1 := by decide +kernel
theorem g_X8_226 : GoodIn G0 (wsV RX8 226 RX8 yX8_fills (gw yX8_fills cX8_fills 3 none)) := gv_in ml_X8_226 im_yX8_fills se_yX8_fills ini_X8 cd_yX8_fills
theorem hd_yX8_fills : yX8_fills.cls = RX8 ∧ yX8_fills.cls ≠ "java/lang/invoke/MethodHandle" ∧ yX8_fills.cls ≠ "java/lang/invoke/VarHandle" ∧ (parseMethodDescriptor yX8_fills.desc).map (fun d => d.parameters.length) = some 0 := by decide +kernel
theorem g_X8_229 : GoodIn G0 (wsV RX8 229 RX8 yX8_begins (gw yX8_begins cX8_begins 2 none)) := gv_in ml_X8_229 im_yX8_begins se_yX8_begins ini_X8 cd_yX8_begins
theorem hd_yX8_begins : yX8_begins.cls = RX8 ∧ yX8_begins.cls ≠ "java/lang/invoke/MethodHandle" ∧ yX8_begins.cls ≠ "java/lang/invoke/VarHandle" ∧ (parseMethodDescriptor yX8_begins.desc).map (fun d => d.parameters.length) = some 1 := by decide +kernel
theorem g_X8_232 : GoodIn G0 (wsV RX8 232 RX8 yX8_measures (gw yX8_measures cX8_measures 1 (some (FieldType.boolean)))) := gv_in ml_X8_232 im_yX8_measures se_yX8_measures ini_X8 cd_yX8_measures
theorem hd_yX8_measures : yX8_measures.cls = RX8 ∧ yX8_measures.cls ≠ "java/lang/invoke/MethodHandle" ∧ yX8_measures.cls ≠ "java/lang/invoke/VarHandle" ∧ (parseMethodDescriptor yX8_measures.desc).map (fun d => d.parameters.length) = some 0 := by decide +kernel
theorem g_X8_235 : GoodIn G0 (wsV RX8 235 RX8 yX8_spells (gw yX8_spells cX8_spells 2 none)) := gv_in ml_X8_235 im_yX8_spells se_yX8_spells ini_X8 cd_yX8_spells
theorem hd_yX8_spells : yX8_spells.cls = RX8 ∧ yX8_spells.cls ≠ "java/lang/invoke/MethodHandle" ∧ yX8_spells.cls ≠ "java/lang/invoke/VarHandle" ∧ (parseMethodDescriptor yX8_spells.desc).map (fun d => d.parameters.length) = some 0 := by decide +kernel
theorem g_X8_238 : GoodIn G0 (wsV RX8 238 RX8 yX8_callsOf (gw yX8_callsOf cX8_callsOf 4 (some (FieldType.int)))) := gv_in ml_X8_238 im_yX8_callsOf se_yX8_callsOf ini_X8 cd_yX8_callsOf
theorem hd_yX8_callsOf : yX8_callsOf.cls = RX8 ∧ yX8_callsOf.cls ≠ "java/lang/invoke/MethodHandle" ∧ yX8_callsOf.cls ≠ "java/lang/invoke/VarHandle" ∧ (parseMethodDescriptor yX8_callsOf.desc).map (fun d => d.parameters.length) = some 1 := by decide +kernel
theorem g_X8_241 : GoodIn G0 (wsV RX8 241 RX8 yX8_mostOf (gw yX8_mostOf cX8_mostOf 8 (some (FieldType.int)))) := gv_in ml_X8_241 im_yX8_mostOf se_yX8_mostOf ini_X8 cd_yX8_mostOf
theorem hd_yX8_mostOf : yX8_mostOf.cls = RX8 ∧ yX8_mostOf.cls ≠ "java/lang/invoke/MethodHandle" ∧ yX8_mostOf.cls ≠ "java/lang/invoke/VarHandle" ∧ (parseMethodDescriptor yX8_mostOf.desc).map (fun d => d.parameters.length) = some 2 := by decide +kernel
theorem g_X8_245 : GoodIn G0 (wsV RX8 245 RX8 yX8_plainOf (gw yX8_plainOf cX8_plainOf 4 (some (FieldType.int)))) := gv_in ml_X8_245 im_yX8_plainOf se_yX8_plainOf ini_X8 cd_yX8_plainOf
theorem hd_yX8_plainOf : yX8_plainOf.cls = RX8 ∧ yX8_plainOf.cls ≠ "java/lang/invoke/MethodHandle" ∧ yX8_plainOf.cls ≠ "java/lang/invoke/VarHandle" ∧ (parseMethodDescriptor yX8_plainOf.desc).map (fun d => d.parameters.length) = some 1 := by decide +kernel
theorem g_X8_248 : GoodIn G0 (wsV RX8 248 RX8 yX8_called (gw yX8_called cX8_called 5 (some (FieldType.int)))) := gv_in ml_X8_248 im_yX8_called se_yX8_called ini_X8 cd_yX8_called
theorem hd_yX8_called : yX8_called.cls = RX8 ∧ yX8_called.cls ≠ "java/lang/invoke/MethodHandle" ∧ yX8_called.cls ≠ "java/lang/invoke/VarHandle" ∧ (parseMethodDescriptor yX8_called.desc).map (fun d => d.parameters.length) = some 1 := by decide +kernel
theorem g_X8_251 : GoodIn G0 (wsV RX8 251 RX8 yX8_reached (gw yX8_reached cX8_reached 5 (some (FieldType.int)))) := gv_in ml_X8_251 im_yX8_reached se_yX8_reached ini_X8 cd_yX8_reached
theorem hd_yX8_reached : yX8_reached.cls = RX8 ∧ yX8_reached.cls ≠ "java/lang/invoke/MethodHandle" ∧ yX8_reached.cls ≠ "java/lang/invoke/VarHandle" ∧ (parseMethodDescriptor yX8_reached.desc).map (fun d => d.parameters.length) = some 1 := by decide +kernel
theorem g_X8_254 : GoodIn G0 (wsV RX8 254 RX8 yX8_laysSets (gw yX8_laysSets cX8_laysSets 2 none)) := gv_in ml_X8_254 im_yX8_laysSets se_yX8_laysSets ini_X8 cd_yX8_laysSets
theorem hd_yX8_laysSets : yX8_laysSets.cls = RX8 ∧ yX8_laysSets.cls ≠ "java/lang/invoke/MethodHandle" ∧ yX8_laysSets.cls ≠ "java/lang/invoke/VarHandle" ∧ (parseMethodDescriptor yX8_laysSets.desc).map (fun d => d.parameters.length) = some 0 := by decide +kernel
theorem g_X8_257 : GoodIn G0 (wsV RX8 257 RX8 yX8_callers (gw yX8_callers cX8_callers 5 (some (FieldType.int)))) := gv_in ml_X8_257 im_yX8_callers se_yX8_callers ini_X8 cd_yX8_callers
theorem hd_yX8_callers : yX8_callers.cls = RX8 ∧ yX8_callers.cls ≠ "java/lang/invoke/MethodHandle" ∧ yX8_callers.cls ≠ "java/lang/invoke/VarHandle" ∧ (parseMethodDescriptor yX8_callers.desc).map (fun d => d.parameters.length) = some 2 := by decide +kernel
theorem g_X8_260 : GoodIn G0 (wsV RX8 260 RX8 yX8_inRings (gw yX8_inRings cX8_inRings 3 (some (FieldType.int)))) := gv_in ml_X8_260 im_yX8_inRings se_yX8_inRings ini_X8 cd_yX8_inRings
theorem hd_yX8_inRings : yX8_inRings.cls = RX8 ∧ yX8_inRings.cls ≠ "java/lang/invoke/MethodHandle" ∧ yX8_inRings.cls ≠ "java/lang/invoke/VarHandle" ∧ (parseMethodDescriptor yX8_inRings.desc).map (fun d => d.parameters.length) = some 0 := by decide +kernel
theorem g_X8_263 : GoodIn G0 (wsV RX8 263 RX8 yX8_all (gw yX8_all cX8_all 3 (some (FieldType.int)))) := gv_in ml_X8_263 im_yX8_all se_yX8_all ini_X8 cd_yX8_all
theorem hd_yX8_all : yX8_all.cls = RX8 ∧ yX8_all.cls ≠ "java/lang/invoke/MethodHandle" ∧ yX8_all.cls ≠ "java/lang/invoke/VarHandle" ∧ (parseMethodDescriptor yX8_all.desc).map (fun d => d.parameters.length) = some 0 := by decide +kernel
theorem g_X8_266 : GoodIn G0 (wsV RX8 266 RX8 yX8_signsAs (gw yX8_signsAs cX8_signsAs 4 (some (FieldType.int)))) := gv_in ml_X8_266 im_yX8_signsAs se_yX8_signsAs ini_X8 cd_yX8_signsAs
theorem hd_yX8_signsAs : yX8_signsAs.cls = RX8 ∧ yX8_signsAs.cls ≠ "java/lang/invoke/MethodHandle" ∧ yX8_signsAs.cls ≠ "java/lang/invoke/VarHandle" ∧ (parseMethodDescriptor yX8_signsAs.desc).map (fun d => d.parameters.length) = some 1 := by decide +kernel
theorem g_X8_269 : GoodIn G0 (wsV RX8 269 RX8 yX8_callsOfAll (gw yX8_callsOfAll cX8_callsOfAll 3 (some (FieldType.int)))) := gv_in ml_X8_269 im_yX8_callsOfAll se_yX8_callsOfAll ini_X8 cd_yX8_callsOfAll
theorem hd_yX8_callsOfAll : yX8_callsOfAll.cls = RX8 ∧ yX8_callsOfAll.cls ≠ "java/lang/invoke/MethodHandle" ∧ yX8_callsOfAll.cls ≠ "java/lang/invoke/VarHandle" ∧ (parseMethodDescriptor yX8_callsOfAll.desc).map (fun d => d.parameters.length) = some 0 := by decide +kernel
abbrev rm8_thrown : Room := { frames := 0, cells := 0, slots := 0, locals := 0 }
noncomputable def F8_thrown (z : MS)  : Option (Int32) :=
  some (z 43 7)
set_option maxHeartbeats 4000000 in
set_option maxRecDepth 100000 in
theorem c8_thrown (l : Launch) (D : va_G) (κ : Nat → ClassId) (A : Nat → Prop) (ad : Nat → Nat) (r0 : Nat → Option va_E) (z : MS)  (res : Int32) (h : F8_thrown z  = some res) : Met l yX8_thrown (gw yX8_thrown cX8_thrown 1 (some (FieldType.int))) rm8_thrown (va_Pc [.ref (ad 43)] (MW D κ A ad (celM κ ad r0 z))) (QI D κ A ad (celM κ ad r0 z) res) 0 0 A := by
  refine met_of (own := RX8) (by decide +kernel) rfl (Nat.le_of_ble_eq_true rfl) ?_
  intro p e s m below meth c ls X hr hlk G hl
  have hl : lv_has ls 1 [(0, .ref (ad 43))] := hl
  unfold F8_thrown at h
  refine lv_aload_n (pc := 0) X.1 X.2.1 dX8_thrown_0 rfl (lv_at hl 0 rfl) ?_
  refine M_geti (pc := 1) X G 7 (by decide) (by decide +kernel) fl_X8_98 dX8_thrown_1 ?_
  have h := Option.some.inj h
  exact m_iret (pc := 4) X G hr hlk dX8_thrown_4 h rfl

abbrev rm8_refused : Room := { frames := 0, cells := 0, slots := 0, locals := 0 }
noncomputable def F8_refused (z : MS) (p0 : Int32) : Option (MS × Int32) :=
  bd (up2 z 43 7 p0) fun z1 =>
  jp (fun (x4 : Int32) => bz x4 (some (z1, x4))) fun k2 =>
  if p0 ≤ 0 then
  k2 0
  else
  k2 1
set_option maxHeartbeats 4000000 in
set_option maxRecDepth 100000 in
theorem c8_refused (l : Launch) (D : va_G) (κ : Nat → ClassId) (A : Nat → Prop) (ad : Nat → Nat) (r0 : Nat → Option va_E) (z : MS) (p0 : Int32) (res : MS × Int32) (h : F8_refused z p0 = some res) : Met l yX8_refused (gw yX8_refused cX8_refused 2 (some (FieldType.boolean))) rm8_refused (va_Pc [.ref (ad 43), .int p0] (MW D κ A ad (celM κ ad r0 z))) (QI D κ A ad (celM κ ad r0 res.1) res.2) 0 0 A := by
  refine met_of (own := RX8) (by decide +kernel) rfl (Nat.le_of_ble_eq_true rfl) ?_
  intro p e s m below meth c ls X hr hlk G hl
  have hl : lv_has ls 2 [(0, .ref (ad 43)), (1, .int p0)] := hl
  unfold F8_refused at h
  refine lv_aload_n (pc := 0) X.1 X.2.1 dX8_refused_0 rfl (lv_at hl 0 rfl) ?_
  refine lv_iload_n (pc := 1) X.1 X.2.1 dX8_refused_1 rfl (lv_at hl 1 rfl) ?_
  obtain ⟨z1, ez1, h⟩ := bd_some h
  refine M_puti (pc := 2) X G 7 ez1 (by decide) (by decide +kernel) fl_X8_98 dX8_refused_2 (fun H locs G => ?_)
  refine lv_iload_n (pc := 5) X.1 X.2.1 dX8_refused_5 rfl (lv_at hl 1 rfl) ?_
  obtain ⟨k2, ek2, h⟩ := jp_some h
  have hk2 : ∀ (x4 : Int32) (H : Heap) (locs : List Loc) (ls : Array Slot), k2 x4 = some res → Mm D κ A ad (celM κ ad r0 z1) s H locs → lv_has ls 2 [] → W p l e rm8_refused s m [.ref (ad 43), .int p0].toArray below meth c H locs 0 0 (MQ below (QI D κ A ad (celM κ ad r0 res.1) res.2) [.ref (ad 43), .int p0].toArray s 0 0 A) (F0 m 14 ls [.int x4]) := by
    intro x4 H locs ls h G hl
    rw [ek2] at h
    try dsimp only at h
    obtain ⟨hb, h⟩ := bz_some h
    have h := Option.some.inj h
    exact m_zret (pc := 14) X G hr hlk dX8_refused_14 hb (congrArg Prod.snd h) (congrArg (fun q : MS × Int32 => celM κ ad r0 q.1) h)
  refine lv_if_le (pc := 6) (tgt := 13) X.1 X.2.1 dX8_refused_6 (by decide) (fun hc3 => ?_) (fun hc3 => ?_)
  · have h := it_pos h hc3
    refine lv_iconst (pc := 13) (v := 0) X.1 X.2.1 dX8_refused_13 (by decide) ?_
    exact hk2 0 _ _ ls h G (lv_sub hl [] rfl)
  · have h := it_neg h hc3
    refine lv_iconst (pc := 9) (v := 1) X.1 X.2.1 dX8_refused_9 (by decide) ?_
    refine lv_goto (pc := 10) (tgt := 14) X.1 X.2.1 dX8_refused_10 (by decide) ?_
    exact hk2 1 _ _ ls h G (lv_sub hl [] rfl)

abbrev rm8_in : Room := { frames := 0, cells := 0, slots := 0, locals := 0 }
noncomputable def F8_in (p0 p1 p2 : Int32) : Option (Int32) :=
  jp (fun (x5 : Int32) => bz x5 (some x5)) fun k1 =>
  jp (fun (_ : Unit) => k1 0) fun k2 =>
  if p0 < p1 then
  k2 ()
  else
  if p2 < p0 then
  k2 ()
  else
  k1 1
set_option maxHeartbeats 4000000 in
set_option maxRecDepth 100000 in
theorem c8_in (l : Launch) (D : va_G) (κ : Nat → ClassId) (A : Nat → Prop) (ad : Nat → Nat) (M : Nat → Option va_E) (p0 p1 p2 : Int32) (res : Int32) (h : F8_in p0 p1 p2 = some res) : Met l yX8_in (gw yX8_in cX8_in 3 (some (FieldType.boolean))) rm8_in (va_Pc [.int p0, .int p1, .int p2] (MW D κ A ad M)) (QI D κ A ad M res) 0 0 A := by
  refine met_of (own := RX8) (by decide +kernel) rfl (Nat.le_of_ble_eq_true rfl) ?_
  intro p e s m below meth c ls X hr hlk G hl
  have hl : lv_has ls 3 [(0, .int p0), (1, .int p1), (2, .int p2)] := hl
  unfold F8_in at h
  refine lv_iload_n (pc := 0) X.1 X.2.1 dX8_in_0 rfl (lv_at hl 0 rfl) ?_
  refine lv_iload_n (pc := 1) X.1 X.2.1 dX8_in_1 rfl (lv_at hl 1 rfl) ?_
  obtain ⟨k1, ek1, h⟩ := jp_some h
  have hk1 : ∀ (x5 : Int32) (H : Heap) (locs : List Loc) (ls : Array Slot), k1 x5 = some res → Mm D κ A ad M s H locs → lv_has ls 3 [] → W p l e rm8_in s m [.int p0, .int p1, .int p2].toArray below meth c H locs 0 0 (MQ below (QI D κ A ad M res) [.int p0, .int p1, .int p2].toArray s 0 0 A) (F0 m 15 ls [.int x5]) := by
    intro x5 H locs ls h G hl
    rw [ek1] at h
    try dsimp only at h
    obtain ⟨hb, h⟩ := bz_some h
    have h := Option.some.inj h
    exact m_zret (pc := 15) X G hr hlk dX8_in_15 hb h rfl
  obtain ⟨k2, ek2, h⟩ := jp_some h
  have hk2 : ∀  (H : Heap) (locs : List Loc) (ls : Array Slot), k2 () = some res → Mm D κ A ad M s H locs → lv_has ls 3 [] → W p l e rm8_in s m [.int p0, .int p1, .int p2].toArray below meth c H locs 0 0 (MQ below (QI D κ A ad M res) [.int p0, .int p1, .int p2].toArray s 0 0 A) (F0 m 14 ls []) := by
    intro  H locs ls h G hl
    rw [ek2] at h
    try dsimp only at h
    refine lv_iconst (pc := 14) (v := 0) X.1 X.2.1 dX8_in_14 (by decide) ?_
    exact hk1 0 _ _ ls h G (lv_sub hl [] rfl)
  refine lv_icmp_lt (pc := 2) (tgt := 14) X.1 X.2.1 dX8_in_2 (by decide) (fun hc3 => ?_) (fun hc3 => ?_)
  · have h := it_pos h hc3
    exact hk2  _ _ ls h G (lv_sub hl [] rfl)
  · have h := it_neg h hc3
    refine lv_iload_n (pc := 5) X.1 X.2.1 dX8_in_5 rfl (lv_at hl 0 rfl) ?_
    refine lv_iload_n (pc := 6) X.1 X.2.1 dX8_in_6 rfl (lv_at hl 2 rfl) ?_
    refine lv_icmp_gt (pc := 7) (tgt := 14) X.1 X.2.1 dX8_in_7 (by decide) (fun hc4 => ?_) (fun hc4 => ?_)
    · have h := it_pos h hc4
      exact hk2  _ _ ls h G (lv_sub hl [] rfl)
    · have h := it_neg h hc4
      refine lv_iconst (pc := 10) (v := 1) X.1 X.2.1 dX8_in_10 (by decide) ?_
      refine lv_goto (pc := 11) (tgt := 15) X.1 X.2.1 dX8_in_11 (by decide) ?_
      exact hk1 1 _ _ ls h G (lv_sub hl [] rfl)

abbrev rm8_isLetter : Room := { frames := 1, cells := 0, slots := 0, locals := 22 }
noncomputable def F8_isLetter (p0 : Int32) : Option (Int32) :=
  bn (F8_in p0 0 25) fun x1 =>
  bz x1 (some x1)
set_option maxHeartbeats 4000000 in
set_option maxRecDepth 100000 in
theorem c8_isLetter (l : Launch) (D : va_G) (κ : Nat → ClassId) (A : Nat → Prop) (ad : Nat → Nat) (M : Nat → Option va_E) (p0 : Int32) (res : Int32) (h : F8_isLetter p0 = some res) : Met l yX8_isLetter (gw yX8_isLetter cX8_isLetter 1 (some (FieldType.boolean))) rm8_isLetter (va_Pc [.int p0] (MW D κ A ad M)) (QI D κ A ad M res) 0 0 A := by
  refine met_of (own := RX8) (by decide +kernel) rfl (Nat.le_of_ble_eq_true rfl) ?_
  intro p e s m below meth c ls X hr hlk G hl
  have hl : lv_has ls 1 [(0, .int p0)] := hl
  unfold F8_isLetter at h
  refine lv_iload_n (pc := 0) X.1 X.2.1 dX8_isLetter_0 rfl (lv_at hl 0 rfl) ?_
  refine lv_iconst (pc := 1) (v := 0) X.1 X.2.1 dX8_isLetter_1 (by decide) ?_
  refine lv_bipush (pc := 2) (v := 25) X.1 X.2.1 dX8_isLetter_2 (by decide) ?_
  obtain ⟨x1, ex1, h⟩ := bn_some h
  refine m_callsi0 (pc := 4) (v := x1) (As := [.int p0, .int 0, .int 25]) (rest := []) X G (rm := rm8_in) rfl rfl (c8_in l D κ A ad M p0 0 25 x1 ex1) g_X8_102 hs_yX8_in ⟨Nat.le_of_ble_eq_true rfl, Nat.le_of_ble_eq_true rfl⟩ rfl hl rfl (lv_room (Nat.le_of_ble_eq_true rfl)) dX8_isLetter_4 ⟨Nat.le_of_ble_eq_true rfl, Nat.le_of_ble_eq_true rfl⟩ (fun H locs G => ?_)
  obtain ⟨hb, h⟩ := bz_some h
  have h := Option.some.inj h
  exact m_zret (pc := 7) X G hr hlk dX8_isLetter_7 hb h rfl

abbrev rm8_isDefined : Room := { frames := 0, cells := 0, slots := 0, locals := 0 }
noncomputable def F8_isDefined (z : MS) (p0 : Int32) : Option (Int32) :=
  rd (z 0) 2153 p0 fun x1 =>
  jp (fun (x4 : Int32) => bz x4 (some x4)) fun k2 =>
  if x1 < 0 then
  k2 0
  else
  k2 1
set_option maxHeartbeats 4000000 in
set_option maxRecDepth 100000 in
theorem c8_isDefined (l : Launch) (D : va_G) (κ : Nat → ClassId) (A : Nat → Prop) (ad : Nat → Nat) (r0 : Nat → Option va_E) (z : MS) (p0 : Int32) (res : Int32) (h : F8_isDefined z p0 = some res) : Met l yX8_isDefined (gw yX8_isDefined cX8_isDefined 2 (some (FieldType.boolean))) rm8_isDefined (va_Pc [.ref (ad 43), .int p0] (MW D κ A ad (celM κ ad r0 z))) (QI D κ A ad (celM κ ad r0 z) res) 0 0 A := by
  refine met_of (own := RX8) (by decide +kernel) rfl (Nat.le_of_ble_eq_true rfl) ?_
  intro p e s m below meth c ls X hr hlk G hl
  have hl : lv_has ls 2 [(0, .ref (ad 43)), (1, .int p0)] := hl
  unfold F8_isDefined at h
  refine lv_aload_n (pc := 0) X.1 X.2.1 dX8_isDefined_0 rfl (lv_at hl 0 rfl) ?_
  refine M_getr (pc := 1) X G 0 (by decide) (by decide +kernel) fl_X8_7 dX8_isDefined_1 ?_
  refine lv_iload_n (pc := 4) X.1 X.2.1 dX8_isDefined_4 rfl (lv_at hl 1 rfl) ?_
  obtain ⟨hix1, h⟩ := rd_some h
  refine M_iald (pc := 5) X G (i := 0) (n := 2153) (by decide +kernel) (by decide) rfl hix1 dX8_isDefined_5 ?_
  refine lv_topi (fun x1 ex1 => ?_)
  rw [← ex1] at h
  obtain ⟨k2, ek2, h⟩ := jp_some h
  have hk2 : ∀ (x4 : Int32) (H : Heap) (locs : List Loc) (ls : Array Slot), k2 x4 = some res → Mm D κ A ad (celM κ ad r0 z) s H locs → lv_has ls 2 [] → W p l e rm8_isDefined s m [.ref (ad 43), .int p0].toArray below meth c H locs 0 0 (MQ below (QI D κ A ad (celM κ ad r0 z) res) [.ref (ad 43), .int p0].toArray s 0 0 A) (F0 m 14 ls [.int x4]) := by
    intro x4 H locs ls h G hl
    rw [ek2] at h
    try dsimp only at h
    obtain ⟨hb, h⟩ := bz_some h
    have h := Option.some.inj h
    exact m_zret (pc := 14) X G hr hlk dX8_isDefined_14 hb h rfl
  refine lv_if_lt (pc := 6) (tgt := 13) X.1 X.2.1 dX8_isDefined_6 (by decide) (fun hc3 => ?_) (fun hc3 => ?_)
  · have h := it_pos h hc3
    refine lv_iconst (pc := 13) (v := 0) X.1 X.2.1 dX8_isDefined_13 (by decide) ?_
    exact hk2 0 _ _ ls h G (lv_sub hl [] rfl)
  · have h := it_neg h hc3
    refine lv_iconst (pc := 9) (v := 1) X.1 X.2.1 dX8_isDefined_9 (by decide) ?_
    refine lv_goto (pc := 10) (tgt := 14) X.1 X.2.1 dX8_isDefined_10 (by decide) ?_
    exact hk2 1 _ _ ls h G (lv_sub hl [] rfl)

abbrev rm8_longOf : Room := { frames := 0, cells := 0, slots := 0, locals := 0 }
noncomputable def F8_longOf (z : MS) (p0 : Int32) : Option (Int32) :=
  jp (fun (x5 : Int32) => some x5) fun k1 =>
  if ¬ p0 = 27 then
  if ¬ p0 = 26 then
  rd (z 0) 2153 p0 fun x4 =>
  k1 x4
  else
  k1 (z 43 6)
  else
  k1 0
set_option maxHeartbeats 4000000 in
set_option maxRecDepth 100000 in
theorem c8_longOf (l : Launch) (D : va_G) (κ : Nat → ClassId) (A : Nat → Prop) (ad : Nat → Nat) (r0 : Nat → Option va_E) (z : MS) (p0 : Int32) (res : Int32) (h : F8_longOf z p0 = some res) : Met l yX8_longOf (gw yX8_longOf cX8_longOf 2 (some (FieldType.int))) rm8_longOf (va_Pc [.ref (ad 43), .int p0] (MW D κ A ad (celM κ ad r0 z))) (QI D κ A ad (celM κ ad r0 z) res) 0 0 A := by
  refine met_of (own := RX8) (by decide +kernel) rfl (Nat.le_of_ble_eq_true rfl) ?_
  intro p e s m below meth c ls X hr hlk G hl
  have hl : lv_has ls 2 [(0, .ref (ad 43)), (1, .int p0)] := hl
  unfold F8_longOf at h
  refine lv_iload_n (pc := 0) X.1 X.2.1 dX8_longOf_0 rfl (lv_at hl 1 rfl) ?_
  refine lv_bipush (pc := 1) (v := 27) X.1 X.2.1 dX8_longOf_1 (by decide) ?_
  obtain ⟨k1, ek1, h⟩ := jp_some h
  have hk1 : ∀ (x5 : Int32) (H : Heap) (locs : List Loc) (ls : Array Slot), k1 x5 = some res → Mm D κ A ad (celM κ ad r0 z) s H locs → lv_has ls 2 [] → W p l e rm8_longOf s m [.ref (ad 43), .int p0].toArray below meth c H locs 0 0 (MQ below (QI D κ A ad (celM κ ad r0 z) res) [.ref (ad 43), .int p0].toArray s 0 0 A) (F0 m 29 ls [.int x5]) := by
    intro x5 H locs ls h G hl
    rw [ek1] at h
    try dsimp only at h
    have h := Option.some.inj h
    exact m_iret (pc := 29) X G hr hlk dX8_longOf_29 h rfl
  refine lv_icmp_ne (pc := 3) (tgt := 10) X.1 X.2.1 dX8_longOf_3 (by decide) (fun hc2 => ?_) (fun hc2 => ?_)
  · have h := it_pos h hc2
    refine lv_iload_n (pc := 10) X.1 X.2.1 dX8_longOf_10 rfl (lv_at hl 1 rfl) ?_
    refine lv_bipush (pc := 11) (v := 26) X.1 X.2.1 dX8_longOf_11 (by decide) ?_
    refine lv_icmp_ne (pc := 13) (tgt := 23) X.1 X.2.1 dX8_longOf_13 (by decide) (fun hc3 => ?_) (fun hc3 => ?_)
    · have h := it_pos h hc3
      refine lv_aload_n (pc := 23) X.1 X.2.1 dX8_longOf_23 rfl (lv_at hl 0 rfl) ?_
      refine M_getr (pc := 24) X G 0 (by decide) (by decide +kernel) fl_X8_7 dX8_longOf_24 ?_
      refine lv_iload_n (pc := 27) X.1 X.2.1 dX8_longOf_27 rfl (lv_at hl 1 rfl) ?_
      obtain ⟨hix4, h⟩ := rd_some h
      refine M_iald (pc := 28) X G (i := 0) (n := 2153) (by decide +kernel) (by decide) rfl hix4 dX8_longOf_28 ?_
      refine lv_topi (fun x4 ex4 => ?_)
      rw [← ex4] at h
      exact hk1 x4 _ _ ls h G (lv_sub hl [] rfl)
    · have h := it_neg h (fun q => q hc3)
      refine lv_aload_n (pc := 16) X.1 X.2.1 dX8_longOf_16 rfl (lv_at hl 0 rfl) ?_
      refine M_geti (pc := 17) X G 6 (by decide) (by decide +kernel) fl_X8_106 dX8_longOf_17 ?_
      refine lv_goto (pc := 20) (tgt := 29) X.1 X.2.1 dX8_longOf_20 (by decide) ?_
      exact hk1 (z 43 6) _ _ ls h G (lv_sub hl [] rfl)
  · have h := it_neg h (fun q => q hc2)
    refine lv_iconst (pc := 6) (v := 0) X.1 X.2.1 dX8_longOf_6 (by decide) ?_
    refine lv_goto (pc := 7) (tgt := 29) X.1 X.2.1 dX8_longOf_7 (by decide) ?_
    exact hk1 0 _ _ ls h G (lv_sub hl [] rfl)

abbrev rm8_signOf : Room := { frames := 0, cells := 0, slots := 0, locals := 0 }
noncomputable def F8_signOf (z : MS) (p0 p1 : Int32) : Option (Int32) :=
  jp (fun (x5 : Int32) => some x5) fun k1 =>
  if ¬ p0 = 26 then
  rd (z 0) 2153 ((26 + (60 * p0)) + p1) fun x3 =>
  k1 x3
  else
  rd (z 5) 60 p1 fun x4 =>
  k1 x4
set_option maxHeartbeats 4000000 in
set_option maxRecDepth 100000 in
theorem c8_signOf (l : Launch) (D : va_G) (κ : Nat → ClassId) (A : Nat → Prop) (ad : Nat → Nat) (r0 : Nat → Option va_E) (z : MS) (p0 p1 : Int32) (res : Int32) (h : F8_signOf z p0 p1 = some res) : Met l yX8_signOf (gw yX8_signOf cX8_signOf 3 (some (FieldType.int))) rm8_signOf (va_Pc [.ref (ad 43), .int p0, .int p1] (MW D κ A ad (celM κ ad r0 z))) (QI D κ A ad (celM κ ad r0 z) res) 0 0 A := by
  refine met_of (own := RX8) (by decide +kernel) rfl (Nat.le_of_ble_eq_true rfl) ?_
  intro p e s m below meth c ls X hr hlk G hl
  have hl : lv_has ls 3 [(0, .ref (ad 43)), (1, .int p0), (2, .int p1)] := hl
  unfold F8_signOf at h
  refine lv_iload_n (pc := 0) X.1 X.2.1 dX8_signOf_0 rfl (lv_at hl 1 rfl) ?_
  refine lv_bipush (pc := 1) (v := 26) X.1 X.2.1 dX8_signOf_1 (by decide) ?_
  obtain ⟨k1, ek1, h⟩ := jp_some h
  have hk1 : ∀ (x5 : Int32) (H : Heap) (locs : List Loc) (ls : Array Slot), k1 x5 = some res → Mm D κ A ad (celM κ ad r0 z) s H locs → lv_has ls 3 [] → W p l e rm8_signOf s m [.ref (ad 43), .int p0, .int p1].toArray below meth c H locs 0 0 (MQ below (QI D κ A ad (celM κ ad r0 z) res) [.ref (ad 43), .int p0, .int p1].toArray s 0 0 A) (F0 m 29 ls [.int x5]) := by
    intro x5 H locs ls h G hl
    rw [ek1] at h
    try dsimp only at h
    have h := Option.some.inj h
    exact m_iret (pc := 29) X G hr hlk dX8_signOf_29 h rfl
  refine lv_icmp_ne (pc := 3) (tgt := 15) X.1 X.2.1 dX8_signOf_3 (by decide) (fun hc2 => ?_) (fun hc2 => ?_)
  · have h := it_pos h hc2
    refine lv_aload_n (pc := 15) X.1 X.2.1 dX8_signOf_15 rfl (lv_at hl 0 rfl) ?_
    refine M_getr (pc := 16) X G 0 (by decide) (by decide +kernel) fl_X8_7 dX8_signOf_16 ?_
    refine lv_bipush (pc := 19) (v := 26) X.1 X.2.1 dX8_signOf_19 (by decide) ?_
    refine lv_bipush (pc := 21) (v := 60) X.1 X.2.1 dX8_signOf_21 (by decide) ?_
    refine lv_iload_n (pc := 23) X.1 X.2.1 dX8_signOf_23 rfl (lv_at hl 1 rfl) ?_
    refine lv_imul (pc := 24) X.1 X.2.1 dX8_signOf_24 ?_
    refine lv_iadd (pc := 25) X.1 X.2.1 dX8_signOf_25 ?_
    refine lv_iload_n (pc := 26) X.1 X.2.1 dX8_signOf_26 rfl (lv_at hl 2 rfl) ?_
    refine lv_iadd (pc := 27) X.1 X.2.1 dX8_signOf_27 ?_
    obtain ⟨hix3, h⟩ := rd_some h
    refine M_iald (pc := 28) X G (i := 0) (n := 2153) (by decide +kernel) (by decide) rfl hix3 dX8_signOf_28 ?_
    refine lv_topi (fun x3 ex3 => ?_)
    rw [← ex3] at h
    exact hk1 x3 _ _ ls h G (lv_sub hl [] rfl)
  · have h := it_neg h (fun q => q hc2)
    refine lv_aload_n (pc := 6) X.1 X.2.1 dX8_signOf_6 rfl (lv_at hl 0 rfl) ?_
    refine M_getr (pc := 7) X G 5 (by decide) (by decide +kernel) fl_X8_23 dX8_signOf_7 ?_
    refine lv_iload_n (pc := 10) X.1 X.2.1 dX8_signOf_10 rfl (lv_at hl 2 rfl) ?_
    obtain ⟨hix4, h⟩ := rd_some h
    refine M_iald (pc := 11) X G (i := 5) (n := 60) (by decide +kernel) (by decide) rfl hix4 dX8_signOf_11 ?_
    refine lv_topi (fun x4 ex4 => ?_)
    rw [← ex4] at h
    refine lv_goto (pc := 12) (tgt := 29) X.1 X.2.1 dX8_signOf_12 (by decide) ?_
    exact hk1 x4 _ _ ls h G (lv_sub hl [] rfl)

abbrev rm8_isCall : Room := { frames := 1, cells := 0, slots := 0, locals := 22 }
noncomputable def F8_isCall (p0 : Int32) : Option (Int32) :=
  bn (F8_in p0 65 90) fun x1 =>
  bz x1 (some x1)
set_option maxHeartbeats 4000000 in
set_option maxRecDepth 100000 in
theorem c8_isCall (l : Launch) (D : va_G) (κ : Nat → ClassId) (A : Nat → Prop) (ad : Nat → Nat) (M : Nat → Option va_E) (p0 : Int32) (res : Int32) (h : F8_isCall p0 = some res) : Met l yX8_isCall (gw yX8_isCall cX8_isCall 1 (some (FieldType.boolean))) rm8_isCall (va_Pc [.int p0] (MW D κ A ad M)) (QI D κ A ad M res) 0 0 A := by
  refine met_of (own := RX8) (by decide +kernel) rfl (Nat.le_of_ble_eq_true rfl) ?_
  intro p e s m below meth c ls X hr hlk G hl
  have hl : lv_has ls 1 [(0, .int p0)] := hl
  unfold F8_isCall at h
  refine lv_iload_n (pc := 0) X.1 X.2.1 dX8_isCall_0 rfl (lv_at hl 0 rfl) ?_
  refine lv_bipush (pc := 1) (v := 65) X.1 X.2.1 dX8_isCall_1 (by decide) ?_
  refine lv_bipush (pc := 3) (v := 90) X.1 X.2.1 dX8_isCall_3 (by decide) ?_
  obtain ⟨x1, ex1, h⟩ := bn_some h
  refine m_callsi0 (pc := 5) (v := x1) (As := [.int p0, .int 65, .int 90]) (rest := []) X G (rm := rm8_in) rfl rfl (c8_in l D κ A ad M p0 65 90 x1 ex1) g_X8_102 hs_yX8_in ⟨Nat.le_of_ble_eq_true rfl, Nat.le_of_ble_eq_true rfl⟩ rfl hl rfl (lv_room (Nat.le_of_ble_eq_true rfl)) dX8_isCall_5 ⟨Nat.le_of_ble_eq_true rfl, Nat.le_of_ble_eq_true rfl⟩ (fun H locs G => ?_)
  obtain ⟨hb, h⟩ := bz_some h
  have h := Option.some.inj h
  exact m_zret (pc := 8) X G hr hlk dX8_isCall_8 hb h rfl

abbrev rm8_isPlain : Room := { frames := 1, cells := 0, slots := 0, locals := 22 }
noncomputable def F8_isPlain (p0 : Int32) : Option (Int32) :=
  bn (F8_in p0 97 122) fun x1 =>
  jp (fun (x6 : Int32) => bz x6 (some x6)) fun k2 =>
  jp (fun (_ : Unit) => k2 1) fun k3 =>
  if ¬ x1 = 0 then
  k3 ()
  else
  if ¬ p0 = 95 then
  k2 0
  else
  k3 ()
set_option maxHeartbeats 4000000 in
set_option maxRecDepth 100000 in
theorem c8_isPlain (l : Launch) (D : va_G) (κ : Nat → ClassId) (A : Nat → Prop) (ad : Nat → Nat) (M : Nat → Option va_E) (p0 : Int32) (res : Int32) (h : F8_isPlain p0 = some res) : Met l yX8_isPlain (gw yX8_isPlain cX8_isPlain 1 (some (FieldType.boolean))) rm8_isPlain (va_Pc [.int p0] (MW D κ A ad M)) (QI D κ A ad M res) 0 0 A := by
  refine met_of (own := RX8) (by decide +kernel) rfl (Nat.le_of_ble_eq_true rfl) ?_
  intro p e s m below meth c ls X hr hlk G hl
  have hl : lv_has ls 1 [(0, .int p0)] := hl
  unfold F8_isPlain at h
  refine lv_iload_n (pc := 0) X.1 X.2.1 dX8_isPlain_0 rfl (lv_at hl 0 rfl) ?_
  refine lv_bipush (pc := 1) (v := 97) X.1 X.2.1 dX8_isPlain_1 (by decide) ?_
  refine lv_bipush (pc := 3) (v := 122) X.1 X.2.1 dX8_isPlain_3 (by decide) ?_
  obtain ⟨x1, ex1, h⟩ := bn_some h
  refine m_callsi0 (pc := 5) (v := x1) (As := [.int p0, .int 97, .int 122]) (rest := []) X G (rm := rm8_in) rfl rfl (c8_in l D κ A ad M p0 97 122 x1 ex1) g_X8_102 hs_yX8_in ⟨Nat.le_of_ble_eq_true rfl, Nat.le_of_ble_eq_true rfl⟩ rfl hl rfl (lv_room (Nat.le_of_ble_eq_true rfl)) dX8_isPlain_5 ⟨Nat.le_of_ble_eq_true rfl, Nat.le_of_ble_eq_true rfl⟩ (fun H locs G => ?_)
  obtain ⟨k2, ek2, h⟩ := jp_some h
  have hk2 : ∀ (x6 : Int32) (H : Heap) (locs : List Loc) (ls : Array Slot), k2 x6 = some res → Mm D κ A ad M s H locs → lv_has ls 1 [] → W p l e rm8_isPlain s m [.int p0].toArray below meth c H locs 0 0 (MQ below (QI D κ A ad M res) [.int p0].toArray s 0 0 A) (F0 m 22 ls [.int x6]) := by
    intro x6 H locs ls h G hl
    rw [ek2] at h
    try dsimp only at h
    obtain ⟨hb, h⟩ := bz_some h
    have h := Option.some.inj h
    exact m_zret (pc := 22) X G hr hlk dX8_isPlain_22 hb h rfl
  obtain ⟨k3, ek3, h⟩ := jp_some h
  have hk3 : ∀  (H : Heap) (locs : List Loc) (ls : Array Slot), k3 () = some res → Mm D κ A ad M s H locs → lv_has ls 1 [] → W p l e rm8_isPlain s m [.int p0].toArray below meth c H locs 0 0 (MQ below (QI D κ A ad M res) [.int p0].toArray s 0 0 A) (F0 m 17 ls []) := by
    intro  H locs ls h G hl
    rw [ek3] at h
    try dsimp only at h
    refine lv_iconst (pc := 17) (v := 1) X.1 X.2.1 dX8_isPlain_17 (by decide) ?_
    refine lv_goto (pc := 18) (tgt := 22) X.1 X.2.1 dX8_isPlain_18 (by decide) ?_
    exact hk2 1 _ _ ls h G (lv_sub hl [] rfl)
  refine lv_if_ne (pc := 8) (tgt := 17) X.1 X.2.1 dX8_isPlain_8 (by decide) (fun hc4 => ?_) (fun hc4 => ?_)
  · have h := it_pos h hc4
    exact hk3  _ _ ls h G (lv_sub hl [] rfl)
  · have h := it_neg h (fun q => q hc4)
    refine lv_iload_n (pc := 11) X.1 X.2.1 dX8_isPlain_11 rfl (lv_at hl 0 rfl) ?_
    refine lv_bipush (pc := 12) (v := 95) X.1 X.2.1 dX8_isPlain_12 (by decide) ?_
    refine lv_icmp_ne (pc := 14) (tgt := 21) X.1 X.2.1 dX8_isPlain_14 (by decide) (fun hc5 => ?_) (fun hc5 => ?_)
    · have h := it_pos h hc5
      refine lv_iconst (pc := 21) (v := 0) X.1 X.2.1 dX8_isPlain_21 (by decide) ?_
      exact hk2 0 _ _ ls h G (lv_sub hl [] rfl)
    · have h := it_neg h (fun q => q hc5)
      exact hk3  _ _ ls h G (lv_sub hl [] rfl)

abbrev rm8_saves : Room := { frames := 0, cells := 0, slots := 0, locals := 0 }
noncomputable def F8_saves (z : MS)  : Option (MS) :=
  jp (fun (z10 : MS) => Loop (fun (q : Int32 × MS) => (fun (x11 : Int32) (z12 : MS) =>
  if 2153 ≤ x11 then
  bd (up2 z12 43 2 ((z12 43 2) + 1)) fun z14 =>
  some (.inr z14)
  else
  rd (z12 0) 2153 x11 fun x15 =>
  wr z12 1 12918 ((2153 * (z12 43 2)) + x11) x15 fun z16 =>
  bd (x11 + 1) fun x17 =>
  some (.inl (x17, z16))) q.1 q.2) (0, z10)) fun k1 =>
  if ¬ (z 43 2) = 6 then
  k1 z
  else
  Loop (fun (q : Int32 × MS) => (fun (x3 : Int32) (z4 : MS) =>
  if 10765 ≤ x3 then
  bd (up2 z4 43 2 ((z4 43 2) - 1)) fun z6 =>
  li (k1 z6)
  else
  rd (z4 1) 12918 (2153 + x3) fun x7 =>
  wr z4 1 12918 x3 x7 fun z8 =>
  bd (x3 + 1) fun x9 =>
  some (.inl (x9, z8))) q.1 q.2) (0, z)
set_option maxHeartbeats 4000000 in
set_option maxRecDepth 100000 in
theorem c8_saves (l : Launch) (D : va_G) (κ : Nat → ClassId) (A : Nat → Prop) (ad : Nat → Nat) (r0 : Nat → Option va_E) (z : MS)  (res : MS) (h : F8_saves z  = some res) : Met l yX8_saves (gw yX8_saves cX8_saves 2 none) rm8_saves (va_Pc [.ref (ad 43)] (MW D κ A ad (celM κ ad r0 z))) (QV D κ A ad (celM κ ad r0 res)) 0 0 A := by
  refine met_of (own := RX8) (by decide +kernel) rfl (Nat.le_of_ble_eq_true rfl) ?_
  intro p e s m below meth c ls X hr hlk G hl
  have hl : lv_has ls 2 [(0, .ref (ad 43))] := hl
  unfold F8_saves at h
  refine lv_aload_n (pc := 0) X.1 X.2.1 dX8_saves_0 rfl (lv_at hl 0 rfl) ?_
  refine M_geti (pc := 1) X G 2 (by decide) (by decide +kernel) fl_X8_109 dX8_saves_1 ?_
  refine lv_bipush (pc := 4) (v := 6) X.1 X.2.1 dX8_saves_4 (by decide) ?_
  obtain ⟨k1, ek1, h⟩ := jp_some h
  have hk1 : ∀ (z10 : MS) (H : Heap) (locs : List Loc) (ls : Array Slot), k1 z10 = some res → Mm D κ A ad (celM κ ad r0 z10) s H locs → lv_has ls 2 [(0, .ref (ad 43))] → W p l e rm8_saves s m [.ref (ad 43)].toArray below meth c H locs 0 0 (MQ below (QV D κ A ad (celM κ ad r0 res)) [.ref (ad 43)].toArray s 0 0 A) (F0 m 50 ls []) := by
    intro z10 H locs ls h G hl
    rw [ek1] at h
    try dsimp only at h
    refine lv_iconst (pc := 50) (v := 0) X.1 X.2.1 dX8_saves_50 (by decide) ?_
    refine lv_istore_n (pc := 51) (lv' := [(1, .int 0), (0, .ref (ad 43))]) X.1 X.2.1 dX8_saves_51 rfl hl (by decide) rfl (fun ls hl => ?_)
    refine Loop_ind (P := fun (q : Int32 × MS) => ∀ (H : Heap) (locs : List Loc) (ls : Array Slot), Mm D κ A ad (celM κ ad r0 q.2) s H locs → lv_has ls 2 [(0, .ref (ad 43)), (1, .int q.1)] → W p l e rm8_saves s m [.ref (ad 43)].toArray below meth c H locs 0 0 (MQ below (QV D κ A ad (celM κ ad r0 res)) [.ref (ad 43)].toArray s 0 0 A) (F0 m 52 ls [])) ?_ h _ _ ls G (lv_sub hl [1, 0] rfl)
    intro q y1 h ih1 hz1 H locs ls G hl
    obtain ⟨x11, z12⟩ := q
    try dsimp only at h ih1 G hl ⊢
    refine lv_iload_n (pc := 52) X.1 X.2.1 dX8_saves_52 rfl (lv_at hl 1 rfl) ?_
    refine lv_sipush (pc := 53) (v := 2153) X.1 X.2.1 dX8_saves_53 (by decide) ?_
    refine lv_icmp_ge (pc := 56) (tgt := 86) X.1 X.2.1 dX8_saves_56 (by decide) (fun hc13 => ?_) (fun hc13 => ?_)
    · have h := it_pos h hc13
      refine lv_aload_n (pc := 86) X.1 X.2.1 dX8_saves_86 rfl (lv_at hl 0 rfl) ?_
      refine lv_dup (pc := 87) X.1 X.2.1 dX8_saves_87 rfl ?_
      refine M_geti (pc := 88) X G 2 (by decide) (by decide +kernel) fl_X8_109 dX8_saves_88 ?_
      refine lv_iconst (pc := 91) (v := 1) X.1 X.2.1 dX8_saves_91 (by decide) ?_
      refine lv_iadd (pc := 92) X.1 X.2.1 dX8_saves_92 ?_
      obtain ⟨z14, ez14, h⟩ := bd_some h
      refine M_puti (pc := 93) X G 2 ez14 (by decide) (by decide +kernel) fl_X8_109 dX8_saves_93 (fun H locs G => ?_)
      have h := Option.some.inj h
      have h := hz1 _ h.symm
      exact m_vret (pc := 96) X G hr hlk dX8_saves_96 (congrArg (celM κ ad r0) h)
    · have h := it_neg h hc13
      refine lv_aload_n (pc := 59) X.1 X.2.1 dX8_saves_59 rfl (lv_at hl 0 rfl) ?_
      refine M_getr (pc := 60) X G 1 (by decide) (by decide +kernel) fl_X8_13 dX8_saves_60 ?_
      refine lv_sipush (pc := 63) (v := 2153) X.1 X.2.1 dX8_saves_63 (by decide) ?_
      refine lv_aload_n (pc := 66) X.1 X.2.1 dX8_saves_66 rfl (lv_at hl 0 rfl) ?_
      refine M_geti (pc := 67) X G 2 (by decide) (by decide +kernel) fl_X8_109 dX8_saves_67 ?_
      refine lv_imul (pc := 70) X.1 X.2.1 dX8_saves_70 ?_
      refine lv_iload_n (pc := 71) X.1 X.2.1 dX8_saves_71 rfl (lv_at hl 1 rfl) ?_
      refine lv_iadd (pc := 72) X.1 X.2.1 dX8_saves_72 ?_
      refine lv_aload_n (pc := 73) X.1 X.2.1 dX8_saves_73 rfl (lv_at hl 0 rfl) ?_
      refine M_getr (pc := 74) X G 0 (by decide) (by decide +kernel) fl_X8_7 dX8_saves_74 ?_
      refine lv_iload_n (pc := 77) X.1 X.2.1 dX8_saves_77 rfl (lv_at hl 1 rfl) ?_
      obtain ⟨hix15, h⟩ := rd_some h
      refine M_iald (pc := 78) X G (i := 0) (n := 2153) (by decide +kernel) (by decide) rfl hix15 dX8_saves_78 ?_
      refine lv_topi (fun x15 ex15 => ?_)
      rw [← ex15] at h
      obtain ⟨hiz16, z16, ez16, h⟩ := wr_some h
      refine M_iast (pc := 79) X G (i := 1) (n := 12918) ez16 (by decide +kernel) (by decide) rfl hiz16 dX8_saves_79 (fun H locs G => ?_)
      obtain ⟨x17, ex17, h⟩ := bd_some h
      refine lv_iinc (pc := 80) (v := x17) (lv' := [(1, .int x17), (0, .ref (ad 43))]) X.1 X.2.1 dX8_saves_80 hl (k := 1) rfl (by rw [ex17]; rfl) (by decide) rfl (fun ls hl => ?_)
      refine lv_goto (pc := 83) (tgt := 52) X.1 X.2.1 dX8_saves_83 (by decide) ?_
      have h := Option.some.inj h
      exact ih1 _ h.symm _ _ ls G (lv_sub hl [1, 0] rfl)
  refine lv_icmp_ne (pc := 6) (tgt := 50) X.1 X.2.1 dX8_saves_6 (by decide) (fun hc2 => ?_) (fun hc2 => ?_)
  · have h := it_pos h hc2
    exact hk1 z _ _ ls h G (lv_sub hl [0] rfl)
  · have h := it_neg h (fun q => q hc2)
    refine lv_iconst (pc := 9) (v := 0) X.1 X.2.1 dX8_saves_9 (by decide) ?_
    refine lv_istore_n (pc := 10) (lv' := [(1, .int 0), (0, .ref (ad 43))]) X.1 X.2.1 dX8_saves_10 rfl hl (by decide) rfl (fun ls hl => ?_)
    refine Loop_ind (P := fun (q : Int32 × MS) => ∀ (H : Heap) (locs : List Loc) (ls : Array Slot), Mm D κ A ad (celM κ ad r0 q.2) s H locs → lv_has ls 2 [(0, .ref (ad 43)), (1, .int q.1)] → W p l e rm8_saves s m [.ref (ad 43)].toArray below meth c H locs 0 0 (MQ below (QV D κ A ad (celM κ ad r0 res)) [.ref (ad 43)].toArray s 0 0 A) (F0 m 11 ls [])) ?_ h _ _ ls G (lv_sub hl [1, 0] rfl)
    intro q y1 h ih1 hz1 H locs ls G hl
    obtain ⟨x3, z4⟩ := q
    try dsimp only at h ih1 G hl ⊢
    refine lv_iload_n (pc := 11) X.1 X.2.1 dX8_saves_11 rfl (lv_at hl 1 rfl) ?_
    refine lv_sipush (pc := 12) (v := 10765) X.1 X.2.1 dX8_saves_12 (by decide) ?_
    refine lv_icmp_ge (pc := 15) (tgt := 40) X.1 X.2.1 dX8_saves_15 (by decide) (fun hc5 => ?_) (fun hc5 => ?_)
    · have h := it_pos h hc5
      refine lv_aload_n (pc := 40) X.1 X.2.1 dX8_saves_40 rfl (lv_at hl 0 rfl) ?_
      refine lv_dup (pc := 41) X.1 X.2.1 dX8_saves_41 rfl ?_
      refine M_geti (pc := 42) X G 2 (by decide) (by decide +kernel) fl_X8_109 dX8_saves_42 ?_
      refine lv_iconst (pc := 45) (v := 1) X.1 X.2.1 dX8_saves_45 (by decide) ?_
      refine lv_isub (pc := 46) X.1 X.2.1 dX8_saves_46 ?_
      obtain ⟨z6, ez6, h⟩ := bd_some h
      refine M_puti (pc := 47) X G 2 ez6 (by decide) (by decide +kernel) fl_X8_109 dX8_saves_47 (fun H locs G => ?_)
      obtain ⟨w1, h, eq1⟩ := li_some h
      have h := h.trans (congrArg some (hz1 _ eq1))
      exact hk1 z6 _ _ ls h G (lv_sub hl [0] rfl)
    · have h := it_neg h hc5
      refine lv_aload_n (pc := 18) X.1 X.2.1 dX8_saves_18 rfl (lv_at hl 0 rfl) ?_
      refine M_getr (pc := 19) X G 1 (by decide) (by decide +kernel) fl_X8_13 dX8_saves_19 ?_
      refine lv_iload_n (pc := 22) X.1 X.2.1 dX8_saves_22 rfl (lv_at hl 1 rfl) ?_
      refine lv_aload_n (pc := 23) X.1 X.2.1 dX8_saves_23 rfl (lv_at hl 0 rfl) ?_
      refine M_getr (pc := 24) X G 1 (by decide) (by decide +kernel) fl_X8_13 dX8_saves_24 ?_
      refine lv_sipush (pc := 27) (v := 2153) X.1 X.2.1 dX8_saves_27 (by decide) ?_
      refine lv_iload_n (pc := 30) X.1 X.2.1 dX8_saves_30 rfl (lv_at hl 1 rfl) ?_
      refine lv_iadd (pc := 31) X.1 X.2.1 dX8_saves_31 ?_
      obtain ⟨hix7, h⟩ := rd_some h
      refine M_iald (pc := 32) X G (i := 1) (n := 12918) (by decide +kernel) (by decide) rfl hix7 dX8_saves_32 ?_
      refine lv_topi (fun x7 ex7 => ?_)
      rw [← ex7] at h
      obtain ⟨hiz8, z8, ez8, h⟩ := wr_some h
      refine M_iast (pc := 33) X G (i := 1) (n := 12918) ez8 (by decide +kernel) (by decide) rfl hiz8 dX8_saves_33 (fun H locs G => ?_)
      obtain ⟨x9, ex9, h⟩ := bd_some h
      refine lv_iinc (pc := 34) (v := x9) (lv' := [(1, .int x9), (0, .ref (ad 43))]) X.1 X.2.1 dX8_saves_34 hl (k := 1) rfl (by rw [ex9]; rfl) (by decide) rfl (fun ls hl => ?_)
      refine lv_goto (pc := 37) (tgt := 11) X.1 X.2.1 dX8_saves_37 (by decide) ?_
      have h := Option.some.inj h
      exact ih1 _ h.symm _ _ ls G (lv_sub hl [1, 0] rfl)

abbrev rm8_defined : Room := { frames := 1, cells := 0, slots := 0, locals := 21 }
noncomputable def F8_defined (z : MS)  : Option (Int32) :=
  Loop (fun (q : Int32 × Int32) => (fun (x1 : Int32) (x2 : Int32) =>
  if 26 ≤ x2 then
  some (.inr x1)
  else
  bn (F8_isDefined z x2) fun x4 =>
  jp (fun (x7 : Int32) => bd (x1 + x7) fun x8 =>
  bd (x2 + 1) fun x9 =>
  some (.inl (x8, x9))) fun k5 =>
  if x4 = 0 then
  k5 0
  else
  k5 1) q.1 q.2) (0, 0)
set_option maxHeartbeats 4000000 in
set_option maxRecDepth 100000 in
theorem c8_defined (l : Launch) (D : va_G) (κ : Nat → ClassId) (A : Nat → Prop) (ad : Nat → Nat) (r0 : Nat → Option va_E) (z : MS)  (res : Int32) (h : F8_defined z  = some res) : Met l yX8_defined (gw yX8_defined cX8_defined 3 (some (FieldType.int))) rm8_defined (va_Pc [.ref (ad 43)] (MW D κ A ad (celM κ ad r0 z))) (QI D κ A ad (celM κ ad r0 z) res) 0 0 A := by
  refine met_of (own := RX8) (by decide +kernel) rfl (Nat.le_of_ble_eq_true rfl) ?_
  intro p e s m below meth c ls X hr hlk G hl
  have hl : lv_has ls 3 [(0, .ref (ad 43))] := hl
  unfold F8_defined at h
  refine lv_iconst (pc := 0) (v := 0) X.1 X.2.1 dX8_defined_0 (by decide) ?_
  refine lv_istore_n (pc := 1) (lv' := [(1, .int 0), (0, .ref (ad 43))]) X.1 X.2.1 dX8_defined_1 rfl hl (by decide) rfl (fun ls hl => ?_)
  refine lv_iconst (pc := 2) (v := 0) X.1 X.2.1 dX8_defined_2 (by decide) ?_
  refine lv_istore_n (pc := 3) (lv' := [(2, .int 0), (1, .int 0), (0, .ref (ad 43))]) X.1 X.2.1 dX8_defined_3 rfl hl (by decide) rfl (fun ls hl => ?_)
  refine Loop_ind (P := fun (q : Int32 × Int32) => ∀ (H : Heap) (locs : List Loc) (ls : Array Slot), Mm D κ A ad (celM κ ad r0 z) s H locs → lv_has ls 3 [(0, .ref (ad 43)), (1, .int q.1), (2, .int q.2)] → W p l e rm8_defined s m [.ref (ad 43)].toArray below meth c H locs 0 0 (MQ below (QI D κ A ad (celM κ ad r0 z) res) [.ref (ad 43)].toArray s 0 0 A) (F0 m 4 ls [])) ?_ h _ _ ls G (lv_sub hl [2, 1, 0] rfl)
  intro q y1 h ih1 hz1 H locs ls G hl
  obtain ⟨x1, x2⟩ := q
  try dsimp only at h ih1 G hl ⊢
  refine lv_iload_n (pc := 4) X.1 X.2.1 dX8_defined_4 rfl (lv_at hl 2 rfl) ?_
  refine lv_bipush (pc := 5) (v := 26) X.1 X.2.1 dX8_defined_5 (by decide) ?_
  refine lv_icmp_ge (pc := 7) (tgt := 32) X.1 X.2.1 dX8_defined_7 (by decide) (fun hc3 => ?_) (fun hc3 => ?_)
  · have h := it_pos h hc3
    refine lv_iload_n (pc := 32) X.1 X.2.1 dX8_defined_32 rfl (lv_at hl 1 rfl) ?_
    have h := Option.some.inj h
    have h := hz1 _ h.symm
    exact m_iret (pc := 33) X G hr hlk dX8_defined_33 h rfl
  · have h := it_neg h hc3
    refine lv_iload_n (pc := 10) X.1 X.2.1 dX8_defined_10 rfl (lv_at hl 1 rfl) ?_
    refine lv_aload_n (pc := 11) X.1 X.2.1 dX8_defined_11 rfl (lv_at hl 0 rfl) ?_
    refine lv_iload_n (pc := 12) X.1 X.2.1 dX8_defined_12 rfl (lv_at hl 2 rfl) ?_
    obtain ⟨x4, ex4, h⟩ := bn_some h
    refine M_calli (pc := 13) (z1 := z) (v := x4) (As := [.int x2]) (rest := [.int x1]) X G (rm := rm8_isDefined) rfl rfl (c8_isDefined l D κ A ad r0 z x2 x4 ex4) g_X8_112 hd_yX8_isDefined ⟨Nat.le_of_ble_eq_true rfl, Nat.le_of_ble_eq_true rfl⟩ rfl hl rfl (lv_room (Nat.le_of_ble_eq_true rfl)) dX8_defined_13 ⟨Nat.le_of_ble_eq_true rfl, Nat.le_of_ble_eq_true rfl⟩ (fun H locs G => ?_)
    obtain ⟨k5, ek5, h⟩ := jp_some h
    have hk5 : ∀ (x7 : Int32) (H : Heap) (locs : List Loc) (ls : Array Slot), k5 x7 = some y1 → Mm D κ A ad (celM κ ad r0 z) s H locs → lv_has ls 3 [(0, .ref (ad 43)), (2, .int x2)] → W p l e rm8_defined s m [.ref (ad 43)].toArray below meth c H locs 0 0 (MQ below (QI D κ A ad (celM κ ad r0 z) res) [.ref (ad 43)].toArray s 0 0 A) (F0 m 24 ls [.int x7, .int x1]) := by
      intro x7 H locs ls h G hl
      rw [ek5] at h
      try dsimp only at h
      refine lv_iadd (pc := 24) X.1 X.2.1 dX8_defined_24 ?_
      refine lv_topi (fun x8 ex8 => ?_)
      have h := bd_at h ex8
      refine lv_istore_n (pc := 25) (lv' := [(1, .int x8), (0, .ref (ad 43)), (2, .int x2)]) X.1 X.2.1 dX8_defined_25 rfl hl (by decide) rfl (fun ls hl => ?_)
      obtain ⟨x9, ex9, h⟩ := bd_some h
      refine lv_iinc (pc := 26) (v := x9) (lv' := [(2, .int x9), (1, .int x8), (0, .ref (ad 43))]) X.1 X.2.1 dX8_defined_26 hl (k := 2) rfl (by rw [ex9]; rfl) (by decide) rfl (fun ls hl => ?_)
      refine lv_goto (pc := 29) (tgt := 4) X.1 X.2.1 dX8_defined_29 (by decide) ?_
      have h := Option.some.inj h
      exact ih1 _ h.symm _ _ ls G (lv_sub hl [2, 1, 0] rfl)
    refine lv_if_eq (pc := 16) (tgt := 23) X.1 X.2.1 dX8_defined_16 (by decide) (fun hc6 => ?_) (fun hc6 => ?_)
    · have h := it_pos h hc6
      refine lv_iconst (pc := 23) (v := 0) X.1 X.2.1 dX8_defined_23 (by decide) ?_
      exact hk5 0 _ _ ls h G (lv_sub hl [0, 2] rfl)
    · have h := it_neg h hc6
      refine lv_iconst (pc := 19) (v := 1) X.1 X.2.1 dX8_defined_19 (by decide) ?_
      refine lv_goto (pc := 20) (tgt := 24) X.1 X.2.1 dX8_defined_20 (by decide) ?_
      exact hk5 1 _ _ ls h G (lv_sub hl [0, 2] rfl)

abbrev rm8_append : Room := { frames := 1, cells := 0, slots := 0, locals := 22 }
noncomputable def F8_append (z : MS) (p0 : Int32) : Option (MS × Int32) :=
  bn (F8_in p0 33 126) fun x1 =>
  jp (fun (x5 : Int32) => bn2 (F8_refused z x5) fun z7 x6 =>
  if x6 = 0 then
  wr z7 5 60 (z7 43 6) p0 fun z9 =>
  bd (up2 z9 43 6 ((z9 43 6) + 1)) fun z10 =>
  some (z10, z10 43 6)
  else
  some (z7, 0)) fun k2 =>
  if ¬ x1 = 0 then
  if ¬ (z 43 6) = 60 then
  k2 0
  else
  k2 2
  else
  k2 1
set_option maxHeartbeats 4000000 in
set_option maxRecDepth 100000 in
theorem c8_append (l : Launch) (D : va_G) (κ : Nat → ClassId) (A : Nat → Prop) (ad : Nat → Nat) (r0 : Nat → Option va_E) (z : MS) (p0 : Int32) (res : MS × Int32) (h : F8_append z p0 = some res) : Met l yX8_append (gw yX8_append cX8_append 2 (some (FieldType.int))) rm8_append (va_Pc [.ref (ad 43), .int p0] (MW D κ A ad (celM κ ad r0 z))) (QI D κ A ad (celM κ ad r0 res.1) res.2) 0 0 A := by
  refine met_of (own := RX8) (by decide +kernel) rfl (Nat.le_of_ble_eq_true rfl) ?_
  intro p e s m below meth c ls X hr hlk G hl
  have hl : lv_has ls 2 [(0, .ref (ad 43)), (1, .int p0)] := hl
  unfold F8_append at h
  refine lv_aload_n (pc := 0) X.1 X.2.1 dX8_append_0 rfl (lv_at hl 0 rfl) ?_
  refine lv_iload_n (pc := 1) X.1 X.2.1 dX8_append_1 rfl (lv_at hl 1 rfl) ?_
  refine lv_bipush (pc := 2) (v := 33) X.1 X.2.1 dX8_append_2 (by decide) ?_
  refine lv_bipush (pc := 4) (v := 126) X.1 X.2.1 dX8_append_4 (by decide) ?_
  obtain ⟨x1, ex1, h⟩ := bn_some h
  refine m_callsi0 (pc := 6) (v := x1) (As := [.int p0, .int 33, .int 126]) (rest := [.ref (ad 43)]) X G (rm := rm8_in) rfl rfl (c8_in l D κ A ad (celM κ ad r0 z) p0 33 126 x1 ex1) g_X8_102 hs_yX8_in ⟨Nat.le_of_ble_eq_true rfl, Nat.le_of_ble_eq_true rfl⟩ rfl hl rfl (lv_room (Nat.le_of_ble_eq_true rfl)) dX8_append_6 ⟨Nat.le_of_ble_eq_true rfl, Nat.le_of_ble_eq_true rfl⟩ (fun H locs G => ?_)
  obtain ⟨k2, ek2, h⟩ := jp_some h
  have hk2 : ∀ (x5 : Int32) (H : Heap) (locs : List Loc) (ls : Array Slot), k2 x5 = some res → Mm D κ A ad (celM κ ad r0 z) s H locs → lv_has ls 2 [(0, .ref (ad 43)), (1, .int p0)] → W p l e rm8_append s m [.ref (ad 43), .int p0].toArray below meth c H locs 0 0 (MQ below (QI D κ A ad (celM κ ad r0 res.1) res.2) [.ref (ad 43), .int p0].toArray s 0 0 A) (F0 m 30 ls [.int x5, .ref (ad 43)]) := by
    intro x5 H locs ls h G hl
    rw [ek2] at h
    try dsimp only at h
    obtain ⟨z7, x6, ex6, h⟩ := bn2_some h
    refine M_calli (pc := 30) (z1 := z7) (v := x6) (As := [.int x5]) (rest := []) X G (rm := rm8_refused) rfl rfl (c8_refused l D κ A ad r0 z x5 (z7, x6) ex6) g_X8_116 hd_yX8_refused ⟨Nat.le_of_ble_eq_true rfl, Nat.le_of_ble_eq_true rfl⟩ rfl hl rfl (lv_room (Nat.le_of_ble_eq_true rfl)) dX8_append_30 ⟨Nat.le_of_ble_eq_true rfl, Nat.le_of_ble_eq_true rfl⟩ (fun H locs G => ?_)
    refine lv_if_eq (pc := 33) (tgt := 38) X.1 X.2.1 dX8_append_33 (by decide) (fun hc8 => ?_) (fun hc8 => ?_)
    · have h := it_pos h hc8
      refine lv_aload_n (pc := 38) X.1 X.2.1 dX8_append_38 rfl (lv_at hl 0 rfl) ?_
      refine M_getr (pc := 39) X G 5 (by decide) (by decide +kernel) fl_X8_23 dX8_append_39 ?_
      refine lv_aload_n (pc := 42) X.1 X.2.1 dX8_append_42 rfl (lv_at hl 0 rfl) ?_
      refine M_geti (pc := 43) X G 6 (by decide) (by decide +kernel) fl_X8_106 dX8_append_43 ?_
      refine lv_iload_n (pc := 46) X.1 X.2.1 dX8_append_46 rfl (lv_at hl 1 rfl) ?_
      obtain ⟨hiz9, z9, ez9, h⟩ := wr_some h
      refine M_iast (pc := 47) X G (i := 5) (n := 60) ez9 (by decide +kernel) (by decide) rfl hiz9 dX8_append_47 (fun H locs G => ?_)
      refine lv_aload_n (pc := 48) X.1 X.2.1 dX8_append_48 rfl (lv_at hl 0 rfl) ?_
      refine lv_dup (pc := 49) X.1 X.2.1 dX8_append_49 rfl ?_
      refine M_geti (pc := 50) X G 6 (by decide) (by decide +kernel) fl_X8_106 dX8_append_50 ?_
      refine lv_iconst (pc := 53) (v := 1) X.1 X.2.1 dX8_append_53 (by decide) ?_
      refine lv_iadd (pc := 54) X.1 X.2.1 dX8_append_54 ?_
      obtain ⟨z10, ez10, h⟩ := bd_some h
      refine M_puti (pc := 55) X G 6 ez10 (by decide) (by decide +kernel) fl_X8_106 dX8_append_55 (fun H locs G => ?_)
      refine lv_aload_n (pc := 58) X.1 X.2.1 dX8_append_58 rfl (lv_at hl 0 rfl) ?_
      refine M_geti (pc := 59) X G 6 (by decide) (by decide +kernel) fl_X8_106 dX8_append_59 ?_
      have h := Option.some.inj h
      exact m_iret (pc := 62) X G hr hlk dX8_append_62 (congrArg Prod.snd h) (congrArg (fun q : MS × Int32 => celM κ ad r0 q.1) h)
    · have h := it_neg h hc8
      refine lv_iconst (pc := 36) (v := 0) X.1 X.2.1 dX8_append_36 (by decide) ?_
      have h := Option.some.inj h
      exact m_iret (pc := 37) X G hr hlk dX8_append_37 (congrArg Prod.snd h) (congrArg (fun q : MS × Int32 => celM κ ad r0 q.1) h)
  refine lv_if_ne (pc := 9) (tgt := 16) X.1 X.2.1 dX8_append_9 (by decide) (fun hc3 => ?_) (fun hc3 => ?_)
  · have h := it_pos h hc3
    refine lv_aload_n (pc := 16) X.1 X.2.1 dX8_append_16 rfl (lv_at hl 0 rfl) ?_
    refine M_geti (pc := 17) X G 6 (by decide) (by decide +kernel) fl_X8_106 dX8_append_17 ?_
    refine lv_bipush (pc := 20) (v := 60) X.1 X.2.1 dX8_append_20 (by decide) ?_
    refine lv_icmp_ne (pc := 22) (tgt := 29) X.1 X.2.1 dX8_append_22 (by decide) (fun hc4 => ?_) (fun hc4 => ?_)
    · have h := it_pos h hc4
      refine lv_iconst (pc := 29) (v := 0) X.1 X.2.1 dX8_append_29 (by decide) ?_
      exact hk2 0 _ _ ls h G (lv_sub hl [0, 1] rfl)
    · have h := it_neg h (fun q => q hc4)
      refine lv_iconst (pc := 25) (v := 2) X.1 X.2.1 dX8_append_25 (by decide) ?_
      refine lv_goto (pc := 26) (tgt := 30) X.1 X.2.1 dX8_append_26 (by decide) ?_
      exact hk2 2 _ _ ls h G (lv_sub hl [0, 1] rfl)
  · have h := it_neg h (fun q => q hc3)
    refine lv_iconst (pc := 12) (v := 1) X.1 X.2.1 dX8_append_12 (by decide) ?_
    refine lv_goto (pc := 13) (tgt := 30) X.1 X.2.1 dX8_append_13 (by decide) ?_
    exact hk2 1 _ _ ls h G (lv_sub hl [0, 1] rfl)

abbrev rm8_clearBuffer : Room := { frames := 0, cells := 0, slots := 0, locals := 0 }
noncomputable def F8_clearBuffer (z : MS)  : Option (MS × Int32) :=
  bd (up2 z 43 7 0) fun z1 =>
  bd (z1 43 6) fun x2 =>
  bd (up2 z1 43 6 0) fun z3 =>
  some (z3, x2)
set_option maxHeartbeats 4000000 in
set_option maxRecDepth 100000 in
theorem c8_clearBuffer (l : Launch) (D : va_G) (κ : Nat → ClassId) (A : Nat → Prop) (ad : Nat → Nat) (r0 : Nat → Option va_E) (z : MS)  (res : MS × Int32) (h : F8_clearBuffer z  = some res) : Met l yX8_clearBuffer (gw yX8_clearBuffer cX8_clearBuffer 2 (some (FieldType.int))) rm8_clearBuffer (va_Pc [.ref (ad 43)] (MW D κ A ad (celM κ ad r0 z))) (QI D κ A ad (celM κ ad r0 res.1) res.2) 0 0 A := by
  refine met_of (own := RX8) (by decide +kernel) rfl (Nat.le_of_ble_eq_true rfl) ?_
  intro p e s m below meth c ls X hr hlk G hl
  have hl : lv_has ls 2 [(0, .ref (ad 43))] := hl
  unfold F8_clearBuffer at h
  refine lv_aload_n (pc := 0) X.1 X.2.1 dX8_clearBuffer_0 rfl (lv_at hl 0 rfl) ?_
  refine lv_iconst (pc := 1) (v := 0) X.1 X.2.1 dX8_clearBuffer_1 (by decide) ?_
  obtain ⟨z1, ez1, h⟩ := bd_some h
  refine M_puti (pc := 2) X G 7 ez1 (by decide) (by decide +kernel) fl_X8_98 dX8_clearBuffer_2 (fun H locs G => ?_)
  refine lv_aload_n (pc := 5) X.1 X.2.1 dX8_clearBuffer_5 rfl (lv_at hl 0 rfl) ?_
  refine M_geti (pc := 6) X G 6 (by decide) (by decide +kernel) fl_X8_106 dX8_clearBuffer_6 ?_
  refine lv_topi (fun x2 ex2 => ?_)
  have h := bd_at h ex2
  refine lv_istore_n (pc := 9) (lv' := [(1, .int x2), (0, .ref (ad 43))]) X.1 X.2.1 dX8_clearBuffer_9 rfl hl (by decide) rfl (fun ls hl => ?_)
  refine lv_aload_n (pc := 10) X.1 X.2.1 dX8_clearBuffer_10 rfl (lv_at hl 1 rfl) ?_
  refine lv_iconst (pc := 11) (v := 0) X.1 X.2.1 dX8_clearBuffer_11 (by decide) ?_
  obtain ⟨z3, ez3, h⟩ := bd_some h
  refine M_puti (pc := 12) X G 6 ez3 (by decide) (by decide +kernel) fl_X8_106 dX8_clearBuffer_12 (fun H locs G => ?_)
  refine lv_iload_n (pc := 15) X.1 X.2.1 dX8_clearBuffer_15 rfl (lv_at hl 0 rfl) ?_
  have h := Option.some.inj h
  exact m_iret (pc := 16) X G hr hlk dX8_clearBuffer_16 (congrArg Prod.snd h) (congrArg (fun q : MS × Int32 => celM κ ad r0 q.1) h)

abbrev rm8_error : Room := { frames := 2, cells := 0, slots := 0, locals := 42 }
noncomputable def F8_error (z : MS)  : Option (MS × Int32) :=
  bd (up2 z 43 9 0) fun z1 =>
  Loop (fun (q : Int32 × Int32 × MS) => (fun (x2 : Int32) (x3 : Int32) (z4 : MS) =>
  if (z4 43 6) ≤ x3 then
  some (.inr (z4, z4 43 6))
  else
  rd (z4 5) 60 x3 fun x6 =>
  bn (F8_isPlain x6) fun x7 =>
  jp (fun (x25 : Int32) => if ¬ x25 = 0 then
  jp (fun (z31 : MS) => jp (fun (z35 : MS) => jp (fun (z40 : MS) => bn (F8_isCall x6) fun x41 =>
  bd (x3 + 1) fun x42 =>
  some (.inl (x41, x42, z40))) fun k36 =>
  if ¬ x6 = 44 then
  k36 z35
  else
  rd (z35 8) 60 ((z35 43 9) - 1) fun x38 =>
  wr z35 8 60 ((z35 43 9) - 1) (x38 + 1) fun z39 =>
  k36 z39) fun k32 =>
  if ¬ x6 = 41 then
  k32 z31
  else
  bd (up2 z31 43 9 ((z31 43 9) - 1)) fun z34 =>
  k32 z34) fun k27 =>
  if ¬ x6 = 40 then
  k27 z4
  else
  wr z4 8 60 (z4 43 9) 1 fun z29 =>
  bd (up2 z29 43 9 ((z29 43 9) + 1)) fun z30 =>
  k27 z30
  else
  some (.inr (z4, x3))) fun k8 =>
  jp (fun (_ : Unit) => k8 1) fun k9 =>
  if ¬ x7 = 0 then
  k9 ()
  else
  if x6 = 63 then
  k9 ()
  else
  bn (F8_isCall x6) fun x12 =>
  if ¬ x12 = 0 then
  k9 ()
  else
  jp (fun (_ : Unit) => jp (fun (_ : Unit) => jp (fun (_ : Unit) => k8 0) fun k20 =>
  if ¬ x6 = 44 then
  k20 ()
  else
  if (z4 43 9) ≤ 0 then
  k20 ()
  else
  rd (z4 8) 60 ((z4 43 9) - 1) fun x23 =>
  if 6 ≤ x23 then
  k20 ()
  else
  k9 ()) fun k17 =>
  if ¬ x6 = 41 then
  k17 ()
  else
  if (0 : Int32) < (z4 43 9) then
  k9 ()
  else
  k17 ()) fun k14 =>
  if ¬ x6 = 40 then
  k14 ()
  else
  if ¬ x2 = 0 then
  k9 ()
  else
  k14 ()) q.1 q.2.1 q.2.2) (0, 0, z1)
set_option maxHeartbeats 4000000 in
set_option maxRecDepth 100000 in
theorem c8_error (l : Launch) (D : va_G) (κ : Nat → ClassId) (A : Nat → Prop) (ad : Nat → Nat) (r0 : Nat → Option va_E) (z : MS)  (res : MS × Int32) (h : F8_error z  = some res) : Met l yX8_error (gw yX8_error cX8_error 5 (some (FieldType.int))) rm8_error (va_Pc [.ref (ad 43)] (MW D κ A ad (celM κ ad r0 z))) (QI D κ A ad (celM κ ad r0 res.1) res.2) 0 0 A := by
  refine met_of (own := RX8) (by decide +kernel) rfl (Nat.le_of_ble_eq_true rfl) ?_
  intro p e s m below meth c ls X hr hlk G hl
  have hl : lv_has ls 5 [(0, .ref (ad 43))] := hl
  unfold F8_error at h
  refine lv_aload_n (pc := 0) X.1 X.2.1 dX8_error_0 rfl (lv_at hl 0 rfl) ?_
  refine lv_iconst (pc := 1) (v := 0) X.1 X.2.1 dX8_error_1 (by decide) ?_
  obtain ⟨z1, ez1, h⟩ := bd_some h
  refine M_puti (pc := 2) X G 9 ez1 (by decide) (by decide +kernel) fl_X8_119 dX8_error_2 (fun H locs G => ?_)
  refine lv_iconst (pc := 5) (v := 0) X.1 X.2.1 dX8_error_5 (by decide) ?_
  refine lv_istore_n (pc := 6) (lv' := [(1, .int 0), (0, .ref (ad 43))]) X.1 X.2.1 dX8_error_6 rfl hl (by decide) rfl (fun ls hl => ?_)
  refine lv_iconst (pc := 7) (v := 0) X.1 X.2.1 dX8_error_7 (by decide) ?_
  refine lv_istore_n (pc := 8) (lv' := [(2, .int 0), (1, .int 0), (0, .ref (ad 43))]) X.1 X.2.1 dX8_error_8 rfl hl (by decide) rfl (fun ls hl => ?_)
  refine Loop_ind (P := fun (q : Int32 × Int32 × MS) => ∀ (H : Heap) (locs : List Loc) (ls : Array Slot), Mm D κ A ad (celM κ ad r0 q.2.2) s H locs → lv_has ls 5 [(0, .ref (ad 43)), (1, .int q.1), (2, .int q.2.1)] → W p l e rm8_error s m [.ref (ad 43)].toArray below meth c H locs 0 0 (MQ below (QI D κ A ad (celM κ ad r0 res.1) res.2) [.ref (ad 43)].toArray s 0 0 A) (F0 m 9 ls [])) ?_ h _ _ ls G (lv_sub hl [2, 1, 0] rfl)
  intro q y1 h ih1 hz1 H locs ls G hl
  obtain ⟨x2, x3, z4⟩ := q
  try dsimp only at h ih1 G hl ⊢
  refine lv_iload_n (pc := 9) X.1 X.2.1 dX8_error_9 rfl (lv_at hl 2 rfl) ?_
  refine lv_aload_n (pc := 10) X.1 X.2.1 dX8_error_10 rfl (lv_at hl 0 rfl) ?_
  refine M_geti (pc := 11) X G 6 (by decide) (by decide +kernel) fl_X8_106 dX8_error_11 ?_
  refine lv_icmp_ge (pc := 14) (tgt := 184) X.1 X.2.1 dX8_error_14 (by decide) (fun hc5 => ?_) (fun hc5 => ?_)
  · have h := it_pos h hc5
    refine lv_aload_n (pc := 184) X.1 X.2.1 dX8_error_184 rfl (lv_at hl 0 rfl) ?_
    refine M_geti (pc := 185) X G 6 (by decide) (by decide +kernel) fl_X8_106 dX8_error_185 ?_
    have h := Option.some.inj h
    have h := hz1 _ h.symm
    exact m_iret (pc := 188) X G hr hlk dX8_error_188 (congrArg Prod.snd h) (congrArg (fun q : MS × Int32 => celM κ ad r0 q.1) h)
  · have h := it_neg h hc5
    refine lv_aload_n (pc := 17) X.1 X.2.1 dX8_error_17 rfl (lv_at hl 0 rfl) ?_
    refine M_getr (pc := 18) X G 5 (by decide) (by decide +kernel) fl_X8_23 dX8_error_18 ?_
    refine lv_iload_n (pc := 21) X.1 X.2.1 dX8_error_21 rfl (lv_at hl 2 rfl) ?_
    obtain ⟨hix6, h⟩ := rd_some h
    refine M_iald (pc := 22) X G (i := 5) (n := 60) (by decide +kernel) (by decide) rfl hix6 dX8_error_22 ?_
    refine lv_topi (fun x6 ex6 => ?_)
    rw [← ex6] at h
    refine lv_istore_n (pc := 23) (lv' := [(3, .int x6), (0, .ref (ad 43)), (1, .int x2), (2, .int x3)]) X.1 X.2.1 dX8_error_23 rfl hl (by decide) rfl (fun ls hl => ?_)
    refine lv_iload_n (pc := 24) X.1 X.2.1 dX8_error_24 rfl (lv_at hl 0 rfl) ?_
    obtain ⟨x7, ex7, h⟩ := bn_some h
    refine m_callsi0 (pc := 25) (v := x7) (As := [.int x6]) (rest := []) X G (rm := rm8_isPlain) rfl rfl (c8_isPlain l D κ A ad (celM κ ad r0 z4) x6 x7 ex7) g_X8_122 hs_yX8_isPlain ⟨Nat.le_of_ble_eq_true rfl, Nat.le_of_ble_eq_true rfl⟩ rfl hl rfl (lv_room (Nat.le_of_ble_eq_true rfl)) dX8_error_25 ⟨Nat.le_of_ble_eq_true rfl, Nat.le_of_ble_eq_true rfl⟩ (fun H locs G => ?_)
    obtain ⟨k8, ek8, h⟩ := jp_some h
    have hk8 : ∀ (x25 : Int32) (H : Heap) (locs : List Loc) (ls : Array Slot), k8 x25 = some y1 → Mm D κ A ad (celM κ ad r0 z4) s H locs → lv_has ls 5 [(0, .ref (ad 43)), (2, .int x3), (3, .int x6)] → W p l e rm8_error s m [.ref (ad 43)].toArray below meth c H locs 0 0 (MQ below (QI D κ A ad (celM κ ad r0 res.1) res.2) [.ref (ad 43)].toArray s 0 0 A) (F0 m 101 ls [.int x25]) := by
      intro x25 H locs ls h G hl
      rw [ek8] at h
      try dsimp only at h
      refine lv_istore (pc := 101) (lv' := [(4, .int x25), (0, .ref (ad 43)), (2, .int x3), (3, .int x6)]) X.1 X.2.1 dX8_error_101 hl (by decide) rfl (fun ls hl => ?_)
      refine lv_iload (pc := 103) X.1 X.2.1 dX8_error_103 (lv_at hl 0 rfl) ?_
      refine lv_if_ne (pc := 105) (tgt := 110) X.1 X.2.1 dX8_error_105 (by decide) (fun hc26 => ?_) (fun hc26 => ?_)
      · have h := it_pos h hc26
        refine lv_iload_n (pc := 110) X.1 X.2.1 dX8_error_110 rfl (lv_at hl 3 rfl) ?_
        refine lv_bipush (pc := 111) (v := 40) X.1 X.2.1 dX8_error_111 (by decide) ?_
        obtain ⟨k27, ek27, h⟩ := jp_some h
        have hk27 : ∀ (z31 : MS) (H : Heap) (locs : List Loc) (ls : Array Slot), k27 z31 = some y1 → Mm D κ A ad (celM κ ad r0 z31) s H locs → lv_has ls 5 [(0, .ref (ad 43)), (2, .int x3), (3, .int x6)] → W p l e rm8_error s m [.ref (ad 43)].toArray below meth c H locs 0 0 (MQ below (QI D κ A ad (celM κ ad r0 res.1) res.2) [.ref (ad 43)].toArray s 0 0 A) (F0 m 136 ls []) := by
          intro z31 H locs ls h G hl
          rw [ek27] at h
          try dsimp only at h
          refine lv_iload_n (pc := 136) X.1 X.2.1 dX8_error_136 rfl (lv_at hl 2 rfl) ?_
          refine lv_bipush (pc := 137) (v := 41) X.1 X.2.1 dX8_error_137 (by decide) ?_
          obtain ⟨k32, ek32, h⟩ := jp_some h
          have hk32 : ∀ (z35 : MS) (H : Heap) (locs : List Loc) (ls : Array Slot), k32 z35 = some y1 → Mm D κ A ad (celM κ ad r0 z35) s H locs → lv_has ls 5 [(0, .ref (ad 43)), (2, .int x3), (3, .int x6)] → W p l e rm8_error s m [.ref (ad 43)].toArray below meth c H locs 0 0 (MQ below (QI D κ A ad (celM κ ad r0 res.1) res.2) [.ref (ad 43)].toArray s 0 0 A) (F0 m 152 ls []) := by
            intro z35 H locs ls h G hl
            rw [ek32] at h
            try dsimp only at h
            refine lv_iload_n (pc := 152) X.1 X.2.1 dX8_error_152 rfl (lv_at hl 2 rfl) ?_
            refine lv_bipush (pc := 153) (v := 44) X.1 X.2.1 dX8_error_153 (by decide) ?_
            obtain ⟨k36, ek36, h⟩ := jp_some h
            have hk36 : ∀ (z40 : MS) (H : Heap) (locs : List Loc) (ls : Array Slot), k36 z40 = some y1 → Mm D κ A ad (celM κ ad r0 z40) s H locs → lv_has ls 5 [(0, .ref (ad 43)), (2, .int x3), (3, .int x6)] → W p l e rm8_error s m [.ref (ad 43)].toArray below meth c H locs 0 0 (MQ below (QI D κ A ad (celM κ ad r0 res.1) res.2) [.ref (ad 43)].toArray s 0 0 A) (F0 m 173 ls []) := by
              intro z40 H locs ls h G hl
              rw [ek36] at h
              try dsimp only at h
              refine lv_iload_n (pc := 173) X.1 X.2.1 dX8_error_173 rfl (lv_at hl 2 rfl) ?_
              obtain ⟨x41, ex41, h⟩ := bn_some h
              refine m_callsi0 (pc := 174) (v := x41) (As := [.int x6]) (rest := []) X G (rm := rm8_isCall) rfl rfl (c8_isCall l D κ A ad (celM κ ad r0 z40) x6 x41 ex41) g_X8_125 hs_yX8_isCall ⟨Nat.le_of_ble_eq_true rfl, Nat.le_of_ble_eq_true rfl⟩ rfl hl rfl (lv_room (Nat.le_of_ble_eq_true rfl)) dX8_error_174 ⟨Nat.le_of_ble_eq_true rfl, Nat.le_of_ble_eq_true rfl⟩ (fun H locs G => ?_)
              refine lv_istore_n (pc := 177) (lv' := [(1, .int x41), (0, .ref (ad 43)), (2, .int x3), (3, .int x6)]) X.1 X.2.1 dX8_error_177 rfl hl (by decide) rfl (fun ls hl => ?_)
              obtain ⟨x42, ex42, h⟩ := bd_some h
              refine lv_iinc (pc := 178) (v := x42) (lv' := [(2, .int x42), (1, .int x41), (0, .ref (ad 43)), (3, .int x6)]) X.1 X.2.1 dX8_error_178 hl (k := 2) rfl (by rw [ex42]; rfl) (by decide) rfl (fun ls hl => ?_)
              refine lv_goto (pc := 181) (tgt := 9) X.1 X.2.1 dX8_error_181 (by decide) ?_
              have h := Option.some.inj h
              exact ih1 _ h.symm _ _ ls G (lv_sub hl [2, 1, 0] rfl)
            refine lv_icmp_ne (pc := 155) (tgt := 173) X.1 X.2.1 dX8_error_155 (by decide) (fun hc37 => ?_) (fun hc37 => ?_)
            · have h := it_pos h hc37
              exact hk36 z35 _ _ ls h G (lv_sub hl [0, 1, 2] rfl)
            · have h := it_neg h (fun q => q hc37)
              refine lv_aload_n (pc := 158) X.1 X.2.1 dX8_error_158 rfl (lv_at hl 0 rfl) ?_
              refine M_getr (pc := 159) X G 8 (by decide) (by decide +kernel) fl_X8_26 dX8_error_159 ?_
              refine lv_aload_n (pc := 162) X.1 X.2.1 dX8_error_162 rfl (lv_at hl 0 rfl) ?_
              refine M_geti (pc := 163) X G 9 (by decide) (by decide +kernel) fl_X8_119 dX8_error_163 ?_
              refine lv_iconst (pc := 166) (v := 1) X.1 X.2.1 dX8_error_166 (by decide) ?_
              refine lv_isub (pc := 167) X.1 X.2.1 dX8_error_167 ?_
              refine lv_dup2_11 (pc := 168) X.1 X.2.1 dX8_error_168 rfl rfl ?_
              obtain ⟨hix38, h⟩ := rd_some h
              refine M_iald (pc := 169) X G (i := 8) (n := 60) (by decide +kernel) (by decide) rfl hix38 dX8_error_169 ?_
              refine lv_topi (fun x38 ex38 => ?_)
              rw [← ex38] at h
              refine lv_iconst (pc := 170) (v := 1) X.1 X.2.1 dX8_error_170 (by decide) ?_
              refine lv_iadd (pc := 171) X.1 X.2.1 dX8_error_171 ?_
              obtain ⟨hiz39, z39, ez39, h⟩ := wr_some h
              refine M_iast (pc := 172) X G (i := 8) (n := 60) ez39 (by decide +kernel) (by decide) rfl hiz39 dX8_error_172 (fun H locs G => ?_)
              exact hk36 z39 _ _ ls h G (lv_sub hl [0, 1, 2] rfl)
          refine lv_icmp_ne (pc := 139) (tgt := 152) X.1 X.2.1 dX8_error_139 (by decide) (fun hc33 => ?_) (fun hc33 => ?_)
          · have h := it_pos h hc33
            exact hk32 z31 _ _ ls h G (lv_sub hl [0, 1, 2] rfl)
          · have h := it_neg h (fun q => q hc33)
            refine lv_aload_n (pc := 142) X.1 X.2.1 dX8_error_142 rfl (lv_at hl 0 rfl) ?_
            refine lv_dup (pc := 143) X.1 X.2.1 dX8_error_143 rfl ?_
            refine M_geti (pc := 144) X G 9 (by decide) (by decide +kernel) fl_X8_119 dX8_error_144 ?_
            refine lv_iconst (pc := 147) (v := 1) X.1 X.2.1 dX8_error_147 (by decide) ?_
            refine lv_isub (pc := 148) X.1 X.2.1 dX8_error_148 ?_
            obtain ⟨z34, ez34, h⟩ := bd_some h
            refine M_puti (pc := 149) X G 9 ez34 (by decide) (by decide +kernel) fl_X8_119 dX8_error_149 (fun H locs G => ?_)
            exact hk32 z34 _ _ ls h G (lv_sub hl [0, 1, 2] rfl)
        refine lv_icmp_ne (pc := 113) (tgt := 136) X.1 X.2.1 dX8_error_113 (by decide) (fun hc28 => ?_) (fun hc28 => ?_)
        · have h := it_pos h hc28
          exact hk27 z4 _ _ ls h G (lv_sub hl [1, 2, 3] rfl)
        · have h := it_neg h (fun q => q hc28)
          refine lv_aload_n (pc := 116) X.1 X.2.1 dX8_error_116 rfl (lv_at hl 1 rfl) ?_
          refine M_getr (pc := 117) X G 8 (by decide) (by decide +kernel) fl_X8_26 dX8_error_117 ?_
          refine lv_aload_n (pc := 120) X.1 X.2.1 dX8_error_120 rfl (lv_at hl 1 rfl) ?_
          refine M_geti (pc := 121) X G 9 (by decide) (by decide +kernel) fl_X8_119 dX8_error_121 ?_
          refine lv_iconst (pc := 124) (v := 1) X.1 X.2.1 dX8_error_124 (by decide) ?_
          obtain ⟨hiz29, z29, ez29, h⟩ := wr_some h
          refine M_iast (pc := 125) X G (i := 8) (n := 60) ez29 (by decide +kernel) (by decide) rfl hiz29 dX8_error_125 (fun H locs G => ?_)
          refine lv_aload_n (pc := 126) X.1 X.2.1 dX8_error_126 rfl (lv_at hl 1 rfl) ?_
          refine lv_dup (pc := 127) X.1 X.2.1 dX8_error_127 rfl ?_
          refine M_geti (pc := 128) X G 9 (by decide) (by decide +kernel) fl_X8_119 dX8_error_128 ?_
          refine lv_iconst (pc := 131) (v := 1) X.1 X.2.1 dX8_error_131 (by decide) ?_
          refine lv_iadd (pc := 132) X.1 X.2.1 dX8_error_132 ?_
          obtain ⟨z30, ez30, h⟩ := bd_some h
          refine M_puti (pc := 133) X G 9 ez30 (by decide) (by decide +kernel) fl_X8_119 dX8_error_133 (fun H locs G => ?_)
          exact hk27 z30 _ _ ls h G (lv_sub hl [1, 2, 3] rfl)
      · have h := it_neg h (fun q => q hc26)
        refine lv_iload_n (pc := 108) X.1 X.2.1 dX8_error_108 rfl (lv_at hl 2 rfl) ?_
        have h := Option.some.inj h
        have h := hz1 _ h.symm
        exact m_iret (pc := 109) X G hr hlk dX8_error_109 (congrArg Prod.snd h) (congrArg (fun q : MS × Int32 => celM κ ad r0 q.1) h)
    obtain ⟨k9, ek9, h⟩ := jp_some h
    have hk9 : ∀  (H : Heap) (locs : List Loc) (ls : Array Slot), k9 () = some y1 → Mm D κ A ad (celM κ ad r0 z4) s H locs → lv_has ls 5 [(0, .ref (ad 43)), (2, .int x3), (3, .int x6)] → W p l e rm8_error s m [.ref (ad 43)].toArray below meth c H locs 0 0 (MQ below (QI D κ A ad (celM κ ad r0 res.1) res.2) [.ref (ad 43)].toArray s 0 0 A) (F0 m 96 ls []) := by
      intro  H locs ls h G hl
      rw [ek9] at h
      try dsimp only at h
      refine lv_iconst (pc := 96) (v := 1) X.1 X.2.1 dX8_error_96 (by decide) ?_
      refine lv_goto (pc := 97) (tgt := 101) X.1 X.2.1 dX8_error_97 (by decide) ?_
      exact hk8 1 _ _ ls h G (lv_sub hl [0, 1, 2] rfl)
    refine lv_if_ne (pc := 28) (tgt := 96) X.1 X.2.1 dX8_error_28 (by decide) (fun hc10 => ?_) (fun hc10 => ?_)
    · have h := it_pos h hc10
      exact hk9  _ _ ls h G (lv_sub hl [1, 3, 0] rfl)
    · have h := it_neg h (fun q => q hc10)
      refine lv_iload_n (pc := 31) X.1 X.2.1 dX8_error_31 rfl (lv_at hl 0 rfl) ?_
      refine lv_bipush (pc := 32) (v := 63) X.1 X.2.1 dX8_error_32 (by decide) ?_
      refine lv_icmp_eq (pc := 34) (tgt := 96) X.1 X.2.1 dX8_error_34 (by decide) (fun hc11 => ?_) (fun hc11 => ?_)
      · have h := it_pos h hc11
        exact hk9  _ _ ls h G (lv_sub hl [1, 3, 0] rfl)
      · have h := it_neg h hc11
        refine lv_iload_n (pc := 37) X.1 X.2.1 dX8_error_37 rfl (lv_at hl 0 rfl) ?_
        obtain ⟨x12, ex12, h⟩ := bn_some h
        refine m_callsi0 (pc := 38) (v := x12) (As := [.int x6]) (rest := []) X G (rm := rm8_isCall) rfl rfl (c8_isCall l D κ A ad (celM κ ad r0 z4) x6 x12 ex12) g_X8_125 hs_yX8_isCall ⟨Nat.le_of_ble_eq_true rfl, Nat.le_of_ble_eq_true rfl⟩ rfl hl rfl (lv_room (Nat.le_of_ble_eq_true rfl)) dX8_error_38 ⟨Nat.le_of_ble_eq_true rfl, Nat.le_of_ble_eq_true rfl⟩ (fun H locs G => ?_)
        refine lv_if_ne (pc := 41) (tgt := 96) X.1 X.2.1 dX8_error_41 (by decide) (fun hc13 => ?_) (fun hc13 => ?_)
        · have h := it_pos h hc13
          exact hk9  _ _ ls h G (lv_sub hl [1, 3, 0] rfl)
        · have h := it_neg h (fun q => q hc13)
          refine lv_iload_n (pc := 44) X.1 X.2.1 dX8_error_44 rfl (lv_at hl 0 rfl) ?_
          refine lv_bipush (pc := 45) (v := 40) X.1 X.2.1 dX8_error_45 (by decide) ?_
          obtain ⟨k14, ek14, h⟩ := jp_some h
          have hk14 : ∀  (H : Heap) (locs : List Loc) (ls : Array Slot), k14 () = some y1 → Mm D κ A ad (celM κ ad r0 z4) s H locs → lv_has ls 5 [(0, .ref (ad 43)), (2, .int x3), (3, .int x6)] → W p l e rm8_error s m [.ref (ad 43)].toArray below meth c H locs 0 0 (MQ below (QI D κ A ad (celM κ ad r0 res.1) res.2) [.ref (ad 43)].toArray s 0 0 A) (F0 m 54 ls []) := by
            intro  H locs ls h G hl
            rw [ek14] at h
            try dsimp only at h
            refine lv_iload_n (pc := 54) X.1 X.2.1 dX8_error_54 rfl (lv_at hl 2 rfl) ?_
            refine lv_bipush (pc := 55) (v := 41) X.1 X.2.1 dX8_error_55 (by decide) ?_
            obtain ⟨k17, ek17, h⟩ := jp_some h
            have hk17 : ∀  (H : Heap) (locs : List Loc) (ls : Array Slot), k17 () = some y1 → Mm D κ A ad (celM κ ad r0 z4) s H locs → lv_has ls 5 [(0, .ref (ad 43)), (2, .int x3), (3, .int x6)] → W p l e rm8_error s m [.ref (ad 43)].toArray below meth c H locs 0 0 (MQ below (QI D κ A ad (celM κ ad r0 res.1) res.2) [.ref (ad 43)].toArray s 0 0 A) (F0 m 67 ls []) := by
              intro  H locs ls h G hl
              rw [ek17] at h
              try dsimp only at h
              refine lv_iload_n (pc := 67) X.1 X.2.1 dX8_error_67 rfl (lv_at hl 2 rfl) ?_
              refine lv_bipush (pc := 68) (v := 44) X.1 X.2.1 dX8_error_68 (by decide) ?_
              obtain ⟨k20, ek20, h⟩ := jp_some h
              have hk20 : ∀  (H : Heap) (locs : List Loc) (ls : Array Slot), k20 () = some y1 → Mm D κ A ad (celM κ ad r0 z4) s H locs → lv_has ls 5 [(0, .ref (ad 43)), (2, .int x3), (3, .int x6)] → W p l e rm8_error s m [.ref (ad 43)].toArray below meth c H locs 0 0 (MQ below (QI D κ A ad (celM κ ad r0 res.1) res.2) [.ref (ad 43)].toArray s 0 0 A) (F0 m 100 ls []) := by
                intro  H locs ls h G hl
                rw [ek20] at h
                try dsimp only at h
                refine lv_iconst (pc := 100) (v := 0) X.1 X.2.1 dX8_error_100 (by decide) ?_
                exact hk8 0 _ _ ls h G (lv_sub hl [0, 1, 2] rfl)
              refine lv_icmp_ne (pc := 70) (tgt := 100) X.1 X.2.1 dX8_error_70 (by decide) (fun hc21 => ?_) (fun hc21 => ?_)
              · have h := it_pos h hc21
                exact hk20  _ _ ls h G (lv_sub hl [0, 1, 2] rfl)
              · have h := it_neg h (fun q => q hc21)
                refine lv_aload_n (pc := 73) X.1 X.2.1 dX8_error_73 rfl (lv_at hl 0 rfl) ?_
                refine M_geti (pc := 74) X G 9 (by decide) (by decide +kernel) fl_X8_119 dX8_error_74 ?_
                refine lv_if_le (pc := 77) (tgt := 100) X.1 X.2.1 dX8_error_77 (by decide) (fun hc22 => ?_) (fun hc22 => ?_)
                · have h := it_pos h hc22
                  exact hk20  _ _ ls h G (lv_sub hl [0, 1, 2] rfl)
                · have h := it_neg h hc22
                  refine lv_aload_n (pc := 80) X.1 X.2.1 dX8_error_80 rfl (lv_at hl 0 rfl) ?_
                  refine M_getr (pc := 81) X G 8 (by decide) (by decide +kernel) fl_X8_26 dX8_error_81 ?_
                  refine lv_aload_n (pc := 84) X.1 X.2.1 dX8_error_84 rfl (lv_at hl 0 rfl) ?_
                  refine M_geti (pc := 85) X G 9 (by decide) (by decide +kernel) fl_X8_119 dX8_error_85 ?_
                  refine lv_iconst (pc := 88) (v := 1) X.1 X.2.1 dX8_error_88 (by decide) ?_
                  refine lv_isub (pc := 89) X.1 X.2.1 dX8_error_89 ?_
                  obtain ⟨hix23, h⟩ := rd_some h
                  refine M_iald (pc := 90) X G (i := 8) (n := 60) (by decide +kernel) (by decide) rfl hix23 dX8_error_90 ?_
                  refine lv_topi (fun x23 ex23 => ?_)
                  rw [← ex23] at h
                  refine lv_bipush (pc := 91) (v := 6) X.1 X.2.1 dX8_error_91 (by decide) ?_
                  refine lv_icmp_ge (pc := 93) (tgt := 100) X.1 X.2.1 dX8_error_93 (by decide) (fun hc24 => ?_) (fun hc24 => ?_)
                  · have h := it_pos h hc24
                    exact hk20  _ _ ls h G (lv_sub hl [0, 1, 2] rfl)
                  · have h := it_neg h hc24
                    exact hk9  _ _ ls h G (lv_sub hl [0, 1, 2] rfl)
            refine lv_icmp_ne (pc := 57) (tgt := 67) X.1 X.2.1 dX8_error_57 (by decide) (fun hc18 => ?_) (fun hc18 => ?_)
            · have h := it_pos h hc18
              exact hk17  _ _ ls h G (lv_sub hl [0, 1, 2] rfl)
            · have h := it_neg h (fun q => q hc18)
              refine lv_aload_n (pc := 60) X.1 X.2.1 dX8_error_60 rfl (lv_at hl 0 rfl) ?_
              refine M_geti (pc := 61) X G 9 (by decide) (by decide +kernel) fl_X8_119 dX8_error_61 ?_
              refine lv_if_gt (pc := 64) (tgt := 96) X.1 X.2.1 dX8_error_64 (by decide) (fun hc19 => ?_) (fun hc19 => ?_)
              · have h := it_pos h hc19
                exact hk9  _ _ ls h G (lv_sub hl [0, 1, 2] rfl)
              · have h := it_neg h hc19
                exact hk17  _ _ ls h G (lv_sub hl [0, 1, 2] rfl)
          refine lv_icmp_ne (pc := 47) (tgt := 54) X.1 X.2.1 dX8_error_47 (by decide) (fun hc15 => ?_) (fun hc15 => ?_)
          · have h := it_pos h hc15
            exact hk14  _ _ ls h G (lv_sub hl [1, 3, 0] rfl)
          · have h := it_neg h (fun q => q hc15)
            refine lv_iload_n (pc := 50) X.1 X.2.1 dX8_error_50 rfl (lv_at hl 2 rfl) ?_
            refine lv_if_ne (pc := 51) (tgt := 96) X.1 X.2.1 dX8_error_51 (by decide) (fun hc16 => ?_) (fun hc16 => ?_)
            · have h := it_pos h hc16
              exact hk9  _ _ ls h G (lv_sub hl [1, 3, 0] rfl)
            · have h := it_neg h (fun q => q hc16)
              exact hk14  _ _ ls h G (lv_sub hl [1, 3, 0] rfl)
