/-! THE LAW'S WORLD: the class's and the reference's, the row of one long (id 44) between them -/
def nuM : Nat → Option va_E := fun _ => none
def LM (κ : Nat → ClassId) (ad : Nat → Nat) (z : MS) (x : Int64) (b : BS) : Nat → Option va_E := celB κ ad (celO κ (celM κ ad nuM z) x) b
def LR (κ : Nat → ClassId) (ad : Nat → Nat) (x : Int64) (b : BS) : Nat → Option va_E := celB κ ad (celO κ nuM x) b
theorem LM_eq {κ : Nat → ClassId} {ad : Nat → Nat} {z : MS} {x : Int64} {b : BS} (j : Nat) : celM κ ad (LR κ ad x b) z j = LM κ ad z x b j := by
  unfold LM LR celB celO
  by_cases h : j < 50
  · rw [if_pos h]
    by_cases h4 : j = 44
    · subst h4
      unfold celM
      rw [if_neg (by decide), isA8_ge (by decide)]
      rfl
    · rw [if_neg h4]
      unfold celM
      by_cases h43 : j = 43
      · rw [if_pos h43, if_pos h43]
      · rw [if_neg h43, if_neg h43]
        by_cases ha : isA8 j = true
        · rw [if_pos ha, if_pos ha]
        · rw [if_neg ha, if_neg ha]
          dsimp only
          rw [if_pos h, if_neg h4]
  · rw [if_neg h]
    unfold celM
    rw [if_neg (by omega), if_neg (by rw [isA8_ge (by omega)]; decide)]
    dsimp only
    rw [if_neg h]
theorem obj8_ad {ad ad' : Nat → Nat} {z : MS} (h : ∀ k, k < 43 → ad' k = ad k) : obj8 ad' z = obj8 ad z := by
  unfold obj8
  refine List.map_congr_left fun k hk => ?_
  rw [h k (List.mem_range.mp hk)]
theorem LM_mv {κ : Nat → ClassId} {ad ad' : Nat → Nat} {z : MS} {x : Int64} {b b' : BS} (hA : Ag b.2.2 ad ad') (j : Nat) : LM κ ad' z x b' j = celB κ ad' (celO κ (celM κ ad nuM z) x) b' j := by
  unfold LM celB celO celM
  rw [obj8_ad (fun k hk => hA k (Or.inl (by omega)))]
theorem LR_44 {κ : Nat → ClassId} {ad : Nat → Nat} {z : MS} {x : Int64} {b : BS} : celM κ ad (LR κ ad x b) z 44 = some (outC κ x) := (LM_eq 44).trans rfl
section LL
variable {p : Program} {l : Launch} {e : Env} {R : Room} {s : State} {m : MethodId} {args : Array Value} {below : List Frame} {meth : Method} {c : Code} {H : Heap} {locs : List Loc} {cells slots : Nat} {Q : State → Prop}
variable {cc : ByteArray} {pc nL : Nat} {ls : Array Slot} {rest : List Value} {D : va_G} {κ : Nat → ClassId} {A : Nat → Prop} {ad : Nat → Nat} {own : String} {lv : List (Nat × Value)} {M : Nat → Option va_E} {mc ms : Nat}
theorem m_callW (X : CallFix p m c cc nL s args G0 own) (G : Mm D κ A ad M s H locs) {n index maxL : Nat} {As st : List Value} {y : MethodName} {b : ByteArray} {ret : FieldType} {hh : List (Nat × Nat × Nat × Nat)} {rm : Room} {ok : (Nat → Nat) → Prop} {M' : (Nat → Nat) → Nat → Option va_E} {v : Int32} (h0 : rm.cells = mc) (h1 : rm.slots = ms)
    (hM : Met l y (gwh y b maxL (some ret) hh) rm (va_Pc As (MW D κ A ad M)) (QIA D A ok M' v) mc ms A) (hG : GoodIn G0 (va_wsS own index y (gwh y b maxL (some ret) hh)))
    (hd : y.cls ≠ "java/lang/invoke/MethodHandle" ∧ y.cls ≠ "java/lang/invoke/VarHandle" ∧ (parseMethodDescriptor y.desc).map (fun d => d.parameters.length) = some n) (hR : rm.frames + 1 ≤ R.frames ∧ 8 + (maxL + 11) + rm.locals ≤ R.locals) (hn : As.length = n) (hl : lv_has ls nL lv) (hst : st = As.reverse ++ rest) (hW : 2 * (F0 m pc ls st).monitorRoom + (rest.map fun v => v.category).sum ≤ 8) (hdg : decode cc pc = .ok (.invokestatic index, 3)) (hf : cells + mc ≤ R.cells ∧ slots + ms ≤ R.slots)
    (kk : ∀ (ad' : Nat → Nat) (H1 : Heap) (locs1 : List Loc), ok ad' → Mm D κ A ad' (M' ad') s H1 locs1 → W p l e R s m args below meth c H1 locs1 (cells + mc) (slots + ms) Q (F0 m (pc + 3) ls (.int v :: rest))) : W p l e R s m args below meth c H locs cells slots Q (F0 m pc ls st) := by
  refine va_calli (vx_runSW X hM (vx_cwSW n X.2.2.2.2 hG rfl h0 h1 hd hR) ⟨fun a U g mk q => ⟨q.1, q.2.blind⟩, fun U hU hW => ⟨rfl, m_pre G hU hW⟩⟩ rfl hn hl.1 hst hW hdg hf) G.2.2.2.2.1 (fun q _ h => h) (fun q h => h) (fun r u t H1 locs1 ht hvm hw hB hz hk hS => ?_)
  obtain ⟨rfl, hok⟩ := hw
  exact kk u H1 locs1 hok (G.nextC (by rw [← ht]; exact hB) hS)
theorem m_laldO (X : CallFix p m c cc nL s args G0 own) (G : Mm D κ A ad M s H locs) {i a : Nat} {x0 : Int64} (ha : a = ad i) (hM : M i = some (outC κ x0)) (hdg : decode cc pc = .ok (.laload, 1))
    (kk : W p l e R s m args below meth c H locs cells slots Q (F0 m (pc + 1) ls (.long x0 :: rest))) : W p l e R s m args below meth c H locs cells slots Q (F0 m pc ls (.int 0 :: .ref a :: rest)) := by
  subst ha
  exact va_lald X.1 X.2.1 G.1 (G.at hM) 0 4 rfl rfl (show ¬ ((0 : Int32) < 0 ∨ 1 ≤ (0 : Int32).toNatClampNeg) by decide) hdg kk
end LL
/-- a call of both that may throw: the answers are alike, what holds of the two states holds behind it -/
def okT (Inv : MS → BS → Prop) (F7 : Option (BS × (Nat ⊕ Int32))) (F8 : Option (MS × Int32)) (ks : List Nat) : Prop := ∃ res z' v, F7 = some res ∧ F8 = some (z', v) ∧ (∀ k, res.2 = .inl k → k ∈ ks) ∧ z' 43 7 = codeOf (ks.headD 0) res.2 ∧ (∀ r, res.2 = .inr r → r = v) ∧ Inv z' res.1
def okP (Inv : MS → BS → Prop) (F7 : Option (BS × Int32)) (F8 : Option (MS × Int32)) : Prop := ∃ b' z' v, F7 = some (b', v) ∧ F8 = some (z', v) ∧ Inv z' b'
def okD (Inv : MS → BS → Prop) (b : BS) (F7 : Option UInt64) (F8 : Option (MS × UInt64)) : Prop := ∃ z' v, F7 = some v ∧ F8 = some (z', v) ∧ Inv z' b
theorem F8_thrown_eq {z : MS} : F8_thrown z = some (z 43 7) := rfl
theorem code0 {c0 : Nat} {r : Nat ⊕ Int32} (h : codeOf c0 r = 0) : ∃ v, r = .inr v := by
  cases r with
  | inr v => exact ⟨v, rfl⟩
  | inl k =>
    exfalso
    unfold codeOf at h
    by_cases c : k = c0
    · simp [c] at h
    · simp [c] at h
section LC
variable {p : Program} {l : Launch} {e : Env} {s : State} {m : MethodId} {args : Array Value} {below : List Frame} {meth : Method} {c : Code} {H : Heap} {locs : List Loc} {cells slots : Nat} {Q : State → Prop}
variable {ls : Array Slot} {D : va_G} {κ : Nat → ClassId} {A : Nat → Prop} {ad : Nat → Nat} {bs L j : Nat} {xs : Nat → Int32} {z : MS} {x : Int64} {b : BS} {Inv : MS → BS → Prop}
theorem gL_define : GoodIn G0 (va_wsS RL 79 yL_define (gwh yL_define cL_define 4 (some .int) [(0, 9, 12, 13), (0, 9, 15, 15)])) := gwh_in ml_L_79 sm_yL_define ini_L cw_yL_define
theorem hsL_define : yL_define.cls ≠ "java/lang/invoke/MethodHandle" ∧ yL_define.cls ≠ "java/lang/invoke/VarHandle" ∧ (parseMethodDescriptor yL_define.desc).map (fun d => d.parameters.length) = some 3 := by decide +kernel
theorem g_L_84 : GoodIn G0 (wsV RL 84 RX8 yX8_define (gw yX8_define cX8_define 2 (some (FieldType.int)))) := gv_in ml_L_84 im_yX8_define se_yX8_define ini_X8 cd_yX8_define
theorem hdL_yX8_define : yX8_define.cls = RX8 ∧ yX8_define.cls ≠ "java/lang/invoke/MethodHandle" ∧ yX8_define.cls ≠ "java/lang/invoke/VarHandle" ∧ (parseMethodDescriptor yX8_define.desc).map (fun d => d.parameters.length) = some 1 := by decide +kernel
theorem g_L_85 : GoodIn G0 (wsV RL 85 RX8 yX8_thrown (gw yX8_thrown cX8_thrown 1 (some (FieldType.int)))) := gv_in ml_L_85 im_yX8_thrown se_yX8_thrown ini_X8 cd_yX8_thrown
theorem hdL_yX8_thrown : yX8_thrown.cls = RX8 ∧ yX8_thrown.cls ≠ "java/lang/invoke/MethodHandle" ∧ yX8_thrown.cls ≠ "java/lang/invoke/VarHandle" ∧ (parseMethodDescriptor yX8_thrown.desc).map (fun d => d.parameters.length) = some 0 := by decide +kernel
set_option maxHeartbeats 4000000 in
set_option maxRecDepth 100000 in
theorem law_define (X : CallFix p m c cL_law 9 s args G0 RL) (hfl : l.stackTraces = false) (hX : va_X bs L xs s s.heap) (hbl : bs < s.heap.size) (hbA : ¬ A bs) (hL : 3 * j + 3 ≤ L ∧ L ≤ 1536) (G : Mm D κ A ad (LM κ ad z x b) s H locs) (hl : lv_has ls 9 [(4, .int (nI (3 * j))), (0, .ref bs), (1, .ref (ad 50)), (2, .ref (ad 43)), (3, .ref (ad 44))]) (hc : cells + 9 ≤ 601024) (hs : slots + 605 ≤ 7293034) (hok : okT Inv (F7_define b (xs (3 * j + 1))) (F8_define z (xs (3 * j + 1))) [1, 2]) (kk : ∀ (ad : Nat → Nat) (z : MS) (x : Int64) (b : BS) (cells' slots' : Nat) (H : Heap) (locs : List Loc) (ls : Array Slot), Inv z b → cells' ≤ cells + 9 → slots' ≤ slots + 605 → Mm D κ A ad (LM κ ad z x b) s H locs → lv_has ls 9 [(4, .int (nI (3 * j))), (0, .ref bs), (1, .ref (ad 50)), (2, .ref (ad 43)), (3, .ref (ad 44))] → W p l e room_1 s m args below meth c H locs cells' slots' Q (F0 m 1341 ls [])) : W p l e room_1 s m args below meth c H locs cells slots Q (F0 m 148 ls []) := by
  obtain ⟨res, z1, v, e7, e8, hk, hth, hv, hI⟩ := hok
  refine lv_aload_n (pc := 148) X.1 X.2.1 dL_law_148 rfl (lv_at hl 2 rfl) ?_
  refine lv_aload_n (pc := 149) X.1 X.2.1 dL_law_149 rfl (lv_at hl 1 rfl) ?_
  refine lv_iload (pc := 150) X.1 X.2.1 dL_law_150 (lv_at hl 0 rfl) ?_
  refine lv_iconst (pc := 152) (v := 1) X.1 X.2.1 dL_law_152 (by decide) ?_
  refine lv_iadd (pc := 153) X.1 X.2.1 dL_law_153 ?_
  rw [show nI (3 * j) + 1 = nI (3 * j + 1) from nI_add _ 1]
  refine va_sld (pc := 154) X.1 X.2.1 hX hbl hbA G.2.2.2.2.1 (vp_in_nI (by omega) (by omega)) dL_law_154 ?_
  rw [nI_clamp (by omega)]
  refine lv_aload_n (pc := 155) X.1 X.2.1 dL_law_155 rfl (lv_at hl 4 rfl) ?_
  refine m_callW (pc := 156) (As := [.ref (ad 50), .int (xs (3 * j + 1)), .ref (ad 44)]) (rest := []) X G (rm := rmL_define) rfl rfl (wdefine l hfl D κ A ad (celM κ ad nuM z) x b (xs (3 * j + 1)) res e7 (fun k h => by have q := hk k h; simpa using q)) gL_define hsL_define ⟨Nat.le_of_ble_eq_true rfl, Nat.le_of_ble_eq_true rfl⟩ rfl hl rfl (lv_room (Nat.le_of_ble_eq_true rfl)) dL_law_156 ⟨by show cells + 9 ≤ 601024; omega, by show slots + 114 ≤ 7293034; omega⟩ (fun ad1 H locs hag G => ?_)
  have hl : lv_has ls 9 [(4, .int (nI (3 * j))), (0, .ref bs), (1, .ref (ad1 50)), (2, .ref (ad1 43)), (3, .ref (ad1 44))] := by rw [hag 50 (Or.inl (by decide)), hag 43 (Or.inl (by decide)), hag 44 (Or.inl (by decide))]; exact hl
  have G : Mm D κ A ad1 (celM κ ad1 (LR κ ad1 (outv x res.2) res.1) z) s H locs := G.same (fun j => (LM_eq j).trans (LM_mv hag j))
  refine lv_istore (pc := 159) (lv' := [(5, .int (codeOf 1 res.2)), (4, .int (nI (3 * j))), (0, .ref bs), (1, .ref (ad1 50)), (2, .ref (ad1 43)), (3, .ref (ad1 44))]) X.1 X.2.1 dL_law_159 hl (by decide) rfl (fun ls hl => ?_)
  refine lv_aload_n (pc := 161) X.1 X.2.1 dL_law_161 rfl (lv_at hl 4 rfl) ?_
  refine lv_aload_n (pc := 162) X.1 X.2.1 dL_law_162 rfl (lv_at hl 2 rfl) ?_
  refine lv_iload (pc := 163) X.1 X.2.1 dL_law_163 (lv_at hl 1 rfl) ?_
  refine lv_iconst (pc := 165) (v := 1) X.1 X.2.1 dL_law_165 (by decide) ?_
  refine lv_iadd (pc := 166) X.1 X.2.1 dL_law_166 ?_
  rw [show nI (3 * j) + 1 = nI (3 * j + 1) from nI_add _ 1]
  refine va_sld (pc := 167) X.1 X.2.1 hX hbl hbA G.2.2.2.2.1 (vp_in_nI (by omega) (by omega)) dL_law_167 ?_
  rw [nI_clamp (by omega)]
  refine M_calli (pc := 168) (z1 := z1) (v := v) (As := [.int (xs (3 * j + 1))]) (rest := []) X G (rm := rm8_define) rfl rfl (c8_define l D κ A ad1 (LR κ ad1 (outv x res.2) res.1) z (xs (3 * j + 1)) (z1, v) e8) g_L_84 hdL_yX8_define ⟨Nat.le_of_ble_eq_true rfl, Nat.le_of_ble_eq_true rfl⟩ rfl hl rfl (lv_room (Nat.le_of_ble_eq_true rfl)) dL_law_168 ⟨by show cells + 9 ≤ 601024; omega, by show slots + 114 ≤ 7293034; omega⟩ (fun H locs G => ?_)
  refine lv_istore (pc := 171) (lv' := [(6, .int v), (5, .int (codeOf 1 res.2)), (4, .int (nI (3 * j))), (0, .ref bs), (1, .ref (ad1 50)), (2, .ref (ad1 43)), (3, .ref (ad1 44))]) X.1 X.2.1 dL_law_171 hl (by decide) rfl (fun ls hl => ?_)
  refine lv_aload_n (pc := 173) X.1 X.2.1 dL_law_173 rfl (lv_at hl 5 rfl) ?_
  refine M_calli (pc := 174) (z1 := z1) (v := z1 43 7) (As := []) (rest := []) X G (rm := rm8_thrown) rfl rfl (c8_thrown l D κ A ad1 (LR κ ad1 (outv x res.2) res.1) z1 (z1 43 7) F8_thrown_eq) g_L_85 hdL_yX8_thrown ⟨Nat.le_of_ble_eq_true rfl, Nat.le_of_ble_eq_true rfl⟩ rfl hl rfl (lv_room (Nat.le_of_ble_eq_true rfl)) dL_law_174 ⟨by show cells + 9 ≤ 601024; omega, by show slots + 114 ≤ 7293034; omega⟩ (fun H locs G => ?_)
  refine lv_iload (pc := 177) X.1 X.2.1 dL_law_177 (lv_at hl 1 rfl) ?_
  refine lv_icmp_eq (pc := 179) (tgt := 184) X.1 X.2.1 dL_law_179 (by decide) (fun hq => ?_) (fun hq => absurd hth hq)
  refine lv_iload (pc := 184) X.1 X.2.1 dL_law_184 (lv_at hl 1 rfl) ?_
  have G9 : Mm D κ A ad1 (LM κ ad1 z1 (outv x res.2) res.1) s H locs := G.same (fun j => (LM_eq j).symm)
  refine lv_if_ne (pc := 186) (tgt := 201) X.1 X.2.1 dL_law_186 (by decide) (fun hq => ?_) (fun hq => ?_)
  · refine lv_goto (pc := 201) (tgt := 1341) X.1 X.2.1 dL_law_201 (by decide) ?_
    exact kk ad1 z1 (outv x res.2) res.1 _ _ H locs ls hI (by show cells + 9 ≤ _; omega) (by show slots + 114 ≤ _; omega) G9 (lv_sub hl [2, 3, 4, 5, 6] rfl)
  · obtain ⟨w, hw⟩ := code0 hq
    have hx : outv x res.2 = v.toInt64 := by rw [hw, ← hv w hw]; rfl
    refine lv_aload_n (pc := 189) X.1 X.2.1 dL_law_189 rfl (lv_at hl 6 rfl) ?_
    refine lv_iconst (pc := 190) (v := 0) X.1 X.2.1 dL_law_190 (by decide) ?_
    refine m_laldO (pc := 191) (i := 44) X G rfl LR_44 dL_law_191 ?_
    refine lv_iload (pc := 192) X.1 X.2.1 dL_law_192 (lv_at hl 0 rfl) ?_
    refine lv_i2l (pc := 194) X.1 X.2.1 dL_law_194 rfl ?_
    refine W.lcmp (pc := 195) X.1 X.2.1 dL_law_195 ?_
    refine lv_if_eq (pc := 196) (tgt := 201) X.1 X.2.1 dL_law_196 (by decide) (fun hq => ?_) (fun hq => absurd (by rw [hx]; unfold lg_cmp; simp) hq)
    refine lv_goto (pc := 201) (tgt := 1341) X.1 X.2.1 dL_law_201 (by decide) ?_
    exact kk ad1 z1 (outv x res.2) res.1 _ _ H locs ls hI (by show cells + 9 ≤ _; omega) (by show slots + 114 ≤ _; omega) G9 (lv_sub hl [2, 3, 4, 5, 6] rfl)
theorem gL_remove : GoodIn G0 (va_wsS RL 88 yL_remove (gwh yL_remove cL_remove 4 (some .int) [(0, 9, 12, 13), (0, 9, 15, 20)])) := gwh_in ml_L_88 sm_yL_remove ini_L cw_yL_remove
theorem hsL_remove : yL_remove.cls ≠ "java/lang/invoke/MethodHandle" ∧ yL_remove.cls ≠ "java/lang/invoke/VarHandle" ∧ (parseMethodDescriptor yL_remove.desc).map (fun d => d.parameters.length) = some 3 := by decide +kernel
theorem g_L_90 : GoodIn G0 (wsV RL 90 RX8 yX8_remove (gw yX8_remove cX8_remove 2 (some (FieldType.int)))) := gv_in ml_L_90 im_yX8_remove se_yX8_remove ini_X8 cd_yX8_remove
theorem hdL_yX8_remove : yX8_remove.cls = RX8 ∧ yX8_remove.cls ≠ "java/lang/invoke/MethodHandle" ∧ yX8_remove.cls ≠ "java/lang/invoke/VarHandle" ∧ (parseMethodDescriptor yX8_remove.desc).map (fun d => d.parameters.length) = some 1 := by decide +kernel
set_option maxHeartbeats 4000000 in
set_option maxRecDepth 100000 in
theorem law_remove (X : CallFix p m c cL_law 9 s args G0 RL) (hfl : l.stackTraces = false) (hX : va_X bs L xs s s.heap) (hbl : bs < s.heap.size) (hbA : ¬ A bs) (hL : 3 * j + 3 ≤ L ∧ L ≤ 1536) (G : Mm D κ A ad (LM κ ad z x b) s H locs) (hl : lv_has ls 9 [(4, .int (nI (3 * j))), (0, .ref bs), (1, .ref (ad 50)), (2, .ref (ad 43)), (3, .ref (ad 44))]) (hc : cells + 9 ≤ 601024) (hs : slots + 605 ≤ 7293034) (hok : okT Inv (F7_remove b (xs (3 * j + 1))) (F8_remove z (xs (3 * j + 1))) [1, 3]) (kk : ∀ (ad : Nat → Nat) (z : MS) (x : Int64) (b : BS) (cells' slots' : Nat) (H : Heap) (locs : List Loc) (ls : Array Slot), Inv z b → cells' ≤ cells + 9 → slots' ≤ slots + 605 → Mm D κ A ad (LM κ ad z x b) s H locs → lv_has ls 9 [(4, .int (nI (3 * j))), (0, .ref bs), (1, .ref (ad 50)), (2, .ref (ad 43)), (3, .ref (ad 44))] → W p l e room_1 s m args below meth c H locs cells' slots' Q (F0 m 1341 ls [])) : W p l e room_1 s m args below meth c H locs cells slots Q (F0 m 204 ls []) := by
  obtain ⟨res, z1, v, e7, e8, hk, hth, hv, hI⟩ := hok
  refine lv_aload_n (pc := 204) X.1 X.2.1 dL_law_204 rfl (lv_at hl 2 rfl) ?_
  refine lv_aload_n (pc := 205) X.1 X.2.1 dL_law_205 rfl (lv_at hl 1 rfl) ?_
  refine lv_iload (pc := 206) X.1 X.2.1 dL_law_206 (lv_at hl 0 rfl) ?_
  refine lv_iconst (pc := 208) (v := 1) X.1 X.2.1 dL_law_208 (by decide) ?_
  refine lv_iadd (pc := 209) X.1 X.2.1 dL_law_209 ?_
  rw [show nI (3 * j) + 1 = nI (3 * j + 1) from nI_add _ 1]
  refine va_sld (pc := 210) X.1 X.2.1 hX hbl hbA G.2.2.2.2.1 (vp_in_nI (by omega) (by omega)) dL_law_210 ?_
  rw [nI_clamp (by omega)]
  refine lv_aload_n (pc := 211) X.1 X.2.1 dL_law_211 rfl (lv_at hl 4 rfl) ?_
  refine m_callW (pc := 212) (As := [.ref (ad 50), .int (xs (3 * j + 1)), .ref (ad 44)]) (rest := []) X G (rm := rmL_remove) rfl rfl (wremove l hfl D κ A ad (celM κ ad nuM z) x b (xs (3 * j + 1)) res e7 (fun k h => by have q := hk k h; simpa using q)) gL_remove hsL_remove ⟨Nat.le_of_ble_eq_true rfl, Nat.le_of_ble_eq_true rfl⟩ rfl hl rfl (lv_room (Nat.le_of_ble_eq_true rfl)) dL_law_212 ⟨by show cells + 7 ≤ 601024; omega, by show slots + 47 ≤ 7293034; omega⟩ (fun ad1 H locs hag G => ?_)
  have hl : lv_has ls 9 [(4, .int (nI (3 * j))), (0, .ref bs), (1, .ref (ad1 50)), (2, .ref (ad1 43)), (3, .ref (ad1 44))] := by rw [hag 50 (Or.inl (by decide)), hag 43 (Or.inl (by decide)), hag 44 (Or.inl (by decide))]; exact hl
  have G : Mm D κ A ad1 (celM κ ad1 (LR κ ad1 (outv x res.2) res.1) z) s H locs := G.same (fun j => (LM_eq j).trans (LM_mv hag j))
  refine lv_istore (pc := 215) (lv' := [(5, .int (codeOf 1 res.2)), (4, .int (nI (3 * j))), (0, .ref bs), (1, .ref (ad1 50)), (2, .ref (ad1 43)), (3, .ref (ad1 44))]) X.1 X.2.1 dL_law_215 hl (by decide) rfl (fun ls hl => ?_)
  refine lv_aload_n (pc := 217) X.1 X.2.1 dL_law_217 rfl (lv_at hl 4 rfl) ?_
  refine lv_aload_n (pc := 218) X.1 X.2.1 dL_law_218 rfl (lv_at hl 2 rfl) ?_
  refine lv_iload (pc := 219) X.1 X.2.1 dL_law_219 (lv_at hl 1 rfl) ?_
  refine lv_iconst (pc := 221) (v := 1) X.1 X.2.1 dL_law_221 (by decide) ?_
  refine lv_iadd (pc := 222) X.1 X.2.1 dL_law_222 ?_
  rw [show nI (3 * j) + 1 = nI (3 * j + 1) from nI_add _ 1]
  refine va_sld (pc := 223) X.1 X.2.1 hX hbl hbA G.2.2.2.2.1 (vp_in_nI (by omega) (by omega)) dL_law_223 ?_
  rw [nI_clamp (by omega)]
  refine M_calli (pc := 224) (z1 := z1) (v := v) (As := [.int (xs (3 * j + 1))]) (rest := []) X G (rm := rm8_remove) rfl rfl (c8_remove l D κ A ad1 (LR κ ad1 (outv x res.2) res.1) z (xs (3 * j + 1)) (z1, v) e8) g_L_90 hdL_yX8_remove ⟨Nat.le_of_ble_eq_true rfl, Nat.le_of_ble_eq_true rfl⟩ rfl hl rfl (lv_room (Nat.le_of_ble_eq_true rfl)) dL_law_224 ⟨by show cells + 7 ≤ 601024; omega, by show slots + 47 ≤ 7293034; omega⟩ (fun H locs G => ?_)
  refine lv_istore (pc := 227) (lv' := [(6, .int v), (5, .int (codeOf 1 res.2)), (4, .int (nI (3 * j))), (0, .ref bs), (1, .ref (ad1 50)), (2, .ref (ad1 43)), (3, .ref (ad1 44))]) X.1 X.2.1 dL_law_227 hl (by decide) rfl (fun ls hl => ?_)
  refine lv_aload_n (pc := 229) X.1 X.2.1 dL_law_229 rfl (lv_at hl 5 rfl) ?_
  refine M_calli (pc := 230) (z1 := z1) (v := z1 43 7) (As := []) (rest := []) X G (rm := rm8_thrown) rfl rfl (c8_thrown l D κ A ad1 (LR κ ad1 (outv x res.2) res.1) z1 (z1 43 7) F8_thrown_eq) g_L_85 hdL_yX8_thrown ⟨Nat.le_of_ble_eq_true rfl, Nat.le_of_ble_eq_true rfl⟩ rfl hl rfl (lv_room (Nat.le_of_ble_eq_true rfl)) dL_law_230 ⟨by show cells + 7 ≤ 601024; omega, by show slots + 47 ≤ 7293034; omega⟩ (fun H locs G => ?_)
  refine lv_iload (pc := 233) X.1 X.2.1 dL_law_233 (lv_at hl 1 rfl) ?_
  refine lv_icmp_eq (pc := 235) (tgt := 240) X.1 X.2.1 dL_law_235 (by decide) (fun hq => ?_) (fun hq => absurd hth hq)
  refine lv_iload (pc := 240) X.1 X.2.1 dL_law_240 (lv_at hl 1 rfl) ?_
  have G9 : Mm D κ A ad1 (LM κ ad1 z1 (outv x res.2) res.1) s H locs := G.same (fun j => (LM_eq j).symm)
  refine lv_if_ne (pc := 242) (tgt := 257) X.1 X.2.1 dL_law_242 (by decide) (fun hq => ?_) (fun hq => ?_)
  · refine lv_goto (pc := 257) (tgt := 1341) X.1 X.2.1 dL_law_257 (by decide) ?_
    exact kk ad1 z1 (outv x res.2) res.1 _ _ H locs ls hI (by show cells + 7 ≤ _; omega) (by show slots + 47 ≤ _; omega) G9 (lv_sub hl [2, 3, 4, 5, 6] rfl)
  · obtain ⟨w, hw⟩ := code0 hq
    have hx : outv x res.2 = v.toInt64 := by rw [hw, ← hv w hw]; rfl
    refine lv_aload_n (pc := 245) X.1 X.2.1 dL_law_245 rfl (lv_at hl 6 rfl) ?_
    refine lv_iconst (pc := 246) (v := 0) X.1 X.2.1 dL_law_246 (by decide) ?_
    refine m_laldO (pc := 247) (i := 44) X G rfl LR_44 dL_law_247 ?_
    refine lv_iload (pc := 248) X.1 X.2.1 dL_law_248 (lv_at hl 0 rfl) ?_
    refine lv_i2l (pc := 250) X.1 X.2.1 dL_law_250 rfl ?_
    refine W.lcmp (pc := 251) X.1 X.2.1 dL_law_251 ?_
    refine lv_if_eq (pc := 252) (tgt := 257) X.1 X.2.1 dL_law_252 (by decide) (fun hq => ?_) (fun hq => absurd (by rw [hx]; unfold lg_cmp; simp) hq)
    refine lv_goto (pc := 257) (tgt := 1341) X.1 X.2.1 dL_law_257 (by decide) ?_
    exact kk ad1 z1 (outv x res.2) res.1 _ _ H locs ls hI (by show cells + 7 ≤ _; omega) (by show slots + 47 ≤ _; omega) G9 (lv_sub hl [2, 3, 4, 5, 6] rfl)
theorem gL_exchange : GoodIn G0 (va_wsS RL 91 yL_exchange (gwh yL_exchange cL_exchange 5 (some .int) [(0, 10, 13, 13)])) := gwh_in ml_L_91 sm_yL_exchange ini_L cw_yL_exchange
theorem hsL_exchange : yL_exchange.cls ≠ "java/lang/invoke/MethodHandle" ∧ yL_exchange.cls ≠ "java/lang/invoke/VarHandle" ∧ (parseMethodDescriptor yL_exchange.desc).map (fun d => d.parameters.length) = some 4 := by decide +kernel
theorem g_L_94 : GoodIn G0 (wsV RL 94 RX8 yX8_exchange (gw yX8_exchange cX8_exchange 6 (some (FieldType.int)))) := gv_in ml_L_94 im_yX8_exchange se_yX8_exchange ini_X8 cd_yX8_exchange
theorem hdL_yX8_exchange : yX8_exchange.cls = RX8 ∧ yX8_exchange.cls ≠ "java/lang/invoke/MethodHandle" ∧ yX8_exchange.cls ≠ "java/lang/invoke/VarHandle" ∧ (parseMethodDescriptor yX8_exchange.desc).map (fun d => d.parameters.length) = some 2 := by decide +kernel
set_option maxHeartbeats 4000000 in
set_option maxRecDepth 100000 in
theorem law_exchange (X : CallFix p m c cL_law 9 s args G0 RL) (hfl : l.stackTraces = false) (hX : va_X bs L xs s s.heap) (hbl : bs < s.heap.size) (hbA : ¬ A bs) (hL : 3 * j + 3 ≤ L ∧ L ≤ 1536) (G : Mm D κ A ad (LM κ ad z x b) s H locs) (hl : lv_has ls 9 [(4, .int (nI (3 * j))), (0, .ref bs), (1, .ref (ad 50)), (2, .ref (ad 43)), (3, .ref (ad 44))]) (hc : cells + 9 ≤ 601024) (hs : slots + 605 ≤ 7293034) (hok : okT Inv (F7_exchange b (xs (3 * j + 1)) (xs (3 * j + 2))) (F8_exchange z (xs (3 * j + 1)) (xs (3 * j + 2))) [1]) (kk : ∀ (ad : Nat → Nat) (z : MS) (x : Int64) (b : BS) (cells' slots' : Nat) (H : Heap) (locs : List Loc) (ls : Array Slot), Inv z b → cells' ≤ cells + 9 → slots' ≤ slots + 605 → Mm D κ A ad (LM κ ad z x b) s H locs → lv_has ls 9 [(4, .int (nI (3 * j))), (0, .ref bs), (1, .ref (ad 50)), (2, .ref (ad 43)), (3, .ref (ad 44))] → W p l e room_1 s m args below meth c H locs cells' slots' Q (F0 m 1341 ls [])) : W p l e room_1 s m args below meth c H locs cells slots Q (F0 m 260 ls []) := by
  obtain ⟨res, z1, v, e7, e8, hk, hth, hv, hI⟩ := hok
  refine lv_aload_n (pc := 260) X.1 X.2.1 dL_law_260 rfl (lv_at hl 2 rfl) ?_
  refine lv_aload_n (pc := 261) X.1 X.2.1 dL_law_261 rfl (lv_at hl 1 rfl) ?_
  refine lv_iload (pc := 262) X.1 X.2.1 dL_law_262 (lv_at hl 0 rfl) ?_
  refine lv_iconst (pc := 264) (v := 1) X.1 X.2.1 dL_law_264 (by decide) ?_
  refine lv_iadd (pc := 265) X.1 X.2.1 dL_law_265 ?_
  rw [show nI (3 * j) + 1 = nI (3 * j + 1) from nI_add _ 1]
  refine va_sld (pc := 266) X.1 X.2.1 hX hbl hbA G.2.2.2.2.1 (vp_in_nI (by omega) (by omega)) dL_law_266 ?_
  rw [nI_clamp (by omega)]
  refine lv_aload_n (pc := 267) X.1 X.2.1 dL_law_267 rfl (lv_at hl 1 rfl) ?_
  refine lv_iload (pc := 268) X.1 X.2.1 dL_law_268 (lv_at hl 0 rfl) ?_
  refine lv_iconst (pc := 270) (v := 2) X.1 X.2.1 dL_law_270 (by decide) ?_
  refine lv_iadd (pc := 271) X.1 X.2.1 dL_law_271 ?_
  rw [show nI (3 * j) + 2 = nI (3 * j + 2) from nI_add _ 2]
  refine va_sld (pc := 272) X.1 X.2.1 hX hbl hbA G.2.2.2.2.1 (vp_in_nI (by omega) (by omega)) dL_law_272 ?_
  rw [nI_clamp (by omega)]
  refine lv_aload_n (pc := 273) X.1 X.2.1 dL_law_273 rfl (lv_at hl 4 rfl) ?_
  refine m_callW (pc := 274) (As := [.ref (ad 50), .int (xs (3 * j + 1)), .int (xs (3 * j + 2)), .ref (ad 44)]) (rest := []) X G (rm := rmL_exchange) rfl rfl (wexchange l hfl D κ A ad (celM κ ad nuM z) x b (xs (3 * j + 1)) (xs (3 * j + 2)) res e7 (fun k h => by have q := hk k h; simpa using q)) gL_exchange hsL_exchange ⟨Nat.le_of_ble_eq_true rfl, Nat.le_of_ble_eq_true rfl⟩ rfl hl rfl (lv_room (Nat.le_of_ble_eq_true rfl)) dL_law_274 ⟨by show cells + 7 ≤ 601024; omega, by show slots + 47 ≤ 7293034; omega⟩ (fun ad1 H locs hag G => ?_)
  have hl : lv_has ls 9 [(4, .int (nI (3 * j))), (0, .ref bs), (1, .ref (ad1 50)), (2, .ref (ad1 43)), (3, .ref (ad1 44))] := by rw [hag 50 (Or.inl (by decide)), hag 43 (Or.inl (by decide)), hag 44 (Or.inl (by decide))]; exact hl
  have G : Mm D κ A ad1 (celM κ ad1 (LR κ ad1 (outv x res.2) res.1) z) s H locs := G.same (fun j => (LM_eq j).trans (LM_mv hag j))
  refine lv_istore (pc := 277) (lv' := [(5, .int (codeOf 1 res.2)), (4, .int (nI (3 * j))), (0, .ref bs), (1, .ref (ad1 50)), (2, .ref (ad1 43)), (3, .ref (ad1 44))]) X.1 X.2.1 dL_law_277 hl (by decide) rfl (fun ls hl => ?_)
  refine lv_aload_n (pc := 279) X.1 X.2.1 dL_law_279 rfl (lv_at hl 4 rfl) ?_
  refine lv_aload_n (pc := 280) X.1 X.2.1 dL_law_280 rfl (lv_at hl 2 rfl) ?_
  refine lv_iload (pc := 281) X.1 X.2.1 dL_law_281 (lv_at hl 1 rfl) ?_
  refine lv_iconst (pc := 283) (v := 1) X.1 X.2.1 dL_law_283 (by decide) ?_
  refine lv_iadd (pc := 284) X.1 X.2.1 dL_law_284 ?_
  rw [show nI (3 * j) + 1 = nI (3 * j + 1) from nI_add _ 1]
  refine va_sld (pc := 285) X.1 X.2.1 hX hbl hbA G.2.2.2.2.1 (vp_in_nI (by omega) (by omega)) dL_law_285 ?_
  rw [nI_clamp (by omega)]
  refine lv_aload_n (pc := 286) X.1 X.2.1 dL_law_286 rfl (lv_at hl 2 rfl) ?_
  refine lv_iload (pc := 287) X.1 X.2.1 dL_law_287 (lv_at hl 1 rfl) ?_
  refine lv_iconst (pc := 289) (v := 2) X.1 X.2.1 dL_law_289 (by decide) ?_
  refine lv_iadd (pc := 290) X.1 X.2.1 dL_law_290 ?_
  rw [show nI (3 * j) + 2 = nI (3 * j + 2) from nI_add _ 2]
  refine va_sld (pc := 291) X.1 X.2.1 hX hbl hbA G.2.2.2.2.1 (vp_in_nI (by omega) (by omega)) dL_law_291 ?_
  rw [nI_clamp (by omega)]
  refine M_calli (pc := 292) (z1 := z1) (v := v) (As := [.int (xs (3 * j + 1)), .int (xs (3 * j + 2))]) (rest := []) X G (rm := rm8_exchange) rfl rfl (c8_exchange l D κ A ad1 (LR κ ad1 (outv x res.2) res.1) z (xs (3 * j + 1)) (xs (3 * j + 2)) (z1, v) e8) g_L_94 hdL_yX8_exchange ⟨Nat.le_of_ble_eq_true rfl, Nat.le_of_ble_eq_true rfl⟩ rfl hl rfl (lv_room (Nat.le_of_ble_eq_true rfl)) dL_law_292 ⟨by show cells + 7 ≤ 601024; omega, by show slots + 47 ≤ 7293034; omega⟩ (fun H locs G => ?_)
  refine lv_istore (pc := 295) (lv' := [(6, .int v), (5, .int (codeOf 1 res.2)), (4, .int (nI (3 * j))), (0, .ref bs), (1, .ref (ad1 50)), (2, .ref (ad1 43)), (3, .ref (ad1 44))]) X.1 X.2.1 dL_law_295 hl (by decide) rfl (fun ls hl => ?_)
  refine lv_aload_n (pc := 297) X.1 X.2.1 dL_law_297 rfl (lv_at hl 5 rfl) ?_
  refine M_calli (pc := 298) (z1 := z1) (v := z1 43 7) (As := []) (rest := []) X G (rm := rm8_thrown) rfl rfl (c8_thrown l D κ A ad1 (LR κ ad1 (outv x res.2) res.1) z1 (z1 43 7) F8_thrown_eq) g_L_85 hdL_yX8_thrown ⟨Nat.le_of_ble_eq_true rfl, Nat.le_of_ble_eq_true rfl⟩ rfl hl rfl (lv_room (Nat.le_of_ble_eq_true rfl)) dL_law_298 ⟨by show cells + 7 ≤ 601024; omega, by show slots + 47 ≤ 7293034; omega⟩ (fun H locs G => ?_)
  refine lv_iload (pc := 301) X.1 X.2.1 dL_law_301 (lv_at hl 1 rfl) ?_
  refine lv_icmp_eq (pc := 303) (tgt := 308) X.1 X.2.1 dL_law_303 (by decide) (fun hq => ?_) (fun hq => absurd hth hq)
  refine lv_iload (pc := 308) X.1 X.2.1 dL_law_308 (lv_at hl 1 rfl) ?_
  have G9 : Mm D κ A ad1 (LM κ ad1 z1 (outv x res.2) res.1) s H locs := G.same (fun j => (LM_eq j).symm)
  refine lv_if_ne (pc := 310) (tgt := 325) X.1 X.2.1 dL_law_310 (by decide) (fun hq => ?_) (fun hq => ?_)
  · refine lv_goto (pc := 325) (tgt := 1341) X.1 X.2.1 dL_law_325 (by decide) ?_
    exact kk ad1 z1 (outv x res.2) res.1 _ _ H locs ls hI (by show cells + 7 ≤ _; omega) (by show slots + 47 ≤ _; omega) G9 (lv_sub hl [2, 3, 4, 5, 6] rfl)
  · obtain ⟨w, hw⟩ := code0 hq
    have hx : outv x res.2 = v.toInt64 := by rw [hw, ← hv w hw]; rfl
    refine lv_aload_n (pc := 313) X.1 X.2.1 dL_law_313 rfl (lv_at hl 6 rfl) ?_
    refine lv_iconst (pc := 314) (v := 0) X.1 X.2.1 dL_law_314 (by decide) ?_
    refine m_laldO (pc := 315) (i := 44) X G rfl LR_44 dL_law_315 ?_
    refine lv_iload (pc := 316) X.1 X.2.1 dL_law_316 (lv_at hl 0 rfl) ?_
    refine lv_i2l (pc := 318) X.1 X.2.1 dL_law_318 rfl ?_
    refine W.lcmp (pc := 319) X.1 X.2.1 dL_law_319 ?_
    refine lv_if_eq (pc := 320) (tgt := 325) X.1 X.2.1 dL_law_320 (by decide) (fun hq => ?_) (fun hq => absurd (by rw [hx]; unfold lg_cmp; simp) hq)
    refine lv_goto (pc := 325) (tgt := 1341) X.1 X.2.1 dL_law_325 (by decide) ?_
    exact kk ad1 z1 (outv x res.2) res.1 _ _ H locs ls hI (by show cells + 7 ≤ _; omega) (by show slots + 47 ≤ _; omega) G9 (lv_sub hl [2, 3, 4, 5, 6] rfl)
theorem gL_set : GoodIn G0 (va_wsS RL 95 yL_set (gwh yL_set cL_set 4 (some .int) [(0, 9, 12, 15)])) := gwh_in ml_L_95 sm_yL_set ini_L cw_yL_set
theorem hsL_set : yL_set.cls ≠ "java/lang/invoke/MethodHandle" ∧ yL_set.cls ≠ "java/lang/invoke/VarHandle" ∧ (parseMethodDescriptor yL_set.desc).map (fun d => d.parameters.length) = some 3 := by decide +kernel
theorem g_L_97 : GoodIn G0 (wsV RL 97 RX8 yX8_set (gw yX8_set cX8_set 3 (some (FieldType.int)))) := gv_in ml_L_97 im_yX8_set se_yX8_set ini_X8 cd_yX8_set
theorem hdL_yX8_set : yX8_set.cls = RX8 ∧ yX8_set.cls ≠ "java/lang/invoke/MethodHandle" ∧ yX8_set.cls ≠ "java/lang/invoke/VarHandle" ∧ (parseMethodDescriptor yX8_set.desc).map (fun d => d.parameters.length) = some 1 := by decide +kernel
set_option maxHeartbeats 4000000 in
set_option maxRecDepth 100000 in
theorem law_set (X : CallFix p m c cL_law 9 s args G0 RL) (hfl : l.stackTraces = false) (hX : va_X bs L xs s s.heap) (hbl : bs < s.heap.size) (hbA : ¬ A bs) (hL : 3 * j + 3 ≤ L ∧ L ≤ 1536) (G : Mm D κ A ad (LM κ ad z x b) s H locs) (hl : lv_has ls 9 [(4, .int (nI (3 * j))), (0, .ref bs), (1, .ref (ad 50)), (2, .ref (ad 43)), (3, .ref (ad 44))]) (hc : cells + 9 ≤ 601024) (hs : slots + 605 ≤ 7293034) (hok : okT Inv (F7_set b (xs (3 * j + 1))) (F8_set z (xs (3 * j + 1))) [2]) (kk : ∀ (ad : Nat → Nat) (z : MS) (x : Int64) (b : BS) (cells' slots' : Nat) (H : Heap) (locs : List Loc) (ls : Array Slot), Inv z b → cells' ≤ cells + 9 → slots' ≤ slots + 605 → Mm D κ A ad (LM κ ad z x b) s H locs → lv_has ls 9 [(4, .int (nI (3 * j))), (0, .ref bs), (1, .ref (ad 50)), (2, .ref (ad 43)), (3, .ref (ad 44))] → W p l e room_1 s m args below meth c H locs cells' slots' Q (F0 m 1341 ls [])) : W p l e room_1 s m args below meth c H locs cells slots Q (F0 m 328 ls []) := by
  obtain ⟨res, z1, v, e7, e8, hk, hth, hv, hI⟩ := hok
  refine lv_aload_n (pc := 328) X.1 X.2.1 dL_law_328 rfl (lv_at hl 2 rfl) ?_
  refine lv_aload_n (pc := 329) X.1 X.2.1 dL_law_329 rfl (lv_at hl 1 rfl) ?_
  refine lv_iload (pc := 330) X.1 X.2.1 dL_law_330 (lv_at hl 0 rfl) ?_
  refine lv_iconst (pc := 332) (v := 1) X.1 X.2.1 dL_law_332 (by decide) ?_
  refine lv_iadd (pc := 333) X.1 X.2.1 dL_law_333 ?_
  rw [show nI (3 * j) + 1 = nI (3 * j + 1) from nI_add _ 1]
  refine va_sld (pc := 334) X.1 X.2.1 hX hbl hbA G.2.2.2.2.1 (vp_in_nI (by omega) (by omega)) dL_law_334 ?_
  rw [nI_clamp (by omega)]
  refine lv_aload_n (pc := 335) X.1 X.2.1 dL_law_335 rfl (lv_at hl 4 rfl) ?_
  refine m_callW (pc := 336) (As := [.ref (ad 50), .int (xs (3 * j + 1)), .ref (ad 44)]) (rest := []) X G (rm := rmL_set) rfl rfl (wset l hfl D κ A ad (celM κ ad nuM z) x b (xs (3 * j + 1)) res e7 (fun k h => by have q := hk k h; simpa using q)) gL_set hsL_set ⟨Nat.le_of_ble_eq_true rfl, Nat.le_of_ble_eq_true rfl⟩ rfl hl rfl (lv_room (Nat.le_of_ble_eq_true rfl)) dL_law_336 ⟨by show cells + 5 ≤ 601024; omega, by show slots + 35 ≤ 7293034; omega⟩ (fun ad1 H locs hag G => ?_)
  have hl : lv_has ls 9 [(4, .int (nI (3 * j))), (0, .ref bs), (1, .ref (ad1 50)), (2, .ref (ad1 43)), (3, .ref (ad1 44))] := by rw [hag 50 (Or.inl (by decide)), hag 43 (Or.inl (by decide)), hag 44 (Or.inl (by decide))]; exact hl
  have G : Mm D κ A ad1 (celM κ ad1 (LR κ ad1 (outv x res.2) res.1) z) s H locs := G.same (fun j => (LM_eq j).trans (LM_mv hag j))
  refine lv_istore (pc := 339) (lv' := [(5, .int (codeOf 2 res.2)), (4, .int (nI (3 * j))), (0, .ref bs), (1, .ref (ad1 50)), (2, .ref (ad1 43)), (3, .ref (ad1 44))]) X.1 X.2.1 dL_law_339 hl (by decide) rfl (fun ls hl => ?_)
  refine lv_aload_n (pc := 341) X.1 X.2.1 dL_law_341 rfl (lv_at hl 4 rfl) ?_
  refine lv_aload_n (pc := 342) X.1 X.2.1 dL_law_342 rfl (lv_at hl 2 rfl) ?_
  refine lv_iload (pc := 343) X.1 X.2.1 dL_law_343 (lv_at hl 1 rfl) ?_
  refine lv_iconst (pc := 345) (v := 1) X.1 X.2.1 dL_law_345 (by decide) ?_
  refine lv_iadd (pc := 346) X.1 X.2.1 dL_law_346 ?_
  rw [show nI (3 * j) + 1 = nI (3 * j + 1) from nI_add _ 1]
  refine va_sld (pc := 347) X.1 X.2.1 hX hbl hbA G.2.2.2.2.1 (vp_in_nI (by omega) (by omega)) dL_law_347 ?_
  rw [nI_clamp (by omega)]
  refine M_calli (pc := 348) (z1 := z1) (v := v) (As := [.int (xs (3 * j + 1))]) (rest := []) X G (rm := rm8_set) rfl rfl (c8_set l D κ A ad1 (LR κ ad1 (outv x res.2) res.1) z (xs (3 * j + 1)) (z1, v) e8) g_L_97 hdL_yX8_set ⟨Nat.le_of_ble_eq_true rfl, Nat.le_of_ble_eq_true rfl⟩ rfl hl rfl (lv_room (Nat.le_of_ble_eq_true rfl)) dL_law_348 ⟨by show cells + 5 ≤ 601024; omega, by show slots + 35 ≤ 7293034; omega⟩ (fun H locs G => ?_)
  refine lv_istore (pc := 351) (lv' := [(6, .int v), (5, .int (codeOf 2 res.2)), (4, .int (nI (3 * j))), (0, .ref bs), (1, .ref (ad1 50)), (2, .ref (ad1 43)), (3, .ref (ad1 44))]) X.1 X.2.1 dL_law_351 hl (by decide) rfl (fun ls hl => ?_)
  refine lv_aload_n (pc := 353) X.1 X.2.1 dL_law_353 rfl (lv_at hl 5 rfl) ?_
  refine M_calli (pc := 354) (z1 := z1) (v := z1 43 7) (As := []) (rest := []) X G (rm := rm8_thrown) rfl rfl (c8_thrown l D κ A ad1 (LR κ ad1 (outv x res.2) res.1) z1 (z1 43 7) F8_thrown_eq) g_L_85 hdL_yX8_thrown ⟨Nat.le_of_ble_eq_true rfl, Nat.le_of_ble_eq_true rfl⟩ rfl hl rfl (lv_room (Nat.le_of_ble_eq_true rfl)) dL_law_354 ⟨by show cells + 5 ≤ 601024; omega, by show slots + 35 ≤ 7293034; omega⟩ (fun H locs G => ?_)
  refine lv_iload (pc := 357) X.1 X.2.1 dL_law_357 (lv_at hl 1 rfl) ?_
  refine lv_icmp_eq (pc := 359) (tgt := 364) X.1 X.2.1 dL_law_359 (by decide) (fun hq => ?_) (fun hq => absurd hth hq)
  refine lv_iload (pc := 364) X.1 X.2.1 dL_law_364 (lv_at hl 1 rfl) ?_
  have G9 : Mm D κ A ad1 (LM κ ad1 z1 (outv x res.2) res.1) s H locs := G.same (fun j => (LM_eq j).symm)
  refine lv_if_ne (pc := 366) (tgt := 381) X.1 X.2.1 dL_law_366 (by decide) (fun hq => ?_) (fun hq => ?_)
  · refine lv_goto (pc := 381) (tgt := 1341) X.1 X.2.1 dL_law_381 (by decide) ?_
    exact kk ad1 z1 (outv x res.2) res.1 _ _ H locs ls hI (by show cells + 5 ≤ _; omega) (by show slots + 35 ≤ _; omega) G9 (lv_sub hl [2, 3, 4, 5, 6] rfl)
  · obtain ⟨w, hw⟩ := code0 hq
    have hx : outv x res.2 = v.toInt64 := by rw [hw, ← hv w hw]; rfl
    refine lv_aload_n (pc := 369) X.1 X.2.1 dL_law_369 rfl (lv_at hl 6 rfl) ?_
    refine lv_iconst (pc := 370) (v := 0) X.1 X.2.1 dL_law_370 (by decide) ?_
    refine m_laldO (pc := 371) (i := 44) X G rfl LR_44 dL_law_371 ?_
    refine lv_iload (pc := 372) X.1 X.2.1 dL_law_372 (lv_at hl 0 rfl) ?_
    refine lv_i2l (pc := 374) X.1 X.2.1 dL_law_374 rfl ?_
    refine W.lcmp (pc := 375) X.1 X.2.1 dL_law_375 ?_
    refine lv_if_eq (pc := 376) (tgt := 381) X.1 X.2.1 dL_law_376 (by decide) (fun hq => ?_) (fun hq => absurd (by rw [hx]; unfold lg_cmp; simp) hq)
    refine lv_goto (pc := 381) (tgt := 1341) X.1 X.2.1 dL_law_381 (by decide) ?_
    exact kk ad1 z1 (outv x res.2) res.1 _ _ H locs ls hI (by show cells + 5 ≤ _; omega) (by show slots + 35 ≤ _; omega) G9 (lv_sub hl [2, 3, 4, 5, 6] rfl)
theorem gL_expand : GoodIn G0 (va_wsS RL 98 yL_expand (gwh yL_expand cL_expand 3 (some .int) [(0, 8, 11, 15)])) := gwh_in ml_L_98 sm_yL_expand ini_L cw_yL_expand
theorem hsL_expand : yL_expand.cls ≠ "java/lang/invoke/MethodHandle" ∧ yL_expand.cls ≠ "java/lang/invoke/VarHandle" ∧ (parseMethodDescriptor yL_expand.desc).map (fun d => d.parameters.length) = some 2 := by decide +kernel
theorem g_L_101 : GoodIn G0 (wsV RL 101 RX8 yX8_expand (gw yX8_expand cX8_expand 2 (some (FieldType.int)))) := gv_in ml_L_101 im_yX8_expand se_yX8_expand ini_X8 cd_yX8_expand
theorem hdL_yX8_expand : yX8_expand.cls = RX8 ∧ yX8_expand.cls ≠ "java/lang/invoke/MethodHandle" ∧ yX8_expand.cls ≠ "java/lang/invoke/VarHandle" ∧ (parseMethodDescriptor yX8_expand.desc).map (fun d => d.parameters.length) = some 0 := by decide +kernel
set_option maxHeartbeats 4000000 in
set_option maxRecDepth 100000 in
theorem law_expand (X : CallFix p m c cL_law 9 s args G0 RL) (hfl : l.stackTraces = false) (hX : va_X bs L xs s s.heap) (hbl : bs < s.heap.size) (hbA : ¬ A bs) (hL : 3 * j + 3 ≤ L ∧ L ≤ 1536) (G : Mm D κ A ad (LM κ ad z x b) s H locs) (hl : lv_has ls 9 [(4, .int (nI (3 * j))), (0, .ref bs), (1, .ref (ad 50)), (2, .ref (ad 43)), (3, .ref (ad 44))]) (hc : cells + 9 ≤ 601024) (hs : slots + 605 ≤ 7293034) (hok : okT Inv (F7_expand b ) (F8_expand z ) [2]) (kk : ∀ (ad : Nat → Nat) (z : MS) (x : Int64) (b : BS) (cells' slots' : Nat) (H : Heap) (locs : List Loc) (ls : Array Slot), Inv z b → cells' ≤ cells + 9 → slots' ≤ slots + 605 → Mm D κ A ad (LM κ ad z x b) s H locs → lv_has ls 9 [(4, .int (nI (3 * j))), (0, .ref bs), (1, .ref (ad 50)), (2, .ref (ad 43)), (3, .ref (ad 44))] → W p l e room_1 s m args below meth c H locs cells' slots' Q (F0 m 1341 ls [])) : W p l e room_1 s m args below meth c H locs cells slots Q (F0 m 384 ls []) := by
  obtain ⟨res, z1, v, e7, e8, hk, hth, hv, hI⟩ := hok
  refine lv_aload_n (pc := 384) X.1 X.2.1 dL_law_384 rfl (lv_at hl 2 rfl) ?_
  refine lv_aload_n (pc := 385) X.1 X.2.1 dL_law_385 rfl (lv_at hl 4 rfl) ?_
  refine m_callW (pc := 386) (As := [.ref (ad 50), .ref (ad 44)]) (rest := []) X G (rm := rmL_expand) rfl rfl (wexpand l hfl D κ A ad (celM κ ad nuM z) x b  res e7 (fun k h => by have q := hk k h; simpa using q)) gL_expand hsL_expand ⟨Nat.le_of_ble_eq_true rfl, Nat.le_of_ble_eq_true rfl⟩ rfl hl rfl (lv_room (Nat.le_of_ble_eq_true rfl)) dL_law_386 ⟨by show cells + 9 ≤ 601024; omega, by show slots + 605 ≤ 7293034; omega⟩ (fun ad1 H locs hag G => ?_)
  have hl : lv_has ls 9 [(4, .int (nI (3 * j))), (0, .ref bs), (1, .ref (ad1 50)), (2, .ref (ad1 43)), (3, .ref (ad1 44))] := by rw [hag 50 (Or.inl (by decide)), hag 43 (Or.inl (by decide)), hag 44 (Or.inl (by decide))]; exact hl
  have G : Mm D κ A ad1 (celM κ ad1 (LR κ ad1 (outv x res.2) res.1) z) s H locs := G.same (fun j => (LM_eq j).trans (LM_mv hag j))
  refine lv_istore (pc := 389) (lv' := [(5, .int (codeOf 2 res.2)), (4, .int (nI (3 * j))), (0, .ref bs), (1, .ref (ad1 50)), (2, .ref (ad1 43)), (3, .ref (ad1 44))]) X.1 X.2.1 dL_law_389 hl (by decide) rfl (fun ls hl => ?_)
  refine lv_aload_n (pc := 391) X.1 X.2.1 dL_law_391 rfl (lv_at hl 4 rfl) ?_
  refine M_calli (pc := 392) (z1 := z1) (v := v) (As := []) (rest := []) X G (rm := rm8_expand) rfl rfl (c8_expand l D κ A ad1 (LR κ ad1 (outv x res.2) res.1) z  (z1, v) e8) g_L_101 hdL_yX8_expand ⟨Nat.le_of_ble_eq_true rfl, Nat.le_of_ble_eq_true rfl⟩ rfl hl rfl (lv_room (Nat.le_of_ble_eq_true rfl)) dL_law_392 ⟨by show cells + 9 ≤ 601024; omega, by show slots + 605 ≤ 7293034; omega⟩ (fun H locs G => ?_)
  refine lv_istore (pc := 395) (lv' := [(6, .int v), (5, .int (codeOf 2 res.2)), (4, .int (nI (3 * j))), (0, .ref bs), (1, .ref (ad1 50)), (2, .ref (ad1 43)), (3, .ref (ad1 44))]) X.1 X.2.1 dL_law_395 hl (by decide) rfl (fun ls hl => ?_)
  refine lv_aload_n (pc := 397) X.1 X.2.1 dL_law_397 rfl (lv_at hl 5 rfl) ?_
  refine M_calli (pc := 398) (z1 := z1) (v := z1 43 7) (As := []) (rest := []) X G (rm := rm8_thrown) rfl rfl (c8_thrown l D κ A ad1 (LR κ ad1 (outv x res.2) res.1) z1 (z1 43 7) F8_thrown_eq) g_L_85 hdL_yX8_thrown ⟨Nat.le_of_ble_eq_true rfl, Nat.le_of_ble_eq_true rfl⟩ rfl hl rfl (lv_room (Nat.le_of_ble_eq_true rfl)) dL_law_398 ⟨by show cells + 9 ≤ 601024; omega, by show slots + 605 ≤ 7293034; omega⟩ (fun H locs G => ?_)
  refine lv_iload (pc := 401) X.1 X.2.1 dL_law_401 (lv_at hl 1 rfl) ?_
  refine lv_icmp_eq (pc := 403) (tgt := 408) X.1 X.2.1 dL_law_403 (by decide) (fun hq => ?_) (fun hq => absurd hth hq)
  refine lv_iload (pc := 408) X.1 X.2.1 dL_law_408 (lv_at hl 1 rfl) ?_
  have G9 : Mm D κ A ad1 (LM κ ad1 z1 (outv x res.2) res.1) s H locs := G.same (fun j => (LM_eq j).symm)
  refine lv_if_ne (pc := 410) (tgt := 425) X.1 X.2.1 dL_law_410 (by decide) (fun hq => ?_) (fun hq => ?_)
  · refine lv_goto (pc := 425) (tgt := 1341) X.1 X.2.1 dL_law_425 (by decide) ?_
    exact kk ad1 z1 (outv x res.2) res.1 _ _ H locs ls hI (by show cells + 9 ≤ _; omega) (by show slots + 605 ≤ _; omega) G9 (lv_sub hl [2, 3, 4, 5, 6] rfl)
  · obtain ⟨w, hw⟩ := code0 hq
    have hx : outv x res.2 = v.toInt64 := by rw [hw, ← hv w hw]; rfl
    refine lv_aload_n (pc := 413) X.1 X.2.1 dL_law_413 rfl (lv_at hl 6 rfl) ?_
    refine lv_iconst (pc := 414) (v := 0) X.1 X.2.1 dL_law_414 (by decide) ?_
    refine m_laldO (pc := 415) (i := 44) X G rfl LR_44 dL_law_415 ?_
    refine lv_iload (pc := 416) X.1 X.2.1 dL_law_416 (lv_at hl 0 rfl) ?_
    refine lv_i2l (pc := 418) X.1 X.2.1 dL_law_418 rfl ?_
    refine W.lcmp (pc := 419) X.1 X.2.1 dL_law_419 ?_
    refine lv_if_eq (pc := 420) (tgt := 425) X.1 X.2.1 dL_law_420 (by decide) (fun hq => ?_) (fun hq => absurd (by rw [hx]; unfold lg_cmp; simp) hq)
    refine lv_goto (pc := 425) (tgt := 1341) X.1 X.2.1 dL_law_425 (by decide) ?_
    exact kk ad1 z1 (outv x res.2) res.1 _ _ H locs ls hI (by show cells + 9 ≤ _; omega) (by show slots + 605 ≤ _; omega) G9 (lv_sub hl [2, 3, 4, 5, 6] rfl)
theorem gL_append : GoodIn G0 (va_wsS RL 102 yL_append (gwh yL_append cL_append 4 (some .int) [(0, 9, 12, 15), (0, 9, 15, 20)])) := gwh_in ml_L_102 sm_yL_append ini_L cw_yL_append
theorem hsL_append : yL_append.cls ≠ "java/lang/invoke/MethodHandle" ∧ yL_append.cls ≠ "java/lang/invoke/VarHandle" ∧ (parseMethodDescriptor yL_append.desc).map (fun d => d.parameters.length) = some 3 := by decide +kernel
theorem g_L_104 : GoodIn G0 (wsV RL 104 RX8 yX8_append (gw yX8_append cX8_append 2 (some (FieldType.int)))) := gv_in ml_L_104 im_yX8_append se_yX8_append ini_X8 cd_yX8_append
theorem hdL_yX8_append : yX8_append.cls = RX8 ∧ yX8_append.cls ≠ "java/lang/invoke/MethodHandle" ∧ yX8_append.cls ≠ "java/lang/invoke/VarHandle" ∧ (parseMethodDescriptor yX8_append.desc).map (fun d => d.parameters.length) = some 1 := by decide +kernel
set_option maxHeartbeats 4000000 in
set_option maxRecDepth 100000 in
theorem law_append (X : CallFix p m c cL_law 9 s args G0 RL) (hfl : l.stackTraces = false) (hX : va_X bs L xs s s.heap) (hbl : bs < s.heap.size) (hbA : ¬ A bs) (hL : 3 * j + 3 ≤ L ∧ L ≤ 1536) (G : Mm D κ A ad (LM κ ad z x b) s H locs) (hl : lv_has ls 9 [(4, .int (nI (3 * j))), (0, .ref bs), (1, .ref (ad 50)), (2, .ref (ad 43)), (3, .ref (ad 44))]) (hc : cells + 9 ≤ 601024) (hs : slots + 605 ≤ 7293034) (hok : okT Inv (F7_append b (xs (3 * j + 1))) (F8_append z (xs (3 * j + 1))) [2, 3]) (kk : ∀ (ad : Nat → Nat) (z : MS) (x : Int64) (b : BS) (cells' slots' : Nat) (H : Heap) (locs : List Loc) (ls : Array Slot), Inv z b → cells' ≤ cells + 9 → slots' ≤ slots + 605 → Mm D κ A ad (LM κ ad z x b) s H locs → lv_has ls 9 [(4, .int (nI (3 * j))), (0, .ref bs), (1, .ref (ad 50)), (2, .ref (ad 43)), (3, .ref (ad 44))] → W p l e room_1 s m args below meth c H locs cells' slots' Q (F0 m 1341 ls [])) : W p l e room_1 s m args below meth c H locs cells slots Q (F0 m 428 ls []) := by
  obtain ⟨res, z1, v, e7, e8, hk, hth, hv, hI⟩ := hok
  refine lv_aload_n (pc := 428) X.1 X.2.1 dL_law_428 rfl (lv_at hl 2 rfl) ?_
  refine lv_aload_n (pc := 429) X.1 X.2.1 dL_law_429 rfl (lv_at hl 1 rfl) ?_
  refine lv_iload (pc := 430) X.1 X.2.1 dL_law_430 (lv_at hl 0 rfl) ?_
  refine lv_iconst (pc := 432) (v := 1) X.1 X.2.1 dL_law_432 (by decide) ?_
  refine lv_iadd (pc := 433) X.1 X.2.1 dL_law_433 ?_
  rw [show nI (3 * j) + 1 = nI (3 * j + 1) from nI_add _ 1]
  refine va_sld (pc := 434) X.1 X.2.1 hX hbl hbA G.2.2.2.2.1 (vp_in_nI (by omega) (by omega)) dL_law_434 ?_
  rw [nI_clamp (by omega)]
  refine lv_aload_n (pc := 435) X.1 X.2.1 dL_law_435 rfl (lv_at hl 4 rfl) ?_
  refine m_callW (pc := 436) (As := [.ref (ad 50), .int (xs (3 * j + 1)), .ref (ad 44)]) (rest := []) X G (rm := rmL_append) rfl rfl (wappend l hfl D κ A ad (celM κ ad nuM z) x b (xs (3 * j + 1)) res e7 (fun k h => by have q := hk k h; simpa using q)) gL_append hsL_append ⟨Nat.le_of_ble_eq_true rfl, Nat.le_of_ble_eq_true rfl⟩ rfl hl rfl (lv_room (Nat.le_of_ble_eq_true rfl)) dL_law_436 ⟨by show cells + 1 ≤ 601024; omega, by show slots + 6 ≤ 7293034; omega⟩ (fun ad1 H locs hag G => ?_)
  have hl : lv_has ls 9 [(4, .int (nI (3 * j))), (0, .ref bs), (1, .ref (ad1 50)), (2, .ref (ad1 43)), (3, .ref (ad1 44))] := by rw [hag 50 (Or.inl (by decide)), hag 43 (Or.inl (by decide)), hag 44 (Or.inl (by decide))]; exact hl
  have G : Mm D κ A ad1 (celM κ ad1 (LR κ ad1 (outv x res.2) res.1) z) s H locs := G.same (fun j => (LM_eq j).trans (LM_mv hag j))
  refine lv_istore (pc := 439) (lv' := [(5, .int (codeOf 2 res.2)), (4, .int (nI (3 * j))), (0, .ref bs), (1, .ref (ad1 50)), (2, .ref (ad1 43)), (3, .ref (ad1 44))]) X.1 X.2.1 dL_law_439 hl (by decide) rfl (fun ls hl => ?_)
  refine lv_aload_n (pc := 441) X.1 X.2.1 dL_law_441 rfl (lv_at hl 4 rfl) ?_
  refine lv_aload_n (pc := 442) X.1 X.2.1 dL_law_442 rfl (lv_at hl 2 rfl) ?_
  refine lv_iload (pc := 443) X.1 X.2.1 dL_law_443 (lv_at hl 1 rfl) ?_
  refine lv_iconst (pc := 445) (v := 1) X.1 X.2.1 dL_law_445 (by decide) ?_
  refine lv_iadd (pc := 446) X.1 X.2.1 dL_law_446 ?_
  rw [show nI (3 * j) + 1 = nI (3 * j + 1) from nI_add _ 1]
  refine va_sld (pc := 447) X.1 X.2.1 hX hbl hbA G.2.2.2.2.1 (vp_in_nI (by omega) (by omega)) dL_law_447 ?_
  rw [nI_clamp (by omega)]
  refine M_calli (pc := 448) (z1 := z1) (v := v) (As := [.int (xs (3 * j + 1))]) (rest := []) X G (rm := rm8_append) rfl rfl (c8_append l D κ A ad1 (LR κ ad1 (outv x res.2) res.1) z (xs (3 * j + 1)) (z1, v) e8) g_L_104 hdL_yX8_append ⟨Nat.le_of_ble_eq_true rfl, Nat.le_of_ble_eq_true rfl⟩ rfl hl rfl (lv_room (Nat.le_of_ble_eq_true rfl)) dL_law_448 ⟨by show cells + 1 ≤ 601024; omega, by show slots + 6 ≤ 7293034; omega⟩ (fun H locs G => ?_)
  refine lv_istore (pc := 451) (lv' := [(6, .int v), (5, .int (codeOf 2 res.2)), (4, .int (nI (3 * j))), (0, .ref bs), (1, .ref (ad1 50)), (2, .ref (ad1 43)), (3, .ref (ad1 44))]) X.1 X.2.1 dL_law_451 hl (by decide) rfl (fun ls hl => ?_)
  refine lv_aload_n (pc := 453) X.1 X.2.1 dL_law_453 rfl (lv_at hl 5 rfl) ?_
  refine M_calli (pc := 454) (z1 := z1) (v := z1 43 7) (As := []) (rest := []) X G (rm := rm8_thrown) rfl rfl (c8_thrown l D κ A ad1 (LR κ ad1 (outv x res.2) res.1) z1 (z1 43 7) F8_thrown_eq) g_L_85 hdL_yX8_thrown ⟨Nat.le_of_ble_eq_true rfl, Nat.le_of_ble_eq_true rfl⟩ rfl hl rfl (lv_room (Nat.le_of_ble_eq_true rfl)) dL_law_454 ⟨by show cells + 1 ≤ 601024; omega, by show slots + 6 ≤ 7293034; omega⟩ (fun H locs G => ?_)
  refine lv_iload (pc := 457) X.1 X.2.1 dL_law_457 (lv_at hl 1 rfl) ?_
  refine lv_icmp_eq (pc := 459) (tgt := 464) X.1 X.2.1 dL_law_459 (by decide) (fun hq => ?_) (fun hq => absurd hth hq)
  refine lv_iload (pc := 464) X.1 X.2.1 dL_law_464 (lv_at hl 1 rfl) ?_
  have G9 : Mm D κ A ad1 (LM κ ad1 z1 (outv x res.2) res.1) s H locs := G.same (fun j => (LM_eq j).symm)
  refine lv_if_ne (pc := 466) (tgt := 481) X.1 X.2.1 dL_law_466 (by decide) (fun hq => ?_) (fun hq => ?_)
  · refine lv_goto (pc := 481) (tgt := 1341) X.1 X.2.1 dL_law_481 (by decide) ?_
    exact kk ad1 z1 (outv x res.2) res.1 _ _ H locs ls hI (by show cells + 1 ≤ _; omega) (by show slots + 6 ≤ _; omega) G9 (lv_sub hl [2, 3, 4, 5, 6] rfl)
  · obtain ⟨w, hw⟩ := code0 hq
    have hx : outv x res.2 = v.toInt64 := by rw [hw, ← hv w hw]; rfl
    refine lv_aload_n (pc := 469) X.1 X.2.1 dL_law_469 rfl (lv_at hl 6 rfl) ?_
    refine lv_iconst (pc := 470) (v := 0) X.1 X.2.1 dL_law_470 (by decide) ?_
    refine m_laldO (pc := 471) (i := 44) X G rfl LR_44 dL_law_471 ?_
    refine lv_iload (pc := 472) X.1 X.2.1 dL_law_472 (lv_at hl 0 rfl) ?_
    refine lv_i2l (pc := 474) X.1 X.2.1 dL_law_474 rfl ?_
    refine W.lcmp (pc := 475) X.1 X.2.1 dL_law_475 ?_
    refine lv_if_eq (pc := 476) (tgt := 481) X.1 X.2.1 dL_law_476 (by decide) (fun hq => ?_) (fun hq => absurd (by rw [hx]; unfold lg_cmp; simp) hq)
    refine lv_goto (pc := 481) (tgt := 1341) X.1 X.2.1 dL_law_481 (by decide) ?_
    exact kk ad1 z1 (outv x res.2) res.1 _ _ H locs ls hI (by show cells + 1 ≤ _; omega) (by show slots + 6 ≤ _; omega) G9 (lv_sub hl [2, 3, 4, 5, 6] rfl)
theorem g_L_105 : GoodIn G0 (wsV RL 105 RX7 yX7_clearBuffer (gw yX7_clearBuffer cX7_clearBuffer 2 (some (FieldType.int)))) := gv_in ml_L_105 im_yX7_clearBuffer se_yX7_clearBuffer ini_X7 cd_yX7_clearBuffer
theorem hdL_yX7_clearBuffer : yX7_clearBuffer.cls = RX7 ∧ yX7_clearBuffer.cls ≠ "java/lang/invoke/MethodHandle" ∧ yX7_clearBuffer.cls ≠ "java/lang/invoke/VarHandle" ∧ (parseMethodDescriptor yX7_clearBuffer.desc).map (fun d => d.parameters.length) = some 0 := by decide +kernel
theorem g_L_108 : GoodIn G0 (wsV RL 108 RX8 yX8_clearBuffer (gw yX8_clearBuffer cX8_clearBuffer 2 (some (FieldType.int)))) := gv_in ml_L_108 im_yX8_clearBuffer se_yX8_clearBuffer ini_X8 cd_yX8_clearBuffer
theorem hdL_yX8_clearBuffer : yX8_clearBuffer.cls = RX8 ∧ yX8_clearBuffer.cls ≠ "java/lang/invoke/MethodHandle" ∧ yX8_clearBuffer.cls ≠ "java/lang/invoke/VarHandle" ∧ (parseMethodDescriptor yX8_clearBuffer.desc).map (fun d => d.parameters.length) = some 0 := by decide +kernel
set_option maxHeartbeats 4000000 in
set_option maxRecDepth 100000 in
theorem law_clearBuffer (X : CallFix p m c cL_law 9 s args G0 RL) (hfl : l.stackTraces = false) (hX : va_X bs L xs s s.heap) (hbl : bs < s.heap.size) (hbA : ¬ A bs) (hL : 3 * j + 3 ≤ L ∧ L ≤ 1536) (G : Mm D κ A ad (LM κ ad z x b) s H locs) (hl : lv_has ls 9 [(4, .int (nI (3 * j))), (0, .ref bs), (1, .ref (ad 50)), (2, .ref (ad 43)), (3, .ref (ad 44))]) (hc : cells + 9 ≤ 601024) (hs : slots + 605 ≤ 7293034) (hok : okP Inv (F7_clearBuffer b) (F8_clearBuffer z)) (kk : ∀ (ad : Nat → Nat) (z : MS) (x : Int64) (b : BS) (cells' slots' : Nat) (H : Heap) (locs : List Loc) (ls : Array Slot), Inv z b → cells' ≤ cells + 9 → slots' ≤ slots + 605 → Mm D κ A ad (LM κ ad z x b) s H locs → lv_has ls 9 [(4, .int (nI (3 * j))), (0, .ref bs), (1, .ref (ad 50)), (2, .ref (ad 43)), (3, .ref (ad 44))] → W p l e room_1 s m args below meth c H locs cells' slots' Q (F0 m 1341 ls [])) : W p l e room_1 s m args below meth c H locs cells slots Q (F0 m 484 ls []) := by
  obtain ⟨b1, z1, v, e7, e8, hI⟩ := hok
  refine lv_aload_n (pc := 484) X.1 X.2.1 dL_law_484 rfl (lv_at hl 2 rfl) ?_
  refine B_calli (pc := 485) (v := v) (M' := celB κ ad (celO κ (celM κ ad nuM z) x) b1) (i := 50) (As := []) (rest := []) X G (rm := rm7_clearBuffer) rfl rfl rfl (c7_clearBuffer l D κ A ad (celO κ (celM κ ad nuM z) x) b (b1, v) e7) (B_rcv (ci := 7) (okL50 _) (by decide)) rfl g_L_105 hdL_yX7_clearBuffer ⟨Nat.le_of_ble_eq_true rfl, Nat.le_of_ble_eq_true rfl⟩ rfl hl rfl (lv_room (Nat.le_of_ble_eq_true rfl)) dL_law_485 ⟨by show cells ≤ 601024; omega, by show slots ≤ 7293034; omega⟩ (fun H locs G => ?_)
  have G : Mm D κ A ad (celM κ ad (LR κ ad x b1) z) s H locs := G.same (fun j => LM_eq j)
  refine lv_aload_n (pc := 488) X.1 X.2.1 dL_law_488 rfl (lv_at hl 3 rfl) ?_
  refine M_calli (pc := 489) (z1 := z1) (v := v) (As := []) (rest := [.int v]) X G (rm := rm8_clearBuffer) rfl rfl (c8_clearBuffer l D κ A ad (LR κ ad x b1) z (z1, v) e8) g_L_108 hdL_yX8_clearBuffer ⟨Nat.le_of_ble_eq_true rfl, Nat.le_of_ble_eq_true rfl⟩ rfl hl rfl (lv_room (Nat.le_of_ble_eq_true rfl)) dL_law_489 ⟨by show cells ≤ 601024; omega, by show slots ≤ 7293034; omega⟩ (fun H locs G => ?_)
  refine lv_icmp_eq (pc := 492) (tgt := 1341) X.1 X.2.1 dL_law_492 (by decide) (fun hq => ?_) (fun hq => absurd rfl hq)
  exact kk ad z1 x b1 _ _ H locs ls hI (by omega) (by omega) (G.same (fun j => (LM_eq j).symm)) hl
theorem g_L_109 : GoodIn G0 (wsV RL 109 RX7 yX7_firstError (gw yX7_firstError cX7_firstError 1 (some (FieldType.int)))) := gv_in ml_L_109 im_yX7_firstError se_yX7_firstError ini_X7 cd_yX7_firstError
theorem hdL_yX7_firstError : yX7_firstError.cls = RX7 ∧ yX7_firstError.cls ≠ "java/lang/invoke/MethodHandle" ∧ yX7_firstError.cls ≠ "java/lang/invoke/VarHandle" ∧ (parseMethodDescriptor yX7_firstError.desc).map (fun d => d.parameters.length) = some 0 := by decide +kernel
theorem g_L_112 : GoodIn G0 (wsV RL 112 RX8 yX8_firstError (gw yX8_firstError cX8_firstError 1 (some (FieldType.int)))) := gv_in ml_L_112 im_yX8_firstError se_yX8_firstError ini_X8 cd_yX8_firstError
theorem hdL_yX8_firstError : yX8_firstError.cls = RX8 ∧ yX8_firstError.cls ≠ "java/lang/invoke/MethodHandle" ∧ yX8_firstError.cls ≠ "java/lang/invoke/VarHandle" ∧ (parseMethodDescriptor yX8_firstError.desc).map (fun d => d.parameters.length) = some 0 := by decide +kernel
set_option maxHeartbeats 4000000 in
set_option maxRecDepth 100000 in
theorem law_firstError (X : CallFix p m c cL_law 9 s args G0 RL) (hfl : l.stackTraces = false) (hX : va_X bs L xs s s.heap) (hbl : bs < s.heap.size) (hbA : ¬ A bs) (hL : 3 * j + 3 ≤ L ∧ L ≤ 1536) (G : Mm D κ A ad (LM κ ad z x b) s H locs) (hl : lv_has ls 9 [(4, .int (nI (3 * j))), (0, .ref bs), (1, .ref (ad 50)), (2, .ref (ad 43)), (3, .ref (ad 44))]) (hc : cells + 9 ≤ 601024) (hs : slots + 605 ≤ 7293034) (hok : okP Inv (F7_firstError b) (F8_firstError z)) (kk : ∀ (ad : Nat → Nat) (z : MS) (x : Int64) (b : BS) (cells' slots' : Nat) (H : Heap) (locs : List Loc) (ls : Array Slot), Inv z b → cells' ≤ cells + 9 → slots' ≤ slots + 605 → Mm D κ A ad (LM κ ad z x b) s H locs → lv_has ls 9 [(4, .int (nI (3 * j))), (0, .ref bs), (1, .ref (ad 50)), (2, .ref (ad 43)), (3, .ref (ad 44))] → W p l e room_1 s m args below meth c H locs cells' slots' Q (F0 m 1341 ls [])) : W p l e room_1 s m args below meth c H locs cells slots Q (F0 m 497 ls []) := by
  obtain ⟨b1, z1, v, e7, e8, hI⟩ := hok
  refine lv_aload_n (pc := 497) X.1 X.2.1 dL_law_497 rfl (lv_at hl 2 rfl) ?_
  refine B_calli (pc := 498) (v := v) (M' := celB κ ad (celO κ (celM κ ad nuM z) x) b1) (i := 50) (As := []) (rest := []) X G (rm := rm7_firstError) rfl rfl rfl (c7_firstError l D κ A ad (celO κ (celM κ ad nuM z) x) b (b1, v) e7) (B_rcv (ci := 7) (okL50 _) (by decide)) rfl g_L_109 hdL_yX7_firstError ⟨Nat.le_of_ble_eq_true rfl, Nat.le_of_ble_eq_true rfl⟩ rfl hl rfl (lv_room (Nat.le_of_ble_eq_true rfl)) dL_law_498 ⟨by show cells ≤ 601024; omega, by show slots ≤ 7293034; omega⟩ (fun H locs G => ?_)
  have G : Mm D κ A ad (celM κ ad (LR κ ad x b1) z) s H locs := G.same (fun j => LM_eq j)
  refine lv_aload_n (pc := 501) X.1 X.2.1 dL_law_501 rfl (lv_at hl 3 rfl) ?_
  refine M_calli (pc := 502) (z1 := z1) (v := v) (As := []) (rest := [.int v]) X G (rm := rm8_firstError) rfl rfl (c8_firstError l D κ A ad (LR κ ad x b1) z (z1, v) e8) g_L_112 hdL_yX8_firstError ⟨Nat.le_of_ble_eq_true rfl, Nat.le_of_ble_eq_true rfl⟩ rfl hl rfl (lv_room (Nat.le_of_ble_eq_true rfl)) dL_law_502 ⟨by show cells ≤ 601024; omega, by show slots ≤ 7293034; omega⟩ (fun H locs G => ?_)
  refine lv_icmp_eq (pc := 505) (tgt := 1341) X.1 X.2.1 dL_law_505 (by decide) (fun hq => ?_) (fun hq => absurd rfl hq)
  exact kk ad z1 x b1 _ _ H locs ls hI (by omega) (by omega) (G.same (fun j => (LM_eq j).symm)) hl
theorem gL_load : GoodIn G0 (va_wsS RL 113 yL_load (gwh yL_load cL_load 4 (some .int) [(0, 9, 12, 13), (0, 9, 15, 20)])) := gwh_in ml_L_113 sm_yL_load ini_L cw_yL_load
theorem hsL_load : yL_load.cls ≠ "java/lang/invoke/MethodHandle" ∧ yL_load.cls ≠ "java/lang/invoke/VarHandle" ∧ (parseMethodDescriptor yL_load.desc).map (fun d => d.parameters.length) = some 3 := by decide +kernel
theorem g_L_115 : GoodIn G0 (wsV RL 115 RX8 yX8_load (gw yX8_load cX8_load 3 (some (FieldType.int)))) := gv_in ml_L_115 im_yX8_load se_yX8_load ini_X8 cd_yX8_load
theorem hdL_yX8_load : yX8_load.cls = RX8 ∧ yX8_load.cls ≠ "java/lang/invoke/MethodHandle" ∧ yX8_load.cls ≠ "java/lang/invoke/VarHandle" ∧ (parseMethodDescriptor yX8_load.desc).map (fun d => d.parameters.length) = some 1 := by decide +kernel
set_option maxHeartbeats 4000000 in
set_option maxRecDepth 100000 in
theorem law_load (X : CallFix p m c cL_law 9 s args G0 RL) (hfl : l.stackTraces = false) (hX : va_X bs L xs s s.heap) (hbl : bs < s.heap.size) (hbA : ¬ A bs) (hL : 3 * j + 3 ≤ L ∧ L ≤ 1536) (G : Mm D κ A ad (LM κ ad z x b) s H locs) (hl : lv_has ls 9 [(4, .int (nI (3 * j))), (0, .ref bs), (1, .ref (ad 50)), (2, .ref (ad 43)), (3, .ref (ad 44))]) (hc : cells + 9 ≤ 601024) (hs : slots + 605 ≤ 7293034) (hok : okT Inv (F7_load b (xs (3 * j + 1))) (F8_load z (xs (3 * j + 1))) [1, 3]) (kk : ∀ (ad : Nat → Nat) (z : MS) (x : Int64) (b : BS) (cells' slots' : Nat) (H : Heap) (locs : List Loc) (ls : Array Slot), Inv z b → cells' ≤ cells + 9 → slots' ≤ slots + 605 → Mm D κ A ad (LM κ ad z x b) s H locs → lv_has ls 9 [(4, .int (nI (3 * j))), (0, .ref bs), (1, .ref (ad 50)), (2, .ref (ad 43)), (3, .ref (ad 44))] → W p l e room_1 s m args below meth c H locs cells' slots' Q (F0 m 1341 ls [])) : W p l e room_1 s m args below meth c H locs cells slots Q (F0 m 510 ls []) := by
  obtain ⟨res, z1, v, e7, e8, hk, hth, hv, hI⟩ := hok
  refine lv_aload_n (pc := 510) X.1 X.2.1 dL_law_510 rfl (lv_at hl 2 rfl) ?_
  refine lv_aload_n (pc := 511) X.1 X.2.1 dL_law_511 rfl (lv_at hl 1 rfl) ?_
  refine lv_iload (pc := 512) X.1 X.2.1 dL_law_512 (lv_at hl 0 rfl) ?_
  refine lv_iconst (pc := 514) (v := 1) X.1 X.2.1 dL_law_514 (by decide) ?_
  refine lv_iadd (pc := 515) X.1 X.2.1 dL_law_515 ?_
  rw [show nI (3 * j) + 1 = nI (3 * j + 1) from nI_add _ 1]
  refine va_sld (pc := 516) X.1 X.2.1 hX hbl hbA G.2.2.2.2.1 (vp_in_nI (by omega) (by omega)) dL_law_516 ?_
  rw [nI_clamp (by omega)]
  refine lv_aload_n (pc := 517) X.1 X.2.1 dL_law_517 rfl (lv_at hl 4 rfl) ?_
  refine m_callW (pc := 518) (As := [.ref (ad 50), .int (xs (3 * j + 1)), .ref (ad 44)]) (rest := []) X G (rm := rmL_load) rfl rfl (wload l hfl D κ A ad (celM κ ad nuM z) x b (xs (3 * j + 1)) res e7 (fun k h => by have q := hk k h; simpa using q)) gL_load hsL_load ⟨Nat.le_of_ble_eq_true rfl, Nat.le_of_ble_eq_true rfl⟩ rfl hl rfl (lv_room (Nat.le_of_ble_eq_true rfl)) dL_law_518 ⟨by show cells + 2 ≤ 601024; omega, by show slots + 12 ≤ 7293034; omega⟩ (fun ad1 H locs hag G => ?_)
  have hl : lv_has ls 9 [(4, .int (nI (3 * j))), (0, .ref bs), (1, .ref (ad1 50)), (2, .ref (ad1 43)), (3, .ref (ad1 44))] := by rw [hag 50 (Or.inl (by decide)), hag 43 (Or.inl (by decide)), hag 44 (Or.inl (by decide))]; exact hl
  have G : Mm D κ A ad1 (celM κ ad1 (LR κ ad1 (outv x res.2) res.1) z) s H locs := G.same (fun j => (LM_eq j).trans (LM_mv hag j))
  refine lv_istore (pc := 521) (lv' := [(5, .int (codeOf 1 res.2)), (4, .int (nI (3 * j))), (0, .ref bs), (1, .ref (ad1 50)), (2, .ref (ad1 43)), (3, .ref (ad1 44))]) X.1 X.2.1 dL_law_521 hl (by decide) rfl (fun ls hl => ?_)
  refine lv_aload_n (pc := 523) X.1 X.2.1 dL_law_523 rfl (lv_at hl 4 rfl) ?_
  refine lv_aload_n (pc := 524) X.1 X.2.1 dL_law_524 rfl (lv_at hl 2 rfl) ?_
  refine lv_iload (pc := 525) X.1 X.2.1 dL_law_525 (lv_at hl 1 rfl) ?_
  refine lv_iconst (pc := 527) (v := 1) X.1 X.2.1 dL_law_527 (by decide) ?_
  refine lv_iadd (pc := 528) X.1 X.2.1 dL_law_528 ?_
  rw [show nI (3 * j) + 1 = nI (3 * j + 1) from nI_add _ 1]
  refine va_sld (pc := 529) X.1 X.2.1 hX hbl hbA G.2.2.2.2.1 (vp_in_nI (by omega) (by omega)) dL_law_529 ?_
  rw [nI_clamp (by omega)]
  refine M_calli (pc := 530) (z1 := z1) (v := v) (As := [.int (xs (3 * j + 1))]) (rest := []) X G (rm := rm8_load) rfl rfl (c8_load l D κ A ad1 (LR κ ad1 (outv x res.2) res.1) z (xs (3 * j + 1)) (z1, v) e8) g_L_115 hdL_yX8_load ⟨Nat.le_of_ble_eq_true rfl, Nat.le_of_ble_eq_true rfl⟩ rfl hl rfl (lv_room (Nat.le_of_ble_eq_true rfl)) dL_law_530 ⟨by show cells + 2 ≤ 601024; omega, by show slots + 12 ≤ 7293034; omega⟩ (fun H locs G => ?_)
  refine lv_istore (pc := 533) (lv' := [(6, .int v), (5, .int (codeOf 1 res.2)), (4, .int (nI (3 * j))), (0, .ref bs), (1, .ref (ad1 50)), (2, .ref (ad1 43)), (3, .ref (ad1 44))]) X.1 X.2.1 dL_law_533 hl (by decide) rfl (fun ls hl => ?_)
  refine lv_aload_n (pc := 535) X.1 X.2.1 dL_law_535 rfl (lv_at hl 5 rfl) ?_
  refine M_calli (pc := 536) (z1 := z1) (v := z1 43 7) (As := []) (rest := []) X G (rm := rm8_thrown) rfl rfl (c8_thrown l D κ A ad1 (LR κ ad1 (outv x res.2) res.1) z1 (z1 43 7) F8_thrown_eq) g_L_85 hdL_yX8_thrown ⟨Nat.le_of_ble_eq_true rfl, Nat.le_of_ble_eq_true rfl⟩ rfl hl rfl (lv_room (Nat.le_of_ble_eq_true rfl)) dL_law_536 ⟨by show cells + 2 ≤ 601024; omega, by show slots + 12 ≤ 7293034; omega⟩ (fun H locs G => ?_)
  refine lv_iload (pc := 539) X.1 X.2.1 dL_law_539 (lv_at hl 1 rfl) ?_
  refine lv_icmp_eq (pc := 541) (tgt := 546) X.1 X.2.1 dL_law_541 (by decide) (fun hq => ?_) (fun hq => absurd hth hq)
  refine lv_iload (pc := 546) X.1 X.2.1 dL_law_546 (lv_at hl 1 rfl) ?_
  have G9 : Mm D κ A ad1 (LM κ ad1 z1 (outv x res.2) res.1) s H locs := G.same (fun j => (LM_eq j).symm)
  refine lv_if_ne (pc := 548) (tgt := 563) X.1 X.2.1 dL_law_548 (by decide) (fun hq => ?_) (fun hq => ?_)
  · refine lv_goto (pc := 563) (tgt := 1341) X.1 X.2.1 dL_law_563 (by decide) ?_
    exact kk ad1 z1 (outv x res.2) res.1 _ _ H locs ls hI (by show cells + 2 ≤ _; omega) (by show slots + 12 ≤ _; omega) G9 (lv_sub hl [2, 3, 4, 5, 6] rfl)
  · obtain ⟨w, hw⟩ := code0 hq
    have hx : outv x res.2 = v.toInt64 := by rw [hw, ← hv w hw]; rfl
    refine lv_aload_n (pc := 551) X.1 X.2.1 dL_law_551 rfl (lv_at hl 6 rfl) ?_
    refine lv_iconst (pc := 552) (v := 0) X.1 X.2.1 dL_law_552 (by decide) ?_
    refine m_laldO (pc := 553) (i := 44) X G rfl LR_44 dL_law_553 ?_
    refine lv_iload (pc := 554) X.1 X.2.1 dL_law_554 (lv_at hl 0 rfl) ?_
    refine lv_i2l (pc := 556) X.1 X.2.1 dL_law_556 rfl ?_
    refine W.lcmp (pc := 557) X.1 X.2.1 dL_law_557 ?_
    refine lv_if_eq (pc := 558) (tgt := 563) X.1 X.2.1 dL_law_558 (by decide) (fun hq => ?_) (fun hq => absurd (by rw [hx]; unfold lg_cmp; simp) hq)
    refine lv_goto (pc := 563) (tgt := 1341) X.1 X.2.1 dL_law_563 (by decide) ?_
    exact kk ad1 z1 (outv x res.2) res.1 _ _ H locs ls hI (by show cells + 2 ≤ _; omega) (by show slots + 12 ≤ _; omega) G9 (lv_sub hl [2, 3, 4, 5, 6] rfl)
theorem gL_undo : GoodIn G0 (va_wsS RL 116 yL_undo (gwh yL_undo cL_undo 3 (some .int) [(0, 8, 11, 20)])) := gwh_in ml_L_116 sm_yL_undo ini_L cw_yL_undo
theorem hsL_undo : yL_undo.cls ≠ "java/lang/invoke/MethodHandle" ∧ yL_undo.cls ≠ "java/lang/invoke/VarHandle" ∧ (parseMethodDescriptor yL_undo.desc).map (fun d => d.parameters.length) = some 2 := by decide +kernel
theorem g_L_118 : GoodIn G0 (wsV RL 118 RX8 yX8_undo (gw yX8_undo cX8_undo 2 (some (FieldType.int)))) := gv_in ml_L_118 im_yX8_undo se_yX8_undo ini_X8 cd_yX8_undo
theorem hdL_yX8_undo : yX8_undo.cls = RX8 ∧ yX8_undo.cls ≠ "java/lang/invoke/MethodHandle" ∧ yX8_undo.cls ≠ "java/lang/invoke/VarHandle" ∧ (parseMethodDescriptor yX8_undo.desc).map (fun d => d.parameters.length) = some 0 := by decide +kernel
set_option maxHeartbeats 4000000 in
set_option maxRecDepth 100000 in
theorem law_undo (X : CallFix p m c cL_law 9 s args G0 RL) (hfl : l.stackTraces = false) (hX : va_X bs L xs s s.heap) (hbl : bs < s.heap.size) (hbA : ¬ A bs) (hL : 3 * j + 3 ≤ L ∧ L ≤ 1536) (G : Mm D κ A ad (LM κ ad z x b) s H locs) (hl : lv_has ls 9 [(4, .int (nI (3 * j))), (0, .ref bs), (1, .ref (ad 50)), (2, .ref (ad 43)), (3, .ref (ad 44))]) (hc : cells + 9 ≤ 601024) (hs : slots + 605 ≤ 7293034) (hok : okT Inv (F7_undo b ) (F8_undo z ) [3]) (kk : ∀ (ad : Nat → Nat) (z : MS) (x : Int64) (b : BS) (cells' slots' : Nat) (H : Heap) (locs : List Loc) (ls : Array Slot), Inv z b → cells' ≤ cells + 9 → slots' ≤ slots + 605 → Mm D κ A ad (LM κ ad z x b) s H locs → lv_has ls 9 [(4, .int (nI (3 * j))), (0, .ref bs), (1, .ref (ad 50)), (2, .ref (ad 43)), (3, .ref (ad 44))] → W p l e room_1 s m args below meth c H locs cells' slots' Q (F0 m 1341 ls [])) : W p l e room_1 s m args below meth c H locs cells slots Q (F0 m 566 ls []) := by
  obtain ⟨res, z1, v, e7, e8, hk, hth, hv, hI⟩ := hok
  refine lv_aload_n (pc := 566) X.1 X.2.1 dL_law_566 rfl (lv_at hl 2 rfl) ?_
  refine lv_aload_n (pc := 567) X.1 X.2.1 dL_law_567 rfl (lv_at hl 4 rfl) ?_
  refine m_callW (pc := 568) (As := [.ref (ad 50), .ref (ad 44)]) (rest := []) X G (rm := rmL_undo) rfl rfl (wundo l hfl D κ A ad (celM κ ad nuM z) x b  res e7 (fun k h => by have q := hk k h; simpa using q)) gL_undo hsL_undo ⟨Nat.le_of_ble_eq_true rfl, Nat.le_of_ble_eq_true rfl⟩ rfl hl rfl (lv_room (Nat.le_of_ble_eq_true rfl)) dL_law_568 ⟨by show cells + 1 ≤ 601024; omega, by show slots + 6 ≤ 7293034; omega⟩ (fun ad1 H locs hag G => ?_)
  have hl : lv_has ls 9 [(4, .int (nI (3 * j))), (0, .ref bs), (1, .ref (ad1 50)), (2, .ref (ad1 43)), (3, .ref (ad1 44))] := by rw [hag 50 (Or.inl (by decide)), hag 43 (Or.inl (by decide)), hag 44 (Or.inl (by decide))]; exact hl
  have G : Mm D κ A ad1 (celM κ ad1 (LR κ ad1 (outv x res.2) res.1) z) s H locs := G.same (fun j => (LM_eq j).trans (LM_mv hag j))
  refine lv_istore (pc := 571) (lv' := [(5, .int (codeOf 3 res.2)), (4, .int (nI (3 * j))), (0, .ref bs), (1, .ref (ad1 50)), (2, .ref (ad1 43)), (3, .ref (ad1 44))]) X.1 X.2.1 dL_law_571 hl (by decide) rfl (fun ls hl => ?_)
  refine lv_aload_n (pc := 573) X.1 X.2.1 dL_law_573 rfl (lv_at hl 4 rfl) ?_
  refine M_calli (pc := 574) (z1 := z1) (v := v) (As := []) (rest := []) X G (rm := rm8_undo) rfl rfl (c8_undo l D κ A ad1 (LR κ ad1 (outv x res.2) res.1) z  (z1, v) e8) g_L_118 hdL_yX8_undo ⟨Nat.le_of_ble_eq_true rfl, Nat.le_of_ble_eq_true rfl⟩ rfl hl rfl (lv_room (Nat.le_of_ble_eq_true rfl)) dL_law_574 ⟨by show cells + 1 ≤ 601024; omega, by show slots + 6 ≤ 7293034; omega⟩ (fun H locs G => ?_)
  refine lv_istore (pc := 577) (lv' := [(6, .int v), (5, .int (codeOf 3 res.2)), (4, .int (nI (3 * j))), (0, .ref bs), (1, .ref (ad1 50)), (2, .ref (ad1 43)), (3, .ref (ad1 44))]) X.1 X.2.1 dL_law_577 hl (by decide) rfl (fun ls hl => ?_)
  refine lv_aload_n (pc := 579) X.1 X.2.1 dL_law_579 rfl (lv_at hl 5 rfl) ?_
  refine M_calli (pc := 580) (z1 := z1) (v := z1 43 7) (As := []) (rest := []) X G (rm := rm8_thrown) rfl rfl (c8_thrown l D κ A ad1 (LR κ ad1 (outv x res.2) res.1) z1 (z1 43 7) F8_thrown_eq) g_L_85 hdL_yX8_thrown ⟨Nat.le_of_ble_eq_true rfl, Nat.le_of_ble_eq_true rfl⟩ rfl hl rfl (lv_room (Nat.le_of_ble_eq_true rfl)) dL_law_580 ⟨by show cells + 1 ≤ 601024; omega, by show slots + 6 ≤ 7293034; omega⟩ (fun H locs G => ?_)
  refine lv_iload (pc := 583) X.1 X.2.1 dL_law_583 (lv_at hl 1 rfl) ?_
  refine lv_icmp_eq (pc := 585) (tgt := 590) X.1 X.2.1 dL_law_585 (by decide) (fun hq => ?_) (fun hq => absurd hth hq)
  refine lv_iload (pc := 590) X.1 X.2.1 dL_law_590 (lv_at hl 1 rfl) ?_
  have G9 : Mm D κ A ad1 (LM κ ad1 z1 (outv x res.2) res.1) s H locs := G.same (fun j => (LM_eq j).symm)
  refine lv_if_ne (pc := 592) (tgt := 607) X.1 X.2.1 dL_law_592 (by decide) (fun hq => ?_) (fun hq => ?_)
  · refine lv_goto (pc := 607) (tgt := 1341) X.1 X.2.1 dL_law_607 (by decide) ?_
    exact kk ad1 z1 (outv x res.2) res.1 _ _ H locs ls hI (by show cells + 1 ≤ _; omega) (by show slots + 6 ≤ _; omega) G9 (lv_sub hl [2, 3, 4, 5, 6] rfl)
  · obtain ⟨w, hw⟩ := code0 hq
    have hx : outv x res.2 = v.toInt64 := by rw [hw, ← hv w hw]; rfl
    refine lv_aload_n (pc := 595) X.1 X.2.1 dL_law_595 rfl (lv_at hl 6 rfl) ?_
    refine lv_iconst (pc := 596) (v := 0) X.1 X.2.1 dL_law_596 (by decide) ?_
    refine m_laldO (pc := 597) (i := 44) X G rfl LR_44 dL_law_597 ?_
    refine lv_iload (pc := 598) X.1 X.2.1 dL_law_598 (lv_at hl 0 rfl) ?_
    refine lv_i2l (pc := 600) X.1 X.2.1 dL_law_600 rfl ?_
    refine W.lcmp (pc := 601) X.1 X.2.1 dL_law_601 ?_
    refine lv_if_eq (pc := 602) (tgt := 607) X.1 X.2.1 dL_law_602 (by decide) (fun hq => ?_) (fun hq => absurd (by rw [hx]; unfold lg_cmp; simp) hq)
    refine lv_goto (pc := 607) (tgt := 1341) X.1 X.2.1 dL_law_607 (by decide) ?_
    exact kk ad1 z1 (outv x res.2) res.1 _ _ H locs ls hI (by show cells + 1 ≤ _; omega) (by show slots + 6 ≤ _; omega) G9 (lv_sub hl [2, 3, 4, 5, 6] rfl)
theorem gL_keep : GoodIn G0 (va_wsS RL 119 yL_keep (gwh yL_keep cL_keep 4 (some .int) [(0, 9, 12, 15)])) := gwh_in ml_L_119 sm_yL_keep ini_L cw_yL_keep
theorem hsL_keep : yL_keep.cls ≠ "java/lang/invoke/MethodHandle" ∧ yL_keep.cls ≠ "java/lang/invoke/VarHandle" ∧ (parseMethodDescriptor yL_keep.desc).map (fun d => d.parameters.length) = some 3 := by decide +kernel
theorem g_L_121 : GoodIn G0 (wsV RL 121 RX8 yX8_keep (gw yX8_keep cX8_keep 3 (some (FieldType.int)))) := gv_in ml_L_121 im_yX8_keep se_yX8_keep ini_X8 cd_yX8_keep
theorem hdL_yX8_keep : yX8_keep.cls = RX8 ∧ yX8_keep.cls ≠ "java/lang/invoke/MethodHandle" ∧ yX8_keep.cls ≠ "java/lang/invoke/VarHandle" ∧ (parseMethodDescriptor yX8_keep.desc).map (fun d => d.parameters.length) = some 1 := by decide +kernel
set_option maxHeartbeats 4000000 in
set_option maxRecDepth 100000 in
theorem law_keep (X : CallFix p m c cL_law 9 s args G0 RL) (hfl : l.stackTraces = false) (hX : va_X bs L xs s s.heap) (hbl : bs < s.heap.size) (hbA : ¬ A bs) (hL : 3 * j + 3 ≤ L ∧ L ≤ 1536) (G : Mm D κ A ad (LM κ ad z x b) s H locs) (hl : lv_has ls 9 [(4, .int (nI (3 * j))), (0, .ref bs), (1, .ref (ad 50)), (2, .ref (ad 43)), (3, .ref (ad 44))]) (hc : cells + 9 ≤ 601024) (hs : slots + 605 ≤ 7293034) (hok : okT Inv (F7_keep b (xs (3 * j + 1))) (F8_keep z (xs (3 * j + 1))) [2]) (kk : ∀ (ad : Nat → Nat) (z : MS) (x : Int64) (b : BS) (cells' slots' : Nat) (H : Heap) (locs : List Loc) (ls : Array Slot), Inv z b → cells' ≤ cells + 9 → slots' ≤ slots + 605 → Mm D κ A ad (LM κ ad z x b) s H locs → lv_has ls 9 [(4, .int (nI (3 * j))), (0, .ref bs), (1, .ref (ad 50)), (2, .ref (ad 43)), (3, .ref (ad 44))] → W p l e room_1 s m args below meth c H locs cells' slots' Q (F0 m 1341 ls [])) : W p l e room_1 s m args below meth c H locs cells slots Q (F0 m 610 ls []) := by
  obtain ⟨res, z1, v, e7, e8, hk, hth, hv, hI⟩ := hok
  refine lv_aload_n (pc := 610) X.1 X.2.1 dL_law_610 rfl (lv_at hl 2 rfl) ?_
  refine lv_aload_n (pc := 611) X.1 X.2.1 dL_law_611 rfl (lv_at hl 1 rfl) ?_
  refine lv_iload (pc := 612) X.1 X.2.1 dL_law_612 (lv_at hl 0 rfl) ?_
  refine lv_iconst (pc := 614) (v := 1) X.1 X.2.1 dL_law_614 (by decide) ?_
  refine lv_iadd (pc := 615) X.1 X.2.1 dL_law_615 ?_
  rw [show nI (3 * j) + 1 = nI (3 * j + 1) from nI_add _ 1]
  refine va_sld (pc := 616) X.1 X.2.1 hX hbl hbA G.2.2.2.2.1 (vp_in_nI (by omega) (by omega)) dL_law_616 ?_
  rw [nI_clamp (by omega)]
  refine lv_aload_n (pc := 617) X.1 X.2.1 dL_law_617 rfl (lv_at hl 4 rfl) ?_
  refine m_callW (pc := 618) (As := [.ref (ad 50), .int (xs (3 * j + 1)), .ref (ad 44)]) (rest := []) X G (rm := rmL_keep) rfl rfl (wkeep l hfl D κ A ad (celM κ ad nuM z) x b (xs (3 * j + 1)) res e7 (fun k h => by have q := hk k h; simpa using q)) gL_keep hsL_keep ⟨Nat.le_of_ble_eq_true rfl, Nat.le_of_ble_eq_true rfl⟩ rfl hl rfl (lv_room (Nat.le_of_ble_eq_true rfl)) dL_law_618 ⟨by show cells + 6 ≤ 601024; omega, by show slots + 41 ≤ 7293034; omega⟩ (fun ad1 H locs hag G => ?_)
  have hl : lv_has ls 9 [(4, .int (nI (3 * j))), (0, .ref bs), (1, .ref (ad1 50)), (2, .ref (ad1 43)), (3, .ref (ad1 44))] := by rw [hag 50 (Or.inl (by decide)), hag 43 (Or.inl (by decide)), hag 44 (Or.inl (by decide))]; exact hl
  have G : Mm D κ A ad1 (celM κ ad1 (LR κ ad1 (outv x res.2) res.1) z) s H locs := G.same (fun j => (LM_eq j).trans (LM_mv hag j))
  refine lv_istore (pc := 621) (lv' := [(5, .int (codeOf 2 res.2)), (4, .int (nI (3 * j))), (0, .ref bs), (1, .ref (ad1 50)), (2, .ref (ad1 43)), (3, .ref (ad1 44))]) X.1 X.2.1 dL_law_621 hl (by decide) rfl (fun ls hl => ?_)
  refine lv_aload_n (pc := 623) X.1 X.2.1 dL_law_623 rfl (lv_at hl 4 rfl) ?_
  refine lv_aload_n (pc := 624) X.1 X.2.1 dL_law_624 rfl (lv_at hl 2 rfl) ?_
  refine lv_iload (pc := 625) X.1 X.2.1 dL_law_625 (lv_at hl 1 rfl) ?_
  refine lv_iconst (pc := 627) (v := 1) X.1 X.2.1 dL_law_627 (by decide) ?_
  refine lv_iadd (pc := 628) X.1 X.2.1 dL_law_628 ?_
  rw [show nI (3 * j) + 1 = nI (3 * j + 1) from nI_add _ 1]
  refine va_sld (pc := 629) X.1 X.2.1 hX hbl hbA G.2.2.2.2.1 (vp_in_nI (by omega) (by omega)) dL_law_629 ?_
  rw [nI_clamp (by omega)]
  refine M_calli (pc := 630) (z1 := z1) (v := v) (As := [.int (xs (3 * j + 1))]) (rest := []) X G (rm := rm8_keep) rfl rfl (c8_keep l D κ A ad1 (LR κ ad1 (outv x res.2) res.1) z (xs (3 * j + 1)) (z1, v) e8) g_L_121 hdL_yX8_keep ⟨Nat.le_of_ble_eq_true rfl, Nat.le_of_ble_eq_true rfl⟩ rfl hl rfl (lv_room (Nat.le_of_ble_eq_true rfl)) dL_law_630 ⟨by show cells + 6 ≤ 601024; omega, by show slots + 41 ≤ 7293034; omega⟩ (fun H locs G => ?_)
  refine lv_istore (pc := 633) (lv' := [(6, .int v), (5, .int (codeOf 2 res.2)), (4, .int (nI (3 * j))), (0, .ref bs), (1, .ref (ad1 50)), (2, .ref (ad1 43)), (3, .ref (ad1 44))]) X.1 X.2.1 dL_law_633 hl (by decide) rfl (fun ls hl => ?_)
  refine lv_aload_n (pc := 635) X.1 X.2.1 dL_law_635 rfl (lv_at hl 5 rfl) ?_
  refine M_calli (pc := 636) (z1 := z1) (v := z1 43 7) (As := []) (rest := []) X G (rm := rm8_thrown) rfl rfl (c8_thrown l D κ A ad1 (LR κ ad1 (outv x res.2) res.1) z1 (z1 43 7) F8_thrown_eq) g_L_85 hdL_yX8_thrown ⟨Nat.le_of_ble_eq_true rfl, Nat.le_of_ble_eq_true rfl⟩ rfl hl rfl (lv_room (Nat.le_of_ble_eq_true rfl)) dL_law_636 ⟨by show cells + 6 ≤ 601024; omega, by show slots + 41 ≤ 7293034; omega⟩ (fun H locs G => ?_)
  refine lv_iload (pc := 639) X.1 X.2.1 dL_law_639 (lv_at hl 1 rfl) ?_
  refine lv_icmp_eq (pc := 641) (tgt := 646) X.1 X.2.1 dL_law_641 (by decide) (fun hq => ?_) (fun hq => absurd hth hq)
  refine lv_iload (pc := 646) X.1 X.2.1 dL_law_646 (lv_at hl 1 rfl) ?_
  have G9 : Mm D κ A ad1 (LM κ ad1 z1 (outv x res.2) res.1) s H locs := G.same (fun j => (LM_eq j).symm)
  refine lv_if_ne (pc := 648) (tgt := 663) X.1 X.2.1 dL_law_648 (by decide) (fun hq => ?_) (fun hq => ?_)
  · refine lv_goto (pc := 663) (tgt := 1341) X.1 X.2.1 dL_law_663 (by decide) ?_
    exact kk ad1 z1 (outv x res.2) res.1 _ _ H locs ls hI (by show cells + 6 ≤ _; omega) (by show slots + 41 ≤ _; omega) G9 (lv_sub hl [2, 3, 4, 5, 6] rfl)
  · obtain ⟨w, hw⟩ := code0 hq
    have hx : outv x res.2 = v.toInt64 := by rw [hw, ← hv w hw]; rfl
    refine lv_aload_n (pc := 651) X.1 X.2.1 dL_law_651 rfl (lv_at hl 6 rfl) ?_
    refine lv_iconst (pc := 652) (v := 0) X.1 X.2.1 dL_law_652 (by decide) ?_
    refine m_laldO (pc := 653) (i := 44) X G rfl LR_44 dL_law_653 ?_
    refine lv_iload (pc := 654) X.1 X.2.1 dL_law_654 (lv_at hl 0 rfl) ?_
    refine lv_i2l (pc := 656) X.1 X.2.1 dL_law_656 rfl ?_
    refine W.lcmp (pc := 657) X.1 X.2.1 dL_law_657 ?_
    refine lv_if_eq (pc := 658) (tgt := 663) X.1 X.2.1 dL_law_658 (by decide) (fun hq => ?_) (fun hq => absurd (by rw [hx]; unfold lg_cmp; simp) hq)
    refine lv_goto (pc := 663) (tgt := 1341) X.1 X.2.1 dL_law_663 (by decide) ?_
    exact kk ad1 z1 (outv x res.2) res.1 _ _ H locs ls hI (by show cells + 6 ≤ _; omega) (by show slots + 41 ≤ _; omega) G9 (lv_sub hl [2, 3, 4, 5, 6] rfl)
theorem gL_goBack : GoodIn G0 (va_wsS RL 122 yL_goBack (gwh yL_goBack cL_goBack 4 (some .int) [(0, 9, 12, 15), (0, 9, 15, 20)])) := gwh_in ml_L_122 sm_yL_goBack ini_L cw_yL_goBack
theorem hsL_goBack : yL_goBack.cls ≠ "java/lang/invoke/MethodHandle" ∧ yL_goBack.cls ≠ "java/lang/invoke/VarHandle" ∧ (parseMethodDescriptor yL_goBack.desc).map (fun d => d.parameters.length) = some 3 := by decide +kernel
theorem g_L_124 : GoodIn G0 (wsV RL 124 RX8 yX8_goBack (gw yX8_goBack cX8_goBack 3 (some (FieldType.int)))) := gv_in ml_L_124 im_yX8_goBack se_yX8_goBack ini_X8 cd_yX8_goBack
theorem hdL_yX8_goBack : yX8_goBack.cls = RX8 ∧ yX8_goBack.cls ≠ "java/lang/invoke/MethodHandle" ∧ yX8_goBack.cls ≠ "java/lang/invoke/VarHandle" ∧ (parseMethodDescriptor yX8_goBack.desc).map (fun d => d.parameters.length) = some 1 := by decide +kernel
set_option maxHeartbeats 4000000 in
set_option maxRecDepth 100000 in
theorem law_goBack (X : CallFix p m c cL_law 9 s args G0 RL) (hfl : l.stackTraces = false) (hX : va_X bs L xs s s.heap) (hbl : bs < s.heap.size) (hbA : ¬ A bs) (hL : 3 * j + 3 ≤ L ∧ L ≤ 1536) (G : Mm D κ A ad (LM κ ad z x b) s H locs) (hl : lv_has ls 9 [(4, .int (nI (3 * j))), (0, .ref bs), (1, .ref (ad 50)), (2, .ref (ad 43)), (3, .ref (ad 44))]) (hc : cells + 9 ≤ 601024) (hs : slots + 605 ≤ 7293034) (hok : okT Inv (F7_goBack b (xs (3 * j + 1))) (F8_goBack z (xs (3 * j + 1))) [2, 3]) (kk : ∀ (ad : Nat → Nat) (z : MS) (x : Int64) (b : BS) (cells' slots' : Nat) (H : Heap) (locs : List Loc) (ls : Array Slot), Inv z b → cells' ≤ cells + 9 → slots' ≤ slots + 605 → Mm D κ A ad (LM κ ad z x b) s H locs → lv_has ls 9 [(4, .int (nI (3 * j))), (0, .ref bs), (1, .ref (ad 50)), (2, .ref (ad 43)), (3, .ref (ad 44))] → W p l e room_1 s m args below meth c H locs cells' slots' Q (F0 m 1341 ls [])) : W p l e room_1 s m args below meth c H locs cells slots Q (F0 m 666 ls []) := by
  obtain ⟨res, z1, v, e7, e8, hk, hth, hv, hI⟩ := hok
  refine lv_aload_n (pc := 666) X.1 X.2.1 dL_law_666 rfl (lv_at hl 2 rfl) ?_
  refine lv_aload_n (pc := 667) X.1 X.2.1 dL_law_667 rfl (lv_at hl 1 rfl) ?_
  refine lv_iload (pc := 668) X.1 X.2.1 dL_law_668 (lv_at hl 0 rfl) ?_
  refine lv_iconst (pc := 670) (v := 1) X.1 X.2.1 dL_law_670 (by decide) ?_
  refine lv_iadd (pc := 671) X.1 X.2.1 dL_law_671 ?_
  rw [show nI (3 * j) + 1 = nI (3 * j + 1) from nI_add _ 1]
  refine va_sld (pc := 672) X.1 X.2.1 hX hbl hbA G.2.2.2.2.1 (vp_in_nI (by omega) (by omega)) dL_law_672 ?_
  rw [nI_clamp (by omega)]
  refine lv_aload_n (pc := 673) X.1 X.2.1 dL_law_673 rfl (lv_at hl 4 rfl) ?_
  refine m_callW (pc := 674) (As := [.ref (ad 50), .int (xs (3 * j + 1)), .ref (ad 44)]) (rest := []) X G (rm := rmL_goBack) rfl rfl (wgoBack l hfl D κ A ad (celM κ ad nuM z) x b (xs (3 * j + 1)) res e7 (fun k h => by have q := hk k h; simpa using q)) gL_goBack hsL_goBack ⟨Nat.le_of_ble_eq_true rfl, Nat.le_of_ble_eq_true rfl⟩ rfl hl rfl (lv_room (Nat.le_of_ble_eq_true rfl)) dL_law_674 ⟨by show cells + 6 ≤ 601024; omega, by show slots + 41 ≤ 7293034; omega⟩ (fun ad1 H locs hag G => ?_)
  have hl : lv_has ls 9 [(4, .int (nI (3 * j))), (0, .ref bs), (1, .ref (ad1 50)), (2, .ref (ad1 43)), (3, .ref (ad1 44))] := by rw [hag 50 (Or.inl (by decide)), hag 43 (Or.inl (by decide)), hag 44 (Or.inl (by decide))]; exact hl
  have G : Mm D κ A ad1 (celM κ ad1 (LR κ ad1 (outv x res.2) res.1) z) s H locs := G.same (fun j => (LM_eq j).trans (LM_mv hag j))
  refine lv_istore (pc := 677) (lv' := [(5, .int (codeOf 2 res.2)), (4, .int (nI (3 * j))), (0, .ref bs), (1, .ref (ad1 50)), (2, .ref (ad1 43)), (3, .ref (ad1 44))]) X.1 X.2.1 dL_law_677 hl (by decide) rfl (fun ls hl => ?_)
  refine lv_aload_n (pc := 679) X.1 X.2.1 dL_law_679 rfl (lv_at hl 4 rfl) ?_
  refine lv_aload_n (pc := 680) X.1 X.2.1 dL_law_680 rfl (lv_at hl 2 rfl) ?_
  refine lv_iload (pc := 681) X.1 X.2.1 dL_law_681 (lv_at hl 1 rfl) ?_
  refine lv_iconst (pc := 683) (v := 1) X.1 X.2.1 dL_law_683 (by decide) ?_
  refine lv_iadd (pc := 684) X.1 X.2.1 dL_law_684 ?_
  rw [show nI (3 * j) + 1 = nI (3 * j + 1) from nI_add _ 1]
  refine va_sld (pc := 685) X.1 X.2.1 hX hbl hbA G.2.2.2.2.1 (vp_in_nI (by omega) (by omega)) dL_law_685 ?_
  rw [nI_clamp (by omega)]
  refine M_calli (pc := 686) (z1 := z1) (v := v) (As := [.int (xs (3 * j + 1))]) (rest := []) X G (rm := rm8_goBack) rfl rfl (c8_goBack l D κ A ad1 (LR κ ad1 (outv x res.2) res.1) z (xs (3 * j + 1)) (z1, v) e8) g_L_124 hdL_yX8_goBack ⟨Nat.le_of_ble_eq_true rfl, Nat.le_of_ble_eq_true rfl⟩ rfl hl rfl (lv_room (Nat.le_of_ble_eq_true rfl)) dL_law_686 ⟨by show cells + 6 ≤ 601024; omega, by show slots + 41 ≤ 7293034; omega⟩ (fun H locs G => ?_)
  refine lv_istore (pc := 689) (lv' := [(6, .int v), (5, .int (codeOf 2 res.2)), (4, .int (nI (3 * j))), (0, .ref bs), (1, .ref (ad1 50)), (2, .ref (ad1 43)), (3, .ref (ad1 44))]) X.1 X.2.1 dL_law_689 hl (by decide) rfl (fun ls hl => ?_)
  refine lv_aload_n (pc := 691) X.1 X.2.1 dL_law_691 rfl (lv_at hl 5 rfl) ?_
  refine M_calli (pc := 692) (z1 := z1) (v := z1 43 7) (As := []) (rest := []) X G (rm := rm8_thrown) rfl rfl (c8_thrown l D κ A ad1 (LR κ ad1 (outv x res.2) res.1) z1 (z1 43 7) F8_thrown_eq) g_L_85 hdL_yX8_thrown ⟨Nat.le_of_ble_eq_true rfl, Nat.le_of_ble_eq_true rfl⟩ rfl hl rfl (lv_room (Nat.le_of_ble_eq_true rfl)) dL_law_692 ⟨by show cells + 6 ≤ 601024; omega, by show slots + 41 ≤ 7293034; omega⟩ (fun H locs G => ?_)
  refine lv_iload (pc := 695) X.1 X.2.1 dL_law_695 (lv_at hl 1 rfl) ?_
  refine lv_icmp_eq (pc := 697) (tgt := 702) X.1 X.2.1 dL_law_697 (by decide) (fun hq => ?_) (fun hq => absurd hth hq)
  refine lv_iload (pc := 702) X.1 X.2.1 dL_law_702 (lv_at hl 1 rfl) ?_
  have G9 : Mm D κ A ad1 (LM κ ad1 z1 (outv x res.2) res.1) s H locs := G.same (fun j => (LM_eq j).symm)
  refine lv_if_ne (pc := 704) (tgt := 719) X.1 X.2.1 dL_law_704 (by decide) (fun hq => ?_) (fun hq => ?_)
  · refine lv_goto (pc := 719) (tgt := 1341) X.1 X.2.1 dL_law_719 (by decide) ?_
    exact kk ad1 z1 (outv x res.2) res.1 _ _ H locs ls hI (by show cells + 6 ≤ _; omega) (by show slots + 41 ≤ _; omega) G9 (lv_sub hl [2, 3, 4, 5, 6] rfl)
  · obtain ⟨w, hw⟩ := code0 hq
    have hx : outv x res.2 = v.toInt64 := by rw [hw, ← hv w hw]; rfl
    refine lv_aload_n (pc := 707) X.1 X.2.1 dL_law_707 rfl (lv_at hl 6 rfl) ?_
    refine lv_iconst (pc := 708) (v := 0) X.1 X.2.1 dL_law_708 (by decide) ?_
    refine m_laldO (pc := 709) (i := 44) X G rfl LR_44 dL_law_709 ?_
    refine lv_iload (pc := 710) X.1 X.2.1 dL_law_710 (lv_at hl 0 rfl) ?_
    refine lv_i2l (pc := 712) X.1 X.2.1 dL_law_712 rfl ?_
    refine W.lcmp (pc := 713) X.1 X.2.1 dL_law_713 ?_
    refine lv_if_eq (pc := 714) (tgt := 719) X.1 X.2.1 dL_law_714 (by decide) (fun hq => ?_) (fun hq => absurd (by rw [hx]; unfold lg_cmp; simp) hq)
    refine lv_goto (pc := 719) (tgt := 1341) X.1 X.2.1 dL_law_719 (by decide) ?_
    exact kk ad1 z1 (outv x res.2) res.1 _ _ H locs ls hI (by show cells + 6 ≤ _; omega) (by show slots + 41 ≤ _; omega) G9 (lv_sub hl [2, 3, 4, 5, 6] rfl)
theorem gL_body : GoodIn G0 (va_wsS RL 125 yL_body (gwh yL_body cL_body 5 (some .int) [(0, 10, 13, 13), (0, 10, 17, 15)])) := gwh_in ml_L_125 sm_yL_body ini_L cw_yL_body
theorem hsL_body : yL_body.cls ≠ "java/lang/invoke/MethodHandle" ∧ yL_body.cls ≠ "java/lang/invoke/VarHandle" ∧ (parseMethodDescriptor yL_body.desc).map (fun d => d.parameters.length) = some 4 := by decide +kernel
theorem g_L_127 : GoodIn G0 (wsV RL 127 RX8 yX8_body (gw yX8_body cX8_body 3 (some (FieldType.int)))) := gv_in ml_L_127 im_yX8_body se_yX8_body ini_X8 cd_yX8_body
theorem hdL_yX8_body : yX8_body.cls = RX8 ∧ yX8_body.cls ≠ "java/lang/invoke/MethodHandle" ∧ yX8_body.cls ≠ "java/lang/invoke/VarHandle" ∧ (parseMethodDescriptor yX8_body.desc).map (fun d => d.parameters.length) = some 2 := by decide +kernel
set_option maxHeartbeats 4000000 in
set_option maxRecDepth 100000 in
theorem law_body (X : CallFix p m c cL_law 9 s args G0 RL) (hfl : l.stackTraces = false) (hX : va_X bs L xs s s.heap) (hbl : bs < s.heap.size) (hbA : ¬ A bs) (hL : 3 * j + 3 ≤ L ∧ L ≤ 1536) (G : Mm D κ A ad (LM κ ad z x b) s H locs) (hl : lv_has ls 9 [(4, .int (nI (3 * j))), (0, .ref bs), (1, .ref (ad 50)), (2, .ref (ad 43)), (3, .ref (ad 44))]) (hc : cells + 9 ≤ 601024) (hs : slots + 605 ≤ 7293034) (hok : okT Inv (F7_body b (xs (3 * j + 1)) (xs (3 * j + 2))) (F8_body z (xs (3 * j + 1)) (xs (3 * j + 2))) [1, 2]) (kk : ∀ (ad : Nat → Nat) (z : MS) (x : Int64) (b : BS) (cells' slots' : Nat) (H : Heap) (locs : List Loc) (ls : Array Slot), Inv z b → cells' ≤ cells + 9 → slots' ≤ slots + 605 → Mm D κ A ad (LM κ ad z x b) s H locs → lv_has ls 9 [(4, .int (nI (3 * j))), (0, .ref bs), (1, .ref (ad 50)), (2, .ref (ad 43)), (3, .ref (ad 44))] → W p l e room_1 s m args below meth c H locs cells' slots' Q (F0 m 1341 ls [])) : W p l e room_1 s m args below meth c H locs cells slots Q (F0 m 722 ls []) := by
  obtain ⟨res, z1, v, e7, e8, hk, hth, hv, hI⟩ := hok
  refine lv_aload_n (pc := 722) X.1 X.2.1 dL_law_722 rfl (lv_at hl 2 rfl) ?_
  refine lv_aload_n (pc := 723) X.1 X.2.1 dL_law_723 rfl (lv_at hl 1 rfl) ?_
  refine lv_iload (pc := 724) X.1 X.2.1 dL_law_724 (lv_at hl 0 rfl) ?_
  refine lv_iconst (pc := 726) (v := 1) X.1 X.2.1 dL_law_726 (by decide) ?_
  refine lv_iadd (pc := 727) X.1 X.2.1 dL_law_727 ?_
  rw [show nI (3 * j) + 1 = nI (3 * j + 1) from nI_add _ 1]
  refine va_sld (pc := 728) X.1 X.2.1 hX hbl hbA G.2.2.2.2.1 (vp_in_nI (by omega) (by omega)) dL_law_728 ?_
  rw [nI_clamp (by omega)]
  refine lv_aload_n (pc := 729) X.1 X.2.1 dL_law_729 rfl (lv_at hl 1 rfl) ?_
  refine lv_iload (pc := 730) X.1 X.2.1 dL_law_730 (lv_at hl 0 rfl) ?_
  refine lv_iconst (pc := 732) (v := 2) X.1 X.2.1 dL_law_732 (by decide) ?_
  refine lv_iadd (pc := 733) X.1 X.2.1 dL_law_733 ?_
  rw [show nI (3 * j) + 2 = nI (3 * j + 2) from nI_add _ 2]
  refine va_sld (pc := 734) X.1 X.2.1 hX hbl hbA G.2.2.2.2.1 (vp_in_nI (by omega) (by omega)) dL_law_734 ?_
  rw [nI_clamp (by omega)]
  refine lv_aload_n (pc := 735) X.1 X.2.1 dL_law_735 rfl (lv_at hl 4 rfl) ?_
  refine m_callW (pc := 736) (As := [.ref (ad 50), .int (xs (3 * j + 1)), .int (xs (3 * j + 2)), .ref (ad 44)]) (rest := []) X G (rm := rmL_body) rfl rfl (wbody l hfl D κ A ad (celM κ ad nuM z) x b (xs (3 * j + 1)) (xs (3 * j + 2)) res e7 (fun k h => by have q := hk k h; simpa using q)) gL_body hsL_body ⟨Nat.le_of_ble_eq_true rfl, Nat.le_of_ble_eq_true rfl⟩ rfl hl rfl (lv_room (Nat.le_of_ble_eq_true rfl)) dL_law_736 ⟨by show cells + 2 ≤ 601024; omega, by show slots + 12 ≤ 7293034; omega⟩ (fun ad1 H locs hag G => ?_)
  have hl : lv_has ls 9 [(4, .int (nI (3 * j))), (0, .ref bs), (1, .ref (ad1 50)), (2, .ref (ad1 43)), (3, .ref (ad1 44))] := by rw [hag 50 (Or.inl (by decide)), hag 43 (Or.inl (by decide)), hag 44 (Or.inl (by decide))]; exact hl
  have G : Mm D κ A ad1 (celM κ ad1 (LR κ ad1 (outv x res.2) res.1) z) s H locs := G.same (fun j => (LM_eq j).trans (LM_mv hag j))
  refine lv_istore (pc := 739) (lv' := [(5, .int (codeOf 1 res.2)), (4, .int (nI (3 * j))), (0, .ref bs), (1, .ref (ad1 50)), (2, .ref (ad1 43)), (3, .ref (ad1 44))]) X.1 X.2.1 dL_law_739 hl (by decide) rfl (fun ls hl => ?_)
  refine lv_aload_n (pc := 741) X.1 X.2.1 dL_law_741 rfl (lv_at hl 4 rfl) ?_
  refine lv_aload_n (pc := 742) X.1 X.2.1 dL_law_742 rfl (lv_at hl 2 rfl) ?_
  refine lv_iload (pc := 743) X.1 X.2.1 dL_law_743 (lv_at hl 1 rfl) ?_
  refine lv_iconst (pc := 745) (v := 1) X.1 X.2.1 dL_law_745 (by decide) ?_
  refine lv_iadd (pc := 746) X.1 X.2.1 dL_law_746 ?_
  rw [show nI (3 * j) + 1 = nI (3 * j + 1) from nI_add _ 1]
  refine va_sld (pc := 747) X.1 X.2.1 hX hbl hbA G.2.2.2.2.1 (vp_in_nI (by omega) (by omega)) dL_law_747 ?_
  rw [nI_clamp (by omega)]
  refine lv_aload_n (pc := 748) X.1 X.2.1 dL_law_748 rfl (lv_at hl 2 rfl) ?_
  refine lv_iload (pc := 749) X.1 X.2.1 dL_law_749 (lv_at hl 1 rfl) ?_
  refine lv_iconst (pc := 751) (v := 2) X.1 X.2.1 dL_law_751 (by decide) ?_
  refine lv_iadd (pc := 752) X.1 X.2.1 dL_law_752 ?_
  rw [show nI (3 * j) + 2 = nI (3 * j + 2) from nI_add _ 2]
  refine va_sld (pc := 753) X.1 X.2.1 hX hbl hbA G.2.2.2.2.1 (vp_in_nI (by omega) (by omega)) dL_law_753 ?_
  rw [nI_clamp (by omega)]
  refine M_calli (pc := 754) (z1 := z1) (v := v) (As := [.int (xs (3 * j + 1)), .int (xs (3 * j + 2))]) (rest := []) X G (rm := rm8_body) rfl rfl (c8_body l D κ A ad1 (LR κ ad1 (outv x res.2) res.1) z (xs (3 * j + 1)) (xs (3 * j + 2)) (z1, v) e8) g_L_127 hdL_yX8_body ⟨Nat.le_of_ble_eq_true rfl, Nat.le_of_ble_eq_true rfl⟩ rfl hl rfl (lv_room (Nat.le_of_ble_eq_true rfl)) dL_law_754 ⟨by show cells + 2 ≤ 601024; omega, by show slots + 12 ≤ 7293034; omega⟩ (fun H locs G => ?_)
  refine lv_istore (pc := 757) (lv' := [(6, .int v), (5, .int (codeOf 1 res.2)), (4, .int (nI (3 * j))), (0, .ref bs), (1, .ref (ad1 50)), (2, .ref (ad1 43)), (3, .ref (ad1 44))]) X.1 X.2.1 dL_law_757 hl (by decide) rfl (fun ls hl => ?_)
  refine lv_aload_n (pc := 759) X.1 X.2.1 dL_law_759 rfl (lv_at hl 5 rfl) ?_
  refine M_calli (pc := 760) (z1 := z1) (v := z1 43 7) (As := []) (rest := []) X G (rm := rm8_thrown) rfl rfl (c8_thrown l D κ A ad1 (LR κ ad1 (outv x res.2) res.1) z1 (z1 43 7) F8_thrown_eq) g_L_85 hdL_yX8_thrown ⟨Nat.le_of_ble_eq_true rfl, Nat.le_of_ble_eq_true rfl⟩ rfl hl rfl (lv_room (Nat.le_of_ble_eq_true rfl)) dL_law_760 ⟨by show cells + 2 ≤ 601024; omega, by show slots + 12 ≤ 7293034; omega⟩ (fun H locs G => ?_)
  refine lv_iload (pc := 763) X.1 X.2.1 dL_law_763 (lv_at hl 1 rfl) ?_
  refine lv_icmp_eq (pc := 765) (tgt := 770) X.1 X.2.1 dL_law_765 (by decide) (fun hq => ?_) (fun hq => absurd hth hq)
  refine lv_iload (pc := 770) X.1 X.2.1 dL_law_770 (lv_at hl 1 rfl) ?_
  have G9 : Mm D κ A ad1 (LM κ ad1 z1 (outv x res.2) res.1) s H locs := G.same (fun j => (LM_eq j).symm)
  refine lv_if_ne (pc := 772) (tgt := 787) X.1 X.2.1 dL_law_772 (by decide) (fun hq => ?_) (fun hq => ?_)
  · refine lv_goto (pc := 787) (tgt := 1341) X.1 X.2.1 dL_law_787 (by decide) ?_
    exact kk ad1 z1 (outv x res.2) res.1 _ _ H locs ls hI (by show cells + 2 ≤ _; omega) (by show slots + 12 ≤ _; omega) G9 (lv_sub hl [2, 3, 4, 5, 6] rfl)
  · obtain ⟨w, hw⟩ := code0 hq
    have hx : outv x res.2 = v.toInt64 := by rw [hw, ← hv w hw]; rfl
    refine lv_aload_n (pc := 775) X.1 X.2.1 dL_law_775 rfl (lv_at hl 6 rfl) ?_
    refine lv_iconst (pc := 776) (v := 0) X.1 X.2.1 dL_law_776 (by decide) ?_
    refine m_laldO (pc := 777) (i := 44) X G rfl LR_44 dL_law_777 ?_
    refine lv_iload (pc := 778) X.1 X.2.1 dL_law_778 (lv_at hl 0 rfl) ?_
    refine lv_i2l (pc := 780) X.1 X.2.1 dL_law_780 rfl ?_
    refine W.lcmp (pc := 781) X.1 X.2.1 dL_law_781 ?_
    refine lv_if_eq (pc := 782) (tgt := 787) X.1 X.2.1 dL_law_782 (by decide) (fun hq => ?_) (fun hq => absurd (by rw [hx]; unfold lg_cmp; simp) hq)
    refine lv_goto (pc := 787) (tgt := 1341) X.1 X.2.1 dL_law_787 (by decide) ?_
    exact kk ad1 z1 (outv x res.2) res.1 _ _ H locs ls hI (by show cells + 2 ≤ _; omega) (by show slots + 12 ≤ _; omega) G9 (lv_sub hl [2, 3, 4, 5, 6] rfl)
theorem gL_uses : GoodIn G0 (va_wsS RL 128 yL_uses (gwh yL_uses cL_uses 5 (some .int) [(0, 10, 13, 13), (0, 10, 17, 15)])) := gwh_in ml_L_128 sm_yL_uses ini_L cw_yL_uses
theorem hsL_uses : yL_uses.cls ≠ "java/lang/invoke/MethodHandle" ∧ yL_uses.cls ≠ "java/lang/invoke/VarHandle" ∧ (parseMethodDescriptor yL_uses.desc).map (fun d => d.parameters.length) = some 4 := by decide +kernel
theorem g_L_130 : GoodIn G0 (wsV RL 130 RX8 yX8_uses (gw yX8_uses cX8_uses 3 (some (FieldType.int)))) := gv_in ml_L_130 im_yX8_uses se_yX8_uses ini_X8 cd_yX8_uses
theorem hdL_yX8_uses : yX8_uses.cls = RX8 ∧ yX8_uses.cls ≠ "java/lang/invoke/MethodHandle" ∧ yX8_uses.cls ≠ "java/lang/invoke/VarHandle" ∧ (parseMethodDescriptor yX8_uses.desc).map (fun d => d.parameters.length) = some 2 := by decide +kernel
set_option maxHeartbeats 4000000 in
set_option maxRecDepth 100000 in
theorem law_uses (X : CallFix p m c cL_law 9 s args G0 RL) (hfl : l.stackTraces = false) (hX : va_X bs L xs s s.heap) (hbl : bs < s.heap.size) (hbA : ¬ A bs) (hL : 3 * j + 3 ≤ L ∧ L ≤ 1536) (G : Mm D κ A ad (LM κ ad z x b) s H locs) (hl : lv_has ls 9 [(4, .int (nI (3 * j))), (0, .ref bs), (1, .ref (ad 50)), (2, .ref (ad 43)), (3, .ref (ad 44))]) (hc : cells + 9 ≤ 601024) (hs : slots + 605 ≤ 7293034) (hok : okT Inv (F7_uses b (xs (3 * j + 1)) (xs (3 * j + 2))) (F8_uses z (xs (3 * j + 1)) (xs (3 * j + 2))) [1, 2]) (kk : ∀ (ad : Nat → Nat) (z : MS) (x : Int64) (b : BS) (cells' slots' : Nat) (H : Heap) (locs : List Loc) (ls : Array Slot), Inv z b → cells' ≤ cells + 9 → slots' ≤ slots + 605 → Mm D κ A ad (LM κ ad z x b) s H locs → lv_has ls 9 [(4, .int (nI (3 * j))), (0, .ref bs), (1, .ref (ad 50)), (2, .ref (ad 43)), (3, .ref (ad 44))] → W p l e room_1 s m args below meth c H locs cells' slots' Q (F0 m 1341 ls [])) : W p l e room_1 s m args below meth c H locs cells slots Q (F0 m 790 ls []) := by
  obtain ⟨res, z1, v, e7, e8, hk, hth, hv, hI⟩ := hok
  refine lv_aload_n (pc := 790) X.1 X.2.1 dL_law_790 rfl (lv_at hl 2 rfl) ?_
  refine lv_aload_n (pc := 791) X.1 X.2.1 dL_law_791 rfl (lv_at hl 1 rfl) ?_
  refine lv_iload (pc := 792) X.1 X.2.1 dL_law_792 (lv_at hl 0 rfl) ?_
  refine lv_iconst (pc := 794) (v := 1) X.1 X.2.1 dL_law_794 (by decide) ?_
  refine lv_iadd (pc := 795) X.1 X.2.1 dL_law_795 ?_
  rw [show nI (3 * j) + 1 = nI (3 * j + 1) from nI_add _ 1]
  refine va_sld (pc := 796) X.1 X.2.1 hX hbl hbA G.2.2.2.2.1 (vp_in_nI (by omega) (by omega)) dL_law_796 ?_
  rw [nI_clamp (by omega)]
  refine lv_aload_n (pc := 797) X.1 X.2.1 dL_law_797 rfl (lv_at hl 1 rfl) ?_
  refine lv_iload (pc := 798) X.1 X.2.1 dL_law_798 (lv_at hl 0 rfl) ?_
  refine lv_iconst (pc := 800) (v := 2) X.1 X.2.1 dL_law_800 (by decide) ?_
  refine lv_iadd (pc := 801) X.1 X.2.1 dL_law_801 ?_
  rw [show nI (3 * j) + 2 = nI (3 * j + 2) from nI_add _ 2]
  refine va_sld (pc := 802) X.1 X.2.1 hX hbl hbA G.2.2.2.2.1 (vp_in_nI (by omega) (by omega)) dL_law_802 ?_
  rw [nI_clamp (by omega)]
  refine lv_aload_n (pc := 803) X.1 X.2.1 dL_law_803 rfl (lv_at hl 4 rfl) ?_
  refine m_callW (pc := 804) (As := [.ref (ad 50), .int (xs (3 * j + 1)), .int (xs (3 * j + 2)), .ref (ad 44)]) (rest := []) X G (rm := rmL_uses) rfl rfl (wuses l hfl D κ A ad (celM κ ad nuM z) x b (xs (3 * j + 1)) (xs (3 * j + 2)) res e7 (fun k h => by have q := hk k h; simpa using q)) gL_uses hsL_uses ⟨Nat.le_of_ble_eq_true rfl, Nat.le_of_ble_eq_true rfl⟩ rfl hl rfl (lv_room (Nat.le_of_ble_eq_true rfl)) dL_law_804 ⟨by show cells + 2 ≤ 601024; omega, by show slots + 12 ≤ 7293034; omega⟩ (fun ad1 H locs hag G => ?_)
  have hl : lv_has ls 9 [(4, .int (nI (3 * j))), (0, .ref bs), (1, .ref (ad1 50)), (2, .ref (ad1 43)), (3, .ref (ad1 44))] := by rw [hag 50 (Or.inl (by decide)), hag 43 (Or.inl (by decide)), hag 44 (Or.inl (by decide))]; exact hl
  have G : Mm D κ A ad1 (celM κ ad1 (LR κ ad1 (outv x res.2) res.1) z) s H locs := G.same (fun j => (LM_eq j).trans (LM_mv hag j))
  refine lv_istore (pc := 807) (lv' := [(5, .int (codeOf 1 res.2)), (4, .int (nI (3 * j))), (0, .ref bs), (1, .ref (ad1 50)), (2, .ref (ad1 43)), (3, .ref (ad1 44))]) X.1 X.2.1 dL_law_807 hl (by decide) rfl (fun ls hl => ?_)
  refine lv_aload_n (pc := 809) X.1 X.2.1 dL_law_809 rfl (lv_at hl 4 rfl) ?_
  refine lv_aload_n (pc := 810) X.1 X.2.1 dL_law_810 rfl (lv_at hl 2 rfl) ?_
  refine lv_iload (pc := 811) X.1 X.2.1 dL_law_811 (lv_at hl 1 rfl) ?_
  refine lv_iconst (pc := 813) (v := 1) X.1 X.2.1 dL_law_813 (by decide) ?_
  refine lv_iadd (pc := 814) X.1 X.2.1 dL_law_814 ?_
  rw [show nI (3 * j) + 1 = nI (3 * j + 1) from nI_add _ 1]
  refine va_sld (pc := 815) X.1 X.2.1 hX hbl hbA G.2.2.2.2.1 (vp_in_nI (by omega) (by omega)) dL_law_815 ?_
  rw [nI_clamp (by omega)]
  refine lv_aload_n (pc := 816) X.1 X.2.1 dL_law_816 rfl (lv_at hl 2 rfl) ?_
  refine lv_iload (pc := 817) X.1 X.2.1 dL_law_817 (lv_at hl 1 rfl) ?_
  refine lv_iconst (pc := 819) (v := 2) X.1 X.2.1 dL_law_819 (by decide) ?_
  refine lv_iadd (pc := 820) X.1 X.2.1 dL_law_820 ?_
  rw [show nI (3 * j) + 2 = nI (3 * j + 2) from nI_add _ 2]
  refine va_sld (pc := 821) X.1 X.2.1 hX hbl hbA G.2.2.2.2.1 (vp_in_nI (by omega) (by omega)) dL_law_821 ?_
  rw [nI_clamp (by omega)]
  refine M_calli (pc := 822) (z1 := z1) (v := v) (As := [.int (xs (3 * j + 1)), .int (xs (3 * j + 2))]) (rest := []) X G (rm := rm8_uses) rfl rfl (c8_uses l D κ A ad1 (LR κ ad1 (outv x res.2) res.1) z (xs (3 * j + 1)) (xs (3 * j + 2)) (z1, v) e8) g_L_130 hdL_yX8_uses ⟨Nat.le_of_ble_eq_true rfl, Nat.le_of_ble_eq_true rfl⟩ rfl hl rfl (lv_room (Nat.le_of_ble_eq_true rfl)) dL_law_822 ⟨by show cells + 2 ≤ 601024; omega, by show slots + 12 ≤ 7293034; omega⟩ (fun H locs G => ?_)
  refine lv_istore (pc := 825) (lv' := [(6, .int v), (5, .int (codeOf 1 res.2)), (4, .int (nI (3 * j))), (0, .ref bs), (1, .ref (ad1 50)), (2, .ref (ad1 43)), (3, .ref (ad1 44))]) X.1 X.2.1 dL_law_825 hl (by decide) rfl (fun ls hl => ?_)
  refine lv_aload_n (pc := 827) X.1 X.2.1 dL_law_827 rfl (lv_at hl 5 rfl) ?_
  refine M_calli (pc := 828) (z1 := z1) (v := z1 43 7) (As := []) (rest := []) X G (rm := rm8_thrown) rfl rfl (c8_thrown l D κ A ad1 (LR κ ad1 (outv x res.2) res.1) z1 (z1 43 7) F8_thrown_eq) g_L_85 hdL_yX8_thrown ⟨Nat.le_of_ble_eq_true rfl, Nat.le_of_ble_eq_true rfl⟩ rfl hl rfl (lv_room (Nat.le_of_ble_eq_true rfl)) dL_law_828 ⟨by show cells + 2 ≤ 601024; omega, by show slots + 12 ≤ 7293034; omega⟩ (fun H locs G => ?_)
  refine lv_iload (pc := 831) X.1 X.2.1 dL_law_831 (lv_at hl 1 rfl) ?_
  refine lv_icmp_eq (pc := 833) (tgt := 838) X.1 X.2.1 dL_law_833 (by decide) (fun hq => ?_) (fun hq => absurd hth hq)
  refine lv_iload (pc := 838) X.1 X.2.1 dL_law_838 (lv_at hl 1 rfl) ?_
  have G9 : Mm D κ A ad1 (LM κ ad1 z1 (outv x res.2) res.1) s H locs := G.same (fun j => (LM_eq j).symm)
  refine lv_if_ne (pc := 840) (tgt := 855) X.1 X.2.1 dL_law_840 (by decide) (fun hq => ?_) (fun hq => ?_)
  · refine lv_goto (pc := 855) (tgt := 1341) X.1 X.2.1 dL_law_855 (by decide) ?_
    exact kk ad1 z1 (outv x res.2) res.1 _ _ H locs ls hI (by show cells + 2 ≤ _; omega) (by show slots + 12 ≤ _; omega) G9 (lv_sub hl [2, 3, 4, 5, 6] rfl)
  · obtain ⟨w, hw⟩ := code0 hq
    have hx : outv x res.2 = v.toInt64 := by rw [hw, ← hv w hw]; rfl
    refine lv_aload_n (pc := 843) X.1 X.2.1 dL_law_843 rfl (lv_at hl 6 rfl) ?_
    refine lv_iconst (pc := 844) (v := 0) X.1 X.2.1 dL_law_844 (by decide) ?_
    refine m_laldO (pc := 845) (i := 44) X G rfl LR_44 dL_law_845 ?_
    refine lv_iload (pc := 846) X.1 X.2.1 dL_law_846 (lv_at hl 0 rfl) ?_
    refine lv_i2l (pc := 848) X.1 X.2.1 dL_law_848 rfl ?_
    refine W.lcmp (pc := 849) X.1 X.2.1 dL_law_849 ?_
    refine lv_if_eq (pc := 850) (tgt := 855) X.1 X.2.1 dL_law_850 (by decide) (fun hq => ?_) (fun hq => absurd (by rw [hx]; unfold lg_cmp; simp) hq)
    refine lv_goto (pc := 855) (tgt := 1341) X.1 X.2.1 dL_law_855 (by decide) ?_
    exact kk ad1 z1 (outv x res.2) res.1 _ _ H locs ls hI (by show cells + 2 ≤ _; omega) (by show slots + 12 ≤ _; omega) G9 (lv_sub hl [2, 3, 4, 5, 6] rfl)
theorem g_L_131 : GoodIn G0 (wsV RL 131 RX7 yX7_rings (gw yX7_rings cX7_rings 1 (some (FieldType.int)))) := gv_in ml_L_131 im_yX7_rings se_yX7_rings ini_X7 cd_yX7_rings
theorem hdL_yX7_rings : yX7_rings.cls = RX7 ∧ yX7_rings.cls ≠ "java/lang/invoke/MethodHandle" ∧ yX7_rings.cls ≠ "java/lang/invoke/VarHandle" ∧ (parseMethodDescriptor yX7_rings.desc).map (fun d => d.parameters.length) = some 0 := by decide +kernel
theorem g_L_134 : GoodIn G0 (wsV RL 134 RX8 yX8_rings (gw yX8_rings cX8_rings 1 (some (FieldType.int)))) := gv_in ml_L_134 im_yX8_rings se_yX8_rings ini_X8 cd_yX8_rings
theorem hdL_yX8_rings : yX8_rings.cls = RX8 ∧ yX8_rings.cls ≠ "java/lang/invoke/MethodHandle" ∧ yX8_rings.cls ≠ "java/lang/invoke/VarHandle" ∧ (parseMethodDescriptor yX8_rings.desc).map (fun d => d.parameters.length) = some 0 := by decide +kernel
set_option maxHeartbeats 4000000 in
set_option maxRecDepth 100000 in
theorem law_rings (X : CallFix p m c cL_law 9 s args G0 RL) (hfl : l.stackTraces = false) (hX : va_X bs L xs s s.heap) (hbl : bs < s.heap.size) (hbA : ¬ A bs) (hL : 3 * j + 3 ≤ L ∧ L ≤ 1536) (G : Mm D κ A ad (LM κ ad z x b) s H locs) (hl : lv_has ls 9 [(4, .int (nI (3 * j))), (0, .ref bs), (1, .ref (ad 50)), (2, .ref (ad 43)), (3, .ref (ad 44))]) (hc : cells + 9 ≤ 601024) (hs : slots + 605 ≤ 7293034) (hok : okP Inv (F7_rings b) (F8_rings z)) (kk : ∀ (ad : Nat → Nat) (z : MS) (x : Int64) (b : BS) (cells' slots' : Nat) (H : Heap) (locs : List Loc) (ls : Array Slot), Inv z b → cells' ≤ cells + 9 → slots' ≤ slots + 605 → Mm D κ A ad (LM κ ad z x b) s H locs → lv_has ls 9 [(4, .int (nI (3 * j))), (0, .ref bs), (1, .ref (ad 50)), (2, .ref (ad 43)), (3, .ref (ad 44))] → W p l e room_1 s m args below meth c H locs cells' slots' Q (F0 m 1341 ls [])) : W p l e room_1 s m args below meth c H locs cells slots Q (F0 m 858 ls []) := by
  obtain ⟨b1, z1, v, e7, e8, hI⟩ := hok
  refine lv_aload_n (pc := 858) X.1 X.2.1 dL_law_858 rfl (lv_at hl 2 rfl) ?_
  refine B_calli (pc := 859) (v := v) (M' := celB κ ad (celO κ (celM κ ad nuM z) x) b1) (i := 50) (As := []) (rest := []) X G (rm := rm7_rings) rfl rfl rfl (c7_rings l D κ A ad (celO κ (celM κ ad nuM z) x) b (b1, v) e7) (B_rcv (ci := 7) (okL50 _) (by decide)) rfl g_L_131 hdL_yX7_rings ⟨Nat.le_of_ble_eq_true rfl, Nat.le_of_ble_eq_true rfl⟩ rfl hl rfl (lv_room (Nat.le_of_ble_eq_true rfl)) dL_law_859 ⟨by show cells ≤ 601024; omega, by show slots ≤ 7293034; omega⟩ (fun H locs G => ?_)
  have G : Mm D κ A ad (celM κ ad (LR κ ad x b1) z) s H locs := G.same (fun j => LM_eq j)
  refine lv_aload_n (pc := 862) X.1 X.2.1 dL_law_862 rfl (lv_at hl 3 rfl) ?_
  refine M_calli (pc := 863) (z1 := z1) (v := v) (As := []) (rest := [.int v]) X G (rm := rm8_rings) rfl rfl (c8_rings l D κ A ad (LR κ ad x b1) z (z1, v) e8) g_L_134 hdL_yX8_rings ⟨Nat.le_of_ble_eq_true rfl, Nat.le_of_ble_eq_true rfl⟩ rfl hl rfl (lv_room (Nat.le_of_ble_eq_true rfl)) dL_law_863 ⟨by show cells ≤ 601024; omega, by show slots ≤ 7293034; omega⟩ (fun H locs G => ?_)
  refine lv_icmp_eq (pc := 866) (tgt := 1341) X.1 X.2.1 dL_law_866 (by decide) (fun hq => ?_) (fun hq => absurd rfl hq)
  exact kk ad z1 x b1 _ _ H locs ls hI (by omega) (by omega) (G.same (fun j => (LM_eq j).symm)) hl
theorem g_L_135 : GoodIn G0 (wsV RL 135 RX7 yX7_missing (gw yX7_missing cX7_missing 1 (some (FieldType.int)))) := gv_in ml_L_135 im_yX7_missing se_yX7_missing ini_X7 cd_yX7_missing
theorem hdL_yX7_missing : yX7_missing.cls = RX7 ∧ yX7_missing.cls ≠ "java/lang/invoke/MethodHandle" ∧ yX7_missing.cls ≠ "java/lang/invoke/VarHandle" ∧ (parseMethodDescriptor yX7_missing.desc).map (fun d => d.parameters.length) = some 0 := by decide +kernel
theorem g_L_138 : GoodIn G0 (wsV RL 138 RX8 yX8_missing (gw yX8_missing cX8_missing 3 (some (FieldType.int)))) := gv_in ml_L_138 im_yX8_missing se_yX8_missing ini_X8 cd_yX8_missing
theorem hdL_yX8_missing : yX8_missing.cls = RX8 ∧ yX8_missing.cls ≠ "java/lang/invoke/MethodHandle" ∧ yX8_missing.cls ≠ "java/lang/invoke/VarHandle" ∧ (parseMethodDescriptor yX8_missing.desc).map (fun d => d.parameters.length) = some 0 := by decide +kernel
set_option maxHeartbeats 4000000 in
set_option maxRecDepth 100000 in
theorem law_missing (X : CallFix p m c cL_law 9 s args G0 RL) (hfl : l.stackTraces = false) (hX : va_X bs L xs s s.heap) (hbl : bs < s.heap.size) (hbA : ¬ A bs) (hL : 3 * j + 3 ≤ L ∧ L ≤ 1536) (G : Mm D κ A ad (LM κ ad z x b) s H locs) (hl : lv_has ls 9 [(4, .int (nI (3 * j))), (0, .ref bs), (1, .ref (ad 50)), (2, .ref (ad 43)), (3, .ref (ad 44))]) (hc : cells + 9 ≤ 601024) (hs : slots + 605 ≤ 7293034) (hok : okP Inv (F7_missing b) (F8_missing z)) (kk : ∀ (ad : Nat → Nat) (z : MS) (x : Int64) (b : BS) (cells' slots' : Nat) (H : Heap) (locs : List Loc) (ls : Array Slot), Inv z b → cells' ≤ cells + 9 → slots' ≤ slots + 605 → Mm D κ A ad (LM κ ad z x b) s H locs → lv_has ls 9 [(4, .int (nI (3 * j))), (0, .ref bs), (1, .ref (ad 50)), (2, .ref (ad 43)), (3, .ref (ad 44))] → W p l e room_1 s m args below meth c H locs cells' slots' Q (F0 m 1341 ls [])) : W p l e room_1 s m args below meth c H locs cells slots Q (F0 m 871 ls []) := by
  obtain ⟨b1, z1, v, e7, e8, hI⟩ := hok
  refine lv_aload_n (pc := 871) X.1 X.2.1 dL_law_871 rfl (lv_at hl 2 rfl) ?_
  refine B_calli (pc := 872) (v := v) (M' := celB κ ad (celO κ (celM κ ad nuM z) x) b1) (i := 50) (As := []) (rest := []) X G (rm := rm7_missing) rfl rfl rfl (c7_missing l D κ A ad (celO κ (celM κ ad nuM z) x) b (b1, v) e7) (B_rcv (ci := 7) (okL50 _) (by decide)) rfl g_L_135 hdL_yX7_missing ⟨Nat.le_of_ble_eq_true rfl, Nat.le_of_ble_eq_true rfl⟩ rfl hl rfl (lv_room (Nat.le_of_ble_eq_true rfl)) dL_law_872 ⟨by show cells ≤ 601024; omega, by show slots ≤ 7293034; omega⟩ (fun H locs G => ?_)
  have G : Mm D κ A ad (celM κ ad (LR κ ad x b1) z) s H locs := G.same (fun j => LM_eq j)
  refine lv_aload_n (pc := 875) X.1 X.2.1 dL_law_875 rfl (lv_at hl 3 rfl) ?_
  refine M_calli (pc := 876) (z1 := z1) (v := v) (As := []) (rest := [.int v]) X G (rm := rm8_missing) rfl rfl (c8_missing l D κ A ad (LR κ ad x b1) z (z1, v) e8) g_L_138 hdL_yX8_missing ⟨Nat.le_of_ble_eq_true rfl, Nat.le_of_ble_eq_true rfl⟩ rfl hl rfl (lv_room (Nat.le_of_ble_eq_true rfl)) dL_law_876 ⟨by show cells ≤ 601024; omega, by show slots ≤ 7293034; omega⟩ (fun H locs G => ?_)
  refine lv_icmp_eq (pc := 879) (tgt := 1341) X.1 X.2.1 dL_law_879 (by decide) (fun hq => ?_) (fun hq => absurd rfl hq)
  exact kk ad z1 x b1 _ _ H locs ls hI (by omega) (by omega) (G.same (fun j => (LM_eq j).symm)) hl
theorem gL_chain : GoodIn G0 (va_wsS RL 139 yL_chain (gwh yL_chain cL_chain 4 (some .int) [(0, 9, 12, 13)])) := gwh_in ml_L_139 sm_yL_chain ini_L cw_yL_chain
theorem hsL_chain : yL_chain.cls ≠ "java/lang/invoke/MethodHandle" ∧ yL_chain.cls ≠ "java/lang/invoke/VarHandle" ∧ (parseMethodDescriptor yL_chain.desc).map (fun d => d.parameters.length) = some 3 := by decide +kernel
theorem g_L_141 : GoodIn G0 (wsV RL 141 RX8 yX8_chain (gw yX8_chain cX8_chain 7 (some (FieldType.int)))) := gv_in ml_L_141 im_yX8_chain se_yX8_chain ini_X8 cd_yX8_chain
theorem hdL_yX8_chain : yX8_chain.cls = RX8 ∧ yX8_chain.cls ≠ "java/lang/invoke/MethodHandle" ∧ yX8_chain.cls ≠ "java/lang/invoke/VarHandle" ∧ (parseMethodDescriptor yX8_chain.desc).map (fun d => d.parameters.length) = some 1 := by decide +kernel
set_option maxHeartbeats 4000000 in
set_option maxRecDepth 100000 in
theorem law_chain (X : CallFix p m c cL_law 9 s args G0 RL) (hfl : l.stackTraces = false) (hX : va_X bs L xs s s.heap) (hbl : bs < s.heap.size) (hbA : ¬ A bs) (hL : 3 * j + 3 ≤ L ∧ L ≤ 1536) (G : Mm D κ A ad (LM κ ad z x b) s H locs) (hl : lv_has ls 9 [(4, .int (nI (3 * j))), (0, .ref bs), (1, .ref (ad 50)), (2, .ref (ad 43)), (3, .ref (ad 44))]) (hc : cells + 9 ≤ 601024) (hs : slots + 605 ≤ 7293034) (hok : okT Inv (F7_chain b (xs (3 * j + 1))) (F8_chain z (xs (3 * j + 1))) [1]) (kk : ∀ (ad : Nat → Nat) (z : MS) (x : Int64) (b : BS) (cells' slots' : Nat) (H : Heap) (locs : List Loc) (ls : Array Slot), Inv z b → cells' ≤ cells + 9 → slots' ≤ slots + 605 → Mm D κ A ad (LM κ ad z x b) s H locs → lv_has ls 9 [(4, .int (nI (3 * j))), (0, .ref bs), (1, .ref (ad 50)), (2, .ref (ad 43)), (3, .ref (ad 44))] → W p l e room_1 s m args below meth c H locs cells' slots' Q (F0 m 1341 ls [])) : W p l e room_1 s m args below meth c H locs cells slots Q (F0 m 884 ls []) := by
  obtain ⟨res, z1, v, e7, e8, hk, hth, hv, hI⟩ := hok
  refine lv_aload_n (pc := 884) X.1 X.2.1 dL_law_884 rfl (lv_at hl 2 rfl) ?_
  refine lv_aload_n (pc := 885) X.1 X.2.1 dL_law_885 rfl (lv_at hl 1 rfl) ?_
  refine lv_iload (pc := 886) X.1 X.2.1 dL_law_886 (lv_at hl 0 rfl) ?_
  refine lv_iconst (pc := 888) (v := 1) X.1 X.2.1 dL_law_888 (by decide) ?_
  refine lv_iadd (pc := 889) X.1 X.2.1 dL_law_889 ?_
  rw [show nI (3 * j) + 1 = nI (3 * j + 1) from nI_add _ 1]
  refine va_sld (pc := 890) X.1 X.2.1 hX hbl hbA G.2.2.2.2.1 (vp_in_nI (by omega) (by omega)) dL_law_890 ?_
  rw [nI_clamp (by omega)]
  refine lv_aload_n (pc := 891) X.1 X.2.1 dL_law_891 rfl (lv_at hl 4 rfl) ?_
  refine m_callW (pc := 892) (As := [.ref (ad 50), .int (xs (3 * j + 1)), .ref (ad 44)]) (rest := []) X G (rm := rmL_chain) rfl rfl (wchain l hfl D κ A ad (celM κ ad nuM z) x b (xs (3 * j + 1)) res e7 (fun k h => by have q := hk k h; simpa using q)) gL_chain hsL_chain ⟨Nat.le_of_ble_eq_true rfl, Nat.le_of_ble_eq_true rfl⟩ rfl hl rfl (lv_room (Nat.le_of_ble_eq_true rfl)) dL_law_892 ⟨by show cells + 1 ≤ 601024; omega, by show slots + 6 ≤ 7293034; omega⟩ (fun ad1 H locs hag G => ?_)
  have hl : lv_has ls 9 [(4, .int (nI (3 * j))), (0, .ref bs), (1, .ref (ad1 50)), (2, .ref (ad1 43)), (3, .ref (ad1 44))] := by rw [hag 50 (Or.inl (by decide)), hag 43 (Or.inl (by decide)), hag 44 (Or.inl (by decide))]; exact hl
  have G : Mm D κ A ad1 (celM κ ad1 (LR κ ad1 (outv x res.2) res.1) z) s H locs := G.same (fun j => (LM_eq j).trans (LM_mv hag j))
  refine lv_istore (pc := 895) (lv' := [(5, .int (codeOf 1 res.2)), (4, .int (nI (3 * j))), (0, .ref bs), (1, .ref (ad1 50)), (2, .ref (ad1 43)), (3, .ref (ad1 44))]) X.1 X.2.1 dL_law_895 hl (by decide) rfl (fun ls hl => ?_)
  refine lv_aload_n (pc := 897) X.1 X.2.1 dL_law_897 rfl (lv_at hl 4 rfl) ?_
  refine lv_aload_n (pc := 898) X.1 X.2.1 dL_law_898 rfl (lv_at hl 2 rfl) ?_
  refine lv_iload (pc := 899) X.1 X.2.1 dL_law_899 (lv_at hl 1 rfl) ?_
  refine lv_iconst (pc := 901) (v := 1) X.1 X.2.1 dL_law_901 (by decide) ?_
  refine lv_iadd (pc := 902) X.1 X.2.1 dL_law_902 ?_
  rw [show nI (3 * j) + 1 = nI (3 * j + 1) from nI_add _ 1]
  refine va_sld (pc := 903) X.1 X.2.1 hX hbl hbA G.2.2.2.2.1 (vp_in_nI (by omega) (by omega)) dL_law_903 ?_
  rw [nI_clamp (by omega)]
  refine M_calli (pc := 904) (z1 := z1) (v := v) (As := [.int (xs (3 * j + 1))]) (rest := []) X G (rm := rm8_chain) rfl rfl (c8_chain l D κ A ad1 (LR κ ad1 (outv x res.2) res.1) z (xs (3 * j + 1)) (z1, v) e8) g_L_141 hdL_yX8_chain ⟨Nat.le_of_ble_eq_true rfl, Nat.le_of_ble_eq_true rfl⟩ rfl hl rfl (lv_room (Nat.le_of_ble_eq_true rfl)) dL_law_904 ⟨by show cells + 1 ≤ 601024; omega, by show slots + 6 ≤ 7293034; omega⟩ (fun H locs G => ?_)
  refine lv_istore (pc := 907) (lv' := [(6, .int v), (5, .int (codeOf 1 res.2)), (4, .int (nI (3 * j))), (0, .ref bs), (1, .ref (ad1 50)), (2, .ref (ad1 43)), (3, .ref (ad1 44))]) X.1 X.2.1 dL_law_907 hl (by decide) rfl (fun ls hl => ?_)
  refine lv_aload_n (pc := 909) X.1 X.2.1 dL_law_909 rfl (lv_at hl 5 rfl) ?_
  refine M_calli (pc := 910) (z1 := z1) (v := z1 43 7) (As := []) (rest := []) X G (rm := rm8_thrown) rfl rfl (c8_thrown l D κ A ad1 (LR κ ad1 (outv x res.2) res.1) z1 (z1 43 7) F8_thrown_eq) g_L_85 hdL_yX8_thrown ⟨Nat.le_of_ble_eq_true rfl, Nat.le_of_ble_eq_true rfl⟩ rfl hl rfl (lv_room (Nat.le_of_ble_eq_true rfl)) dL_law_910 ⟨by show cells + 1 ≤ 601024; omega, by show slots + 6 ≤ 7293034; omega⟩ (fun H locs G => ?_)
  refine lv_iload (pc := 913) X.1 X.2.1 dL_law_913 (lv_at hl 1 rfl) ?_
  refine lv_icmp_eq (pc := 915) (tgt := 920) X.1 X.2.1 dL_law_915 (by decide) (fun hq => ?_) (fun hq => absurd hth hq)
  refine lv_iload (pc := 920) X.1 X.2.1 dL_law_920 (lv_at hl 1 rfl) ?_
  have G9 : Mm D κ A ad1 (LM κ ad1 z1 (outv x res.2) res.1) s H locs := G.same (fun j => (LM_eq j).symm)
  refine lv_if_ne (pc := 922) (tgt := 937) X.1 X.2.1 dL_law_922 (by decide) (fun hq => ?_) (fun hq => ?_)
  · refine lv_goto (pc := 937) (tgt := 1341) X.1 X.2.1 dL_law_937 (by decide) ?_
    exact kk ad1 z1 (outv x res.2) res.1 _ _ H locs ls hI (by show cells + 1 ≤ _; omega) (by show slots + 6 ≤ _; omega) G9 (lv_sub hl [2, 3, 4, 5, 6] rfl)
  · obtain ⟨w, hw⟩ := code0 hq
    have hx : outv x res.2 = v.toInt64 := by rw [hw, ← hv w hw]; rfl
    refine lv_aload_n (pc := 925) X.1 X.2.1 dL_law_925 rfl (lv_at hl 6 rfl) ?_
    refine lv_iconst (pc := 926) (v := 0) X.1 X.2.1 dL_law_926 (by decide) ?_
    refine m_laldO (pc := 927) (i := 44) X G rfl LR_44 dL_law_927 ?_
    refine lv_iload (pc := 928) X.1 X.2.1 dL_law_928 (lv_at hl 0 rfl) ?_
    refine lv_i2l (pc := 930) X.1 X.2.1 dL_law_930 rfl ?_
    refine W.lcmp (pc := 931) X.1 X.2.1 dL_law_931 ?_
    refine lv_if_eq (pc := 932) (tgt := 937) X.1 X.2.1 dL_law_932 (by decide) (fun hq => ?_) (fun hq => absurd (by rw [hx]; unfold lg_cmp; simp) hq)
    refine lv_goto (pc := 937) (tgt := 1341) X.1 X.2.1 dL_law_937 (by decide) ?_
    exact kk ad1 z1 (outv x res.2) res.1 _ _ H locs ls hI (by show cells + 1 ≤ _; omega) (by show slots + 6 ≤ _; omega) G9 (lv_sub hl [2, 3, 4, 5, 6] rfl)
theorem gL_ifDefined : GoodIn G0 (va_wsS RL 142 yL_ifDefined (gwh yL_ifDefined cL_ifDefined 4 (some .int) [(0, 9, 12, 13), (0, 9, 15, 15)])) := gwh_in ml_L_142 sm_yL_ifDefined ini_L cw_yL_ifDefined
theorem hsL_ifDefined : yL_ifDefined.cls ≠ "java/lang/invoke/MethodHandle" ∧ yL_ifDefined.cls ≠ "java/lang/invoke/VarHandle" ∧ (parseMethodDescriptor yL_ifDefined.desc).map (fun d => d.parameters.length) = some 3 := by decide +kernel
theorem g_L_144 : GoodIn G0 (wsV RL 144 RX8 yX8_ifDefined (gw yX8_ifDefined cX8_ifDefined 5 (some (FieldType.int)))) := gv_in ml_L_144 im_yX8_ifDefined se_yX8_ifDefined ini_X8 cd_yX8_ifDefined
theorem hdL_yX8_ifDefined : yX8_ifDefined.cls = RX8 ∧ yX8_ifDefined.cls ≠ "java/lang/invoke/MethodHandle" ∧ yX8_ifDefined.cls ≠ "java/lang/invoke/VarHandle" ∧ (parseMethodDescriptor yX8_ifDefined.desc).map (fun d => d.parameters.length) = some 1 := by decide +kernel
set_option maxHeartbeats 4000000 in
set_option maxRecDepth 100000 in
theorem law_ifDefined (X : CallFix p m c cL_law 9 s args G0 RL) (hfl : l.stackTraces = false) (hX : va_X bs L xs s s.heap) (hbl : bs < s.heap.size) (hbA : ¬ A bs) (hL : 3 * j + 3 ≤ L ∧ L ≤ 1536) (G : Mm D κ A ad (LM κ ad z x b) s H locs) (hl : lv_has ls 9 [(4, .int (nI (3 * j))), (0, .ref bs), (1, .ref (ad 50)), (2, .ref (ad 43)), (3, .ref (ad 44))]) (hc : cells + 9 ≤ 601024) (hs : slots + 605 ≤ 7293034) (hok : okT Inv (F7_ifDefined b (xs (3 * j + 1))) (F8_ifDefined z (xs (3 * j + 1))) [1, 2]) (kk : ∀ (ad : Nat → Nat) (z : MS) (x : Int64) (b : BS) (cells' slots' : Nat) (H : Heap) (locs : List Loc) (ls : Array Slot), Inv z b → cells' ≤ cells + 9 → slots' ≤ slots + 605 → Mm D κ A ad (LM κ ad z x b) s H locs → lv_has ls 9 [(4, .int (nI (3 * j))), (0, .ref bs), (1, .ref (ad 50)), (2, .ref (ad 43)), (3, .ref (ad 44))] → W p l e room_1 s m args below meth c H locs cells' slots' Q (F0 m 1341 ls [])) : W p l e room_1 s m args below meth c H locs cells slots Q (F0 m 940 ls []) := by
  obtain ⟨res, z1, v, e7, e8, hk, hth, hv, hI⟩ := hok
  refine lv_aload_n (pc := 940) X.1 X.2.1 dL_law_940 rfl (lv_at hl 2 rfl) ?_
  refine lv_aload_n (pc := 941) X.1 X.2.1 dL_law_941 rfl (lv_at hl 1 rfl) ?_
  refine lv_iload (pc := 942) X.1 X.2.1 dL_law_942 (lv_at hl 0 rfl) ?_
  refine lv_iconst (pc := 944) (v := 1) X.1 X.2.1 dL_law_944 (by decide) ?_
  refine lv_iadd (pc := 945) X.1 X.2.1 dL_law_945 ?_
  rw [show nI (3 * j) + 1 = nI (3 * j + 1) from nI_add _ 1]
  refine va_sld (pc := 946) X.1 X.2.1 hX hbl hbA G.2.2.2.2.1 (vp_in_nI (by omega) (by omega)) dL_law_946 ?_
  rw [nI_clamp (by omega)]
  refine lv_aload_n (pc := 947) X.1 X.2.1 dL_law_947 rfl (lv_at hl 4 rfl) ?_
  refine m_callW (pc := 948) (As := [.ref (ad 50), .int (xs (3 * j + 1)), .ref (ad 44)]) (rest := []) X G (rm := rmL_ifDefined) rfl rfl (wifDefined l hfl D κ A ad (celM κ ad nuM z) x b (xs (3 * j + 1)) res e7 (fun k h => by have q := hk k h; simpa using q)) gL_ifDefined hsL_ifDefined ⟨Nat.le_of_ble_eq_true rfl, Nat.le_of_ble_eq_true rfl⟩ rfl hl rfl (lv_room (Nat.le_of_ble_eq_true rfl)) dL_law_948 ⟨by show cells + 2 ≤ 601024; omega, by show slots + 12 ≤ 7293034; omega⟩ (fun ad1 H locs hag G => ?_)
  have hl : lv_has ls 9 [(4, .int (nI (3 * j))), (0, .ref bs), (1, .ref (ad1 50)), (2, .ref (ad1 43)), (3, .ref (ad1 44))] := by rw [hag 50 (Or.inl (by decide)), hag 43 (Or.inl (by decide)), hag 44 (Or.inl (by decide))]; exact hl
  have G : Mm D κ A ad1 (celM κ ad1 (LR κ ad1 (outv x res.2) res.1) z) s H locs := G.same (fun j => (LM_eq j).trans (LM_mv hag j))
  refine lv_istore (pc := 951) (lv' := [(5, .int (codeOf 1 res.2)), (4, .int (nI (3 * j))), (0, .ref bs), (1, .ref (ad1 50)), (2, .ref (ad1 43)), (3, .ref (ad1 44))]) X.1 X.2.1 dL_law_951 hl (by decide) rfl (fun ls hl => ?_)
  refine lv_aload_n (pc := 953) X.1 X.2.1 dL_law_953 rfl (lv_at hl 4 rfl) ?_
  refine lv_aload_n (pc := 954) X.1 X.2.1 dL_law_954 rfl (lv_at hl 2 rfl) ?_
  refine lv_iload (pc := 955) X.1 X.2.1 dL_law_955 (lv_at hl 1 rfl) ?_
  refine lv_iconst (pc := 957) (v := 1) X.1 X.2.1 dL_law_957 (by decide) ?_
  refine lv_iadd (pc := 958) X.1 X.2.1 dL_law_958 ?_
  rw [show nI (3 * j) + 1 = nI (3 * j + 1) from nI_add _ 1]
  refine va_sld (pc := 959) X.1 X.2.1 hX hbl hbA G.2.2.2.2.1 (vp_in_nI (by omega) (by omega)) dL_law_959 ?_
  rw [nI_clamp (by omega)]
  refine M_calli (pc := 960) (z1 := z1) (v := v) (As := [.int (xs (3 * j + 1))]) (rest := []) X G (rm := rm8_ifDefined) rfl rfl (c8_ifDefined l D κ A ad1 (LR κ ad1 (outv x res.2) res.1) z (xs (3 * j + 1)) (z1, v) e8) g_L_144 hdL_yX8_ifDefined ⟨Nat.le_of_ble_eq_true rfl, Nat.le_of_ble_eq_true rfl⟩ rfl hl rfl (lv_room (Nat.le_of_ble_eq_true rfl)) dL_law_960 ⟨by show cells + 2 ≤ 601024; omega, by show slots + 12 ≤ 7293034; omega⟩ (fun H locs G => ?_)
  refine lv_istore (pc := 963) (lv' := [(6, .int v), (5, .int (codeOf 1 res.2)), (4, .int (nI (3 * j))), (0, .ref bs), (1, .ref (ad1 50)), (2, .ref (ad1 43)), (3, .ref (ad1 44))]) X.1 X.2.1 dL_law_963 hl (by decide) rfl (fun ls hl => ?_)
  refine lv_aload_n (pc := 965) X.1 X.2.1 dL_law_965 rfl (lv_at hl 5 rfl) ?_
  refine M_calli (pc := 966) (z1 := z1) (v := z1 43 7) (As := []) (rest := []) X G (rm := rm8_thrown) rfl rfl (c8_thrown l D κ A ad1 (LR κ ad1 (outv x res.2) res.1) z1 (z1 43 7) F8_thrown_eq) g_L_85 hdL_yX8_thrown ⟨Nat.le_of_ble_eq_true rfl, Nat.le_of_ble_eq_true rfl⟩ rfl hl rfl (lv_room (Nat.le_of_ble_eq_true rfl)) dL_law_966 ⟨by show cells + 2 ≤ 601024; omega, by show slots + 12 ≤ 7293034; omega⟩ (fun H locs G => ?_)
  refine lv_iload (pc := 969) X.1 X.2.1 dL_law_969 (lv_at hl 1 rfl) ?_
  refine lv_icmp_eq (pc := 971) (tgt := 976) X.1 X.2.1 dL_law_971 (by decide) (fun hq => ?_) (fun hq => absurd hth hq)
  refine lv_iload (pc := 976) X.1 X.2.1 dL_law_976 (lv_at hl 1 rfl) ?_
  have G9 : Mm D κ A ad1 (LM κ ad1 z1 (outv x res.2) res.1) s H locs := G.same (fun j => (LM_eq j).symm)
  refine lv_if_ne (pc := 978) (tgt := 993) X.1 X.2.1 dL_law_978 (by decide) (fun hq => ?_) (fun hq => ?_)
  · refine lv_goto (pc := 993) (tgt := 1341) X.1 X.2.1 dL_law_993 (by decide) ?_
    exact kk ad1 z1 (outv x res.2) res.1 _ _ H locs ls hI (by show cells + 2 ≤ _; omega) (by show slots + 12 ≤ _; omega) G9 (lv_sub hl [2, 3, 4, 5, 6] rfl)
  · obtain ⟨w, hw⟩ := code0 hq
    have hx : outv x res.2 = v.toInt64 := by rw [hw, ← hv w hw]; rfl
    refine lv_aload_n (pc := 981) X.1 X.2.1 dL_law_981 rfl (lv_at hl 6 rfl) ?_
    refine lv_iconst (pc := 982) (v := 0) X.1 X.2.1 dL_law_982 (by decide) ?_
    refine m_laldO (pc := 983) (i := 44) X G rfl LR_44 dL_law_983 ?_
    refine lv_iload (pc := 984) X.1 X.2.1 dL_law_984 (lv_at hl 0 rfl) ?_
    refine lv_i2l (pc := 986) X.1 X.2.1 dL_law_986 rfl ?_
    refine W.lcmp (pc := 987) X.1 X.2.1 dL_law_987 ?_
    refine lv_if_eq (pc := 988) (tgt := 993) X.1 X.2.1 dL_law_988 (by decide) (fun hq => ?_) (fun hq => absurd (by rw [hx]; unfold lg_cmp; simp) hq)
    refine lv_goto (pc := 993) (tgt := 1341) X.1 X.2.1 dL_law_993 (by decide) ?_
    exact kk ad1 z1 (outv x res.2) res.1 _ _ H locs ls hI (by show cells + 2 ≤ _; omega) (by show slots + 12 ≤ _; omega) G9 (lv_sub hl [2, 3, 4, 5, 6] rfl)
theorem gL_sign : GoodIn G0 (va_wsS RL 145 yL_sign (gwh yL_sign cL_sign 4 (some .int) [(0, 9, 12, 15)])) := gwh_in ml_L_145 sm_yL_sign ini_L cw_yL_sign
theorem hsL_sign : yL_sign.cls ≠ "java/lang/invoke/MethodHandle" ∧ yL_sign.cls ≠ "java/lang/invoke/VarHandle" ∧ (parseMethodDescriptor yL_sign.desc).map (fun d => d.parameters.length) = some 3 := by decide +kernel
theorem g_L_147 : GoodIn G0 (wsV RL 147 RX8 yX8_sign (gw yX8_sign cX8_sign 2 (some (FieldType.int)))) := gv_in ml_L_147 im_yX8_sign se_yX8_sign ini_X8 cd_yX8_sign
theorem hdL_yX8_sign : yX8_sign.cls = RX8 ∧ yX8_sign.cls ≠ "java/lang/invoke/MethodHandle" ∧ yX8_sign.cls ≠ "java/lang/invoke/VarHandle" ∧ (parseMethodDescriptor yX8_sign.desc).map (fun d => d.parameters.length) = some 1 := by decide +kernel
set_option maxHeartbeats 4000000 in
set_option maxRecDepth 100000 in
theorem law_sign (X : CallFix p m c cL_law 9 s args G0 RL) (hfl : l.stackTraces = false) (hX : va_X bs L xs s s.heap) (hbl : bs < s.heap.size) (hbA : ¬ A bs) (hL : 3 * j + 3 ≤ L ∧ L ≤ 1536) (G : Mm D κ A ad (LM κ ad z x b) s H locs) (hl : lv_has ls 9 [(4, .int (nI (3 * j))), (0, .ref bs), (1, .ref (ad 50)), (2, .ref (ad 43)), (3, .ref (ad 44))]) (hc : cells + 9 ≤ 601024) (hs : slots + 605 ≤ 7293034) (hok : okT Inv (F7_sign b (xs (3 * j + 1))) (F8_sign z (xs (3 * j + 1))) [2]) (kk : ∀ (ad : Nat → Nat) (z : MS) (x : Int64) (b : BS) (cells' slots' : Nat) (H : Heap) (locs : List Loc) (ls : Array Slot), Inv z b → cells' ≤ cells + 9 → slots' ≤ slots + 605 → Mm D κ A ad (LM κ ad z x b) s H locs → lv_has ls 9 [(4, .int (nI (3 * j))), (0, .ref bs), (1, .ref (ad 50)), (2, .ref (ad 43)), (3, .ref (ad 44))] → W p l e room_1 s m args below meth c H locs cells' slots' Q (F0 m 1341 ls [])) : W p l e room_1 s m args below meth c H locs cells slots Q (F0 m 996 ls []) := by
  obtain ⟨res, z1, v, e7, e8, hk, hth, hv, hI⟩ := hok
  refine lv_aload_n (pc := 996) X.1 X.2.1 dL_law_996 rfl (lv_at hl 2 rfl) ?_
  refine lv_aload_n (pc := 997) X.1 X.2.1 dL_law_997 rfl (lv_at hl 1 rfl) ?_
  refine lv_iload (pc := 998) X.1 X.2.1 dL_law_998 (lv_at hl 0 rfl) ?_
  refine lv_iconst (pc := 1000) (v := 1) X.1 X.2.1 dL_law_1000 (by decide) ?_
  refine lv_iadd (pc := 1001) X.1 X.2.1 dL_law_1001 ?_
  rw [show nI (3 * j) + 1 = nI (3 * j + 1) from nI_add _ 1]
  refine va_sld (pc := 1002) X.1 X.2.1 hX hbl hbA G.2.2.2.2.1 (vp_in_nI (by omega) (by omega)) dL_law_1002 ?_
  rw [nI_clamp (by omega)]
  refine lv_aload_n (pc := 1003) X.1 X.2.1 dL_law_1003 rfl (lv_at hl 4 rfl) ?_
  refine m_callW (pc := 1004) (As := [.ref (ad 50), .int (xs (3 * j + 1)), .ref (ad 44)]) (rest := []) X G (rm := rmL_sign) rfl rfl (wsign l hfl D κ A ad (celM κ ad nuM z) x b (xs (3 * j + 1)) res e7 (fun k h => by have q := hk k h; simpa using q)) gL_sign hsL_sign ⟨Nat.le_of_ble_eq_true rfl, Nat.le_of_ble_eq_true rfl⟩ rfl hl rfl (lv_room (Nat.le_of_ble_eq_true rfl)) dL_law_1004 ⟨by show cells + 1 ≤ 601024; omega, by show slots + 6 ≤ 7293034; omega⟩ (fun ad1 H locs hag G => ?_)
  have hl : lv_has ls 9 [(4, .int (nI (3 * j))), (0, .ref bs), (1, .ref (ad1 50)), (2, .ref (ad1 43)), (3, .ref (ad1 44))] := by rw [hag 50 (Or.inl (by decide)), hag 43 (Or.inl (by decide)), hag 44 (Or.inl (by decide))]; exact hl
  have G : Mm D κ A ad1 (celM κ ad1 (LR κ ad1 (outv x res.2) res.1) z) s H locs := G.same (fun j => (LM_eq j).trans (LM_mv hag j))
  refine lv_istore (pc := 1007) (lv' := [(5, .int (codeOf 2 res.2)), (4, .int (nI (3 * j))), (0, .ref bs), (1, .ref (ad1 50)), (2, .ref (ad1 43)), (3, .ref (ad1 44))]) X.1 X.2.1 dL_law_1007 hl (by decide) rfl (fun ls hl => ?_)
  refine lv_aload_n (pc := 1009) X.1 X.2.1 dL_law_1009 rfl (lv_at hl 4 rfl) ?_
  refine lv_aload_n (pc := 1010) X.1 X.2.1 dL_law_1010 rfl (lv_at hl 2 rfl) ?_
  refine lv_iload (pc := 1011) X.1 X.2.1 dL_law_1011 (lv_at hl 1 rfl) ?_
  refine lv_iconst (pc := 1013) (v := 1) X.1 X.2.1 dL_law_1013 (by decide) ?_
  refine lv_iadd (pc := 1014) X.1 X.2.1 dL_law_1014 ?_
  rw [show nI (3 * j) + 1 = nI (3 * j + 1) from nI_add _ 1]
  refine va_sld (pc := 1015) X.1 X.2.1 hX hbl hbA G.2.2.2.2.1 (vp_in_nI (by omega) (by omega)) dL_law_1015 ?_
  rw [nI_clamp (by omega)]
  refine M_calli (pc := 1016) (z1 := z1) (v := v) (As := [.int (xs (3 * j + 1))]) (rest := []) X G (rm := rm8_sign) rfl rfl (c8_sign l D κ A ad1 (LR κ ad1 (outv x res.2) res.1) z (xs (3 * j + 1)) (z1, v) e8) g_L_147 hdL_yX8_sign ⟨Nat.le_of_ble_eq_true rfl, Nat.le_of_ble_eq_true rfl⟩ rfl hl rfl (lv_room (Nat.le_of_ble_eq_true rfl)) dL_law_1016 ⟨by show cells + 1 ≤ 601024; omega, by show slots + 6 ≤ 7293034; omega⟩ (fun H locs G => ?_)
  refine lv_istore (pc := 1019) (lv' := [(6, .int v), (5, .int (codeOf 2 res.2)), (4, .int (nI (3 * j))), (0, .ref bs), (1, .ref (ad1 50)), (2, .ref (ad1 43)), (3, .ref (ad1 44))]) X.1 X.2.1 dL_law_1019 hl (by decide) rfl (fun ls hl => ?_)
  refine lv_aload_n (pc := 1021) X.1 X.2.1 dL_law_1021 rfl (lv_at hl 5 rfl) ?_
  refine M_calli (pc := 1022) (z1 := z1) (v := z1 43 7) (As := []) (rest := []) X G (rm := rm8_thrown) rfl rfl (c8_thrown l D κ A ad1 (LR κ ad1 (outv x res.2) res.1) z1 (z1 43 7) F8_thrown_eq) g_L_85 hdL_yX8_thrown ⟨Nat.le_of_ble_eq_true rfl, Nat.le_of_ble_eq_true rfl⟩ rfl hl rfl (lv_room (Nat.le_of_ble_eq_true rfl)) dL_law_1022 ⟨by show cells + 1 ≤ 601024; omega, by show slots + 6 ≤ 7293034; omega⟩ (fun H locs G => ?_)
  refine lv_iload (pc := 1025) X.1 X.2.1 dL_law_1025 (lv_at hl 1 rfl) ?_
  refine lv_icmp_eq (pc := 1027) (tgt := 1032) X.1 X.2.1 dL_law_1027 (by decide) (fun hq => ?_) (fun hq => absurd hth hq)
  refine lv_iload (pc := 1032) X.1 X.2.1 dL_law_1032 (lv_at hl 1 rfl) ?_
  have G9 : Mm D κ A ad1 (LM κ ad1 z1 (outv x res.2) res.1) s H locs := G.same (fun j => (LM_eq j).symm)
  refine lv_if_ne (pc := 1034) (tgt := 1049) X.1 X.2.1 dL_law_1034 (by decide) (fun hq => ?_) (fun hq => ?_)
  · refine lv_goto (pc := 1049) (tgt := 1341) X.1 X.2.1 dL_law_1049 (by decide) ?_
    exact kk ad1 z1 (outv x res.2) res.1 _ _ H locs ls hI (by show cells + 1 ≤ _; omega) (by show slots + 6 ≤ _; omega) G9 (lv_sub hl [2, 3, 4, 5, 6] rfl)
  · obtain ⟨w, hw⟩ := code0 hq
    have hx : outv x res.2 = v.toInt64 := by rw [hw, ← hv w hw]; rfl
    refine lv_aload_n (pc := 1037) X.1 X.2.1 dL_law_1037 rfl (lv_at hl 6 rfl) ?_
    refine lv_iconst (pc := 1038) (v := 0) X.1 X.2.1 dL_law_1038 (by decide) ?_
    refine m_laldO (pc := 1039) (i := 44) X G rfl LR_44 dL_law_1039 ?_
    refine lv_iload (pc := 1040) X.1 X.2.1 dL_law_1040 (lv_at hl 0 rfl) ?_
    refine lv_i2l (pc := 1042) X.1 X.2.1 dL_law_1042 rfl ?_
    refine W.lcmp (pc := 1043) X.1 X.2.1 dL_law_1043 ?_
    refine lv_if_eq (pc := 1044) (tgt := 1049) X.1 X.2.1 dL_law_1044 (by decide) (fun hq => ?_) (fun hq => absurd (by rw [hx]; unfold lg_cmp; simp) hq)
    refine lv_goto (pc := 1049) (tgt := 1341) X.1 X.2.1 dL_law_1049 (by decide) ?_
    exact kk ad1 z1 (outv x res.2) res.1 _ _ H locs ls hI (by show cells + 1 ≤ _; omega) (by show slots + 6 ≤ _; omega) G9 (lv_sub hl [2, 3, 4, 5, 6] rfl)
theorem gL_result : GoodIn G0 (va_wsS RL 148 yL_result (gwh yL_result cL_result 4 (some .int) [(0, 9, 12, 15)])) := gwh_in ml_L_148 sm_yL_result ini_L cw_yL_result
theorem hsL_result : yL_result.cls ≠ "java/lang/invoke/MethodHandle" ∧ yL_result.cls ≠ "java/lang/invoke/VarHandle" ∧ (parseMethodDescriptor yL_result.desc).map (fun d => d.parameters.length) = some 3 := by decide +kernel
theorem g_L_150 : GoodIn G0 (wsV RL 150 RX8 yX8_result (gw yX8_result cX8_result 2 (some (FieldType.int)))) := gv_in ml_L_150 im_yX8_result se_yX8_result ini_X8 cd_yX8_result
theorem hdL_yX8_result : yX8_result.cls = RX8 ∧ yX8_result.cls ≠ "java/lang/invoke/MethodHandle" ∧ yX8_result.cls ≠ "java/lang/invoke/VarHandle" ∧ (parseMethodDescriptor yX8_result.desc).map (fun d => d.parameters.length) = some 1 := by decide +kernel
set_option maxHeartbeats 4000000 in
set_option maxRecDepth 100000 in
theorem law_result (X : CallFix p m c cL_law 9 s args G0 RL) (hfl : l.stackTraces = false) (hX : va_X bs L xs s s.heap) (hbl : bs < s.heap.size) (hbA : ¬ A bs) (hL : 3 * j + 3 ≤ L ∧ L ≤ 1536) (G : Mm D κ A ad (LM κ ad z x b) s H locs) (hl : lv_has ls 9 [(4, .int (nI (3 * j))), (0, .ref bs), (1, .ref (ad 50)), (2, .ref (ad 43)), (3, .ref (ad 44))]) (hc : cells + 9 ≤ 601024) (hs : slots + 605 ≤ 7293034) (hok : okT Inv (F7_result b (xs (3 * j + 1))) (F8_result z (xs (3 * j + 1))) [2]) (kk : ∀ (ad : Nat → Nat) (z : MS) (x : Int64) (b : BS) (cells' slots' : Nat) (H : Heap) (locs : List Loc) (ls : Array Slot), Inv z b → cells' ≤ cells + 9 → slots' ≤ slots + 605 → Mm D κ A ad (LM κ ad z x b) s H locs → lv_has ls 9 [(4, .int (nI (3 * j))), (0, .ref bs), (1, .ref (ad 50)), (2, .ref (ad 43)), (3, .ref (ad 44))] → W p l e room_1 s m args below meth c H locs cells' slots' Q (F0 m 1341 ls [])) : W p l e room_1 s m args below meth c H locs cells slots Q (F0 m 1052 ls []) := by
  obtain ⟨res, z1, v, e7, e8, hk, hth, hv, hI⟩ := hok
  refine lv_aload_n (pc := 1052) X.1 X.2.1 dL_law_1052 rfl (lv_at hl 2 rfl) ?_
  refine lv_aload_n (pc := 1053) X.1 X.2.1 dL_law_1053 rfl (lv_at hl 1 rfl) ?_
  refine lv_iload (pc := 1054) X.1 X.2.1 dL_law_1054 (lv_at hl 0 rfl) ?_
  refine lv_iconst (pc := 1056) (v := 1) X.1 X.2.1 dL_law_1056 (by decide) ?_
  refine lv_iadd (pc := 1057) X.1 X.2.1 dL_law_1057 ?_
  rw [show nI (3 * j) + 1 = nI (3 * j + 1) from nI_add _ 1]
  refine va_sld (pc := 1058) X.1 X.2.1 hX hbl hbA G.2.2.2.2.1 (vp_in_nI (by omega) (by omega)) dL_law_1058 ?_
  rw [nI_clamp (by omega)]
  refine lv_aload_n (pc := 1059) X.1 X.2.1 dL_law_1059 rfl (lv_at hl 4 rfl) ?_
  refine m_callW (pc := 1060) (As := [.ref (ad 50), .int (xs (3 * j + 1)), .ref (ad 44)]) (rest := []) X G (rm := rmL_result) rfl rfl (wresult l hfl D κ A ad (celM κ ad nuM z) x b (xs (3 * j + 1)) res e7 (fun k h => by have q := hk k h; simpa using q)) gL_result hsL_result ⟨Nat.le_of_ble_eq_true rfl, Nat.le_of_ble_eq_true rfl⟩ rfl hl rfl (lv_room (Nat.le_of_ble_eq_true rfl)) dL_law_1060 ⟨by show cells + 1 ≤ 601024; omega, by show slots + 6 ≤ 7293034; omega⟩ (fun ad1 H locs hag G => ?_)
  have hl : lv_has ls 9 [(4, .int (nI (3 * j))), (0, .ref bs), (1, .ref (ad1 50)), (2, .ref (ad1 43)), (3, .ref (ad1 44))] := by rw [hag 50 (Or.inl (by decide)), hag 43 (Or.inl (by decide)), hag 44 (Or.inl (by decide))]; exact hl
  have G : Mm D κ A ad1 (celM κ ad1 (LR κ ad1 (outv x res.2) res.1) z) s H locs := G.same (fun j => (LM_eq j).trans (LM_mv hag j))
  refine lv_istore (pc := 1063) (lv' := [(5, .int (codeOf 2 res.2)), (4, .int (nI (3 * j))), (0, .ref bs), (1, .ref (ad1 50)), (2, .ref (ad1 43)), (3, .ref (ad1 44))]) X.1 X.2.1 dL_law_1063 hl (by decide) rfl (fun ls hl => ?_)
  refine lv_aload_n (pc := 1065) X.1 X.2.1 dL_law_1065 rfl (lv_at hl 4 rfl) ?_
  refine lv_aload_n (pc := 1066) X.1 X.2.1 dL_law_1066 rfl (lv_at hl 2 rfl) ?_
  refine lv_iload (pc := 1067) X.1 X.2.1 dL_law_1067 (lv_at hl 1 rfl) ?_
  refine lv_iconst (pc := 1069) (v := 1) X.1 X.2.1 dL_law_1069 (by decide) ?_
  refine lv_iadd (pc := 1070) X.1 X.2.1 dL_law_1070 ?_
  rw [show nI (3 * j) + 1 = nI (3 * j + 1) from nI_add _ 1]
  refine va_sld (pc := 1071) X.1 X.2.1 hX hbl hbA G.2.2.2.2.1 (vp_in_nI (by omega) (by omega)) dL_law_1071 ?_
  rw [nI_clamp (by omega)]
  refine M_calli (pc := 1072) (z1 := z1) (v := v) (As := [.int (xs (3 * j + 1))]) (rest := []) X G (rm := rm8_result) rfl rfl (c8_result l D κ A ad1 (LR κ ad1 (outv x res.2) res.1) z (xs (3 * j + 1)) (z1, v) e8) g_L_150 hdL_yX8_result ⟨Nat.le_of_ble_eq_true rfl, Nat.le_of_ble_eq_true rfl⟩ rfl hl rfl (lv_room (Nat.le_of_ble_eq_true rfl)) dL_law_1072 ⟨by show cells + 1 ≤ 601024; omega, by show slots + 6 ≤ 7293034; omega⟩ (fun H locs G => ?_)
  refine lv_istore (pc := 1075) (lv' := [(6, .int v), (5, .int (codeOf 2 res.2)), (4, .int (nI (3 * j))), (0, .ref bs), (1, .ref (ad1 50)), (2, .ref (ad1 43)), (3, .ref (ad1 44))]) X.1 X.2.1 dL_law_1075 hl (by decide) rfl (fun ls hl => ?_)
  refine lv_aload_n (pc := 1077) X.1 X.2.1 dL_law_1077 rfl (lv_at hl 5 rfl) ?_
  refine M_calli (pc := 1078) (z1 := z1) (v := z1 43 7) (As := []) (rest := []) X G (rm := rm8_thrown) rfl rfl (c8_thrown l D κ A ad1 (LR κ ad1 (outv x res.2) res.1) z1 (z1 43 7) F8_thrown_eq) g_L_85 hdL_yX8_thrown ⟨Nat.le_of_ble_eq_true rfl, Nat.le_of_ble_eq_true rfl⟩ rfl hl rfl (lv_room (Nat.le_of_ble_eq_true rfl)) dL_law_1078 ⟨by show cells + 1 ≤ 601024; omega, by show slots + 6 ≤ 7293034; omega⟩ (fun H locs G => ?_)
  refine lv_iload (pc := 1081) X.1 X.2.1 dL_law_1081 (lv_at hl 1 rfl) ?_
  refine lv_icmp_eq (pc := 1083) (tgt := 1088) X.1 X.2.1 dL_law_1083 (by decide) (fun hq => ?_) (fun hq => absurd hth hq)
  refine lv_iload (pc := 1088) X.1 X.2.1 dL_law_1088 (lv_at hl 1 rfl) ?_
  have G9 : Mm D κ A ad1 (LM κ ad1 z1 (outv x res.2) res.1) s H locs := G.same (fun j => (LM_eq j).symm)
  refine lv_if_ne (pc := 1090) (tgt := 1105) X.1 X.2.1 dL_law_1090 (by decide) (fun hq => ?_) (fun hq => ?_)
  · refine lv_goto (pc := 1105) (tgt := 1341) X.1 X.2.1 dL_law_1105 (by decide) ?_
    exact kk ad1 z1 (outv x res.2) res.1 _ _ H locs ls hI (by show cells + 1 ≤ _; omega) (by show slots + 6 ≤ _; omega) G9 (lv_sub hl [2, 3, 4, 5, 6] rfl)
  · obtain ⟨w, hw⟩ := code0 hq
    have hx : outv x res.2 = v.toInt64 := by rw [hw, ← hv w hw]; rfl
    refine lv_aload_n (pc := 1093) X.1 X.2.1 dL_law_1093 rfl (lv_at hl 6 rfl) ?_
    refine lv_iconst (pc := 1094) (v := 0) X.1 X.2.1 dL_law_1094 (by decide) ?_
    refine m_laldO (pc := 1095) (i := 44) X G rfl LR_44 dL_law_1095 ?_
    refine lv_iload (pc := 1096) X.1 X.2.1 dL_law_1096 (lv_at hl 0 rfl) ?_
    refine lv_i2l (pc := 1098) X.1 X.2.1 dL_law_1098 rfl ?_
    refine W.lcmp (pc := 1099) X.1 X.2.1 dL_law_1099 ?_
    refine lv_if_eq (pc := 1100) (tgt := 1105) X.1 X.2.1 dL_law_1100 (by decide) (fun hq => ?_) (fun hq => absurd (by rw [hx]; unfold lg_cmp; simp) hq)
    refine lv_goto (pc := 1105) (tgt := 1341) X.1 X.2.1 dL_law_1105 (by decide) ?_
    exact kk ad1 z1 (outv x res.2) res.1 _ _ H locs ls hI (by show cells + 1 ≤ _; omega) (by show slots + 6 ≤ _; omega) G9 (lv_sub hl [2, 3, 4, 5, 6] rfl)
theorem gL_trace : GoodIn G0 (va_wsS RL 151 yL_trace (gwh yL_trace cL_trace 5 (some .int) [(0, 10, 13, 15)])) := gwh_in ml_L_151 sm_yL_trace ini_L cw_yL_trace
theorem hsL_trace : yL_trace.cls ≠ "java/lang/invoke/MethodHandle" ∧ yL_trace.cls ≠ "java/lang/invoke/VarHandle" ∧ (parseMethodDescriptor yL_trace.desc).map (fun d => d.parameters.length) = some 4 := by decide +kernel
theorem g_L_153 : GoodIn G0 (wsV RL 153 RX8 yX8_trace (gw yX8_trace cX8_trace 3 (some (FieldType.int)))) := gv_in ml_L_153 im_yX8_trace se_yX8_trace ini_X8 cd_yX8_trace
theorem hdL_yX8_trace : yX8_trace.cls = RX8 ∧ yX8_trace.cls ≠ "java/lang/invoke/MethodHandle" ∧ yX8_trace.cls ≠ "java/lang/invoke/VarHandle" ∧ (parseMethodDescriptor yX8_trace.desc).map (fun d => d.parameters.length) = some 2 := by decide +kernel
set_option maxHeartbeats 4000000 in
set_option maxRecDepth 100000 in
theorem law_trace (X : CallFix p m c cL_law 9 s args G0 RL) (hfl : l.stackTraces = false) (hX : va_X bs L xs s s.heap) (hbl : bs < s.heap.size) (hbA : ¬ A bs) (hL : 3 * j + 3 ≤ L ∧ L ≤ 1536) (G : Mm D κ A ad (LM κ ad z x b) s H locs) (hl : lv_has ls 9 [(4, .int (nI (3 * j))), (0, .ref bs), (1, .ref (ad 50)), (2, .ref (ad 43)), (3, .ref (ad 44))]) (hc : cells + 9 ≤ 601024) (hs : slots + 605 ≤ 7293034) (hok : okT Inv (F7_trace b (xs (3 * j + 1)) (xs (3 * j + 2))) (F8_trace z (xs (3 * j + 1)) (xs (3 * j + 2))) [2]) (kk : ∀ (ad : Nat → Nat) (z : MS) (x : Int64) (b : BS) (cells' slots' : Nat) (H : Heap) (locs : List Loc) (ls : Array Slot), Inv z b → cells' ≤ cells + 9 → slots' ≤ slots + 605 → Mm D κ A ad (LM κ ad z x b) s H locs → lv_has ls 9 [(4, .int (nI (3 * j))), (0, .ref bs), (1, .ref (ad 50)), (2, .ref (ad 43)), (3, .ref (ad 44))] → W p l e room_1 s m args below meth c H locs cells' slots' Q (F0 m 1341 ls [])) : W p l e room_1 s m args below meth c H locs cells slots Q (F0 m 1108 ls []) := by
  obtain ⟨res, z1, v, e7, e8, hk, hth, hv, hI⟩ := hok
  refine lv_aload_n (pc := 1108) X.1 X.2.1 dL_law_1108 rfl (lv_at hl 2 rfl) ?_
  refine lv_aload_n (pc := 1109) X.1 X.2.1 dL_law_1109 rfl (lv_at hl 1 rfl) ?_
  refine lv_iload (pc := 1110) X.1 X.2.1 dL_law_1110 (lv_at hl 0 rfl) ?_
  refine lv_iconst (pc := 1112) (v := 1) X.1 X.2.1 dL_law_1112 (by decide) ?_
  refine lv_iadd (pc := 1113) X.1 X.2.1 dL_law_1113 ?_
  rw [show nI (3 * j) + 1 = nI (3 * j + 1) from nI_add _ 1]
  refine va_sld (pc := 1114) X.1 X.2.1 hX hbl hbA G.2.2.2.2.1 (vp_in_nI (by omega) (by omega)) dL_law_1114 ?_
  rw [nI_clamp (by omega)]
  refine lv_aload_n (pc := 1115) X.1 X.2.1 dL_law_1115 rfl (lv_at hl 1 rfl) ?_
  refine lv_iload (pc := 1116) X.1 X.2.1 dL_law_1116 (lv_at hl 0 rfl) ?_
  refine lv_iconst (pc := 1118) (v := 2) X.1 X.2.1 dL_law_1118 (by decide) ?_
  refine lv_iadd (pc := 1119) X.1 X.2.1 dL_law_1119 ?_
  rw [show nI (3 * j) + 2 = nI (3 * j + 2) from nI_add _ 2]
  refine va_sld (pc := 1120) X.1 X.2.1 hX hbl hbA G.2.2.2.2.1 (vp_in_nI (by omega) (by omega)) dL_law_1120 ?_
  rw [nI_clamp (by omega)]
  refine lv_aload_n (pc := 1121) X.1 X.2.1 dL_law_1121 rfl (lv_at hl 4 rfl) ?_
  refine m_callW (pc := 1122) (As := [.ref (ad 50), .int (xs (3 * j + 1)), .int (xs (3 * j + 2)), .ref (ad 44)]) (rest := []) X G (rm := rmL_trace) rfl rfl (wtrace l hfl D κ A ad (celM κ ad nuM z) x b (xs (3 * j + 1)) (xs (3 * j + 2)) res e7 (fun k h => by have q := hk k h; simpa using q)) gL_trace hsL_trace ⟨Nat.le_of_ble_eq_true rfl, Nat.le_of_ble_eq_true rfl⟩ rfl hl rfl (lv_room (Nat.le_of_ble_eq_true rfl)) dL_law_1122 ⟨by show cells + 1 ≤ 601024; omega, by show slots + 6 ≤ 7293034; omega⟩ (fun ad1 H locs hag G => ?_)
  have hl : lv_has ls 9 [(4, .int (nI (3 * j))), (0, .ref bs), (1, .ref (ad1 50)), (2, .ref (ad1 43)), (3, .ref (ad1 44))] := by rw [hag 50 (Or.inl (by decide)), hag 43 (Or.inl (by decide)), hag 44 (Or.inl (by decide))]; exact hl
  have G : Mm D κ A ad1 (celM κ ad1 (LR κ ad1 (outv x res.2) res.1) z) s H locs := G.same (fun j => (LM_eq j).trans (LM_mv hag j))
  refine lv_istore (pc := 1125) (lv' := [(5, .int (codeOf 2 res.2)), (4, .int (nI (3 * j))), (0, .ref bs), (1, .ref (ad1 50)), (2, .ref (ad1 43)), (3, .ref (ad1 44))]) X.1 X.2.1 dL_law_1125 hl (by decide) rfl (fun ls hl => ?_)
  refine lv_aload_n (pc := 1127) X.1 X.2.1 dL_law_1127 rfl (lv_at hl 4 rfl) ?_
  refine lv_aload_n (pc := 1128) X.1 X.2.1 dL_law_1128 rfl (lv_at hl 2 rfl) ?_
  refine lv_iload (pc := 1129) X.1 X.2.1 dL_law_1129 (lv_at hl 1 rfl) ?_
  refine lv_iconst (pc := 1131) (v := 1) X.1 X.2.1 dL_law_1131 (by decide) ?_
  refine lv_iadd (pc := 1132) X.1 X.2.1 dL_law_1132 ?_
  rw [show nI (3 * j) + 1 = nI (3 * j + 1) from nI_add _ 1]
  refine va_sld (pc := 1133) X.1 X.2.1 hX hbl hbA G.2.2.2.2.1 (vp_in_nI (by omega) (by omega)) dL_law_1133 ?_
  rw [nI_clamp (by omega)]
  refine lv_aload_n (pc := 1134) X.1 X.2.1 dL_law_1134 rfl (lv_at hl 2 rfl) ?_
  refine lv_iload (pc := 1135) X.1 X.2.1 dL_law_1135 (lv_at hl 1 rfl) ?_
  refine lv_iconst (pc := 1137) (v := 2) X.1 X.2.1 dL_law_1137 (by decide) ?_
  refine lv_iadd (pc := 1138) X.1 X.2.1 dL_law_1138 ?_
  rw [show nI (3 * j) + 2 = nI (3 * j + 2) from nI_add _ 2]
  refine va_sld (pc := 1139) X.1 X.2.1 hX hbl hbA G.2.2.2.2.1 (vp_in_nI (by omega) (by omega)) dL_law_1139 ?_
  rw [nI_clamp (by omega)]
  refine M_calli (pc := 1140) (z1 := z1) (v := v) (As := [.int (xs (3 * j + 1)), .int (xs (3 * j + 2))]) (rest := []) X G (rm := rm8_trace) rfl rfl (c8_trace l D κ A ad1 (LR κ ad1 (outv x res.2) res.1) z (xs (3 * j + 1)) (xs (3 * j + 2)) (z1, v) e8) g_L_153 hdL_yX8_trace ⟨Nat.le_of_ble_eq_true rfl, Nat.le_of_ble_eq_true rfl⟩ rfl hl rfl (lv_room (Nat.le_of_ble_eq_true rfl)) dL_law_1140 ⟨by show cells + 1 ≤ 601024; omega, by show slots + 6 ≤ 7293034; omega⟩ (fun H locs G => ?_)
  refine lv_istore (pc := 1143) (lv' := [(6, .int v), (5, .int (codeOf 2 res.2)), (4, .int (nI (3 * j))), (0, .ref bs), (1, .ref (ad1 50)), (2, .ref (ad1 43)), (3, .ref (ad1 44))]) X.1 X.2.1 dL_law_1143 hl (by decide) rfl (fun ls hl => ?_)
  refine lv_aload_n (pc := 1145) X.1 X.2.1 dL_law_1145 rfl (lv_at hl 5 rfl) ?_
  refine M_calli (pc := 1146) (z1 := z1) (v := z1 43 7) (As := []) (rest := []) X G (rm := rm8_thrown) rfl rfl (c8_thrown l D κ A ad1 (LR κ ad1 (outv x res.2) res.1) z1 (z1 43 7) F8_thrown_eq) g_L_85 hdL_yX8_thrown ⟨Nat.le_of_ble_eq_true rfl, Nat.le_of_ble_eq_true rfl⟩ rfl hl rfl (lv_room (Nat.le_of_ble_eq_true rfl)) dL_law_1146 ⟨by show cells + 1 ≤ 601024; omega, by show slots + 6 ≤ 7293034; omega⟩ (fun H locs G => ?_)
  refine lv_iload (pc := 1149) X.1 X.2.1 dL_law_1149 (lv_at hl 1 rfl) ?_
  refine lv_icmp_eq (pc := 1151) (tgt := 1156) X.1 X.2.1 dL_law_1151 (by decide) (fun hq => ?_) (fun hq => absurd hth hq)
  refine lv_iload (pc := 1156) X.1 X.2.1 dL_law_1156 (lv_at hl 1 rfl) ?_
  have G9 : Mm D κ A ad1 (LM κ ad1 z1 (outv x res.2) res.1) s H locs := G.same (fun j => (LM_eq j).symm)
  refine lv_if_ne (pc := 1158) (tgt := 1173) X.1 X.2.1 dL_law_1158 (by decide) (fun hq => ?_) (fun hq => ?_)
  · refine lv_goto (pc := 1173) (tgt := 1341) X.1 X.2.1 dL_law_1173 (by decide) ?_
    exact kk ad1 z1 (outv x res.2) res.1 _ _ H locs ls hI (by show cells + 1 ≤ _; omega) (by show slots + 6 ≤ _; omega) G9 (lv_sub hl [2, 3, 4, 5, 6] rfl)
  · obtain ⟨w, hw⟩ := code0 hq
    have hx : outv x res.2 = v.toInt64 := by rw [hw, ← hv w hw]; rfl
    refine lv_aload_n (pc := 1161) X.1 X.2.1 dL_law_1161 rfl (lv_at hl 6 rfl) ?_
    refine lv_iconst (pc := 1162) (v := 0) X.1 X.2.1 dL_law_1162 (by decide) ?_
    refine m_laldO (pc := 1163) (i := 44) X G rfl LR_44 dL_law_1163 ?_
    refine lv_iload (pc := 1164) X.1 X.2.1 dL_law_1164 (lv_at hl 0 rfl) ?_
    refine lv_i2l (pc := 1166) X.1 X.2.1 dL_law_1166 rfl ?_
    refine W.lcmp (pc := 1167) X.1 X.2.1 dL_law_1167 ?_
    refine lv_if_eq (pc := 1168) (tgt := 1173) X.1 X.2.1 dL_law_1168 (by decide) (fun hq => ?_) (fun hq => absurd (by rw [hx]; unfold lg_cmp; simp) hq)
    refine lv_goto (pc := 1173) (tgt := 1341) X.1 X.2.1 dL_law_1173 (by decide) ?_
    exact kk ad1 z1 (outv x res.2) res.1 _ _ H locs ls hI (by show cells + 1 ≤ _; omega) (by show slots + 6 ≤ _; omega) G9 (lv_sub hl [2, 3, 4, 5, 6] rfl)
theorem gL_lengthOf : GoodIn G0 (va_wsS RL 154 yL_lengthOf (gwh yL_lengthOf cL_lengthOf 5 (some .int) [(0, 10, 13, 13), (0, 10, 17, 15)])) := gwh_in ml_L_154 sm_yL_lengthOf ini_L cw_yL_lengthOf
theorem hsL_lengthOf : yL_lengthOf.cls ≠ "java/lang/invoke/MethodHandle" ∧ yL_lengthOf.cls ≠ "java/lang/invoke/VarHandle" ∧ (parseMethodDescriptor yL_lengthOf.desc).map (fun d => d.parameters.length) = some 4 := by decide +kernel
theorem g_L_156 : GoodIn G0 (wsV RL 156 RX8 yX8_lengthOf (gw yX8_lengthOf cX8_lengthOf 3 (some (FieldType.int)))) := gv_in ml_L_156 im_yX8_lengthOf se_yX8_lengthOf ini_X8 cd_yX8_lengthOf
theorem hdL_yX8_lengthOf : yX8_lengthOf.cls = RX8 ∧ yX8_lengthOf.cls ≠ "java/lang/invoke/MethodHandle" ∧ yX8_lengthOf.cls ≠ "java/lang/invoke/VarHandle" ∧ (parseMethodDescriptor yX8_lengthOf.desc).map (fun d => d.parameters.length) = some 2 := by decide +kernel
set_option maxHeartbeats 4000000 in
set_option maxRecDepth 100000 in
theorem law_lengthOf (X : CallFix p m c cL_law 9 s args G0 RL) (hfl : l.stackTraces = false) (hX : va_X bs L xs s s.heap) (hbl : bs < s.heap.size) (hbA : ¬ A bs) (hL : 3 * j + 3 ≤ L ∧ L ≤ 1536) (G : Mm D κ A ad (LM κ ad z x b) s H locs) (hl : lv_has ls 9 [(4, .int (nI (3 * j))), (0, .ref bs), (1, .ref (ad 50)), (2, .ref (ad 43)), (3, .ref (ad 44))]) (hc : cells + 9 ≤ 601024) (hs : slots + 605 ≤ 7293034) (hok : okT Inv (F7_lengthOf b (xs (3 * j + 1)) (xs (3 * j + 2))) (F8_lengthOf z (xs (3 * j + 1)) (xs (3 * j + 2))) [1, 2]) (kk : ∀ (ad : Nat → Nat) (z : MS) (x : Int64) (b : BS) (cells' slots' : Nat) (H : Heap) (locs : List Loc) (ls : Array Slot), Inv z b → cells' ≤ cells + 9 → slots' ≤ slots + 605 → Mm D κ A ad (LM κ ad z x b) s H locs → lv_has ls 9 [(4, .int (nI (3 * j))), (0, .ref bs), (1, .ref (ad 50)), (2, .ref (ad 43)), (3, .ref (ad 44))] → W p l e room_1 s m args below meth c H locs cells' slots' Q (F0 m 1341 ls [])) : W p l e room_1 s m args below meth c H locs cells slots Q (F0 m 1176 ls []) := by
  obtain ⟨res, z1, v, e7, e8, hk, hth, hv, hI⟩ := hok
  refine lv_aload_n (pc := 1176) X.1 X.2.1 dL_law_1176 rfl (lv_at hl 2 rfl) ?_
  refine lv_aload_n (pc := 1177) X.1 X.2.1 dL_law_1177 rfl (lv_at hl 1 rfl) ?_
  refine lv_iload (pc := 1178) X.1 X.2.1 dL_law_1178 (lv_at hl 0 rfl) ?_
  refine lv_iconst (pc := 1180) (v := 1) X.1 X.2.1 dL_law_1180 (by decide) ?_
  refine lv_iadd (pc := 1181) X.1 X.2.1 dL_law_1181 ?_
  rw [show nI (3 * j) + 1 = nI (3 * j + 1) from nI_add _ 1]
  refine va_sld (pc := 1182) X.1 X.2.1 hX hbl hbA G.2.2.2.2.1 (vp_in_nI (by omega) (by omega)) dL_law_1182 ?_
  rw [nI_clamp (by omega)]
  refine lv_aload_n (pc := 1183) X.1 X.2.1 dL_law_1183 rfl (lv_at hl 1 rfl) ?_
  refine lv_iload (pc := 1184) X.1 X.2.1 dL_law_1184 (lv_at hl 0 rfl) ?_
  refine lv_iconst (pc := 1186) (v := 2) X.1 X.2.1 dL_law_1186 (by decide) ?_
  refine lv_iadd (pc := 1187) X.1 X.2.1 dL_law_1187 ?_
  rw [show nI (3 * j) + 2 = nI (3 * j + 2) from nI_add _ 2]
  refine va_sld (pc := 1188) X.1 X.2.1 hX hbl hbA G.2.2.2.2.1 (vp_in_nI (by omega) (by omega)) dL_law_1188 ?_
  rw [nI_clamp (by omega)]
  refine lv_aload_n (pc := 1189) X.1 X.2.1 dL_law_1189 rfl (lv_at hl 4 rfl) ?_
  refine m_callW (pc := 1190) (As := [.ref (ad 50), .int (xs (3 * j + 1)), .int (xs (3 * j + 2)), .ref (ad 44)]) (rest := []) X G (rm := rmL_lengthOf) rfl rfl (wlengthOf l hfl D κ A ad (celM κ ad nuM z) x b (xs (3 * j + 1)) (xs (3 * j + 2)) res e7 (fun k h => by have q := hk k h; simpa using q)) gL_lengthOf hsL_lengthOf ⟨Nat.le_of_ble_eq_true rfl, Nat.le_of_ble_eq_true rfl⟩ rfl hl rfl (lv_room (Nat.le_of_ble_eq_true rfl)) dL_law_1190 ⟨by show cells + 2 ≤ 601024; omega, by show slots + 12 ≤ 7293034; omega⟩ (fun ad1 H locs hag G => ?_)
  have hl : lv_has ls 9 [(4, .int (nI (3 * j))), (0, .ref bs), (1, .ref (ad1 50)), (2, .ref (ad1 43)), (3, .ref (ad1 44))] := by rw [hag 50 (Or.inl (by decide)), hag 43 (Or.inl (by decide)), hag 44 (Or.inl (by decide))]; exact hl
  have G : Mm D κ A ad1 (celM κ ad1 (LR κ ad1 (outv x res.2) res.1) z) s H locs := G.same (fun j => (LM_eq j).trans (LM_mv hag j))
  refine lv_istore (pc := 1193) (lv' := [(5, .int (codeOf 1 res.2)), (4, .int (nI (3 * j))), (0, .ref bs), (1, .ref (ad1 50)), (2, .ref (ad1 43)), (3, .ref (ad1 44))]) X.1 X.2.1 dL_law_1193 hl (by decide) rfl (fun ls hl => ?_)
  refine lv_aload_n (pc := 1195) X.1 X.2.1 dL_law_1195 rfl (lv_at hl 4 rfl) ?_
  refine lv_aload_n (pc := 1196) X.1 X.2.1 dL_law_1196 rfl (lv_at hl 2 rfl) ?_
  refine lv_iload (pc := 1197) X.1 X.2.1 dL_law_1197 (lv_at hl 1 rfl) ?_
  refine lv_iconst (pc := 1199) (v := 1) X.1 X.2.1 dL_law_1199 (by decide) ?_
  refine lv_iadd (pc := 1200) X.1 X.2.1 dL_law_1200 ?_
  rw [show nI (3 * j) + 1 = nI (3 * j + 1) from nI_add _ 1]
  refine va_sld (pc := 1201) X.1 X.2.1 hX hbl hbA G.2.2.2.2.1 (vp_in_nI (by omega) (by omega)) dL_law_1201 ?_
  rw [nI_clamp (by omega)]
  refine lv_aload_n (pc := 1202) X.1 X.2.1 dL_law_1202 rfl (lv_at hl 2 rfl) ?_
  refine lv_iload (pc := 1203) X.1 X.2.1 dL_law_1203 (lv_at hl 1 rfl) ?_
  refine lv_iconst (pc := 1205) (v := 2) X.1 X.2.1 dL_law_1205 (by decide) ?_
  refine lv_iadd (pc := 1206) X.1 X.2.1 dL_law_1206 ?_
  rw [show nI (3 * j) + 2 = nI (3 * j + 2) from nI_add _ 2]
  refine va_sld (pc := 1207) X.1 X.2.1 hX hbl hbA G.2.2.2.2.1 (vp_in_nI (by omega) (by omega)) dL_law_1207 ?_
  rw [nI_clamp (by omega)]
  refine M_calli (pc := 1208) (z1 := z1) (v := v) (As := [.int (xs (3 * j + 1)), .int (xs (3 * j + 2))]) (rest := []) X G (rm := rm8_lengthOf) rfl rfl (c8_lengthOf l D κ A ad1 (LR κ ad1 (outv x res.2) res.1) z (xs (3 * j + 1)) (xs (3 * j + 2)) (z1, v) e8) g_L_156 hdL_yX8_lengthOf ⟨Nat.le_of_ble_eq_true rfl, Nat.le_of_ble_eq_true rfl⟩ rfl hl rfl (lv_room (Nat.le_of_ble_eq_true rfl)) dL_law_1208 ⟨by show cells + 2 ≤ 601024; omega, by show slots + 12 ≤ 7293034; omega⟩ (fun H locs G => ?_)
  refine lv_istore (pc := 1211) (lv' := [(6, .int v), (5, .int (codeOf 1 res.2)), (4, .int (nI (3 * j))), (0, .ref bs), (1, .ref (ad1 50)), (2, .ref (ad1 43)), (3, .ref (ad1 44))]) X.1 X.2.1 dL_law_1211 hl (by decide) rfl (fun ls hl => ?_)
  refine lv_aload_n (pc := 1213) X.1 X.2.1 dL_law_1213 rfl (lv_at hl 5 rfl) ?_
  refine M_calli (pc := 1214) (z1 := z1) (v := z1 43 7) (As := []) (rest := []) X G (rm := rm8_thrown) rfl rfl (c8_thrown l D κ A ad1 (LR κ ad1 (outv x res.2) res.1) z1 (z1 43 7) F8_thrown_eq) g_L_85 hdL_yX8_thrown ⟨Nat.le_of_ble_eq_true rfl, Nat.le_of_ble_eq_true rfl⟩ rfl hl rfl (lv_room (Nat.le_of_ble_eq_true rfl)) dL_law_1214 ⟨by show cells + 2 ≤ 601024; omega, by show slots + 12 ≤ 7293034; omega⟩ (fun H locs G => ?_)
  refine lv_iload (pc := 1217) X.1 X.2.1 dL_law_1217 (lv_at hl 1 rfl) ?_
  refine lv_icmp_eq (pc := 1219) (tgt := 1224) X.1 X.2.1 dL_law_1219 (by decide) (fun hq => ?_) (fun hq => absurd hth hq)
  refine lv_iload (pc := 1224) X.1 X.2.1 dL_law_1224 (lv_at hl 1 rfl) ?_
  have G9 : Mm D κ A ad1 (LM κ ad1 z1 (outv x res.2) res.1) s H locs := G.same (fun j => (LM_eq j).symm)
  refine lv_if_ne (pc := 1226) (tgt := 1241) X.1 X.2.1 dL_law_1226 (by decide) (fun hq => ?_) (fun hq => ?_)
  · refine lv_goto (pc := 1241) (tgt := 1341) X.1 X.2.1 dL_law_1241 (by decide) ?_
    exact kk ad1 z1 (outv x res.2) res.1 _ _ H locs ls hI (by show cells + 2 ≤ _; omega) (by show slots + 12 ≤ _; omega) G9 (lv_sub hl [2, 3, 4, 5, 6] rfl)
  · obtain ⟨w, hw⟩ := code0 hq
    have hx : outv x res.2 = v.toInt64 := by rw [hw, ← hv w hw]; rfl
    refine lv_aload_n (pc := 1229) X.1 X.2.1 dL_law_1229 rfl (lv_at hl 6 rfl) ?_
    refine lv_iconst (pc := 1230) (v := 0) X.1 X.2.1 dL_law_1230 (by decide) ?_
    refine m_laldO (pc := 1231) (i := 44) X G rfl LR_44 dL_law_1231 ?_
    refine lv_iload (pc := 1232) X.1 X.2.1 dL_law_1232 (lv_at hl 0 rfl) ?_
    refine lv_i2l (pc := 1234) X.1 X.2.1 dL_law_1234 rfl ?_
    refine W.lcmp (pc := 1235) X.1 X.2.1 dL_law_1235 ?_
    refine lv_if_eq (pc := 1236) (tgt := 1241) X.1 X.2.1 dL_law_1236 (by decide) (fun hq => ?_) (fun hq => absurd (by rw [hx]; unfold lg_cmp; simp) hq)
    refine lv_goto (pc := 1241) (tgt := 1341) X.1 X.2.1 dL_law_1241 (by decide) ?_
    exact kk ad1 z1 (outv x res.2) res.1 _ _ H locs ls hI (by show cells + 2 ≤ _; omega) (by show slots + 12 ≤ _; omega) G9 (lv_sub hl [2, 3, 4, 5, 6] rfl)
theorem gL_count : GoodIn G0 (va_wsS RL 157 yL_count (gwh yL_count cL_count 4 (some .int) [(0, 9, 12, 15)])) := gwh_in ml_L_157 sm_yL_count ini_L cw_yL_count
theorem hsL_count : yL_count.cls ≠ "java/lang/invoke/MethodHandle" ∧ yL_count.cls ≠ "java/lang/invoke/VarHandle" ∧ (parseMethodDescriptor yL_count.desc).map (fun d => d.parameters.length) = some 3 := by decide +kernel
theorem g_L_159 : GoodIn G0 (wsV RL 159 RX8 yX8_count (gw yX8_count cX8_count 2 (some (FieldType.int)))) := gv_in ml_L_159 im_yX8_count se_yX8_count ini_X8 cd_yX8_count
theorem hdL_yX8_count : yX8_count.cls = RX8 ∧ yX8_count.cls ≠ "java/lang/invoke/MethodHandle" ∧ yX8_count.cls ≠ "java/lang/invoke/VarHandle" ∧ (parseMethodDescriptor yX8_count.desc).map (fun d => d.parameters.length) = some 1 := by decide +kernel
set_option maxHeartbeats 4000000 in
set_option maxRecDepth 100000 in
theorem law_count (X : CallFix p m c cL_law 9 s args G0 RL) (hfl : l.stackTraces = false) (hX : va_X bs L xs s s.heap) (hbl : bs < s.heap.size) (hbA : ¬ A bs) (hL : 3 * j + 3 ≤ L ∧ L ≤ 1536) (G : Mm D κ A ad (LM κ ad z x b) s H locs) (hl : lv_has ls 9 [(4, .int (nI (3 * j))), (0, .ref bs), (1, .ref (ad 50)), (2, .ref (ad 43)), (3, .ref (ad 44))]) (hc : cells + 9 ≤ 601024) (hs : slots + 605 ≤ 7293034) (hok : okT Inv (F7_count b (xs (3 * j + 1))) (F8_count z (xs (3 * j + 1))) [2]) (kk : ∀ (ad : Nat → Nat) (z : MS) (x : Int64) (b : BS) (cells' slots' : Nat) (H : Heap) (locs : List Loc) (ls : Array Slot), Inv z b → cells' ≤ cells + 9 → slots' ≤ slots + 605 → Mm D κ A ad (LM κ ad z x b) s H locs → lv_has ls 9 [(4, .int (nI (3 * j))), (0, .ref bs), (1, .ref (ad 50)), (2, .ref (ad 43)), (3, .ref (ad 44))] → W p l e room_1 s m args below meth c H locs cells' slots' Q (F0 m 1341 ls [])) : W p l e room_1 s m args below meth c H locs cells slots Q (F0 m 1244 ls []) := by
  obtain ⟨res, z1, v, e7, e8, hk, hth, hv, hI⟩ := hok
  refine lv_aload_n (pc := 1244) X.1 X.2.1 dL_law_1244 rfl (lv_at hl 2 rfl) ?_
  refine lv_aload_n (pc := 1245) X.1 X.2.1 dL_law_1245 rfl (lv_at hl 1 rfl) ?_
  refine lv_iload (pc := 1246) X.1 X.2.1 dL_law_1246 (lv_at hl 0 rfl) ?_
  refine lv_iconst (pc := 1248) (v := 1) X.1 X.2.1 dL_law_1248 (by decide) ?_
  refine lv_iadd (pc := 1249) X.1 X.2.1 dL_law_1249 ?_
  rw [show nI (3 * j) + 1 = nI (3 * j + 1) from nI_add _ 1]
  refine va_sld (pc := 1250) X.1 X.2.1 hX hbl hbA G.2.2.2.2.1 (vp_in_nI (by omega) (by omega)) dL_law_1250 ?_
  rw [nI_clamp (by omega)]
  refine lv_aload_n (pc := 1251) X.1 X.2.1 dL_law_1251 rfl (lv_at hl 4 rfl) ?_
  refine m_callW (pc := 1252) (As := [.ref (ad 50), .int (xs (3 * j + 1)), .ref (ad 44)]) (rest := []) X G (rm := rmL_count) rfl rfl (wcount l hfl D κ A ad (celM κ ad nuM z) x b (xs (3 * j + 1)) res e7 (fun k h => by have q := hk k h; simpa using q)) gL_count hsL_count ⟨Nat.le_of_ble_eq_true rfl, Nat.le_of_ble_eq_true rfl⟩ rfl hl rfl (lv_room (Nat.le_of_ble_eq_true rfl)) dL_law_1252 ⟨by show cells + 1 ≤ 601024; omega, by show slots + 6 ≤ 7293034; omega⟩ (fun ad1 H locs hag G => ?_)
  have hl : lv_has ls 9 [(4, .int (nI (3 * j))), (0, .ref bs), (1, .ref (ad1 50)), (2, .ref (ad1 43)), (3, .ref (ad1 44))] := by rw [hag 50 (Or.inl (by decide)), hag 43 (Or.inl (by decide)), hag 44 (Or.inl (by decide))]; exact hl
  have G : Mm D κ A ad1 (celM κ ad1 (LR κ ad1 (outv x res.2) res.1) z) s H locs := G.same (fun j => (LM_eq j).trans (LM_mv hag j))
  refine lv_istore (pc := 1255) (lv' := [(5, .int (codeOf 2 res.2)), (4, .int (nI (3 * j))), (0, .ref bs), (1, .ref (ad1 50)), (2, .ref (ad1 43)), (3, .ref (ad1 44))]) X.1 X.2.1 dL_law_1255 hl (by decide) rfl (fun ls hl => ?_)
  refine lv_aload_n (pc := 1257) X.1 X.2.1 dL_law_1257 rfl (lv_at hl 4 rfl) ?_
  refine lv_aload_n (pc := 1258) X.1 X.2.1 dL_law_1258 rfl (lv_at hl 2 rfl) ?_
  refine lv_iload (pc := 1259) X.1 X.2.1 dL_law_1259 (lv_at hl 1 rfl) ?_
  refine lv_iconst (pc := 1261) (v := 1) X.1 X.2.1 dL_law_1261 (by decide) ?_
  refine lv_iadd (pc := 1262) X.1 X.2.1 dL_law_1262 ?_
  rw [show nI (3 * j) + 1 = nI (3 * j + 1) from nI_add _ 1]
  refine va_sld (pc := 1263) X.1 X.2.1 hX hbl hbA G.2.2.2.2.1 (vp_in_nI (by omega) (by omega)) dL_law_1263 ?_
  rw [nI_clamp (by omega)]
  refine M_calli (pc := 1264) (z1 := z1) (v := v) (As := [.int (xs (3 * j + 1))]) (rest := []) X G (rm := rm8_count) rfl rfl (c8_count l D κ A ad1 (LR κ ad1 (outv x res.2) res.1) z (xs (3 * j + 1)) (z1, v) e8) g_L_159 hdL_yX8_count ⟨Nat.le_of_ble_eq_true rfl, Nat.le_of_ble_eq_true rfl⟩ rfl hl rfl (lv_room (Nat.le_of_ble_eq_true rfl)) dL_law_1264 ⟨by show cells + 1 ≤ 601024; omega, by show slots + 6 ≤ 7293034; omega⟩ (fun H locs G => ?_)
  refine lv_istore (pc := 1267) (lv' := [(6, .int v), (5, .int (codeOf 2 res.2)), (4, .int (nI (3 * j))), (0, .ref bs), (1, .ref (ad1 50)), (2, .ref (ad1 43)), (3, .ref (ad1 44))]) X.1 X.2.1 dL_law_1267 hl (by decide) rfl (fun ls hl => ?_)
  refine lv_aload_n (pc := 1269) X.1 X.2.1 dL_law_1269 rfl (lv_at hl 5 rfl) ?_
  refine M_calli (pc := 1270) (z1 := z1) (v := z1 43 7) (As := []) (rest := []) X G (rm := rm8_thrown) rfl rfl (c8_thrown l D κ A ad1 (LR κ ad1 (outv x res.2) res.1) z1 (z1 43 7) F8_thrown_eq) g_L_85 hdL_yX8_thrown ⟨Nat.le_of_ble_eq_true rfl, Nat.le_of_ble_eq_true rfl⟩ rfl hl rfl (lv_room (Nat.le_of_ble_eq_true rfl)) dL_law_1270 ⟨by show cells + 1 ≤ 601024; omega, by show slots + 6 ≤ 7293034; omega⟩ (fun H locs G => ?_)
  refine lv_iload (pc := 1273) X.1 X.2.1 dL_law_1273 (lv_at hl 1 rfl) ?_
  refine lv_icmp_eq (pc := 1275) (tgt := 1280) X.1 X.2.1 dL_law_1275 (by decide) (fun hq => ?_) (fun hq => absurd hth hq)
  refine lv_iload (pc := 1280) X.1 X.2.1 dL_law_1280 (lv_at hl 1 rfl) ?_
  have G9 : Mm D κ A ad1 (LM κ ad1 z1 (outv x res.2) res.1) s H locs := G.same (fun j => (LM_eq j).symm)
  refine lv_if_ne (pc := 1282) (tgt := 1297) X.1 X.2.1 dL_law_1282 (by decide) (fun hq => ?_) (fun hq => ?_)
  · refine lv_goto (pc := 1297) (tgt := 1341) X.1 X.2.1 dL_law_1297 (by decide) ?_
    exact kk ad1 z1 (outv x res.2) res.1 _ _ H locs ls hI (by show cells + 1 ≤ _; omega) (by show slots + 6 ≤ _; omega) G9 (lv_sub hl [2, 3, 4, 5, 6] rfl)
  · obtain ⟨w, hw⟩ := code0 hq
    have hx : outv x res.2 = v.toInt64 := by rw [hw, ← hv w hw]; rfl
    refine lv_aload_n (pc := 1285) X.1 X.2.1 dL_law_1285 rfl (lv_at hl 6 rfl) ?_
    refine lv_iconst (pc := 1286) (v := 0) X.1 X.2.1 dL_law_1286 (by decide) ?_
    refine m_laldO (pc := 1287) (i := 44) X G rfl LR_44 dL_law_1287 ?_
    refine lv_iload (pc := 1288) X.1 X.2.1 dL_law_1288 (lv_at hl 0 rfl) ?_
    refine lv_i2l (pc := 1290) X.1 X.2.1 dL_law_1290 rfl ?_
    refine W.lcmp (pc := 1291) X.1 X.2.1 dL_law_1291 ?_
    refine lv_if_eq (pc := 1292) (tgt := 1297) X.1 X.2.1 dL_law_1292 (by decide) (fun hq => ?_) (fun hq => absurd (by rw [hx]; unfold lg_cmp; simp) hq)
    refine lv_goto (pc := 1297) (tgt := 1341) X.1 X.2.1 dL_law_1297 (by decide) ?_
    exact kk ad1 z1 (outv x res.2) res.1 _ _ H locs ls hI (by show cells + 1 ≤ _; omega) (by show slots + 6 ≤ _; omega) G9 (lv_sub hl [2, 3, 4, 5, 6] rfl)
theorem g_L_160 : GoodIn G0 (wsV RL 160 RX7 yX7_meanHoles (gw yX7_meanHoles cX7_meanHoles 2 (some (FieldType.double)))) := gv_in ml_L_160 im_yX7_meanHoles se_yX7_meanHoles ini_X7 cd_yX7_meanHoles
theorem hdL_yX7_meanHoles : yX7_meanHoles.cls = RX7 ∧ yX7_meanHoles.cls ≠ "java/lang/invoke/MethodHandle" ∧ yX7_meanHoles.cls ≠ "java/lang/invoke/VarHandle" ∧ (parseMethodDescriptor yX7_meanHoles.desc).map (fun d => d.parameters.length) = some 0 := by decide +kernel
theorem g_L_164 : GoodIn G0 (wsV RL 164 RX8 yX8_meanHoles (gw yX8_meanHoles cX8_meanHoles 3 (some (FieldType.double)))) := gv_in ml_L_164 im_yX8_meanHoles se_yX8_meanHoles ini_X8 cd_yX8_meanHoles
theorem hdL_yX8_meanHoles : yX8_meanHoles.cls = RX8 ∧ yX8_meanHoles.cls ≠ "java/lang/invoke/MethodHandle" ∧ yX8_meanHoles.cls ≠ "java/lang/invoke/VarHandle" ∧ (parseMethodDescriptor yX8_meanHoles.desc).map (fun d => d.parameters.length) = some 0 := by decide +kernel
set_option maxHeartbeats 4000000 in
set_option maxRecDepth 100000 in
theorem law_meanHoles (X : CallFix p m c cL_law 9 s args G0 RL) (hfl : l.stackTraces = false) (hX : va_X bs L xs s s.heap) (hbl : bs < s.heap.size) (hbA : ¬ A bs) (hL : 3 * j + 3 ≤ L ∧ L ≤ 1536) (G : Mm D κ A ad (LM κ ad z x b) s H locs) (hl : lv_has ls 9 [(4, .int (nI (3 * j))), (0, .ref bs), (1, .ref (ad 50)), (2, .ref (ad 43)), (3, .ref (ad 44))]) (hc : cells + 9 ≤ 601024) (hs : slots + 605 ≤ 7293034) (hok : okD Inv b (F7_meanHoles b) (F8_meanHoles z)) (kk : ∀ (ad : Nat → Nat) (z : MS) (x : Int64) (b : BS) (cells' slots' : Nat) (H : Heap) (locs : List Loc) (ls : Array Slot), Inv z b → cells' ≤ cells + 9 → slots' ≤ slots + 605 → Mm D κ A ad (LM κ ad z x b) s H locs → lv_has ls 9 [(4, .int (nI (3 * j))), (0, .ref bs), (1, .ref (ad 50)), (2, .ref (ad 43)), (3, .ref (ad 44))] → W p l e room_1 s m args below meth c H locs cells' slots' Q (F0 m 1341 ls [])) : W p l e room_1 s m args below meth c H locs cells slots Q (F0 m 1300 ls []) := by
  obtain ⟨z1, v, e7, e8, hI⟩ := hok
  refine lv_aload_n (pc := 1300) X.1 X.2.1 dL_law_1300 rfl (lv_at hl 2 rfl) ?_
  refine m_calld (pc := 1301) (v := v) (M' := celB κ ad (celO κ (celM κ ad nuM z) x) b) (i := 50) (As := []) (rest := []) X G rfl (rm := rm7_meanHoles) (c7_meanHoles l D κ A ad (celO κ (celM κ ad nuM z) x) b v e7) (B_rcv (ci := 7) (okL50 _) (by decide)) rfl g_L_160 hdL_yX7_meanHoles ⟨Nat.le_of_ble_eq_true rfl, Nat.le_of_ble_eq_true rfl⟩ rfl hl rfl (lv_room (Nat.le_of_ble_eq_true rfl)) dL_law_1301 ⟨by show cells ≤ 601024; omega, by show slots ≤ 7293034; omega⟩ (fun H locs G => ?_)
  have G : Mm D κ A ad (celM κ ad (LR κ ad x b) z) s H locs := G.same (fun j => LM_eq j)
  refine lv_dstore (pc := 1304) (lv' := [(5, .double v), (4, .int (nI (3 * j))), (0, .ref bs), (1, .ref (ad 50)), (2, .ref (ad 43)), (3, .ref (ad 44))]) X.1 X.2.1 dL_law_1304 hl (by decide) rfl (fun ls hl => ?_)
  refine lv_aload_n (pc := 1306) X.1 X.2.1 dL_law_1306 rfl (lv_at hl 4 rfl) ?_
  refine m_calld (pc := 1307) (v := v) (M' := celM κ ad (LR κ ad x b) z1) (i := 43) (As := []) (rest := []) X G rfl (rm := rm8_meanHoles) (c8_meanHoles l D κ A ad (LR κ ad x b) z (z1, v) e8) celM_o rfl g_L_164 hdL_yX8_meanHoles ⟨Nat.le_of_ble_eq_true rfl, Nat.le_of_ble_eq_true rfl⟩ rfl hl rfl (lv_room (Nat.le_of_ble_eq_true rfl)) dL_law_1307 ⟨by show cells ≤ 601024; omega, by show slots ≤ 7293034; omega⟩ (fun H locs G => ?_)
  refine lv_dstore (pc := 1310) (lv' := [(7, .double v), (5, .double v), (4, .int (nI (3 * j))), (0, .ref bs), (1, .ref (ad 50)), (2, .ref (ad 43)), (3, .ref (ad 44))]) X.1 X.2.1 dL_law_1310 hl (by decide) rfl (fun ls hl => ?_)
  refine lv_dload (pc := 1312) X.1 X.2.1 dL_law_1312 (lv_at hl 1 rfl) ?_
  refine lv_dload (pc := 1314) X.1 X.2.1 dL_law_1314 (lv_at hl 0 rfl) ?_
  refine lv_dcmp (pc := 1316) X.1 X.2.1 dL_law_1316 ?_
  refine lv_if_eq (pc := 1317) (tgt := 1338) X.1 X.2.1 dL_law_1317 (by decide) (fun hq => ?_) (fun hq => ?_)
  · refine lv_goto (pc := 1338) (tgt := 1341) X.1 X.2.1 dL_law_1338 (by decide) ?_
    exact kk ad z1 x b _ _ H locs ls hI (by show cells ≤ _; omega) (by show slots ≤ _; omega) (G.same (fun j => (LM_eq j).symm)) (lv_sub hl [2, 3, 4, 5, 6] rfl)
  · skip
    refine lv_dload (pc := 1320) X.1 X.2.1 dL_law_1320 (lv_at hl 1 rfl) ?_
    refine lv_dload (pc := 1322) X.1 X.2.1 dL_law_1322 (lv_at hl 1 rfl) ?_
    refine lv_dcmp (pc := 1324) X.1 X.2.1 dL_law_1324 ?_
    refine lv_if_eq (pc := 1325) (tgt := 1336) X.1 X.2.1 dL_law_1325 (by decide) (fun hq2 => absurd hq2 hq) (fun hq2 => ?_)
    refine lv_dload (pc := 1328) X.1 X.2.1 dL_law_1328 (lv_at hl 0 rfl) ?_
    refine lv_dload (pc := 1330) X.1 X.2.1 dL_law_1330 (lv_at hl 0 rfl) ?_
    refine lv_dcmp (pc := 1332) X.1 X.2.1 dL_law_1332 ?_
    refine lv_if_ne (pc := 1333) (tgt := 1338) X.1 X.2.1 dL_law_1333 (by decide) (fun hq3 => ?_) (fun hq3 => absurd hq3 hq)
    refine lv_goto (pc := 1338) (tgt := 1341) X.1 X.2.1 dL_law_1338 (by decide) ?_
    exact kk ad z1 x b _ _ H locs ls hI (by show cells ≤ _; omega) (by show slots ≤ _; omega) (G.same (fun j => (LM_eq j).symm)) (lv_sub hl [2, 3, 4, 5, 6] rfl)
end LC
