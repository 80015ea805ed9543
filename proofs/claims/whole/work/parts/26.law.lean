/-! THE LAW: its loop, its start -/
/-- every call on two states of which Inv holds answers alike in both, and Inv holds behind it -/
def LawOK (Inv : MS → BS → Prop) : Prop := ∀ z b, Inv z b → (∀ p1 : Int32, okT Inv (F7_define b p1) (F8_define z p1) [1, 2]) ∧
  (∀ p1 : Int32, okT Inv (F7_remove b p1) (F8_remove z p1) [1, 3]) ∧
  (∀ p1 p2 : Int32, okT Inv (F7_exchange b p1 p2) (F8_exchange z p1 p2) [1]) ∧
  (∀ p1 : Int32, okT Inv (F7_set b p1) (F8_set z p1) [2]) ∧
  okT Inv (F7_expand b) (F8_expand z) [2] ∧
  (∀ p1 : Int32, okT Inv (F7_append b p1) (F8_append z p1) [2, 3]) ∧
  okP Inv (F7_clearBuffer b) (F8_clearBuffer z) ∧
  okP Inv (F7_firstError b) (F8_firstError z) ∧
  (∀ p1 : Int32, okT Inv (F7_load b p1) (F8_load z p1) [1, 3]) ∧
  okT Inv (F7_undo b) (F8_undo z) [3] ∧
  (∀ p1 : Int32, okT Inv (F7_keep b p1) (F8_keep z p1) [2]) ∧
  (∀ p1 : Int32, okT Inv (F7_goBack b p1) (F8_goBack z p1) [2, 3]) ∧
  (∀ p1 p2 : Int32, okT Inv (F7_body b p1 p2) (F8_body z p1 p2) [1, 2]) ∧
  (∀ p1 p2 : Int32, okT Inv (F7_uses b p1 p2) (F8_uses z p1 p2) [1, 2]) ∧
  okP Inv (F7_rings b) (F8_rings z) ∧
  okP Inv (F7_missing b) (F8_missing z) ∧
  (∀ p1 : Int32, okT Inv (F7_chain b p1) (F8_chain z p1) [1]) ∧
  (∀ p1 : Int32, okT Inv (F7_ifDefined b p1) (F8_ifDefined z p1) [1, 2]) ∧
  (∀ p1 : Int32, okT Inv (F7_sign b p1) (F8_sign z p1) [2]) ∧
  (∀ p1 : Int32, okT Inv (F7_result b p1) (F8_result z p1) [2]) ∧
  (∀ p1 p2 : Int32, okT Inv (F7_trace b p1 p2) (F8_trace z p1 p2) [2]) ∧
  (∀ p1 p2 : Int32, okT Inv (F7_lengthOf b p1 p2) (F8_lengthOf z p1 p2) [1, 2]) ∧
  (∀ p1 : Int32, okT Inv (F7_count b p1) (F8_count z p1) [2]) ∧
  okD Inv b (F7_meanHoles b) (F8_meanHoles z)
theorem sub3_lt {L k : Nat} (hL : L ≤ 1536) (hk : k ≤ 1536) : (nI L - 3 < nI k) ↔ L < k + 3 := by
  by_cases h : 3 ≤ L
  · obtain ⟨q, rfl⟩ : ∃ q, L = q + 3 := ⟨L - 3, by omega⟩
    have e : nI (q + 3) - 3 = nI q := by
      rw [← nI_add q 3]
      exact Int32.add_sub_cancel _ _
    rw [e, nI_ltI (by omega) (by omega)]
    omega
  · have e : nI L - 3 < nI k := by
      rcases (show L = 0 ∨ L = 1 ∨ L = 2 by omega) with rfl | rfl | rfl
      · exact Int32.lt_of_lt_of_le (b := 0) (by decide) (nI_pos' (by omega))
      · exact Int32.lt_of_lt_of_le (b := 0) (by decide) (nI_pos' (by omega))
      · exact Int32.lt_of_lt_of_le (b := 0) (by decide) (nI_pos' (by omega))
    exact ⟨fun _ => by omega, fun _ => e⟩
section LP
variable {p : Program} {l : Launch} {e : Env} {s : State} {m : MethodId} {args : Array Value} {below : List Frame} {meth : Method} {c : Code} {Q : State → Prop}
variable {D : va_G} {κ : Nat → ClassId} {A : Nat → Prop} {bs L : Nat} {xs : Nat → Int32} {Inv : MS → BS → Prop}
set_option maxHeartbeats 4000000 in
set_option maxRecDepth 100000 in
theorem law_loop (HO : LawOK Inv) (X : CallFix p m c cL_law 9 s args G0 RL) (hfl : l.stackTraces = false) (hX : va_X bs L xs s s.heap) (hbl : bs < s.heap.size) (hbA : ¬ A bs) (hL : L ≤ 1536)
    (hend : ∀ (cells slots : Nat) (H : Heap) (locs : List Loc) (ls : Array Slot), cells ≤ 601024 → slots ≤ 7293034 → va_S A s.heap H locs → W p l e room_1 s m args below meth c H locs cells slots Q (F0 m 1347 ls [])) :
    ∀ (n j : Nat) (ad : Nat → Nat) (z : MS) (x : Int64) (b : BS) (cells slots : Nat) (H : Heap) (locs : List Loc) (ls : Array Slot), n + j = L / 3 → Inv z b → cells + 9 * n ≤ 601024 → slots + 605 * n ≤ 7293034 → Mm D κ A ad (LM κ ad z x b) s H locs → lv_has ls 9 [(4, .int (nI (3 * j))), (0, .ref bs), (1, .ref (ad 50)), (2, .ref (ad 43)), (3, .ref (ad 44))] → W p l e room_1 s m args below meth c H locs cells slots Q (F0 m 23 ls []) := by
  intro n
  induction n with
  | zero =>
    intro j ad z x b cells slots H locs ls hj hI hc hs G hl
    refine lv_iload (pc := 23) X.1 X.2.1 dL_law_23 (lv_at hl 0 rfl) ?_
    refine lv_aload_n (pc := 25) X.1 X.2.1 dL_law_25 rfl (lv_at hl 1 rfl) ?_
    refine va_slen (pc := 26) X.1 X.2.1 hX hbl hbA G.2.2.2.2.1 dL_law_26 ?_
    refine lv_iconst (pc := 27) (v := 3) X.1 X.2.1 dL_law_27 (by decide) ?_
    refine lv_isub (pc := 28) X.1 X.2.1 dL_law_28 ?_
    refine lv_icmp_gt (pc := 29) (tgt := 1347) X.1 X.2.1 dL_law_29 (by decide) (fun _ => ?_) (fun hq => absurd ((sub3_lt hL (by omega)).mpr (by omega)) hq)
    exact hend cells slots H locs ls (by omega) (by omega) G.2.2.2.2.1
  | succ n ih =>
    intro j ad z x b cells slots H locs ls hj hI hc hs G hl
    have tail : ∀ (ad : Nat → Nat) (z : MS) (x : Int64) (b : BS) (cells' slots' : Nat) (H : Heap) (locs : List Loc) (ls : Array Slot), Inv z b → cells' ≤ cells + 9 → slots' ≤ slots + 605 → Mm D κ A ad (LM κ ad z x b) s H locs → lv_has ls 9 [(4, .int (nI (3 * j))), (0, .ref bs), (1, .ref (ad 50)), (2, .ref (ad 43)), (3, .ref (ad 44))] → W p l e room_1 s m args below meth c H locs cells' slots' Q (F0 m 1341 ls []) := by
      intro ad z x b cells' slots' H locs ls hI h1 h2 G hl
      refine W.widen (k := cells + 9) (n := slots + 605) h1 h2 ?_
      refine lv_iinc (pc := 1341) (v := nI (3 * (j + 1))) (lv' := [(4, .int (nI (3 * (j + 1)))), (0, .ref bs), (1, .ref (ad 50)), (2, .ref (ad 43)), (3, .ref (ad 44))]) X.1 X.2.1 dL_law_1341 hl (k := 0) rfl (nI_add (3 * j) 3) (by decide) rfl (fun ls hl => ?_)
      refine lv_goto (pc := 1344) (tgt := 23) X.1 X.2.1 dL_law_1344 (by decide) ?_
      exact ih (j + 1) ad z x b _ _ H locs ls (by omega) hI (by omega) (by omega) G hl
    refine lv_iload (pc := 23) X.1 X.2.1 dL_law_23 (lv_at hl 0 rfl) ?_
    refine lv_aload_n (pc := 25) X.1 X.2.1 dL_law_25 rfl (lv_at hl 1 rfl) ?_
    refine va_slen (pc := 26) X.1 X.2.1 hX hbl hbA G.2.2.2.2.1 dL_law_26 ?_
    refine lv_iconst (pc := 27) (v := 3) X.1 X.2.1 dL_law_27 (by decide) ?_
    refine lv_isub (pc := 28) X.1 X.2.1 dL_law_28 ?_
    refine lv_icmp_gt (pc := 29) (tgt := 1347) X.1 X.2.1 dL_law_29 (by decide) (fun hq => absurd ((sub3_lt hL (by omega)).mp hq) (by omega)) (fun _ => ?_)
    refine lv_aload_n (pc := 32) X.1 X.2.1 dL_law_32 rfl (lv_at hl 1 rfl) ?_
    refine lv_iload (pc := 33) X.1 X.2.1 dL_law_33 (lv_at hl 0 rfl) ?_
    refine va_sld (pc := 35) X.1 X.2.1 hX hbl hbA G.2.2.2.2.1 (vp_in_nI (by omega) (by omega)) dL_law_35 ?_
    refine lv_bipush (pc := 36) (v := 31) X.1 X.2.1 dL_law_36 (by decide) ?_
    refine lv_iand (pc := 38) X.1 X.2.1 dL_law_38 ?_
    generalize xs (nI (3 * j)).toNatClampNeg &&& 31 = op
    have hj3 : 3 * j + 3 ≤ L ∧ L ≤ 1536 := by omega
    have hS := HO z b hI
    by_cases hc0 : op = 0
    · refine lv_tableIn (pc := 39) (tgt := 148) (off := 109) X.1 X.2.1 dL_law_39 (by rw [hc0]; decide) (by rw [hc0]; decide) (by rw [hc0]; decide +kernel) (by decide) ?_
      exact law_define X hfl hX hbl hbA hj3 G hl (by omega) (by omega) (hS.1 _) tail
    · skip
      by_cases hc1 : op = 1
      · refine lv_tableIn (pc := 39) (tgt := 204) (off := 165) X.1 X.2.1 dL_law_39 (by rw [hc1]; decide) (by rw [hc1]; decide) (by rw [hc1]; decide +kernel) (by decide) ?_
        exact law_remove X hfl hX hbl hbA hj3 G hl (by omega) (by omega) (hS.2.1 _) tail
      · skip
        by_cases hc2 : op = 2
        · refine lv_tableIn (pc := 39) (tgt := 260) (off := 221) X.1 X.2.1 dL_law_39 (by rw [hc2]; decide) (by rw [hc2]; decide) (by rw [hc2]; decide +kernel) (by decide) ?_
          exact law_exchange X hfl hX hbl hbA hj3 G hl (by omega) (by omega) (hS.2.2.1 _ _) tail
        · skip
          by_cases hc3 : op = 3
          · refine lv_tableIn (pc := 39) (tgt := 328) (off := 289) X.1 X.2.1 dL_law_39 (by rw [hc3]; decide) (by rw [hc3]; decide) (by rw [hc3]; decide +kernel) (by decide) ?_
            exact law_set X hfl hX hbl hbA hj3 G hl (by omega) (by omega) (hS.2.2.2.1 _) tail
          · skip
            by_cases hc4 : op = 4
            · refine lv_tableIn (pc := 39) (tgt := 384) (off := 345) X.1 X.2.1 dL_law_39 (by rw [hc4]; decide) (by rw [hc4]; decide) (by rw [hc4]; decide +kernel) (by decide) ?_
              exact law_expand X hfl hX hbl hbA hj3 G hl (by omega) (by omega) (hS.2.2.2.2.1) tail
            · skip
              by_cases hc5 : op = 5
              · refine lv_tableIn (pc := 39) (tgt := 428) (off := 389) X.1 X.2.1 dL_law_39 (by rw [hc5]; decide) (by rw [hc5]; decide) (by rw [hc5]; decide +kernel) (by decide) ?_
                exact law_append X hfl hX hbl hbA hj3 G hl (by omega) (by omega) (hS.2.2.2.2.2.1 _) tail
              · skip
                by_cases hc6 : op = 6
                · refine lv_tableIn (pc := 39) (tgt := 484) (off := 445) X.1 X.2.1 dL_law_39 (by rw [hc6]; decide) (by rw [hc6]; decide) (by rw [hc6]; decide +kernel) (by decide) ?_
                  exact law_clearBuffer X hfl hX hbl hbA hj3 G hl (by omega) (by omega) (hS.2.2.2.2.2.2.1) tail
                · skip
                  by_cases hc7 : op = 7
                  · refine lv_tableIn (pc := 39) (tgt := 497) (off := 458) X.1 X.2.1 dL_law_39 (by rw [hc7]; decide) (by rw [hc7]; decide) (by rw [hc7]; decide +kernel) (by decide) ?_
                    exact law_firstError X hfl hX hbl hbA hj3 G hl (by omega) (by omega) (hS.2.2.2.2.2.2.2.1) tail
                  · skip
                    by_cases hc8 : op = 8
                    · refine lv_tableIn (pc := 39) (tgt := 510) (off := 471) X.1 X.2.1 dL_law_39 (by rw [hc8]; decide) (by rw [hc8]; decide) (by rw [hc8]; decide +kernel) (by decide) ?_
                      exact law_load X hfl hX hbl hbA hj3 G hl (by omega) (by omega) (hS.2.2.2.2.2.2.2.2.1 _) tail
                    · skip
                      by_cases hc9 : op = 9
                      · refine lv_tableIn (pc := 39) (tgt := 566) (off := 527) X.1 X.2.1 dL_law_39 (by rw [hc9]; decide) (by rw [hc9]; decide) (by rw [hc9]; decide +kernel) (by decide) ?_
                        exact law_undo X hfl hX hbl hbA hj3 G hl (by omega) (by omega) (hS.2.2.2.2.2.2.2.2.2.1) tail
                      · skip
                        by_cases hc10 : op = 10
                        · refine lv_tableIn (pc := 39) (tgt := 610) (off := 571) X.1 X.2.1 dL_law_39 (by rw [hc10]; decide) (by rw [hc10]; decide) (by rw [hc10]; decide +kernel) (by decide) ?_
                          exact law_keep X hfl hX hbl hbA hj3 G hl (by omega) (by omega) (hS.2.2.2.2.2.2.2.2.2.2.1 _) tail
                        · skip
                          by_cases hc11 : op = 11
                          · refine lv_tableIn (pc := 39) (tgt := 666) (off := 627) X.1 X.2.1 dL_law_39 (by rw [hc11]; decide) (by rw [hc11]; decide) (by rw [hc11]; decide +kernel) (by decide) ?_
                            exact law_goBack X hfl hX hbl hbA hj3 G hl (by omega) (by omega) (hS.2.2.2.2.2.2.2.2.2.2.2.1 _) tail
                          · skip
                            by_cases hc12 : op = 12
                            · refine lv_tableIn (pc := 39) (tgt := 722) (off := 683) X.1 X.2.1 dL_law_39 (by rw [hc12]; decide) (by rw [hc12]; decide) (by rw [hc12]; decide +kernel) (by decide) ?_
                              exact law_body X hfl hX hbl hbA hj3 G hl (by omega) (by omega) (hS.2.2.2.2.2.2.2.2.2.2.2.2.1 _ _) tail
                            · skip
                              by_cases hc13 : op = 13
                              · refine lv_tableIn (pc := 39) (tgt := 790) (off := 751) X.1 X.2.1 dL_law_39 (by rw [hc13]; decide) (by rw [hc13]; decide) (by rw [hc13]; decide +kernel) (by decide) ?_
                                exact law_uses X hfl hX hbl hbA hj3 G hl (by omega) (by omega) (hS.2.2.2.2.2.2.2.2.2.2.2.2.2.1 _ _) tail
                              · skip
                                by_cases hc14 : op = 14
                                · refine lv_tableIn (pc := 39) (tgt := 858) (off := 819) X.1 X.2.1 dL_law_39 (by rw [hc14]; decide) (by rw [hc14]; decide) (by rw [hc14]; decide +kernel) (by decide) ?_
                                  exact law_rings X hfl hX hbl hbA hj3 G hl (by omega) (by omega) (hS.2.2.2.2.2.2.2.2.2.2.2.2.2.2.1) tail
                                · skip
                                  by_cases hc15 : op = 15
                                  · refine lv_tableIn (pc := 39) (tgt := 871) (off := 832) X.1 X.2.1 dL_law_39 (by rw [hc15]; decide) (by rw [hc15]; decide) (by rw [hc15]; decide +kernel) (by decide) ?_
                                    exact law_missing X hfl hX hbl hbA hj3 G hl (by omega) (by omega) (hS.2.2.2.2.2.2.2.2.2.2.2.2.2.2.2.1) tail
                                  · skip
                                    by_cases hc16 : op = 16
                                    · refine lv_tableIn (pc := 39) (tgt := 884) (off := 845) X.1 X.2.1 dL_law_39 (by rw [hc16]; decide) (by rw [hc16]; decide) (by rw [hc16]; decide +kernel) (by decide) ?_
                                      exact law_chain X hfl hX hbl hbA hj3 G hl (by omega) (by omega) (hS.2.2.2.2.2.2.2.2.2.2.2.2.2.2.2.2.1 _) tail
                                    · skip
                                      by_cases hc17 : op = 17
                                      · refine lv_tableIn (pc := 39) (tgt := 940) (off := 901) X.1 X.2.1 dL_law_39 (by rw [hc17]; decide) (by rw [hc17]; decide) (by rw [hc17]; decide +kernel) (by decide) ?_
                                        exact law_ifDefined X hfl hX hbl hbA hj3 G hl (by omega) (by omega) (hS.2.2.2.2.2.2.2.2.2.2.2.2.2.2.2.2.2.1 _) tail
                                      · skip
                                        by_cases hc18 : op = 18
                                        · refine lv_tableIn (pc := 39) (tgt := 996) (off := 957) X.1 X.2.1 dL_law_39 (by rw [hc18]; decide) (by rw [hc18]; decide) (by rw [hc18]; decide +kernel) (by decide) ?_
                                          exact law_sign X hfl hX hbl hbA hj3 G hl (by omega) (by omega) (hS.2.2.2.2.2.2.2.2.2.2.2.2.2.2.2.2.2.2.1 _) tail
                                        · skip
                                          by_cases hc19 : op = 19
                                          · refine lv_tableIn (pc := 39) (tgt := 1052) (off := 1013) X.1 X.2.1 dL_law_39 (by rw [hc19]; decide) (by rw [hc19]; decide) (by rw [hc19]; decide +kernel) (by decide) ?_
                                            exact law_result X hfl hX hbl hbA hj3 G hl (by omega) (by omega) (hS.2.2.2.2.2.2.2.2.2.2.2.2.2.2.2.2.2.2.2.1 _) tail
                                          · skip
                                            by_cases hc20 : op = 20
                                            · refine lv_tableIn (pc := 39) (tgt := 1108) (off := 1069) X.1 X.2.1 dL_law_39 (by rw [hc20]; decide) (by rw [hc20]; decide) (by rw [hc20]; decide +kernel) (by decide) ?_
                                              exact law_trace X hfl hX hbl hbA hj3 G hl (by omega) (by omega) (hS.2.2.2.2.2.2.2.2.2.2.2.2.2.2.2.2.2.2.2.2.1 _ _) tail
                                            · skip
                                              by_cases hc21 : op = 21
                                              · refine lv_tableIn (pc := 39) (tgt := 1176) (off := 1137) X.1 X.2.1 dL_law_39 (by rw [hc21]; decide) (by rw [hc21]; decide) (by rw [hc21]; decide +kernel) (by decide) ?_
                                                exact law_lengthOf X hfl hX hbl hbA hj3 G hl (by omega) (by omega) (hS.2.2.2.2.2.2.2.2.2.2.2.2.2.2.2.2.2.2.2.2.2.1 _ _) tail
                                              · skip
                                                by_cases hc22 : op = 22
                                                · refine lv_tableIn (pc := 39) (tgt := 1244) (off := 1205) X.1 X.2.1 dL_law_39 (by rw [hc22]; decide) (by rw [hc22]; decide) (by rw [hc22]; decide +kernel) (by decide) ?_
                                                  exact law_count X hfl hX hbl hbA hj3 G hl (by omega) (by omega) (hS.2.2.2.2.2.2.2.2.2.2.2.2.2.2.2.2.2.2.2.2.2.2.1 _) tail
                                                · skip
                                                  by_cases hc23 : op = 23
                                                  · refine lv_tableIn (pc := 39) (tgt := 1300) (off := 1261) X.1 X.2.1 dL_law_39 (by rw [hc23]; decide) (by rw [hc23]; decide) (by rw [hc23]; decide +kernel) (by decide) ?_
                                                    exact law_meanHoles X hfl hX hbl hbA hj3 G hl (by omega) (by omega) (hS.2.2.2.2.2.2.2.2.2.2.2.2.2.2.2.2.2.2.2.2.2.2.2) tail
                                                  · skip
                                                    refine lv_tableOut (pc := 39) (tgt := 1341) X.1 X.2.1 dL_law_39 (sw_out (n := 23) (by decide) (fun k hk => ?_)) (by decide) ?_
                                                    · rcases (show k = 0 ∨ k = 1 ∨ k = 2 ∨ k = 3 ∨ k = 4 ∨ k = 5 ∨ k = 6 ∨ k = 7 ∨ k = 8 ∨ k = 9 ∨ k = 10 ∨ k = 11 ∨ k = 12 ∨ k = 13 ∨ k = 14 ∨ k = 15 ∨ k = 16 ∨ k = 17 ∨ k = 18 ∨ k = 19 ∨ k = 20 ∨ k = 21 ∨ k = 22 ∨ k = 23 by omega) with rfl | rfl | rfl | rfl | rfl | rfl | rfl | rfl | rfl | rfl | rfl | rfl | rfl | rfl | rfl | rfl | rfl | rfl | rfl | rfl | rfl | rfl | rfl | rfl
                                                      · exact hc0
                                                      · exact hc1
                                                      · exact hc2
                                                      · exact hc3
                                                      · exact hc4
                                                      · exact hc5
                                                      · exact hc6
                                                      · exact hc7
                                                      · exact hc8
                                                      · exact hc9
                                                      · exact hc10
                                                      · exact hc11
                                                      · exact hc12
                                                      · exact hc13
                                                      · exact hc14
                                                      · exact hc15
                                                      · exact hc16
                                                      · exact hc17
                                                      · exact hc18
                                                      · exact hc19
                                                      · exact hc20
                                                      · exact hc21
                                                      · exact hc22
                                                      · exact hc23
                                                    · exact tail ad z x b _ _ H locs ls hI (by omega) (by omega) G hl
end LP
/-- the class's state at its start -/
def b0_7 : BS := (fun a k => if a = 70 ∧ k = 2 then 8 else 0, fun a k => if a = 70 ∧ k = 1 then some 102 else none, fun k => if k = 1 then 1 else 0)
theorem b0_closed : Closed b0_7 := by
  intro i k t h
  unfold b0_7 at h
  dsimp only at h
  by_cases c : i = 70 ∧ k = 1
  · rw [if_pos c] at h
    cases h
    rw [lvB_iff]
    exact Or.inr (Or.inr (Or.inr (Or.inr ⟨by omega, by omega, by show (102 - 100) / 5 < 1; omega⟩)))
  · rw [if_neg c] at h
    cases h
theorem b0_lv {j : Nat} : lvB b0_7.2.2 j = true ↔ (50 ≤ j ∧ j < 66) ∨ (70 ≤ j ∧ j < 72) ∨ (102 ≤ j ∧ j < 105) := by
  rw [lvB_iff]
  have e0 : b0_7.2.2 0 = 0 := rfl
  have e1 : b0_7.2.2 1 = 1 := rfl
  have e2 : 72 ≤ j → b0_7.2.2 (j - j % 2) = 0 := fun h => if_neg (by omega)
  rw [e0, e1]
  constructor
  · rintro (h | h | h | h | h)
    · exact Or.inl h
    · exact Or.inr (Or.inl h)
    · rw [e2 h.1] at h; omega
    · omega
    · omega
  · rintro (h | h | h)
    · exact Or.inl h
    · exact Or.inr (Or.inl h)
    · exact Or.inr (Or.inr (Or.inr (Or.inr ⟨by omega, by omega, by omega⟩)))
theorem b0_world {κ : Nat → ClassId} {ad' : Nat → Nat} {x0 : va_E} (j : Nat) : celB κ ad' (fun _ => none) b0_7 j = (upO (upO (upO (upO (upO (upO (upO (upO (upO (upO (upO (upO (upO (upO (upO (upO (upO (upO (upO (upO (upO (upO (upO (upO (upO (upO (upO (upO (fun _ => none) 50 x0) 70 (.inr (5, [.null, .null, .int 0, .int 0, .int 0]))) 71 (.inl (κ 2, 26, .inr (.inr (.inr (.inr (fun _ => none))))))) 102 (.inr (3, [.null, .int 0, .int 0, .null]))) 103 (.inl (κ 0, 0, .inl (fun _ => 0)))) 104 (.inl (κ 0, 0, .inl (fun _ => 0)))) 102 (.inr (3, [(.ref (ad' 103)), .int 0, .int 0, (.ref (ad' 104))]))) 70 (.inr (5, [(.ref (ad' 71)), (.ref (ad' 102)), .int 8, .int 0, .int 0]))) 63 (.inr (2, [.null, .null, .int 0, .int 0]))) 64 (.inl (κ 3, 6, .inr (.inr (.inr (.inr (fun _ => none))))))) 65 (.inl (κ 3, 2, .inr (.inr (.inr (.inr (fun _ => none))))))) 63 (.inr (2, [.ref (ad' 64), .ref (ad' 65), .int 0, .int 0]))) 51 (.inl (κ 0, 60, .inl (fun _ => 0)))) 52 (.inr (4, [.null, .int 0, .int 0, .int 0, .int 0, .int 0, .int 0, .int 0, .int 0, .int 0]))) 53 (.inl (κ 0, 60, .inl (fun _ => 0)))) 52 (.inr (4, [.ref (ad' 53), .int 0, .int 0, .int 0, .int 0, .int 0, .int 0, .int 0, .int 0, .int 0]))) 54 (.inr (0, [.null, .null, .int 0]))) 55 (.inl (κ 0, 26, .inl (fun _ => 0)))) 56 (.inl (κ 0, 26, .inl (fun _ => 0)))) 54 (.inr (0, [.ref (ad' 55), .ref (ad' 56), .int 0]))) 57 (.inr (1, [.null, .null, .null, .null, .null, .int 0, .int 0, .int 0, .int 0, .int 0, .int 0, .int 0, .int 0, .int 0]))) 58 (.inl (κ 0, 28380, .inl (fun _ => 0)))) 59 (.inl (κ 0, 854, .inl (fun _ => 0)))) 60 (.inl (κ 0, 780, .inl (fun _ => 0)))) 61 (.inl (κ 0, 780, .inl (fun _ => 0)))) 62 (.inl (κ 0, 360, .inl (fun _ => 0)))) 57 (.inr (1, [.ref (ad' 58), .ref (ad' 59), .ref (ad' 60), .ref (ad' 61), .ref (ad' 62), .int 0, .int 0, .int 0, .int 0, .int 0, .int 0, .int 0, .int 0, .int 0]))) 50 (.inr (7, [.ref (ad' 70), .ref (ad' 63), .ref (ad' 51), .ref (ad' 52), .ref (ad' 54), .ref (ad' 57), .int 0]))) j := by
  by_cases c : j < 50
  · have e : celB κ ad' (fun _ => none) b0_7 j = none := by unfold celB; rw [if_pos c]
    rw [e]
    simp only [upO, show ¬ j = 50 by omega, show ¬ j = 51 by omega, show ¬ j = 52 by omega, show ¬ j = 53 by omega, show ¬ j = 54 by omega, show ¬ j = 55 by omega, show ¬ j = 56 by omega, show ¬ j = 57 by omega, show ¬ j = 58 by omega, show ¬ j = 59 by omega, show ¬ j = 60 by omega, show ¬ j = 61 by omega, show ¬ j = 62 by omega, show ¬ j = 63 by omega, show ¬ j = 64 by omega, show ¬ j = 65 by omega, show ¬ j = 70 by omega, show ¬ j = 71 by omega, show ¬ j = 102 by omega, show ¬ j = 103 by omega, show ¬ j = 104 by omega, if_false]
  · by_cases d : lvB b0_7.2.2 j = true
    · rw [celB_at d]
      rw [b0_lv] at d
      rcases (show j = 50 ∨ j = 51 ∨ j = 52 ∨ j = 53 ∨ j = 54 ∨ j = 55 ∨ j = 56 ∨ j = 57 ∨ j = 58 ∨ j = 59 ∨ j = 60 ∨ j = 61 ∨ j = 62 ∨ j = 63 ∨ j = 64 ∨ j = 65 ∨ j = 70 ∨ j = 71 ∨ j = 102 ∨ j = 103 ∨ j = 104 by omega) with rfl | rfl | rfl | rfl | rfl | rfl | rfl | rfl | rfl | rfl | rfl | rfl | rfl | rfl | rfl | rfl | rfl | rfl | rfl | rfl | rfl
      · simp only [upO]; rfl
      · simp only [upO]; rfl
      · simp only [upO]; rfl
      · simp only [upO]; rfl
      · simp only [upO]; rfl
      · simp only [upO]; rfl
      · simp only [upO]; rfl
      · simp only [upO]; rfl
      · simp only [upO]; rfl
      · simp only [upO]; rfl
      · simp only [upO]; rfl
      · simp only [upO]; rfl
      · simp only [upO]; rfl
      · simp only [upO]; rfl
      · simp only [upO]; rfl
      · simp only [upO]; rfl
      · simp only [upO]; rfl
      · simp only [upO]; rfl
      · simp only [upO]; rfl
      · simp only [upO]; rfl
      · simp only [upO]; rfl
    · rw [celB_not (by omega) (lvB_false d)]
      rw [b0_lv] at d
      simp only [upO, show ¬ j = 50 by omega, show ¬ j = 51 by omega, show ¬ j = 52 by omega, show ¬ j = 53 by omega, show ¬ j = 54 by omega, show ¬ j = 55 by omega, show ¬ j = 56 by omega, show ¬ j = 57 by omega, show ¬ j = 58 by omega, show ¬ j = 59 by omega, show ¬ j = 60 by omega, show ¬ j = 61 by omega, show ¬ j = 62 by omega, show ¬ j = 63 by omega, show ¬ j = 64 by omega, show ¬ j = 65 by omega, show ¬ j = 70 by omega, show ¬ j = 71 by omega, show ¬ j = 102 by omega, show ¬ j = 103 by omega, show ¬ j = 104 by omega, if_false]
