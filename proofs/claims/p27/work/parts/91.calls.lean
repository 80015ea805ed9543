/-! THE LAW'S CALLS, over one book or two whose ghosts are known, laid by wip/p27/mkc.py -/
theorem g_L_140 : GoodIn G0 (va_wsS RL 140 yL_hangs (gw yL_hangs cL_hangs 15 (some (FieldType.boolean)))) := gsS_in ml_L_140 sm_yL_hangs ini_L cd_yL_hangs
theorem hs_yL_hangs : yL_hangs.cls ≠ "java/lang/invoke/MethodHandle" ∧ yL_hangs.cls ≠ "java/lang/invoke/VarHandle" ∧ (parseMethodDescriptor yL_hangs.desc).map (fun d => d.parameters.length) = some 1 := by decide +kernel
theorem g_L_144 : GoodIn G0 (va_wsS RL 144 yL_cell (gw yL_cell cL_cell 2 (some (FieldType.int)))) := gsS_in ml_L_144 sm_yL_cell ini_L cd_yL_cell
theorem hs_yL_cell : yL_cell.cls ≠ "java/lang/invoke/MethodHandle" ∧ yL_cell.cls ≠ "java/lang/invoke/VarHandle" ∧ (parseMethodDescriptor yL_cell.desc).map (fun d => d.parameters.length) = some 2 := by decide +kernel
theorem g_L_148 : GoodIn G0 (va_wsS RL 148 yL_acts (gw yL_acts cL_acts 5 (some (FieldType.int)))) := gsS_in ml_L_148 sm_yL_acts ini_L cd_yL_acts
theorem hs_yL_acts : yL_acts.cls ≠ "java/lang/invoke/MethodHandle" ∧ yL_acts.cls ≠ "java/lang/invoke/VarHandle" ∧ (parseMethodDescriptor yL_acts.desc).map (fun d => d.parameters.length) = some 2 := by decide +kernel
theorem g_L_152 : GoodIn G0 (va_wsS RL 152 yL_refuses (gw yL_refuses cL_refuses 4 (some (FieldType.boolean)))) := gsS_in ml_L_152 sm_yL_refuses ini_L cd_yL_refuses
theorem hs_yL_refuses : yL_refuses.cls ≠ "java/lang/invoke/MethodHandle" ∧ yL_refuses.cls ≠ "java/lang/invoke/VarHandle" ∧ (parseMethodDescriptor yL_refuses.desc).map (fun d => d.parameters.length) = some 2 := by decide +kernel
theorem g_L_156 : GoodIn G0 (va_wsS RL 156 yL_same (gw yL_same cL_same 4 (some (FieldType.boolean)))) := gsS_in ml_L_156 sm_yL_same ini_L cd_yL_same
theorem hs_yL_same : yL_same.cls ≠ "java/lang/invoke/MethodHandle" ∧ yL_same.cls ≠ "java/lang/invoke/VarHandle" ∧ (parseMethodDescriptor yL_same.desc).map (fun d => d.parameters.length) = some 2 := by decide +kernel
theorem g_L_160 : GoodIn G0 (va_wsS RL 160 yL_isLength (gw yL_isLength cL_isLength 8 (some (FieldType.boolean)))) := gsS_in ml_L_160 sm_yL_isLength ini_L cd_yL_isLength
theorem hs_yL_isLength : yL_isLength.cls ≠ "java/lang/invoke/MethodHandle" ∧ yL_isLength.cls ≠ "java/lang/invoke/VarHandle" ∧ (parseMethodDescriptor yL_isLength.desc).map (fun d => d.parameters.length) = some 3 := by decide +kernel
theorem g_L_137 : GoodIn G0 (wsV RL 137 RX7 yX7_firstError (gw yX7_firstError cX7_firstError 1 (some (FieldType.int)))) := gv_in ml_L_137 im_yX7_firstError se_yX7_firstError ini_X7 cd_yX7_firstError
theorem hd_yX7_firstError : yX7_firstError.cls = RX7 ∧ yX7_firstError.cls ≠ "java/lang/invoke/MethodHandle" ∧ yX7_firstError.cls ≠ "java/lang/invoke/VarHandle" ∧ (parseMethodDescriptor yX7_firstError.desc).map (fun d => d.parameters.length) = some 0 := by decide +kernel
theorem and7f (x : Int32) : ∃ c : Nat, c < 2 ^ 31 ∧ x &&& 2147483647 = nI c := by
  refine ⟨x.toBitVec.toNat % 2 ^ 31, Nat.mod_lt _ (by decide), ?_⟩
  apply Int32.toBitVec_inj.mp
  rw [Int32.toBitVec_and]
  show x.toBitVec &&& 2147483647#32 = BitVec.ofNat 32 (x.toBitVec.toNat % 2 ^ 31)
  apply BitVec.eq_of_toNat_eq
  rw [BitVec.toNat_and]
  show x.toBitVec.toNat &&& 2 ^ 31 - 1 = _
  rw [Nat.and_two_pow_sub_one_eq_mod, BitVec.toNat_ofNat]
  have : x.toBitVec.toNat % 2 ^ 31 < 2 ^ 31 := Nat.mod_lt _ (by decide)
  omega
section MC
variable (l : Launch) (D : va_G) (κ : Nat → ClassId) (A : Nat → Prop) (o oq : Nat)
theorem M_hangs (z : MS) : Met l yL_hangs (gw yL_hangs cL_hangs 15 (some (FieldType.boolean))) rmL_hangs (va_Pc [.ref o] (WB D κ A (B1 D κ A o (Inv z)))) (QW A (B1 D κ A o (Inv z)) 1) 0 0 A := by
  intro p e ha hc hk s m args below hf happ hpre hK
  obtain ⟨rfl, hw⟩ := hpre
  obtain ⟨ad, b, h1, ⟨t, a, pp, ss, hI⟩, hM⟩ := hw.cel
  have hI' : InvD t a pp ss z b := hI
  have met := mL_hangs l D κ A o (fun b => InvD t a pp ss z b) (EQ (fun b => InvD t a pp ss z b)) (mnV a) EQ_hE (fun b hb => V_mean hb.2.1 hb.2.2.2.1) 1 (hangs_eval hI'.2.1 (HE_of ⟨b, hI'⟩))
  exact met_imp (B' := B1 D κ A o (fun b => InvD t a pp ss z b)) (C' := B1 D κ A o (Inv z)) met (fun _ q => q) (fun H q => by obtain ⟨ad', b', q1, q2, q3⟩ := q; exact ⟨ad', b', q1, ⟨t, a, pp, ss, q2⟩, q3⟩) p e ha hc hk s m _ below hf happ ⟨rfl, hw.1, hw.2.1, hw.2.2.1, hw.2.2.2.1, ad, b, h1, hI', hM⟩ hK
theorem M_same (z : MS) : Met l yL_same (gw yL_same cL_same 4 (some (FieldType.boolean))) rmL_same (va_Pc [.ref o, .ref oq] (WB D κ A (B2 D κ A o oq (Inv z) (Inv z)))) (QW A (B2 D κ A o oq (Inv z) (Inv z)) 1) 0 0 A := by
  intro p e ha hc hk s m args below hf happ hpre hK
  obtain ⟨rfl, hw⟩ := hpre
  obtain ⟨ad1, ad2, b1, b2, h1, h2, ⟨t1, a1, p1, s1, i1⟩, ⟨t2, a2, p2, s2, i2⟩, h5, h6, h7⟩ := hw.cel
  have j1 : InvD t1 a1 p1 s1 z b1 := i1
  have j2 : InvD t2 a2 p2 s2 z b2 := i2
  have met := mL_same l D κ A o oq (fun b => InvD t1 a1 p1 s1 z b) (fun b => InvD t2 a2 p2 s2 z b) (EQ (fun b => InvD t1 a1 p1 s1 z b)) (EQ (fun b => InvD t2 a2 p2 s2 z b)) EQ_hE EQ_hE 1 (same_of j1 j2)
  exact met_imp (B' := B2 D κ A o oq (fun b => InvD t1 a1 p1 s1 z b) (fun b => InvD t2 a2 p2 s2 z b)) (C' := B2 D κ A o oq (Inv z) (Inv z)) met (fun _ q => q) (fun H q => by obtain ⟨x1, x2, c1, c2, q1, q2, q3, q4, q5, q6, q7⟩ := q; exact ⟨x1, x2, c1, c2, q1, q2, ⟨t1, a1, p1, s1, q3⟩, ⟨t2, a2, p2, s2, q4⟩, q5, q6, q7⟩) p e ha hc hk s m _ below hf happ ⟨rfl, hw.1, hw.2.1, hw.2.2.1, hw.2.2.2.1, ad1, ad2, b1, b2, h1, h2, j1, j2, h5, h6, h7⟩ hK
theorem M_refuses (hfl : l.stackTraces = false) (z : MS) {y : Nat} (hy : y < 100000) : Met l yL_refuses (gw yL_refuses cL_refuses 4 (some (FieldType.boolean))) rmL_refuses (va_Pc [.ref o, .int (nI y)] (WB D κ A (B1 D κ A o (Inv z)))) (QW A (B1 D κ A o (Inv z)) 1) 92 657 A := by
  intro p e ha hc hk s m args below hf happ hpre hK
  obtain ⟨rfl, hw⟩ := hpre
  obtain ⟨ad, b, h1, hI, hM⟩ := hw.cel
  have met := mL_refuses l hfl D κ A o (Inv z) (ER (Inv z)) ER_hE (nI y) 1 (refuses_eval ⟨b, hI⟩ (fun b hb => by obtain ⟨t, a, pp, ss, hb⟩ := hb; exact ⟨a, hb.2.1, hb.2.2.2.1⟩) hy)
  exact met p e ha hc hk s m _ below hf happ ⟨rfl, hw⟩ hK
end MC
/-- one cell of the script: some number that is not below 0 -/
abbrev rmL_cell : Room := { frames := 0, cells := 0, slots := 0, locals := 0 }
theorem M_cell (l : Launch) (D : va_G) (κ : Nat → ClassId) (A : Nat → Prop) (B : Heap → Prop) {bs L : Nat} {xs : Nat → Int32} (hL : L ≤ 260) {k : Nat} (hk : k < 2 ^ 31) : Met l yL_cell (gw yL_cell cL_cell 2 (some (FieldType.int))) rmL_cell (va_Pc [.ref bs, .int (nI k)] (fun U => WB D κ A B U ∧ va_X bs L xs U U.heap ∧ bs < U.heap.size ∧ ¬ A bs)) (va_Qi (fun (x : Int32) (_ : Unit) => ∃ c : Nat, c < 2 ^ 31 ∧ x = nI c) (fun _ t => B t.heap) A) 0 0 A := by
  refine met_ofG (own := RL) (by decide +kernel) rfl (Nat.le_of_ble_eq_true rfl) ?_
  intro p e s m below meth c ls X hr hlk G hl
  obtain ⟨G, hX, hbl, hbA⟩ := G
  have G : Wo D κ A B s s.heap [] := G
  have hl : lv_has ls 2 [(0, .ref bs), (1, .int (nI k))] := hl
  have fin : ∀ x : Int32, W p l e rmL_cell s m ([.ref bs, .int (nI k)] : List Value).toArray below meth c s.heap [] 0 0 (MQ below (va_Qi (fun (x : Int32) (_ : Unit) => ∃ c : Nat, c < 2 ^ 31 ∧ x = nI c) (fun _ t => B t.heap) A) ([.ref bs, .int (nI k)] : List Value).toArray s 0 0 A) (F0 m 22 ls [.int x]) := by
    intro x
    refine lv_ldc (pc := 22) (v := 2147483647) X.1 X.2.1 X.2.2.2.1 (X.2.2.2.2 _ wc_L_8) dL_cell_22 ?_
    refine lv_iand (pc := 24) X.1 X.2.1 dL_cell_24 ?_
    exact W.iret X.1 X.2.1 hr (fun t ht hW => ⟨⟨_, (), rfl, and7f x, by show B t.heap; rw [ht]; exact G.cel⟩, G.S.F ht⟩) G.S.2.2 dL_cell_25 hlk
  refine lv_iload_n (pc := 0) X.1 X.2.1 dL_cell_0 rfl (lv_at hl 1 rfl) ?_
  refine lv_aload_n (pc := 1) X.1 X.2.1 dL_cell_1 rfl (lv_at hl 0 rfl) ?_
  refine va_slen (pc := 2) X.1 X.2.1 hX hbl hbA G.S dL_cell_2 ?_
  refine lv_icmp_ge (pc := 3) (tgt := 12) X.1 X.2.1 dL_cell_3 (by decide) (fun hq => ?_) (fun hq => ?_)
  · refine lv_ldc (pc := 12) (v := 36919) X.1 X.2.1 X.2.2.2.1 (X.2.2.2.2 _ wc_L_7) dL_cell_12 ?_
    refine lv_iload_n (pc := 14) X.1 X.2.1 dL_cell_14 rfl (lv_at hl 1 rfl) ?_
    refine lv_bipush (pc := 15) (v := 13) X.1 X.2.1 dL_cell_15 (by decide) ?_
    refine lv_iadd (pc := 17) X.1 X.2.1 dL_cell_17 ?_
    refine lv_imul (pc := 18) X.1 X.2.1 dL_cell_18 ?_
    refine lv_bipush (pc := 19) (v := 41) X.1 X.2.1 dL_cell_19 (by decide) ?_
    refine lv_iadd (pc := 21) X.1 X.2.1 dL_cell_21 ?_
    exact fin _
  · have hkL : k < L := by
      refine Classical.byContradiction fun q => hq ?_
      exact nI_le (a := L) (b := k) (by omega) hk
    refine lv_aload_n (pc := 6) X.1 X.2.1 dL_cell_6 rfl (lv_at hl 0 rfl) ?_
    refine lv_iload_n (pc := 7) X.1 X.2.1 dL_cell_7 rfl (lv_at hl 1 rfl) ?_
    refine va_sld (pc := 8) X.1 X.2.1 hX hbl hbA G.S (vp_in_nI hkL (by omega)) dL_cell_8 ?_
    refine lv_goto (pc := 9) (tgt := 22) X.1 X.2.1 dL_cell_9 (by decide) ?_
    exact fin _
/-! the two books at their start -/
def P0 (b : BS) : Prop := InvD [] a00 [] (fun _ => none) z0_8 b
theorem P0_at : P0 b0_7 := by
  refine ⟨⟨Nat.zero_le _, rfl, hold_nil _, rfl, hold_nil _⟩, ⟨fun k t e => (by cases e), ⟨8, by decide, by decide, rfl⟩, Nat.zero_le _, Nat.zero_le _, rfl, rfl, fun x h => absurd h (by simp [a00]), 0, 0, by decide, by decide, rfl, rfl, fun j hj => absurd hj (Nat.not_lt_zero j), fun _ => ⟨rfl, rfl⟩, Nat.le_refl _, Nat.le_refl _⟩, ?_, ?_, ?_, ?_, b0_closed⟩
  · refine ⟨fun k hk => ?_, fun k hk t e => (by cases e), rfl, rfl, hold_nil _, rfl, rfl, rfl, rfl, rfl, hold_nil _⟩
    show (if (0 : Nat) = 0 then (if k = 1586 then (8 : Int32) else if k < 26 then (-1) else 0) else 0) = -1
    rw [if_pos rfl, if_neg (by omega), if_pos hk]
  · refine ⟨okL70 _, fun k hk => ?_, ⟨102, ?_, ⟨b0_ok 102 3 (by omega) rfl, rfl, hold_nil _, rfl, hold_nil _, ?_, ?_⟩⟩, ?_, ?_, ?_⟩
    · show (if 71 = 70 ∧ k = 1 then some 102 else none) = none
      rw [if_neg (by omega)]
    · show (if 70 = 70 ∧ 1 = 1 then some 102 else none) = some 102
      rw [if_pos ⟨rfl, rfl⟩]
    · show (if 102 = 70 ∧ 1 = 2 then (8 : Int32) else 0) = 0
      rw [if_neg (by omega)]
    · show (if 102 = 70 ∧ 2 = 2 then (8 : Int32) else 0) = 0
      rw [if_neg (by omega)]
    · show (if 70 = 70 ∧ 2 = 2 then (8 : Int32) else 0) = 8
      rw [if_pos ⟨rfl, rfl⟩]
    · show (if 70 = 70 ∧ 3 = 2 then (8 : Int32) else 0) = 0
      rw [if_neg (by omega)]
    · show (if 70 = 70 ∧ 4 = 2 then (8 : Int32) else 0) = 0
      rw [if_neg (by omega)]
  · refine ⟨Nat.zero_le _, rfl, ?_, fun i x e => absurd e (by simp), ⟨0, by decide, ?_, fun i x e => absurd e (by simp)⟩, fun k hk => Or.inl ⟨?_, b0_not (by omega)⟩⟩
    · show (if 63 = 70 ∧ 3 = 2 then (8 : Int32) else 0) = nI 0
      rw [if_neg (by omega)]; rfl
    · show (if 63 = 70 ∧ 2 = 2 then (8 : Int32) else 0) = nI 0
      rw [if_neg (by omega)]; rfl
    · show (if 64 = 70 ∧ k = 1 then some 102 else none) = none
      rw [if_neg (by omega)]
  · intro k hk
    refine ⟨rfl, ?_, b0_not (by omega)⟩
    show (if 65 = 70 ∧ k = 1 then some 102 else none) = none
    rw [if_neg (by omega)]
theorem P0.inv {b : BS} (h : P0 b) : Inv z0_8 b := ⟨_, _, _, _, h⟩
theorem P0_undo {b : BS} (h : P0 b) : gx cs_undo (F7_undo b) = some (b, -2) := by
  have hP := h.2.2.2.2.1
  refine rh_mk (k := 3) ?_ rfl
  unfold F7_undo F2_restoreSaved
  refine bn2_go (a := b) (b := 0) ?_ (if_no (by decide) rfl)
  exact jp_go <| if_go (by rw [hP.2.2.1]; decide) (bz_go (Or.inl rfl) rfl)
theorem P0_goBack {b : BS} (h : P0 b) : gx cs_goBack (F7_goBack b 0) = some (b, -3) := by
  have hN := h.2.2.2.2.2.1 0 (by decide)
  refine rh_mk (k := 3) ?_ rfl
  unfold F7_goBack
  rw [requireSlot_ok (by decide)]
  exact bx_in (b := ()) (v := ()) rfl <| bn_go (snapshot_eq (k := 0) (by decide)) <| on_no hN.2.1 rfl
theorem P0_count {b : BS} (h : P0 b) : nx (F7_count b 2) = some (b, 8) := by
  refine q_nx (F7_count_go (by decide) _ <| if_no (by decide) <| if_no (by decide) <| if_go rfl ?_)
  rw [h.2.2.2.1.2.2.2.1]; rfl
theorem P0_mean {b : BS} (h : P0 b) : F7_meanHoles b = some FP.dconst0 := by
  have e : cnD a00.1 26 = 0 := by decide
  rw [V_mean h.2.1 h.2.2.2.1]
  unfold mnV
  rw [if_pos e]
theorem P0_result {b : BS} (h : P0 b) : nx (F7_result b 7) = some (b, 0) := q_nx (V_result h.2.1 h.2.2.2.1 (x := 7) (by decide))
theorem P0_first {b : BS} (h : P0 b) : ∃ b', F7_firstError b = some (b', 0) ∧ P0 b' := by
  obtain ⟨b', e7, hsb, hR⟩ := F4_readText_eq (b := b) h.1.1 h.1.2.2.2.2
  refine ⟨b', ?_, InvD.sm (SmZ.rf _) hsb h⟩
  unfold F7_firstError
  rw [h.1.2.2.2.1]
  refine bn_go e7 ?_
  rw [hR.2.2.1]; rfl
