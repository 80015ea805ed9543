/-! THE CLASS, laid by wip/whole/walkb.py -/
abbrev rm1_finishCall (fr lo : Nat) : Room := { frames := fr + 2, cells := 0, slots := 0, locals := lo + 55 }
noncomputable def F1_finishCall (rec : BS → Nat → Nat → Int32 → Int32 → Int32 → Int32 → Option BS) (b : BS) (p0 : Nat) (p1 : Int32) : Option (BS) :=
  bd ((b.1 57 7) - 1) fun x1 =>
  jp (fun (_ : Unit) => bz 1 <|
  bd (setI b 57 13 1) fun b114 =>
  some b114) fun k5 =>
  if ¬ (b.1 57 13) = 0 then
  k5 ()
  else
  if x1 < 0 then
  k5 ()
  else
  if x1 < 780 then
  bd (setI b 57 7 x1) fun b16 =>
  rd (b16.1 60) 780 x1 fun x19 =>
  rd (b16.1 61) 780 x1 fun x23 =>
  bd ((b16.1 57 6) - x23) fun x27 =>
  jp (fun (x39 : Int32) => bd (b16.1 57 5) fun x46 =>
  bn (F1_setMark b16) fun b52 =>
  bn (F1_endingOf b52 p0 x19 p1) fun x55 =>
  jp (fun (b72 : BS) => bd ((b72.1 57 5) - x46) fun x77 =>
  bn (F1_moveSigns b72 x46 x39 x77) fun b83 =>
  bd (setI b83 57 5 (x39 + x77)) fun b84 =>
  bd (setI b84 57 6 x23) fun b87 =>
  bn (F1_takesMore b87 0) fun x92 =>
  jp (fun (b102 : BS) => bn (F1_listCall b102 x19 x55 p1 x27 x77 (x46 - x39)) fun b109 =>
  some b109) fun k93 =>
  if ¬ x92 = 0 then
  k93 b87
  else
  bz 1 <|
  bd (setI b87 57 13 1) fun b98 =>
  k93 b98) fun k58 =>
  if ¬ x55 = 0 then
  bn (F1_signOf x55) fun x63 =>
  bn (F1_writeSign b52 x63) fun b68 =>
  k58 b68
  else
  bn (F1_writeBody rec b52 p0 x19 (p1 + 1) x23 x27) fun b71 =>
  k58 b71) fun k31 =>
  if x27 ≤ 0 then
  k31 (b16.1 57 5)
  else
  bn (F1_markAt b16 x23) fun x38 =>
  k31 x38
  else
  k5 ()
set_option maxHeartbeats 4000000 in
set_option maxRecDepth 100000 in
theorem c1_finishCall (l : Launch) (D : va_G) (κ : Nat → ClassId) (A : Nat → Prop) (ad : Nat → Nat) (r0 : Nat → Option va_E) (rec : BS → Nat → Nat → Int32 → Int32 → Int32 → Int32 → Option BS) (fr lo : Nat) (hfr : 10 ≤ fr) (hlo : 500 ≤ lo) (hrec : ∀ (b : BS) (p0 p1 : Nat) (p2 p3 p4 p5 : Int32) (res : BS), rec b p0 p1 p2 p3 p4 p5 = some res → Met l yX1_writeText (gw yX1_writeText cX1_writeText 10 none) { frames := fr, cells := 0, slots := 0, locals := lo } (va_Pc [.ref (ad 57), .ref (ad p0), .ref (ad p1), .int p2, .int p3, .int p4, .int p5] (MW D κ A ad (celB κ ad r0 b))) (QV D κ A ad (celB κ ad r0 res)) 0 0 A) (b : BS) (p0 : Nat) (p1 : Int32) (res : BS) (h : F1_finishCall rec b p0 p1 = some res) : Met l yX1_finishCall (gw yX1_finishCall cX1_finishCall 11 none) (rm1_finishCall fr lo) (va_Pc [.ref (ad 57), .ref (ad p0), .int p1] (MW D κ A ad (celB κ ad r0 b))) (QV D κ A ad (celB κ ad r0 res)) 0 0 A := by
  refine met_of (own := RX1) (by decide +kernel) rfl (Nat.le_of_ble_eq_true rfl) ?_
  intro p e s m below meth c ls X hr hlk G hl
  have hl : lv_has ls 11 [(0, .ref (ad 57)), (1, .ref (ad p0)), (2, .int p1)] := hl
  unfold F1_finishCall at h
  refine lv_aload_n (pc := 0) X.1 X.2.1 dX1_finishCall_0 rfl (lv_at hl 0 rfl) ?_
  refine B_geti (pc := 1) (i := 57) (k := 7) X G rfl clX1 (okL57 _) (by decide) rfl rfl fl_X1_34 dX1_finishCall_1 ?_
  refine lv_iconst (pc := 4) (v := 1) X.1 X.2.1 dX1_finishCall_4 (by decide) ?_
  refine lv_isub (pc := 5) X.1 X.2.1 dX1_finishCall_5 ?_
  refine lv_topi (fun x1 ex1 => ?_)
  have h2 := bd_at h ex1
  refine lv_istore_n (pc := 6) (lv' := [(3, .int x1), (0, .ref (ad 57)), (1, .ref (ad p0)), (2, .int p1)]) X.1 X.2.1 dX1_finishCall_6 rfl hl (by decide) rfl (fun ls3 hl4 => ?_)
  refine lv_aload_n (pc := 7) X.1 X.2.1 dX1_finishCall_7 rfl (lv_at hl4 1 rfl) ?_
  refine B_geti (pc := 8) (i := 57) (k := 13) X G rfl clX1 (okL57 _) (by decide) rfl rfl fl_X1_53 dX1_finishCall_8 ?_
  obtain ⟨k5, ek5, h6⟩ := jp_some h2
  have hk5 : ∀  (H : Heap) (locs : List Loc) (ls : Array Slot), k5 () = some res → Mm D κ A ad (celB κ ad r0 b) s H locs → lv_has ls 11 [(0, .ref (ad 57))] → W p l e (rm1_finishCall fr lo) s m [.ref (ad 57), .ref (ad p0), .int p1].toArray below meth c H locs 0 0 (MQ below (QV D κ A ad (celB κ ad r0 res)) [.ref (ad 57), .ref (ad p0), .int p1].toArray s 0 0 A) (F0 m 25 ls []) := by
    intro  H locs ls113 h110 G111 hl112
    rw [ek5] at h110
    try dsimp only at h110
    refine lv_aload_n (pc := 25) X.1 X.2.1 dX1_finishCall_25 rfl (lv_at hl112 0 rfl) ?_
    refine lv_iconst (pc := 26) (v := 1) X.1 X.2.1 dX1_finishCall_26 (by decide) ?_
    obtain ⟨hb116, h110_z⟩ := bz_some h110
    obtain ⟨b114, eb114, h115⟩ := bd_some h110_z
    refine B_putz (pc := 27) (i := 57) (k := 13) (v := 1) X G111 eb114 hb116 rfl clX1 (okL57 _) (by decide) rfl rfl rfl rfl fl_X1_53 dX1_finishCall_27 (fun H locs G117 => ?_)
    have nb114 : b114.2.2 = b.2.2 := by rw [eb114]; rfl
    have h115_i := Option.some.inj h115
    exact m_vret (pc := 30) X G117 hr hlk dX1_finishCall_30 (congrArg (celB κ ad r0) h115_i)
  refine lv_if_ne (pc := 11) (tgt := 25) X.1 X.2.1 dX1_finishCall_11 (by decide) (fun hc7 => ?_) (fun hc7 => ?_)
  · have h8 := it_pos h6 hc7
    exact hk5  _ _ ls3 h8 G (lv_sub hl4 [1] rfl)
  · have h9 := it_neg h6 (fun q => q hc7)
    refine lv_iload_n (pc := 14) X.1 X.2.1 dX1_finishCall_14 rfl (lv_at hl4 0 rfl) ?_
    refine lv_if_lt (pc := 15) (tgt := 25) X.1 X.2.1 dX1_finishCall_15 (by decide) (fun hc10 => ?_) (fun hc10 => ?_)
    · have h11 := it_pos h9 hc10
      exact hk5  _ _ ls3 h11 G (lv_sub hl4 [1] rfl)
    · have h12 := it_neg h9 hc10
      refine lv_iload_n (pc := 18) X.1 X.2.1 dX1_finishCall_18 rfl (lv_at hl4 0 rfl) ?_
      refine lv_sipush (pc := 19) (v := 780) X.1 X.2.1 dX1_finishCall_19 (by decide) ?_
      refine lv_icmp_lt (pc := 22) (tgt := 31) X.1 X.2.1 dX1_finishCall_22 (by decide) (fun hc13 => ?_) (fun hc13 => ?_)
      · have h14 := it_pos h12 hc13
        refine lv_aload_n (pc := 31) X.1 X.2.1 dX1_finishCall_31 rfl (lv_at hl4 1 rfl) ?_
        refine lv_iload_n (pc := 32) X.1 X.2.1 dX1_finishCall_32 rfl (lv_at hl4 0 rfl) ?_
        obtain ⟨b16, eb16, h17⟩ := bd_some h14
        refine B_puti (pc := 33) (i := 57) (k := 7) (v := x1) X G eb16 rfl clX1 (okL57 _) (by decide) rfl rfl rfl rfl fl_X1_34 dX1_finishCall_33 (fun H locs G18 => ?_)
        have nb16 : b16.2.2 = b.2.2 := by rw [eb16]; rfl
        refine lv_aload_n (pc := 36) X.1 X.2.1 dX1_finishCall_36 rfl (lv_at hl4 1 rfl) ?_
        refine B_getc (pc := 37) (i := 57) (k := 2) (j := 60) X G18 rfl clX1 (okL57 _) (by decide) rfl fl_X1_18 dX1_finishCall_37 ?_
        refine lv_iload_n (pc := 40) X.1 X.2.1 dX1_finishCall_40 rfl (lv_at hl4 0 rfl) ?_
        have h17_r := rd_some h17
        refine B_iald (pc := 41) (i := 60) (n := 780) X G18 rfl (okL60 _) rfl h17_r.1 dX1_finishCall_41 ?_
        refine lv_topi (fun x19 ex19 => ?_)
        have h20 := h17_r.2
        rw [← ex19] at h20
        refine lv_istore (pc := 42) (lv' := [(4, .int x19), (3, .int x1), (0, .ref (ad 57)), (1, .ref (ad p0)), (2, .int p1)]) X.1 X.2.1 dX1_finishCall_42 hl4 (by decide) rfl (fun ls21 hl22 => ?_)
        refine lv_aload_n (pc := 44) X.1 X.2.1 dX1_finishCall_44 rfl (lv_at hl22 2 rfl) ?_
        refine B_getc (pc := 45) (i := 57) (k := 3) (j := 61) X G18 rfl clX1 (okL57 _) (by decide) rfl fl_X1_21 dX1_finishCall_45 ?_
        refine lv_iload_n (pc := 48) X.1 X.2.1 dX1_finishCall_48 rfl (lv_at hl22 1 rfl) ?_
        have h20_r := rd_some h20
        refine B_iald (pc := 49) (i := 61) (n := 780) X G18 rfl (okL61 _) rfl h20_r.1 dX1_finishCall_49 ?_
        refine lv_topi (fun x23 ex23 => ?_)
        have h24 := h20_r.2
        rw [← ex23] at h24
        refine lv_istore (pc := 50) (lv' := [(5, .int x23), (4, .int x19), (3, .int x1), (0, .ref (ad 57)), (1, .ref (ad p0)), (2, .int p1)]) X.1 X.2.1 dX1_finishCall_50 hl22 (by decide) rfl (fun ls25 hl26 => ?_)
        refine lv_aload_n (pc := 52) X.1 X.2.1 dX1_finishCall_52 rfl (lv_at hl26 3 rfl) ?_
        refine B_geti (pc := 53) (i := 57) (k := 6) X G18 rfl clX1 (okL57 _) (by decide) rfl rfl fl_X1_31 dX1_finishCall_53 ?_
        refine lv_iload (pc := 56) X.1 X.2.1 dX1_finishCall_56 (lv_at hl26 0 rfl) ?_
        refine lv_isub (pc := 58) X.1 X.2.1 dX1_finishCall_58 ?_
        refine lv_topi (fun x27 ex27 => ?_)
        have h28 := bd_at h24 ex27
        refine lv_istore (pc := 59) (lv' := [(6, .int x27), (5, .int x23), (4, .int x19), (3, .int x1), (0, .ref (ad 57)), (1, .ref (ad p0)), (2, .int p1)]) X.1 X.2.1 dX1_finishCall_59 hl26 (by decide) rfl (fun ls29 hl30 => ?_)
        refine lv_iload (pc := 61) X.1 X.2.1 dX1_finishCall_61 (lv_at hl30 0 rfl) ?_
        obtain ⟨k31, ek31, h32⟩ := jp_some h28
        have hk31 : ∀ (x39 : Int32) (H : Heap) (locs : List Loc) (ls : Array Slot), k31 x39 = some res → Mm D κ A ad (celB κ ad r0 b16) s H locs → lv_has ls 11 [(0, .ref (ad 57)), (1, .ref (ad p0)), (2, .int p1), (4, .int x19), (5, .int x23), (6, .int x27)] → W p l e (rm1_finishCall fr lo) s m [.ref (ad 57), .ref (ad p0), .int p1].toArray below meth c H locs 0 0 (MQ below (QV D κ A ad (celB κ ad r0 res)) [.ref (ad 57), .ref (ad p0), .int p1].toArray s 0 0 A) (F0 m 79 ls [.int x39]) := by
          intro x39 H locs ls43 h40 G41 hl42
          rw [ek31] at h40
          try dsimp only at h40
          refine lv_istore (pc := 79) (lv' := [(7, .int x39), (0, .ref (ad 57)), (1, .ref (ad p0)), (2, .int p1), (4, .int x19), (5, .int x23), (6, .int x27)]) X.1 X.2.1 dX1_finishCall_79 hl42 (by decide) rfl (fun ls44 hl45 => ?_)
          refine lv_aload_n (pc := 81) X.1 X.2.1 dX1_finishCall_81 rfl (lv_at hl45 1 rfl) ?_
          refine B_geti (pc := 82) (i := 57) (k := 5) X G41 rfl clX1 (okL57 _) (by decide) rfl rfl fl_X1_27 dX1_finishCall_82 ?_
          refine lv_topi (fun x46 ex46 => ?_)
          have h47 := bd_at h40 ex46
          refine lv_istore (pc := 85) (lv' := [(8, .int x46), (7, .int x39), (0, .ref (ad 57)), (1, .ref (ad p0)), (2, .int p1), (4, .int x19), (5, .int x23), (6, .int x27)]) X.1 X.2.1 dX1_finishCall_85 hl45 (by decide) rfl (fun ls48 hl49 => ?_)
          refine lv_aload_n (pc := 87) X.1 X.2.1 dX1_finishCall_87 rfl (lv_at hl49 2 rfl) ?_
          obtain ⟨b52, eb52, h50⟩ := bn_some h47
          refine B_callv (pc := 88) (M' := (celB κ ad r0 b52)) (i := 57) (As := []) (rest := []) X G41 (rm := rm1_setMark) rfl rfl rfl (c1_setMark l D κ A ad r0 b16 b52 eb52) (B_rcv (ci := 1) (okL57 _) (by decide)) rfl g_X1_60 hd_yX1_setMark ⟨by dsimp only; omega, by dsimp only; omega⟩ rfl hl49 rfl (lv_room (Nat.le_of_ble_eq_true rfl)) dX1_finishCall_88 ⟨Nat.le_of_ble_eq_true rfl, Nat.le_of_ble_eq_true rfl⟩ (fun H locs G51 => ?_)
          refine lv_aload_n (pc := 91) X.1 X.2.1 dX1_finishCall_91 rfl (lv_at hl49 2 rfl) ?_
          refine lv_aload_n (pc := 92) X.1 X.2.1 dX1_finishCall_92 rfl (lv_at hl49 3 rfl) ?_
          refine lv_iload (pc := 93) X.1 X.2.1 dX1_finishCall_93 (lv_at hl49 5 rfl) ?_
          refine lv_iload_n (pc := 95) X.1 X.2.1 dX1_finishCall_95 rfl (lv_at hl49 4 rfl) ?_
          obtain ⟨x55, ex55, h53⟩ := bn_some h50
          refine B_calli (pc := 96) (v := x55) (M' := (celB κ ad r0 b52)) (i := 57) (As := [.ref (ad p0), .int x19, .int p1]) (rest := []) X G51 (rm := rm1_endingOf) rfl rfl rfl (c1_endingOf l D κ A ad r0 b52 p0 x19 p1 x55 ex55) (B_rcv (ci := 1) (okL57 _) (by decide)) rfl g_X1_114 hd_yX1_endingOf ⟨by dsimp only; omega, by dsimp only; omega⟩ rfl hl49 rfl (lv_room (Nat.le_of_ble_eq_true rfl)) dX1_finishCall_96 ⟨Nat.le_of_ble_eq_true rfl, Nat.le_of_ble_eq_true rfl⟩ (fun H locs G54 => ?_)
          refine lv_istore (pc := 99) (lv' := [(9, .int x55), (8, .int x46), (7, .int x39), (0, .ref (ad 57)), (1, .ref (ad p0)), (2, .int p1), (4, .int x19), (5, .int x23), (6, .int x27)]) X.1 X.2.1 dX1_finishCall_99 hl49 (by decide) rfl (fun ls56 hl57 => ?_)
          refine lv_iload (pc := 101) X.1 X.2.1 dX1_finishCall_101 (lv_at hl57 0 rfl) ?_
          obtain ⟨k58, ek58, h59⟩ := jp_some h53
          have hk58 : ∀ (b72 : BS) (H : Heap) (locs : List Loc) (ls : Array Slot), k58 b72 = some res → Mm D κ A ad (celB κ ad r0 b72) s H locs → lv_has ls 11 [(0, .ref (ad 57)), (2, .int p1), (4, .int x19), (5, .int x23), (6, .int x27), (7, .int x39), (8, .int x46), (9, .int x55)] → W p l e (rm1_finishCall fr lo) s m [.ref (ad 57), .ref (ad p0), .int p1].toArray below meth c H locs 0 0 (MQ below (QV D κ A ad (celB κ ad r0 res)) [.ref (ad 57), .ref (ad p0), .int p1].toArray s 0 0 A) (F0 m 132 ls []) := by
            intro b72 H locs ls76 h73 G74 hl75
            rw [ek58] at h73
            try dsimp only at h73
            refine lv_aload_n (pc := 132) X.1 X.2.1 dX1_finishCall_132 rfl (lv_at hl75 0 rfl) ?_
            refine B_geti (pc := 133) (i := 57) (k := 5) X G74 rfl clX1 (okL57 _) (by decide) rfl rfl fl_X1_27 dX1_finishCall_133 ?_
            refine lv_iload (pc := 136) X.1 X.2.1 dX1_finishCall_136 (lv_at hl75 6 rfl) ?_
            refine lv_isub (pc := 138) X.1 X.2.1 dX1_finishCall_138 ?_
            refine lv_topi (fun x77 ex77 => ?_)
            have h78 := bd_at h73 ex77
            refine lv_istore (pc := 139) (lv' := [(10, .int x77), (0, .ref (ad 57)), (2, .int p1), (4, .int x19), (5, .int x23), (6, .int x27), (7, .int x39), (8, .int x46), (9, .int x55)]) X.1 X.2.1 dX1_finishCall_139 hl75 (by decide) rfl (fun ls79 hl80 => ?_)
            refine lv_aload_n (pc := 141) X.1 X.2.1 dX1_finishCall_141 rfl (lv_at hl80 1 rfl) ?_
            refine lv_iload (pc := 142) X.1 X.2.1 dX1_finishCall_142 (lv_at hl80 7 rfl) ?_
            refine lv_iload (pc := 144) X.1 X.2.1 dX1_finishCall_144 (lv_at hl80 6 rfl) ?_
            refine lv_iload (pc := 146) X.1 X.2.1 dX1_finishCall_146 (lv_at hl80 0 rfl) ?_
            obtain ⟨b83, eb83, h81⟩ := bn_some h78
            refine B_callv (pc := 148) (M' := (celB κ ad r0 b83)) (i := 57) (As := [.int x46, .int x39, .int x77]) (rest := []) X G74 (rm := rm1_moveSigns) rfl rfl rfl (c1_moveSigns l D κ A ad r0 b72 x46 x39 x77 b83 eb83) (B_rcv (ci := 1) (okL57 _) (by decide)) rfl g_X1_125 hd_yX1_moveSigns ⟨by dsimp only; omega, by dsimp only; omega⟩ rfl hl80 rfl (lv_room (Nat.le_of_ble_eq_true rfl)) dX1_finishCall_148 ⟨Nat.le_of_ble_eq_true rfl, Nat.le_of_ble_eq_true rfl⟩ (fun H locs G82 => ?_)
            refine lv_aload_n (pc := 151) X.1 X.2.1 dX1_finishCall_151 rfl (lv_at hl80 1 rfl) ?_
            refine lv_iload (pc := 152) X.1 X.2.1 dX1_finishCall_152 (lv_at hl80 6 rfl) ?_
            refine lv_iload (pc := 154) X.1 X.2.1 dX1_finishCall_154 (lv_at hl80 0 rfl) ?_
            refine lv_iadd (pc := 156) X.1 X.2.1 dX1_finishCall_156 ?_
            obtain ⟨b84, eb84, h85⟩ := bd_some h81
            refine B_puti (pc := 157) (i := 57) (k := 5) (v := (x39 + x77)) X G82 eb84 rfl clX1 (okL57 _) (by decide) rfl rfl rfl rfl fl_X1_27 dX1_finishCall_157 (fun H locs G86 => ?_)
            have nb84 : b84.2.2 = b83.2.2 := by rw [eb84]; rfl
            refine lv_aload_n (pc := 160) X.1 X.2.1 dX1_finishCall_160 rfl (lv_at hl80 1 rfl) ?_
            refine lv_iload (pc := 161) X.1 X.2.1 dX1_finishCall_161 (lv_at hl80 4 rfl) ?_
            obtain ⟨b87, eb87, h88⟩ := bd_some h85
            refine B_puti (pc := 163) (i := 57) (k := 6) (v := x23) X G86 eb87 rfl clX1 (okL57 _) (by decide) rfl rfl rfl rfl fl_X1_31 dX1_finishCall_163 (fun H locs G89 => ?_)
            have nb87 : b87.2.2 = b84.2.2 := by rw [eb87]; rfl
            refine lv_aload_n (pc := 166) X.1 X.2.1 dX1_finishCall_166 rfl (lv_at hl80 1 rfl) ?_
            refine lv_iconst (pc := 167) (v := 0) X.1 X.2.1 dX1_finishCall_167 (by decide) ?_
            obtain ⟨x92, ex92, h90⟩ := bn_some h88
            refine B_calli (pc := 168) (v := x92) (M' := (celB κ ad r0 b87)) (i := 57) (As := [.int 0]) (rest := []) X G89 (rm := rm1_takesMore) rfl rfl rfl (c1_takesMore l D κ A ad r0 b87 0 x92 ex92) (B_rcv (ci := 1) (okL57 _) (by decide)) rfl g_X1_129 hd_yX1_takesMore ⟨by dsimp only; omega, by dsimp only; omega⟩ rfl hl80 rfl (lv_room (Nat.le_of_ble_eq_true rfl)) dX1_finishCall_168 ⟨Nat.le_of_ble_eq_true rfl, Nat.le_of_ble_eq_true rfl⟩ (fun H locs G91 => ?_)
            obtain ⟨k93, ek93, h94⟩ := jp_some h90
            have hk93 : ∀ (b102 : BS) (H : Heap) (locs : List Loc) (ls : Array Slot), k93 b102 = some res → Mm D κ A ad (celB κ ad r0 b102) s H locs → lv_has ls 11 [(0, .ref (ad 57)), (2, .int p1), (4, .int x19), (6, .int x27), (7, .int x39), (8, .int x46), (9, .int x55), (10, .int x77)] → W p l e (rm1_finishCall fr lo) s m [.ref (ad 57), .ref (ad p0), .int p1].toArray below meth c H locs 0 0 (MQ below (QV D κ A ad (celB κ ad r0 res)) [.ref (ad 57), .ref (ad p0), .int p1].toArray s 0 0 A) (F0 m 179 ls []) := by
              intro b102 H locs ls106 h103 G104 hl105
              rw [ek93] at h103
              try dsimp only at h103
              refine lv_aload_n (pc := 179) X.1 X.2.1 dX1_finishCall_179 rfl (lv_at hl105 0 rfl) ?_
              refine lv_iload (pc := 180) X.1 X.2.1 dX1_finishCall_180 (lv_at hl105 2 rfl) ?_
              refine lv_iload (pc := 182) X.1 X.2.1 dX1_finishCall_182 (lv_at hl105 6 rfl) ?_
              refine lv_iload_n (pc := 184) X.1 X.2.1 dX1_finishCall_184 rfl (lv_at hl105 1 rfl) ?_
              refine lv_iload (pc := 185) X.1 X.2.1 dX1_finishCall_185 (lv_at hl105 3 rfl) ?_
              refine lv_iload (pc := 187) X.1 X.2.1 dX1_finishCall_187 (lv_at hl105 7 rfl) ?_
              refine lv_iload (pc := 189) X.1 X.2.1 dX1_finishCall_189 (lv_at hl105 5 rfl) ?_
              refine lv_iload (pc := 191) X.1 X.2.1 dX1_finishCall_191 (lv_at hl105 4 rfl) ?_
              refine lv_isub (pc := 193) X.1 X.2.1 dX1_finishCall_193 ?_
              obtain ⟨b109, eb109, h107⟩ := bn_some h103
              refine B_callv (pc := 194) (M' := (celB κ ad r0 b109)) (i := 57) (As := [.int x19, .int x55, .int p1, .int x27, .int x77, .int (x46 - x39)]) (rest := []) X G104 (rm := rm1_listCall) rfl rfl rfl (c1_listCall l D κ A ad r0 b102 x19 x55 p1 x27 x77 (x46 - x39) b109 eb109) (B_rcv (ci := 1) (okL57 _) (by decide)) rfl g_X1_132 hd_yX1_listCall ⟨by dsimp only; omega, by dsimp only; omega⟩ rfl hl105 rfl (lv_room (Nat.le_of_ble_eq_true rfl)) dX1_finishCall_194 ⟨Nat.le_of_ble_eq_true rfl, Nat.le_of_ble_eq_true rfl⟩ (fun H locs G108 => ?_)
              have h107_i := Option.some.inj h107
              exact m_vret (pc := 197) X G108 hr hlk dX1_finishCall_197 (congrArg (celB κ ad r0) h107_i)
            refine lv_if_ne (pc := 171) (tgt := 179) X.1 X.2.1 dX1_finishCall_171 (by decide) (fun hc95 => ?_) (fun hc95 => ?_)
            · have h96 := it_pos h94 hc95
              exact hk93 b87 _ _ ls79 h96 G91 (lv_sub hl80 [1, 2, 3, 5, 6, 7, 8, 0] rfl)
            · have h97 := it_neg h94 (fun q => q hc95)
              refine lv_aload_n (pc := 174) X.1 X.2.1 dX1_finishCall_174 rfl (lv_at hl80 1 rfl) ?_
              refine lv_iconst (pc := 175) (v := 1) X.1 X.2.1 dX1_finishCall_175 (by decide) ?_
              obtain ⟨hb100, h97_z⟩ := bz_some h97
              obtain ⟨b98, eb98, h99⟩ := bd_some h97_z
              refine B_putz (pc := 176) (i := 57) (k := 13) (v := 1) X G91 eb98 hb100 rfl clX1 (okL57 _) (by decide) rfl rfl rfl rfl fl_X1_53 dX1_finishCall_176 (fun H locs G101 => ?_)
              have nb98 : b98.2.2 = b87.2.2 := by rw [eb98]; rfl
              exact hk93 b98 _ _ ls79 h99 G101 (lv_sub hl80 [1, 2, 3, 5, 6, 7, 8, 0] rfl)
          refine lv_if_ne (pc := 103) (tgt := 123) X.1 X.2.1 dX1_finishCall_103 (by decide) (fun hc60 => ?_) (fun hc60 => ?_)
          · have h61 := it_pos h59 hc60
            refine lv_aload_n (pc := 123) X.1 X.2.1 dX1_finishCall_123 rfl (lv_at hl57 3 rfl) ?_
            refine lv_iload (pc := 124) X.1 X.2.1 dX1_finishCall_124 (lv_at hl57 0 rfl) ?_
            obtain ⟨x63, ex63, h64⟩ := bn_some h61
            refine m_callsi0 (pc := 126) (v := x63) (As := [.int x55]) (rest := [.ref (ad 57)]) X G54 (rm := rm1_signOf) rfl rfl (c1_signOf l D κ A ad (celB κ ad r0 b52) x55 x63 ex63) g_X1_122 hs_yX1_signOf ⟨by dsimp only; omega, by dsimp only; omega⟩ rfl hl57 rfl (lv_room (Nat.le_of_ble_eq_true rfl)) dX1_finishCall_126 ⟨Nat.le_of_ble_eq_true rfl, Nat.le_of_ble_eq_true rfl⟩ (fun H locs G65 => ?_)
            obtain ⟨b68, eb68, h66⟩ := bn_some h64
            refine B_callv (pc := 129) (M' := (celB κ ad r0 b68)) (i := 57) (As := [.int x63]) (rest := []) X G65 (rm := rm1_writeSign) rfl rfl rfl (c1_writeSign l D κ A ad r0 b52 x63 b68 eb68) (B_rcv (ci := 1) (okL57 _) (by decide)) rfl g_X1_103 hd_yX1_writeSign ⟨by dsimp only; omega, by dsimp only; omega⟩ rfl hl57 rfl (lv_room (Nat.le_of_ble_eq_true rfl)) dX1_finishCall_129 ⟨Nat.le_of_ble_eq_true rfl, Nat.le_of_ble_eq_true rfl⟩ (fun H locs G67 => ?_)
            exact hk58 b68 _ _ ls56 h66 G67 (lv_sub hl57 [3, 5, 6, 7, 8, 2, 1, 0] rfl)
          · have h62 := it_neg h59 (fun q => q hc60)
            refine lv_aload_n (pc := 106) X.1 X.2.1 dX1_finishCall_106 rfl (lv_at hl57 3 rfl) ?_
            refine lv_aload_n (pc := 107) X.1 X.2.1 dX1_finishCall_107 rfl (lv_at hl57 4 rfl) ?_
            refine lv_iload (pc := 108) X.1 X.2.1 dX1_finishCall_108 (lv_at hl57 6 rfl) ?_
            refine lv_iload_n (pc := 110) X.1 X.2.1 dX1_finishCall_110 rfl (lv_at hl57 5 rfl) ?_
            refine lv_iconst (pc := 111) (v := 1) X.1 X.2.1 dX1_finishCall_111 (by decide) ?_
            refine lv_iadd (pc := 112) X.1 X.2.1 dX1_finishCall_112 ?_
            refine lv_iload (pc := 113) X.1 X.2.1 dX1_finishCall_113 (lv_at hl57 7 rfl) ?_
            refine lv_iload (pc := 115) X.1 X.2.1 dX1_finishCall_115 (lv_at hl57 8 rfl) ?_
            obtain ⟨b71, eb71, h69⟩ := bn_some h62
            refine B_callv (pc := 117) (M' := (celB κ ad r0 b71)) (i := 57) (As := [.ref (ad p0), .int x19, .int (p1 + 1), .int x23, .int x27]) (rest := []) X G54 (rm := (rm1_writeBody fr lo)) rfl rfl rfl (c1_writeBody l D κ A ad r0 rec fr lo hfr hlo hrec b52 p0 x19 (p1 + 1) x23 x27 b71 eb71) (B_rcv (ci := 1) (okL57 _) (by decide)) rfl g_X1_118 hd_yX1_writeBody ⟨by dsimp only; omega, by dsimp only; omega⟩ rfl hl57 rfl (lv_room (Nat.le_of_ble_eq_true rfl)) dX1_finishCall_117 ⟨Nat.le_of_ble_eq_true rfl, Nat.le_of_ble_eq_true rfl⟩ (fun H locs G70 => ?_)
            refine lv_goto (pc := 120) (tgt := 132) X.1 X.2.1 dX1_finishCall_120 (by decide) ?_
            exact hk58 b71 _ _ ls56 h69 G70 (lv_sub hl57 [3, 5, 6, 7, 8, 2, 1, 0] rfl)
        refine lv_if_le (pc := 63) (tgt := 75) X.1 X.2.1 dX1_finishCall_63 (by decide) (fun hc33 => ?_) (fun hc33 => ?_)
        · have h34 := it_pos h32 hc33
          refine lv_aload_n (pc := 75) X.1 X.2.1 dX1_finishCall_75 rfl (lv_at hl30 4 rfl) ?_
          refine B_geti (pc := 76) (i := 57) (k := 5) X G18 rfl clX1 (okL57 _) (by decide) rfl rfl fl_X1_27 dX1_finishCall_76 ?_
          exact hk31 (b16.1 57 5) _ _ ls29 h34 G18 (lv_sub hl30 [4, 5, 6, 2, 1, 0] rfl)
        · have h35 := it_neg h32 hc33
          refine lv_aload_n (pc := 66) X.1 X.2.1 dX1_finishCall_66 rfl (lv_at hl30 4 rfl) ?_
          refine lv_iload (pc := 67) X.1 X.2.1 dX1_finishCall_67 (lv_at hl30 1 rfl) ?_
          obtain ⟨x38, ex38, h36⟩ := bn_some h35
          refine B_calli (pc := 69) (v := x38) (M' := (celB κ ad r0 b16)) (i := 57) (As := [.int x23]) (rest := []) X G18 (rm := rm1_markAt) rfl rfl rfl (c1_markAt l D κ A ad r0 b16 x23 x38 ex38) (B_rcv (ci := 1) (okL57 _) (by decide)) rfl g_X1_106 hd_yX1_markAt ⟨by dsimp only; omega, by dsimp only; omega⟩ rfl hl30 rfl (lv_room (Nat.le_of_ble_eq_true rfl)) dX1_finishCall_69 ⟨Nat.le_of_ble_eq_true rfl, Nat.le_of_ble_eq_true rfl⟩ (fun H locs G37 => ?_)
          refine lv_goto (pc := 72) (tgt := 79) X.1 X.2.1 dX1_finishCall_72 (by decide) ?_
          exact hk31 x38 _ _ ls29 h36 G37 (lv_sub hl30 [4, 5, 6, 2, 1, 0] rfl)
      · have h15 := it_neg h12 hc13
        exact hk5  _ _ ls3 h15 G (lv_sub hl4 [1] rfl)

abbrev rm1_writeText (fr lo : Nat) : Room := { frames := fr + 3, cells := 0, slots := 0, locals := lo + 85 }
noncomputable def F1_writeText (rec : BS → Nat → Nat → Int32 → Int32 → Int32 → Int32 → Option BS) (b : BS) (p0 : Nat) (p1 : Nat) (p2 : Int32) (p3 : Int32) (p4 : Int32) (p5 : Int32) : Option (BS) :=
  Loop (fun (q : Int32 × Int32 × BS) => (fun (x5 : Int32) (x6 : Int32) (b7 : BS) =>
  jp (fun (_ : Unit) => some (.inr b7)) fun k12 =>
  if p2 ≤ x6 then
  k12 ()
  else
  ck (okB b7.2.2 p1 20) <|
  if (nI (lnB b7.2.2 p1)) ≤ x6 then
  k12 ()
  else
  if ¬ (b7.1 57 13) = 0 then
  k12 ()
  else
  rd (b7.1 p1) (lnB b7.2.2 p1) x6 fun x25 =>
  jp (fun (x96 : Int32) (b97 : BS) => bd (x6 + 1) fun x102 =>
  some (.inl (x96, x102, b97))) fun k29 =>
  if ¬ x25 = 63 then
  bn (F7_isAbbreviation x25) fun x34 =>
  if x34 = 0 then
  jp (fun (_ : Unit) => bn (F1_setMark b7) fun b63 =>
  k29 x5 b63) fun k40 =>
  if x25 = 40 then
  k40 ()
  else
  if ¬ x25 = 44 then
  if ¬ x25 = 41 then
  bn (F1_writeSign b7 x25) fun b53 =>
  k29 x5 b53
  else
  bn (F1_finishCall rec b7 p0 p3) fun b56 =>
  k29 x5 b56
  else
  k40 ()
  else
  bn (F1_letCallWait b7 (x25 - 65)) fun b66 =>
  jp (fun (_ : Unit) => bn (F1_finishCall rec b66 p0 p3) fun b88 =>
  k29 x5 b88) fun k67 =>
  if p2 ≤ (x6 + 1) then
  k67 ()
  else
  ck (okB b66.2.2 p1 20) <|
  if (nI (lnB b66.2.2 p1)) ≤ (x6 + 1) then
  k67 ()
  else
  rd (b66.1 p1) (lnB b66.2.2 p1) (x6 + 1) fun x77 =>
  if x77 = 40 then
  k29 x5 b66
  else
  k67 ()
  else
  bn (F1_fillHole b7 x5 p3 p4 p5) fun b91 =>
  bd (x5 + 1) fun x92 =>
  k29 x92 b91) q.1 q.2.1 q.2.2) (0, 0, b)
set_option maxHeartbeats 4000000 in
set_option maxRecDepth 100000 in
theorem c1_writeText (l : Launch) (D : va_G) (κ : Nat → ClassId) (A : Nat → Prop) (ad : Nat → Nat) (r0 : Nat → Option va_E) (rec : BS → Nat → Nat → Int32 → Int32 → Int32 → Int32 → Option BS) (fr lo : Nat) (hfr : 10 ≤ fr) (hlo : 500 ≤ lo) (hrec : ∀ (b : BS) (p0 p1 : Nat) (p2 p3 p4 p5 : Int32) (res : BS), rec b p0 p1 p2 p3 p4 p5 = some res → Met l yX1_writeText (gw yX1_writeText cX1_writeText 10 none) { frames := fr, cells := 0, slots := 0, locals := lo } (va_Pc [.ref (ad 57), .ref (ad p0), .ref (ad p1), .int p2, .int p3, .int p4, .int p5] (MW D κ A ad (celB κ ad r0 b))) (QV D κ A ad (celB κ ad r0 res)) 0 0 A) (b : BS) (p0 : Nat) (p1 : Nat) (p2 : Int32) (p3 : Int32) (p4 : Int32) (p5 : Int32) (res : BS) (h : F1_writeText rec b p0 p1 p2 p3 p4 p5 = some res) : Met l yX1_writeText (gw yX1_writeText cX1_writeText 10 none) (rm1_writeText fr lo) (va_Pc [.ref (ad 57), .ref (ad p0), .ref (ad p1), .int p2, .int p3, .int p4, .int p5] (MW D κ A ad (celB κ ad r0 b))) (QV D κ A ad (celB κ ad r0 res)) 0 0 A := by
  refine met_of (own := RX1) (by decide +kernel) rfl (Nat.le_of_ble_eq_true rfl) ?_
  intro p e s m below meth c ls X hr hlk G hl
  have hl : lv_has ls 10 [(0, .ref (ad 57)), (1, .ref (ad p0)), (2, .ref (ad p1)), (3, .int p2), (4, .int p3), (5, .int p4), (6, .int p5)] := hl
  unfold F1_writeText at h
  refine lv_iconst (pc := 0) (v := 0) X.1 X.2.1 dX1_writeText_0 (by decide) ?_
  refine lv_istore (pc := 1) (lv' := [(7, .int 0), (0, .ref (ad 57)), (1, .ref (ad p0)), (2, .ref (ad p1)), (3, .int p2), (4, .int p3), (5, .int p4), (6, .int p5)]) X.1 X.2.1 dX1_writeText_1 hl (by decide) rfl (fun ls1 hl2 => ?_)
  refine lv_iconst (pc := 3) (v := 0) X.1 X.2.1 dX1_writeText_3 (by decide) ?_
  refine lv_istore (pc := 4) (lv' := [(8, .int 0), (7, .int 0), (0, .ref (ad 57)), (1, .ref (ad p0)), (2, .ref (ad p1)), (3, .int p2), (4, .int p3), (5, .int p4), (6, .int p5)]) X.1 X.2.1 dX1_writeText_4 hl2 (by decide) rfl (fun ls3 hl4 => ?_)
  refine Loop_ind (P := fun (q : Int32 × Int32 × BS) => ∀ (H : Heap) (locs : List Loc) (ls : Array Slot), Mm D κ A ad (celB κ ad r0 q.2.2) s H locs → lv_has ls 10 [(0, .ref (ad 57)), (1, .ref (ad p0)), (2, .ref (ad p1)), (3, .int p2), (4, .int p3), (5, .int p4), (6, .int p5), (7, .int q.1), (8, .int q.2.1)] → W p l e (rm1_writeText fr lo) s m [.ref (ad 57), .ref (ad p0), .ref (ad p1), .int p2, .int p3, .int p4, .int p5].toArray below meth c H locs 0 0 (MQ below (QV D κ A ad (celB κ ad r0 res)) [.ref (ad 57), .ref (ad p0), .ref (ad p1), .int p2, .int p3, .int p4, .int p5].toArray s 0 0 A) (F0 m 6 ls [])) ?_ h _ _ ls3 G (lv_sub hl4 [2, 3, 4, 5, 6, 7, 8, 1, 0] rfl)
  intro q y1 h8 ih1 hz1 H locs ls11 G9 hl10
  obtain ⟨x5, x6, b7⟩ := q
  try dsimp only at h8 ih1 G9 hl10 ⊢
  refine lv_iload (pc := 6) X.1 X.2.1 dX1_writeText_6 (lv_at hl10 8 rfl) ?_
  refine lv_iload_n (pc := 8) X.1 X.2.1 dX1_writeText_8 rfl (lv_at hl10 3 rfl) ?_
  obtain ⟨k12, ek12, h13⟩ := jp_some h8
  have hk12 : ∀  (H : Heap) (locs : List Loc) (ls : Array Slot), k12 () = some y1 → Mm D κ A ad (celB κ ad r0 b7) s H locs → lv_has ls 10 [] → W p l e (rm1_writeText fr lo) s m [.ref (ad 57), .ref (ad p0), .ref (ad p1), .int p2, .int p3, .int p4, .int p5].toArray below meth c H locs 0 0 (MQ below (QV D κ A ad (celB κ ad r0 res)) [.ref (ad 57), .ref (ad p0), .ref (ad p1), .int p2, .int p3, .int p4, .int p5].toArray s 0 0 A) (F0 m 162 ls []) := by
    intro  H locs ls109 h106 G107 hl108
    rw [ek12] at h106
    try dsimp only at h106
    have h106_i := Option.some.inj h106
    have h106_i_1 := hz1 _ h106_i.symm
    exact m_vret (pc := 162) X G107 hr hlk dX1_writeText_162 (congrArg (celB κ ad r0) h106_i_1)
  refine lv_icmp_ge (pc := 9) (tgt := 162) X.1 X.2.1 dX1_writeText_9 (by decide) (fun hc14 => ?_) (fun hc14 => ?_)
  · have h15 := it_pos h13 hc14
    exact hk12  _ _ ls11 h15 G9 (lv_sub hl10 [] rfl)
  · have h16 := it_neg h13 hc14
    refine lv_iload (pc := 12) X.1 X.2.1 dX1_writeText_12 (lv_at hl10 8 rfl) ?_
    refine lv_aload_n (pc := 14) X.1 X.2.1 dX1_writeText_14 rfl (lv_at hl10 2 rfl) ?_
    obtain ⟨ok17, h18⟩ := ck_some h16
    refine B_alen (pc := 15) (i := p1) (n := (lnB b7.2.2 p1)) X G9 rfl ok17 rfl dX1_writeText_15 ?_
    refine lv_icmp_ge (pc := 16) (tgt := 162) X.1 X.2.1 dX1_writeText_16 (by decide) (fun hc19 => ?_) (fun hc19 => ?_)
    · have h20 := it_pos h18 hc19
      exact hk12  _ _ ls11 h20 G9 (lv_sub hl10 [] rfl)
    · have h21 := it_neg h18 hc19
      refine lv_aload_n (pc := 19) X.1 X.2.1 dX1_writeText_19 rfl (lv_at hl10 0 rfl) ?_
      refine B_geti (pc := 20) (i := 57) (k := 13) X G9 rfl clX1 (okL57 _) (by decide) rfl rfl fl_X1_53 dX1_writeText_20 ?_
      refine lv_if_ne (pc := 23) (tgt := 162) X.1 X.2.1 dX1_writeText_23 (by decide) (fun hc22 => ?_) (fun hc22 => ?_)
      · have h23 := it_pos h21 hc22
        exact hk12  _ _ ls11 h23 G9 (lv_sub hl10 [] rfl)
      · have h24 := it_neg h21 (fun q => q hc22)
        refine lv_aload_n (pc := 26) X.1 X.2.1 dX1_writeText_26 rfl (lv_at hl10 2 rfl) ?_
        refine lv_iload (pc := 27) X.1 X.2.1 dX1_writeText_27 (lv_at hl10 8 rfl) ?_
        have h24_r := rd_some h24
        refine B_iald (pc := 29) (i := p1) (n := (lnB b7.2.2 p1)) X G9 rfl ok17 rfl h24_r.1 dX1_writeText_29 ?_
        refine lv_topi (fun x25 ex25 => ?_)
        have h26 := h24_r.2
        rw [← ex25] at h26
        refine lv_istore (pc := 30) (lv' := [(9, .int x25), (0, .ref (ad 57)), (1, .ref (ad p0)), (2, .ref (ad p1)), (3, .int p2), (4, .int p3), (5, .int p4), (6, .int p5), (7, .int x5), (8, .int x6)]) X.1 X.2.1 dX1_writeText_30 hl10 (by decide) rfl (fun ls27 hl28 => ?_)
        refine lv_iload (pc := 32) X.1 X.2.1 dX1_writeText_32 (lv_at hl28 0 rfl) ?_
        refine lv_bipush (pc := 34) (v := 63) X.1 X.2.1 dX1_writeText_34 (by decide) ?_
        obtain ⟨k29, ek29, h30⟩ := jp_some h26
        have hk29 : ∀ (x96 : Int32) (b97 : BS) (H : Heap) (locs : List Loc) (ls : Array Slot), k29 x96 b97 = some y1 → Mm D κ A ad (celB κ ad r0 b97) s H locs → lv_has ls 10 [(0, .ref (ad 57)), (1, .ref (ad p0)), (2, .ref (ad p1)), (3, .int p2), (4, .int p3), (5, .int p4), (6, .int p5), (7, .int x96), (8, .int x6)] → W p l e (rm1_writeText fr lo) s m [.ref (ad 57), .ref (ad p0), .ref (ad p1), .int p2, .int p3, .int p4, .int p5].toArray below meth c H locs 0 0 (MQ below (QV D κ A ad (celB κ ad r0 res)) [.ref (ad 57), .ref (ad p0), .ref (ad p1), .int p2, .int p3, .int p4, .int p5].toArray s 0 0 A) (F0 m 156 ls []) := by
          intro x96 b97 H locs ls101 h98 G99 hl100
          rw [ek29] at h98
          try dsimp only at h98
          obtain ⟨x102, ex102, h105⟩ := bd_some h98
          refine lv_iinc (pc := 156) (v := x102) (lv' := [(8, .int x102), (0, .ref (ad 57)), (1, .ref (ad p0)), (2, .ref (ad p1)), (3, .int p2), (4, .int p3), (5, .int p4), (6, .int p5), (7, .int x96)]) X.1 X.2.1 dX1_writeText_156 hl100 (k := 8) rfl (by rw [ex102]; rfl) (by decide) rfl (fun ls103 hl104 => ?_)
          refine lv_goto (pc := 159) (tgt := 6) X.1 X.2.1 dX1_writeText_159 (by decide) ?_
          have h105_i := Option.some.inj h105
          exact ih1 _ h105_i.symm _ _ ls103 G99 (lv_sub hl104 [1, 2, 3, 4, 5, 6, 7, 8, 0] rfl)
        refine lv_icmp_ne (pc := 36) (tgt := 57) X.1 X.2.1 dX1_writeText_36 (by decide) (fun hc31 => ?_) (fun hc31 => ?_)
        · have h32 := it_pos h30 hc31
          refine lv_iload (pc := 57) X.1 X.2.1 dX1_writeText_57 (lv_at hl28 0 rfl) ?_
          obtain ⟨x34, ex34, h35⟩ := bn_some h32
          refine B_callsi (pc := 59) (v := x34) (host := RX7) (As := [.int x25]) (rest := []) X G9 (rm := rm7_isAbbreviation) rfl rfl (c7_isAbbreviation l D κ A ad (celB κ ad r0 b7) x25 x34 ex34) (by decide +kernel) cd_yX7_isAbbreviation sm_yX7_isAbbreviation ini_X7 hs_yX7_isAbbreviation ⟨by dsimp only; omega, by dsimp only; omega⟩ rfl hl28 rfl (lv_room (Nat.le_of_ble_eq_true rfl)) dX1_writeText_59 ⟨Nat.le_of_ble_eq_true rfl, Nat.le_of_ble_eq_true rfl⟩ (fun H locs G36 => ?_)
          refine lv_if_eq (pc := 62) (tgt := 112) X.1 X.2.1 dX1_writeText_62 (by decide) (fun hc37 => ?_) (fun hc37 => ?_)
          · have h38 := it_pos h35 hc37
            refine lv_iload (pc := 112) X.1 X.2.1 dX1_writeText_112 (lv_at hl28 0 rfl) ?_
            refine lv_bipush (pc := 114) (v := 40) X.1 X.2.1 dX1_writeText_114 (by decide) ?_
            obtain ⟨k40, ek40, h41⟩ := jp_some h38
            have hk40 : ∀  (H : Heap) (locs : List Loc) (ls : Array Slot), k40 () = some y1 → Mm D κ A ad (celB κ ad r0 b7) s H locs → lv_has ls 10 [(0, .ref (ad 57)), (1, .ref (ad p0)), (2, .ref (ad p1)), (3, .int p2), (4, .int p3), (5, .int p4), (6, .int p5), (7, .int x5), (8, .int x6)] → W p l e (rm1_writeText fr lo) s m [.ref (ad 57), .ref (ad p0), .ref (ad p1), .int p2, .int p3, .int p4, .int p5].toArray below meth c H locs 0 0 (MQ below (QV D κ A ad (celB κ ad r0 res)) [.ref (ad 57), .ref (ad p0), .ref (ad p1), .int p2, .int p3, .int p4, .int p5].toArray s 0 0 A) (F0 m 126 ls []) := by
              intro  H locs ls60 h57 G58 hl59
              rw [ek40] at h57
              try dsimp only at h57
              refine lv_aload_n (pc := 126) X.1 X.2.1 dX1_writeText_126 rfl (lv_at hl59 0 rfl) ?_
              obtain ⟨b63, eb63, h61⟩ := bn_some h57
              refine B_callv (pc := 127) (M' := (celB κ ad r0 b63)) (i := 57) (As := []) (rest := []) X G58 (rm := rm1_setMark) rfl rfl rfl (c1_setMark l D κ A ad r0 b7 b63 eb63) (B_rcv (ci := 1) (okL57 _) (by decide)) rfl g_X1_60 hd_yX1_setMark ⟨by dsimp only; omega, by dsimp only; omega⟩ rfl hl59 rfl (lv_room (Nat.le_of_ble_eq_true rfl)) dX1_writeText_127 ⟨Nat.le_of_ble_eq_true rfl, Nat.le_of_ble_eq_true rfl⟩ (fun H locs G62 => ?_)
              refine lv_goto (pc := 130) (tgt := 156) X.1 X.2.1 dX1_writeText_130 (by decide) ?_
              exact hk29 x5 b63 _ _ ls60 h61 G62 (lv_sub hl59 [0, 1, 2, 3, 4, 5, 6, 7, 8] rfl)
            refine lv_icmp_eq (pc := 116) (tgt := 126) X.1 X.2.1 dX1_writeText_116 (by decide) (fun hc42 => ?_) (fun hc42 => ?_)
            · have h43 := it_pos h41 hc42
              exact hk40  _ _ ls27 h43 G36 (lv_sub hl28 [1, 2, 3, 4, 5, 6, 7, 8, 9] rfl)
            · have h44 := it_neg h41 hc42
              refine lv_iload (pc := 119) X.1 X.2.1 dX1_writeText_119 (lv_at hl28 0 rfl) ?_
              refine lv_bipush (pc := 121) (v := 44) X.1 X.2.1 dX1_writeText_121 (by decide) ?_
              refine lv_icmp_ne (pc := 123) (tgt := 133) X.1 X.2.1 dX1_writeText_123 (by decide) (fun hc45 => ?_) (fun hc45 => ?_)
              · have h46 := it_pos h44 hc45
                refine lv_iload (pc := 133) X.1 X.2.1 dX1_writeText_133 (lv_at hl28 0 rfl) ?_
                refine lv_bipush (pc := 135) (v := 41) X.1 X.2.1 dX1_writeText_135 (by decide) ?_
                refine lv_icmp_ne (pc := 137) (tgt := 150) X.1 X.2.1 dX1_writeText_137 (by decide) (fun hc48 => ?_) (fun hc48 => ?_)
                · have h49 := it_pos h46 hc48
                  refine lv_aload_n (pc := 150) X.1 X.2.1 dX1_writeText_150 rfl (lv_at hl28 1 rfl) ?_
                  refine lv_iload (pc := 151) X.1 X.2.1 dX1_writeText_151 (lv_at hl28 0 rfl) ?_
                  obtain ⟨b53, eb53, h51⟩ := bn_some h49
                  refine B_callv (pc := 153) (M' := (celB κ ad r0 b53)) (i := 57) (As := [.int x25]) (rest := []) X G36 (rm := rm1_writeSign) rfl rfl rfl (c1_writeSign l D κ A ad r0 b7 x25 b53 eb53) (B_rcv (ci := 1) (okL57 _) (by decide)) rfl g_X1_103 hd_yX1_writeSign ⟨by dsimp only; omega, by dsimp only; omega⟩ rfl hl28 rfl (lv_room (Nat.le_of_ble_eq_true rfl)) dX1_writeText_153 ⟨Nat.le_of_ble_eq_true rfl, Nat.le_of_ble_eq_true rfl⟩ (fun H locs G52 => ?_)
                  exact hk29 x5 b53 _ _ ls27 h51 G52 (lv_sub hl28 [1, 2, 3, 4, 5, 6, 7, 8, 9] rfl)
                · have h50 := it_neg h46 (fun q => q hc48)
                  refine lv_aload_n (pc := 140) X.1 X.2.1 dX1_writeText_140 rfl (lv_at hl28 1 rfl) ?_
                  refine lv_aload_n (pc := 141) X.1 X.2.1 dX1_writeText_141 rfl (lv_at hl28 2 rfl) ?_
                  refine lv_iload (pc := 142) X.1 X.2.1 dX1_writeText_142 (lv_at hl28 5 rfl) ?_
                  obtain ⟨b56, eb56, h54⟩ := bn_some h50
                  refine B_callv (pc := 144) (M' := (celB κ ad r0 b56)) (i := 57) (As := [.ref (ad p0), .int p3]) (rest := []) X G36 (rm := (rm1_finishCall fr lo)) rfl rfl rfl (c1_finishCall l D κ A ad r0 rec fr lo hfr hlo hrec b7 p0 p3 b56 eb56) (B_rcv (ci := 1) (okL57 _) (by decide)) rfl g_X1_91 hd_yX1_finishCall ⟨by dsimp only; omega, by dsimp only; omega⟩ rfl hl28 rfl (lv_room (Nat.le_of_ble_eq_true rfl)) dX1_writeText_144 ⟨Nat.le_of_ble_eq_true rfl, Nat.le_of_ble_eq_true rfl⟩ (fun H locs G55 => ?_)
                  refine lv_goto (pc := 147) (tgt := 156) X.1 X.2.1 dX1_writeText_147 (by decide) ?_
                  exact hk29 x5 b56 _ _ ls27 h54 G55 (lv_sub hl28 [1, 2, 3, 4, 5, 6, 7, 8, 9] rfl)
              · have h47 := it_neg h44 (fun q => q hc45)
                exact hk40  _ _ ls27 h47 G36 (lv_sub hl28 [1, 2, 3, 4, 5, 6, 7, 8, 9] rfl)
          · have h39 := it_neg h35 hc37
            refine lv_aload_n (pc := 65) X.1 X.2.1 dX1_writeText_65 rfl (lv_at hl28 1 rfl) ?_
            refine lv_iload (pc := 66) X.1 X.2.1 dX1_writeText_66 (lv_at hl28 0 rfl) ?_
            refine lv_bipush (pc := 68) (v := 65) X.1 X.2.1 dX1_writeText_68 (by decide) ?_
            refine lv_isub (pc := 70) X.1 X.2.1 dX1_writeText_70 ?_
            obtain ⟨b66, eb66, h64⟩ := bn_some h39
            refine B_callv (pc := 71) (M' := (celB κ ad r0 b66)) (i := 57) (As := [.int (x25 - 65)]) (rest := []) X G36 (rm := rm1_letCallWait) rfl rfl rfl (c1_letCallWait l D κ A ad r0 b7 (x25 - 65) b66 eb66) (B_rcv (ci := 1) (okL57 _) (by decide)) rfl g_X1_87 hd_yX1_letCallWait ⟨by dsimp only; omega, by dsimp only; omega⟩ rfl hl28 rfl (lv_room (Nat.le_of_ble_eq_true rfl)) dX1_writeText_71 ⟨Nat.le_of_ble_eq_true rfl, Nat.le_of_ble_eq_true rfl⟩ (fun H locs G65 => ?_)
            refine lv_iload (pc := 74) X.1 X.2.1 dX1_writeText_74 (lv_at hl28 9 rfl) ?_
            refine lv_iconst (pc := 76) (v := 1) X.1 X.2.1 dX1_writeText_76 (by decide) ?_
            refine lv_iadd (pc := 77) X.1 X.2.1 dX1_writeText_77 ?_
            refine lv_iload_n (pc := 78) X.1 X.2.1 dX1_writeText_78 rfl (lv_at hl28 4 rfl) ?_
            obtain ⟨k67, ek67, h68⟩ := jp_some h64
            have hk67 : ∀  (H : Heap) (locs : List Loc) (ls : Array Slot), k67 () = some y1 → Mm D κ A ad (celB κ ad r0 b66) s H locs → lv_has ls 10 [(0, .ref (ad 57)), (1, .ref (ad p0)), (2, .ref (ad p1)), (3, .int p2), (4, .int p3), (5, .int p4), (6, .int p5), (7, .int x5), (8, .int x6)] → W p l e (rm1_writeText fr lo) s m [.ref (ad 57), .ref (ad p0), .ref (ad p1), .int p2, .int p3, .int p4, .int p5].toArray below meth c H locs 0 0 (MQ below (QV D κ A ad (celB κ ad r0 res)) [.ref (ad 57), .ref (ad p0), .ref (ad p1), .int p2, .int p3, .int p4, .int p5].toArray s 0 0 A) (F0 m 102 ls []) := by
              intro  H locs ls85 h82 G83 hl84
              rw [ek67] at h82
              try dsimp only at h82
              refine lv_aload_n (pc := 102) X.1 X.2.1 dX1_writeText_102 rfl (lv_at hl84 0 rfl) ?_
              refine lv_aload_n (pc := 103) X.1 X.2.1 dX1_writeText_103 rfl (lv_at hl84 1 rfl) ?_
              refine lv_iload (pc := 104) X.1 X.2.1 dX1_writeText_104 (lv_at hl84 4 rfl) ?_
              obtain ⟨b88, eb88, h86⟩ := bn_some h82
              refine B_callv (pc := 106) (M' := (celB κ ad r0 b88)) (i := 57) (As := [.ref (ad p0), .int p3]) (rest := []) X G83 (rm := (rm1_finishCall fr lo)) rfl rfl rfl (c1_finishCall l D κ A ad r0 rec fr lo hfr hlo hrec b66 p0 p3 b88 eb88) (B_rcv (ci := 1) (okL57 _) (by decide)) rfl g_X1_91 hd_yX1_finishCall ⟨by dsimp only; omega, by dsimp only; omega⟩ rfl hl84 rfl (lv_room (Nat.le_of_ble_eq_true rfl)) dX1_writeText_106 ⟨Nat.le_of_ble_eq_true rfl, Nat.le_of_ble_eq_true rfl⟩ (fun H locs G87 => ?_)
              refine lv_goto (pc := 109) (tgt := 156) X.1 X.2.1 dX1_writeText_109 (by decide) ?_
              exact hk29 x5 b88 _ _ ls85 h86 G87 (lv_sub hl84 [0, 1, 2, 3, 4, 5, 6, 7, 8] rfl)
            refine lv_icmp_ge (pc := 79) (tgt := 102) X.1 X.2.1 dX1_writeText_79 (by decide) (fun hc69 => ?_) (fun hc69 => ?_)
            · have h70 := it_pos h68 hc69
              exact hk67  _ _ ls27 h70 G65 (lv_sub hl28 [1, 2, 3, 4, 5, 6, 7, 8, 9] rfl)
            · have h71 := it_neg h68 hc69
              refine lv_iload (pc := 82) X.1 X.2.1 dX1_writeText_82 (lv_at hl28 9 rfl) ?_
              refine lv_iconst (pc := 84) (v := 1) X.1 X.2.1 dX1_writeText_84 (by decide) ?_
              refine lv_iadd (pc := 85) X.1 X.2.1 dX1_writeText_85 ?_
              refine lv_aload_n (pc := 86) X.1 X.2.1 dX1_writeText_86 rfl (lv_at hl28 3 rfl) ?_
              obtain ⟨ok72, h73⟩ := ck_some h71
              refine B_alen (pc := 87) (i := p1) (n := (lnB b66.2.2 p1)) X G65 rfl ok72 rfl dX1_writeText_87 ?_
              refine lv_icmp_ge (pc := 88) (tgt := 102) X.1 X.2.1 dX1_writeText_88 (by decide) (fun hc74 => ?_) (fun hc74 => ?_)
              · have h75 := it_pos h73 hc74
                exact hk67  _ _ ls27 h75 G65 (lv_sub hl28 [1, 2, 3, 4, 5, 6, 7, 8, 9] rfl)
              · have h76 := it_neg h73 hc74
                refine lv_aload_n (pc := 91) X.1 X.2.1 dX1_writeText_91 rfl (lv_at hl28 3 rfl) ?_
                refine lv_iload (pc := 92) X.1 X.2.1 dX1_writeText_92 (lv_at hl28 9 rfl) ?_
                refine lv_iconst (pc := 94) (v := 1) X.1 X.2.1 dX1_writeText_94 (by decide) ?_
                refine lv_iadd (pc := 95) X.1 X.2.1 dX1_writeText_95 ?_
                have h76_r := rd_some h76
                refine B_iald (pc := 96) (i := p1) (n := (lnB b66.2.2 p1)) X G65 rfl ok72 rfl h76_r.1 dX1_writeText_96 ?_
                refine lv_topi (fun x77 ex77 => ?_)
                have h78 := h76_r.2
                rw [← ex77] at h78
                refine lv_bipush (pc := 97) (v := 40) X.1 X.2.1 dX1_writeText_97 (by decide) ?_
                refine lv_icmp_eq (pc := 99) (tgt := 156) X.1 X.2.1 dX1_writeText_99 (by decide) (fun hc79 => ?_) (fun hc79 => ?_)
                · have h80 := it_pos h78 hc79
                  exact hk29 x5 b66 _ _ ls27 h80 G65 (lv_sub hl28 [1, 2, 3, 4, 5, 6, 7, 8, 9] rfl)
                · have h81 := it_neg h78 hc79
                  exact hk67  _ _ ls27 h81 G65 (lv_sub hl28 [1, 2, 3, 4, 5, 6, 7, 8, 9] rfl)
        · have h33 := it_neg h30 (fun q => q hc31)
          refine lv_aload_n (pc := 39) X.1 X.2.1 dX1_writeText_39 rfl (lv_at hl28 1 rfl) ?_
          refine lv_iload (pc := 40) X.1 X.2.1 dX1_writeText_40 (lv_at hl28 8 rfl) ?_
          refine lv_iload (pc := 42) X.1 X.2.1 dX1_writeText_42 (lv_at hl28 5 rfl) ?_
          refine lv_iload (pc := 44) X.1 X.2.1 dX1_writeText_44 (lv_at hl28 6 rfl) ?_
          refine lv_iload (pc := 46) X.1 X.2.1 dX1_writeText_46 (lv_at hl28 7 rfl) ?_
          obtain ⟨b91, eb91, h89⟩ := bn_some h33
          refine B_callv (pc := 48) (M' := (celB κ ad r0 b91)) (i := 57) (As := [.int x5, .int p3, .int p4, .int p5]) (rest := []) X G9 (rm := rm1_fillHole) rfl rfl rfl (c1_fillHole l D κ A ad r0 b7 x5 p3 p4 p5 b91 eb91) (B_rcv (ci := 1) (okL57 _) (by decide)) rfl g_X1_95 hd_yX1_fillHole ⟨by dsimp only; omega, by dsimp only; omega⟩ rfl hl28 rfl (lv_room (Nat.le_of_ble_eq_true rfl)) dX1_writeText_48 ⟨Nat.le_of_ble_eq_true rfl, Nat.le_of_ble_eq_true rfl⟩ (fun H locs G90 => ?_)
          obtain ⟨x92, ex92, h95⟩ := bd_some h89
          refine lv_iinc (pc := 51) (v := x92) (lv' := [(7, .int x92), (9, .int x25), (0, .ref (ad 57)), (1, .ref (ad p0)), (2, .ref (ad p1)), (3, .int p2), (4, .int p3), (5, .int p4), (6, .int p5), (8, .int x6)]) X.1 X.2.1 dX1_writeText_51 hl28 (k := 8) rfl (by rw [ex92]; rfl) (by decide) rfl (fun ls93 hl94 => ?_)
          refine lv_goto (pc := 54) (tgt := 156) X.1 X.2.1 dX1_writeText_54 (by decide) ?_
          exact hk29 x92 b91 _ _ ls93 h95 G90 (lv_sub hl94 [2, 3, 4, 5, 6, 7, 8, 0, 9] rfl)

noncomputable def F1_wt : Nat → BS → Nat → Nat → Int32 → Int32 → Int32 → Int32 → Option BS
  | 0 => fun _ _ _ _ _ _ _ => none
  | n + 1 => F1_writeText (F1_wt n)
theorem c1_wt (l : Launch) (D : va_G) (κ : Nat → ClassId) (A : Nat → Prop) (ad : Nat → Nat) (r0 : Nat → Option va_E) : ∀ (n : Nat) (b : BS) (p0 p1 : Nat) (p2 p3 p4 p5 : Int32) (res : BS), F1_wt n b p0 p1 p2 p3 p4 p5 = some res → Met l yX1_writeText (gw yX1_writeText cX1_writeText 10 none) { frames := 10 + 3 * n, cells := 0, slots := 0, locals := 500 + 85 * n } (va_Pc [.ref (ad 57), .ref (ad p0), .ref (ad p1), .int p2, .int p3, .int p4, .int p5] (MW D κ A ad (celB κ ad r0 b))) (QV D κ A ad (celB κ ad r0 res)) 0 0 A
  | 0, _, _, _, _, _, _, _, _, h => by cases h
  | n + 1, b, p0, p1, p2, p3, p4, p5, res, h => c1_writeText l D κ A ad r0 (F1_wt n) (10 + 3 * n) (500 + 85 * n) (by omega) (by omega) (c1_wt l D κ A ad r0 n) b p0 p1 p2 p3 p4 p5 res h

abbrev rm1_writeResult : Room := { frames := 53, cells := 0, slots := 0, locals := 1719 }
noncomputable def F1_writeResult (b : BS) (p0 : Nat) (p1 : Nat) (p2 : Int32) : Option (BS × Int32) :=
  bn (F1_startOver b 1) fun b3 =>
  bn (F1_setMark b3) fun b6 =>
  bn (F1_wt 14 b6 p0 p1 p2 0 0 0) fun b9 =>
  jp (fun (x15 : Int32) => bz x15 (some (b9, x15))) fun k10 =>
  if ¬ (b9.1 57 13) = 0 then
  k10 0
  else
  k10 1
set_option maxHeartbeats 4000000 in
set_option maxRecDepth 100000 in
theorem c1_writeResult (l : Launch) (D : va_G) (κ : Nat → ClassId) (A : Nat → Prop) (ad : Nat → Nat) (r0 : Nat → Option va_E) (b : BS) (p0 : Nat) (p1 : Nat) (p2 : Int32) (res : BS × Int32) (h : F1_writeResult b p0 p1 p2 = some res) : Met l yX1_writeResult (gw yX1_writeResult cX1_writeResult 4 (some (FieldType.boolean))) rm1_writeResult (va_Pc [.ref (ad 57), .ref (ad p0), .ref (ad p1), .int p2] (MW D κ A ad (celB κ ad r0 b))) (QI D κ A ad (celB κ ad r0 res.1) res.2) 0 0 A := by
  refine met_of (own := RX1) (by decide +kernel) rfl (Nat.le_of_ble_eq_true rfl) ?_
  intro p e s m below meth c ls X hr hlk G hl
  have hl : lv_has ls 4 [(0, .ref (ad 57)), (1, .ref (ad p0)), (2, .ref (ad p1)), (3, .int p2)] := hl
  unfold F1_writeResult at h
  refine lv_aload_n (pc := 0) X.1 X.2.1 dX1_writeResult_0 rfl (lv_at hl 0 rfl) ?_
  refine lv_iconst (pc := 1) (v := 1) X.1 X.2.1 dX1_writeResult_1 (by decide) ?_
  obtain ⟨b3, eb3, h1⟩ := bn_some h
  refine B_callv (pc := 2) (M' := (celB κ ad r0 b3)) (i := 57) (As := [.int 1]) (rest := []) X G (rm := rm1_startOver) rfl rfl rfl (c1_startOver l D κ A ad r0 b 1 b3 eb3) (B_rcv (ci := 1) (okL57 _) (by decide)) rfl g_X1_56 hd_yX1_startOver ⟨Nat.le_of_ble_eq_true rfl, Nat.le_of_ble_eq_true rfl⟩ rfl hl rfl (lv_room (Nat.le_of_ble_eq_true rfl)) dX1_writeResult_2 ⟨Nat.le_of_ble_eq_true rfl, Nat.le_of_ble_eq_true rfl⟩ (fun H locs G2 => ?_)
  refine lv_aload_n (pc := 5) X.1 X.2.1 dX1_writeResult_5 rfl (lv_at hl 0 rfl) ?_
  obtain ⟨b6, eb6, h4⟩ := bn_some h1
  refine B_callv (pc := 6) (M' := (celB κ ad r0 b6)) (i := 57) (As := []) (rest := []) X G2 (rm := rm1_setMark) rfl rfl rfl (c1_setMark l D κ A ad r0 b3 b6 eb6) (B_rcv (ci := 1) (okL57 _) (by decide)) rfl g_X1_60 hd_yX1_setMark ⟨Nat.le_of_ble_eq_true rfl, Nat.le_of_ble_eq_true rfl⟩ rfl hl rfl (lv_room (Nat.le_of_ble_eq_true rfl)) dX1_writeResult_6 ⟨Nat.le_of_ble_eq_true rfl, Nat.le_of_ble_eq_true rfl⟩ (fun H locs G5 => ?_)
  refine lv_aload_n (pc := 9) X.1 X.2.1 dX1_writeResult_9 rfl (lv_at hl 0 rfl) ?_
  refine lv_aload_n (pc := 10) X.1 X.2.1 dX1_writeResult_10 rfl (lv_at hl 1 rfl) ?_
  refine lv_aload_n (pc := 11) X.1 X.2.1 dX1_writeResult_11 rfl (lv_at hl 2 rfl) ?_
  refine lv_iload_n (pc := 12) X.1 X.2.1 dX1_writeResult_12 rfl (lv_at hl 3 rfl) ?_
  refine lv_iconst (pc := 13) (v := 0) X.1 X.2.1 dX1_writeResult_13 (by decide) ?_
  refine lv_iconst (pc := 14) (v := 0) X.1 X.2.1 dX1_writeResult_14 (by decide) ?_
  refine lv_iconst (pc := 15) (v := 0) X.1 X.2.1 dX1_writeResult_15 (by decide) ?_
  obtain ⟨b9, eb9, h7⟩ := bn_some h4
  refine B_callv (pc := 16) (M' := (celB κ ad r0 b9)) (i := 57) (As := [.ref (ad p0), .ref (ad p1), .int p2, .int 0, .int 0, .int 0]) (rest := []) X G5 (rm := { frames := 52, cells := 0, slots := 0, locals := 1690 }) rfl rfl rfl (c1_wt l D κ A ad r0 14 b6 p0 p1 p2 0 0 0 b9 eb9) (B_rcv (ci := 1) (okL57 _) (by decide)) rfl g_X1_63 hd_yX1_writeText ⟨Nat.le_of_ble_eq_true rfl, Nat.le_of_ble_eq_true rfl⟩ rfl hl rfl (lv_room (Nat.le_of_ble_eq_true rfl)) dX1_writeResult_16 ⟨Nat.le_of_ble_eq_true rfl, Nat.le_of_ble_eq_true rfl⟩ (fun H locs G8 => ?_)
  refine lv_aload_n (pc := 19) X.1 X.2.1 dX1_writeResult_19 rfl (lv_at hl 0 rfl) ?_
  refine B_geti (pc := 20) (i := 57) (k := 13) X G8 rfl clX1 (okL57 _) (by decide) rfl rfl fl_X1_53 dX1_writeResult_20 ?_
  obtain ⟨k10, ek10, h11⟩ := jp_some h7
  have hk10 : ∀ (x15 : Int32) (H : Heap) (locs : List Loc) (ls : Array Slot), k10 x15 = some res → Mm D κ A ad (celB κ ad r0 b9) s H locs → lv_has ls 4 [] → W p l e rm1_writeResult s m [.ref (ad 57), .ref (ad p0), .ref (ad p1), .int p2].toArray below meth c H locs 0 0 (MQ below (QI D κ A ad (celB κ ad r0 res.1) res.2) [.ref (ad 57), .ref (ad p0), .ref (ad p1), .int p2].toArray s 0 0 A) (F0 m 31 ls [.int x15]) := by
    intro x15 H locs ls19 h16 G17 hl18
    rw [ek10] at h16
    try dsimp only at h16
    obtain ⟨hb, h16_b⟩ := bz_some h16
    have h16_b_i := Option.some.inj h16_b
    exact m_zret (pc := 31) X G17 hr hlk dX1_writeResult_31 hb (congrArg Prod.snd h16_b_i) (congrArg (fun q : BS × Int32 => celB κ ad r0 q.1) h16_b_i)
  refine lv_if_ne (pc := 23) (tgt := 30) X.1 X.2.1 dX1_writeResult_23 (by decide) (fun hc12 => ?_) (fun hc12 => ?_)
  · have h13 := it_pos h11 hc12
    refine lv_iconst (pc := 30) (v := 0) X.1 X.2.1 dX1_writeResult_30 (by decide) ?_
    exact hk10 0 _ _ ls h13 G8 (lv_sub hl [] rfl)
  · have h14 := it_neg h11 (fun q => q hc12)
    refine lv_iconst (pc := 26) (v := 1) X.1 X.2.1 dX1_writeResult_26 (by decide) ?_
    refine lv_goto (pc := 27) (tgt := 31) X.1 X.2.1 dX1_writeResult_27 (by decide) ?_
    exact hk10 1 _ _ ls h14 G8 (lv_sub hl [] rfl)

abbrev rm1_measureCall : Room := { frames := 52, cells := 0, slots := 0, locals := 1690 }
noncomputable def F1_measureCall (b : BS) (p0 : Nat) (p1 : Int32) (p2 : Int32) (p3 : Int32) : Option (BS × Int32) :=
  bn (F1_startOver b 0) fun b3 =>
  bn (F1_setMark b3) fun b6 =>
  bn (F1_letCallWait b6 p1) fun b9 =>
  Loop (fun (q : Int32 × BS) => (fun (x12 : Int32) (b13 : BS) =>
  jp (fun (_ : Unit) => bn (F1_finishCall (F1_wt 13) b13 p0 0) fun b42 =>
  jp (fun (x48 : Int32) => some (.inr (b42, x48))) fun k43 =>
  if (b42.1 57 13) = 0 then
  k43 (b42.1 57 5)
  else
  k43 (-1)) fun k18 =>
  if p2 ≤ x12 then
  k18 ()
  else
  if (60 : Int32) ≤ x12 then
  k18 ()
  else
  bn (F1_setMark b13) fun b28 =>
  bd (setI b28 57 5 ((b28.1 57 5) + p3)) fun b29 =>
  bd (x12 + 1) fun x32 =>
  some (.inl (x32, b29))) q.1 q.2) (0, b9)
set_option maxHeartbeats 4000000 in
set_option maxRecDepth 100000 in
theorem c1_measureCall (l : Launch) (D : va_G) (κ : Nat → ClassId) (A : Nat → Prop) (ad : Nat → Nat) (r0 : Nat → Option va_E) (b : BS) (p0 : Nat) (p1 : Int32) (p2 : Int32) (p3 : Int32) (res : BS × Int32) (h : F1_measureCall b p0 p1 p2 p3 = some res) : Met l yX1_measureCall (gw yX1_measureCall cX1_measureCall 6 (some (FieldType.int))) rm1_measureCall (va_Pc [.ref (ad 57), .ref (ad p0), .int p1, .int p2, .int p3] (MW D κ A ad (celB κ ad r0 b))) (QI D κ A ad (celB κ ad r0 res.1) res.2) 0 0 A := by
  refine met_of (own := RX1) (by decide +kernel) rfl (Nat.le_of_ble_eq_true rfl) ?_
  intro p e s m below meth c ls X hr hlk G hl
  have hl : lv_has ls 6 [(0, .ref (ad 57)), (1, .ref (ad p0)), (2, .int p1), (3, .int p2), (4, .int p3)] := hl
  unfold F1_measureCall at h
  refine lv_aload_n (pc := 0) X.1 X.2.1 dX1_measureCall_0 rfl (lv_at hl 0 rfl) ?_
  refine lv_iconst (pc := 1) (v := 0) X.1 X.2.1 dX1_measureCall_1 (by decide) ?_
  obtain ⟨b3, eb3, h1⟩ := bn_some h
  refine B_callv (pc := 2) (M' := (celB κ ad r0 b3)) (i := 57) (As := [.int 0]) (rest := []) X G (rm := rm1_startOver) rfl rfl rfl (c1_startOver l D κ A ad r0 b 0 b3 eb3) (B_rcv (ci := 1) (okL57 _) (by decide)) rfl g_X1_56 hd_yX1_startOver ⟨Nat.le_of_ble_eq_true rfl, Nat.le_of_ble_eq_true rfl⟩ rfl hl rfl (lv_room (Nat.le_of_ble_eq_true rfl)) dX1_measureCall_2 ⟨Nat.le_of_ble_eq_true rfl, Nat.le_of_ble_eq_true rfl⟩ (fun H locs G2 => ?_)
  refine lv_aload_n (pc := 5) X.1 X.2.1 dX1_measureCall_5 rfl (lv_at hl 0 rfl) ?_
  obtain ⟨b6, eb6, h4⟩ := bn_some h1
  refine B_callv (pc := 6) (M' := (celB κ ad r0 b6)) (i := 57) (As := []) (rest := []) X G2 (rm := rm1_setMark) rfl rfl rfl (c1_setMark l D κ A ad r0 b3 b6 eb6) (B_rcv (ci := 1) (okL57 _) (by decide)) rfl g_X1_60 hd_yX1_setMark ⟨Nat.le_of_ble_eq_true rfl, Nat.le_of_ble_eq_true rfl⟩ rfl hl rfl (lv_room (Nat.le_of_ble_eq_true rfl)) dX1_measureCall_6 ⟨Nat.le_of_ble_eq_true rfl, Nat.le_of_ble_eq_true rfl⟩ (fun H locs G5 => ?_)
  refine lv_aload_n (pc := 9) X.1 X.2.1 dX1_measureCall_9 rfl (lv_at hl 0 rfl) ?_
  refine lv_iload_n (pc := 10) X.1 X.2.1 dX1_measureCall_10 rfl (lv_at hl 2 rfl) ?_
  obtain ⟨b9, eb9, h7⟩ := bn_some h4
  refine B_callv (pc := 11) (M' := (celB κ ad r0 b9)) (i := 57) (As := [.int p1]) (rest := []) X G5 (rm := rm1_letCallWait) rfl rfl rfl (c1_letCallWait l D κ A ad r0 b6 p1 b9 eb9) (B_rcv (ci := 1) (okL57 _) (by decide)) rfl g_X1_87 hd_yX1_letCallWait ⟨Nat.le_of_ble_eq_true rfl, Nat.le_of_ble_eq_true rfl⟩ rfl hl rfl (lv_room (Nat.le_of_ble_eq_true rfl)) dX1_measureCall_11 ⟨Nat.le_of_ble_eq_true rfl, Nat.le_of_ble_eq_true rfl⟩ (fun H locs G8 => ?_)
  refine lv_iconst (pc := 14) (v := 0) X.1 X.2.1 dX1_measureCall_14 (by decide) ?_
  refine lv_istore (pc := 15) (lv' := [(5, .int 0), (0, .ref (ad 57)), (1, .ref (ad p0)), (2, .int p1), (3, .int p2), (4, .int p3)]) X.1 X.2.1 dX1_measureCall_15 hl (by decide) rfl (fun ls10 hl11 => ?_)
  refine Loop_ind (P := fun (q : Int32 × BS) => ∀ (H : Heap) (locs : List Loc) (ls : Array Slot), Mm D κ A ad (celB κ ad r0 q.2) s H locs → lv_has ls 6 [(0, .ref (ad 57)), (1, .ref (ad p0)), (3, .int p2), (4, .int p3), (5, .int q.1)] → W p l e rm1_measureCall s m [.ref (ad 57), .ref (ad p0), .int p1, .int p2, .int p3].toArray below meth c H locs 0 0 (MQ below (QI D κ A ad (celB κ ad r0 res.1) res.2) [.ref (ad 57), .ref (ad p0), .int p1, .int p2, .int p3].toArray s 0 0 A) (F0 m 17 ls [])) ?_ h7 _ _ ls10 G8 (lv_sub hl11 [1, 2, 4, 5, 0] rfl)
  intro q y1 h14 ih1 hz1 H locs ls17 G15 hl16
  obtain ⟨x12, b13⟩ := q
  try dsimp only at h14 ih1 G15 hl16 ⊢
  refine lv_iload (pc := 17) X.1 X.2.1 dX1_measureCall_17 (lv_at hl16 4 rfl) ?_
  refine lv_iload_n (pc := 19) X.1 X.2.1 dX1_measureCall_19 rfl (lv_at hl16 2 rfl) ?_
  obtain ⟨k18, ek18, h19⟩ := jp_some h14
  have hk18 : ∀  (H : Heap) (locs : List Loc) (ls : Array Slot), k18 () = some y1 → Mm D κ A ad (celB κ ad r0 b13) s H locs → lv_has ls 6 [(0, .ref (ad 57)), (1, .ref (ad p0))] → W p l e rm1_measureCall s m [.ref (ad 57), .ref (ad p0), .int p1, .int p2, .int p3].toArray below meth c H locs 0 0 (MQ below (QI D κ A ad (celB κ ad r0 res.1) res.2) [.ref (ad 57), .ref (ad p0), .int p1, .int p2, .int p3].toArray s 0 0 A) (F0 m 51 ls []) := by
    intro  H locs ls39 h36 G37 hl38
    rw [ek18] at h36
    try dsimp only at h36
    refine lv_aload_n (pc := 51) X.1 X.2.1 dX1_measureCall_51 rfl (lv_at hl38 0 rfl) ?_
    refine lv_aload_n (pc := 52) X.1 X.2.1 dX1_measureCall_52 rfl (lv_at hl38 1 rfl) ?_
    refine lv_iconst (pc := 53) (v := 0) X.1 X.2.1 dX1_measureCall_53 (by decide) ?_
    obtain ⟨b42, eb42, h40⟩ := bn_some h36
    refine B_callv (pc := 54) (M' := (celB κ ad r0 b42)) (i := 57) (As := [.ref (ad p0), .int 0]) (rest := []) X G37 (rm := (rm1_finishCall 49 1605)) rfl rfl rfl (c1_finishCall l D κ A ad r0 (F1_wt 13) 49 1605 (by decide) (by decide) (c1_wt l D κ A ad r0 13) b13 p0 0 b42 eb42) (B_rcv (ci := 1) (okL57 _) (by decide)) rfl g_X1_91 hd_yX1_finishCall ⟨Nat.le_of_ble_eq_true rfl, Nat.le_of_ble_eq_true rfl⟩ rfl hl38 rfl (lv_room (Nat.le_of_ble_eq_true rfl)) dX1_measureCall_54 ⟨Nat.le_of_ble_eq_true rfl, Nat.le_of_ble_eq_true rfl⟩ (fun H locs G41 => ?_)
    refine lv_aload_n (pc := 57) X.1 X.2.1 dX1_measureCall_57 rfl (lv_at hl38 0 rfl) ?_
    refine B_geti (pc := 58) (i := 57) (k := 13) X G41 rfl clX1 (okL57 _) (by decide) rfl rfl fl_X1_53 dX1_measureCall_58 ?_
    obtain ⟨k43, ek43, h44⟩ := jp_some h40
    have hk43 : ∀ (x48 : Int32) (H : Heap) (locs : List Loc) (ls : Array Slot), k43 x48 = some y1 → Mm D κ A ad (celB κ ad r0 b42) s H locs → lv_has ls 6 [] → W p l e rm1_measureCall s m [.ref (ad 57), .ref (ad p0), .int p1, .int p2, .int p3].toArray below meth c H locs 0 0 (MQ below (QI D κ A ad (celB κ ad r0 res.1) res.2) [.ref (ad 57), .ref (ad p0), .int p1, .int p2, .int p3].toArray s 0 0 A) (F0 m 72 ls [.int x48]) := by
      intro x48 H locs ls52 h49 G50 hl51
      rw [ek43] at h49
      try dsimp only at h49
      have h49_i := Option.some.inj h49
      have h49_i_1 := hz1 _ h49_i.symm
      exact m_iret (pc := 72) X G50 hr hlk dX1_measureCall_72 (congrArg Prod.snd h49_i_1) (congrArg (fun q : BS × Int32 => celB κ ad r0 q.1) h49_i_1)
    refine lv_if_eq (pc := 61) (tgt := 68) X.1 X.2.1 dX1_measureCall_61 (by decide) (fun hc45 => ?_) (fun hc45 => ?_)
    · have h46 := it_pos h44 hc45
      refine lv_aload_n (pc := 68) X.1 X.2.1 dX1_measureCall_68 rfl (lv_at hl38 0 rfl) ?_
      refine B_geti (pc := 69) (i := 57) (k := 5) X G41 rfl clX1 (okL57 _) (by decide) rfl rfl fl_X1_27 dX1_measureCall_69 ?_
      exact hk43 (b42.1 57 5) _ _ ls39 h46 G41 (lv_sub hl38 [] rfl)
    · have h47 := it_neg h44 hc45
      refine lv_iconst (pc := 64) (v := (-1)) X.1 X.2.1 dX1_measureCall_64 (by decide) ?_
      refine lv_goto (pc := 65) (tgt := 72) X.1 X.2.1 dX1_measureCall_65 (by decide) ?_
      exact hk43 (-1) _ _ ls39 h47 G41 (lv_sub hl38 [] rfl)
  refine lv_icmp_ge (pc := 20) (tgt := 51) X.1 X.2.1 dX1_measureCall_20 (by decide) (fun hc20 => ?_) (fun hc20 => ?_)
  · have h21 := it_pos h19 hc20
    exact hk18  _ _ ls17 h21 G15 (lv_sub hl16 [0, 1] rfl)
  · have h22 := it_neg h19 hc20
    refine lv_iload (pc := 23) X.1 X.2.1 dX1_measureCall_23 (lv_at hl16 4 rfl) ?_
    refine lv_bipush (pc := 25) (v := 60) X.1 X.2.1 dX1_measureCall_25 (by decide) ?_
    refine lv_icmp_ge (pc := 27) (tgt := 51) X.1 X.2.1 dX1_measureCall_27 (by decide) (fun hc23 => ?_) (fun hc23 => ?_)
    · have h24 := it_pos h22 hc23
      exact hk18  _ _ ls17 h24 G15 (lv_sub hl16 [0, 1] rfl)
    · have h25 := it_neg h22 hc23
      refine lv_aload_n (pc := 30) X.1 X.2.1 dX1_measureCall_30 rfl (lv_at hl16 0 rfl) ?_
      obtain ⟨b28, eb28, h26⟩ := bn_some h25
      refine B_callv (pc := 31) (M' := (celB κ ad r0 b28)) (i := 57) (As := []) (rest := []) X G15 (rm := rm1_setMark) rfl rfl rfl (c1_setMark l D κ A ad r0 b13 b28 eb28) (B_rcv (ci := 1) (okL57 _) (by decide)) rfl g_X1_60 hd_yX1_setMark ⟨Nat.le_of_ble_eq_true rfl, Nat.le_of_ble_eq_true rfl⟩ rfl hl16 rfl (lv_room (Nat.le_of_ble_eq_true rfl)) dX1_measureCall_31 ⟨Nat.le_of_ble_eq_true rfl, Nat.le_of_ble_eq_true rfl⟩ (fun H locs G27 => ?_)
      refine lv_aload_n (pc := 34) X.1 X.2.1 dX1_measureCall_34 rfl (lv_at hl16 0 rfl) ?_
      refine lv_dup (pc := 35) X.1 X.2.1 dX1_measureCall_35 rfl ?_
      refine B_geti (pc := 36) (i := 57) (k := 5) X G27 rfl clX1 (okL57 _) (by decide) rfl rfl fl_X1_27 dX1_measureCall_36 ?_
      refine lv_iload (pc := 39) X.1 X.2.1 dX1_measureCall_39 (lv_at hl16 3 rfl) ?_
      refine lv_iadd (pc := 41) X.1 X.2.1 dX1_measureCall_41 ?_
      obtain ⟨b29, eb29, h30⟩ := bd_some h26
      refine B_puti (pc := 42) (i := 57) (k := 5) (v := ((b28.1 57 5) + p3)) X G27 eb29 rfl clX1 (okL57 _) (by decide) rfl rfl rfl rfl fl_X1_27 dX1_measureCall_42 (fun H locs G31 => ?_)
      have nb29 : b29.2.2 = b28.2.2 := by rw [eb29]; rfl
      obtain ⟨x32, ex32, h35⟩ := bd_some h30
      refine lv_iinc (pc := 45) (v := x32) (lv' := [(5, .int x32), (0, .ref (ad 57)), (1, .ref (ad p0)), (3, .int p2), (4, .int p3)]) X.1 X.2.1 dX1_measureCall_45 hl16 (k := 4) rfl (by rw [ex32]; rfl) (by decide) rfl (fun ls33 hl34 => ?_)
      refine lv_goto (pc := 48) (tgt := 17) X.1 X.2.1 dX1_measureCall_48 (by decide) ?_
      have h35_i := Option.some.inj h35
      exact ih1 _ h35_i.symm _ _ ls33 G31 (lv_sub hl34 [1, 2, 3, 4, 0] rfl)
