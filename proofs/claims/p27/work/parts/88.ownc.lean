/-! THE LAW'S OWN METHODS, laid by wip/p27/walkl.py -/
abbrev rmL_same : Room := { frames := 55, cells := 0, slots := 0, locals := 1761 }
noncomputable def FL_same (E1 : Nat → Int32 → Int32 → Option Int32) (E2 : Nat → Int32 → Int32 → Option Int32) : Option (Int32) :=
  Loop (fun (q : Int32 × Int32) => (fun (x5 : Int32) (x6 : Int32) =>
  jp (fun (_ : Unit) => Loop (fun (q : Int32 × Int32) => (fun (x66 : Int32) (x67 : Int32) =>
  bn (E1 0 0 0) fun x73 =>
  jp (fun (_ : Unit) => Loop (fun (q : Int32 × Int32) => (fun (x117 : Int32) (x118 : Int32) =>
  jp (fun (_ : Unit) => bz x117 (some (.inr (.inr (.inr x117))))) fun k123 =>
  if (6 : Int32) ≤ x118 then
  k123 ()
  else
  if x117 = 0 then
  k123 ()
  else
  bn (E1 4 x118 0) fun x132 =>
  bn (E2 4 x118 0) fun x136 =>
  jp (fun (x172 : Int32) => bd (x118 + 1) fun x179 =>
  some (.inl (x172, x179))) fun k139 =>
  jp (fun (_ : Unit) => k139 0) fun k141 =>
  if ¬ x132 = x136 then
  k141 ()
  else
  bn (E1 5 x118 0) fun x147 =>
  bn (E2 5 x118 0) fun x151 =>
  if ¬ x147 = x151 then
  k141 ()
  else
  bn (E1 7 x118 4) fun x158 =>
  bn (E2 7 x118 4) fun x162 =>
  if ¬ x158 = x162 then
  k141 ()
  else
  k139 1) q.1 q.2) (x66, 0)) fun k76 =>
  if x73 ≤ x67 then
  k76 ()
  else
  if (201 : Int32) ≤ x67 then
  k76 ()
  else
  if x66 = 0 then
  k76 ()
  else
  bn (E1 1 x67 0) fun x88 =>
  bn (E2 1 x67 0) fun x92 =>
  jp (fun (x100 : Int32) => bd (x67 + 1) fun x107 =>
  some (.inl (x100, x107))) fun k95 =>
  if ¬ x88 = x92 then
  k95 0
  else
  k95 1) q.1 q.2) (x5, 0)) fun k11 =>
  if (7 : Int32) ≤ x6 then
  k11 ()
  else
  if x5 = 0 then
  k11 ()
  else
  bn (E1 3 x6 0) fun x20 =>
  bn (E2 3 x6 0) fun x24 =>
  jp (fun (x49 : Int32) => bd (x6 + 1) fun x56 =>
  some (.inl (x49, x56))) fun k27 =>
  jp (fun (_ : Unit) => k27 0) fun k29 =>
  if ¬ x20 = x24 then
  k29 ()
  else
  bn (E1 0 x6 0) fun x35 =>
  bn (E2 0 x6 0) fun x39 =>
  if ¬ x35 = x39 then
  k29 ()
  else
  k27 1) q.1 q.2) (1, 0)
set_option maxHeartbeats 4000000 in
set_option maxRecDepth 100000 in
theorem mL_same (l : Launch) (D : va_G) (κ : Nat → ClassId) (A : Nat → Prop) (o oq : Nat) (P1 P2 : BS → Prop)  (E1 : Nat → Int32 → Int32 → Option Int32) (E2 : Nat → Int32 → Int32 → Option Int32) (hE1 : ∀ m x y v, E1 m x y = some v → QH P1 m x y v) (hE2 : ∀ m x y v, E2 m x y = some v → QH P2 m x y v) (res : Int32) (h : FL_same E1 E2 = some res) : Met l yL_same (gw yL_same cL_same 4 (some (FieldType.boolean))) rmL_same (va_Pc [.ref o, .ref oq] (WB D κ A (B2 D κ A o oq P1 P2))) (QW A (B2 D κ A o oq P1 P2) res) 0 0 A := by
  refine met_ofG (own := RL) (by decide +kernel) rfl (Nat.le_of_ble_eq_true rfl) ?_
  intro p e s m below meth c ls X hr hlk G hl
  have G : Wo D κ A (B2 D κ A o oq P1 P2) s s.heap [] := G
  have hl : lv_has ls 4 [(0, .ref o), (1, .ref oq)] := hl
  unfold FL_same at h
  refine lv_iconst (pc := 0) (v := 1) X.1 X.2.1 dL_same_0 (by decide) ?_
  refine lv_istore_n (pc := 1) (lv' := [(2, .int 1), (0, .ref o), (1, .ref oq)]) X.1 X.2.1 dL_same_1 rfl hl (by decide) rfl (fun ls1 hl2 => ?_)
  refine lv_iconst (pc := 2) (v := 0) X.1 X.2.1 dL_same_2 (by decide) ?_
  refine lv_istore_n (pc := 3) (lv' := [(3, .int 0), (2, .int 1), (0, .ref o), (1, .ref oq)]) X.1 X.2.1 dL_same_3 rfl hl2 (by decide) rfl (fun ls3 hl4 => ?_)
  refine Loop_ind (P := fun (q : Int32 × Int32) => ∀ (H : Heap) (locs : List Loc) (ls : Array Slot), Wo D κ A (B2 D κ A o oq P1 P2) s H locs → lv_has ls 4 [(0, .ref o), (1, .ref oq), (2, .int q.1), (3, .int q.2)] → W p l e rmL_same s m [.ref o, .ref oq].toArray below meth c H locs 0 0 (MQ below (QW A (B2 D κ A o oq P1 P2) res) [.ref o, .ref oq].toArray s 0 0 A) (F0 m 4 ls [])) ?_ h _ _ ls3 G (lv_sub hl4 [2, 3, 1, 0] rfl)
  intro q y1 h7 ih1 hz1 H locs ls10 G8 hl9
  obtain ⟨x5, x6⟩ := q
  try dsimp only at h7 ih1 G8 hl9 ⊢
  refine lv_iload_n (pc := 4) X.1 X.2.1 dL_same_4 rfl (lv_at hl9 3 rfl) ?_
  refine lv_bipush (pc := 5) (v := 7) X.1 X.2.1 dL_same_5 (by decide) ?_
  obtain ⟨k11, ek11, h12⟩ := jp_some h7
  have hk11 : ∀  (H : Heap) (locs : List Loc) (ls : Array Slot), k11 () = some y1 → Wo D κ A (B2 D κ A o oq P1 P2) s H locs → lv_has ls 4 [(0, .ref o), (1, .ref oq), (2, .int x5)] → W p l e rmL_same s m [.ref o, .ref oq].toArray below meth c H locs 0 0 (MQ below (QW A (B2 D κ A o oq P1 P2) res) [.ref o, .ref oq].toArray s 0 0 A) (F0 m 52 ls []) := by
    intro  H locs ls63 h60 G61 hl62
    rw [ek11] at h60
    try dsimp only at h60
    refine lv_iconst (pc := 52) (v := 0) X.1 X.2.1 dL_same_52 (by decide) ?_
    refine lv_istore_n (pc := 53) (lv' := [(3, .int 0), (0, .ref o), (1, .ref oq), (2, .int x5)]) X.1 X.2.1 dL_same_53 rfl hl62 (by decide) rfl (fun ls64 hl65 => ?_)
    refine Loop_ind (P := fun (q : Int32 × Int32) => ∀ (H : Heap) (locs : List Loc) (ls : Array Slot), Wo D κ A (B2 D κ A o oq P1 P2) s H locs → lv_has ls 4 [(0, .ref o), (1, .ref oq), (2, .int q.1), (3, .int q.2)] → W p l e rmL_same s m [.ref o, .ref oq].toArray below meth c H locs 0 0 (MQ below (QW A (B2 D κ A o oq P1 P2) res) [.ref o, .ref oq].toArray s 0 0 A) (F0 m 54 ls [])) ?_ h60 _ _ ls64 G61 (lv_sub hl65 [1, 2, 3, 0] rfl)
    intro q y2 h68 ih2 hz2 H locs ls71 G69 hl70
    obtain ⟨x66, x67⟩ := q
    try dsimp only at h68 ih2 G69 hl70 ⊢
    refine lv_iload_n (pc := 54) X.1 X.2.1 dL_same_54 rfl (lv_at hl70 3 rfl) ?_
    refine lv_aload_n (pc := 55) X.1 X.2.1 dL_same_55 rfl (lv_at hl70 0 rfl) ?_
    refine lv_iconst (pc := 56) (v := 0) X.1 X.2.1 dL_same_56 (by decide) ?_
    obtain ⟨x73, e72, h74⟩ := bn_some h68
    refine w_callH (pc := 57) (v := x73) (B' := (B2 D κ A o oq P1 P2)) (As := [.ref o, .int 0]) (rest := [.int x67]) X G69 (rm := rmLn_result) rfl rfl (met_two (fun A => bn_result l D κ A o P1 P1 0 x73 (qh_result (hE1 0 0 0 x73 e72)))) gL_106 hsL_result ⟨Nat.le_of_ble_eq_true rfl, Nat.le_of_ble_eq_true rfl⟩ rfl hl70 rfl (lv_room (Nat.le_of_ble_eq_true rfl)) dL_same_57 ⟨Nat.le_of_ble_eq_true rfl, Nat.le_of_ble_eq_true rfl⟩ (fun H locs G75 => ?_)
    obtain ⟨k76, ek76, h77⟩ := jp_some h74
    have hk76 : ∀  (H : Heap) (locs : List Loc) (ls : Array Slot), k76 () = some y2 → Wo D κ A (B2 D κ A o oq P1 P2) s H locs → lv_has ls 4 [(0, .ref o), (1, .ref oq), (2, .int x66)] → W p l e rmL_same s m [.ref o, .ref oq].toArray below meth c H locs 0 0 (MQ below (QW A (B2 D κ A o oq P1 P2) res) [.ref o, .ref oq].toArray s 0 0 A) (F0 m 99 ls []) := by
      intro  H locs ls114 h111 G112 hl113
      rw [ek76] at h111
      try dsimp only at h111
      refine lv_iconst (pc := 99) (v := 0) X.1 X.2.1 dL_same_99 (by decide) ?_
      refine lv_istore_n (pc := 100) (lv' := [(3, .int 0), (0, .ref o), (1, .ref oq), (2, .int x66)]) X.1 X.2.1 dL_same_100 rfl hl113 (by decide) rfl (fun ls115 hl116 => ?_)
      refine Loop_ind (P := fun (q : Int32 × Int32) => ∀ (H : Heap) (locs : List Loc) (ls : Array Slot), Wo D κ A (B2 D κ A o oq P1 P2) s H locs → lv_has ls 4 [(0, .ref o), (1, .ref oq), (2, .int q.1), (3, .int q.2)] → W p l e rmL_same s m [.ref o, .ref oq].toArray below meth c H locs 0 0 (MQ below (QW A (B2 D κ A o oq P1 P2) res) [.ref o, .ref oq].toArray s 0 0 A) (F0 m 101 ls [])) ?_ h111 _ _ ls115 G112 (lv_sub hl116 [1, 2, 3, 0] rfl)
      intro q y3 h119 ih3 hz3 H locs ls122 G120 hl121
      obtain ⟨x117, x118⟩ := q
      try dsimp only at h119 ih3 G120 hl121 ⊢
      refine lv_iload_n (pc := 101) X.1 X.2.1 dL_same_101 rfl (lv_at hl121 3 rfl) ?_
      refine lv_bipush (pc := 102) (v := 6) X.1 X.2.1 dL_same_102 (by decide) ?_
      obtain ⟨k123, ek123, h124⟩ := jp_some h119
      have hk123 : ∀  (H : Heap) (locs : List Loc) (ls : Array Slot), k123 () = some y3 → Wo D κ A (B2 D κ A o oq P1 P2) s H locs → lv_has ls 4 [(2, .int x117)] → W p l e rmL_same s m [.ref o, .ref oq].toArray below meth c H locs 0 0 (MQ below (QW A (B2 D κ A o oq P1 P2) res) [.ref o, .ref oq].toArray s 0 0 A) (F0 m 168 ls []) := by
        intro  H locs ls186 h183 G184 hl185
        rw [ek123] at h183
        try dsimp only at h183
        refine lv_iload_n (pc := 168) X.1 X.2.1 dL_same_168 rfl (lv_at hl185 0 rfl) ?_
        obtain ⟨hb, h183_b⟩ := bz_some h183
        have h183_b_i := Option.some.inj h183_b
        have h183_b_i_3 := hz3 _ h183_b_i.symm
        have h183_b_i_3_2 := hz2 _ h183_b_i_3.symm
        have h183_b_i_3_2_1 := hz1 _ h183_b_i_3_2.symm
        exact w_zret (pc := 169) X G184 hr hlk dL_same_169 hb h183_b_i_3_2_1 rfl (Nat.le_of_ble_eq_true rfl) (Nat.le_of_ble_eq_true rfl)
      refine lv_icmp_ge (pc := 104) (tgt := 168) X.1 X.2.1 dL_same_104 (by decide) (fun hc125 => ?_) (fun hc125 => ?_)
      · have h126 := it_pos h124 hc125
        exact hk123  _ _ ls122 h126 G120 (lv_sub hl121 [2] rfl)
      · have h127 := it_neg h124 hc125
        refine lv_iload_n (pc := 107) X.1 X.2.1 dL_same_107 rfl (lv_at hl121 2 rfl) ?_
        refine lv_if_eq (pc := 108) (tgt := 168) X.1 X.2.1 dL_same_108 (by decide) (fun hc128 => ?_) (fun hc128 => ?_)
        · have h129 := it_pos h127 hc128
          exact hk123  _ _ ls122 h129 G120 (lv_sub hl121 [2] rfl)
        · have h130 := it_neg h127 hc128
          refine lv_aload_n (pc := 111) X.1 X.2.1 dL_same_111 rfl (lv_at hl121 0 rfl) ?_
          refine lv_iload_n (pc := 112) X.1 X.2.1 dL_same_112 rfl (lv_at hl121 3 rfl) ?_
          refine lv_iconst (pc := 113) (v := 0) X.1 X.2.1 dL_same_113 (by decide) ?_
          obtain ⟨x132, e131, h133⟩ := bn_some h130
          refine w_callH (pc := 114) (v := x132) (B' := (B2 D κ A o oq P1 P2)) (As := [.ref o, .int x118, .int 0]) (rest := []) X G120 (rm := rmLn_body) rfl rfl (met_two (fun A => bn_body l D κ A o P1 P1 x118 0 x132 (qh_body (hE1 4 x118 0 x132 e131)))) gL_114 hsL_body ⟨Nat.le_of_ble_eq_true rfl, Nat.le_of_ble_eq_true rfl⟩ rfl hl121 rfl (lv_room (Nat.le_of_ble_eq_true rfl)) dL_same_114 ⟨Nat.le_of_ble_eq_true rfl, Nat.le_of_ble_eq_true rfl⟩ (fun H locs G134 => ?_)
          refine lv_aload_n (pc := 117) X.1 X.2.1 dL_same_117 rfl (lv_at hl121 1 rfl) ?_
          refine lv_iload_n (pc := 118) X.1 X.2.1 dL_same_118 rfl (lv_at hl121 3 rfl) ?_
          refine lv_iconst (pc := 119) (v := 0) X.1 X.2.1 dL_same_119 (by decide) ?_
          obtain ⟨x136, e135, h137⟩ := bn_some h133
          refine w_callH (pc := 120) (v := x136) (B' := (B2 D κ A o oq P1 P2)) (As := [.ref oq, .int x118, .int 0]) (rest := [.int x132]) X G134 (rm := rmLn_body) rfl rfl (met_two' (fun A => bn_body l D κ A oq P2 P2 x118 0 x136 (qh_body (hE2 4 x118 0 x136 e135)))) gL_114 hsL_body ⟨Nat.le_of_ble_eq_true rfl, Nat.le_of_ble_eq_true rfl⟩ rfl hl121 rfl (lv_room (Nat.le_of_ble_eq_true rfl)) dL_same_120 ⟨Nat.le_of_ble_eq_true rfl, Nat.le_of_ble_eq_true rfl⟩ (fun H locs G138 => ?_)
          obtain ⟨k139, ek139, h140⟩ := jp_some h137
          have hk139 : ∀ (x172 : Int32) (H : Heap) (locs : List Loc) (ls : Array Slot), k139 x172 = some y3 → Wo D κ A (B2 D κ A o oq P1 P2) s H locs → lv_has ls 4 [(0, .ref o), (1, .ref oq), (3, .int x118)] → W p l e rmL_same s m [.ref o, .ref oq].toArray below meth c H locs 0 0 (MQ below (QW A (B2 D κ A o oq P1 P2) res) [.ref o, .ref oq].toArray s 0 0 A) (F0 m 161 ls [.int x172]) := by
            intro x172 H locs ls176 h173 G174 hl175
            rw [ek139] at h173
            try dsimp only at h173
            refine lv_istore_n (pc := 161) (lv' := [(2, .int x172), (0, .ref o), (1, .ref oq), (3, .int x118)]) X.1 X.2.1 dL_same_161 rfl hl175 (by decide) rfl (fun ls177 hl178 => ?_)
            obtain ⟨x179, ex179, h182⟩ := bd_some h173
            refine lv_iinc (pc := 162) (v := x179) (lv' := [(3, .int x179), (2, .int x172), (0, .ref o), (1, .ref oq)]) X.1 X.2.1 dL_same_162 hl178 (k := 3) rfl (by rw [ex179]; rfl) (by decide) rfl (fun ls180 hl181 => ?_)
            refine lv_goto (pc := 165) (tgt := 101) X.1 X.2.1 dL_same_165 (by decide) ?_
            have h182_i := Option.some.inj h182
            exact ih3 _ h182_i.symm _ _ ls180 G174 (lv_sub hl181 [2, 3, 1, 0] rfl)
          obtain ⟨k141, ek141, h142⟩ := jp_some h140
          have hk141 : ∀  (H : Heap) (locs : List Loc) (ls : Array Slot), k141 () = some y3 → Wo D κ A (B2 D κ A o oq P1 P2) s H locs → lv_has ls 4 [(0, .ref o), (1, .ref oq), (3, .int x118)] → W p l e rmL_same s m [.ref o, .ref oq].toArray below meth c H locs 0 0 (MQ below (QW A (B2 D κ A o oq P1 P2) res) [.ref o, .ref oq].toArray s 0 0 A) (F0 m 160 ls []) := by
            intro  H locs ls171 h168 G169 hl170
            rw [ek141] at h168
            try dsimp only at h168
            refine lv_iconst (pc := 160) (v := 0) X.1 X.2.1 dL_same_160 (by decide) ?_
            exact hk139 0 _ _ ls171 h168 G169 (lv_sub hl170 [0, 1, 2] rfl)
          refine lv_icmp_ne (pc := 123) (tgt := 160) X.1 X.2.1 dL_same_123 (by decide) (fun hc143 => ?_) (fun hc143 => ?_)
          · have h144 := it_pos h142 hc143
            exact hk141  _ _ ls122 h144 G138 (lv_sub hl121 [0, 1, 3] rfl)
          · have h145 := it_neg h142 (fun q => q hc143)
            refine lv_aload_n (pc := 126) X.1 X.2.1 dL_same_126 rfl (lv_at hl121 0 rfl) ?_
            refine lv_iload_n (pc := 127) X.1 X.2.1 dL_same_127 rfl (lv_at hl121 3 rfl) ?_
            refine lv_iconst (pc := 128) (v := 0) X.1 X.2.1 dL_same_128 (by decide) ?_
            obtain ⟨x147, e146, h148⟩ := bn_some h145
            refine w_callH (pc := 129) (v := x147) (B' := (B2 D κ A o oq P1 P2)) (As := [.ref o, .int x118, .int 0]) (rest := []) X G138 (rm := rmLn_uses) rfl rfl (met_two (fun A => bn_uses l D κ A o P1 P1 x118 0 x147 (qh_uses (hE1 5 x118 0 x147 e146)))) gL_119 hsL_uses ⟨Nat.le_of_ble_eq_true rfl, Nat.le_of_ble_eq_true rfl⟩ rfl hl121 rfl (lv_room (Nat.le_of_ble_eq_true rfl)) dL_same_129 ⟨Nat.le_of_ble_eq_true rfl, Nat.le_of_ble_eq_true rfl⟩ (fun H locs G149 => ?_)
            refine lv_aload_n (pc := 132) X.1 X.2.1 dL_same_132 rfl (lv_at hl121 1 rfl) ?_
            refine lv_iload_n (pc := 133) X.1 X.2.1 dL_same_133 rfl (lv_at hl121 3 rfl) ?_
            refine lv_iconst (pc := 134) (v := 0) X.1 X.2.1 dL_same_134 (by decide) ?_
            obtain ⟨x151, e150, h152⟩ := bn_some h148
            refine w_callH (pc := 135) (v := x151) (B' := (B2 D κ A o oq P1 P2)) (As := [.ref oq, .int x118, .int 0]) (rest := [.int x147]) X G149 (rm := rmLn_uses) rfl rfl (met_two' (fun A => bn_uses l D κ A oq P2 P2 x118 0 x151 (qh_uses (hE2 5 x118 0 x151 e150)))) gL_119 hsL_uses ⟨Nat.le_of_ble_eq_true rfl, Nat.le_of_ble_eq_true rfl⟩ rfl hl121 rfl (lv_room (Nat.le_of_ble_eq_true rfl)) dL_same_135 ⟨Nat.le_of_ble_eq_true rfl, Nat.le_of_ble_eq_true rfl⟩ (fun H locs G153 => ?_)
            refine lv_icmp_ne (pc := 138) (tgt := 160) X.1 X.2.1 dL_same_138 (by decide) (fun hc154 => ?_) (fun hc154 => ?_)
            · have h155 := it_pos h152 hc154
              exact hk141  _ _ ls122 h155 G153 (lv_sub hl121 [0, 1, 3] rfl)
            · have h156 := it_neg h152 (fun q => q hc154)
              refine lv_aload_n (pc := 141) X.1 X.2.1 dL_same_141 rfl (lv_at hl121 0 rfl) ?_
              refine lv_iload_n (pc := 142) X.1 X.2.1 dL_same_142 rfl (lv_at hl121 3 rfl) ?_
              refine lv_iconst (pc := 143) (v := 4) X.1 X.2.1 dL_same_143 (by decide) ?_
              obtain ⟨x158, e157, h159⟩ := bn_some h156
              refine w_callH (pc := 144) (v := x158) (B' := (B2 D κ A o oq P1 P2)) (As := [.ref o, .int x118, .int 4]) (rest := []) X G153 (rm := rmLn_lengthOf) rfl rfl (met_two (fun A => bn_lengthOf l D κ A o P1 P1 x118 4 x158 (qh_lengthOf (hE1 7 x118 4 x158 e157)))) gL_123 hsL_lengthOf ⟨Nat.le_of_ble_eq_true rfl, Nat.le_of_ble_eq_true rfl⟩ rfl hl121 rfl (lv_room (Nat.le_of_ble_eq_true rfl)) dL_same_144 ⟨Nat.le_of_ble_eq_true rfl, Nat.le_of_ble_eq_true rfl⟩ (fun H locs G160 => ?_)
              refine lv_aload_n (pc := 147) X.1 X.2.1 dL_same_147 rfl (lv_at hl121 1 rfl) ?_
              refine lv_iload_n (pc := 148) X.1 X.2.1 dL_same_148 rfl (lv_at hl121 3 rfl) ?_
              refine lv_iconst (pc := 149) (v := 4) X.1 X.2.1 dL_same_149 (by decide) ?_
              obtain ⟨x162, e161, h163⟩ := bn_some h159
              refine w_callH (pc := 150) (v := x162) (B' := (B2 D κ A o oq P1 P2)) (As := [.ref oq, .int x118, .int 4]) (rest := [.int x158]) X G160 (rm := rmLn_lengthOf) rfl rfl (met_two' (fun A => bn_lengthOf l D κ A oq P2 P2 x118 4 x162 (qh_lengthOf (hE2 7 x118 4 x162 e161)))) gL_123 hsL_lengthOf ⟨Nat.le_of_ble_eq_true rfl, Nat.le_of_ble_eq_true rfl⟩ rfl hl121 rfl (lv_room (Nat.le_of_ble_eq_true rfl)) dL_same_150 ⟨Nat.le_of_ble_eq_true rfl, Nat.le_of_ble_eq_true rfl⟩ (fun H locs G164 => ?_)
              refine lv_icmp_ne (pc := 153) (tgt := 160) X.1 X.2.1 dL_same_153 (by decide) (fun hc165 => ?_) (fun hc165 => ?_)
              · have h166 := it_pos h163 hc165
                exact hk141  _ _ ls122 h166 G164 (lv_sub hl121 [0, 1, 3] rfl)
              · have h167 := it_neg h163 (fun q => q hc165)
                refine lv_iconst (pc := 156) (v := 1) X.1 X.2.1 dL_same_156 (by decide) ?_
                refine lv_goto (pc := 157) (tgt := 161) X.1 X.2.1 dL_same_157 (by decide) ?_
                exact hk139 1 _ _ ls122 h167 G164 (lv_sub hl121 [0, 1, 3] rfl)
    refine lv_icmp_ge (pc := 60) (tgt := 99) X.1 X.2.1 dL_same_60 (by decide) (fun hc78 => ?_) (fun hc78 => ?_)
    · have h79 := it_pos h77 hc78
      exact hk76  _ _ ls71 h79 G75 (lv_sub hl70 [0, 1, 2] rfl)
    · have h80 := it_neg h77 hc78
      refine lv_iload_n (pc := 63) X.1 X.2.1 dL_same_63 rfl (lv_at hl70 3 rfl) ?_
      refine lv_sipush (pc := 64) (v := 201) X.1 X.2.1 dL_same_64 (by decide) ?_
      refine lv_icmp_ge (pc := 67) (tgt := 99) X.1 X.2.1 dL_same_67 (by decide) (fun hc81 => ?_) (fun hc81 => ?_)
      · have h82 := it_pos h80 hc81
        exact hk76  _ _ ls71 h82 G75 (lv_sub hl70 [0, 1, 2] rfl)
      · have h83 := it_neg h80 hc81
        refine lv_iload_n (pc := 70) X.1 X.2.1 dL_same_70 rfl (lv_at hl70 2 rfl) ?_
        refine lv_if_eq (pc := 71) (tgt := 99) X.1 X.2.1 dL_same_71 (by decide) (fun hc84 => ?_) (fun hc84 => ?_)
        · have h85 := it_pos h83 hc84
          exact hk76  _ _ ls71 h85 G75 (lv_sub hl70 [0, 1, 2] rfl)
        · have h86 := it_neg h83 hc84
          refine lv_aload_n (pc := 74) X.1 X.2.1 dL_same_74 rfl (lv_at hl70 0 rfl) ?_
          refine lv_iload_n (pc := 75) X.1 X.2.1 dL_same_75 rfl (lv_at hl70 3 rfl) ?_
          obtain ⟨x88, e87, h89⟩ := bn_some h86
          refine w_callH (pc := 76) (v := x88) (B' := (B2 D κ A o oq P1 P2)) (As := [.ref o, .int x67]) (rest := []) X G75 (rm := rmLn_sign) rfl rfl (met_two (fun A => bn_sign l D κ A o P1 P1 x67 x88 (qh_sign (hE1 1 x67 0 x88 e87)))) gL_108 hsL_sign ⟨Nat.le_of_ble_eq_true rfl, Nat.le_of_ble_eq_true rfl⟩ rfl hl70 rfl (lv_room (Nat.le_of_ble_eq_true rfl)) dL_same_76 ⟨Nat.le_of_ble_eq_true rfl, Nat.le_of_ble_eq_true rfl⟩ (fun H locs G90 => ?_)
          refine lv_aload_n (pc := 79) X.1 X.2.1 dL_same_79 rfl (lv_at hl70 1 rfl) ?_
          refine lv_iload_n (pc := 80) X.1 X.2.1 dL_same_80 rfl (lv_at hl70 3 rfl) ?_
          obtain ⟨x92, e91, h93⟩ := bn_some h89
          refine w_callH (pc := 81) (v := x92) (B' := (B2 D κ A o oq P1 P2)) (As := [.ref oq, .int x67]) (rest := [.int x88]) X G90 (rm := rmLn_sign) rfl rfl (met_two' (fun A => bn_sign l D κ A oq P2 P2 x67 x92 (qh_sign (hE2 1 x67 0 x92 e91)))) gL_108 hsL_sign ⟨Nat.le_of_ble_eq_true rfl, Nat.le_of_ble_eq_true rfl⟩ rfl hl70 rfl (lv_room (Nat.le_of_ble_eq_true rfl)) dL_same_81 ⟨Nat.le_of_ble_eq_true rfl, Nat.le_of_ble_eq_true rfl⟩ (fun H locs G94 => ?_)
          obtain ⟨k95, ek95, h96⟩ := jp_some h93
          have hk95 : ∀ (x100 : Int32) (H : Heap) (locs : List Loc) (ls : Array Slot), k95 x100 = some y2 → Wo D κ A (B2 D κ A o oq P1 P2) s H locs → lv_has ls 4 [(0, .ref o), (1, .ref oq), (3, .int x67)] → W p l e rmL_same s m [.ref o, .ref oq].toArray below meth c H locs 0 0 (MQ below (QW A (B2 D κ A o oq P1 P2) res) [.ref o, .ref oq].toArray s 0 0 A) (F0 m 92 ls [.int x100]) := by
            intro x100 H locs ls104 h101 G102 hl103
            rw [ek95] at h101
            try dsimp only at h101
            refine lv_istore_n (pc := 92) (lv' := [(2, .int x100), (0, .ref o), (1, .ref oq), (3, .int x67)]) X.1 X.2.1 dL_same_92 rfl hl103 (by decide) rfl (fun ls105 hl106 => ?_)
            obtain ⟨x107, ex107, h110⟩ := bd_some h101
            refine lv_iinc (pc := 93) (v := x107) (lv' := [(3, .int x107), (2, .int x100), (0, .ref o), (1, .ref oq)]) X.1 X.2.1 dL_same_93 hl106 (k := 3) rfl (by rw [ex107]; rfl) (by decide) rfl (fun ls108 hl109 => ?_)
            refine lv_goto (pc := 96) (tgt := 54) X.1 X.2.1 dL_same_96 (by decide) ?_
            have h110_i := Option.some.inj h110
            exact ih2 _ h110_i.symm _ _ ls108 G102 (lv_sub hl109 [2, 3, 1, 0] rfl)
          refine lv_icmp_ne (pc := 84) (tgt := 91) X.1 X.2.1 dL_same_84 (by decide) (fun hc97 => ?_) (fun hc97 => ?_)
          · have h98 := it_pos h96 hc97
            refine lv_iconst (pc := 91) (v := 0) X.1 X.2.1 dL_same_91 (by decide) ?_
            exact hk95 0 _ _ ls71 h98 G94 (lv_sub hl70 [0, 1, 3] rfl)
          · have h99 := it_neg h96 (fun q => q hc97)
            refine lv_iconst (pc := 87) (v := 1) X.1 X.2.1 dL_same_87 (by decide) ?_
            refine lv_goto (pc := 88) (tgt := 92) X.1 X.2.1 dL_same_88 (by decide) ?_
            exact hk95 1 _ _ ls71 h99 G94 (lv_sub hl70 [0, 1, 3] rfl)
  refine lv_icmp_ge (pc := 7) (tgt := 52) X.1 X.2.1 dL_same_7 (by decide) (fun hc13 => ?_) (fun hc13 => ?_)
  · have h14 := it_pos h12 hc13
    exact hk11  _ _ ls10 h14 G8 (lv_sub hl9 [0, 1, 2] rfl)
  · have h15 := it_neg h12 hc13
    refine lv_iload_n (pc := 10) X.1 X.2.1 dL_same_10 rfl (lv_at hl9 2 rfl) ?_
    refine lv_if_eq (pc := 11) (tgt := 52) X.1 X.2.1 dL_same_11 (by decide) (fun hc16 => ?_) (fun hc16 => ?_)
    · have h17 := it_pos h15 hc16
      exact hk11  _ _ ls10 h17 G8 (lv_sub hl9 [0, 1, 2] rfl)
    · have h18 := it_neg h15 hc16
      refine lv_aload_n (pc := 14) X.1 X.2.1 dL_same_14 rfl (lv_at hl9 0 rfl) ?_
      refine lv_iload_n (pc := 15) X.1 X.2.1 dL_same_15 rfl (lv_at hl9 3 rfl) ?_
      obtain ⟨x20, e19, h21⟩ := bn_some h18
      refine w_callH (pc := 16) (v := x20) (B' := (B2 D κ A o oq P1 P2)) (As := [.ref o, .int x6]) (rest := []) X G8 (rm := rmLn_count) rfl rfl (met_two (fun A => bn_count l D κ A o P1 P1 x6 x20 (qh_count (hE1 3 x6 0 x20 e19)))) gL_112 hsL_count ⟨Nat.le_of_ble_eq_true rfl, Nat.le_of_ble_eq_true rfl⟩ rfl hl9 rfl (lv_room (Nat.le_of_ble_eq_true rfl)) dL_same_16 ⟨Nat.le_of_ble_eq_true rfl, Nat.le_of_ble_eq_true rfl⟩ (fun H locs G22 => ?_)
      refine lv_aload_n (pc := 19) X.1 X.2.1 dL_same_19 rfl (lv_at hl9 1 rfl) ?_
      refine lv_iload_n (pc := 20) X.1 X.2.1 dL_same_20 rfl (lv_at hl9 3 rfl) ?_
      obtain ⟨x24, e23, h25⟩ := bn_some h21
      refine w_callH (pc := 21) (v := x24) (B' := (B2 D κ A o oq P1 P2)) (As := [.ref oq, .int x6]) (rest := [.int x20]) X G22 (rm := rmLn_count) rfl rfl (met_two' (fun A => bn_count l D κ A oq P2 P2 x6 x24 (qh_count (hE2 3 x6 0 x24 e23)))) gL_112 hsL_count ⟨Nat.le_of_ble_eq_true rfl, Nat.le_of_ble_eq_true rfl⟩ rfl hl9 rfl (lv_room (Nat.le_of_ble_eq_true rfl)) dL_same_21 ⟨Nat.le_of_ble_eq_true rfl, Nat.le_of_ble_eq_true rfl⟩ (fun H locs G26 => ?_)
      obtain ⟨k27, ek27, h28⟩ := jp_some h25
      have hk27 : ∀ (x49 : Int32) (H : Heap) (locs : List Loc) (ls : Array Slot), k27 x49 = some y1 → Wo D κ A (B2 D κ A o oq P1 P2) s H locs → lv_has ls 4 [(0, .ref o), (1, .ref oq), (3, .int x6)] → W p l e rmL_same s m [.ref o, .ref oq].toArray below meth c H locs 0 0 (MQ below (QW A (B2 D κ A o oq P1 P2) res) [.ref o, .ref oq].toArray s 0 0 A) (F0 m 45 ls [.int x49]) := by
        intro x49 H locs ls53 h50 G51 hl52
        rw [ek27] at h50
        try dsimp only at h50
        refine lv_istore_n (pc := 45) (lv' := [(2, .int x49), (0, .ref o), (1, .ref oq), (3, .int x6)]) X.1 X.2.1 dL_same_45 rfl hl52 (by decide) rfl (fun ls54 hl55 => ?_)
        obtain ⟨x56, ex56, h59⟩ := bd_some h50
        refine lv_iinc (pc := 46) (v := x56) (lv' := [(3, .int x56), (2, .int x49), (0, .ref o), (1, .ref oq)]) X.1 X.2.1 dL_same_46 hl55 (k := 3) rfl (by rw [ex56]; rfl) (by decide) rfl (fun ls57 hl58 => ?_)
        refine lv_goto (pc := 49) (tgt := 4) X.1 X.2.1 dL_same_49 (by decide) ?_
        have h59_i := Option.some.inj h59
        exact ih1 _ h59_i.symm _ _ ls57 G51 (lv_sub hl58 [2, 3, 1, 0] rfl)
      obtain ⟨k29, ek29, h30⟩ := jp_some h28
      have hk29 : ∀  (H : Heap) (locs : List Loc) (ls : Array Slot), k29 () = some y1 → Wo D κ A (B2 D κ A o oq P1 P2) s H locs → lv_has ls 4 [(0, .ref o), (1, .ref oq), (3, .int x6)] → W p l e rmL_same s m [.ref o, .ref oq].toArray below meth c H locs 0 0 (MQ below (QW A (B2 D κ A o oq P1 P2) res) [.ref o, .ref oq].toArray s 0 0 A) (F0 m 44 ls []) := by
        intro  H locs ls48 h45 G46 hl47
        rw [ek29] at h45
        try dsimp only at h45
        refine lv_iconst (pc := 44) (v := 0) X.1 X.2.1 dL_same_44 (by decide) ?_
        exact hk27 0 _ _ ls48 h45 G46 (lv_sub hl47 [0, 1, 2] rfl)
      refine lv_icmp_ne (pc := 24) (tgt := 44) X.1 X.2.1 dL_same_24 (by decide) (fun hc31 => ?_) (fun hc31 => ?_)
      · have h32 := it_pos h30 hc31
        exact hk29  _ _ ls10 h32 G26 (lv_sub hl9 [0, 1, 3] rfl)
      · have h33 := it_neg h30 (fun q => q hc31)
        refine lv_aload_n (pc := 27) X.1 X.2.1 dL_same_27 rfl (lv_at hl9 0 rfl) ?_
        refine lv_iload_n (pc := 28) X.1 X.2.1 dL_same_28 rfl (lv_at hl9 3 rfl) ?_
        obtain ⟨x35, e34, h36⟩ := bn_some h33
        refine w_callH (pc := 29) (v := x35) (B' := (B2 D κ A o oq P1 P2)) (As := [.ref o, .int x6]) (rest := []) X G26 (rm := rmLn_result) rfl rfl (met_two (fun A => bn_result l D κ A o P1 P1 x6 x35 (qh_result (hE1 0 x6 0 x35 e34)))) gL_106 hsL_result ⟨Nat.le_of_ble_eq_true rfl, Nat.le_of_ble_eq_true rfl⟩ rfl hl9 rfl (lv_room (Nat.le_of_ble_eq_true rfl)) dL_same_29 ⟨Nat.le_of_ble_eq_true rfl, Nat.le_of_ble_eq_true rfl⟩ (fun H locs G37 => ?_)
        refine lv_aload_n (pc := 32) X.1 X.2.1 dL_same_32 rfl (lv_at hl9 1 rfl) ?_
        refine lv_iload_n (pc := 33) X.1 X.2.1 dL_same_33 rfl (lv_at hl9 3 rfl) ?_
        obtain ⟨x39, e38, h40⟩ := bn_some h36
        refine w_callH (pc := 34) (v := x39) (B' := (B2 D κ A o oq P1 P2)) (As := [.ref oq, .int x6]) (rest := [.int x35]) X G37 (rm := rmLn_result) rfl rfl (met_two' (fun A => bn_result l D κ A oq P2 P2 x6 x39 (qh_result (hE2 0 x6 0 x39 e38)))) gL_106 hsL_result ⟨Nat.le_of_ble_eq_true rfl, Nat.le_of_ble_eq_true rfl⟩ rfl hl9 rfl (lv_room (Nat.le_of_ble_eq_true rfl)) dL_same_34 ⟨Nat.le_of_ble_eq_true rfl, Nat.le_of_ble_eq_true rfl⟩ (fun H locs G41 => ?_)
        refine lv_icmp_ne (pc := 37) (tgt := 44) X.1 X.2.1 dL_same_37 (by decide) (fun hc42 => ?_) (fun hc42 => ?_)
        · have h43 := it_pos h40 hc42
          exact hk29  _ _ ls10 h43 G41 (lv_sub hl9 [0, 1, 3] rfl)
        · have h44 := it_neg h40 (fun q => q hc42)
          refine lv_iconst (pc := 40) (v := 1) X.1 X.2.1 dL_same_40 (by decide) ?_
          refine lv_goto (pc := 41) (tgt := 45) X.1 X.2.1 dL_same_41 (by decide) ?_
          exact hk27 1 _ _ ls10 h44 G41 (lv_sub hl9 [0, 1, 3] rfl)
