/-! THE LAW'S OWN METHODS, laid by wip/p27/walkl.py -/
abbrev rmL_typed : Room := { frames := 8, cells := 0, slots := 0, locals := 125 }
noncomputable def FL_typed (z : MS) (p1 : Int32) : Option (MS × Int32) :=
  bn2 (F8_clearBuffer z) fun z5 x2 =>
  jp (fun (x11 : Int32) => Loop (fun (q : Int32 × Int32 × Int32 × Int32 × MS) => (fun (x24 : Int32) (x25 : Int32) (x26 : Int32) (x27 : Int32) (b28 : MS) =>
  jp (fun (_ : Unit) => Loop (fun (q : Int32 × Int32 × MS) => (fun (x161 : Int32) (x162 : Int32) (b163 : MS) =>
  jp (fun (_ : Unit) => some (.inr (.inr (b163, x161)))) fun k168 =>
  if x162 ≤ 0 then
  k168 ()
  else
  if x161 < 0 then
  k168 ()
  else
  bn2 (nw (F8_append b163 41)) fun z180 x177 =>
  bd (x162 + (-1)) fun x183 =>
  some (.inl (x177, x183, z180))) q.1 q.2.1 q.2.2) (x24, x25, b28)) fun k33 =>
  if (9 : Int32) ≤ x27 then
  k33 ()
  else
  if x24 < 0 then
  k33 ()
  else
  bd ((p1 >>> (((3 : Int32) * x27) &&& 31)) &&& 31) fun x41 =>
  jp (fun (x145 : Int32) (x146 : Int32) (x147 : Int32) (b148 : MS) => bd (x27 + 1) fun x153 =>
  some (.inl (x145, x146, x147, x153, b148))) fun k45 =>
  if (8 : Int32) ≤ x41 then
  if (16 : Int32) ≤ x41 then
  if (24 : Int32) ≤ x41 then
  jp (fun (_ : Unit) => if x25 ≤ 0 then
  k45 x24 x25 x26 b28
  else
  bn2 (nw (F8_append b28 41)) fun z89 x86 =>
  bd (x25 + (-1)) fun x92 =>
  k45 x86 x92 6 z89) fun k56 =>
  if (28 : Int32) ≤ x41 then
  k56 ()
  else
  if x25 ≤ 0 then
  k56 ()
  else
  if (6 : Int32) ≤ x26 then
  k56 ()
  else
  bn2 (nw (F8_append b28 44)) fun z71 x68 =>
  bd (x26 + 1) fun x74 =>
  k45 x68 x25 x74 z71
  else
  bn2 (nw (F8_append b28 ((65 : Int32) + (x41 - x41 / 6 * 6)))) fun z102 x99 =>
  bn2 (nw (F8_append z102 40)) fun z109 x106 =>
  bd (x25 + 1) fun x112 =>
  k45 x106 x112 1 z109
  else
  bn2 (nw (F8_append b28 ((65 : Int32) + (x41 - x41 / 6 * 6)))) fun z122 x119 =>
  k45 x119 x25 x26 z122
  else
  jp (fun (x133 : Int32) => bn2 (nw (F8_append b28 x133)) fun z142 x139 =>
  k45 x139 x25 x26 z142) fun k125 =>
  if (4 : Int32) ≤ x41 then
  if (6 : Int32) ≤ x41 then
  k125 95
  else
  k125 63
  else
  k125 ((97 : Int32) + x41)) q.1 q.2.1 q.2.2.1 q.2.2.2.1 q.2.2.2.2) (x11, 0, 0, 0, z5)) fun k6 =>
  if (0 : Int32) ≤ x2 then
  k6 0
  else
  k6 (-9)
set_option maxHeartbeats 4000000 in
set_option maxRecDepth 100000 in
theorem mL_typed (l : Launch) (D : va_G) (κ : Nat → ClassId) (A : Nat → Prop) (o : Nat) (Iv : MS → BS → Prop) (LS : LawS Iv) (z : MS) (p1 : Int32) (res : MS × Int32) (h : FL_typed z p1 = some res) : Met l yL_typed (gw yL_typed cL_typed 7 (some (FieldType.int))) rmL_typed (va_Pc [.ref o, .int p1] (WB D κ A (B1 D κ A o (Iv z)))) (QW A (B1 D κ A o (Iv res.1)) res.2) 0 0 A := by
  refine met_ofG (own := RL) (by decide +kernel) rfl (Nat.le_of_ble_eq_true rfl) ?_
  intro p e s m below meth c ls X hr hlk G hl
  have G : Wo D κ A (B1 D κ A o (Iv z)) s s.heap [] := G
  have hl : lv_has ls 7 [(0, .ref o), (1, .int p1)] := hl
  unfold FL_typed at h
  refine lv_aload_n (pc := 0) X.1 X.2.1 dL_typed_0 rfl (lv_at hl 0 rfl) ?_
  obtain ⟨z5, x2, e1, h3⟩ := bn2_some h
  refine w_callV (pc := 1) (v := x2) (B' := (B1 D κ A o (Iv z5))) (As := []) (rest := []) X G (rm := rm7_clearBuffer) rfl rfl (bv_clearBuffer l D κ A o (Iv z) (Iv z5) x2 (iz_clearBuffer LS e1)) (B1.rcv G) g_L_77 hd_yX7_clearBuffer ⟨Nat.le_of_ble_eq_true rfl, Nat.le_of_ble_eq_true rfl⟩ rfl hl rfl (lv_room (Nat.le_of_ble_eq_true rfl)) dL_typed_1 ⟨Nat.le_of_ble_eq_true rfl, Nat.le_of_ble_eq_true rfl⟩ (fun H locs G4 => ?_)
  obtain ⟨k6, ek6, h7⟩ := jp_some h3
  have hk6 : ∀ (x11 : Int32) (H : Heap) (locs : List Loc) (ls : Array Slot), k6 x11 = some res → Wo D κ A (B1 D κ A o (Iv z5)) s H locs → lv_has ls 7 [(0, .ref o), (1, .int p1)] → W p l e rmL_typed s m [.ref o, .int p1].toArray below meth c H locs 0 0 (MQ below (QW A (B1 D κ A o (Iv res.1)) res.2) [.ref o, .int p1].toArray s 0 0 A) (F0 m 13 ls [.int x11]) := by
    intro x11 H locs ls15 h12 G13 hl14
    rw [ek6] at h12
    try dsimp only at h12
    refine lv_istore_n (pc := 13) (lv' := [(2, .int x11), (0, .ref o), (1, .int p1)]) X.1 X.2.1 dL_typed_13 rfl hl14 (by decide) rfl (fun ls16 hl17 => ?_)
    refine lv_iconst (pc := 14) (v := 0) X.1 X.2.1 dL_typed_14 (by decide) ?_
    refine lv_istore_n (pc := 15) (lv' := [(3, .int 0), (2, .int x11), (0, .ref o), (1, .int p1)]) X.1 X.2.1 dL_typed_15 rfl hl17 (by decide) rfl (fun ls18 hl19 => ?_)
    refine lv_iconst (pc := 16) (v := 0) X.1 X.2.1 dL_typed_16 (by decide) ?_
    refine lv_istore (pc := 17) (lv' := [(4, .int 0), (3, .int 0), (2, .int x11), (0, .ref o), (1, .int p1)]) X.1 X.2.1 dL_typed_17 hl19 (by decide) rfl (fun ls20 hl21 => ?_)
    refine lv_iconst (pc := 19) (v := 0) X.1 X.2.1 dL_typed_19 (by decide) ?_
    refine lv_istore (pc := 20) (lv' := [(5, .int 0), (4, .int 0), (3, .int 0), (2, .int x11), (0, .ref o), (1, .int p1)]) X.1 X.2.1 dL_typed_20 hl21 (by decide) rfl (fun ls22 hl23 => ?_)
    refine Loop_ind (P := fun (q : Int32 × Int32 × Int32 × Int32 × MS) => ∀ (H : Heap) (locs : List Loc) (ls : Array Slot), Wo D κ A (B1 D κ A o (Iv q.2.2.2.2)) s H locs → lv_has ls 7 [(0, .ref o), (1, .int p1), (2, .int q.1), (3, .int q.2.1), (4, .int q.2.2.1), (5, .int q.2.2.2.1)] → W p l e rmL_typed s m [.ref o, .int p1].toArray below meth c H locs 0 0 (MQ below (QW A (B1 D κ A o (Iv res.1)) res.2) [.ref o, .int p1].toArray s 0 0 A) (F0 m 22 ls [])) ?_ h12 _ _ ls22 G13 (lv_sub hl23 [4, 5, 3, 2, 1, 0] rfl)
    intro q y1 h29 ih1 hz1 H locs ls32 G30 hl31
    obtain ⟨x24, x25, x26, x27, b28⟩ := q
    try dsimp only at h29 ih1 G30 hl31 ⊢
    refine lv_iload (pc := 22) X.1 X.2.1 dL_typed_22 (lv_at hl31 5 rfl) ?_
    refine lv_bipush (pc := 24) (v := 9) X.1 X.2.1 dL_typed_24 (by decide) ?_
    obtain ⟨k33, ek33, h34⟩ := jp_some h29
    have hk33 : ∀  (H : Heap) (locs : List Loc) (ls : Array Slot), k33 () = some y1 → Wo D κ A (B1 D κ A o (Iv b28)) s H locs → lv_has ls 7 [(0, .ref o), (2, .int x24), (3, .int x25)] → W p l e rmL_typed s m [.ref o, .int p1].toArray below meth c H locs 0 0 (MQ below (QW A (B1 D κ A o (Iv res.1)) res.2) [.ref o, .int p1].toArray s 0 0 A) (F0 m 201 ls []) := by
      intro  H locs ls160 h157 G158 hl159
      rw [ek33] at h157
      try dsimp only at h157
      refine Loop_ind (P := fun (q : Int32 × Int32 × MS) => ∀ (H : Heap) (locs : List Loc) (ls : Array Slot), Wo D κ A (B1 D κ A o (Iv q.2.2)) s H locs → lv_has ls 7 [(0, .ref o), (2, .int q.1), (3, .int q.2.1)] → W p l e rmL_typed s m [.ref o, .int p1].toArray below meth c H locs 0 0 (MQ below (QW A (B1 D κ A o (Iv res.1)) res.2) [.ref o, .int p1].toArray s 0 0 A) (F0 m 201 ls [])) ?_ h157 _ _ ls160 G158 (lv_sub hl159 [0, 1, 2] rfl)
      intro q y2 h164 ih2 hz2 H locs ls167 G165 hl166
      obtain ⟨x161, x162, b163⟩ := q
      try dsimp only at h164 ih2 G165 hl166 ⊢
      refine lv_iload_n (pc := 201) X.1 X.2.1 dL_typed_201 rfl (lv_at hl166 2 rfl) ?_
      obtain ⟨k168, ek168, h169⟩ := jp_some h164
      have hk168 : ∀  (H : Heap) (locs : List Loc) (ls : Array Slot), k168 () = some y2 → Wo D κ A (B1 D κ A o (Iv b163)) s H locs → lv_has ls 7 [(2, .int x161)] → W p l e rmL_typed s m [.ref o, .int p1].toArray below meth c H locs 0 0 (MQ below (QW A (B1 D κ A o (Iv res.1)) res.2) [.ref o, .int p1].toArray s 0 0 A) (F0 m 222 ls []) := by
        intro  H locs ls190 h187 G188 hl189
        rw [ek168] at h187
        try dsimp only at h187
        refine lv_iload_n (pc := 222) X.1 X.2.1 dL_typed_222 rfl (lv_at hl189 0 rfl) ?_
        have h187_i := Option.some.inj h187
        have h187_i_2 := hz2 _ h187_i.symm
        have h187_i_2_1 := hz1 _ h187_i_2.symm
        exact w_iret (pc := 223) X G188 hr hlk dL_typed_223 (congrArg Prod.snd h187_i_2_1) (congrArg (fun q : MS × Int32 => B1 D κ A o (Iv q.1)) h187_i_2_1) (Nat.le_of_ble_eq_true rfl) (Nat.le_of_ble_eq_true rfl)
      refine lv_if_le (pc := 202) (tgt := 222) X.1 X.2.1 dL_typed_202 (by decide) (fun hc170 => ?_) (fun hc170 => ?_)
      · have h171 := it_pos h169 hc170
        exact hk168  _ _ ls167 h171 G165 (lv_sub hl166 [1] rfl)
      · have h172 := it_neg h169 hc170
        refine lv_iload_n (pc := 205) X.1 X.2.1 dL_typed_205 rfl (lv_at hl166 1 rfl) ?_
        refine lv_if_lt (pc := 206) (tgt := 222) X.1 X.2.1 dL_typed_206 (by decide) (fun hc173 => ?_) (fun hc173 => ?_)
        · have h174 := it_pos h172 hc173
          exact hk168  _ _ ls167 h174 G165 (lv_sub hl166 [1] rfl)
        · have h175 := it_neg h172 hc173
          refine lv_aload_n (pc := 209) X.1 X.2.1 dL_typed_209 rfl (lv_at hl166 0 rfl) ?_
          refine lv_bipush (pc := 210) (v := 41) X.1 X.2.1 dL_typed_210 (by decide) ?_
          obtain ⟨z180, x177, e176, h178⟩ := bn2_some h175
          refine w_callH (pc := 212) (v := x177) (B' := (B1 D κ A o (Iv z180))) (As := [.ref o, .int 41]) (rest := []) X G165 (rm := rmLn_append) rfl rfl (bn_append l D κ A o (Iv b163) (Iv z180) 41 x177 (in_append LS e176)) gL_80 hsL_append ⟨Nat.le_of_ble_eq_true rfl, Nat.le_of_ble_eq_true rfl⟩ rfl hl166 rfl (lv_room (Nat.le_of_ble_eq_true rfl)) dL_typed_212 ⟨Nat.le_of_ble_eq_true rfl, Nat.le_of_ble_eq_true rfl⟩ (fun H locs G179 => ?_)
          refine lv_istore_n (pc := 215) (lv' := [(2, .int x177), (0, .ref o), (3, .int x162)]) X.1 X.2.1 dL_typed_215 rfl hl166 (by decide) rfl (fun ls181 hl182 => ?_)
          obtain ⟨x183, ex183, h186⟩ := bd_some h178
          refine lv_iinc (pc := 216) (v := x183) (lv' := [(3, .int x183), (2, .int x177), (0, .ref o)]) X.1 X.2.1 dL_typed_216 hl182 (k := 2) rfl (by rw [ex183]; rfl) (by decide) rfl (fun ls184 hl185 => ?_)
          refine lv_goto (pc := 219) (tgt := 201) X.1 X.2.1 dL_typed_219 (by decide) ?_
          have h186_i := Option.some.inj h186
          exact ih2 _ h186_i.symm _ _ ls184 G179 (lv_sub hl185 [2, 1, 0] rfl)
    refine lv_icmp_ge (pc := 26) (tgt := 201) X.1 X.2.1 dL_typed_26 (by decide) (fun hc35 => ?_) (fun hc35 => ?_)
    · have h36 := it_pos h34 hc35
      exact hk33  _ _ ls32 h36 G30 (lv_sub hl31 [0, 2, 3] rfl)
    · have h37 := it_neg h34 hc35
      refine lv_iload_n (pc := 29) X.1 X.2.1 dL_typed_29 rfl (lv_at hl31 2 rfl) ?_
      refine lv_if_lt (pc := 30) (tgt := 201) X.1 X.2.1 dL_typed_30 (by decide) (fun hc38 => ?_) (fun hc38 => ?_)
      · have h39 := it_pos h37 hc38
        exact hk33  _ _ ls32 h39 G30 (lv_sub hl31 [0, 2, 3] rfl)
      · have h40 := it_neg h37 hc38
        refine lv_iload_n (pc := 33) X.1 X.2.1 dL_typed_33 rfl (lv_at hl31 1 rfl) ?_
        refine lv_iconst (pc := 34) (v := 3) X.1 X.2.1 dL_typed_34 (by decide) ?_
        refine lv_iload (pc := 35) X.1 X.2.1 dL_typed_35 (lv_at hl31 5 rfl) ?_
        refine lv_imul (pc := 37) X.1 X.2.1 dL_typed_37 ?_
        refine lv_ishr (pc := 38) X.1 X.2.1 dL_typed_38 ?_
        refine lv_bipush (pc := 39) (v := 31) X.1 X.2.1 dL_typed_39 (by decide) ?_
        refine lv_iand (pc := 41) X.1 X.2.1 dL_typed_41 ?_
        refine lv_topi (fun x41 ex41 => ?_)
        have h42 := bd_at h40 ex41
        refine lv_istore (pc := 42) (lv' := [(6, .int x41), (0, .ref o), (1, .int p1), (2, .int x24), (3, .int x25), (4, .int x26), (5, .int x27)]) X.1 X.2.1 dL_typed_42 hl31 (by decide) rfl (fun ls43 hl44 => ?_)
        refine lv_iload (pc := 44) X.1 X.2.1 dL_typed_44 (lv_at hl44 0 rfl) ?_
        refine lv_bipush (pc := 46) (v := 8) X.1 X.2.1 dL_typed_46 (by decide) ?_
        obtain ⟨k45, ek45, h46⟩ := jp_some h42
        have hk45 : ∀ (x145 : Int32) (x146 : Int32) (x147 : Int32) (b148 : MS) (H : Heap) (locs : List Loc) (ls : Array Slot), k45 x145 x146 x147 b148 = some y1 → Wo D κ A (B1 D κ A o (Iv b148)) s H locs → lv_has ls 7 [(0, .ref o), (1, .int p1), (2, .int x145), (3, .int x146), (4, .int x147), (5, .int x27)] → W p l e rmL_typed s m [.ref o, .int p1].toArray below meth c H locs 0 0 (MQ below (QW A (B1 D κ A o (Iv res.1)) res.2) [.ref o, .int p1].toArray s 0 0 A) (F0 m 195 ls []) := by
          intro x145 x146 x147 b148 H locs ls152 h149 G150 hl151
          rw [ek45] at h149
          try dsimp only at h149
          obtain ⟨x153, ex153, h156⟩ := bd_some h149
          refine lv_iinc (pc := 195) (v := x153) (lv' := [(5, .int x153), (0, .ref o), (1, .int p1), (2, .int x145), (3, .int x146), (4, .int x147)]) X.1 X.2.1 dL_typed_195 hl151 (k := 5) rfl (by rw [ex153]; rfl) (by decide) rfl (fun ls154 hl155 => ?_)
          refine lv_goto (pc := 198) (tgt := 22) X.1 X.2.1 dL_typed_198 (by decide) ?_
          have h156_i := Option.some.inj h156
          exact ih1 _ h156_i.symm _ _ ls154 G150 (lv_sub hl155 [1, 2, 3, 4, 5, 0] rfl)
        refine lv_icmp_ge (pc := 48) (tgt := 87) X.1 X.2.1 dL_typed_48 (by decide) (fun hc47 => ?_) (fun hc47 => ?_)
        · have h48 := it_pos h46 hc47
          refine lv_iload (pc := 87) X.1 X.2.1 dL_typed_87 (lv_at hl44 0 rfl) ?_
          refine lv_bipush (pc := 89) (v := 16) X.1 X.2.1 dL_typed_89 (by decide) ?_
          refine lv_icmp_ge (pc := 91) (tgt := 110) X.1 X.2.1 dL_typed_91 (by decide) (fun hc50 => ?_) (fun hc50 => ?_)
          · have h51 := it_pos h48 hc50
            refine lv_iload (pc := 110) X.1 X.2.1 dL_typed_110 (lv_at hl44 0 rfl) ?_
            refine lv_bipush (pc := 112) (v := 24) X.1 X.2.1 dL_typed_112 (by decide) ?_
            refine lv_icmp_ge (pc := 114) (tgt := 146) X.1 X.2.1 dL_typed_114 (by decide) (fun hc53 => ?_) (fun hc53 => ?_)
            · have h54 := it_pos h51 hc53
              refine lv_iload (pc := 146) X.1 X.2.1 dL_typed_146 (lv_at hl44 0 rfl) ?_
              refine lv_bipush (pc := 148) (v := 28) X.1 X.2.1 dL_typed_148 (by decide) ?_
              obtain ⟨k56, ek56, h57⟩ := jp_some h54
              have hk56 : ∀  (H : Heap) (locs : List Loc) (ls : Array Slot), k56 () = some y1 → Wo D κ A (B1 D κ A o (Iv b28)) s H locs → lv_has ls 7 [(0, .ref o), (1, .int p1), (2, .int x24), (3, .int x25), (4, .int x26), (5, .int x27)] → W p l e rmL_typed s m [.ref o, .int p1].toArray below meth c H locs 0 0 (MQ below (QW A (B1 D κ A o (Iv res.1)) res.2) [.ref o, .int p1].toArray s 0 0 A) (F0 m 177 ls []) := by
                intro  H locs ls81 h78 G79 hl80
                rw [ek56] at h78
                try dsimp only at h78
                refine lv_iload_n (pc := 177) X.1 X.2.1 dL_typed_177 rfl (lv_at hl80 3 rfl) ?_
                refine lv_if_le (pc := 178) (tgt := 195) X.1 X.2.1 dL_typed_178 (by decide) (fun hc82 => ?_) (fun hc82 => ?_)
                · have h83 := it_pos h78 hc82
                  exact hk45 x24 x25 x26 b28 _ _ ls81 h83 G79 (lv_sub hl80 [0, 1, 2, 3, 4, 5] rfl)
                · have h84 := it_neg h78 hc82
                  refine lv_aload_n (pc := 181) X.1 X.2.1 dL_typed_181 rfl (lv_at hl80 0 rfl) ?_
                  refine lv_bipush (pc := 182) (v := 41) X.1 X.2.1 dL_typed_182 (by decide) ?_
                  obtain ⟨z89, x86, e85, h87⟩ := bn2_some h84
                  refine w_callH (pc := 184) (v := x86) (B' := (B1 D κ A o (Iv z89))) (As := [.ref o, .int 41]) (rest := []) X G79 (rm := rmLn_append) rfl rfl (bn_append l D κ A o (Iv b28) (Iv z89) 41 x86 (in_append LS e85)) gL_80 hsL_append ⟨Nat.le_of_ble_eq_true rfl, Nat.le_of_ble_eq_true rfl⟩ rfl hl80 rfl (lv_room (Nat.le_of_ble_eq_true rfl)) dL_typed_184 ⟨Nat.le_of_ble_eq_true rfl, Nat.le_of_ble_eq_true rfl⟩ (fun H locs G88 => ?_)
                  refine lv_istore_n (pc := 187) (lv' := [(2, .int x86), (0, .ref o), (1, .int p1), (3, .int x25), (4, .int x26), (5, .int x27)]) X.1 X.2.1 dL_typed_187 rfl hl80 (by decide) rfl (fun ls90 hl91 => ?_)
                  obtain ⟨x92, ex92, h95⟩ := bd_some h87
                  refine lv_iinc (pc := 188) (v := x92) (lv' := [(3, .int x92), (2, .int x86), (0, .ref o), (1, .int p1), (4, .int x26), (5, .int x27)]) X.1 X.2.1 dL_typed_188 hl91 (k := 3) rfl (by rw [ex92]; rfl) (by decide) rfl (fun ls93 hl94 => ?_)
                  refine lv_bipush (pc := 191) (v := 6) X.1 X.2.1 dL_typed_191 (by decide) ?_
                  refine lv_istore (pc := 193) (lv' := [(4, .int 6), (3, .int x92), (2, .int x86), (0, .ref o), (1, .int p1), (5, .int x27)]) X.1 X.2.1 dL_typed_193 hl94 (by decide) rfl (fun ls96 hl97 => ?_)
                  exact hk45 x86 x92 6 z89 _ _ ls96 h95 G88 (lv_sub hl97 [3, 4, 2, 1, 0, 5] rfl)
              refine lv_icmp_ge (pc := 150) (tgt := 177) X.1 X.2.1 dL_typed_150 (by decide) (fun hc58 => ?_) (fun hc58 => ?_)
              · have h59 := it_pos h57 hc58
                exact hk56  _ _ ls43 h59 G30 (lv_sub hl44 [1, 2, 3, 4, 5, 6] rfl)
              · have h60 := it_neg h57 hc58
                refine lv_iload_n (pc := 153) X.1 X.2.1 dL_typed_153 rfl (lv_at hl44 4 rfl) ?_
                refine lv_if_le (pc := 154) (tgt := 177) X.1 X.2.1 dL_typed_154 (by decide) (fun hc61 => ?_) (fun hc61 => ?_)
                · have h62 := it_pos h60 hc61
                  exact hk56  _ _ ls43 h62 G30 (lv_sub hl44 [1, 2, 3, 4, 5, 6] rfl)
                · have h63 := it_neg h60 hc61
                  refine lv_iload (pc := 157) X.1 X.2.1 dL_typed_157 (lv_at hl44 5 rfl) ?_
                  refine lv_bipush (pc := 159) (v := 6) X.1 X.2.1 dL_typed_159 (by decide) ?_
                  refine lv_icmp_ge (pc := 161) (tgt := 177) X.1 X.2.1 dL_typed_161 (by decide) (fun hc64 => ?_) (fun hc64 => ?_)
                  · have h65 := it_pos h63 hc64
                    exact hk56  _ _ ls43 h65 G30 (lv_sub hl44 [1, 2, 3, 4, 5, 6] rfl)
                  · have h66 := it_neg h63 hc64
                    refine lv_aload_n (pc := 164) X.1 X.2.1 dL_typed_164 rfl (lv_at hl44 1 rfl) ?_
                    refine lv_bipush (pc := 165) (v := 44) X.1 X.2.1 dL_typed_165 (by decide) ?_
                    obtain ⟨z71, x68, e67, h69⟩ := bn2_some h66
                    refine w_callH (pc := 167) (v := x68) (B' := (B1 D κ A o (Iv z71))) (As := [.ref o, .int 44]) (rest := []) X G30 (rm := rmLn_append) rfl rfl (bn_append l D κ A o (Iv b28) (Iv z71) 44 x68 (in_append LS e67)) gL_80 hsL_append ⟨Nat.le_of_ble_eq_true rfl, Nat.le_of_ble_eq_true rfl⟩ rfl hl44 rfl (lv_room (Nat.le_of_ble_eq_true rfl)) dL_typed_167 ⟨Nat.le_of_ble_eq_true rfl, Nat.le_of_ble_eq_true rfl⟩ (fun H locs G70 => ?_)
                    refine lv_istore_n (pc := 170) (lv' := [(2, .int x68), (6, .int x41), (0, .ref o), (1, .int p1), (3, .int x25), (4, .int x26), (5, .int x27)]) X.1 X.2.1 dL_typed_170 rfl hl44 (by decide) rfl (fun ls72 hl73 => ?_)
                    obtain ⟨x74, ex74, h77⟩ := bd_some h69
                    refine lv_iinc (pc := 171) (v := x74) (lv' := [(4, .int x74), (2, .int x68), (6, .int x41), (0, .ref o), (1, .int p1), (3, .int x25), (5, .int x27)]) X.1 X.2.1 dL_typed_171 hl73 (k := 5) rfl (by rw [ex74]; rfl) (by decide) rfl (fun ls75 hl76 => ?_)
                    refine lv_goto (pc := 174) (tgt := 195) X.1 X.2.1 dL_typed_174 (by decide) ?_
                    exact hk45 x68 x25 x74 z71 _ _ ls75 h77 G70 (lv_sub hl76 [3, 4, 1, 5, 0, 6] rfl)
            · have h55 := it_neg h51 hc53
              refine lv_aload_n (pc := 117) X.1 X.2.1 dL_typed_117 rfl (lv_at hl44 1 rfl) ?_
              refine lv_bipush (pc := 118) (v := 65) X.1 X.2.1 dL_typed_118 (by decide) ?_
              refine lv_iload (pc := 120) X.1 X.2.1 dL_typed_120 (lv_at hl44 0 rfl) ?_
              refine lv_bipush (pc := 122) (v := 6) X.1 X.2.1 dL_typed_122 (by decide) ?_
              refine lv_irem (pc := 124) X.1 X.2.1 dL_typed_124 (by decide) ?_
              refine lv_iadd (pc := 125) X.1 X.2.1 dL_typed_125 ?_
              obtain ⟨z102, x99, e98, h100⟩ := bn2_some h55
              refine w_callH (pc := 126) (v := x99) (B' := (B1 D κ A o (Iv z102))) (As := [.ref o, .int ((65 : Int32) + (x41 - x41 / 6 * 6))]) (rest := []) X G30 (rm := rmLn_append) rfl rfl (bn_append l D κ A o (Iv b28) (Iv z102) ((65 : Int32) + (x41 - x41 / 6 * 6)) x99 (in_append LS e98)) gL_80 hsL_append ⟨Nat.le_of_ble_eq_true rfl, Nat.le_of_ble_eq_true rfl⟩ rfl hl44 rfl (lv_room (Nat.le_of_ble_eq_true rfl)) dL_typed_126 ⟨Nat.le_of_ble_eq_true rfl, Nat.le_of_ble_eq_true rfl⟩ (fun H locs G101 => ?_)
              refine lv_istore_n (pc := 129) (lv' := [(2, .int x99), (6, .int x41), (0, .ref o), (1, .int p1), (3, .int x25), (4, .int x26), (5, .int x27)]) X.1 X.2.1 dL_typed_129 rfl hl44 (by decide) rfl (fun ls103 hl104 => ?_)
              refine lv_aload_n (pc := 130) X.1 X.2.1 dL_typed_130 rfl (lv_at hl104 2 rfl) ?_
              refine lv_bipush (pc := 131) (v := 40) X.1 X.2.1 dL_typed_131 (by decide) ?_
              obtain ⟨z109, x106, e105, h107⟩ := bn2_some h100
              refine w_callH (pc := 133) (v := x106) (B' := (B1 D κ A o (Iv z109))) (As := [.ref o, .int 40]) (rest := []) X G101 (rm := rmLn_append) rfl rfl (bn_append l D κ A o (Iv z102) (Iv z109) 40 x106 (in_append LS e105)) gL_80 hsL_append ⟨Nat.le_of_ble_eq_true rfl, Nat.le_of_ble_eq_true rfl⟩ rfl hl104 rfl (lv_room (Nat.le_of_ble_eq_true rfl)) dL_typed_133 ⟨Nat.le_of_ble_eq_true rfl, Nat.le_of_ble_eq_true rfl⟩ (fun H locs G108 => ?_)
              refine lv_istore_n (pc := 136) (lv' := [(2, .int x106), (6, .int x41), (0, .ref o), (1, .int p1), (3, .int x25), (4, .int x26), (5, .int x27)]) X.1 X.2.1 dL_typed_136 rfl hl104 (by decide) rfl (fun ls110 hl111 => ?_)
              obtain ⟨x112, ex112, h115⟩ := bd_some h107
              refine lv_iinc (pc := 137) (v := x112) (lv' := [(3, .int x112), (2, .int x106), (6, .int x41), (0, .ref o), (1, .int p1), (4, .int x26), (5, .int x27)]) X.1 X.2.1 dL_typed_137 hl111 (k := 4) rfl (by rw [ex112]; rfl) (by decide) rfl (fun ls113 hl114 => ?_)
              refine lv_iconst (pc := 140) (v := 1) X.1 X.2.1 dL_typed_140 (by decide) ?_
              refine lv_istore (pc := 141) (lv' := [(4, .int 1), (3, .int x112), (2, .int x106), (6, .int x41), (0, .ref o), (1, .int p1), (5, .int x27)]) X.1 X.2.1 dL_typed_141 hl114 (by decide) rfl (fun ls116 hl117 => ?_)
              refine lv_goto (pc := 143) (tgt := 195) X.1 X.2.1 dL_typed_143 (by decide) ?_
              exact hk45 x106 x112 1 z109 _ _ ls116 h115 G108 (lv_sub hl117 [4, 5, 2, 1, 0, 6] rfl)
          · have h52 := it_neg h48 hc50
            refine lv_aload_n (pc := 94) X.1 X.2.1 dL_typed_94 rfl (lv_at hl44 1 rfl) ?_
            refine lv_bipush (pc := 95) (v := 65) X.1 X.2.1 dL_typed_95 (by decide) ?_
            refine lv_iload (pc := 97) X.1 X.2.1 dL_typed_97 (lv_at hl44 0 rfl) ?_
            refine lv_bipush (pc := 99) (v := 6) X.1 X.2.1 dL_typed_99 (by decide) ?_
            refine lv_irem (pc := 101) X.1 X.2.1 dL_typed_101 (by decide) ?_
            refine lv_iadd (pc := 102) X.1 X.2.1 dL_typed_102 ?_
            obtain ⟨z122, x119, e118, h120⟩ := bn2_some h52
            refine w_callH (pc := 103) (v := x119) (B' := (B1 D κ A o (Iv z122))) (As := [.ref o, .int ((65 : Int32) + (x41 - x41 / 6 * 6))]) (rest := []) X G30 (rm := rmLn_append) rfl rfl (bn_append l D κ A o (Iv b28) (Iv z122) ((65 : Int32) + (x41 - x41 / 6 * 6)) x119 (in_append LS e118)) gL_80 hsL_append ⟨Nat.le_of_ble_eq_true rfl, Nat.le_of_ble_eq_true rfl⟩ rfl hl44 rfl (lv_room (Nat.le_of_ble_eq_true rfl)) dL_typed_103 ⟨Nat.le_of_ble_eq_true rfl, Nat.le_of_ble_eq_true rfl⟩ (fun H locs G121 => ?_)
            refine lv_istore_n (pc := 106) (lv' := [(2, .int x119), (6, .int x41), (0, .ref o), (1, .int p1), (3, .int x25), (4, .int x26), (5, .int x27)]) X.1 X.2.1 dL_typed_106 rfl hl44 (by decide) rfl (fun ls123 hl124 => ?_)
            refine lv_goto (pc := 107) (tgt := 195) X.1 X.2.1 dL_typed_107 (by decide) ?_
            exact hk45 x119 x25 x26 z122 _ _ ls123 h120 G121 (lv_sub hl124 [2, 3, 0, 4, 5, 6] rfl)
        · have h49 := it_neg h46 hc47
          refine lv_aload_n (pc := 51) X.1 X.2.1 dL_typed_51 rfl (lv_at hl44 1 rfl) ?_
          refine lv_iload (pc := 52) X.1 X.2.1 dL_typed_52 (lv_at hl44 0 rfl) ?_
          refine lv_iconst (pc := 54) (v := 4) X.1 X.2.1 dL_typed_54 (by decide) ?_
          obtain ⟨k125, ek125, h126⟩ := jp_some h49
          have hk125 : ∀ (x133 : Int32) (H : Heap) (locs : List Loc) (ls : Array Slot), k125 x133 = some y1 → Wo D κ A (B1 D κ A o (Iv b28)) s H locs → lv_has ls 7 [(0, .ref o), (1, .int p1), (3, .int x25), (4, .int x26), (5, .int x27)] → W p l e rmL_typed s m [.ref o, .int p1].toArray below meth c H locs 0 0 (MQ below (QW A (B1 D κ A o (Iv res.1)) res.2) [.ref o, .int p1].toArray s 0 0 A) (F0 m 80 ls [.int x133, .ref o]) := by
            intro x133 H locs ls137 h134 G135 hl136
            rw [ek125] at h134
            try dsimp only at h134
            obtain ⟨z142, x139, e138, h140⟩ := bn2_some h134
            refine w_callH (pc := 80) (v := x139) (B' := (B1 D κ A o (Iv z142))) (As := [.ref o, .int x133]) (rest := []) X G135 (rm := rmLn_append) rfl rfl (bn_append l D κ A o (Iv b28) (Iv z142) x133 x139 (in_append LS e138)) gL_80 hsL_append ⟨Nat.le_of_ble_eq_true rfl, Nat.le_of_ble_eq_true rfl⟩ rfl hl136 rfl (lv_room (Nat.le_of_ble_eq_true rfl)) dL_typed_80 ⟨Nat.le_of_ble_eq_true rfl, Nat.le_of_ble_eq_true rfl⟩ (fun H locs G141 => ?_)
            refine lv_istore_n (pc := 83) (lv' := [(2, .int x139), (0, .ref o), (1, .int p1), (3, .int x25), (4, .int x26), (5, .int x27)]) X.1 X.2.1 dL_typed_83 rfl hl136 (by decide) rfl (fun ls143 hl144 => ?_)
            refine lv_goto (pc := 84) (tgt := 195) X.1 X.2.1 dL_typed_84 (by decide) ?_
            exact hk45 x139 x25 x26 z142 _ _ ls143 h140 G141 (lv_sub hl144 [1, 2, 0, 3, 4, 5] rfl)
          refine lv_icmp_ge (pc := 55) (tgt := 66) X.1 X.2.1 dL_typed_55 (by decide) (fun hc127 => ?_) (fun hc127 => ?_)
          · have h128 := it_pos h126 hc127
            refine lv_iload (pc := 66) X.1 X.2.1 dL_typed_66 (lv_at hl44 0 rfl) ?_
            refine lv_bipush (pc := 68) (v := 6) X.1 X.2.1 dL_typed_68 (by decide) ?_
            refine lv_icmp_ge (pc := 70) (tgt := 78) X.1 X.2.1 dL_typed_70 (by decide) (fun hc130 => ?_) (fun hc130 => ?_)
            · have h131 := it_pos h128 hc130
              refine lv_bipush (pc := 78) (v := 95) X.1 X.2.1 dL_typed_78 (by decide) ?_
              exact hk125 95 _ _ ls43 h131 G30 (lv_sub hl44 [1, 2, 4, 5, 6] rfl)
            · have h132 := it_neg h128 hc130
              refine lv_bipush (pc := 73) (v := 63) X.1 X.2.1 dL_typed_73 (by decide) ?_
              refine lv_goto (pc := 75) (tgt := 80) X.1 X.2.1 dL_typed_75 (by decide) ?_
              exact hk125 63 _ _ ls43 h132 G30 (lv_sub hl44 [1, 2, 4, 5, 6] rfl)
          · have h129 := it_neg h126 hc127
            refine lv_bipush (pc := 58) (v := 97) X.1 X.2.1 dL_typed_58 (by decide) ?_
            refine lv_iload (pc := 60) X.1 X.2.1 dL_typed_60 (lv_at hl44 0 rfl) ?_
            refine lv_iadd (pc := 62) X.1 X.2.1 dL_typed_62 ?_
            refine lv_goto (pc := 63) (tgt := 80) X.1 X.2.1 dL_typed_63 (by decide) ?_
            exact hk125 ((97 : Int32) + x41) _ _ ls43 h129 G30 (lv_sub hl44 [1, 2, 4, 5, 6] rfl)
  refine lv_if_ge (pc := 4) (tgt := 12) X.1 X.2.1 dL_typed_4 (by decide) (fun hc8 => ?_) (fun hc8 => ?_)
  · have h9 := it_pos h7 hc8
    refine lv_iconst (pc := 12) (v := 0) X.1 X.2.1 dL_typed_12 (by decide) ?_
    exact hk6 0 _ _ ls h9 G4 (lv_sub hl [0, 1] rfl)
  · have h10 := it_neg h7 hc8
    refine lv_bipush (pc := 7) (v := (-9)) X.1 X.2.1 dL_typed_7 (by decide) ?_
    refine lv_goto (pc := 9) (tgt := 13) X.1 X.2.1 dL_typed_9 (by decide) ?_
    exact hk6 (-9) _ _ ls h10 G4 (lv_sub hl [0, 1] rfl)
abbrev rmL_acts : Room := { frames := 56, cells := 9, slots := 605, locals := 1783 }
noncomputable def FL_acts (z : MS) (p1 : Int32) : Option (MS × Int32) :=
  bd (p1 / 16) fun x1 =>
  jp (fun (_ : Unit) => bn2 (FL_typed z x1) fun z91 x88 =>
  jp (fun (x104 : Int32) (b105 : MS) => some (b105, x104)) fun k94 =>
  if (0 : Int32) ≤ x88 then
  pr ((x1 - x1 / 6 * 6) ≠ 25) <|
  bn2 (gz (-3) (-2) (F8_define z91 (x1 - x1 / 6 * 6))) fun z103 x100 =>
  k94 x100 z103
  else
  k94 (-9) z91) fun k5 =>
  if (p1 - p1 / 16 * 16) = 0 then
  bn2 (gz (-3) (-2) (F8_remove z (x1 - x1 / 6 * 6))) fun z34 x31 =>
  some (z34, x31)
  else if (p1 - p1 / 16 * 16) = 1 then
  pr ((x1 - x1 / 6 * 6) ≠ 25 ∧ ((x1 / 6) - (x1 / 6) / 6 * 6) ≠ 25) <|
  bn2 (gz (-3) 0 (F8_exchange z (x1 - x1 / 6 * 6) ((x1 / 6) - (x1 / 6) / 6 * 6))) fun z39 x36 =>
  some (z39, x36)
  else if (p1 - p1 / 16 * 16) = 2 then
  bn2 (gz (-2) 0 (F8_set z ((1 : Int32) + (x1 - x1 / 12 * 12)))) fun z44 x41 =>
  some (z44, x41)
  else if (p1 - p1 / 16 * 16) = 3 then
  bn2 (gz (-2) 0 (F8_undo z)) fun z49 x46 =>
  some (z49, x46)
  else if (p1 - p1 / 16 * 16) = 4 then
  bn2 (gz (-2) 0 (F8_keep z (x1 - x1 / 2 * 2))) fun z54 x51 =>
  some (z54, x51)
  else if (p1 - p1 / 16 * 16) = 5 then
  bn2 (gz (-2) (-3) (F8_goBack z (x1 - x1 / 2 * 2))) fun z59 x56 =>
  some (z59, x56)
  else if (p1 - p1 / 16 * 16) = 6 then
  k5 ()
  else if (p1 - p1 / 16 * 16) = 7 then
  k5 ()
  else if (p1 - p1 / 16 * 16) = 8 then
  k5 ()
  else if (p1 - p1 / 16 * 16) = 9 then
  k5 ()
  else if (p1 - p1 / 16 * 16) = 10 then
  k5 ()
  else bn2 (FL_typed z x1) fun z64 x61 =>
  jp (fun (x77 : Int32) (b78 : MS) => some (b78, x77)) fun k67 =>
  if (0 : Int32) ≤ x61 then
  bn2 (gz (-2) 0 (F8_expand z64)) fun z76 x73 =>
  k67 x73 z76
  else
  k67 (-9) z64
set_option maxHeartbeats 4000000 in
set_option maxRecDepth 100000 in
theorem mL_acts (l : Launch) (hfl : l.stackTraces = false) (D : va_G) (κ : Nat → ClassId) (A : Nat → Prop) (o : Nat) (Iv : MS → BS → Prop) (LS : LawS Iv) (z : MS) (p1 : Int32) (res : MS × Int32) (h : FL_acts z p1 = some res) : Met l yL_acts (gw yL_acts cL_acts 5 (some (FieldType.int))) rmL_acts (va_Pc [.ref o, .int p1] (WB D κ A (B1 D κ A o (Iv z)))) (QW A (B1 D κ A o (Iv res.1)) res.2) 9 605 A := by
  refine met_ofG (own := RL) (by decide +kernel) rfl (Nat.le_of_ble_eq_true rfl) ?_
  intro p e s m below meth c ls X hr hlk G hl
  have G : Wo D κ A (B1 D κ A o (Iv z)) s s.heap [] := G
  have hl : lv_has ls 5 [(0, .ref o), (1, .int p1)] := hl
  unfold FL_acts at h
  refine lv_iload_n (pc := 0) X.1 X.2.1 dL_acts_0 rfl (lv_at hl 1 rfl) ?_
  refine lv_bipush (pc := 1) (v := 16) X.1 X.2.1 dL_acts_1 (by decide) ?_
  refine lv_idiv (pc := 3) X.1 X.2.1 dL_acts_3 (by decide) ?_
  refine lv_topi (fun x1 ex1 => ?_)
  have h2 := bd_at h ex1
  refine lv_istore_n (pc := 4) (lv' := [(2, .int x1), (0, .ref o), (1, .int p1)]) X.1 X.2.1 dL_acts_4 rfl hl (by decide) rfl (fun ls3 hl4 => ?_)
  refine lv_iload_n (pc := 5) X.1 X.2.1 dL_acts_5 rfl (lv_at hl4 2 rfl) ?_
  refine lv_bipush (pc := 6) (v := 16) X.1 X.2.1 dL_acts_6 (by decide) ?_
  refine lv_irem (pc := 8) X.1 X.2.1 dL_acts_8 (by decide) ?_
  obtain ⟨k5, ek5, h6⟩ := jp_some h2
  have hk5 : ∀  (H : Heap) (locs : List Loc) (ls : Array Slot), k5 () = some res → Wo D κ A (B1 D κ A o (Iv z)) s H locs → lv_has ls 5 [(0, .ref o), (2, .int x1)] → W p l e rmL_acts s m [.ref o, .int p1].toArray below meth c H locs 0 0 (MQ below (QW A (B1 D κ A o (Iv res.1)) res.2) [.ref o, .int p1].toArray s 9 605 A) (F0 m 125 ls []) := by
    intro  H locs ls86 h83 G84 hl85
    rw [ek5] at h83
    try dsimp only at h83
    refine lv_aload_n (pc := 125) X.1 X.2.1 dL_acts_125 rfl (lv_at hl85 0 rfl) ?_
    refine lv_iload_n (pc := 126) X.1 X.2.1 dL_acts_126 rfl (lv_at hl85 1 rfl) ?_
    obtain ⟨z91, x88, e87, h89⟩ := bn2_some h83
    refine w_callS (pc := 127) (v := x88) (B' := (B1 D κ A o (Iv z91))) (As := [.ref o, .int x1]) (rest := []) X G84 (rm := rmL_typed) rfl rfl (mL_typed l D κ A o Iv LS z x1 (z91, x88) e87) g_L_99 hs_yL_typed ⟨Nat.le_of_ble_eq_true rfl, Nat.le_of_ble_eq_true rfl⟩ rfl hl85 rfl (lv_room (Nat.le_of_ble_eq_true rfl)) dL_acts_127 ⟨Nat.le_of_ble_eq_true rfl, Nat.le_of_ble_eq_true rfl⟩ (fun H locs G90 => ?_)
    refine lv_istore_n (pc := 130) (lv' := [(3, .int x88), (0, .ref o), (2, .int x1)]) X.1 X.2.1 dL_acts_130 rfl hl85 (by decide) rfl (fun ls92 hl93 => ?_)
    refine lv_iload_n (pc := 131) X.1 X.2.1 dL_acts_131 rfl (lv_at hl93 0 rfl) ?_
    obtain ⟨k94, ek94, h95⟩ := jp_some h89
    have hk94 : ∀ (x104 : Int32) (b105 : MS) (H : Heap) (locs : List Loc) (ls : Array Slot), k94 x104 b105 = some res → Wo D κ A (B1 D κ A o (Iv b105)) s H locs → lv_has ls 5 [] → W p l e rmL_acts s m [.ref o, .int p1].toArray below meth c H locs 9 114 (MQ below (QW A (B1 D κ A o (Iv res.1)) res.2) [.ref o, .int p1].toArray s 9 605 A) (F0 m 148 ls [.int x104]) := by
      intro x104 b105 H locs ls109 h106 G107 hl108
      rw [ek94] at h106
      try dsimp only at h106
      have h106_i := Option.some.inj h106
      exact w_iret (pc := 148) X G107 hr hlk dL_acts_148 (congrArg Prod.snd h106_i) (congrArg (fun q : MS × Int32 => B1 D κ A o (Iv q.1)) h106_i) (Nat.le_of_ble_eq_true rfl) (Nat.le_of_ble_eq_true rfl)
    refine lv_if_ge (pc := 132) (tgt := 140) X.1 X.2.1 dL_acts_132 (by decide) (fun hc96 => ?_) (fun hc96 => ?_)
    · have h97 := it_pos h95 hc96
      refine lv_aload_n (pc := 140) X.1 X.2.1 dL_acts_140 rfl (lv_at hl93 1 rfl) ?_
      refine lv_iload_n (pc := 141) X.1 X.2.1 dL_acts_141 rfl (lv_at hl93 2 rfl) ?_
      refine lv_bipush (pc := 142) (v := 6) X.1 X.2.1 dL_acts_142 (by decide) ?_
      refine lv_irem (pc := 144) X.1 X.2.1 dL_acts_144 (by decide) ?_
      obtain ⟨gx100, h97_g⟩ := pr_some h97
      obtain ⟨z103, x100, e99, h101⟩ := bn2_some h97_g
      refine w_callH (pc := 145) (v := x100) (B' := (B1 D κ A o (Iv z103))) (As := [.ref o, .int (x1 - x1 / 6 * 6)]) (rest := []) X G90 (rm := rmL_define) rfl rfl (bg_define l hfl D κ A o (Iv z91) (Iv z103) (x1 - x1 / 6 * 6) x100 (iz_define LS gx100 e99)) gL_102 hsL_define ⟨Nat.le_of_ble_eq_true rfl, Nat.le_of_ble_eq_true rfl⟩ rfl hl93 rfl (lv_room (Nat.le_of_ble_eq_true rfl)) dL_acts_145 ⟨Nat.le_of_ble_eq_true rfl, Nat.le_of_ble_eq_true rfl⟩ (fun H locs G102 => ?_)
      exact hk94 x100 z103 _ _ ls92 h101 G102 (lv_sub hl93 [] rfl)
    · have h98 := it_neg h95 hc96
      refine lv_bipush (pc := 135) (v := (-9)) X.1 X.2.1 dL_acts_135 (by decide) ?_
      refine lv_goto (pc := 137) (tgt := 148) X.1 X.2.1 dL_acts_137 (by decide) ?_
      refine W.widen (k := 9) (n := 114) (Nat.le_of_ble_eq_true rfl) (Nat.le_of_ble_eq_true rfl) ?_
      exact hk94 (-9) z91 _ _ ls92 h98 G90 (lv_sub hl93 [] rfl)
  by_cases hc29_0 : (p1 - p1 / 16 * 16) = 0
  · have h7 := it_pos h6 hc29_0
    refine lv_tableIn (pc := 9) (tgt := 68) (off := 59) X.1 X.2.1 dL_acts_9 (by rw [hc29_0]; decide) (by rw [hc29_0]; decide) (by rw [hc29_0]; decide +kernel) (by decide) ?_
    refine lv_aload_n (pc := 68) X.1 X.2.1 dL_acts_68 rfl (lv_at hl4 1 rfl) ?_
    refine lv_iload_n (pc := 69) X.1 X.2.1 dL_acts_69 rfl (lv_at hl4 0 rfl) ?_
    refine lv_bipush (pc := 70) (v := 6) X.1 X.2.1 dL_acts_70 (by decide) ?_
    refine lv_irem (pc := 72) X.1 X.2.1 dL_acts_72 (by decide) ?_
    obtain ⟨z34, x31, e30, h32⟩ := bn2_some h7
    refine w_callH (pc := 73) (v := x31) (B' := (B1 D κ A o (Iv z34))) (As := [.ref o, .int (x1 - x1 / 6 * 6)]) (rest := []) X G (rm := rmL_remove) rfl rfl (bg_remove l hfl D κ A o (Iv z) (Iv z34) (x1 - x1 / 6 * 6) x31 (iz_remove LS e30)) gL_85 hsL_remove ⟨Nat.le_of_ble_eq_true rfl, Nat.le_of_ble_eq_true rfl⟩ rfl hl4 rfl (lv_room (Nat.le_of_ble_eq_true rfl)) dL_acts_73 ⟨Nat.le_of_ble_eq_true rfl, Nat.le_of_ble_eq_true rfl⟩ (fun H locs G33 => ?_)
    have h32_i := Option.some.inj h32
    exact w_iret (pc := 76) X G33 hr hlk dL_acts_76 (congrArg Prod.snd h32_i) (congrArg (fun q : MS × Int32 => B1 D κ A o (Iv q.1)) h32_i) (Nat.le_of_ble_eq_true rfl) (Nat.le_of_ble_eq_true rfl)
  · have h8 := it_neg h6 hc29_0
    by_cases hc29_1 : (p1 - p1 / 16 * 16) = 1
    · have h9 := it_pos h8 hc29_1
      refine lv_tableIn (pc := 9) (tgt := 77) (off := 68) X.1 X.2.1 dL_acts_9 (by rw [hc29_1]; decide) (by rw [hc29_1]; decide) (by rw [hc29_1]; decide +kernel) (by decide) ?_
      refine lv_aload_n (pc := 77) X.1 X.2.1 dL_acts_77 rfl (lv_at hl4 1 rfl) ?_
      refine lv_iload_n (pc := 78) X.1 X.2.1 dL_acts_78 rfl (lv_at hl4 0 rfl) ?_
      refine lv_bipush (pc := 79) (v := 6) X.1 X.2.1 dL_acts_79 (by decide) ?_
      refine lv_irem (pc := 81) X.1 X.2.1 dL_acts_81 (by decide) ?_
      refine lv_iload_n (pc := 82) X.1 X.2.1 dL_acts_82 rfl (lv_at hl4 0 rfl) ?_
      refine lv_bipush (pc := 83) (v := 6) X.1 X.2.1 dL_acts_83 (by decide) ?_
      refine lv_idiv (pc := 85) X.1 X.2.1 dL_acts_85 (by decide) ?_
      refine lv_bipush (pc := 86) (v := 6) X.1 X.2.1 dL_acts_86 (by decide) ?_
      refine lv_irem (pc := 88) X.1 X.2.1 dL_acts_88 (by decide) ?_
      obtain ⟨gx36, h9_g⟩ := pr_some h9
      obtain ⟨z39, x36, e35, h37⟩ := bn2_some h9_g
      refine w_callH (pc := 89) (v := x36) (B' := (B1 D κ A o (Iv z39))) (As := [.ref o, .int (x1 - x1 / 6 * 6), .int ((x1 / 6) - (x1 / 6) / 6 * 6)]) (rest := []) X G (rm := rmL_exchange) rfl rfl (bg_exchange l hfl D κ A o (Iv z) (Iv z39) (x1 - x1 / 6 * 6) ((x1 / 6) - (x1 / 6) / 6 * 6) x36 (iz_exchange LS gx36 e35)) gL_87 hsL_exchange ⟨Nat.le_of_ble_eq_true rfl, Nat.le_of_ble_eq_true rfl⟩ rfl hl4 rfl (lv_room (Nat.le_of_ble_eq_true rfl)) dL_acts_89 ⟨Nat.le_of_ble_eq_true rfl, Nat.le_of_ble_eq_true rfl⟩ (fun H locs G38 => ?_)
      have h37_i := Option.some.inj h37
      exact w_iret (pc := 92) X G38 hr hlk dL_acts_92 (congrArg Prod.snd h37_i) (congrArg (fun q : MS × Int32 => B1 D κ A o (Iv q.1)) h37_i) (Nat.le_of_ble_eq_true rfl) (Nat.le_of_ble_eq_true rfl)
    · have h10 := it_neg h8 hc29_1
      by_cases hc29_2 : (p1 - p1 / 16 * 16) = 2
      · have h11 := it_pos h10 hc29_2
        refine lv_tableIn (pc := 9) (tgt := 93) (off := 84) X.1 X.2.1 dL_acts_9 (by rw [hc29_2]; decide) (by rw [hc29_2]; decide) (by rw [hc29_2]; decide +kernel) (by decide) ?_
        refine lv_aload_n (pc := 93) X.1 X.2.1 dL_acts_93 rfl (lv_at hl4 1 rfl) ?_
        refine lv_iconst (pc := 94) (v := 1) X.1 X.2.1 dL_acts_94 (by decide) ?_
        refine lv_iload_n (pc := 95) X.1 X.2.1 dL_acts_95 rfl (lv_at hl4 0 rfl) ?_
        refine lv_bipush (pc := 96) (v := 12) X.1 X.2.1 dL_acts_96 (by decide) ?_
        refine lv_irem (pc := 98) X.1 X.2.1 dL_acts_98 (by decide) ?_
        refine lv_iadd (pc := 99) X.1 X.2.1 dL_acts_99 ?_
        obtain ⟨z44, x41, e40, h42⟩ := bn2_some h11
        refine w_callH (pc := 100) (v := x41) (B' := (B1 D κ A o (Iv z44))) (As := [.ref o, .int ((1 : Int32) + (x1 - x1 / 12 * 12))]) (rest := []) X G (rm := rmL_set) rfl rfl (bg_set l hfl D κ A o (Iv z) (Iv z44) ((1 : Int32) + (x1 - x1 / 12 * 12)) x41 (iz_set LS e40)) gL_90 hsL_set ⟨Nat.le_of_ble_eq_true rfl, Nat.le_of_ble_eq_true rfl⟩ rfl hl4 rfl (lv_room (Nat.le_of_ble_eq_true rfl)) dL_acts_100 ⟨Nat.le_of_ble_eq_true rfl, Nat.le_of_ble_eq_true rfl⟩ (fun H locs G43 => ?_)
        have h42_i := Option.some.inj h42
        exact w_iret (pc := 103) X G43 hr hlk dL_acts_103 (congrArg Prod.snd h42_i) (congrArg (fun q : MS × Int32 => B1 D κ A o (Iv q.1)) h42_i) (Nat.le_of_ble_eq_true rfl) (Nat.le_of_ble_eq_true rfl)
      · have h12 := it_neg h10 hc29_2
        by_cases hc29_3 : (p1 - p1 / 16 * 16) = 3
        · have h13 := it_pos h12 hc29_3
          refine lv_tableIn (pc := 9) (tgt := 104) (off := 95) X.1 X.2.1 dL_acts_9 (by rw [hc29_3]; decide) (by rw [hc29_3]; decide) (by rw [hc29_3]; decide +kernel) (by decide) ?_
          refine lv_aload_n (pc := 104) X.1 X.2.1 dL_acts_104 rfl (lv_at hl4 1 rfl) ?_
          obtain ⟨z49, x46, e45, h47⟩ := bn2_some h13
          refine w_callH (pc := 105) (v := x46) (B' := (B1 D κ A o (Iv z49))) (As := [.ref o]) (rest := []) X G (rm := rmL_undo) rfl rfl (bg_undo l hfl D κ A o (Iv z) (Iv z49) x46 (iz_undo LS e45)) gL_92 hsL_undo ⟨Nat.le_of_ble_eq_true rfl, Nat.le_of_ble_eq_true rfl⟩ rfl hl4 rfl (lv_room (Nat.le_of_ble_eq_true rfl)) dL_acts_105 ⟨Nat.le_of_ble_eq_true rfl, Nat.le_of_ble_eq_true rfl⟩ (fun H locs G48 => ?_)
          have h47_i := Option.some.inj h47
          exact w_iret (pc := 108) X G48 hr hlk dL_acts_108 (congrArg Prod.snd h47_i) (congrArg (fun q : MS × Int32 => B1 D κ A o (Iv q.1)) h47_i) (Nat.le_of_ble_eq_true rfl) (Nat.le_of_ble_eq_true rfl)
        · have h14 := it_neg h12 hc29_3
          by_cases hc29_4 : (p1 - p1 / 16 * 16) = 4
          · have h15 := it_pos h14 hc29_4
            refine lv_tableIn (pc := 9) (tgt := 109) (off := 100) X.1 X.2.1 dL_acts_9 (by rw [hc29_4]; decide) (by rw [hc29_4]; decide) (by rw [hc29_4]; decide +kernel) (by decide) ?_
            refine lv_aload_n (pc := 109) X.1 X.2.1 dL_acts_109 rfl (lv_at hl4 1 rfl) ?_
            refine lv_iload_n (pc := 110) X.1 X.2.1 dL_acts_110 rfl (lv_at hl4 0 rfl) ?_
            refine lv_iconst (pc := 111) (v := 2) X.1 X.2.1 dL_acts_111 (by decide) ?_
            refine lv_irem (pc := 112) X.1 X.2.1 dL_acts_112 (by decide) ?_
            obtain ⟨z54, x51, e50, h52⟩ := bn2_some h15
            refine w_callH (pc := 113) (v := x51) (B' := (B1 D κ A o (Iv z54))) (As := [.ref o, .int (x1 - x1 / 2 * 2)]) (rest := []) X G (rm := rmL_keep) rfl rfl (bg_keep l hfl D κ A o (Iv z) (Iv z54) (x1 - x1 / 2 * 2) x51 (iz_keep LS e50)) gL_95 hsL_keep ⟨Nat.le_of_ble_eq_true rfl, Nat.le_of_ble_eq_true rfl⟩ rfl hl4 rfl (lv_room (Nat.le_of_ble_eq_true rfl)) dL_acts_113 ⟨Nat.le_of_ble_eq_true rfl, Nat.le_of_ble_eq_true rfl⟩ (fun H locs G53 => ?_)
            have h52_i := Option.some.inj h52
            exact w_iret (pc := 116) X G53 hr hlk dL_acts_116 (congrArg Prod.snd h52_i) (congrArg (fun q : MS × Int32 => B1 D κ A o (Iv q.1)) h52_i) (Nat.le_of_ble_eq_true rfl) (Nat.le_of_ble_eq_true rfl)
          · have h16 := it_neg h14 hc29_4
            by_cases hc29_5 : (p1 - p1 / 16 * 16) = 5
            · have h17 := it_pos h16 hc29_5
              refine lv_tableIn (pc := 9) (tgt := 117) (off := 108) X.1 X.2.1 dL_acts_9 (by rw [hc29_5]; decide) (by rw [hc29_5]; decide) (by rw [hc29_5]; decide +kernel) (by decide) ?_
              refine lv_aload_n (pc := 117) X.1 X.2.1 dL_acts_117 rfl (lv_at hl4 1 rfl) ?_
              refine lv_iload_n (pc := 118) X.1 X.2.1 dL_acts_118 rfl (lv_at hl4 0 rfl) ?_
              refine lv_iconst (pc := 119) (v := 2) X.1 X.2.1 dL_acts_119 (by decide) ?_
              refine lv_irem (pc := 120) X.1 X.2.1 dL_acts_120 (by decide) ?_
              obtain ⟨z59, x56, e55, h57⟩ := bn2_some h17
              refine w_callH (pc := 121) (v := x56) (B' := (B1 D κ A o (Iv z59))) (As := [.ref o, .int (x1 - x1 / 2 * 2)]) (rest := []) X G (rm := rmL_goBack) rfl rfl (bg_goBack l hfl D κ A o (Iv z) (Iv z59) (x1 - x1 / 2 * 2) x56 (iz_goBack LS e55)) gL_97 hsL_goBack ⟨Nat.le_of_ble_eq_true rfl, Nat.le_of_ble_eq_true rfl⟩ rfl hl4 rfl (lv_room (Nat.le_of_ble_eq_true rfl)) dL_acts_121 ⟨Nat.le_of_ble_eq_true rfl, Nat.le_of_ble_eq_true rfl⟩ (fun H locs G58 => ?_)
              have h57_i := Option.some.inj h57
              exact w_iret (pc := 124) X G58 hr hlk dL_acts_124 (congrArg Prod.snd h57_i) (congrArg (fun q : MS × Int32 => B1 D κ A o (Iv q.1)) h57_i) (Nat.le_of_ble_eq_true rfl) (Nat.le_of_ble_eq_true rfl)
            · have h18 := it_neg h16 hc29_5
              by_cases hc29_6 : (p1 - p1 / 16 * 16) = 6
              · have h19 := it_pos h18 hc29_6
                refine lv_tableIn (pc := 9) (tgt := 125) (off := 116) X.1 X.2.1 dL_acts_9 (by rw [hc29_6]; decide) (by rw [hc29_6]; decide) (by rw [hc29_6]; decide +kernel) (by decide) ?_
                exact hk5  _ _ ls3 h19 G (lv_sub hl4 [1, 0] rfl)
              · have h20 := it_neg h18 hc29_6
                by_cases hc29_7 : (p1 - p1 / 16 * 16) = 7
                · have h21 := it_pos h20 hc29_7
                  refine lv_tableIn (pc := 9) (tgt := 125) (off := 116) X.1 X.2.1 dL_acts_9 (by rw [hc29_7]; decide) (by rw [hc29_7]; decide) (by rw [hc29_7]; decide +kernel) (by decide) ?_
                  exact hk5  _ _ ls3 h21 G (lv_sub hl4 [1, 0] rfl)
                · have h22 := it_neg h20 hc29_7
                  by_cases hc29_8 : (p1 - p1 / 16 * 16) = 8
                  · have h23 := it_pos h22 hc29_8
                    refine lv_tableIn (pc := 9) (tgt := 125) (off := 116) X.1 X.2.1 dL_acts_9 (by rw [hc29_8]; decide) (by rw [hc29_8]; decide) (by rw [hc29_8]; decide +kernel) (by decide) ?_
                    exact hk5  _ _ ls3 h23 G (lv_sub hl4 [1, 0] rfl)
                  · have h24 := it_neg h22 hc29_8
                    by_cases hc29_9 : (p1 - p1 / 16 * 16) = 9
                    · have h25 := it_pos h24 hc29_9
                      refine lv_tableIn (pc := 9) (tgt := 125) (off := 116) X.1 X.2.1 dL_acts_9 (by rw [hc29_9]; decide) (by rw [hc29_9]; decide) (by rw [hc29_9]; decide +kernel) (by decide) ?_
                      exact hk5  _ _ ls3 h25 G (lv_sub hl4 [1, 0] rfl)
                    · have h26 := it_neg h24 hc29_9
                      by_cases hc29_10 : (p1 - p1 / 16 * 16) = 10
                      · have h27 := it_pos h26 hc29_10
                        refine lv_tableIn (pc := 9) (tgt := 125) (off := 116) X.1 X.2.1 dL_acts_9 (by rw [hc29_10]; decide) (by rw [hc29_10]; decide) (by rw [hc29_10]; decide +kernel) (by decide) ?_
                        exact hk5  _ _ ls3 h27 G (lv_sub hl4 [1, 0] rfl)
                      · have h28 := it_neg h26 hc29_10
                        refine lv_tableOut (pc := 9) (tgt := 149) X.1 X.2.1 dL_acts_9 (sw_out (n := 10) (by decide) (fun k hk => ?_)) (by decide) ?_
                        · rcases (show k = 0 ∨ k = 1 ∨ k = 2 ∨ k = 3 ∨ k = 4 ∨ k = 5 ∨ k = 6 ∨ k = 7 ∨ k = 8 ∨ k = 9 ∨ k = 10 by omega) with rfl | rfl | rfl | rfl | rfl | rfl | rfl | rfl | rfl | rfl | rfl
                          · exact hc29_0
                          · exact hc29_1
                          · exact hc29_2
                          · exact hc29_3
                          · exact hc29_4
                          · exact hc29_5
                          · exact hc29_6
                          · exact hc29_7
                          · exact hc29_8
                          · exact hc29_9
                          · exact hc29_10
                        · refine lv_aload_n (pc := 149) X.1 X.2.1 dL_acts_149 rfl (lv_at hl4 1 rfl) ?_
                          refine lv_iload_n (pc := 150) X.1 X.2.1 dL_acts_150 rfl (lv_at hl4 0 rfl) ?_
                          obtain ⟨z64, x61, e60, h62⟩ := bn2_some h28
                          refine w_callS (pc := 151) (v := x61) (B' := (B1 D κ A o (Iv z64))) (As := [.ref o, .int x1]) (rest := []) X G (rm := rmL_typed) rfl rfl (mL_typed l D κ A o Iv LS z x1 (z64, x61) e60) g_L_99 hs_yL_typed ⟨Nat.le_of_ble_eq_true rfl, Nat.le_of_ble_eq_true rfl⟩ rfl hl4 rfl (lv_room (Nat.le_of_ble_eq_true rfl)) dL_acts_151 ⟨Nat.le_of_ble_eq_true rfl, Nat.le_of_ble_eq_true rfl⟩ (fun H locs G63 => ?_)
                          refine lv_istore (pc := 154) (lv' := [(4, .int x61), (2, .int x1), (0, .ref o), (1, .int p1)]) X.1 X.2.1 dL_acts_154 hl4 (by decide) rfl (fun ls65 hl66 => ?_)
                          refine lv_iload (pc := 156) X.1 X.2.1 dL_acts_156 (lv_at hl66 0 rfl) ?_
                          obtain ⟨k67, ek67, h68⟩ := jp_some h62
                          have hk67 : ∀ (x77 : Int32) (b78 : MS) (H : Heap) (locs : List Loc) (ls : Array Slot), k67 x77 b78 = some res → Wo D κ A (B1 D κ A o (Iv b78)) s H locs → lv_has ls 5 [] → W p l e rmL_acts s m [.ref o, .int p1].toArray below meth c H locs 9 605 (MQ below (QW A (B1 D κ A o (Iv res.1)) res.2) [.ref o, .int p1].toArray s 9 605 A) (F0 m 170 ls [.int x77]) := by
                            intro x77 b78 H locs ls82 h79 G80 hl81
                            rw [ek67] at h79
                            try dsimp only at h79
                            have h79_i := Option.some.inj h79
                            exact w_iret (pc := 170) X G80 hr hlk dL_acts_170 (congrArg Prod.snd h79_i) (congrArg (fun q : MS × Int32 => B1 D κ A o (Iv q.1)) h79_i) (Nat.le_of_ble_eq_true rfl) (Nat.le_of_ble_eq_true rfl)
                          refine lv_if_ge (pc := 158) (tgt := 166) X.1 X.2.1 dL_acts_158 (by decide) (fun hc69 => ?_) (fun hc69 => ?_)
                          · have h70 := it_pos h68 hc69
                            refine lv_aload_n (pc := 166) X.1 X.2.1 dL_acts_166 rfl (lv_at hl66 2 rfl) ?_
                            obtain ⟨z76, x73, e72, h74⟩ := bn2_some h70
                            refine w_callH (pc := 167) (v := x73) (B' := (B1 D κ A o (Iv z76))) (As := [.ref o]) (rest := []) X G63 (rm := rmL_expand) rfl rfl (bg_expand l hfl D κ A o (Iv z64) (Iv z76) x73 (iz_expand LS e72)) gL_104 hsL_expand ⟨Nat.le_of_ble_eq_true rfl, Nat.le_of_ble_eq_true rfl⟩ rfl hl66 rfl (lv_room (Nat.le_of_ble_eq_true rfl)) dL_acts_167 ⟨Nat.le_of_ble_eq_true rfl, Nat.le_of_ble_eq_true rfl⟩ (fun H locs G75 => ?_)
                            exact hk67 x73 z76 _ _ ls65 h74 G75 (lv_sub hl66 [] rfl)
                          · have h71 := it_neg h68 hc69
                            refine lv_bipush (pc := 161) (v := (-9)) X.1 X.2.1 dL_acts_161 (by decide) ?_
                            refine lv_goto (pc := 163) (tgt := 170) X.1 X.2.1 dL_acts_163 (by decide) ?_
                            refine W.widen (k := 9) (n := 605) (Nat.le_of_ble_eq_true rfl) (Nat.le_of_ble_eq_true rfl) ?_
                            exact hk67 (-9) z64 _ _ ls65 h71 G63 (lv_sub hl66 [] rfl)
abbrev rmL_isLength : Room := { frames := 56, cells := 10, slots := 611, locals := 1783 }
noncomputable def FL_isLength (z : MS) (p1 : Int32) (p2 : Int32) : Option (MS × Int32) :=
  bn2 (nw (F8_body z p1 1)) fun z5 x2 =>
  bn2 (nw (F8_lengthOf z5 p1 p2)) fun z12 x9 =>
  jp (fun (_ : Unit) => jp (fun (x180 : Int32) => bz x180 (some (z12, x180))) fun k166 =>
  jp (fun (_ : Unit) => k166 1) fun k168 =>
  if (6 : Int32) < x2 then
  k168 ()
  else
  if ¬ x9 = (-1) then
  k166 0
  else
  k168 ()) fun k15 =>
  if x2 < 0 then
  k15 ()
  else
  if x2 ≤ 6 then
  bn2 (F8_clearBuffer z12) fun z27 x24 =>
  jp (fun (x38 : Int32) (b39 : MS) => Loop (fun (q : Int32 × Int32 × MS) => (fun (x48 : Int32) (x49 : Int32) (b50 : MS) =>
  if x2 ≤ x49 then
  jp (fun (x68 : Int32) (b69 : MS) => jp (fun (x112 : Int32) (b113 : MS) => bz x112 (some (.inr (b113, x112)))) fun k76 =>
  jp (fun (b107 : MS) => k76 0 b107) fun k78 =>
  if x68 ≤ 0 then
  k78 b69
  else
  bn2 (gz (-2) 0 (F8_expand b69)) fun z87 x84 =>
  if ¬ x84 = x9 then
  k78 z87
  else
  bn2 (gz (-2) 0 (F8_undo z87)) fun z95 x92 =>
  if x92 < 0 then
  k78 z95
  else
  bn2 (F8_clearBuffer z95) fun z103 x100 =>
  if ¬ x100 = x68 then
  k78 z103
  else
  k76 1 z103) fun k58 =>
  if x2 ≤ 0 then
  k58 x48 b50
  else
  bn2 (nw (F8_append b50 41)) fun z67 x64 =>
  k58 x64 z67
  else
  jp (fun (x123 : Int32) => bn2 (nw (F8_append b50 x123)) fun z132 x129 =>
  Loop (fun (q : Int32 × Int32 × MS) => (fun (x137 : Int32) (x138 : Int32) (b139 : MS) =>
  if p2 ≤ x138 then
  bd (x49 + 1) fun x147 =>
  some (.inr (.inl (x137, x147, b139)))
  else
  bn2 (nw (F8_append b139 ((97 : Int32) + x138))) fun z155 x152 =>
  bd (x138 + 1) fun x158 =>
  some (.inl (x152, x158, z155))) q.1 q.2.1 q.2.2) (x129, 0, z132)) fun k118 =>
  if ¬ x49 = 0 then
  k118 44
  else
  k118 40) q.1 q.2.1 q.2.2) (x38, 0, b39)) fun k28 =>
  if (0 : Int32) ≤ x24 then
  bn2 (nw (F8_append z27 ((65 : Int32) + p1))) fun z37 x34 =>
  k28 x34 z37
  else
  k28 (-9) z27
  else
  k15 ()
set_option maxHeartbeats 4000000 in
set_option maxRecDepth 100000 in
theorem mL_isLength (l : Launch) (hfl : l.stackTraces = false) (D : va_G) (κ : Nat → ClassId) (A : Nat → Prop) (o : Nat) (Iv : MS → BS → Prop) (LS : LawS Iv) (z : MS) (p1 : Int32) (p2 : Int32) (res : MS × Int32) (h : FL_isLength z p1 p2 = some res) : Met l yL_isLength (gw yL_isLength cL_isLength 8 (some (FieldType.boolean))) rmL_isLength (va_Pc [.ref o, .int p1, .int p2] (WB D κ A (B1 D κ A o (Iv z)))) (QW A (B1 D κ A o (Iv res.1)) res.2) 10 611 A := by
  refine met_ofG (own := RL) (by decide +kernel) rfl (Nat.le_of_ble_eq_true rfl) ?_
  intro p e s m below meth c ls X hr hlk G hl
  have G : Wo D κ A (B1 D κ A o (Iv z)) s s.heap [] := G
  have hl : lv_has ls 8 [(0, .ref o), (1, .int p1), (2, .int p2)] := hl
  unfold FL_isLength at h
  refine lv_aload_n (pc := 0) X.1 X.2.1 dL_isLength_0 rfl (lv_at hl 0 rfl) ?_
  refine lv_iload_n (pc := 1) X.1 X.2.1 dL_isLength_1 rfl (lv_at hl 1 rfl) ?_
  refine lv_iconst (pc := 2) (v := 1) X.1 X.2.1 dL_isLength_2 (by decide) ?_
  obtain ⟨z5, x2, e1, h3⟩ := bn2_some h
  refine w_callH (pc := 3) (v := x2) (B' := (B1 D κ A o (Iv z5))) (As := [.ref o, .int p1, .int 1]) (rest := []) X G (rm := rmLn_body) rfl rfl (bn_body l D κ A o (Iv z) (Iv z5) p1 1 x2 (in_body LS e1)) gL_114 hsL_body ⟨Nat.le_of_ble_eq_true rfl, Nat.le_of_ble_eq_true rfl⟩ rfl hl rfl (lv_room (Nat.le_of_ble_eq_true rfl)) dL_isLength_3 ⟨Nat.le_of_ble_eq_true rfl, Nat.le_of_ble_eq_true rfl⟩ (fun H locs G4 => ?_)
  refine lv_istore_n (pc := 6) (lv' := [(3, .int x2), (0, .ref o), (1, .int p1), (2, .int p2)]) X.1 X.2.1 dL_isLength_6 rfl hl (by decide) rfl (fun ls6 hl7 => ?_)
  refine lv_aload_n (pc := 7) X.1 X.2.1 dL_isLength_7 rfl (lv_at hl7 1 rfl) ?_
  refine lv_iload_n (pc := 8) X.1 X.2.1 dL_isLength_8 rfl (lv_at hl7 2 rfl) ?_
  refine lv_iload_n (pc := 9) X.1 X.2.1 dL_isLength_9 rfl (lv_at hl7 3 rfl) ?_
  obtain ⟨z12, x9, e8, h10⟩ := bn2_some h3
  refine w_callH (pc := 10) (v := x9) (B' := (B1 D κ A o (Iv z12))) (As := [.ref o, .int p1, .int p2]) (rest := []) X G4 (rm := rmLn_lengthOf) rfl rfl (bn_lengthOf l D κ A o (Iv z5) (Iv z12) p1 p2 x9 (in_lengthOf LS e8)) gL_123 hsL_lengthOf ⟨Nat.le_of_ble_eq_true rfl, Nat.le_of_ble_eq_true rfl⟩ rfl hl7 rfl (lv_room (Nat.le_of_ble_eq_true rfl)) dL_isLength_10 ⟨Nat.le_of_ble_eq_true rfl, Nat.le_of_ble_eq_true rfl⟩ (fun H locs G11 => ?_)
  refine lv_istore (pc := 13) (lv' := [(4, .int x9), (3, .int x2), (0, .ref o), (1, .int p1), (2, .int p2)]) X.1 X.2.1 dL_isLength_13 hl7 (by decide) rfl (fun ls13 hl14 => ?_)
  refine lv_iload_n (pc := 15) X.1 X.2.1 dL_isLength_15 rfl (lv_at hl14 1 rfl) ?_
  obtain ⟨k15, ek15, h16⟩ := jp_some h10
  have hk15 : ∀  (H : Heap) (locs : List Loc) (ls : Array Slot), k15 () = some res → Wo D κ A (B1 D κ A o (Iv z12)) s H locs → lv_has ls 8 [(3, .int x2), (4, .int x9)] → W p l e rmL_isLength s m [.ref o, .int p1, .int p2].toArray below meth c H locs 0 0 (MQ below (QW A (B1 D κ A o (Iv res.1)) res.2) [.ref o, .int p1, .int p2].toArray s 10 611 A) (F0 m 25 ls []) := by
    intro  H locs ls165 h162 G163 hl164
    rw [ek15] at h162
    try dsimp only at h162
    refine lv_iload_n (pc := 25) X.1 X.2.1 dL_isLength_25 rfl (lv_at hl164 0 rfl) ?_
    refine lv_bipush (pc := 26) (v := 6) X.1 X.2.1 dL_isLength_26 (by decide) ?_
    obtain ⟨k166, ek166, h167⟩ := jp_some h162
    have hk166 : ∀ (x180 : Int32) (H : Heap) (locs : List Loc) (ls : Array Slot), k166 x180 = some res → Wo D κ A (B1 D κ A o (Iv z12)) s H locs → lv_has ls 8 [] → W p l e rmL_isLength s m [.ref o, .int p1, .int p2].toArray below meth c H locs 0 0 (MQ below (QW A (B1 D κ A o (Iv res.1)) res.2) [.ref o, .int p1, .int p2].toArray s 10 611 A) (F0 m 42 ls [.int x180]) := by
      intro x180 H locs ls184 h181 G182 hl183
      rw [ek166] at h181
      try dsimp only at h181
      obtain ⟨hb, h181_b⟩ := bz_some h181
      have h181_b_i := Option.some.inj h181_b
      exact w_zret (pc := 42) X G182 hr hlk dL_isLength_42 hb (congrArg Prod.snd h181_b_i) (congrArg (fun q : MS × Int32 => B1 D κ A o (Iv q.1)) h181_b_i) (Nat.le_of_ble_eq_true rfl) (Nat.le_of_ble_eq_true rfl)
    obtain ⟨k168, ek168, h169⟩ := jp_some h167
    have hk168 : ∀  (H : Heap) (locs : List Loc) (ls : Array Slot), k168 () = some res → Wo D κ A (B1 D κ A o (Iv z12)) s H locs → lv_has ls 8 [] → W p l e rmL_isLength s m [.ref o, .int p1, .int p2].toArray below meth c H locs 0 0 (MQ below (QW A (B1 D κ A o (Iv res.1)) res.2) [.ref o, .int p1, .int p2].toArray s 10 611 A) (F0 m 37 ls []) := by
      intro  H locs ls179 h176 G177 hl178
      rw [ek168] at h176
      try dsimp only at h176
      refine lv_iconst (pc := 37) (v := 1) X.1 X.2.1 dL_isLength_37 (by decide) ?_
      refine lv_goto (pc := 38) (tgt := 42) X.1 X.2.1 dL_isLength_38 (by decide) ?_
      exact hk166 1 _ _ ls179 h176 G177 (lv_sub hl178 [] rfl)
    refine lv_icmp_gt (pc := 28) (tgt := 37) X.1 X.2.1 dL_isLength_28 (by decide) (fun hc170 => ?_) (fun hc170 => ?_)
    · have h171 := it_pos h169 hc170
      exact hk168  _ _ ls165 h171 G163 (lv_sub hl164 [] rfl)
    · have h172 := it_neg h169 hc170
      refine lv_iload (pc := 31) X.1 X.2.1 dL_isLength_31 (lv_at hl164 1 rfl) ?_
      refine lv_iconst (pc := 33) (v := (-1)) X.1 X.2.1 dL_isLength_33 (by decide) ?_
      refine lv_icmp_ne (pc := 34) (tgt := 41) X.1 X.2.1 dL_isLength_34 (by decide) (fun hc173 => ?_) (fun hc173 => ?_)
      · have h174 := it_pos h172 hc173
        refine lv_iconst (pc := 41) (v := 0) X.1 X.2.1 dL_isLength_41 (by decide) ?_
        exact hk166 0 _ _ ls165 h174 G163 (lv_sub hl164 [] rfl)
      · have h175 := it_neg h172 (fun q => q hc173)
        exact hk168  _ _ ls165 h175 G163 (lv_sub hl164 [] rfl)
  refine lv_if_lt (pc := 16) (tgt := 25) X.1 X.2.1 dL_isLength_16 (by decide) (fun hc17 => ?_) (fun hc17 => ?_)
  · have h18 := it_pos h16 hc17
    exact hk15  _ _ ls13 h18 G11 (lv_sub hl14 [1, 0] rfl)
  · have h19 := it_neg h16 hc17
    refine lv_iload_n (pc := 19) X.1 X.2.1 dL_isLength_19 rfl (lv_at hl14 1 rfl) ?_
    refine lv_bipush (pc := 20) (v := 6) X.1 X.2.1 dL_isLength_20 (by decide) ?_
    refine lv_icmp_le (pc := 22) (tgt := 43) X.1 X.2.1 dL_isLength_22 (by decide) (fun hc20 => ?_) (fun hc20 => ?_)
    · have h21 := it_pos h19 hc20
      refine lv_aload_n (pc := 43) X.1 X.2.1 dL_isLength_43 rfl (lv_at hl14 2 rfl) ?_
      obtain ⟨z27, x24, e23, h25⟩ := bn2_some h21
      refine w_callV (pc := 44) (v := x24) (B' := (B1 D κ A o (Iv z27))) (As := []) (rest := []) X G11 (rm := rm7_clearBuffer) rfl rfl (bv_clearBuffer l D κ A o (Iv z12) (Iv z27) x24 (iz_clearBuffer LS e23)) (B1.rcv G11) g_L_77 hd_yX7_clearBuffer ⟨Nat.le_of_ble_eq_true rfl, Nat.le_of_ble_eq_true rfl⟩ rfl hl14 rfl (lv_room (Nat.le_of_ble_eq_true rfl)) dL_isLength_44 ⟨Nat.le_of_ble_eq_true rfl, Nat.le_of_ble_eq_true rfl⟩ (fun H locs G26 => ?_)
      obtain ⟨k28, ek28, h29⟩ := jp_some h25
      have hk28 : ∀ (x38 : Int32) (b39 : MS) (H : Heap) (locs : List Loc) (ls : Array Slot), k28 x38 b39 = some res → Wo D κ A (B1 D κ A o (Iv b39)) s H locs → lv_has ls 8 [(0, .ref o), (2, .int p2), (3, .int x2), (4, .int x9)] → W p l e rmL_isLength s m [.ref o, .int p1, .int p2].toArray below meth c H locs 0 0 (MQ below (QW A (B1 D κ A o (Iv res.1)) res.2) [.ref o, .int p1, .int p2].toArray s 10 611 A) (F0 m 63 ls [.int x38]) := by
        intro x38 b39 H locs ls43 h40 G41 hl42
        rw [ek28] at h40
        try dsimp only at h40
        refine lv_istore (pc := 63) (lv' := [(5, .int x38), (0, .ref o), (2, .int p2), (3, .int x2), (4, .int x9)]) X.1 X.2.1 dL_isLength_63 hl42 (by decide) rfl (fun ls44 hl45 => ?_)
        refine lv_iconst (pc := 65) (v := 0) X.1 X.2.1 dL_isLength_65 (by decide) ?_
        refine lv_istore (pc := 66) (lv' := [(6, .int 0), (5, .int x38), (0, .ref o), (2, .int p2), (3, .int x2), (4, .int x9)]) X.1 X.2.1 dL_isLength_66 hl45 (by decide) rfl (fun ls46 hl47 => ?_)
        refine Loop_ind (P := fun (q : Int32 × Int32 × MS) => ∀ (H : Heap) (locs : List Loc) (ls : Array Slot), Wo D κ A (B1 D κ A o (Iv q.2.2)) s H locs → lv_has ls 8 [(0, .ref o), (2, .int p2), (3, .int x2), (4, .int x9), (5, .int q.1), (6, .int q.2.1)] → W p l e rmL_isLength s m [.ref o, .int p1, .int p2].toArray below meth c H locs 0 0 (MQ below (QW A (B1 D κ A o (Iv res.1)) res.2) [.ref o, .int p1, .int p2].toArray s 10 611 A) (F0 m 68 ls [])) ?_ h40 _ _ ls46 G41 (lv_sub hl47 [2, 3, 4, 5, 1, 0] rfl)
        intro q y1 h51 ih1 hz1 H locs ls54 G52 hl53
        obtain ⟨x48, x49, b50⟩ := q
        try dsimp only at h51 ih1 G52 hl53 ⊢
        refine lv_iload (pc := 68) X.1 X.2.1 dL_isLength_68 (lv_at hl53 5 rfl) ?_
        refine lv_iload_n (pc := 70) X.1 X.2.1 dL_isLength_70 rfl (lv_at hl53 2 rfl) ?_
        refine lv_icmp_ge (pc := 71) (tgt := 124) X.1 X.2.1 dL_isLength_71 (by decide) (fun hc55 => ?_) (fun hc55 => ?_)
        · have h56 := it_pos h51 hc55
          refine lv_iload_n (pc := 124) X.1 X.2.1 dL_isLength_124 rfl (lv_at hl53 2 rfl) ?_
          obtain ⟨k58, ek58, h59⟩ := jp_some h56
          have hk58 : ∀ (x68 : Int32) (b69 : MS) (H : Heap) (locs : List Loc) (ls : Array Slot), k58 x68 b69 = some y1 → Wo D κ A (B1 D κ A o (Iv b69)) s H locs → lv_has ls 8 [(0, .ref o), (4, .int x9)] → W p l e rmL_isLength s m [.ref o, .int p1, .int p2].toArray below meth c H locs 0 0 (MQ below (QW A (B1 D κ A o (Iv res.1)) res.2) [.ref o, .int p1, .int p2].toArray s 10 611 A) (F0 m 139 ls [.int x68]) := by
            intro x68 b69 H locs ls73 h70 G71 hl72
            rw [ek58] at h70
            try dsimp only at h70
            refine lv_istore (pc := 139) (lv' := [(5, .int x68), (0, .ref o), (4, .int x9)]) X.1 X.2.1 dL_isLength_139 hl72 (by decide) rfl (fun ls74 hl75 => ?_)
            refine lv_iload (pc := 141) X.1 X.2.1 dL_isLength_141 (lv_at hl75 0 rfl) ?_
            obtain ⟨k76, ek76, h77⟩ := jp_some h70
            have hk76 : ∀ (x112 : Int32) (b113 : MS) (H : Heap) (locs : List Loc) (ls : Array Slot), k76 x112 b113 = some y1 → Wo D κ A (B1 D κ A o (Iv b113)) s H locs → lv_has ls 8 [] → W p l e rmL_isLength s m [.ref o, .int p1, .int p2].toArray below meth c H locs 10 611 (MQ below (QW A (B1 D κ A o (Iv res.1)) res.2) [.ref o, .int p1, .int p2].toArray s 10 611 A) (F0 m 176 ls [.int x112]) := by
              intro x112 b113 H locs ls117 h114 G115 hl116
              rw [ek76] at h114
              try dsimp only at h114
              obtain ⟨hb, h114_b⟩ := bz_some h114
              have h114_b_i := Option.some.inj h114_b
              have h114_b_i_1 := hz1 _ h114_b_i.symm
              exact w_zret (pc := 176) X G115 hr hlk dL_isLength_176 hb (congrArg Prod.snd h114_b_i_1) (congrArg (fun q : MS × Int32 => B1 D κ A o (Iv q.1)) h114_b_i_1) (Nat.le_of_ble_eq_true rfl) (Nat.le_of_ble_eq_true rfl)
            obtain ⟨k78, ek78, h79⟩ := jp_some h77
            have hk78 : ∀ (b107 : MS) (H : Heap) (locs : List Loc) (ls : Array Slot), k78 b107 = some y1 → Wo D κ A (B1 D κ A o (Iv b107)) s H locs → lv_has ls 8 [] → W p l e rmL_isLength s m [.ref o, .int p1, .int p2].toArray below meth c H locs 10 611 (MQ below (QW A (B1 D κ A o (Iv res.1)) res.2) [.ref o, .int p1, .int p2].toArray s 10 611 A) (F0 m 175 ls []) := by
              intro b107 H locs ls111 h108 G109 hl110
              rw [ek78] at h108
              try dsimp only at h108
              refine lv_iconst (pc := 175) (v := 0) X.1 X.2.1 dL_isLength_175 (by decide) ?_
              exact hk76 0 b107 _ _ ls111 h108 G109 (lv_sub hl110 [] rfl)
            refine lv_if_le (pc := 143) (tgt := 175) X.1 X.2.1 dL_isLength_143 (by decide) (fun hc80 => ?_) (fun hc80 => ?_)
            · have h81 := it_pos h79 hc80
              refine W.widen (k := 10) (n := 611) (Nat.le_of_ble_eq_true rfl) (Nat.le_of_ble_eq_true rfl) ?_
              exact hk78 b69 _ _ ls74 h81 G71 (lv_sub hl75 [] rfl)
            · have h82 := it_neg h79 hc80
              refine lv_aload_n (pc := 146) X.1 X.2.1 dL_isLength_146 rfl (lv_at hl75 1 rfl) ?_
              obtain ⟨z87, x84, e83, h85⟩ := bn2_some h82
              refine w_callH (pc := 147) (v := x84) (B' := (B1 D κ A o (Iv z87))) (As := [.ref o]) (rest := []) X G71 (rm := rmL_expand) rfl rfl (bg_expand l hfl D κ A o (Iv b69) (Iv z87) x84 (iz_expand LS e83)) gL_104 hsL_expand ⟨Nat.le_of_ble_eq_true rfl, Nat.le_of_ble_eq_true rfl⟩ rfl hl75 rfl (lv_room (Nat.le_of_ble_eq_true rfl)) dL_isLength_147 ⟨Nat.le_of_ble_eq_true rfl, Nat.le_of_ble_eq_true rfl⟩ (fun H locs G86 => ?_)
              refine lv_iload (pc := 150) X.1 X.2.1 dL_isLength_150 (lv_at hl75 2 rfl) ?_
              refine lv_icmp_ne (pc := 152) (tgt := 175) X.1 X.2.1 dL_isLength_152 (by decide) (fun hc88 => ?_) (fun hc88 => ?_)
              · have h89 := it_pos h85 hc88
                refine W.widen (k := 10) (n := 611) (Nat.le_of_ble_eq_true rfl) (Nat.le_of_ble_eq_true rfl) ?_
                exact hk78 z87 _ _ ls74 h89 G86 (lv_sub hl75 [] rfl)
              · have h90 := it_neg h85 (fun q => q hc88)
                refine lv_aload_n (pc := 155) X.1 X.2.1 dL_isLength_155 rfl (lv_at hl75 1 rfl) ?_
                obtain ⟨z95, x92, e91, h93⟩ := bn2_some h90
                refine w_callH (pc := 156) (v := x92) (B' := (B1 D κ A o (Iv z95))) (As := [.ref o]) (rest := []) X G86 (rm := rmL_undo) rfl rfl (bg_undo l hfl D κ A o (Iv z87) (Iv z95) x92 (iz_undo LS e91)) gL_92 hsL_undo ⟨Nat.le_of_ble_eq_true rfl, Nat.le_of_ble_eq_true rfl⟩ rfl hl75 rfl (lv_room (Nat.le_of_ble_eq_true rfl)) dL_isLength_156 ⟨Nat.le_of_ble_eq_true rfl, Nat.le_of_ble_eq_true rfl⟩ (fun H locs G94 => ?_)
                refine lv_if_lt (pc := 159) (tgt := 175) X.1 X.2.1 dL_isLength_159 (by decide) (fun hc96 => ?_) (fun hc96 => ?_)
                · have h97 := it_pos h93 hc96
                  exact hk78 z95 _ _ ls74 h97 G94 (lv_sub hl75 [] rfl)
                · have h98 := it_neg h93 hc96
                  refine lv_aload_n (pc := 162) X.1 X.2.1 dL_isLength_162 rfl (lv_at hl75 1 rfl) ?_
                  obtain ⟨z103, x100, e99, h101⟩ := bn2_some h98
                  refine w_callV (pc := 163) (v := x100) (B' := (B1 D κ A o (Iv z103))) (As := []) (rest := []) X G94 (rm := rm7_clearBuffer) rfl rfl (bv_clearBuffer l D κ A o (Iv z95) (Iv z103) x100 (iz_clearBuffer LS e99)) (B1.rcv G94) g_L_77 hd_yX7_clearBuffer ⟨Nat.le_of_ble_eq_true rfl, Nat.le_of_ble_eq_true rfl⟩ rfl hl75 rfl (lv_room (Nat.le_of_ble_eq_true rfl)) dL_isLength_163 ⟨Nat.le_of_ble_eq_true rfl, Nat.le_of_ble_eq_true rfl⟩ (fun H locs G102 => ?_)
                  refine lv_iload (pc := 166) X.1 X.2.1 dL_isLength_166 (lv_at hl75 0 rfl) ?_
                  refine lv_icmp_ne (pc := 168) (tgt := 175) X.1 X.2.1 dL_isLength_168 (by decide) (fun hc104 => ?_) (fun hc104 => ?_)
                  · have h105 := it_pos h101 hc104
                    exact hk78 z103 _ _ ls74 h105 G102 (lv_sub hl75 [] rfl)
                  · have h106 := it_neg h101 (fun q => q hc104)
                    refine lv_iconst (pc := 171) (v := 1) X.1 X.2.1 dL_isLength_171 (by decide) ?_
                    refine lv_goto (pc := 172) (tgt := 176) X.1 X.2.1 dL_isLength_172 (by decide) ?_
                    exact hk76 1 z103 _ _ ls74 h106 G102 (lv_sub hl75 [] rfl)
          refine lv_if_le (pc := 125) (tgt := 137) X.1 X.2.1 dL_isLength_125 (by decide) (fun hc60 => ?_) (fun hc60 => ?_)
          · have h61 := it_pos h59 hc60
            refine lv_iload (pc := 137) X.1 X.2.1 dL_isLength_137 (lv_at hl53 4 rfl) ?_
            exact hk58 x48 b50 _ _ ls54 h61 G52 (lv_sub hl53 [0, 3] rfl)
          · have h62 := it_neg h59 hc60
            refine lv_aload_n (pc := 128) X.1 X.2.1 dL_isLength_128 rfl (lv_at hl53 0 rfl) ?_
            refine lv_bipush (pc := 129) (v := 41) X.1 X.2.1 dL_isLength_129 (by decide) ?_
            obtain ⟨z67, x64, e63, h65⟩ := bn2_some h62
            refine w_callH (pc := 131) (v := x64) (B' := (B1 D κ A o (Iv z67))) (As := [.ref o, .int 41]) (rest := []) X G52 (rm := rmLn_append) rfl rfl (bn_append l D κ A o (Iv b50) (Iv z67) 41 x64 (in_append LS e63)) gL_80 hsL_append ⟨Nat.le_of_ble_eq_true rfl, Nat.le_of_ble_eq_true rfl⟩ rfl hl53 rfl (lv_room (Nat.le_of_ble_eq_true rfl)) dL_isLength_131 ⟨Nat.le_of_ble_eq_true rfl, Nat.le_of_ble_eq_true rfl⟩ (fun H locs G66 => ?_)
            refine lv_goto (pc := 134) (tgt := 139) X.1 X.2.1 dL_isLength_134 (by decide) ?_
            exact hk58 x64 z67 _ _ ls54 h65 G66 (lv_sub hl53 [0, 3] rfl)
        · have h57 := it_neg h51 hc55
          refine lv_aload_n (pc := 74) X.1 X.2.1 dL_isLength_74 rfl (lv_at hl53 0 rfl) ?_
          refine lv_iload (pc := 75) X.1 X.2.1 dL_isLength_75 (lv_at hl53 5 rfl) ?_
          obtain ⟨k118, ek118, h119⟩ := jp_some h57
          have hk118 : ∀ (x123 : Int32) (H : Heap) (locs : List Loc) (ls : Array Slot), k118 x123 = some y1 → Wo D κ A (B1 D κ A o (Iv b50)) s H locs → lv_has ls 8 [(0, .ref o), (2, .int p2), (3, .int x2), (4, .int x9), (6, .int x49)] → W p l e rmL_isLength s m [.ref o, .int p1, .int p2].toArray below meth c H locs 0 0 (MQ below (QW A (B1 D κ A o (Iv res.1)) res.2) [.ref o, .int p1, .int p2].toArray s 10 611 A) (F0 m 87 ls [.int x123, .ref o]) := by
            intro x123 H locs ls127 h124 G125 hl126
            rw [ek118] at h124
            try dsimp only at h124
            obtain ⟨z132, x129, e128, h130⟩ := bn2_some h124
            refine w_callH (pc := 87) (v := x129) (B' := (B1 D κ A o (Iv z132))) (As := [.ref o, .int x123]) (rest := []) X G125 (rm := rmLn_append) rfl rfl (bn_append l D κ A o (Iv b50) (Iv z132) x123 x129 (in_append LS e128)) gL_80 hsL_append ⟨Nat.le_of_ble_eq_true rfl, Nat.le_of_ble_eq_true rfl⟩ rfl hl126 rfl (lv_room (Nat.le_of_ble_eq_true rfl)) dL_isLength_87 ⟨Nat.le_of_ble_eq_true rfl, Nat.le_of_ble_eq_true rfl⟩ (fun H locs G131 => ?_)
            refine lv_istore (pc := 90) (lv' := [(5, .int x129), (0, .ref o), (2, .int p2), (3, .int x2), (4, .int x9), (6, .int x49)]) X.1 X.2.1 dL_isLength_90 hl126 (by decide) rfl (fun ls133 hl134 => ?_)
            refine lv_iconst (pc := 92) (v := 0) X.1 X.2.1 dL_isLength_92 (by decide) ?_
            refine lv_istore (pc := 93) (lv' := [(7, .int 0), (5, .int x129), (0, .ref o), (2, .int p2), (3, .int x2), (4, .int x9), (6, .int x49)]) X.1 X.2.1 dL_isLength_93 hl134 (by decide) rfl (fun ls135 hl136 => ?_)
            refine Loop_ind (P := fun (q : Int32 × Int32 × MS) => ∀ (H : Heap) (locs : List Loc) (ls : Array Slot), Wo D κ A (B1 D κ A o (Iv q.2.2)) s H locs → lv_has ls 8 [(0, .ref o), (2, .int p2), (3, .int x2), (4, .int x9), (5, .int q.1), (6, .int x49), (7, .int q.2.1)] → W p l e rmL_isLength s m [.ref o, .int p1, .int p2].toArray below meth c H locs 0 0 (MQ below (QW A (B1 D κ A o (Iv res.1)) res.2) [.ref o, .int p1, .int p2].toArray s 10 611 A) (F0 m 95 ls [])) ?_ h130 _ _ ls135 G131 (lv_sub hl136 [2, 3, 4, 5, 1, 6, 0] rfl)
            intro q y2 h140 ih2 hz2 H locs ls143 G141 hl142
            obtain ⟨x137, x138, b139⟩ := q
            try dsimp only at h140 ih2 G141 hl142 ⊢
            refine lv_iload (pc := 95) X.1 X.2.1 dL_isLength_95 (lv_at hl142 6 rfl) ?_
            refine lv_iload_n (pc := 97) X.1 X.2.1 dL_isLength_97 rfl (lv_at hl142 1 rfl) ?_
            refine lv_icmp_ge (pc := 98) (tgt := 118) X.1 X.2.1 dL_isLength_98 (by decide) (fun hc144 => ?_) (fun hc144 => ?_)
            · have h145 := it_pos h140 hc144
              obtain ⟨x147, ex147, h150⟩ := bd_some h145
              refine lv_iinc (pc := 118) (v := x147) (lv' := [(6, .int x147), (0, .ref o), (2, .int p2), (3, .int x2), (4, .int x9), (5, .int x137), (7, .int x138)]) X.1 X.2.1 dL_isLength_118 hl142 (k := 5) rfl (by rw [ex147]; rfl) (by decide) rfl (fun ls148 hl149 => ?_)
              refine lv_goto (pc := 121) (tgt := 68) X.1 X.2.1 dL_isLength_121 (by decide) ?_
              have h150_i := Option.some.inj h150
              have h150_i_2 := hz2 _ h150_i.symm
              exact ih1 _ h150_i_2.symm _ _ ls148 G141 (lv_sub hl149 [1, 2, 3, 4, 5, 0] rfl)
            · have h146 := it_neg h140 hc144
              refine lv_aload_n (pc := 101) X.1 X.2.1 dL_isLength_101 rfl (lv_at hl142 0 rfl) ?_
              refine lv_bipush (pc := 102) (v := 97) X.1 X.2.1 dL_isLength_102 (by decide) ?_
              refine lv_iload (pc := 104) X.1 X.2.1 dL_isLength_104 (lv_at hl142 6 rfl) ?_
              refine lv_iadd (pc := 106) X.1 X.2.1 dL_isLength_106 ?_
              obtain ⟨z155, x152, e151, h153⟩ := bn2_some h146
              refine w_callH (pc := 107) (v := x152) (B' := (B1 D κ A o (Iv z155))) (As := [.ref o, .int ((97 : Int32) + x138)]) (rest := []) X G141 (rm := rmLn_append) rfl rfl (bn_append l D κ A o (Iv b139) (Iv z155) ((97 : Int32) + x138) x152 (in_append LS e151)) gL_80 hsL_append ⟨Nat.le_of_ble_eq_true rfl, Nat.le_of_ble_eq_true rfl⟩ rfl hl142 rfl (lv_room (Nat.le_of_ble_eq_true rfl)) dL_isLength_107 ⟨Nat.le_of_ble_eq_true rfl, Nat.le_of_ble_eq_true rfl⟩ (fun H locs G154 => ?_)
              refine lv_istore (pc := 110) (lv' := [(5, .int x152), (0, .ref o), (2, .int p2), (3, .int x2), (4, .int x9), (6, .int x49), (7, .int x138)]) X.1 X.2.1 dL_isLength_110 hl142 (by decide) rfl (fun ls156 hl157 => ?_)
              obtain ⟨x158, ex158, h161⟩ := bd_some h153
              refine lv_iinc (pc := 112) (v := x158) (lv' := [(7, .int x158), (5, .int x152), (0, .ref o), (2, .int p2), (3, .int x2), (4, .int x9), (6, .int x49)]) X.1 X.2.1 dL_isLength_112 hl157 (k := 6) rfl (by rw [ex158]; rfl) (by decide) rfl (fun ls159 hl160 => ?_)
              refine lv_goto (pc := 115) (tgt := 95) X.1 X.2.1 dL_isLength_115 (by decide) ?_
              have h161_i := Option.some.inj h161
              exact ih2 _ h161_i.symm _ _ ls159 G154 (lv_sub hl160 [2, 3, 4, 5, 1, 6, 0] rfl)
          refine lv_if_ne (pc := 77) (tgt := 85) X.1 X.2.1 dL_isLength_77 (by decide) (fun hc120 => ?_) (fun hc120 => ?_)
          · have h121 := it_pos h119 hc120
            refine lv_bipush (pc := 85) (v := 44) X.1 X.2.1 dL_isLength_85 (by decide) ?_
            exact hk118 44 _ _ ls54 h121 G52 (lv_sub hl53 [0, 1, 2, 3, 5] rfl)
          · have h122 := it_neg h119 (fun q => q hc120)
            refine lv_bipush (pc := 80) (v := 40) X.1 X.2.1 dL_isLength_80 (by decide) ?_
            refine lv_goto (pc := 82) (tgt := 87) X.1 X.2.1 dL_isLength_82 (by decide) ?_
            exact hk118 40 _ _ ls54 h122 G52 (lv_sub hl53 [0, 1, 2, 3, 5] rfl)
      refine lv_if_ge (pc := 47) (tgt := 55) X.1 X.2.1 dL_isLength_47 (by decide) (fun hc30 => ?_) (fun hc30 => ?_)
      · have h31 := it_pos h29 hc30
        refine lv_aload_n (pc := 55) X.1 X.2.1 dL_isLength_55 rfl (lv_at hl14 2 rfl) ?_
        refine lv_bipush (pc := 56) (v := 65) X.1 X.2.1 dL_isLength_56 (by decide) ?_
        refine lv_iload_n (pc := 58) X.1 X.2.1 dL_isLength_58 rfl (lv_at hl14 3 rfl) ?_
        refine lv_iadd (pc := 59) X.1 X.2.1 dL_isLength_59 ?_
        obtain ⟨z37, x34, e33, h35⟩ := bn2_some h31
        refine w_callH (pc := 60) (v := x34) (B' := (B1 D κ A o (Iv z37))) (As := [.ref o, .int ((65 : Int32) + p1)]) (rest := []) X G26 (rm := rmLn_append) rfl rfl (bn_append l D κ A o (Iv z27) (Iv z37) ((65 : Int32) + p1) x34 (in_append LS e33)) gL_80 hsL_append ⟨Nat.le_of_ble_eq_true rfl, Nat.le_of_ble_eq_true rfl⟩ rfl hl14 rfl (lv_room (Nat.le_of_ble_eq_true rfl)) dL_isLength_60 ⟨Nat.le_of_ble_eq_true rfl, Nat.le_of_ble_eq_true rfl⟩ (fun H locs G36 => ?_)
        exact hk28 x34 z37 _ _ ls13 h35 G36 (lv_sub hl14 [2, 4, 1, 0] rfl)
      · have h32 := it_neg h29 hc30
        refine lv_bipush (pc := 50) (v := (-9)) X.1 X.2.1 dL_isLength_50 (by decide) ?_
        refine lv_goto (pc := 52) (tgt := 63) X.1 X.2.1 dL_isLength_52 (by decide) ?_
        exact hk28 (-9) z27 _ _ ls13 h32 G26 (lv_sub hl14 [2, 4, 1, 0] rfl)
    · have h22 := it_neg h19 hc20
      exact hk15  _ _ ls13 h22 G11 (lv_sub hl14 [1, 0] rfl)
