/-! PURE: the law's makers come to their ends -/
theorem exL {σ ρ : Type} {Q : σ → Prop} {x y : Option (σ ⊕ ρ)} (h : x = y) (g : ∃ s', y = some (.inl s') ∧ Q s') : ∃ s', x = some (.inl s') ∧ Q s' := by rw [h]; exact g
theorem exR {σ ρ : Type} {Q : ρ → Prop} {x y : Option (σ ⊕ ρ)} (h : x = y) (g : ∃ s', y = some (.inr s') ∧ Q s') : ∃ s', x = some (.inr s') ∧ Q s' := by rw [h]; exact g
theorem and31 (x : Int32) : ∃ m, m < 32 ∧ x &&& 31 = nI m := by
  refine ⟨x.toBitVec.toNat % 32, Nat.mod_lt _ (by decide), ?_⟩
  apply Int32.toBitVec_inj.mp
  rw [Int32.toBitVec_and]
  show x.toBitVec &&& 31#32 = BitVec.ofNat 32 (x.toBitVec.toNat % 32)
  apply BitVec.eq_of_toNat_eq
  rw [BitVec.toNat_and, BitVec.toNat_ofNat]
  show x.toBitVec.toNat &&& 2 ^ 5 - 1 = _
  rw [Nat.and_two_pow_sub_one_eq_mod, BitVec.toNat_ofNat]
  have : x.toBitVec.toNat % 32 < 32 := Nat.mod_lt _ (by decide)
  omega
theorem nI_quo {m d : Nat} (hm : m < 2 ^ 31) (hd : d < 2 ^ 31) : nI m / nI d = nI (m / d) := by
  obtain ⟨q, hq⟩ : ∃ q, q = m / d := ⟨_, rfl⟩
  have hqm : q ≤ m := by rw [hq]; exact Nat.div_le_self _ _
  have ht : ((m : Int)).tdiv d = (q : Int) := by rw [hq, Int.tdiv_eq_ediv_of_nonneg (by omega)]; exact (Int.natCast_ediv m d).symm
  rw [← hq]
  apply Int32.toInt_inj.mp
  rw [nI_toInt (show q < 2 ^ 31 by omega), Int32.toInt_div, nI_toInt hm, nI_toInt hd, ht]
  clear ht hq
  apply Int.bmod_eq_of_le <;> omega
theorem nI_rem {m d : Nat} (hm : m < 2 ^ 31) (hd : d < 2 ^ 31) : nI m - nI m / nI d * nI d = nI (m % d) := by
  rw [nI_quo hm hd, nI_mul, nI_sub _ _ (Nat.div_mul_le_self m d)]
  congr 1
  have := Nat.div_add_mod m d
  have e : d * (m / d) = m / d * d := Nat.mul_comm _ _
  omega
theorem nw_go {x : Option (MS × Int32)} {z' : MS} {v : Int32} (h : x = some (z', v)) (h7 : z' 43 7 = 0) : nw x = some (z', v) := by
  rw [h]
  show (if z' 43 7 = 0 then some (z', v) else none) = _
  rw [if_pos h7]
theorem gz_go {x : Option (MS × Int32)} {z' : MS} {v c1 c2 : Int32} (h : x = some (z', v)) (h7 : z' 43 7 = 0) : gz c1 c2 x = some (z', v) := by
  rw [h]
  show some (z', if z' 43 7 = 0 then v else _) = _
  rw [if_pos h7]
/-- some book has the ghost z, and n characters in its buffer -/
def LnZ (n : Nat) (z : MS) : Prop := ∃ (b : BS) (t : Tx) (a : AS) (p : List AS) (s : Nat → Option AS), InvD t a p s z b ∧ t.length = n
theorem LnZ.of {z : MS} {b : BS} (h : Inv z b) : ∃ n, LnZ n z := by
  obtain ⟨t, a, p, s, hI⟩ := h
  exact ⟨t.length, b, t, a, p, s, hI, rfl⟩
theorem LnZ.inv {n : Nat} {z : MS} (h : LnZ n z) : ∃ b, Inv z b := by
  obtain ⟨b, t, a, p, s, hI, -⟩ := h
  exact ⟨b, t, a, p, s, hI⟩
theorem ap_tot {n : Nat} {z : MS} (h : LnZ n z) (hn : n < 60) {c : Int32} (hc : inB c 33 126 = true) : ∃ z', nw (F8_append z c) = some (z', nI (n + 1)) ∧ LnZ (n + 1) z' := by
  obtain ⟨b, t, a, p, s, hI, rfl⟩ := h
  obtain ⟨z', b', -, e8, h7, hI'⟩ := X_append hI hc hn
  exact ⟨z', nw_go e8 h7, b', _, a, p, s, hI', by rw [List.length_append]; rfl⟩
theorem cl_tot {n : Nat} {z : MS} (h : LnZ n z) : ∃ z', F8_clearBuffer z = some (z', nI n) ∧ LnZ 0 z' ∧ n ≤ 60 := by
  obtain ⟨b, t, a, p, s, hI, rfl⟩ := h
  obtain ⟨z', b', -, e8, hI'⟩ := X_clear hI
  exact ⟨z', e8, ⟨b', [], a, p, s, hI', rfl⟩, hI.1.1⟩
theorem cap_ok : ∀ m, m < 32 → inB ((65 : Int32) + (nI m - nI m / 6 * 6)) 33 126 = true := by decide
theorem low_ok : ∀ m, m < 4 → inB ((97 : Int32) + nI m) 33 126 = true := by decide
set_option maxHeartbeats 4000000 in
set_option maxRecDepth 100000 in
theorem typed_tot {n0 : Nat} {z : MS} (h : LnZ n0 z) (y : Int32) : ∃ r, FL_typed z y = some r ∧ ∃ n, LnZ n r.1 := by
  obtain ⟨z1, e1, h1, hn0⟩ := cl_tot h
  unfold FL_typed
  refine ex_go (bn2_go e1 <| jp_go <| if_go (nI_pos' (by omega)) rfl) ?_
  refine Loop_inv (fun k q => q.2.2.2.1 = nI k ∧ ∃ n op, q.1 = nI n ∧ q.2.1 = nI op ∧ n ≤ 2 * k ∧ op ≤ k ∧ LnZ n q.2.2.2.2) 9 _ ?_ ?_ _ ⟨rfl, 0, 0, rfl, rfl, Nat.le_refl _, Nat.le_refl _, h1⟩
  · rintro k ⟨x24, x25, x26, x27, zz⟩ hk ⟨rfl, n, op, rfl, rfl, hn, hop, hz⟩
    dsimp only at hz ⊢
    obtain ⟨m, hm, em⟩ := and31 (y >>> (((3 : Int32) * nI k) &&& 31))
    refine exL (jp_go <| if_no (nI_ge (b := 9) hk (by decide)) <| if_no (nI_pos (by omega)) <| bd_go <| jp_go rfl) ?_
    rw [em]
    by_cases m8 : 8 ≤ m
    · refine exL (if_go (nI_le m8 (by omega)) rfl) ?_
      by_cases m16 : 16 ≤ m
      · refine exL (if_go (nI_le m16 (by omega)) rfl) ?_
        by_cases m24 : 24 ≤ m
        · refine exL (if_go (nI_le m24 (by omega)) <| jp_go rfl) ?_
          -- what closes a call, or nothing
          have close : ∀ K : Option ((Int32 × Int32 × Int32 × Int32 × MS) ⊕ (MS × Int32)), K = (if nI op ≤ 0 then bd (nI k + 1) fun x153 => some (.inl (nI n, nI op, x26, x153, zz)) else bn2 (nw (F8_append zz 41)) fun z89 x86 => bd (nI op + (-1)) fun x92 => bd (nI k + 1) fun x153 => some (.inl (x86, x92, 6, x153, z89))) → ∃ s', K = some (.inl s') ∧ (s'.2.2.2.1 = nI (k + 1) ∧ ∃ n op, s'.1 = nI n ∧ s'.2.1 = nI op ∧ n ≤ 2 * (k + 1) ∧ op ≤ k + 1 ∧ LnZ n s'.2.2.2.2) := by
            rintro K rfl
            by_cases c : op = 0
            · refine ⟨_, if_go (by rw [c]; decide) <| bd_go rfl, nI_1 k, n, op, rfl, rfl, by omega, by omega, hz⟩
            · obtain ⟨o', rfl⟩ : ∃ o', op = o' + 1 := ⟨op - 1, by omega⟩
              obtain ⟨z2, e2, h2⟩ := ap_tot hz (by omega) (c := 41) (by decide)
              exact ⟨_, if_no (nI_nle (by omega) (by omega)) <| bn2_go e2 <| bd_go <| bd_go rfl, nI_1 k, n + 1, o', rfl, nI_m1 o', by omega, by omega, h2⟩
          by_cases m28 : 28 ≤ m
          · exact exL (if_go (nI_le m28 (by omega)) rfl) (close _ rfl)
          · refine exL (if_no (nI_ge (b := 28) (by omega) (by decide)) rfl) ?_
            by_cases c : op = 0
            · exact exL (if_go (by rw [c]; decide) rfl) (close _ rfl)
            · refine exL (if_no (nI_nle (by omega) (by omega)) rfl) ?_
              by_cases c6 : (6 : Int32) ≤ x26
              · exact exL (if_go c6 rfl) (close _ rfl)
              · obtain ⟨z2, e2, h2⟩ := ap_tot hz (by omega) (c := 44) (by decide)
                exact ⟨_, if_no c6 <| bn2_go e2 <| bd_go <| bd_go rfl, nI_1 k, n + 1, op, rfl, rfl, by omega, by omega, h2⟩
        · obtain ⟨z2, e2, h2⟩ := ap_tot hz (by omega) (cap_ok m hm)
          obtain ⟨z3, e3, h3⟩ := ap_tot h2 (by omega) (c := 40) (by decide)
          exact ⟨_, if_no (nI_ge (b := 24) (by omega) (by decide)) <| bn2_go e2 <| bn2_go e3 <| bd_go <| bd_go rfl, nI_1 k, n + 1 + 1, op + 1, rfl, nI_1 op, by omega, by omega, h3⟩
      · obtain ⟨z2, e2, h2⟩ := ap_tot hz (by omega) (cap_ok m hm)
        exact ⟨_, if_no (nI_ge (b := 16) (by omega) (by decide)) <| bn2_go e2 <| bd_go rfl, nI_1 k, n + 1, op, rfl, rfl, by omega, by omega, h2⟩
    · refine exL (if_no (nI_ge (b := 8) (by omega) (by decide)) <| jp_go rfl) ?_
      have put : ∀ (c : Int32), inB c 33 126 = true → ∀ K : Option ((Int32 × Int32 × Int32 × Int32 × MS) ⊕ (MS × Int32)), K = (bn2 (nw (F8_append zz c)) fun z142 x139 => bd (nI k + 1) fun x153 => some (.inl (x139, nI op, x26, x153, z142))) → ∃ s', K = some (.inl s') ∧ (s'.2.2.2.1 = nI (k + 1) ∧ ∃ n op, s'.1 = nI n ∧ s'.2.1 = nI op ∧ n ≤ 2 * (k + 1) ∧ op ≤ k + 1 ∧ LnZ n s'.2.2.2.2) := by
        rintro c hc K rfl
        obtain ⟨z2, e2, h2⟩ := ap_tot hz (by omega) hc
        exact ⟨_, bn2_go e2 <| bd_go rfl, nI_1 k, n + 1, op, rfl, rfl, by omega, by omega, h2⟩
      by_cases m4 : 4 ≤ m
      · refine exL (if_go (nI_le m4 (by omega)) rfl) ?_
        by_cases m6 : 6 ≤ m
        · exact exL (if_go (nI_le m6 (by omega)) rfl) (put 95 (by decide) _ rfl)
        · exact exL (if_no (nI_ge (b := 6) (by omega) (by decide)) rfl) (put 63 (by decide) _ rfl)
      · exact exL (if_no (nI_ge (b := 4) (by omega) (by decide)) rfl) (put _ (low_ok m (by omega)) _ rfl)
  · rintro ⟨x24, x25, x26, x27, zz⟩ ⟨rfl, n, op, rfl, rfl, hn, hop, hz⟩
    dsimp only at hz ⊢
    refine ex_ir (jp_go <| if_go (show (9 : Int32) ≤ nI 9 by decide) rfl) ?_
    refine Loop_inv (fun j q => q.2.1 = nI (op - j) ∧ q.1 = nI (n + j) ∧ LnZ (n + j) q.2.2) op _ ?_ ?_ _ ⟨rfl, rfl, hz⟩
    · rintro j ⟨x, y, w⟩ hj ⟨rfl, rfl, hw⟩
      obtain ⟨z2, e2, h2⟩ := ap_tot hw (by omega) (c := 41) (by decide)
      refine ⟨_, jp_go <| if_no (nI_nle (by omega) (by omega)) <| if_no (nI_pos (by omega)) <| bn2_go e2 <| bd_go rfl, ?_, rfl, h2⟩
      obtain ⟨q, hq⟩ : ∃ q, op - j = q + 1 := ⟨op - j - 1, by omega⟩
      show nI (op - j) + (-1) = nI (op - (j + 1))
      rw [hq, nI_m1]
      congr 1
      omega
    · rintro ⟨x, y, w⟩ ⟨rfl, rfl, hw⟩
      refine ⟨_, jp_go <| if_go (by show nI (op - op) ≤ 0; rw [Nat.sub_self]; decide) <| jp_go rfl, _, rfl, n + op, hw⟩
theorem Inv_S : LawS Inv := fun _ _ h => ⟨S_define h, S_remove h, fun _ _ hp => S_exchange h _ _ hp.1 hp.2, S_set h, S_expand h, S_append h, S_clearBuffer h, S_undo h, S_keep h, S_goBack h, S_body h, S_lengthOf h⟩
set_option maxHeartbeats 4000000 in
theorem acts_tot {z : MS} {b : BS} (h : Inv z b) {c : Nat} (hc : c < 2 ^ 31) : ∃ r, FL_acts z (nI c) = some r ∧ ∃ b', Inv r.1 b' := by
  obtain ⟨n0, hn0⟩ := LnZ.of h
  obtain ⟨y, hy⟩ : ∃ y, y = c / 16 := ⟨_, rfl⟩
  have hy31 : y < 2 ^ 31 := by omega
  have ey : nI c / 16 = nI y := by rw [hy]; exact nI_quo (d := 16) hc (by decide)
  have ec : nI c - nI c / 16 * 16 = nI (c % 16) := nI_rem (d := 16) hc (by decide)
  have e6 : nI y - nI y / 6 * 6 = nI (y % 6) := nI_rem (d := 6) hy31 (by decide)
  have e66 : nI y / 6 - nI y / 6 / 6 * 6 = nI (y / 6 % 6) := by
    have e := nI_quo (m := y) (d := 6) hy31 (by decide)
    have e' : nI y / 6 = nI (y / 6) := e
    rw [e']
    exact nI_rem (d := 6) (by omega) (by decide)
  have n25 : ∀ q, q < 6 → nI q ≠ 25 := by decide
  unfold FL_acts
  refine ex_go (bd_go <| jp_go rfl) ?_
  rw [ec, ey, e6, e66]
  have one : ∀ (F : Option (MS × Int32)), (∃ z' v b', F = some (z', v) ∧ Inv z' b') → ∃ r, (bn2 F fun z34 x31 => some (z34, x31)) = some r ∧ ∃ b', Inv r.1 b' := by
    rintro F ⟨z', v, b', rfl, hI⟩
    exact ⟨_, rfl, b', hI⟩
  have mak : ∃ r, (bn2 (FL_typed z (nI y)) fun z91 x88 => jp (fun (x104 : Int32) (b105 : MS) => some (b105, x104)) fun k94 => if (0 : Int32) ≤ x88 then pr (nI (y % 6) ≠ 25) <| bn2 (gz (-3) (-2) (F8_define z91 (nI (y % 6)))) fun z103 x100 => k94 x100 z103 else k94 (-9) z91) = some r ∧ ∃ b', Inv r.1 b' := by
    obtain ⟨⟨z1, v1⟩, e1, n, h1⟩ := typed_tot hn0 (nI y)
    obtain ⟨b1, hb1⟩ := h1.inv
    by_cases q : (0 : Int32) ≤ v1
    · obtain ⟨z', v, b', e2, h2⟩ := gz_tot (c1 := -3) (c2 := -2) (S_define hb1 (nI (y % 6)) (n25 _ (Nat.mod_lt _ (by decide))))
      exact ⟨_, bn2_go e1 <| jp_go <| if_go q <| (pr_in (n25 _ (Nat.mod_lt _ (by decide)))).trans <| bn2_go e2 rfl, b', h2⟩
    · exact ⟨_, bn2_go e1 <| jp_go <| if_no q rfl, b1, hb1⟩
  have exp : ∃ r, (bn2 (FL_typed z (nI y)) fun z64 x61 => jp (fun (x77 : Int32) (b78 : MS) => some (b78, x77)) fun k67 => if (0 : Int32) ≤ x61 then bn2 (gz (-2) 0 (F8_expand z64)) fun z76 x73 => k67 x73 z76 else k67 (-9) z64) = some r ∧ ∃ b', Inv r.1 b' := by
    obtain ⟨⟨z1, v1⟩, e1, n, h1⟩ := typed_tot hn0 (nI y)
    obtain ⟨b1, hb1⟩ := h1.inv
    by_cases q : (0 : Int32) ≤ v1
    · obtain ⟨z', v, b', e2, h2⟩ := gz_tot (c1 := -2) (c2 := 0) (S_expand hb1)
      exact ⟨_, bn2_go e1 <| jp_go <| if_go q <| bn2_go e2 rfl, b', h2⟩
    · exact ⟨_, bn2_go e1 <| jp_go <| if_no q rfl, b1, hb1⟩
  have lt16 : c % 16 < 16 := Nat.mod_lt _ (by decide)
  generalize c % 16 = m at lt16
  have ne : ∀ i, i < 16 → m ≠ i → ¬ nI m = nI i := fun i hi q w => q ((nI_eq (by omega) (by omega)).mp w)
  by_cases c0 : m = 0
  · exact ex_go (if_go (by rw [c0]; rfl) rfl) (one _ (gz_tot (S_remove h _)))
  refine ex_go (if_no (ne 0 (by decide) c0) rfl) ?_
  by_cases c1 : m = 1
  · refine ex_go (if_go (by rw [c1]; rfl) <| (pr_in ⟨n25 _ (Nat.mod_lt _ (by decide)), n25 _ (Nat.mod_lt _ (by decide))⟩).trans rfl) (one _ (gz_tot (S_exchange h _ _ (n25 _ (Nat.mod_lt _ (by decide))) (n25 _ (Nat.mod_lt _ (by decide))))))
  refine ex_go (if_no (ne 1 (by decide) c1) rfl) ?_
  by_cases c2 : m = 2
  · exact ex_go (if_go (by rw [c2]; rfl) rfl) (one _ (gz_tot (S_set h _)))
  refine ex_go (if_no (ne 2 (by decide) c2) rfl) ?_
  by_cases c3 : m = 3
  · exact ex_go (if_go (by rw [c3]; rfl) rfl) (one _ (gz_tot (S_undo h)))
  refine ex_go (if_no (ne 3 (by decide) c3) rfl) ?_
  by_cases c4 : m = 4
  · exact ex_go (if_go (by rw [c4]; rfl) rfl) (one _ (gz_tot (S_keep h _)))
  refine ex_go (if_no (ne 4 (by decide) c4) rfl) ?_
  by_cases c5 : m = 5
  · exact ex_go (if_go (by rw [c5]; rfl) rfl) (one _ (gz_tot (S_goBack h _)))
  refine ex_go (if_no (ne 5 (by decide) c5) rfl) ?_
  by_cases c6 : m = 6
  · exact ex_go (if_go (by rw [c6]; rfl) rfl) mak
  refine ex_go (if_no (ne 6 (by decide) c6) rfl) ?_
  by_cases c7 : m = 7
  · exact ex_go (if_go (by rw [c7]; rfl) rfl) mak
  refine ex_go (if_no (ne 7 (by decide) c7) rfl) ?_
  by_cases c8 : m = 8
  · exact ex_go (if_go (by rw [c8]; rfl) rfl) mak
  refine ex_go (if_no (ne 8 (by decide) c8) rfl) ?_
  by_cases c9 : m = 9
  · exact ex_go (if_go (by rw [c9]; rfl) rfl) mak
  refine ex_go (if_no (ne 9 (by decide) c9) rfl) ?_
  by_cases c10 : m = 10
  · exact ex_go (if_go (by rw [c10]; rfl) rfl) mak
  exact ex_go (if_no (ne 10 (by decide) c10) rfl) exp
