/-! PURE: numbers of bits -/
theorem nI_and (a b : Nat) (ha : a < 2 ^ 32) (hb : b < 2 ^ 32) : nI a &&& nI b = nI (a &&& b) := by
  apply Int32.toBitVec_inj.mp
  rw [Int32.toBitVec_and]
  show BitVec.ofNat 32 a &&& BitVec.ofNat 32 b = BitVec.ofNat 32 (a &&& b)
  apply BitVec.eq_of_toNat_eq
  rw [BitVec.toNat_and, BitVec.toNat_ofNat, BitVec.toNat_ofNat, BitVec.toNat_ofNat, Nat.mod_eq_of_lt ha, Nat.mod_eq_of_lt hb, Nat.mod_eq_of_lt (Nat.lt_of_le_of_lt Nat.and_le_left ha)]
theorem nI_or (a b : Nat) (ha : a < 2 ^ 32) (hb : b < 2 ^ 32) : nI a ||| nI b = nI (a ||| b) := by
  apply Int32.toBitVec_inj.mp
  rw [Int32.toBitVec_or]
  show BitVec.ofNat 32 a ||| BitVec.ofNat 32 b = BitVec.ofNat 32 (a ||| b)
  apply BitVec.eq_of_toNat_eq
  rw [BitVec.toNat_or, BitVec.toNat_ofNat, BitVec.toNat_ofNat, BitVec.toNat_ofNat, Nat.mod_eq_of_lt ha, Nat.mod_eq_of_lt hb, Nat.mod_eq_of_lt (Nat.or_lt_two_pow ha hb)]
theorem nI_ushr (a : Nat) (ha : a < 2 ^ 31) (k : Nat) (hk : k < 32) : ((nI a).toUInt32 >>> ((nI k).toUInt32 &&& Int32.toUInt32 31)).toInt32 = nI (a / 2 ^ k) := by
  have e1 : (nI k).toUInt32 &&& Int32.toUInt32 31 = UInt32.ofNat k := by
    have : ∀ k, k < 32 → (nI k).toUInt32 &&& Int32.toUInt32 31 = UInt32.ofNat k := by decide
    exact this k hk
  rw [e1]
  have e2 : (nI a).toUInt32 = UInt32.ofNat a := rfl
  rw [e2]
  have e3 : UInt32.ofNat a >>> UInt32.ofNat k = UInt32.ofNat (a / 2 ^ k) := by
    apply UInt32.toNat_inj.mp
    rw [UInt32.toNat_shiftRight, UInt32.toNat_ofNat', UInt32.toNat_ofNat', UInt32.toNat_ofNat', Nat.mod_eq_of_lt (show a < 2 ^ 32 by omega), Nat.mod_eq_of_lt (show k < 2 ^ 32 by omega), Nat.mod_eq_of_lt hk, Nat.shiftRight_eq_div_pow, Nat.mod_eq_of_lt (Nat.lt_of_le_of_lt (Nat.div_le_self _ _) (show a < 2 ^ 32 by omega))]
  rw [e3]; rfl
theorem nI_sub (a b : Nat) (h : b ≤ a) : nI a - nI b = nI (a - b) := by
  have : nI a = nI (a - b) + nI b := by rw [nI_add, Nat.sub_add_cancel h]
  rw [this]; exact Int32.add_sub_cancel _ _
/-- a number by its digits of four bits, lowest first -/
def ofN : List Nat → Nat
  | [] => 0
  | n :: l => 16 * ofN l + n
def rep (m : Nat) : Nat → Nat
  | 0 => 0
  | k + 1 => 16 * rep m k + m
theorem and16 (y M n m : Nat) (hn : n < 16) (hm : m < 16) : (16 * y + n) &&& (16 * M + m) = 16 * (y &&& M) + (n &&& m) := by
  have h2 : n &&& m < 2 ^ 4 := Nat.lt_of_le_of_lt Nat.and_le_left hn
  apply Nat.eq_of_testBit_eq
  intro i
  rw [Nat.testBit_and, show 16 * y + n = 2 ^ 4 * y + n from rfl, show 16 * M + m = 2 ^ 4 * M + m from rfl, show 16 * (y &&& M) + (n &&& m) = 2 ^ 4 * (y &&& M) + (n &&& m) from rfl, Nat.testBit_two_pow_mul_add _ hn, Nat.testBit_two_pow_mul_add _ hm, Nat.testBit_two_pow_mul_add _ h2]
  by_cases c : i < 4
  · rw [if_pos c, if_pos c, if_pos c, Nat.testBit_and]
  · rw [if_neg c, if_neg c, if_neg c, Nat.testBit_and]
def d1 (n : Nat) : Nat := n - (n / 2 &&& 5)
def d2 (v : Nat) : Nat := (v &&& 3) + (v / 4 &&& 3)
theorem bits1 : ∀ l : List Nat, (∀ n ∈ l, n < 16) → ofN l - (ofN l / 2 &&& rep 5 l.length) = ofN (l.map d1)
  | [], _ => rfl
  | n :: l, h => by
    have hn := h n List.mem_cons_self
    have ih := bits1 l (fun m hm => h m (List.mem_cons_of_mem _ hm))
    show 16 * ofN l + n - ((16 * ofN l + n) / 2 &&& (16 * rep 5 l.length + 5)) = 16 * ofN (l.map d1) + d1 n
    rw [← ih]
    have e1 : (16 * ofN l + n) / 2 = 16 * (ofN l / 2) + (8 * (ofN l % 2) + n / 2) := by omega
    rw [e1, and16 _ _ _ _ (by omega) (by decide)]
    have e2 : (8 * (ofN l % 2) + n / 2) &&& 5 = n / 2 &&& 5 := by
      have : ∀ e, e < 2 → ∀ n, n < 16 → (8 * e + n / 2) &&& 5 = n / 2 &&& 5 := by decide
      exact this _ (Nat.mod_lt _ (by decide)) n hn
    rw [e2]
    have h1 : (ofN l / 2 &&& rep 5 l.length) ≤ ofN l := Nat.le_trans Nat.and_le_left (Nat.div_le_self _ _)
    have h2 : (n / 2 &&& 5) ≤ n := Nat.le_trans Nat.and_le_left (Nat.div_le_self _ _)
    unfold d1
    omega
theorem bits2 : ∀ l : List Nat, (∀ n ∈ l, n < 16) → (ofN l &&& rep 3 l.length) + (ofN l / 4 &&& rep 3 l.length) = ofN (l.map d2)
  | [], _ => rfl
  | n :: l, h => by
    have hn := h n List.mem_cons_self
    have ih := bits2 l (fun m hm => h m (List.mem_cons_of_mem _ hm))
    show ((16 * ofN l + n) &&& (16 * rep 3 l.length + 3)) + ((16 * ofN l + n) / 4 &&& (16 * rep 3 l.length + 3)) = 16 * ofN (l.map d2) + d2 n
    rw [← ih]
    have e1 : (16 * ofN l + n) / 4 = 16 * (ofN l / 4) + (4 * (ofN l % 4) + n / 4) := by omega
    rw [e1, and16 _ _ _ _ hn (by decide), and16 _ _ _ _ (by omega) (by decide)]
    have e2 : (4 * (ofN l % 4) + n / 4) &&& 3 = n / 4 &&& 3 := by
      have : ∀ e, e < 4 → ∀ n, n < 16 → (4 * e + n / 4) &&& 3 = n / 4 &&& 3 := by decide
      exact this _ (Nat.mod_lt _ (by decide)) n hn
    rw [e2]
    unfold d2
    omega
theorem d12 : ∀ n, n < 16 → d1 n < 16 ∧ d2 (d1 n) ≤ 4 := by decide
theorem and15 (a : Nat) : a &&& 15 = a % 16 := Nat.and_two_pow_sub_one_eq_mod a 4
/-- the number of bits of eight digits -/
theorem bits3 (n0 n1 n2 n3 n4 n5 n6 n7 : Nat) (h0 : n0 ≤ 4) (h1 : n1 ≤ 4) (h2 : n2 ≤ 4) (h3 : n3 ≤ 4) (h4 : n4 ≤ 4) (h5 : n5 ≤ 4) (h6 : n6 ≤ 4) (h7 : n7 ≤ 4) :
    (ofN [n0, n1, n2, n3, n4, n5, n6, n7] + ofN [n0, n1, n2, n3, n4, n5, n6, n7] / 16) &&& 252645135 = (n0 + n1) + 256 * (n2 + n3) + 65536 * (n4 + n5) + 16777216 * (n6 + n7) := by
  have e : ofN [n0, n1, n2, n3, n4, n5, n6, n7] + ofN [n0, n1, n2, n3, n4, n5, n6, n7] / 16 = 16 * (16 * (16 * (16 * (16 * (16 * (16 * (n7) + (n6 + n7)) + (n5 + n6)) + (n4 + n5)) + (n3 + n4)) + (n2 + n3)) + (n1 + n2)) + (n0 + n1) := by
    unfold ofN ofN ofN ofN ofN ofN ofN ofN ofN
    omega
  rw [e, show (252645135 : Nat) = 16 * (16 * (16 * (16 * (16 * (16 * (16 * 0 + 15) + 0) + 15) + 0) + 15) + 0) + 15 by decide]
  rw [and16 _ _ _ _ (by omega) (by decide), and16 _ _ _ _ (by omega) (by decide), and16 _ _ _ _ (by omega) (by decide), and16 _ _ _ _ (by omega) (by decide), and16 _ _ _ _ (by omega) (by decide), and16 _ _ _ _ (by omega) (by decide), and16 _ _ _ _ (by omega) (by decide)]
  rw [and15, and15, and15, and15, Nat.and_zero, Nat.and_zero, Nat.and_zero, Nat.and_zero]
  omega
def p4 (n : Nat) : Nat := d2 (d1 n)
theorem bitCount_eq (n0 n1 n2 n3 n4 n5 n6 : Nat) (h0 : n0 < 16) (h1 : n1 < 16) (h2 : n2 < 16) (h3 : n3 < 16) (h4 : n4 < 16) (h5 : n5 < 16) (h6 : n6 < 16) : FJ6_bitCount (nI (ofN [n0, n1, n2, n3, n4, n5, n6, 0])) = some (nI (p4 n0 + p4 n1 + p4 n2 + p4 n3 + p4 n4 + p4 n5 + p4 n6)) := by
  have hl : ∀ n ∈ [n0, n1, n2, n3, n4, n5, n6, 0], n < 16 := by
    intro n hn
    simp only [List.mem_cons, List.not_mem_nil, or_false] at hn
    rcases hn with rfl | rfl | rfl | rfl | rfl | rfl | rfl | rfl <;> first | assumption | decide
  have hx : ofN [n0, n1, n2, n3, n4, n5, n6, 0] < 2 ^ 28 := by unfold ofN ofN ofN ofN ofN ofN ofN ofN ofN; omega
  have q1 := bits1 _ hl
  have hl2 : ∀ n ∈ [n0, n1, n2, n3, n4, n5, n6, 0].map d1, n < 16 := by
    intro n hn
    obtain ⟨m, hm, rfl⟩ := List.mem_map.mp hn
    exact (d12 m (hl m hm)).1
  have q2 := bits2 _ hl2
  generalize hX : ofN [n0, n1, n2, n3, n4, n5, n6, 0] = X at hx q1
  have hA : X / 2 &&& 1431655765 ≤ X := Nat.le_trans Nat.and_le_left (Nat.div_le_self _ _)
  have r5 : rep 5 [n0, n1, n2, n3, n4, n5, n6, 0].length = 1431655765 := by show rep 5 8 = 1431655765; decide +kernel
  have r3 : rep 3 ([n0, n1, n2, n3, n4, n5, n6, 0].map d1).length = 858993459 := by show rep 3 8 = 858993459; decide +kernel
  rw [r5] at q1
  rw [r3] at q2
  unfold FJ6_bitCount
  refine bd_go <| bd_go <| bd_go <| bd_go <| bd_go ?_
  have s1 : nI X - (((nI X).toUInt32 >>> ((1 : Int32).toUInt32 &&& Int32.toUInt32 31)).toInt32 &&& 1431655765) = nI (ofN ([n0, n1, n2, n3, n4, n5, n6, 0].map d1)) := by
    have := nI_ushr X (by omega) 1 (by decide)
    rw [show (1 : Int32) = nI 1 from rfl, this, show (1431655765 : Int32) = nI 1431655765 from rfl, nI_and _ _ (by omega) (by decide), nI_sub _ _ hA, q1]
  rw [s1]
  have hY : ofN ([n0, n1, n2, n3, n4, n5, n6, 0].map d1) < 2 ^ 28 := by rw [← q1]; omega
  generalize ofN ([n0, n1, n2, n3, n4, n5, n6, 0].map d1) = Y at q2 hY
  have s2 : (nI Y &&& 858993459) + (((nI Y).toUInt32 >>> ((2 : Int32).toUInt32 &&& Int32.toUInt32 31)).toInt32 &&& 858993459) = nI (ofN (([n0, n1, n2, n3, n4, n5, n6, 0].map d1).map d2)) := by
    have := nI_ushr Y (by omega) 2 (by decide)
    rw [show (2 : Int32) = nI 2 from rfl, this, show (858993459 : Int32) = nI 858993459 from rfl, nI_and _ _ (by omega) (by decide), nI_and _ _ (by omega) (by decide), nI_add, q2]
  rw [s2]
  have hm : ([n0, n1, n2, n3, n4, n5, n6, 0].map d1).map d2 = [p4 n0, p4 n1, p4 n2, p4 n3, p4 n4, p4 n5, p4 n6, 0] := rfl
  rw [hm]
  have b0 := (d12 n0 h0).2
  have b1 := (d12 n1 h1).2
  have b2 := (d12 n2 h2).2
  have b3 := (d12 n3 h3).2
  have b4 := (d12 n4 h4).2
  have b5 := (d12 n5 h5).2
  have b6 := (d12 n6 h6).2
  have q3 := bits3 (p4 n0) (p4 n1) (p4 n2) (p4 n3) (p4 n4) (p4 n5) (p4 n6) 0 b0 b1 b2 b3 b4 b5 b6 (by decide)
  have hW : ofN [p4 n0, p4 n1, p4 n2, p4 n3, p4 n4, p4 n5, p4 n6, 0] < 2 ^ 28 := by
    unfold ofN ofN ofN ofN ofN ofN ofN ofN ofN p4; omega
  generalize ofN [p4 n0, p4 n1, p4 n2, p4 n3, p4 n4, p4 n5, p4 n6, 0] = Wd at q3 hW
  have s3 : (nI Wd + ((nI Wd).toUInt32 >>> ((4 : Int32).toUInt32 &&& Int32.toUInt32 31)).toInt32) &&& 252645135 = nI ((p4 n0 + p4 n1) + 256 * (p4 n2 + p4 n3) + 65536 * (p4 n4 + p4 n5) + 16777216 * (p4 n6 + 0)) := by
    have := nI_ushr Wd (by omega) 4 (by decide)
    rw [show (4 : Int32) = nI 4 from rfl, this, nI_add, show (252645135 : Int32) = nI 252645135 from rfl, nI_and _ _ (by omega) (by decide), q3]
  rw [s3]
  unfold p4 at *
  generalize d2 (d1 n0) = m0 at *
  generalize d2 (d1 n1) = m1 at *
  generalize d2 (d1 n2) = m2 at *
  generalize d2 (d1 n3) = m3 at *
  generalize d2 (d1 n4) = m4 at *
  generalize d2 (d1 n5) = m5 at *
  generalize d2 (d1 n6) = m6 at *
  generalize hV : (m0 + m1) + 256 * (m2 + m3) + 65536 * (m4 + m5) + 16777216 * (m6 + 0) = V
  have s4 : nI V + ((nI V).toUInt32 >>> ((8 : Int32).toUInt32 &&& Int32.toUInt32 31)).toInt32 = nI (V + V / 256) := by
    have := nI_ushr V (by omega) 8 (by decide)
    rw [show (8 : Int32) = nI 8 from rfl, this, nI_add]
  rw [s4]
  have s5 : nI (V + V / 256) + ((nI (V + V / 256)).toUInt32 >>> ((16 : Int32).toUInt32 &&& Int32.toUInt32 31)).toInt32 = nI ((V + V / 256) + (V + V / 256) / 65536) := by
    have := nI_ushr (V + V / 256) (by omega) 16 (by decide)
    rw [show (16 : Int32) = nI 16 from rfl, this, nI_add]
  rw [s5, show (63 : Int32) = nI 63 from rfl, nI_and _ _ (by omega) (by decide)]
  have : ((V + V / 256) + (V + V / 256) / 65536) &&& 63 = ((V + V / 256) + (V + V / 256) / 65536) % 64 := Nat.and_two_pow_sub_one_eq_mod _ 6
  rw [this]
  have v1 : V / 256 = (m2 + m3) + 256 * (m4 + m5) + 65536 * m6 := by omega
  have v2 : (V + V / 256) / 65536 = (m4 + m5) + m6 + 256 * m6 := by omega
  have v3 : ((V + V / 256) + (V + V / 256) / 65536) % 64 = m0 + m1 + m2 + m3 + m4 + m5 + m6 := by
    rw [v2, v1]; omega
  rw [v3]
