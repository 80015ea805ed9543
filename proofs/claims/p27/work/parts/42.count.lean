/-! PURE: who is defined, count, meanHoles -/
def dB (D : Nat → Option Tx) (k : Nat) : Nat := if (D k).isSome = true then 1 else 0
def mkN (D : Nat → Option Tx) : Nat → Nat
  | 0 => 0
  | n + 1 => mkN D n + dB D n * 2 ^ n
def cnD (D : Nat → Option Tx) : Nat → Nat
  | 0 => 0
  | n + 1 => cnD D n + dB D n
def smD (g : Tx → Nat) (D : Nat → Option Tx) : Nat → Nat
  | 0 => 0
  | n + 1 => smD g D n + (match D n with | none => 0 | some t => g t)
theorem dB_le (D : Nat → Option Tx) (k : Nat) : dB D k ≤ 1 := by unfold dB; split <;> decide
theorem mkN_lt (D : Nat → Option Tx) (n : Nat) : mkN D n < 2 ^ n := by
  induction n with
  | zero => exact Nat.zero_lt_one
  | succ n ih =>
    have := dB_le D n
    show mkN D n + dB D n * 2 ^ n < 2 ^ (n + 1)
    rcases (show dB D n = 0 ∨ dB D n = 1 by omega) with e | e <;> rw [e, Nat.pow_succ] <;> omega
theorem one_shl (n : Nat) (h : n < 26) : (1 : Int32) <<< (nI n &&& 31) = nI (2 ^ n) := by
  have : ∀ n, n < 26 → (1 : Int32) <<< (nI n &&& 31) = nI (2 ^ n) := by decide
  exact this n h
theorem or_bit {a n : Nat} (h : a < 2 ^ n) (hn : n < 26) : nI a ||| nI (2 ^ n) = nI (a + 2 ^ n) := by
  have h2 : 2 ^ n ≤ 2 ^ 25 := Nat.pow_le_pow_right (by decide) (by omega)
  have h3 : (2 : Nat) ^ 25 = 33554432 := by decide
  rw [nI_or _ _ (by omega) (by omega)]
  have := Nat.two_pow_add_eq_or_of_lt h 1
  rw [Nat.mul_one] at this
  rw [Nat.add_comm, this, Nat.or_comm]
theorem mk_s {D : Nat → Option Tx} {n : Nat} (hn : n < 26) : (nI (mkN D n) ||| (if (D n).isSome = true then (1 : Int32) <<< (nI n &&& 31) else 0)) = nI (mkN D (n + 1)) := by
  show _ = nI (mkN D n + dB D n * 2 ^ n)
  unfold dB
  by_cases h : (D n).isSome = true
  · rw [if_pos h, if_pos h, one_shl n hn, or_bit (mkN_lt D n) hn, Nat.one_mul]
  · rw [if_neg h, if_neg h, Nat.zero_mul, Nat.add_zero]; exact Int32.or_zero
theorem F8_all_eq {z : MS} {a : AS} (hZ : ZS (z 0) a) (hW : WA a) : F8_all z = some (nI (mkN a.1 26)) := by
  unfold F8_all
  have e0 : ((0 : Int32), (0 : Int32)) = (fun j => (nI (mkN a.1 j), nI j)) 0 := rfl
  rw [e0]
  refine Loop_seq (fun j => (nI (mkN a.1 j), nI j)) 26 (fun j hj => ?_) ?_
  · refine if_no (nI_ge (b := 26) hj (by decide)) <| bn_go (F8_isDefined_eq hZ hj (fun t e => (hW.1 j t e).2)) <| jp_go ?_
    have := mk_s (D := a.1) hj
    cases e : (a.1 j).isSome
    · rw [e, if_neg (by decide)] at this
      refine if_go rfl <| bd_go <| bd_go ?_
      rw [this, nI_1]
    · rw [e, if_pos rfl] at this
      refine if_no (by decide) <| bd_go <| bd_go ?_
      rw [this, nI_1]
  · exact if_go (show (26 : Int32) ≤ nI 26 by decide) rfl
theorem F8_defined_eq {z : MS} {a : AS} (hZ : ZS (z 0) a) (hW : WA a) : F8_defined z = some (nI (cnD a.1 26)) := by
  unfold F8_defined
  have e0 : ((0 : Int32), (0 : Int32)) = (fun j => (nI (cnD a.1 j), nI j)) 0 := rfl
  rw [e0]
  refine Loop_seq (fun j => (nI (cnD a.1 j), nI j)) 26 (fun j hj => ?_) ?_
  · refine if_no (nI_ge (b := 26) hj (by decide)) <| bn_go (F8_isDefined_eq hZ hj (fun t e => (hW.1 j t e).2)) <| jp_go ?_
    have : nI (cnD a.1 (j + 1)) = nI (cnD a.1 j) + bI (a.1 j).isSome := by
      rw [nI_bI]; rfl
    cases e : (a.1 j).isSome
    · rw [e] at this
      refine if_go rfl <| bd_go <| bd_go ?_
      dsimp only
      rw [this, nI_1]; rfl
    · rw [e] at this
      refine if_no (by decide) <| bd_go <| bd_go ?_
      dsimp only
      rw [this, nI_1 j]; rfl
  · exact if_go (show (26 : Int32) ≤ nI 26 by decide) rfl
theorem F8_callsOfAll_eq {z : MS} {a : AS} (hZ : ZS (z 0) a) (hW : WA a) : F8_callsOfAll z = some (nI (smD cls a.1 26)) := by
  unfold F8_callsOfAll
  have e0 : ((0 : Int32), (0 : Int32)) = (fun j => (nI (smD cls a.1 j), nI j)) 0 := rfl
  rw [e0]
  refine Loop_seq (fun j => (nI (smD cls a.1 j), nI j)) 26 (fun j hj => ?_) ?_
  · have hs : smD cls a.1 (j + 1) = smD cls a.1 j + (match a.1 j with | none => 0 | some t => cls t) := rfl
    cases e : a.1 j with
    | none =>
      refine if_no (nI_ge (b := 26) hj (by decide)) <| bn_go (F8_callsOf_none hj (Z_none hZ hj e)) <| bd_go <| bd_go ?_
      dsimp only
      rw [hs, e, nI_1]
      exact congrArg (fun q => some (Sum.inl (q, nI (j + 1)))) (Int32.add_zero _)
    | some t =>
      refine if_no (nI_ge (b := 26) hj (by decide)) <| bn_go (F8_callsOf_eq hj (hZ.src hW hj e)) <| bd_go <| bd_go ?_
      dsimp only
      rw [hs, e, nI_1, nI_add]
  · exact if_go (show (26 : Int32) ≤ nI 26 by decide) rfl
theorem ro_go {ρ : Type} {f : Nat → Option Nat} {n k : Nat} {x : Int32} {v : Option Nat} {K : Option Nat → Option ρ} {r : Option ρ} (hx : x = nI k) (hk : k < n) (hn : n < 2 ^ 31) (hv : f k = v) (h : K v = r) : ro f n x K = r := by
  rw [ro_lit hx hk hn, hv]; exact h
theorem F5_definedSet_eq {b : BS} {i : Nat} {a : AS} (hS : SBb b i a) : F5_definedSet b i = some (nI (mkN a.1 26)) := by
  unfold F5_definedSet
  have e0 : ((0 : Int32), (0 : Int32)) = (fun j => (nI (mkN a.1 j), nI j)) 0 := rfl
  rw [e0]
  refine Loop_seq (fun j => (nI (mkN a.1 j), nI j)) 26 (fun j hj => ?_) ?_
  · have hD := hS.2.1 j hj
    have := mk_s (D := a.1) hj
    cases e : a.1 j with
    | none =>
      rw [e] at hD this
      rw [if_neg (by decide)] at this
      refine if_no (nI_ge (b := 26) hj (by decide)) <| ck_go hS.1 <| ro_go rfl hj (by decide) hD <| jp_go <| on_no rfl <| bd_go ?_
      dsimp only
      rw [← this, nI_1]
      exact congrArg (fun q => some (Sum.inl (q, nI (j + 1)))) Int32.or_zero.symm
    | some t =>
      rw [e] at hD this
      obtain ⟨x, h1, -⟩ := hD
      rw [if_pos (show (some t).isSome = true from rfl)] at this
      refine if_no (nI_ge (b := 26) hj (by decide)) <| ck_go hS.1 <| ro_go rfl hj (by decide) h1 <| jp_go <| on_so rfl <| bd_go <| bd_go ?_
      dsimp only
      rw [this, nI_1]
  · exact if_go (show (26 : Int32) ≤ nI 26 by decide) rfl
theorem sum_go {g : Tx → Nat} {D : Nat → Option Tx} (j : Nat) : smD g D (j + 1) = smD g D j + (match D j with | none => 0 | some t => g t) := rfl
theorem F5_callsOfBodies_eq {b : BS} {i : Nat} {a : AS} (hS : SBb b i a) : F5_callsOfBodies b i = some (nI (smD cls a.1 26)) := by
  unfold F5_callsOfBodies
  have e0 : ((0 : Int32), (0 : Int32)) = (fun j => (nI (smD cls a.1 j), nI j)) 0 := rfl
  rw [e0]
  refine Loop_seq (fun j => (nI (smD cls a.1 j), nI j)) 26 (fun j hj => ?_) ?_
  · have hD := hS.2.1 j hj
    have hs := sum_go (g := cls) (D := a.1) j
    cases e : a.1 j with
    | none =>
      rw [e] at hD hs
      refine if_no (nI_ge (b := 26) hj (by decide)) <| ck_go hS.1 <| ro_go rfl hj (by decide) hD <| jp_go <| on_no rfl <| bd_go ?_
      dsimp only
      rw [hs, nI_1]; rfl
    | some t =>
      rw [e] at hD hs
      obtain ⟨x, h1, h2⟩ := hD
      refine if_no (nI_ge (b := 26) hj (by decide)) <| ck_go hS.1 <| ro_go rfl hj (by decide) h1 <| jp_go <| on_so rfl <| ck_go h2.1 <| bd_go <| bd_go ?_
      dsimp only
      rw [hs, h2.2.2.2.2.1, nI_1, nI_add]
  · exact if_go (show (26 : Int32) ≤ nI 26 by decide) rfl
theorem F5_holesOfBodies_eq {b : BS} {i : Nat} {a : AS} (hS : SBb b i a) : F5_holesOfBodies b i = some (nI (smD hls a.1 26)) := by
  unfold F5_holesOfBodies
  have e0 : ((0 : Int32), (0 : Int32)) = (fun j => (nI (smD hls a.1 j), nI j)) 0 := rfl
  rw [e0]
  refine Loop_seq (fun j => (nI (smD hls a.1 j), nI j)) 26 (fun j hj => ?_) ?_
  · have hD := hS.2.1 j hj
    have hs := sum_go (g := hls) (D := a.1) j
    cases e : a.1 j with
    | none =>
      rw [e] at hD hs
      refine if_no (nI_ge (b := 26) hj (by decide)) <| ck_go hS.1 <| ro_go rfl hj (by decide) hD <| jp_go <| on_no rfl <| bd_go ?_
      dsimp only
      rw [hs, nI_1]; rfl
    | some t =>
      rw [e] at hD hs
      obtain ⟨x, h1, h2⟩ := hD
      refine if_no (nI_ge (b := 26) hj (by decide)) <| ck_go hS.1 <| ro_go rfl hj (by decide) h1 <| jp_go <| on_so rfl <| ck_go h2.1 <| bd_go <| bd_go ?_
      dsimp only
      rw [hs, h2.2.2.2.1, nI_1, nI_add]
  · exact if_go (show (26 : Int32) ≤ nI 26 by decide) rfl
/-- the mask by its digits -/
theorem p4_dig (a b c d : Nat) (ha : a ≤ 1) (hb : b ≤ 1) (hc : c ≤ 1) (hd : d ≤ 1) : p4 (a + 2 * b + 4 * c + 8 * d) = a + b + c + d := by
  rcases (show a = 0 ∨ a = 1 by omega) with rfl | rfl <;> rcases (show b = 0 ∨ b = 1 by omega) with rfl | rfl <;> rcases (show c = 0 ∨ c = 1 by omega) with rfl | rfl <;> rcases (show d = 0 ∨ d = 1 by omega) with rfl | rfl <;> decide
theorem mk_digits (D : Nat → Option Tx) : mkN D 26 = ofN [dB D 0 + 2 * dB D 1 + 4 * dB D 2 + 8 * dB D 3, dB D 4 + 2 * dB D 5 + 4 * dB D 6 + 8 * dB D 7, dB D 8 + 2 * dB D 9 + 4 * dB D 10 + 8 * dB D 11, dB D 12 + 2 * dB D 13 + 4 * dB D 14 + 8 * dB D 15, dB D 16 + 2 * dB D 17 + 4 * dB D 18 + 8 * dB D 19, dB D 20 + 2 * dB D 21 + 4 * dB D 22 + 8 * dB D 23, dB D 24 + 2 * dB D 25 + 4 * 0 + 8 * 0, 0] := by
  simp only [mkN, ofN]
  omega
theorem F5_definedCount_eq {b : BS} {i : Nat} {a : AS} (hS : SBb b i a) : F5_definedCount b i = some (nI (cnD a.1 26)) := by
  unfold F5_definedCount
  refine ck_go hS.1 <| bn_go (F5_definedSet_eq hS) <| bn_go (a := nI (cnD a.1 26)) ?_ rfl
  have h := fun k => dB_le a.1 k
  have h0 := h 0; have h1 := h 1; have h2 := h 2; have h3 := h 3; have h4 := h 4; have h5 := h 5; have h6 := h 6; have h7 := h 7; have h8 := h 8; have h9 := h 9; have h10 := h 10; have h11 := h 11; have h12 := h 12; have h13 := h 13; have h14 := h 14; have h15 := h 15; have h16 := h 16; have h17 := h 17; have h18 := h 18; have h19 := h 19; have h20 := h 20; have h21 := h 21; have h22 := h 22; have h23 := h 23; have h24 := h 24; have h25 := h 25
  rw [mk_digits, bitCount_eq _ _ _ _ _ _ _ (by omega) (by omega) (by omega) (by omega) (by omega) (by omega) (by omega)]
  rw [p4_dig _ _ _ _ h0 h1 h2 h3, p4_dig _ _ _ _ h4 h5 h6 h7, p4_dig _ _ _ _ h8 h9 h10 h11, p4_dig _ _ _ _ h12 h13 h14 h15, p4_dig _ _ _ _ h16 h17 h18 h19, p4_dig _ _ _ _ h20 h21 h22 h23, p4_dig _ _ _ _ h24 h25 (by decide) (by decide)]
  simp only [cnD]
  congr 2
  omega
theorem cnD_le (D : Nat → Option Tx) (n : Nat) : cnD D n ≤ n := by
  induction n with
  | zero => exact Nat.le_refl _
  | succ n ih => have := dB_le D n; show cnD D n + dB D n ≤ n + 1; omega
theorem hls_le (t : Tx) : hls t ≤ t.length := List.countP_le_length
theorem smD_le {a : AS} (hW : WA a) (n : Nat) : smD hls a.1 n ≤ 60 * n := by
  induction n with
  | zero => exact Nat.le_refl _
  | succ n ih =>
    rw [sum_go]
    cases e : a.1 n with
    | none => dsimp only; omega
    | some t => have h1 := hls_le t; have h2 := (hW.1 n t e).2; dsimp only; omega
theorem S_count {z : MS} {b : BS} (h : Inv z b) (x : Int32) : okT Inv (F7_count b x) (F8_count z x) [2] := by
  obtain ⟨t, a, p, s, ⟨hb1, hb2, -, hb4, -⟩, hW, hZ, hS, hP, -⟩ := id h
  by_cases hx : inB x 0 7 = true
  · have hZr : ZS (rfs z 0 0) a := hZ.rfs 0
    have pre : ∀ r, (if x = 0 then
        bn (F8_defined (rfs z 0)) fun x8 =>
        some (rfs z 0, x8)
        else if x = 1 then
        bn (F8_all (rfs z 0)) fun x9 =>
        some (rfs z 0, x9)
        else if x = 2 then
        rd (rfs z 0 0) 2153 (1586 : Int32) fun x10 =>
        some (rfs z 0, x10)
        else if x = 3 then
        rd (rfs z 0 0) 2153 (1790 : Int32) fun x11 =>
        some (rfs z 0, x11)
        else if x = 4 then
        rd (rfs z 0 0) 2153 (1791 : Int32) fun x12 =>
        some (rfs z 0, x12)
        else if x = 5 then
        bn (F8_callsOfAll (rfs z 0)) fun x13 =>
        some (rfs z 0, x13)
        else if x = 6 then
        some (rfs z 0, rfs z 0 43 2)
        else some (rfs z 0, rfs z 0 43 6)) = r → F8_count z x = r := by
      intro r hr
      unfold F8_count
      exact bn_go (F8_in_eq _ _ _) <| jp_go <| if_no (by rw [hx]; decide) <| bn2_go (F8_refused0 z) <| if_go rfl hr
    have pre7 : ∀ r, (if x = 0 then
        bn (F5_definedCount b 70) fun x25 =>
        some (b, .inr x25)
        else if x = 1 then
        bn (F5_definedSet b 70) fun x28 =>
        some (b, .inr x28)
        else if x = 2 then
        some (b, .inr (b.1 70 2))
        else if x = 3 then
        some (b, .inr (b.1 70 3))
        else if x = 4 then
        some (b, .inr (b.1 70 4))
        else if x = 5 then
        bn (F5_callsOfBodies b 70) fun x31 =>
        some (b, .inr x31)
        else if x = 6 then
        some (b, .inr (b.1 63 3))
        else some (b, .inr (b.1 50 6))) = r → F7_count b x = r := by
      intro r hr
      unfold F7_count
      exact bx_in (requireWhat_ok hx) hr
    have e6 : rfs z 0 43 2 = b.1 63 3 := by rw [rfs_ne _ _ (by decide), hP.2.1, hP.2.2.1]
    have e7 : rfs z 0 43 6 = b.1 50 6 := by rw [rfs_ne _ _ (by decide), hb2, hb4]
    rcases i7 0 x hx with rfl | rfl | rfl | rfl | rfl | rfl | rfl | rfl
    · exact okT_mk (pre7 _ <| if_go rfl <| bn_go (F5_definedCount_eq hS) rfl) (pre _ <| if_go rfl <| bn_go (F8_defined_eq hZr hW) rfl) (rfs7 _ _) (h.rfs 0)
    · exact okT_mk (pre7 _ <| if_no (by decide) <| if_go rfl <| bn_go (F5_definedSet_eq hS) rfl) (pre _ <| if_no (by decide) <| if_go rfl <| bn_go (F8_all_eq hZr hW) rfl) (rfs7 _ _) (h.rfs 0)
    · exact okT_mk (pre7 _ <| if_no (by decide) <| if_no (by decide) <| if_go rfl rfl) (pre _ <| if_no (by decide) <| if_no (by decide) <| if_go rfl <| rd_go (k := 1586) rfl (by omega) (by decide) (hZr.2.2.1.trans hS.2.2.2.1.symm) rfl) (rfs7 _ _) (h.rfs 0)
    · exact okT_mk (pre7 _ <| if_no (by decide) <| if_no (by decide) <| if_no (by decide) <| if_go rfl rfl) (pre _ <| if_no (by decide) <| if_no (by decide) <| if_no (by decide) <| if_go rfl <| rd_go (k := 1790) rfl (by omega) (by decide) (hZr.2.2.2.2.2.2.2.1.trans hS.2.2.2.2.1.symm) rfl) (rfs7 _ _) (h.rfs 0)
    · exact okT_mk (pre7 _ <| if_no (by decide) <| if_no (by decide) <| if_no (by decide) <| if_no (by decide) <| if_go rfl rfl) (pre _ <| if_no (by decide) <| if_no (by decide) <| if_no (by decide) <| if_no (by decide) <| if_go rfl <| rd_go (k := 1791) rfl (by omega) (by decide) (hZr.2.2.2.2.2.2.2.2.1.trans hS.2.2.2.2.2.symm) rfl) (rfs7 _ _) (h.rfs 0)
    · exact okT_mk (pre7 _ <| if_no (by decide) <| if_no (by decide) <| if_no (by decide) <| if_no (by decide) <| if_no (by decide) <| if_go rfl <| bn_go (F5_callsOfBodies_eq hS) rfl) (pre _ <| if_no (by decide) <| if_no (by decide) <| if_no (by decide) <| if_no (by decide) <| if_no (by decide) <| if_go rfl <| bn_go (F8_callsOfAll_eq hZr hW) rfl) (rfs7 _ _) (h.rfs 0)
    · exact okT_mk (pre7 _ <| if_no (by decide) <| if_no (by decide) <| if_no (by decide) <| if_no (by decide) <| if_no (by decide) <| if_no (by decide) <| if_go rfl rfl) (pre _ <| if_no (by decide) <| if_no (by decide) <| if_no (by decide) <| if_no (by decide) <| if_no (by decide) <| if_no (by decide) <| if_go rfl (by rw [e6])) (rfs7 _ _) (h.rfs 0)
    · exact okT_mk (pre7 _ <| if_no (by decide) <| if_no (by decide) <| if_no (by decide) <| if_no (by decide) <| if_no (by decide) <| if_no (by decide) <| if_no (by decide) rfl) (pre _ <| if_no (by decide) <| if_no (by decide) <| if_no (by decide) <| if_no (by decide) <| if_no (by decide) <| if_no (by decide) <| if_no (by decide) (by rw [e7])) (rfs7 _ _) (h.rfs 0)
  · have hx' : inB x 0 7 = false := by simpa using hx
    refine okT_x (b' := b) (k := 2) (z' := rfs z 1) (v := 0) ?_ ?_ (by decide) (rfs7 _ _) (h.rfs 1)
    · unfold F7_count
      exact bx_out (requireWhat_no hx') rfl
    · unfold F8_count
      exact bn_go (F8_in_eq _ _ _) <| jp_go <| if_go (by rw [hx']; decide) <| bn2_go (F8_refusedP z 1 (by decide)) <| if_no (by decide) rfl
theorem S_meanHoles {z : MS} {b : BS} (h : Inv z b) : okD Inv b (F7_meanHoles b) (F8_meanHoles z) := by
  obtain ⟨t, a, p, s, -, hW, hZ, hS, -⟩ := id h
  have hZr : ZS (rfs z 0 0) a := hZ.rfs 0
  have hc26 := cnD_le a.1 26
  have hh := smD_le hW 26
  have hdv : ¬ cnD a.1 26 = 0 → dvok (nI (smD hls a.1 26)) (nI (cnD a.1 26)) := fun q => ⟨smD hls a.1 26, cnD a.1 26 - 1, by omega, by omega, rfl, by congr 1; omega⟩
  obtain ⟨v, hv⟩ : ∃ v, v = (if cnD a.1 26 = 0 then FP.dconst0 else FP.ddiv (FP.i2d (nI (smD hls a.1 26))) (FP.i2d (nI (cnD a.1 26)))) := ⟨_, rfl⟩
  refine ⟨rfs z 0, v, ?_, ?_, h.rfs 0⟩
  · unfold F7_meanHoles
    refine bn_go (F5_definedCount_eq hS) ?_
    by_cases q : cnD a.1 26 = 0
    · rw [if_pos q] at hv
      rw [hv]
      exact if_no (by rw [q]; decide) rfl
    · rw [if_neg q] at hv
      refine if_go (nI_ne0 (by omega) (by omega)) <| bn_go (F5_holesOfBodies_eq hS) ?_
      rw [pr_in (hdv q), hv]
  · unfold F8_meanHoles
    refine bd_go ?_
    have e0 : ((0 : Int32), (0 : Int32)) = (fun j => (nI (smD hls a.1 j), nI j)) 0 := rfl
    rw [e0]
    refine Loop_seq (fun j => (nI (smD hls a.1 j), nI j)) 26 (fun j hj => ?_) ?_
    · have hs := sum_go (g := hls) (D := a.1) j
      cases e : a.1 j with
      | none =>
        rw [e] at hs
        have hd := F8_isDefined_eq hZr hj (fun t e => (hW.1 j t e).2)
        rw [e] at hd
        refine if_no (nI_ge (b := 26) hj (by decide)) <| bn_go hd <| jp_go <| if_go rfl <| bd_go <| bd_go ?_
        dsimp only
        rw [hs, nI_1]
        exact congrArg (fun q => some (Sum.inl (q, nI (j + 1)))) (Int32.add_zero _)
      | some t =>
        rw [e] at hs
        have hd := F8_isDefined_eq hZr hj (fun t e => (hW.1 j t e).2)
        rw [e] at hd
        have h0 : rfs z 0 0 j = nI t.length := by have q := hZr.1 j hj; rw [e] at q; exact q
        refine if_no (nI_ge (b := 26) hj (by decide)) <| bn_go hd <| jp_go <| if_no (by rw [show (some t).isSome = true from rfl]; decide) <| rd_go rfl (by omega) (by decide) h0 <| bn_go (F8_holesOf_eq (hZr.src hW hj e) (Nat.le_refl _)) <| bd_go <| bd_go ?_
        dsimp only
        rw [hs, nI_1, nI_add, List.take_length]
    · refine if_go (show (26 : Int32) ≤ nI 26 by decide) <| bn_go (F8_defined_eq hZr hW) <| jp_go ?_
      by_cases q : cnD a.1 26 = 0
      · rw [if_pos q] at hv
        rw [hv]
        exact if_no (by rw [q]; decide) rfl
      · rw [if_neg q] at hv
        refine if_go (nI_ne0 (by omega) (by omega)) <| bn_go (F8_defined_eq hZr hW) ?_
        rw [pr_in (hdv q), hv]; rfl
