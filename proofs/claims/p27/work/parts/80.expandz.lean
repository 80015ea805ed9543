/-! PURE: expand, in the reference -/
abbrev RX (a : AS) (L : Nat) (t : Tx) : Tx × Gl := evF a.1 L 14 [] (fun _ => [63]) t G00
theorem measureZ_ok {z : MS} {a : AS} {t : Tx} {L : Nat} (hW : WA a) (hL : a.2.2.1 = nI L) (hL12 : L ≤ 12) (hZ : ZS (z 0) a) (hl : t.length ≤ 60) (h6 : z 43 6 = nI t.length) (h5 : hold (z 5) t) (hC : Cpl t) :
    ∃ z10 z12, F8_begins z 26 = some z10 ∧ SmZ z z12 ∧ z12 43 7 = z 43 7 ∧ F8_measures z10 = some (z12, bI (!(RX a L t).2.2.2.2)) ∧ ((RX a L t).2.2.2.2 = false → GZ z12 (RX a L t).2) := by
  obtain ⟨z10, e10, r10, b10, b11, b12, b23, b18, b22, b24, b25, b26, b28, b17, bk⟩ := begins_ok z 26
  have zu : ∀ u, u < 10 → z10 u = z u := fun u hu => r10 u (by omega) (by omega) (by omega) (by omega) (by omega)
  have hZ10 : ZS (z10 0) a := by rw [zu 0 (by decide)]; exact hZ
  have hs : SrcZ z10 26 t := ⟨hl, Or.inl ⟨rfl, by rw [bk 6 (by decide)]; exact h6, by rw [zu 5 (by decide)]; exact h5⟩⟩
  have hG : GZ z10 G00 := ⟨b25, b26, b28, hold_nil _, rfl, Nat.zero_le _, Nat.zero_le _, Nat.zero_le _⟩
  obtain ⟨m1, m2⟩ := MT_all hW hL hL12 14 [] (fun _ => [63]) t z10 0 0 G00 hZ10 trivial hs b10 (Or.inr b17) rfl (Nat.zero_le _) hC (Or.inl ⟨rfl, rfl⟩) b18 b22 b24 hG rfl b11 b12 b23 (by decide) (Nat.zero_le _)
  have sm10 : SmZ z z10 := ⟨zu 0 (by decide), zu 1 (by decide), zu 3 (by decide), zu 4 (by decide), zu 5 (by decide), bk 2 (by decide), bk 6 (by decide)⟩
  cases c : (RX a L t).2.2.2.2 with
  | true =>
    obtain ⟨z', p1, p2⟩ := m1 (Or.inl c)
    exact ⟨z10, z', e10, sm10.tr p2.smz, (p2.2 7 (by omega)).trans (bk 7 (by decide)), measures_of p1, fun q => by cases q⟩
  | false =>
    have hlen : (RX a L t).1.length ≤ 200 := evF_len c
    have hn : ¬ FL (RX a L t) 0 := by
      rintro (q | q)
      · rw [c] at q; cases q
      · omega
    obtain ⟨z3, p1, p2, p3, p4, p5, p6, p7, p8, p9⟩ := m2 hn
    have hend := mB_end (z := z3) (i := t.length) (p := nI 26) (n := t.length) p6 p4 ((p3.2.1 0 (Nat.lt_succ_self _)).1.trans b10) p8 (F8_longOf_eq (hs.sm1 p2)) (Nat.le_refl _) (by omega)
    exact ⟨z10, z3, e10, sm10.tr p2.smz, (p2.2 7 (by omega)).trans (bk 7 (by decide)), measures_of (p1.trans hend), fun _ => p7⟩
/-- what is kept of an expansion -/
def aOK (a : AS) (R : Tx × Gl) : AS := (a.1, (R.1, R.2.2.2.1, nI R.2.1, nI R.2.2.1), a.2.2.1, a.2.2.2.1 + 1, a.2.2.2.2)
def aNO (a : AS) : AS := (a.1, a.2.1, a.2.2.1, a.2.2.2.1, a.2.2.2.2 + 1)
noncomputable def xB : Int32 × MS → Option ((Int32 × MS) ⊕ (MS × Int32)) := fun (q : Int32 × MS) => (fun (x14 : Int32) (z15 : MS) =>
  if 360 ≤ x14 then
  wr z15 0 2153 1792 (z15 43 28) fun z17 =>
  wr z17 0 2153 1788 (z17 43 25) fun z18 =>
  wr z18 0 2153 1789 (z18 43 26) fun z19 =>
  rd (z19 0) 2153 (1790 : Int32) fun x20 =>
  wr z19 0 2153 1790 (x20 + 1) fun z21 =>
  bn (F8_spells z21) fun z22 =>
  wr z22 0 2153 1587 (z22 43 39) fun z23 =>
  some (.inr (z23, z23 43 39))
  else
  jp (fun (x27 : Int32) => wr z15 0 2153 (1793 + x14) x27 fun z28 =>
  bd (x14 + 1) fun x29 =>
  some (.inl (x29, z28))) fun k24 =>
  if (6 * (z15 43 28)) ≤ x14 then
  k24 0
  else
  rd (z15 27) 360 x14 fun x26 =>
  k24 x26) q.1 q.2
theorem keepZ_ok {z : MS} {a : AS} {t : Tx} {L : Nat} (hW : WA a) (hL : a.2.2.1 = nI L) (hL12 : L ≤ 12) (hZ : ZS (z 0) a) (hl : t.length ≤ 60) (h6 : z 43 6 = nI t.length) (h5 : hold (z 5) t) (hC : Cpl t) (hb : (RX a L t).2.2.2.2 = false) (hG : GZ z (RX a L t).2) :
    ∃ zf, Loop xB (0, z) = some (zf, nI (RX a L t).1.length) ∧ ZS (zf 0) (aOK a (RX a L t)) ∧ (∀ u, u ≠ 0 → (u < 29 ∨ 37 < u) → u ≠ 43 → zf u = z u) ∧ ∀ k, k < 32 → zf 43 k = z 43 k := by
  obtain ⟨R, hR⟩ : ∃ R, R = RX a L t := ⟨_, rfl⟩
  have hlen : (RX a L t).1.length ≤ 200 := evF_len hb
  rw [← hR] at hb hG hlen ⊢
  obtain ⟨g1, g2, g3, g4, g5, g6, g7, g8⟩ := hG
  have h28 : (6 : Int32) * (z 43 28) = nI R.2.2.2.1.length := by
    rw [g3]
    show nI 6 * nI _ = _
    rw [nI_mul]; congr 1; omega
  obtain ⟨zE, hzE⟩ : ∃ q, q = sr z 0 (pt (z 0) 1793 360 (fun i => R.2.2.2.1.getD i 0)) := ⟨_, rfl⟩
  have go : Loop xB (0, z) = Loop xB (nI 360, zE) := by
    have e0 : ((0 : Int32), z) = (fun j => (nI j, sr z 0 (pt (z 0) 1793 j (fun i => R.2.2.2.1.getD i 0)))) 0 := by
      show _ = (nI 0, _)
      rw [pt_0, sr_self]; rfl
    rw [e0, hzE]
    refine Loop_go (fun j => (nI j, sr z 0 (pt (z 0) 1793 j (fun i => R.2.2.2.1.getD i 0)))) 360 (fun j hj => ?_)
    have e43 : sr z 0 (pt (z 0) 1793 j (fun i => R.2.2.2.1.getD i 0)) 43 = z 43 := sr_ne _ _ (by decide)
    have last : ∀ v : Int32, v = R.2.2.2.1.getD j 0 → (wr (sr z 0 (pt (z 0) 1793 j (fun i => R.2.2.2.1.getD i 0))) 0 2153 (1793 + nI j) v fun z28 => bd (nI j + 1) fun x29 => (some (.inl (x29, z28)) : Option ((Int32 × MS) ⊕ (MS × Int32)))) = some (.inl (nI (j + 1), sr z 0 (pt (z 0) 1793 (j + 1) (fun i => R.2.2.2.1.getD i 0)))) := by
      rintro v rfl
      refine wr_go (k := 1793 + j) (nI_add 1793 j) (by omega) (by decide) <| bd_go ?_
      have q := pt_s (z 0) 1793 j (fun i => R.2.2.2.1.getD i 0)
      rw [sr_up, q, nI_1]
    refine if_no (nI_ge (b := 360) hj (by decide)) <| jp_go ?_
    by_cases c : R.2.2.2.1.length ≤ j
    · refine if_go ?_ (last 0 ?_)
      · show (6 : Int32) * (sr z 0 (pt (z 0) 1793 j (fun i => R.2.2.2.1.getD i 0)) 43 28) ≤ nI j
        rw [e43, h28]; exact nI_le c (by omega)
      · rw [List.getD_eq_getElem?_getD, List.getElem?_eq_none c]; rfl
    · refine if_no ?_ <| rd_go (v := R.2.2.2.1.getD j 0) rfl hj (by decide) ?_ (last _ rfl)
      · show ¬ (6 : Int32) * (sr z 0 (pt (z 0) 1793 j (fun i => R.2.2.2.1.getD i 0)) 43 28) ≤ nI j
        rw [e43, h28]; exact nI_ge (by omega) (by omega)
      · show sr z 0 (pt (z 0) 1793 j (fun i => R.2.2.2.1.getD i 0)) 27 j = _
        rw [sr_ne _ _ (by decide)]; exact g4 j (by omega)
  have zEu : ∀ u, u ≠ 0 → zE u = z u := fun u hu => by rw [hzE]; exact sr_ne _ _ hu
  have zE0 : zE 0 = pt (z 0) 1793 360 (fun i => R.2.2.2.1.getD i 0) := by rw [hzE]; exact sr_at _ _ _
  have zE0o : ∀ i, i < 1793 → zE 0 i = z 0 i := fun i hi => by rw [zE0, pt_out (by omega)]
  obtain ⟨z21, hz21⟩ : ∃ q, q = up2 (up2 (up2 (up2 zE 0 1792 (z 43 28)) 0 1788 (z 43 25)) 0 1789 (z 43 26)) 0 1790 (a.2.2.2.1 + 1) := ⟨_, rfl⟩
  have zu : ∀ u, u ≠ 0 → z21 u = z u := fun u hu => by rw [hz21, up2_ne _ hu, up2_ne _ hu, up2_ne _ hu, up2_ne _ hu]; exact zEu u hu
  have z0 : ∀ i, i < 1788 → z21 0 i = z 0 i := fun i hi => by
    rw [hz21, up2_at, if_neg (by omega), up2_at, if_neg (by omega), up2_at, if_neg (by omega), up2_at, if_neg (by omega)]
    exact zE0o i (by omega)
  obtain ⟨f1, f2, f3, f4, f5, f6, f7, f8, f9, f10, f11⟩ := hZ
  have hD : DZ z21 a := by
    refine ⟨fun k hk => by rw [z0 k (by omega)]; exact f1 k hk, fun k hk u e => hold_congr (fun j hj => ?_) (f2 k hk u e), by rw [z0 1586 (by decide)]; exact f3⟩
    have := (hW.1 k u e).2
    exact z0 _ (by omega)
  have hs : SrcZ z21 26 t := ⟨hl, Or.inl ⟨rfl, by rw [zu 43 (by decide)]; exact h6, by rw [zu 5 (by decide)]; exact h5⟩⟩
  obtain ⟨z22, e22, s22, k22, q22⟩ := spells_ok (L := L) hW hL hL12 hD hs hC (by
    have : R.2.1 ≤ 60 := g7
    rw [hR] at this; exact this) (by rw [hR] at hlen; exact hlen)
  have k22' : z22 43 39 = nI R.1.length := by rw [hR]; exact k22
  have q22' : hold (fun j => z22 0 (1588 + j)) R.1 := by rw [hR]; exact q22
  obtain ⟨zf, hzf⟩ : ∃ q, q = up2 z22 0 1587 (nI R.1.length) := ⟨_, rfl⟩
  have zf0 : ∀ i, i ≠ 1587 → zf 0 i = z22 0 i := fun i hi => by rw [hzf, up2_at, if_neg (by omega)]
  refine ⟨zf, go.trans (Loop_inr ?_), ⟨fun k hk => ?_, fun k hk u e => hold_congr (fun j hj => ?_) (f2 k hk u e), ?_, ?_, hold_congr (fun j hj => ?_) q22', ?_, ?_, ?_, ?_, ?_, fun j hj => ?_⟩, fun u q1 q2 q3 => ?_, fun k hk => ?_⟩
  · have y43 : ∀ (y : MS) (k : Nat) (v : Int32), up2 y 0 k v 43 = y 43 := fun y k v => up2_ne _ (by decide)
    unfold xB
    dsimp only
    refine if_go (show (360 : Int32) ≤ nI 360 by decide) <| wr_go (k := 1792) rfl (by decide) (by decide) <| wr_go (k := 1788) rfl (by decide) (by decide) <| wr_go (k := 1789) rfl (by decide) (by decide) ?_
    simp only [y43]
    rw [zEu 43 (by decide)]
    refine rd_go (k := 1790) (v := a.2.2.2.1) rfl (by decide) (by decide) ?_ <| wr_go (k := 1790) rfl (by decide) (by decide) ?_
    · rw [up2_at, if_neg (by decide), up2_at, if_neg (by decide), up2_at, if_neg (by decide)]
      exact (zE0o 1790 (by decide)).trans f8
    · rw [← hz21]
      refine bn_go e22 ?_
      rw [k22']
      refine wr_go (k := 1587) rfl (by decide) (by decide) ?_
      rw [y43, k22', ← hzf]
  · rw [zf0 k (by omega), s22.2.1 k (by omega), z0 k (by omega)]; exact f1 k hk
  · have := (hW.1 k u e).2
    show zf 0 (26 + 60 * k + j) = z 0 (26 + 60 * k + j)
    rw [zf0 _ (by omega), s22.2.1 _ (by omega), z0 _ (by omega)]
  · rw [zf0 1586 (by decide), s22.2.1 1586 (by decide), z0 1586 (by decide)]; exact f3
  · rw [hzf, up2_at, if_pos ⟨rfl, rfl⟩]; rfl
  · show zf 0 (1588 + j) = z22 0 (1588 + j)
    exact zf0 _ (by omega)
  · rw [zf0 1788 (by decide), s22.2.1 1788 (by decide), hz21, up2_at, if_neg (by decide), up2_at, if_neg (by decide), up2_at, if_pos ⟨rfl, rfl⟩]; exact g1
  · rw [zf0 1789 (by decide), s22.2.1 1789 (by decide), hz21, up2_at, if_neg (by decide), up2_at, if_pos ⟨rfl, rfl⟩]; exact g2
  · rw [zf0 1790 (by decide), s22.2.1 1790 (by decide), hz21, up2_at, if_pos ⟨rfl, rfl⟩]; rfl
  · rw [zf0 1791 (by decide), s22.2.1 1791 (by decide), hz21, up2_at, if_neg (by decide), up2_at, if_neg (by decide), up2_at, if_neg (by decide), up2_at, if_neg (by decide)]
    exact (zE0o 1791 (by decide)).trans f9
  · rw [zf0 1792 (by decide), s22.2.1 1792 (by decide), hz21, up2_at, if_neg (by decide), up2_at, if_neg (by decide), up2_at, if_neg (by decide), up2_at, if_pos ⟨rfl, rfl⟩]; exact g3
  · have hj' : j < R.2.2.2.1.length := hj
    show zf 0 (1793 + j) = _
    rw [zf0 _ (by omega), s22.2.1 _ (by omega), hz21, up2_at, if_neg (by omega), up2_at, if_neg (by omega), up2_at, if_neg (by omega), up2_at, if_neg (by omega), zE0, pt_in (by omega)]
    rfl
  · rw [hzf, up2_ne _ q1, s22.1 u q1 q2 q3]; exact zu u q1
  · rw [hzf, up2_ne _ (by decide), s22.2.2 k (by omega) (by omega) (by omega), zu 43 (by decide)]
