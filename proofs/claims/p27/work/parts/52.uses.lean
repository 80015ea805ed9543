/-! PURE: uses, rings, missing, ifDefined -/
noncomputable def rB (D : Nat → Option Tx) (i j : Nat) : Bool := @decide (Rch (gs D) i j) (Classical.propDecidable _)
theorem rB_iff {D : Nat → Option Tx} {i j : Nat} : rB D i j = true ↔ Rch (gs D) i j := by unfold rB; exact @decide_eq_true_iff _ (Classical.propDecidable _)
theorem rB_of {D : Nat → Option Tx} {i : Nat} {r : Int32} (h : ∀ j, tb r j = true ↔ Rch (gs D) i j) (j : Nat) : tb r j = rB D i j := bool_iff ((h j).trans rB_iff.symm)
theorem gth_congr {p q : Nat → Bool} {n : Nat} (h : ∀ k, k < n → p k = q k) : gth p n = gth q n := by
  induction n with
  | zero => rfl
  | succ n ih => show gth p n ||| _ = gth q n ||| _; rw [ih (fun k hk => h k (by omega)), h n (by omega)]
theorem gth_t {p : Nat → Bool} {n : Nat} (h : p n = true) : gth p n ||| one n = gth p (n + 1) := by show _ = gth p n ||| _; rw [if_pos h]
theorem gth_f {p : Nat → Bool} {n : Nat} (h : p n = false) : gth p n = gth p (n + 1) := by show _ = gth p n ||| _; rw [if_neg (by rw [h]; decide), Int32.or_zero]
theorem F0_callersOf_eq {b : BS} {D : Nat → Option Tx} (h55 : ∀ k, k < 26 → b.1 55 k = gs D k) {p : Nat} (hp : p < 26) : F0_callersOf b (nI p) = some (gth (fun x => tb (gs D x) p) 26) := by
  unfold F0_callersOf
  have e0 : ((0 : Int32), (0 : Int32)) = (fun j => (gth (fun x => tb (gs D x) p) j, nI j)) 0 := rfl
  rw [e0]
  refine Loop_seq (fun j => (gth (fun x => tb (gs D x) p) j, nI j)) 26 (fun j hj => ?_) ?_
  · refine if_no (nI_ge (b := 26) hj (by decide)) <| rd_go rfl hj (by decide) (h55 j hj) <| bn_go (F0_holds_eq hp) <| jp_go ?_
    cases e : tb (gs D j) p with
    | true =>
      refine if_no (by decide) <| bd_go <| bd_go ?_
      rw [nI_1]
      exact congrArg (fun q => some (Sum.inl (q, nI (j + 1)))) (gth_t (p := fun x => tb (gs D x) p) e)
    | false =>
      refine if_go rfl <| bd_go ?_
      rw [nI_1]
      exact congrArg (fun q => some (Sum.inl (q, nI (j + 1)))) (gth_f (p := fun x => tb (gs D x) p) e)
  · exact if_go (show (26 : Int32) ≤ nI 26 by decide) rfl
/-- rows of the class behind followCalls -/
def FlB (b b' : BS) (D : Nat → Option Tx) : Prop := b'.2 = b.2 ∧ (∀ u, u ≠ 56 → b'.1 u = b.1 u) ∧ ∀ k, k < 26 → ∀ j, tb (b'.1 56 k) j = rB D k j
theorem follow_eq {b : BS} {D : Nat → Option Tx} (h55 : ∀ k, k < 26 → b.1 55 k = gs D k) : ∃ b', F0_followCalls b = some b' ∧ FlB b b' D := by
  obtain ⟨b', h1, h2, h3, h4⟩ := F0_followCalls_eq h55
  exact ⟨b', h1, h2, h3, fun k hk j => rB_of (h4 k hk) j⟩
theorem FlB.sm {b b' : BS} {D : Nat → Option Tx} (h : FlB b b' D) : SmB b b' := ⟨h.1, fun j hj => h.2.1 j (by omega)⟩
theorem F0_reaching_eq {b : BS} {D : Nat → Option Tx} (h55 : ∀ k, k < 26 → b.1 55 k = gs D k) {p : Nat} (hp : p < 26) : ∃ b', F0_reaching b (nI p) = some (b', gth (fun x => rB D x p) 26) ∧ FlB b b' D := by
  obtain ⟨b', h1, h2⟩ := follow_eq h55
  refine ⟨b', ?_, h2⟩
  unfold F0_reaching
  refine bn_go h1 ?_
  have e0 : ((0 : Int32), (0 : Int32)) = (fun j => (gth (fun x => rB D x p) j, nI j)) 0 := rfl
  rw [e0]
  refine Loop_seq (fun j => (gth (fun x => rB D x p) j, nI j)) 26 (fun j hj => ?_) ?_
  · refine if_no (nI_ge (b := 26) hj (by decide)) <| rd_go rfl hj (by decide) rfl <| bn_go (F0_holds_eq hp) <| jp_go ?_
    have q := h2.2.2 j hj p
    cases e : tb (b'.1 56 j) p with
    | true =>
      refine if_no (by decide) <| bd_go <| bd_go ?_
      rw [nI_1]
      exact congrArg (fun q => some (Sum.inl (q, nI (j + 1)))) (gth_t (p := fun x => rB D x p) (q.symm.trans e))
    | false =>
      refine if_go rfl <| bd_go ?_
      rw [nI_1]
      exact congrArg (fun q => some (Sum.inl (q, nI (j + 1)))) (gth_f (p := fun x => rB D x p) (q.symm.trans e))
  · exact if_go (show (26 : Int32) ≤ nI 26 by decide) rfl
theorem F0_inRings_eq {b : BS} {D : Nat → Option Tx} (h55 : ∀ k, k < 26 → b.1 55 k = gs D k) : ∃ b', F0_inRings b = some (b', gth (fun x => rB D x x) 26) ∧ FlB b b' D := by
  obtain ⟨b', h1, h2⟩ := follow_eq h55
  refine ⟨b', ?_, h2⟩
  unfold F0_inRings
  refine bn_go h1 ?_
  have e0 : ((0 : Int32), (0 : Int32)) = (fun j => (gth (fun x => rB D x x) j, nI j)) 0 := rfl
  rw [e0]
  refine Loop_seq (fun j => (gth (fun x => rB D x x) j, nI j)) 26 (fun j hj => ?_) ?_
  · refine if_no (nI_ge (b := 26) hj (by decide)) <| rd_go rfl hj (by decide) rfl <| bn_go (F0_holds_eq hj) <| jp_go ?_
    have q := h2.2.2 j hj j
    cases e : tb (b'.1 56 j) j with
    | true =>
      refine if_no (by decide) <| bd_go <| bd_go ?_
      rw [nI_1]
      exact congrArg (fun q => some (Sum.inl (q, nI (j + 1)))) (gth_t (p := fun x => rB D x x) (q.symm.trans e))
    | false =>
      refine if_go rfl <| bd_go ?_
      rw [nI_1]
      exact congrArg (fun q => some (Sum.inl (q, nI (j + 1)))) (gth_f (p := fun x => rB D x x) (q.symm.trans e))
  · exact if_go (show (26 : Int32) ≤ nI 26 by decide) rfl
/-- the reference's -/
theorem F8_callers_eq {z : MS} {D : Nat → Option Tx} (h40 : ∀ k, k < 26 → z 40 k = gs D k) {p : Nat} (hp : p < 26) (y : Int32) : F8_callers z (nI p) y = some (gth (fun x => if y = 0 then tb (gs D x) p else rB D x p) 26) := by
  obtain ⟨P, hP⟩ : ∃ P : Nat → Bool, P = (fun x => if y = 0 then tb (gs D x) p else rB D x p) := ⟨_, rfl⟩
  rw [← hP]
  unfold F8_callers
  have e0 : ((0 : Int32), (0 : Int32)) = (fun j => (gth P j, nI j)) 0 := rfl
  rw [e0]
  refine Loop_seq (fun j => (gth P j, nI j)) 26 (fun j hj => ?_) ?_
  · have last : ∀ r : Int32, tb r p = P j → (jp (fun (x11 : Int32) => bd (gth P j ||| x11) fun x12 =>
      bd (nI j + 1) fun x13 =>
      (some (.inl (x12, x13)) : Option ((Int32 × Int32) ⊕ Int32))) fun k9 =>
      if ¬ ((r >>> (nI p &&& 31)) &&& 1) = 1 then
      k9 0
      else
      k9 ((1 : Int32) <<< (nI j &&& 31))) = some (Sum.inl (gth P (j + 1), nI (j + 1))) := by
      intro r hr
      refine jp_go ?_
      cases e : tb r p with
      | true =>
        rw [e] at hr
        refine if_no (fun q => q ((tb_ref hp).mpr e)) <| bd_go <| bd_go ?_
        rw [nI_1]
        exact congrArg (fun q => some (Sum.inl (q, nI (j + 1)))) (gth_t (p := P) hr.symm)
      | false =>
        rw [e] at hr
        refine if_go (fun q => by rw [(tb_ref hp).mp q] at e; cases e) <| bd_go <| bd_go ?_
        rw [nI_1, Int32.or_zero]
        exact congrArg (fun q => some (Sum.inl (q, nI (j + 1)))) (gth_f (p := P) hr.symm)
    refine if_no (nI_ge (b := 26) hj (by decide)) <| jp_go ?_
    by_cases c : y = 0
    · exact if_go c <| rd_go rfl hj (by decide) (h40 j hj) (last _ (by rw [hP]; exact (if_pos c).symm))
    · obtain ⟨r, h1, h2⟩ := F8_reached_eq h40 hj
      exact if_no c <| bn_go h1 (last r (by rw [hP, rB_of h2 p]; exact (if_neg c).symm))
  · exact if_go (show (26 : Int32) ≤ nI 26 by decide) rfl
theorem F8_inRings_eq {z : MS} {a : AS} (hZ : ZS (z 0) a) (hW : WA a) : ∃ z', F8_inRings z = some (z', gth (fun x => rB a.1 x x) 26) ∧ TkZ z z' a.1 := by
  obtain ⟨z', h1, h2⟩ := F8_laysSets_eq hZ hW
  refine ⟨z', ?_, h2⟩
  unfold F8_inRings
  refine bn_go h1 ?_
  have e0 : ((0 : Int32), (0 : Int32)) = (fun j => (gth (fun x => rB a.1 x x) j, nI j)) 0 := rfl
  rw [e0]
  refine Loop_seq (fun j => (gth (fun x => rB a.1 x x) j, nI j)) 26 (fun j hj => ?_) ?_
  · obtain ⟨r, g1, g2⟩ := F8_reached_eq h2.2 hj
    have q := rB_of g2 j
    refine if_no (nI_ge (b := 26) hj (by decide)) <| bn_go g1 <| jp_go ?_
    cases e : tb r j with
    | true =>
      refine if_no (fun q => q ((tb_ref hj).mpr e)) <| bd_go <| bd_go ?_
      rw [nI_1]
      exact congrArg (fun q => some (Sum.inl (q, nI (j + 1)))) (gth_t (p := fun x => rB a.1 x x) (q.symm.trans e))
    | false =>
      refine if_go (fun q => by rw [(tb_ref hj).mp q] at e; cases e) <| bd_go <| bd_go ?_
      rw [nI_1, Int32.or_zero]
      exact congrArg (fun q => some (Sum.inl (q, nI (j + 1)))) (gth_f (p := fun x => rB a.1 x x) (q.symm.trans e))
  · exact if_go (show (26 : Int32) ≤ nI 26 by decide) rfl
theorem i3 (x : Int32) (h : inB x 0 3 = true) : x = 0 ∨ x = 1 ∨ x = 2 ∨ x = 3 := by
  obtain ⟨k, hk, rfl⟩ := inB_nI (n := 3) rfl h
  have : ∀ k, k < 4 → nI k = 0 ∨ nI k = 1 ∨ nI k = 2 ∨ nI k = 3 := by decide
  exact this k (by omega)
theorem S_rings {z : MS} {b : BS} (h : Inv z b) : okP Inv (F7_rings b) (F8_rings z) := by
  obtain ⟨t, a, p, s, hB, hW, hZ, hS, -⟩ := id h
  obtain ⟨b1, e1, k1⟩ := F0_takeFrom_eq hS
  obtain ⟨b2, e2, k2⟩ := F0_inRings_eq k1.2.2.1
  obtain ⟨z1, e3, k3⟩ := F8_inRings_eq (z := rfs z 0) (a := a) (by rw [rfs_a _ _ (by decide)]; exact hZ) hW
  refine ⟨b2, z1, gth (fun x => rB a.1 x x) 26, ?_, ?_, h.sm ((SmZ.rfs z 0).tr k3.sm) (k1.sm.tr k2.sm)⟩
  · unfold F7_rings
    exact bn_go e1 <| bn2_go e2 rfl
  · unfold F8_rings
    exact bd_go <| bn2_go e3 rfl
theorem S_uses {z : MS} {b : BS} (h : Inv z b) (x y : Int32) : okT Inv (F7_uses b x y) (F8_uses z x y) [1, 2] := by
  obtain ⟨t, a, p, s, hB, hW, hZ, hS, -⟩ := id h
  by_cases hx : inB x 0 25 = true
  · by_cases hy : inB y 0 3 = true
    · obtain ⟨k, hk, rfl⟩ := letter_nI hx
      obtain ⟨b1, e1, k1⟩ := F0_takeFrom_eq hS
      obtain ⟨z1, e3, k3⟩ := F8_laysSets_eq (z := rfs z 0) (a := a) (by rw [rfs_a _ _ (by decide)]; exact hZ) hW
      have t7 : z1 43 7 = 0 := by rw [k3.1 43 (by decide)]; exact rfs7 z 0
      have sz := (SmZ.rfs z 0).tr k3.sm
      have pre7 : ∀ K : BS → Option (BS × (Nat ⊕ Int32)), (bx (F7_requireLetter (nI k)) (fun u1 k2 => some (b, .inl k2)) fun u1 v3 => bx (F7_requireWhat y 3) (fun u8 k9 => some (b, .inl k9)) fun u8 v10 => bn (F0_takeFrom b 70) fun b17 => K b17) = K b1 := by
        intro K; rw [requireLetter_ok hx, requireWhat_ok hy]; exact bx_in (b := ()) (v := ()) rfl <| bx_in (b := ()) (v := ()) rfl <| bn_go e1 rfl
      have f8 : ∀ v, (if ¬ y = 0 then if ¬ y = 1 then jp (fun (x16 : Int32) => bn (F8_callers z1 (nI k) x16) fun x17 => some (z1, x17)) fun k14 => if ¬ y = 3 then k14 0 else k14 1 else bn (F8_reached z1 (nI k)) fun x18 => some (z1, x18) else rd (z1 40) 26 (nI k) fun x19 => some (z1, x19)) = some (z1, v) → F8_uses z (nI k) y = some (z1, v) := by
        intro v hv
        unfold F8_uses
        refine bn_go (F8_isLetter_eq _) <| jp_go <| if_go (by rw [hx]; decide) <| bn_go (F8_in_eq _ _ _) <| if_no (by rw [hy]; decide) <| bn2_go (F8_refused0 z) <| if_go rfl <| bn_go e3 <| jp_go hv
      rcases i3 y hy with rfl | rfl | rfl | rfl
      · refine okT_mk (b' := b1) (z' := z1) (v := gs a.1 k) ?_ (f8 _ ?_) t7 (h.sm sz k1.sm)
        · unfold F7_uses
          refine (pre7 _).trans <| if_go rfl <| bn_go (a := gs a.1 k) ?_ rfl
          unfold F0_calledBy
          exact bn_go (F7_isLetter_eq _) <| jp_go <| if_no (by rw [hx]; decide) <| rd_go rfl hk (by decide) (k1.2.2.1 k hk) rfl
        · exact if_no (by decide) <| rd_go rfl hk (by decide) (k3.2 k hk) rfl
      · obtain ⟨b2, e2, k2⟩ := follow_eq k1.2.2.1
        obtain ⟨r, g1, g2⟩ := F8_reached_eq k3.2 hk
        have er : b2.1 56 k = r := tb_ext fun j => (k2.2.2 k hk j).trans (rB_of g2 j).symm
        refine okT_mk (b' := b2) (z' := z1) (v := r) ?_ (f8 _ ?_) t7 (h.sm sz (k1.sm.tr k2.sm))
        · unfold F7_uses
          refine (pre7 _).trans <| if_no (by decide) <| if_go rfl <| bn2_go (a := b2) (b := r) ?_ rfl
          unfold F0_reachedFrom
          exact bn_go e2 <| bn_go (F7_isLetter_eq _) <| jp_go <| if_no (by rw [hx]; decide) <| rd_go rfl hk (by decide) er rfl
        · exact if_go (by decide) <| if_no (by decide) <| bn_go g1 rfl
      · refine okT_mk (b' := b1) (z' := z1) (v := gth (fun x => tb (gs a.1 x) k) 26) ?_ (f8 _ ?_) t7 (h.sm sz k1.sm)
        · unfold F7_uses
          exact (pre7 _).trans <| if_no (by decide) <| if_no (by decide) <| if_go rfl <| bn_go (F0_callersOf_eq k1.2.2.1 hk) rfl
        · refine if_go (by decide) <| if_go (by decide) <| jp_go <| if_go (by decide) <| bn_go (F8_callers_eq k3.2 hk 0) rfl
      · obtain ⟨b2, e2, k2⟩ := F0_reaching_eq k1.2.2.1 hk
        refine okT_mk (b' := b2) (z' := z1) (v := gth (fun x => rB a.1 x k) 26) ?_ (f8 _ ?_) t7 (h.sm sz (k1.sm.tr k2.sm))
        · unfold F7_uses
          exact (pre7 _).trans <| if_no (by decide) <| if_no (by decide) <| if_no (by decide) <| bn2_go e2 rfl
        · refine if_go (by decide) <| if_go (by decide) <| jp_go <| if_no (by decide) <| bn_go (F8_callers_eq k3.2 hk 1) rfl
    · have hy' : inB y 0 3 = false := by simpa using hy
      refine okT_x (b' := b) (k := 2) (z' := rfs z 2) (v := 0) ?_ ?_ (by decide) (rfs7 _ _) (h.rfs 2)
      · unfold F7_uses; rw [requireLetter_ok hx, requireWhat_no hy']; rfl
      · unfold F8_uses
        exact bn_go (F8_isLetter_eq _) <| jp_go <| if_go (by rw [hx]; decide) <| bn_go (F8_in_eq _ _ _) <| if_go (by rw [hy']; rfl) <| bn2_go (F8_refusedP z 2 (by decide)) <| if_no (by decide) rfl
  · have hx' : inB x 0 25 = false := by simpa using hx
    refine okT_x (b' := b) (k := 1) (z' := rfs z 1) (v := 0) ?_ ?_ (by decide) (rfs7 _ _) (h.rfs 1)
    · unfold F7_uses; rw [requireLetter_no hx']; rfl
    · unfold F8_uses
      exact bn_go (F8_isLetter_eq _) <| jp_go <| if_no (by rw [hx']; decide) <| bn2_go (F8_refusedP z 1 (by decide)) <| if_no (by decide) rfl
/-- the sets of those in x joined -/
def orS (G : Nat → Int32) (x : Int32) : Nat → Int32
  | 0 => 0
  | n + 1 => if tb x n = true then orS G x n ||| G n else orS G x n
theorem F0_calledInBodiesOf_eq {b : BS} {D : Nat → Option Tx} (h55 : ∀ k, k < 26 → b.1 55 k = gs D k) (x : Int32) : F0_calledInBodiesOf b x = some (orS (gs D) x 26) := by
  unfold F0_calledInBodiesOf
  have e0 : ((0 : Int32), (0 : Int32)) = (fun j => (orS (gs D) x j, nI j)) 0 := rfl
  rw [e0]
  refine Loop_seq (fun j => (orS (gs D) x j, nI j)) 26 (fun j hj => ?_) ?_
  · refine if_no (nI_ge (b := 26) hj (by decide)) <| bn_go (F0_holds_eq hj) <| jp_go ?_
    cases e : tb x j with
    | true =>
      refine if_no (by decide) <| rd_go rfl hj (by decide) (h55 j hj) <| bd_go <| bd_go ?_
      show _ = some (Sum.inl (if tb x j = true then _ else _, nI (j + 1)))
      rw [nI_1, if_pos e]
    | false =>
      refine if_go rfl <| bd_go ?_
      show _ = some (Sum.inl (if tb x j = true then _ else _, nI (j + 1)))
      rw [nI_1, if_neg (by rw [e]; decide)]
  · exact if_go (show (26 : Int32) ≤ nI 26 by decide) rfl
theorem tb_mk (D : Nat → Option Tx) (k : Nat) : tb (nI (mkN D 26)) k = (decide (k < 26) && (D k).isSome) := by
  rw [mkN_gth D (Nat.le_refl _), tb_gth _ (Nat.le_refl _)]
theorem orS_mk (D : Nat → Option Tx) {n : Nat} (hn : n ≤ 26) : orS (gs D) (nI (mkN D 26)) n = orA (gs D) n := by
  induction n with
  | zero => rfl
  | succ n ih =>
    show (if tb (nI (mkN D 26)) n = true then _ else _) = orA (gs D) n ||| gs D n
    rw [ih (by omega), tb_mk, decide_eq_true (by omega), Bool.true_and]
    cases e : D n with
    | none => rw [if_neg (by decide), gs_none e, Int32.or_zero]
    | some t => exact if_pos rfl
theorem S_missing {z : MS} {b : BS} (h : Inv z b) : okP Inv (F7_missing b) (F8_missing z) := by
  obtain ⟨t, a, p, s, hB, hW, hZ, hS, -⟩ := id h
  obtain ⟨b1, e1, k1⟩ := F0_takeFrom_eq hS
  have hZr : ZS (rfs z 0 0) a := by rw [rfs_a _ _ (by decide)]; exact hZ
  refine ⟨b1, rfs z 0, orA (gs a.1) 26 &&& (nI (mkN a.1 26) ^^^ (-1)), ?_, ?_, h.sm (SmZ.rfs z 0) k1.sm⟩
  · unfold F7_missing
    refine bn_go e1 <| bn_go (a := orA (gs a.1) 26 &&& (nI (mkN a.1 26) ^^^ (-1))) ?_ rfl
    unfold F0_calledButNotDefined
    refine bn_go (F0_calledInBodiesOf_eq k1.2.2.1 _) ?_
    rw [k1.2.2.2, orS_mk _ (Nat.le_refl _)]
  · unfold F8_missing
    refine bd_go ?_
    have e0 : ((0 : Int32), (0 : Int32)) = (fun j => (orA (gs a.1) j, nI j)) 0 := rfl
    rw [e0]
    refine Loop_seq (fun j => (orA (gs a.1) j, nI j)) 26 (fun j hj => ?_) ?_
    · have hc : F8_called (rfs z 0) (nI j) = some (gs a.1 j) := by
        cases e : a.1 j with
        | none => rw [gs_none e]; exact F8_called_none hj (Z_none hZr hj e)
        | some t => rw [gs_some hj e]; exact F8_called_eq hj (hZr.src hW hj e)
      refine if_no (nI_ge (b := 26) hj (by decide)) <| bn_go hc <| bd_go <| bd_go ?_
      rw [nI_1]; rfl
    · exact if_go (show (26 : Int32) ≤ nI 26 by decide) <| bn_go (F8_all_eq hZr hW) rfl
