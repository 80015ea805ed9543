/-! PURE: set, remove, exchange -/
theorem InvD.sm {t : Tx} {a : AS} {p : List AS} {s : Nat → Option AS} {z z' : MS} {b b' : BS} (hz : SmZ z z') (hb : SmB b b') (g : InvD t a p s z b) : InvD t a p s z' b' := by
  obtain ⟨g1, g2, g3, g4, g5, g6, g7⟩ := g
  refine ⟨g1.sm hz hb, g2, ?_, g4.sm hb.two, g5.sm hz.two hb.two, g6.sm hz.two hb.two, ?_⟩
  · rw [hz.1]; exact g3
  · unfold Closed; rw [hb.1]; exact g7
theorem InvD.rf0 {t : Tx} {a : AS} {p : List AS} {s : Nat → Option AS} {z : MS} {b : BS} (g : InvD t a p s z b) (w : Int32) : InvD t a p s (rfs z w) b := g.sm (SmZ.rfs z w) (SmB.rf b)
theorem SBb.num {b b' : BS} {i : Nat} {a : AS} (h : Ext b b') (e2 : b'.2.1 i = b.2.1 i) (e3 : b'.2.1 (i + 1) = b.2.1 (i + 1)) (g : SBb b i a) : SBb b' i (a.1, a.2.1, b'.1 i 2, b'.1 i 3, b'.1 i 4) := by
  obtain ⟨g1, g2, ⟨o, g3, g3'⟩, g4⟩ := g
  refine ⟨h.ok g1, fun k hk => ?_, ⟨o, by rw [e2]; exact g3, g3'.ext h⟩, rfl, rfl, rfl⟩
  have q := g2 k hk
  dsimp only
  rw [e3]
  cases e : a.1 k with
  | none => rw [e] at q; exact q
  | some t =>
    rw [e] at q
    obtain ⟨x, q1, q2⟩ := q
    exact ⟨x, q1, q2.ext h⟩
theorem setI_ext (b : BS) {i k : Nat} {v : Int32} (hi : i < 100) : Ext b (setI b i k v) := ⟨fun _ h => h, fun j hj _ => ⟨setI_other _ (by omega), rfl⟩⟩
theorem setR_ext (b : BS) {i k : Nat} {v : Option Nat} : Ext b (setR b i k v) := ⟨fun _ h => h, fun j hj _ => ⟨rfl, rfl⟩⟩
theorem setR_closed {b : BS} {i k : Nat} {v : Option Nat} (h : Closed b) (hv : ∀ x, v = some x → lvB b.2.2 x = true) : Closed (setR b i k v) := by
  intro u l t ht
  rw [setR_2] at ht
  by_cases c : u = i ∧ l = k
  · rw [if_pos c] at ht; exact hv t ht
  · rw [if_neg c] at ht; exact h u l t ht
theorem S_set {z : MS} {b : BS} (h : Inv z b) (x : Int32) : okT Inv (F7_set b x) (F8_set z x) [2] := by
  obtain ⟨t, a, p, s, hI⟩ := id h
  by_cases hx : inB x 1 12 = true
  · obtain ⟨z1, b1, p1, e8, e7, hI1, hg, h7, hi, h17⟩ := save_inv (InvD.rf0 hI 0)
    have hD : InvD t a p1 s z1 b1 := hI1
    obtain ⟨hB, hW, hZ, hS, -, -, hC⟩ := hI1
    have hxr := hx
    unfold inB at hxr
    rw [Bool.and_eq_true, decide_eq_true_iff, decide_eq_true_iff] at hxr
    obtain ⟨d, hd1, hd2⟩ : ∃ d : Nat, (1 ≤ d ∧ d ≤ 12) ∧ x = nI d := by
      obtain ⟨d, hd, rfl⟩ := nI_of2 (n := 12) (M := 12) rfl (by
        intro q; exact absurd (Int32.lt_iff_toInt_lt.mp q) (by have := Int32.le_iff_toInt_le.mp hxr.1; have e : (1 : Int32).toInt = 1 := rfl; have e0 : (0 : Int32).toInt = 0 := rfl; omega)) hxr.2
      refine ⟨d, ⟨?_, hd⟩, rfl⟩
      have := Int32.le_iff_toInt_le.mp hxr.1
      rw [nI_toInt (by omega)] at this
      have e : (1 : Int32).toInt = 1 := rfl
      omega
    refine okT_mk (b' := setI b1 70 2 x) (z' := up2 z1 0 1586 x) (v := a.2.2.1) ?_ ?_ ?_ ⟨t, (a.1, a.2.1, x, a.2.2.2), p1, s, ?_⟩
    · unfold F7_set
      refine jp_go <| if_no (Int32.not_lt.mpr hxr.1) <| if_go hxr.2 <| (pr_in (Gr.rf b)).trans <| bn_go e7 <| bd_go <| bd_go ?_
      rw [hS.2.2.2.1]
    · unfold F8_set
      refine bn_go (F8_in_eq x 1 12) <| jp_go <| if_no (by rw [hx]; decide) <| bn2_go (F8_refused0 z) <| if_go rfl <| bn_go e8 <| rd_go (k := 1586) rfl (by decide) (by decide) hZ.2.2.1 <| wr_go (k := 1586) rfl (by decide) (by decide) rfl
    · rw [up2_ne _ (by decide), h7]; exact rfs7 z 0
    · have e0 : ∀ i, up2 z1 0 1586 x 0 i = if i = 1586 then x else z1 0 i := fun i => by rw [up2_at]; by_cases c : i = 1586 <;> simp [c]
      refine hD.cur ?_ ?_ ?_ ⟨up2_ne _ (by decide), up2_ne _ (by decide), up2_ne _ (by decide), by rw [up2_ne _ (by decide)]⟩ (setI_ext b1 (by decide)) (fun u h1 h2 h3 h4 => ⟨setI_other _ h3, rfl⟩) (fun _ _ _ => rfl) ?_ hC
      · obtain ⟨q1, q2, q3, q4, q5⟩ := hB
        refine ⟨q1, ?_, ?_, ?_, ?_⟩
        · rw [up2_ne _ (by decide)]; exact q2
        · rw [up2_ne _ (by decide)]; exact q3
        · rw [setI_other _ (by decide)]; exact q4
        · rw [setI_other _ (by decide)]; exact q5
      · exact ⟨hW.1, ⟨d, hd1.1, hd1.2, hd2⟩, hW.2.2.1, hW.2.2.2.1, hW.2.2.2.2⟩
      · obtain ⟨f1, f2, f3, f4, f5, f6, f7, f8, f9, f10, f11⟩ := hZ
        refine ⟨fun k hk => ?_, fun k hk u e => ?_, ?_, ?_, ?_, ?_, ?_, ?_, ?_, ?_, ?_⟩
        · rw [e0, if_neg (by omega)]; exact f1 k hk
        · have := (hW.1 k u e).2
          exact hold_congr (fun j hj => by rw [e0, if_neg (by omega)]) (f2 k hk u e)
        · rw [e0, if_pos rfl]
        · rw [e0, if_neg (by decide)]; exact f4
        · exact hold_congr (fun j hj => by rw [e0, if_neg (by omega)]) f5
        · rw [e0, if_neg (by decide)]; exact f6
        · rw [e0, if_neg (by decide)]; exact f7
        · rw [e0, if_neg (by decide)]; exact f8
        · rw [e0, if_neg (by decide)]; exact f9
        · rw [e0, if_neg (by decide)]; exact f10
        · exact hold_congr (fun j hj => by rw [e0, if_neg (by omega)]) f11
      · have q := hS.num (b' := setI b1 70 2 x) (setI_ext b1 (by decide)) rfl rfl
        rw [setI_at, setI_ne _ (by omega), setI_ne _ (by omega), hS.2.2.2.2.1, hS.2.2.2.2.2] at q
        exact q
  · have hx' : inB x 1 12 = false := by simpa using hx
    refine okT_x (b' := b) (k := 2) (z' := rfs z 1) (v := 0) ?_ ?_ (by decide) (rfs7 _ _) (h.rfs 1)
    · unfold F7_set
      refine jp_go ?_
      by_cases h1 : x < 1
      · exact if_go h1 rfl
      · refine if_no h1 (if_no ?_ rfl)
        intro h2
        refine hx ?_
        unfold inB
        rw [decide_eq_true (Int32.not_lt.mp h1), decide_eq_true h2]; rfl
    · unfold F8_set
      refine bn_go (F8_in_eq x 1 12) <| jp_go <| if_go (by rw [hx']; rfl) <| bn2_go (F8_refusedP z 1 (by decide)) <| if_no (by decide) rfl
/-- a definition put -/
def updF (D : Nat → Option Tx) (k : Nat) (o : Option Tx) : Nat → Option Tx := fun j => if j = k then o else D j
theorem SBb.put {b : BS} {a : AS} {k : Nat} {o : Option Tx} {v : Option Nat} (g : SBb b 70 a) (hv : match o with | none => v = none | some t => ∃ x, v = some x ∧ TXb b x t) : SBb (setR b 71 k v) 70 (updF a.1 k o, a.2) := by
  have hE := setR_ext b (i := 71) (k := k) (v := v)
  obtain ⟨g1, g2, ⟨x, g3, g3'⟩, g4⟩ := g
  refine ⟨g1, fun j hj => ?_, ⟨x, ?_, g3'.ext hE⟩, g4⟩
  · show match updF a.1 k o j with | none => (setR b 71 k v).2.1 71 j = none | some t => ∃ x, (setR b 71 k v).2.1 71 j = some x ∧ TXb (setR b 71 k v) x t
    rw [setR_2]
    unfold updF
    by_cases c : j = k
    · rw [if_pos c, if_pos ⟨rfl, c⟩]
      cases o with
      | none => exact hv
      | some t => obtain ⟨y, h1, h2⟩ := hv; exact ⟨y, h1, h2.ext hE⟩
    · rw [if_neg c, if_neg (fun q => c q.2)]
      have q := g2 j hj
      cases e : a.1 j with
      | none => rw [e] at q; exact q
      | some t => rw [e] at q; obtain ⟨y, h1, h2⟩ := q; exact ⟨y, h1, h2.ext hE⟩
  · rw [setR_2, if_neg (by omega)]; exact g3
theorem F5_put_eq {b : BS} {k : Nat} {v : Option Nat} (hk : k < 26) (h70 : okB b.2.2 70 5 = true) (hv : ∀ x, v = some x → okB b.2.2 x 6 = true) : F5_putDefinition b 70 (nI k) v = some (setR b 71 k v) := by
  unfold F5_putDefinition
  refine bn_go (F7_isLetter_eq _) <| jp_go <| if_no (by rw [nI_letter hk]; decide) <| ck_go h70 ?_
  exact woc_go rfl hk (by decide) hv rfl
theorem ZS.put {f f' : Nat → Int32} {a : AS} {k : Nat} {o : Option Tx} (hk : k < 26) (hW : WA a) (hf : ZS f a) (h1 : ∀ i, i < 2153 → i ≠ k → ¬ (26 + 60 * k ≤ i ∧ i < 86 + 60 * k) → f' i = f i) (h2 : f' k = (match o with | none => -1 | some t => nI t.length)) (h3 : ∀ t, o = some t → hold (fun j => f' (26 + 60 * k + j)) t) : ZS f' (updF a.1 k o, a.2) := by
  obtain ⟨f1, f2, f3, f4, f5, f6, f7, f8, f9, f10, f11⟩ := hf
  have w3 := hW.2.2.1
  have w4 := hW.2.2.2.1
  refine ⟨fun j hj => ?_, fun j hj u e => ?_, (h1 _ (by omega) (by omega) (by omega)).trans f3, (h1 _ (by omega) (by omega) (by omega)).trans f4, ?_, (h1 _ (by omega) (by omega) (by omega)).trans f6, (h1 _ (by omega) (by omega) (by omega)).trans f7, (h1 _ (by omega) (by omega) (by omega)).trans f8, (h1 _ (by omega) (by omega) (by omega)).trans f9, (h1 _ (by omega) (by omega) (by omega)).trans f10, ?_⟩
  · dsimp only; unfold updF
    by_cases c : j = k
    · subst c; rw [if_pos rfl]; exact h2
    · rw [if_neg c, h1 j (by omega) c (by omega)]; exact f1 j hj
  · dsimp only at e; unfold updF at e
    by_cases c : j = k
    · subst c; rw [if_pos rfl] at e; exact h3 u e
    · rw [if_neg c] at e
      have := (hW.1 j u e).2
      exact hold_congr (fun i hi => h1 _ (by omega) (by omega) (by omega)) (f2 j hj u e)
  · exact hold_congr (fun i hi => by dsimp only at hi ⊢; exact h1 _ (by omega) (by omega) (by omega)) f5
  · exact hold_congr (fun i hi => by dsimp only at hi ⊢; exact h1 _ (by omega) (by omega) (by omega)) f11
theorem WX.put {a : AS} {k : Nat} {o : Option Tx} (h : WX a) (h25 : k ≠ 25 ∨ o = none) : updF a.1 k o 25 = none := by
  unfold updF
  by_cases c : 25 = k
  · rw [if_pos c]
    rcases h25 with q | q
    · exact absurd c.symm q
    · exact q
  · rw [if_neg c]; exact h.1
theorem WA.put {a : AS} {k : Nat} {o : Option Tx} (h : WA a) (h25 : k ≠ 25 ∨ o = none) (ho : ∀ t, o = some t → Cpl t ∧ t.length ≤ 60) : WA (updF a.1 k o, a.2) := by
  refine ⟨fun j t e => ?_, h.2.1, h.2.2.1, h.2.2.2.1, h.2.2.2.2.1, WX.put h.2.2.2.2.2 h25, h.2.2.2.2.2.2⟩
  dsimp only at e; unfold updF at e
  by_cases c : j = k
  · rw [if_pos c] at e; exact ho t e
  · rw [if_neg c] at e; exact h.1 j t e
theorem Buf.of {z z' : MS} {b b' : BS} {t : Tx} (g : Buf z b t) (h6 : z' 43 6 = z 43 6) (h5 : z' 5 = z 5) (q6 : b'.1 50 6 = b.1 50 6) (q5 : b'.1 51 = b.1 51) : Buf z' b' t := by
  unfold Buf; rw [h6, h5, q6, q5]; exact g
theorem S_remove {z : MS} {b : BS} (h : Inv z b) (x : Int32) : okT Inv (F7_remove b x) (F8_remove z x) [1, 3] := by
  obtain ⟨t, a, p, s, hI⟩ := id h
  by_cases hx : inB x 0 25 = true
  · obtain ⟨k, hk, rfl⟩ := letter_nI hx
    have hdf := F8_isDefined_eq hI.2.2.1 hk (fun t e => (hI.2.1.1 k t e).2)
    have hdo := F5_definitionOf_eq hI.2.2.2.1.1 hk
    have hDk := hI.2.2.2.1.2.1 k hk
    cases e : a.1 k with
    | none =>
      rw [e] at hDk hdf
      dsimp only at hDk
      refine okT_x (b' := b) (k := 3) (z' := rfs z 2) (v := 0) ?_ ?_ (by decide) (rfs7 _ _) (h.rfs 2)
      · unfold F7_remove F7_requireDefinition
        rw [requireLetter_ok hx, hdo, hDk]
        rfl
      · unfold F8_remove
        refine bn_go (F8_isLetter_eq _) <| jp_go <| if_go (by rw [hx]; decide) <| bn_go hdf <| if_go rfl <| bn2_go (F8_refusedP z 2 (by decide)) <| if_no (by decide) rfl
    | some u =>
      rw [e] at hDk hdf
      obtain ⟨xx, hx1, hx2⟩ := hDk
      obtain ⟨z1, b1, p1, e8, e7, hI1, hg, h7, hi, h17⟩ := save_inv (InvD.rf0 hI 0)
      have hD : InvD t a p1 s z1 b1 := hI1
      obtain ⟨hB, hW, hZ, hS, -, -, hC⟩ := hI1
      have hW' := hW.put (k := k) (o := none) (Or.inr rfl) (fun t q => by cases q)
      have hS' : SBb (setR b1 71 k none) 70 (updF a.1 k none, a.2) := hS.put rfl
      have e0 : ∀ i, up2 z1 0 k (-1) 0 i = if i = k then -1 else z1 0 i := fun i => by rw [up2_at]; by_cases c : i = k <;> simp [c]
      have hZ' : ZS (up2 z1 0 k (-1) 0) (updF a.1 k none, a.2) := by
        refine hZ.put hk hW (fun i h1 h2 h3 => ?_) ?_ (fun t q => by cases q)
        · rw [e0, if_neg h2]
        · rw [e0, if_pos rfl]
      refine okT_mk (b' := setR b1 71 k none) (z' := up2 z1 0 k (-1)) (v := nI (cnD (updF a.1 k none) 26)) ?_ ?_ ?_ ⟨t, (updF a.1 k none, a.2), p1, s, ?_⟩
      · unfold F7_remove F7_requireDefinition
        rw [requireLetter_ok hx, hdo, hx1]
        refine bx_in (b := ()) (v := ()) rfl <| bx_in (b := b) (v := some xx) rfl <| (pr_in (Gr.rf b)).trans <| bn_go e7 <| bn_go (F5_put_eq hk hS.1 (fun _ q => by cases q)) <| bn_go (F5_definedCount_eq hS') rfl
      · unfold F8_remove
        refine bn_go (F8_isLetter_eq _) <| jp_go <| if_go (by rw [hx]; decide) <| bn_go hdf <| if_no (by show ¬ bI true = 0; decide) <| bn2_go (F8_refused0 z) <| if_go rfl <| bn_go e8 <| wr_go rfl (by omega) (by decide) <| bn_go (F8_defined_eq hZ' hW') rfl
      · rw [up2_ne _ (by decide), h7]; exact rfs7 z 0
      · refine hD.cur (hB.of (by rw [up2_ne _ (by decide)]) (up2_ne _ (by decide)) rfl rfl) hW' hZ' ⟨up2_ne _ (by decide), up2_ne _ (by decide), up2_ne _ (by decide), by rw [up2_ne _ (by decide)]⟩ (setR_ext b1) (fun u h1 h2 h3 h4 => ⟨rfl, setR_row _ h4⟩) (fun _ _ _ => rfl) hS' (setR_closed hC (fun _ q => by cases q))
  · have hx' : inB x 0 25 = false := by simpa using hx
    refine okT_x (b' := b) (k := 1) (z' := rfs z 1) (v := 0) ?_ ?_ (by decide) (rfs7 _ _) (h.rfs 1)
    · unfold F7_remove; rw [requireLetter_no hx']; rfl
    · unfold F8_remove
      refine bn_go (F8_isLetter_eq _) <| jp_go <| if_no (by rw [hx']; decide) <| bn2_go (F8_refusedP z 1 (by decide)) <| if_no (by decide) rfl
