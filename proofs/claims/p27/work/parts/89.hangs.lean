/-! PURE: hangs answers true -/
theorem tb_val {x : Int32} {k : Nat} (hk : k < 26) : (x >>> (nI k &&& 31)) &&& 1 = bI (tb x k) := by
  cases e : tb x k with
  | true => exact (tb_ref hk).mpr e
  | false =>
    have e2 : ∀ k, k < 26 → ((nI k &&& 31).toBitVec.smod 32).toNat = k := by decide
    show (x >>> (nI k &&& 31)) &&& 1 = 0
    rw [← Int32.toBitVec_inj, Int32.toBitVec_and, Int32.toBitVec_shiftRight]
    show BitVec.sshiftRight' x.toBitVec ((nI k &&& 31).toBitVec.smod 32) &&& 1#32 = 0#32
    rw [BitVec.sshiftRight', e2 k hk, BitVec.and_one_eq_setWidth_ofBool_getLsbD]
    rw [BitVec.getLsbD_sshiftRight]
    have : (if k + 0 < 32 then x.toBitVec.getLsbD (k + 0) else x.toBitVec.msb) = tb x k := by rw [if_pos (by omega)]; rfl
    rw [this, e]
    decide
theorem tb_z {x : Int32} (h : ∀ j, tb x j = false) : x = 0 := tb_ext fun j => by rw [h j, tb_0]
/-- kinds of signs are apart -/
theorem chars_le (t : Tx) : hls t + cls t + sml t ≤ t.length := by
  induction t with
  | nil => exact Nat.le_refl _
  | cons c t ih =>
    have e1 : hls (c :: t) = hls t + if decide (c = 63) = true then 1 else 0 := List.countP_cons ..
    have e2 : cls (c :: t) = cls t + if inB c 65 90 = true then 1 else 0 := List.countP_cons ..
    have e3 : sml (c :: t) = sml t + if plB c = true then 1 else 0 := List.countP_cons ..
    rw [e1, e2, e3, List.length_cons]
    have key : (if decide (c = 63) = true then 1 else 0) + (if inB c 65 90 = true then 1 else 0) + (if plB c = true then 1 else 0) ≤ 1 := by
      by_cases hp : plB c = true
      · rw [if_pos hp, if_neg (by rw [decide_eq_false (pl_ne hp).1]; decide), if_neg (by rw [pl_ab hp]; decide)]
        exact Nat.le_refl _
      · rw [if_neg hp]
        by_cases ha : inB c 65 90 = true
        · rw [if_pos ha, if_neg (by rw [decide_eq_false (ab_ne ha).1]; decide)]
          exact Nat.le_refl _
        · rw [if_neg ha]
          split <;> omega
    omega
theorem nst_go (t : Tx) : ∀ (st : List Nat) (hd : Bool) (m : List Nat × Nat × Nat) (n : Nat) (r : Sc), scn t (st, hd) = some r → m.1.length = st.length → m.1.length + (if hd = true then 1 else 0) ≤ n → m.2.2 ≤ n → (msts t m).2.2 ≤ n + cls t := by
  induction t with
  | nil => exact fun st hd m n r _ _ _ h => h
  | cons c t ih =>
    intro st hd m n r hs hl hn hd2
    have e2 : cls (c :: t) = cls t + if inB c 65 90 = true then 1 else 0 := List.countP_cons ..
    have em : msts (c :: t) m = msts t (mst c m) := rfl
    rw [em, e2]
    have hs' : (match stp c (st, hd) with | none => none | some s' => scn t s') = some r := hs
    by_cases h1 : plB c = true ∨ c = 63
    · have e : stp c (st, hd) = some (st, false) := by unfold stp; rw [if_pos h1]
      rw [e] at hs'
      have hab : inB c 65 90 = false := by
        rcases h1 with h1 | h1
        · exact pl_ab h1
        · rw [h1]; decide
      have hne : c ≠ 40 ∧ c ≠ 44 ∧ c ≠ 41 := by
        rcases h1 with h1 | h1
        · exact (pl_ne h1).2
        · rw [h1]; decide
      have e3 : mst c m = m := by unfold mst; rw [if_neg (by rw [hab]; decide), if_neg hne.1, if_neg hne.2.1, if_neg hne.2.2]
      rw [e3, hab, if_neg (by decide), Nat.add_zero]
      exact ih st false m n r hs' hl (by rw [if_neg (by decide)]; omega) hd2
    · by_cases h2 : inB c 65 90 = true
      · have e : stp c (st, hd) = some (st, true) := by unfold stp; rw [if_neg h1, if_pos h2]
        rw [e] at hs'
        have e3 : mst c m = (m.1, m.2.1, max m.2.2 (m.1.length + 1)) := by unfold mst; rw [if_pos h2]
        rw [e3, if_pos h2]
        have := ih st true (m.1, m.2.1, max m.2.2 (m.1.length + 1)) (n + 1) r hs' hl (by rw [if_pos rfl]; dsimp only; omega) (by dsimp only; omega)
        omega
      · have nab : inB c 65 90 = false := by simpa using h2
        rw [if_neg h2, Nat.add_zero]
        by_cases h3 : c = 40
        · subst h3
          have e : stp 40 (st, hd) = if hd = true then some (1 :: st, false) else none := by unfold stp; rw [if_neg h1, if_neg h2, if_pos rfl]
          rw [e] at hs'
          by_cases hh : hd = true
          · rw [if_pos hh] at hs' hn
            have e3 : mst 40 m = (1 :: m.1, max m.2.1 1, m.2.2) := by unfold mst; rw [if_neg h2, if_pos rfl]
            rw [e3]
            exact ih (1 :: st) false _ n r hs' (by rw [List.length_cons, List.length_cons, hl]) (by rw [if_neg (by decide), List.length_cons]; omega) hd2
          · rw [if_neg hh] at hs'; cases hs'
        · by_cases h4 : c = 44
          · subst h4
            cases st with
            | nil =>
              have e : stp 44 (([] : List Nat), hd) = none := by unfold stp; rw [if_neg h1, if_neg h2, if_neg (by decide), if_pos rfl]
              rw [e] at hs'; cases hs'
            | cons a r0 =>
              have e : stp 44 (a :: r0, hd) = if a < 6 then some ((a + 1) :: r0, false) else none := by unfold stp; rw [if_neg h1, if_neg h2, if_neg (by decide), if_pos rfl]
              rw [e] at hs'
              by_cases ha : a < 6
              · rw [if_pos ha] at hs'
                obtain ⟨ml, mr⟩ := m
                cases ml with
                | nil => cases hl
                | cons b mr0 =>
                  have e3 : mst 44 (b :: mr0, mr) = ((b + 1) :: mr0, max mr.1 (b + 1), mr.2) := by unfold mst; rw [if_neg h2, if_neg (by decide), if_pos rfl]
                  rw [e3]
                  refine ih ((a + 1) :: r0) false _ n r hs' ?_ ?_ hd2
                  · rw [List.length_cons, List.length_cons] at hl ⊢; exact hl
                  · rw [if_neg (by decide)]
                    dsimp only at hn ⊢
                    rw [List.length_cons] at hn ⊢
                    omega
              · rw [if_neg ha] at hs'; cases hs'
          · by_cases h5 : c = 41
            · subst h5
              cases st with
              | nil =>
                have e : stp 41 (([] : List Nat), hd) = none := by unfold stp; rw [if_neg h1, if_neg h2, if_neg (by decide), if_neg (by decide), if_pos rfl]
                rw [e] at hs'; cases hs'
              | cons a r0 =>
                have e : stp 41 (a :: r0, hd) = some (r0, false) := by unfold stp; rw [if_neg h1, if_neg h2, if_neg (by decide), if_neg (by decide), if_pos rfl]
                rw [e] at hs'
                have e3 : mst 41 m = (m.1.tail, m.2.1, m.2.2) := by unfold mst; rw [if_neg h2, if_neg (by decide), if_neg (by decide), if_pos rfl]
                rw [e3]
                refine ih r0 false _ n r hs' ?_ ?_ hd2
                · dsimp only; rw [List.length_tail, hl, List.length_cons]; omega
                · rw [if_neg (by decide)]; dsimp only; rw [List.length_tail]; omega
            · have e : stp c (st, hd) = none := by unfold stp; rw [if_neg h1, if_neg h2, if_neg h3, if_neg h4, if_neg h5]
              rw [e] at hs'; cases hs'
theorem nst_le {t : Tx} (h : Cpl t) : nst t ≤ cls t := by
  obtain ⟨hf, hs⟩ := h
  have := nst_go t [] false ([], 0, 0) 0 _ hs rfl (Nat.le_refl _) (Nat.le_refl _)
  unfold nst
  omega
theorem tb_fold (t : Tx) (j : Nat) : ∀ m : Int32, tb (t.foldl (fun m c => m ||| cbit c) m) j = (tb m j || t.any (fun c => tb (cbit c) j)) := by
  induction t with
  | nil => intro m; rw [List.any_nil, Bool.or_false]; rfl
  | cons c t ih =>
    intro m
    rw [List.foldl_cons, ih, tb_or, List.any_cons, Bool.or_assoc]
theorem cld_0 (t : Tx) : cld t = 0 ↔ cls t = 0 := by
  constructor
  · intro h
    refine Classical.byContradiction fun hn => ?_
    have hp : 0 < cls t := Nat.pos_of_ne_zero hn
    obtain ⟨c, hc, hab⟩ := List.countP_pos_iff.mp hp
    obtain ⟨k, hk, rfl, e⟩ := ab_nI hab
    have q : tb (cld t) k = (tb 0 k || t.any (fun c => tb (cbit c) k)) := tb_fold t k 0
    have w : t.any (fun c => tb (cbit c) k) = true := by
      rw [List.any_eq_true]
      refine ⟨_, hc, ?_⟩
      unfold cbit
      rw [if_pos hab, e]
      show tb (one k) k = true
      rw [tb_one hk, decide_eq_true rfl]
    rw [w, Bool.or_true, h, tb_0] at q
    cases q
  · intro h
    apply tb_z
    intro j
    have q : tb (cld t) j = (tb 0 j || t.any (fun c => tb (cbit c) j)) := tb_fold t j 0
    rw [q, tb_0, Bool.false_or]
    cases w : t.any (fun c => tb (cbit c) j) with
    | false => rfl
    | true =>
      obtain ⟨c, hc, hb⟩ := List.any_eq_true.mp w
      unfold cbit at hb
      by_cases hab : inB c 65 90 = true
      · have : 0 < cls t := List.countP_pos_iff.mpr ⟨c, hc, hab⟩
        omega
      · rw [if_neg hab, tb_0] at hb; cases hb
theorem signs_sum {t : Tx} (h : ∀ x ∈ t, sgB x = true) : t.countP plB + t.countP (fun c => decide (c = 35)) + t.countP (fun c => decide (c = 37)) + t.countP (fun c => decide (c = 36)) + t.countP (fun c => decide (c = 63)) = t.length := by
  induction t with
  | nil => rfl
  | cons c t ih =>
    have ih' := ih (fun x hx => h x (List.mem_cons_of_mem _ hx))
    have hc := h c (List.mem_cons_self ..)
    rw [List.countP_cons, List.countP_cons, List.countP_cons, List.countP_cons, List.countP_cons, List.length_cons]
    have key : (if plB c = true then 1 else 0) + (if decide (c = 35) = true then 1 else 0) + (if decide (c = 37) = true then 1 else 0) + (if decide (c = 36) = true then 1 else 0) + (if decide (c = 63) = true then 1 else 0) = 1 := by
      unfold sgB at hc
      by_cases hp : plB c = true
      · have n35 : c ≠ 35 := by rintro rfl; exact absurd hp (by decide)
        have n37 : c ≠ 37 := by rintro rfl; exact absurd hp (by decide)
        have n36 : c ≠ 36 := by rintro rfl; exact absurd hp (by decide)
        rw [if_pos hp, decide_eq_false n35, decide_eq_false n37, decide_eq_false n36, decide_eq_false (pl_ne hp).1]
        rfl
      · have hp' : plB c = false := by simpa using hp
        rw [hp', Bool.false_or, Bool.or_eq_true, Bool.or_eq_true, Bool.or_eq_true, decide_eq_true_iff, decide_eq_true_iff, decide_eq_true_iff, decide_eq_true_iff] at hc
        rw [if_neg hp]
        rcases hc with ((rfl | rfl) | rfl) | rfl <;> decide
    omega
/-- the answers of the class to every question of hangs -/
def HE (E : Nat → Int32 → Int32 → Option Int32) (a : AS) : Prop :=
  (∀ x, inB x 0 7 = true → E 0 x 0 = some (rsV a x)) ∧
  (∀ j : Nat, j < 2 ^ 31 → E 1 (nI j) 0 = some (if a.2.1.1.length ≤ j then -1 else a.2.1.1.getD j 0)) ∧
  (∀ j w : Nat, j < 2 ^ 31 → w ≤ 5 → E 2 (nI j) (nI w) = some (if a.2.1.2.1.length / 6 ≤ j then -1 else a.2.1.2.1.getD (6 * j + w) 0)) ∧
  E 3 0 0 = some (nI (cnD a.1 26)) ∧ E 3 1 0 = some (nI (mkN a.1 26)) ∧ E 3 5 0 = some (nI (smD cls a.1 26)) ∧
  (∀ k, k < 26 → ∀ y, inB y 0 5 = true → E 4 (nI k) y = some (bdV a k y)) ∧
  (∀ k, k < 26 → E 5 (nI k) 0 = some (gs a.1 k) ∧ E 5 (nI k) 1 = some (gth (fun j => rB a.1 k j) 26) ∧ E 5 (nI k) 2 = some (gth (fun x => tb (gs a.1 x) k) 26) ∧ E 5 (nI k) 3 = some (gth (fun x => rB a.1 x k) 26)) ∧
  (∀ k, k < 26 → ∃ c : Int32, (a.1 k = none → c = 0) ∧ ((a.1 k).isSome = true → c ≠ 0) ∧ (Rch (gs a.1) k k → c = -1) ∧ E 6 (nI k) 0 = some c) ∧
  (∀ k, k < 26 → a.1 k = none → E 7 (nI k) 3 = some (-1)) ∧
  E 8 0 0 = some (gth (fun x => rB a.1 x x) 26) ∧ E 9 0 0 = some (orA (gs a.1) 26 &&& (nI (mkN a.1 26) ^^^ (-1)))
theorem and_not_0 {x y : Int32} (h : ∀ j, tb x j = true → tb y j = true) (hx : ∀ j, tb x j = true → j < 26) : x &&& (y ^^^ (-1)) = 0 := by
  apply tb_z
  intro j
  rw [tb_and]
  cases e : tb x j with
  | false => rfl
  | true => rw [tb_not (hx j e), h j e]; rfl
theorem smC_le {a : AS} (hW : WA a) (n : Nat) : smD cls a.1 n ≤ 60 * n := by
  induction n with
  | zero => exact Nat.le_refl _
  | succ n ih =>
    rw [sum_go]
    cases e : a.1 n with
    | none => dsimp only; omega
    | some t =>
      have h1 : cls t ≤ t.length := List.countP_le_length
      have h2 := (hW.1 n t e).2
      dsimp only
      omega
/-- a number is equal to itself -/
theorem cmp0 {x : UInt64} (h : vf_n64 x) : Op.cmpValue (FP.dcmp x x) .l = 0 := by
  have hx : x.toNat % 2 ^ 63 ≤ 9218868437227405312 := by
    have h' := UInt64.le_iff_toNat_le.mp h
    rw [UInt64.toNat_and] at h'
    rw [show (0x7fffffffffffffff : UInt64).toNat = 2 ^ 63 - 1 from rfl, Nat.and_two_pow_sub_one_eq_mod] at h'
    exact h'
  have hd : FP.Core.decode FP.Core.b64 x.toNat ≠ .nan := by
    intro q
    unfold FP.Core.decode at q
    by_cases c1 : FP.Core.fieldE FP.Core.b64 x.toNat = FP.Core.b64.exps - 1
    · rw [if_pos c1] at q
      by_cases c2 : FP.Core.fieldT FP.Core.b64 x.toNat = 0
      · rw [if_pos c2] at q; cases q
      · have e1 : x.toNat / 2 ^ 52 % 2 ^ 11 = 2 ^ 11 - 1 := c1
        have e2 : ¬ x.toNat % 2 ^ 52 = 0 := c2
        omega
    · rw [if_neg c1] at q
      split at q <;> cases q
  have cs : ∀ a : Int, compare a a = .eq := fun a => by simp [compare, compareOfLessAndEq]
  show Op.cmpValue (FP.Core.order (FP.Core.decode FP.Core.b64 x.toNat) (FP.Core.decode FP.Core.b64 x.toNat)) .l = 0
  cases e : FP.Core.decode FP.Core.b64 x.toNat with
  | nan => exact absurd e hd
  | inf s =>
    show Op.cmpValue (some (compare _ _)) .l = 0
    rw [cs]; rfl
  | fin s c q =>
    show Op.cmpValue (some (compare _ _)) .l = 0
    rw [cs]; rfl
theorem one_ne : ¬ (1 : Int32) = 0 := by decide
theorem mn_cmp {a : AS} (hW : WA a) : Op.cmpValue (FP.dcmp (mnV a) (mnV a)) .l = 0 := by
  unfold mnV
  by_cases q : cnD a.1 26 = 0
  · rw [if_pos q]; exact cmp0 (by unfold vf_n64; decide +kernel)
  · rw [if_neg q]; exact cmp0 (mean_n64 (mn_dv hW q))
set_option maxHeartbeats 4000000 in
set_option maxRecDepth 100000 in
theorem hangs_eval {E : Nat → Int32 → Int32 → Option Int32} {a : AS} (hW : WA a) (hE : HE E a) : FL_hangs E (mnV a) = some 1 := by
  obtain ⟨eR, eS, eT, eC0, eC1, eC5, eB, eU, eH, eL, eG, eM⟩ := hE
  obtain ⟨hsg, E5, dp, hE60, hd12, hE5, hdp, hT1, hT2, hT3, hT4⟩ := hW.2.2.2.2.2.2
  have hs200 := hW.2.2.1
  have ht360 := hW.2.2.2.1
  obtain ⟨n, hn⟩ : ∃ n, n = a.2.1.1.length := ⟨_, rfl⟩
  obtain ⟨tr, htr⟩ : ∃ tr, tr = a.2.1.2.1.length / 6 := ⟨_, rfl⟩
  rw [← htr] at hT1 hT2 hT3 hT4
  have tr60 : tr ≤ 60 := by omega
  have e0 : E 0 0 0 = some (nI n) := by rw [hn]; exact eR 0 (by decide)
  have e7 : E 0 7 0 = some (nI tr) := by rw [htr]; exact eR 7 (by decide)
  have e5 : E 0 5 0 = some (nI E5) := by rw [← hE5]; exact eR 5 (by decide)
  have e6 : E 0 6 0 = some (nI dp) := by rw [← hdp]; exact eR 6 (by decide)
  have e1 : E 0 1 0 = some (nI (a.2.1.1.countP (fun c => decide (c = 35)))) := eR 1 (by decide)
  have e2 : E 0 2 0 = some (nI (a.2.1.1.countP (fun c => decide (c = 37)))) := eR 2 (by decide)
  have e3 : E 0 3 0 = some (nI (a.2.1.1.countP (fun c => decide (c = 36)))) := eR 3 (by decide)
  have e4 : E 0 4 0 = some (nI (a.2.1.1.countP (fun c => decide (c = 63)))) := eR 4 (by decide)
  have sn : E 1 (nI n) 0 = some (-1) := by
    have := eS n (by omega)
    rw [if_pos (by omega)] at this; exact this
  have tn : E 2 (nI tr) 0 = some (-1) := by
    have := eT tr 0 (by omega) (by decide)
    rw [if_pos (by omega)] at this; exact this
  have n200 : n ≤ 200 := by omega
  have c60 := smC_le hW 26
  unfold FL_hangs
  refine bn_go e0 <| bn_go e7 <| bn_go e5 <| jp_go <| jp_go <| jp_go <| if_no (nI_pos (by omega)) <| if_no (nI_nlt (a := 200) (by omega) (by omega)) <| if_no (nI_pos (by omega)) <| if_no (nI_nlt (a := 60) (by omega) (by omega)) <| if_no (nI_pos (by omega)) <| if_no (nI_nlt (a := 60) (by omega) (by omega)) <| bn_go e6 <| if_no (nI_pos (by omega)) <| bn_go e6 <| if_no (nI_nlt (a := 12) (by omega) (by omega)) <| bn_go sn <| if_no (fun q => q rfl) <| bn_go tn <| if_no (fun q => q rfl) ?_
  -- the signs
  refine Loop_seq (fun j => (nI j, nI ((a.2.1.1.take j).countP plB), nI j)) n (fun j hj => ?_) ?_
  · have es : E 1 (nI j) 0 = some (a.2.1.1.getD j 0) := by
      have := eS j (by omega)
      rw [if_neg (by omega)] at this; exact this
    have next : ∀ p : Bool, plB (a.2.1.1.getD j 0) = p → (bd (nI ((a.2.1.1.take j).countP plB) + bI p) fun x135 => bd (nI j + 1) fun x139 => bd (nI j + 1) fun x143 => (some (Sum.inl (x139, x135, x143)) : Option ((Int32 × Int32 × Int32) ⊕ Int32))) = some (Sum.inl (nI (j + 1), nI ((a.2.1.1.take (j + 1)).countP plB), nI (j + 1))) := by
      intro p hp
      refine bd_go <| bd_go <| bd_go ?_
      rw [nI_1, nI_bI, take_s (by omega), List.countP_append, List.countP_singleton, hp]
    refine jp_go <| if_no (nI_ge hj (by omega)) <| if_no one_ne <| bn_go es <| jp_go <| jp_go <| jp_go ?_
    by_cases c1 : a.2.1.1.getD j 0 < 97
    · refine if_go c1 ?_
      by_cases c2 : a.2.1.1.getD j 0 = 95
      · refine if_no (fun q => q c2) (next true ?_)
        rw [c2]; decide
      · refine if_go c2 (next false ?_)
        unfold plB inB
        rw [decide_eq_false (Int32.not_le.mpr c1), decide_eq_false c2]; rfl
    · refine if_no c1 ?_
      by_cases c3 : a.2.1.1.getD j 0 ≤ 122
      · refine if_go c3 (next true ?_)
        unfold plB inB
        rw [decide_eq_true (Int32.not_lt.mp c1), decide_eq_true c3]; rfl
      · refine if_no c3 ?_
        have c2 : a.2.1.1.getD j 0 ≠ 95 := by
          intro q; rw [q] at c1; exact c1 (by decide)
        refine if_go c2 (next false ?_)
        unfold plB inB
        rw [decide_eq_false c3, decide_eq_false c2, Bool.and_false]; rfl
  -- the trace
  have sum := signs_sum hsg
  refine jp_go <| if_go (nI_le (Nat.le_refl _) (by omega)) <| jp_go <| jp_go <| if_no one_ne <| bn_go e1 <| bn_go e2 <| bn_go e3 <| bn_go e4 <| if_no ?_ ?_
  · rw [hn, List.take_length, nI_add, nI_add, nI_add, nI_add]
    intro q
    exact q (congrArg nI (by omega))
  refine Loop_seq (fun j => (1, nI (enC a.2.1.2.1 j), nI (enM a.2.1.2.1 j), nI j)) tr (fun j hj => ?_) ?_
  · obtain ⟨k, e, o, m, w, g, q1, q2, q3, q4, q5, q6, q7, g0, g1, g2, g3, g4, g5⟩ := hT1 j hj
    have ev : ∀ i, i ≤ 5 → E 2 (nI j) (nI i) = some (a.2.1.2.1.getD (6 * j + i) 0) := fun i hi => by
      have := eT j i (by omega) hi
      rw [if_neg (by omega)] at this; exact this
    have f0 : E 2 (nI j) 0 = some (nI k) := (ev 0 (by decide)).trans (congrArg some g0)
    have f1 : E 2 (nI j) 1 = some (nI e) := (ev 1 (by decide)).trans (congrArg some g1)
    have f2 : E 2 (nI j) 2 = some (nI o) := (ev 2 (by decide)).trans (congrArg some g2)
    have f3 : E 2 (nI j) 3 = some (nI m) := (ev 3 (by decide)).trans (congrArg some g3)
    have f4 : E 2 (nI j) 4 = some (nI w) := (ev 4 (by decide)).trans (congrArg some g4)
    have f5 : E 2 (nI j) 5 = some (nI g) := (ev 5 (by decide)).trans (congrArg some g5)
    have cC : enC a.2.1.2.1 (j + 1) = enC a.2.1.2.1 j + (if e = 0 then 1 else 0) := by
      show enC a.2.1.2.1 j + (if a.2.1.2.1.getD (6 * j + 1) 0 = 0 then 1 else 0) = _
      rw [g1]
      by_cases q : e = 0
      · rw [if_pos q, if_pos ((nI_z q2).mpr q)]
      · rw [if_neg q, if_neg (fun w => q ((nI_z q2).mp w))]
    have cM : enM a.2.1.2.1 (j + 1) = if e = 0 then max (enM a.2.1.2.1 j) (o + 1) else enM a.2.1.2.1 j := by
      show (if a.2.1.2.1.getD (6 * j + 1) 0 = 0 then max (enM a.2.1.2.1 j) ((a.2.1.2.1.getD (6 * j + 2) 0).toNatClampNeg + 1) else enM a.2.1.2.1 j) = _
      rw [g1, g2, nI_clamp (by omega)]
      by_cases q : e = 0
      · rw [if_pos q, if_pos ((nI_z q2).mpr q)]
      · rw [if_neg q, if_neg (fun w => q ((nI_z q2).mp w))]
    have mono : ∀ i, i ≤ j → enM a.2.1.2.1 i ≤ 13 ∧ enC a.2.1.2.1 i ≤ i := by
      intro i
      induction i with
      | zero => exact fun _ => ⟨Nat.zero_le _, Nat.zero_le _⟩
      | succ i ih =>
        intro hi
        obtain ⟨r1, r2⟩ := ih (by omega)
        obtain ⟨k', e', o', m', w', g', p1, p2, p3, p4, p5, p6, p7, h0, h1, h2, h3, h4, h5⟩ := hT1 i (by omega)
        constructor
        · show (if a.2.1.2.1.getD (6 * i + 1) 0 = 0 then max (enM a.2.1.2.1 i) ((a.2.1.2.1.getD (6 * i + 2) 0).toNatClampNeg + 1) else enM a.2.1.2.1 i) ≤ 13
          rw [h2, nI_clamp (by omega)]
          split <;> omega
        · show enC a.2.1.2.1 i + _ ≤ i + 1
          split <;> omega
    have mM := (mono j (Nat.le_refl _)).1
    have mC := (mono j (Nat.le_refl _)).2
    refine jp_go <| if_no (nI_ge hj (by omega)) <| if_no one_ne <| bn_go f1 <| bn_go f2 <| jp_go <| jp_go <| if_no (nI_pos (by omega)) <| if_no (nI_ge (b := 4) q2 (by decide)) <| bn_go f0 <| if_no (nI_pos (by omega)) <| bn_go f0 <| if_no (nI_ge (b := 26) q1 (by decide)) <| if_no (nI_pos (by omega)) <| if_no (nI_nlt (a := 12) q3 (by decide)) <| bn_go f3 <| if_no (nI_pos (by omega)) <| bn_go f3 <| if_no (nI_nlt (a := 6) q4 (by decide)) <| jp_go ?_
    have tail : ∀ z : Option ((Int32 × Int32 × Int32 × Int32) ⊕ ((Int32 × Int32 × Int32) ⊕ Int32)), (bn (E 2 (nI j) 4) fun x290 => if (200 : Int32) < x290 then z else bn (E 2 (nI j) 5) fun x297 => if x297 < 0 then z else bn (E 2 (nI j) 5) fun x304 => bn (E 2 (nI j) 3) fun x308 => if ((200 : Int32) * x308) < x304 then z else (jp (fun (x330 : Int32) => bd (nI (enC a.2.1.2.1 j) + x330) fun x335 => jp (fun (x353 : Int32) => bd (nI j + 1) fun x360 => some (.inl (1, x335, x353, x360))) fun k339 => jp (fun (_ : Unit) => k339 (nI (enM a.2.1.2.1 j))) fun k341 => if ¬ nI e = 0 then k341 () else if (nI o + 1) ≤ nI (enM a.2.1.2.1 j) then k341 () else k339 (nI o + 1)) fun k325 => if ¬ nI e = 0 then k325 0 else k325 1)) = some (.inl (1, nI (enC a.2.1.2.1 (j + 1)), nI (enM a.2.1.2.1 (j + 1)), nI (j + 1))) := by
      intro z
      refine bn_go f4 <| if_no (nI_nlt (a := 200) q5 (by decide)) <| bn_go f5 <| if_no (nI_pos (by omega)) <| bn_go f5 <| bn_go f3 <| if_no ?_ <| jp_go ?_
      · show ¬ nI 200 * nI m < nI g
        rw [nI_mul]; exact nI_nlt q6 (by omega)
      · by_cases q : e = 0
        · refine if_no (fun w => w ((nI_z q2).mpr q)) <| bd_go <| jp_go <| jp_go <| if_no (fun w => w ((nI_z q2).mpr q)) ?_
          rw [if_pos q] at cC cM
          rw [nI_1, cC, cM, nI_1]
          by_cases c : o + 1 ≤ enM a.2.1.2.1 j
          · refine if_go (nI_le c (by omega)) <| bd_go ?_
            rw [nI_1, Nat.max_eq_left c]
          · refine if_no (nI_ge (by omega) (by omega)) <| bd_go ?_
            rw [nI_1, Nat.max_eq_right (by omega)]
        · refine if_go (fun w => q ((nI_z q2).mp w)) <| bd_go <| jp_go <| jp_go <| if_go (fun w => q ((nI_z q2).mp w)) <| bd_go ?_
          rw [if_neg q] at cC cM
          rw [nI_1, cC, cM, Int32.add_zero]; rfl
    by_cases q : e = 0
    · exact if_no (fun w => w ((nI_z q2).mpr q)) <| bn_go f4 <| if_no (nI_pos (by omega)) <| tail _
    · exact if_go (fun w => q ((nI_z q2).mp w)) <| bn_go f4 <| if_no (fun w => w (by rw [q7 q]; rfl)) <| tail _
  -- the definitions
  have mid : ∀ z y : Option ((Int32 × Int32 × Int32 × Int32) ⊕ ((Int32 × Int32 × Int32) ⊕ Int32)), (if (60 : Int32) ≤ nI tr then (if nI E5 < nI (enC a.2.1.2.1 tr) then z else bn (E 0 6 0) fun x384 => if x384 < nI (enM a.2.1.2.1 tr) then z else y) else if ¬ nI (enC a.2.1.2.1 tr) = nI E5 then z else bn (E 0 6 0) fun x394 => if ¬ nI (enM a.2.1.2.1 tr) = x394 then z else y) = y := by
    intro z y
    by_cases c : 60 ≤ tr
    · exact if_go (nI_le c (by omega)) <| if_no (nI_nlt hT3 (by omega)) <| bn_go e6 <| if_no (nI_nlt hT4 (by omega)) rfl
    · obtain ⟨r1, r2⟩ := hT2 (by omega)
      exact if_no (nI_ge (b := 60) (by omega) (by decide)) <| if_no (fun q => q (by rw [r1])) <| bn_go e6 <| if_no (fun q => q (by rw [r2])) rfl
  refine jp_go <| if_go (nI_le (Nat.le_refl _) (by omega)) <| jp_go <| jp_go <| if_no one_ne <| jp_go <| (mid _ _).trans ?_
  refine Loop_seq (fun k => (1, nI (cnD a.1 k), nI (smD cls a.1 k), nI (smD hls a.1 k), nI k)) 26 (fun k hk => ?_) ?_
  · obtain ⟨u0, u1, u2, u3⟩ := eU k hk
    obtain ⟨c, c0, cn, c1, ech⟩ := eH k hk
    have hb : (nI (mkN a.1 26) >>> (nI k &&& 31)) &&& 1 = bI (a.1 k).isSome := by
      rw [tb_val hk, tb_mk, decide_eq_true hk, Bool.true_and]
    have ring : (gth (fun x => rB a.1 x x) 26 >>> (nI k &&& 31)) &&& 1 = bI (rB a.1 k k) := by
      rw [tb_val hk, tb_gth _ (Nat.le_refl _), decide_eq_true hk, Bool.true_and]
    have r1 : (gth (fun j => rB a.1 k j) 26 >>> (nI k &&& 31)) &&& 1 = bI (rB a.1 k k) := by
      rw [tb_val hk, tb_gth _ (Nat.le_refl _), decide_eq_true hk, Bool.true_and]
    have r3 : (gth (fun x => rB a.1 x k) 26 >>> (nI k &&& 31)) &&& 1 = bI (rB a.1 k k) := by
      rw [tb_val hk, tb_gth _ (Nat.le_refl _), decide_eq_true hk, Bool.true_and]
    have s01 : gs a.1 k &&& (gth (fun j => rB a.1 k j) 26 ^^^ (-1)) = 0 := by
      refine and_not_0 (fun j hj => ?_) (fun j hj => (tb_gs hj).2.2)
      rw [tb_gth _ (Nat.le_refl _), decide_eq_true (tb_gs hj).2.2, Bool.true_and]
      exact rB_iff.mpr (Rch.one hj)
    have s23 : gth (fun x => tb (gs a.1 x) k) 26 &&& (gth (fun x => rB a.1 x k) 26 ^^^ (-1)) = 0 := by
      refine and_not_0 (fun j hj => ?_) (fun j hj => ?_)
      · rw [tb_gth _ (Nat.le_refl _), Bool.and_eq_true] at hj ⊢
        exact ⟨hj.1, rB_iff.mpr (Rch.one hj.2)⟩
      · rw [tb_gth _ (Nat.le_refl _), Bool.and_eq_true, decide_eq_true_iff] at hj
        exact hj.1
    -- the last questions of a letter
    have last : ∀ (x2 x3 x4 : Int32) (z : Option ((Int32 × Int32 × Int32 × Int32 × Int32) ⊕ ((Int32 × Int32 × Int32 × Int32) ⊕ ((Int32 × Int32 × Int32) ⊕ Int32)))), (bn (E 5 (nI k) 0) fun x649 => bn (E 5 (nI k) 1) fun x653 => if ¬ (x649 &&& (x653 ^^^ (-1))) = 0 then z else bn (E 5 (nI k) 2) fun x660 => bn (E 5 (nI k) 3) fun x664 => if ¬ (x660 &&& (x664 ^^^ (-1))) = 0 then z else bn (E 5 (nI k) 1) fun x671 => if ¬ ((x671 >>> (nI k &&& 31)) &&& 1) = bI (rB a.1 k k) then z else bn (E 5 (nI k) 3) fun x678 => if ¬ ((x678 >>> (nI k &&& 31)) &&& 1) = bI (rB a.1 k k) then z else jp (fun (_ : Unit) => bd (nI k + 1) fun x711 => some (.inl (1, x2, x3, x4, x711))) fun k684 => if bI (rB a.1 k k) = 0 then k684 () else bn (E 6 (nI k) 0) fun x690 => if ¬ x690 = (-1) then z else k684 ()) = some (.inl (1, x2, x3, x4, nI (k + 1))) := by
      intro x2 x3 x4 z
      refine bn_go u0 <| bn_go u1 <| if_no (fun q => q s01) <| bn_go u2 <| bn_go u3 <| if_no (fun q => q s23) <| bn_go u1 <| if_no (fun q => q r1) <| bn_go u3 <| if_no (fun q => q r3) <| jp_go ?_
      have fin : (bd (nI k + 1) fun x711 => (some (.inl (1, x2, x3, x4, x711)) : Option ((Int32 × Int32 × Int32 × Int32 × Int32) ⊕ ((Int32 × Int32 × Int32 × Int32) ⊕ ((Int32 × Int32 × Int32) ⊕ Int32))))) = some (.inl (1, x2, x3, x4, nI (k + 1))) := bd_go (by rw [nI_1])
      cases e : rB a.1 k k with
      | false => exact if_go rfl fin
      | true => exact if_no one_ne <| bn_go ech <| if_no (fun q => q (c1 (rB_iff.mp e))) fin
    refine jp_go <| if_no (nI_ge (b := 26) hk (by decide)) <| if_no one_ne <| bn_go eC1 <| jp_go ?_
    have hS1 : smD cls a.1 (k + 1) = smD cls a.1 k + (match a.1 k with | none => 0 | some t => cls t) := sum_go k
    have hS2 : smD hls a.1 (k + 1) = smD hls a.1 k + (match a.1 k with | none => 0 | some t => hls t) := sum_go k
    have hC : cnD a.1 (k + 1) = cnD a.1 k + dB a.1 k := rfl
    cases e : a.1 k with
    | none =>
      rw [e] at hS1 hS2 hb
      have hd : dB a.1 k = 0 := by unfold dB; rw [e]; rfl
      rw [hd] at hC
      have b0 : ∀ y, inB y 0 5 = true → E 4 (nI k) y = some (-1) := fun y hy => by rw [eB k hk y hy, bdV_none e]
      have g0 : gs a.1 k = 0 := gs_none e
      have g1 : gth (fun j => rB a.1 k j) 26 = 0 := by
        apply tb_z
        intro j
        rw [tb_gth _ (Nat.le_refl _)]
        cases q : rB a.1 k j with
        | false => exact Bool.and_false _
        | true =>
          have := (rB_iff.mp q).def.2
          rw [e] at this; cases this
      refine if_go (by rw [hb]; decide) <| jp_go <| if_go rfl <| bd_go <| jp_go <| if_go rfl <| bd_go <| jp_go <| if_go rfl <| bd_go <| bn_go eG <| bd_go <| jp_go <| if_go rfl <| bn_go (b0 0 (by decide)) <| jp_go <| if_no (fun q => q rfl) <| bn_go u0 <| if_no (fun q => q g0) <| bn_go u1 <| if_no (fun q => q g1) <| bn_go ech <| if_no (fun q => q (c0 e)) <| bn_go (eL k hk e) <| if_no (fun q => q rfl) <| jp_go <| jp_go <| if_no one_ne ?_
      rw [ring, hC, hS1, hS2]
      refine (last _ _ _ _).trans ?_
      rw [Int32.add_zero, Int32.add_zero, Int32.add_zero]
      rfl
    | some t =>
      rw [e] at hS1 hS2 hb
      have hd : dB a.1 k = 1 := by unfold dB; rw [e]; rfl
      rw [hd] at hC
      have hcp := hW.1 k t e
      have hch := chars_le t
      have hns := nst_le hcp.1
      have b0 : E 4 (nI k) 0 = some (nI t.length) := by rw [eB k hk 0 (by decide), bdV_some e]; rfl
      have b1 : E 4 (nI k) 1 = some (nI (hls t)) := by rw [eB k hk 1 (by decide), bdV_some e]; rfl
      have b2 : E 4 (nI k) 2 = some (nI (cls t)) := by rw [eB k hk 2 (by decide), bdV_some e]; rfl
      have b4 : E 4 (nI k) 4 = some (nI (nst t)) := by rw [eB k hk 4 (by decide), bdV_some e]; rfl
      have b5 : E 4 (nI k) 5 = some (nI (sml t)) := by rw [eB k hk 5 (by decide), bdV_some e]; rfl
      have g0 : gs a.1 k = cld t := gs_some hk e
      have i1 : (some t).isSome = true := rfl
      rw [i1] at hb
      have hcn : c ≠ 0 := cn (by rw [e]; rfl)
      refine if_no (fun q => q hb) <| jp_go <| if_no one_ne <| bd_go <| jp_go <| if_no one_ne <| bn_go b2 <| bd_go <| jp_go <| if_no one_ne <| bn_go b1 <| bd_go <| bn_go eG <| bd_go <| jp_go <| if_no one_ne <| bn_go b0 <| bn_go b1 <| bn_go b2 <| bn_go b5 <| jp_go <| if_no ?_ <| bn_go b4 <| bn_go b2 <| if_no (nI_nlt hns (by omega)) <| bn_go b2 <| jp_go ?_
      · rw [nI_add, nI_add]; exact nI_nlt (by omega) (by omega)
      · have rest : ∀ z : Option ((Int32 × Int32 × Int32 × Int32 × Int32) ⊕ ((Int32 × Int32 × Int32 × Int32) ⊕ ((Int32 × Int32 × Int32) ⊕ Int32))), ∀ x2 x3 x4 : Int32, x2 = nI (cnD a.1 (k + 1)) → x3 = nI (smD cls a.1 (k + 1)) → x4 = nI (smD hls a.1 (k + 1)) → (bn (E 6 (nI k) 0) fun x624 => if x624 = 0 then z else (jp (fun (x704 : Int32) => bd (nI k + 1) fun x711 => (some (.inl (x704, x2, x3, x4, x711)) : Option ((Int32 × Int32 × Int32 × Int32 × Int32) ⊕ ((Int32 × Int32 × Int32 × Int32) ⊕ ((Int32 × Int32 × Int32) ⊕ Int32))))) fun k641 => jp (fun (_ : Unit) => k641 0) fun k643 => if (1 : Int32) = 0 then k643 () else bn (E 5 (nI k) 0) fun x649 => bn (E 5 (nI k) 1) fun x653 => if ¬ (x649 &&& (x653 ^^^ (-1))) = 0 then k643 () else bn (E 5 (nI k) 2) fun x660 => bn (E 5 (nI k) 3) fun x664 => if ¬ (x660 &&& (x664 ^^^ (-1))) = 0 then k643 () else bn (E 5 (nI k) 1) fun x671 => if ¬ ((x671 >>> (nI k &&& 31)) &&& 1) = ((gth (fun x => rB a.1 x x) 26 >>> (nI k &&& 31)) &&& 1) then k643 () else bn (E 5 (nI k) 3) fun x678 => if ¬ ((x678 >>> (nI k &&& 31)) &&& 1) = ((gth (fun x => rB a.1 x x) 26 >>> (nI k &&& 31)) &&& 1) then k643 () else jp (fun (_ : Unit) => k641 1) fun k684 => if ((gth (fun x => rB a.1 x x) 26 >>> (nI k &&& 31)) &&& 1) = 0 then k684 () else bn (E 6 (nI k) 0) fun x690 => if ¬ x690 = (-1) then k643 () else k684 ())) = some (.inl (1, nI (cnD a.1 (k + 1)), nI (smD cls a.1 (k + 1)), nI (smD hls a.1 (k + 1)), nI (k + 1))) := by
          rintro z x2 x3 x4 rfl rfl rfl
          refine bn_go ech <| if_no hcn <| jp_go <| jp_go <| if_no one_ne ?_
          rw [ring]
          exact last _ _ _ _
        have v2 : nI (cnD a.1 k) + 1 = nI (cnD a.1 (k + 1)) := by rw [hC, nI_1]
        have v3 : nI (smD cls a.1 k) + nI (cls t) = nI (smD cls a.1 (k + 1)) := by rw [hS1, nI_add]
        have v4 : nI (smD hls a.1 k) + nI (hls t) = nI (smD hls a.1 (k + 1)) := by rw [hS2, nI_add]
        by_cases q : cls t = 0
        · refine if_go (by rw [q]; decide) <| bn_go u0 <| jp_go <| if_go (by rw [g0]; exact (cld_0 t).mpr q) <| if_no (fun w => w rfl) ?_
          exact rest _ _ _ _ v2 v3 v4
        · refine if_no (nI_nle (by omega) (by omega)) <| bn_go u0 <| jp_go <| if_no (by rw [g0]; exact fun w => q ((cld_0 t).mp w)) <| if_no (fun w => w rfl) ?_
          exact rest _ _ _ _ v2 v3 v4
  -- the end
  have cn26 := cnD_le a.1 26
  have miss : (orA (gs a.1) 26 &&& (nI (mkN a.1 26) ^^^ (-1))) &&& nI (mkN a.1 26) = 0 := by
    apply tb_z
    intro j
    rw [tb_and, tb_and]
    by_cases hj : j < 26
    · rw [tb_not hj]
      cases tb (nI (mkN a.1 26)) j
      · rw [Bool.and_false]
      · rw [Bool.not_true, Bool.and_false, Bool.false_and]
    · rw [tb_mk, decide_eq_false hj, Bool.false_and, Bool.and_false]
  have fin : ∀ z : Option ((Int32 × Int32 × Int32 × Int32 × Int32) ⊕ ((Int32 × Int32 × Int32 × Int32) ⊕ ((Int32 × Int32 × Int32) ⊕ Int32))), (if ¬ (Op.cmpValue (FP.dcmp (mnV a) (mnV a)) .l) = 0 then z else bn (E 9 0 0) fun x759 => bn (E 3 1 0) fun x763 => if ¬ (x759 &&& x763) = 0 then z else bz (1 : Int32) (some (.inr (.inr (.inr 1))))) = some (.inr (.inr (.inr 1))) := by
    intro z
    exact if_no (fun q => q (mn_cmp hW)) <| bn_go eM <| bn_go eC1 <| if_no (fun q => q miss) <| bz_go (Or.inr rfl) rfl
  refine jp_go <| if_go (show (26 : Int32) ≤ nI 26 by decide) <| jp_go <| jp_go <| if_no one_ne <| bn_go eC0 <| if_no (fun q => q rfl) <| bn_go eC5 <| if_no (fun q => q rfl) <| jp_go ?_
  by_cases q : cnD a.1 26 = 0
  · have ev : mnV a = FP.dconst0 := if_pos q
    refine if_no (fun w => w (by rw [q]; rfl)) ?_
    have := fin
    rw [← ev]
    exact fin _
  · have ev : mnV a = FP.ddiv (FP.i2d (nI (smD hls a.1 26))) (FP.i2d (nI (cnD a.1 26))) := if_neg q
    refine if_go (nI_ne0 (by omega) (by omega)) <| (pr_in (mn_dv hW q)).trans ?_
    rw [← ev]
    exact fin _
