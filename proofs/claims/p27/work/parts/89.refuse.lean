/-! PURE: what is refused is refused, and changes nothing -/
theorem inB_no {x lo hi : Int32} (h : ¬ (lo.toInt ≤ x.toInt ∧ x.toInt ≤ hi.toInt)) : inB x lo hi = false := by
  cases e : inB x lo hi with
  | false => rfl
  | true => exact absurd ((inB_iff x lo hi).mp e) h
theorem sub_toInt {x : Int32} {y : Nat} (hx : -1073741824 ≤ x.toInt ∧ x.toInt ≤ 1073741824) (hy : y < 1073741823) : (x - nI y).toInt = x.toInt - y := by
  rw [Int32.toInt_sub, nI_toInt (by omega)]
  apply Int.bmod_eq_of_le <;> omega
theorem add_toInt {x : Int32} {y : Nat} (hx : -1073741824 ≤ x.toInt ∧ x.toInt ≤ 1073741823) (hy : y < 1073741823) : (x + nI y).toInt = x.toInt + y := by
  rw [Int32.toInt_add, nI_toInt (by omega)]
  apply Int.bmod_eq_of_le <;> omega
theorem R_remove {b : BS} {x : Int32} (hx : inB x 0 25 = false) : F7_remove b x = some (b, .inl 1) := by unfold F7_remove; rw [requireLetter_no hx]; rfl
theorem R_exchange1 {b : BS} {x y : Int32} (hx : inB x 0 25 = false) : F7_exchange b x y = some (b, .inl 1) := by unfold F7_exchange; rw [requireLetter_no hx]; rfl
theorem R_exchange2 {b : BS} {x y : Int32} (hx : inB x 0 25 = true) (hy : inB y 0 25 = false) : F7_exchange b x y = some (b, .inl 1) := by unfold F7_exchange; rw [requireLetter_ok hx, requireLetter_no hy]; rfl
theorem R_set {b : BS} {x : Int32} (hx : inB x 1 12 = false) : F7_set b x = some (b, .inl 2) := by
  unfold F7_set
  refine jp_go ?_
  by_cases h1 : x < 1
  · exact if_go h1 rfl
  · refine if_no h1 (if_no (fun h2 => ?_) rfl)
    unfold inB at hx
    rw [decide_eq_true (Int32.not_lt.mp h1), decide_eq_true h2] at hx
    cases hx
theorem R_append {b : BS} {x : Int32} (hx : inB x 33 126 = false) : F7_append b x = some (b, .inl 2) := by
  unfold F7_append
  refine jp_go ?_
  by_cases h1 : x < 33
  · exact if_go h1 rfl
  · refine if_no h1 (if_no (fun h2 => ?_) rfl)
    unfold inB at hx
    rw [decide_eq_true (Int32.not_lt.mp h1), decide_eq_true h2] at hx
    cases hx
theorem R_load {b : BS} {x : Int32} (hx : inB x 0 25 = false) : F7_load b x = some (b, .inl 1) := by unfold F7_load; rw [requireLetter_no hx]; rfl
theorem R_keep {b : BS} {x : Int32} (hx : inB x 0 1 = false) : F7_keep b x = some (b, .inl 2) := by unfold F7_keep; rw [requireSlot_no hx]; rfl
theorem R_goBack {b : BS} {x : Int32} (hx : inB x 0 1 = false) : F7_goBack b x = some (b, .inl 2) := by unfold F7_goBack; rw [requireSlot_no hx]; rfl
theorem R_body1 {b : BS} {x y : Int32} (hx : inB x 0 25 = false) : F7_body b x y = some (b, .inl 1) := by unfold F7_body; rw [requireLetter_no hx]; rfl
theorem R_body2 {b : BS} {x y : Int32} (hx : inB x 0 25 = true) (hy : inB y 0 5 = false) : F7_body b x y = some (b, .inl 2) := by unfold F7_body; rw [requireLetter_ok hx, requireWhat_no hy]; rfl
theorem R_uses1 {b : BS} {x y : Int32} (hx : inB x 0 25 = false) : F7_uses b x y = some (b, .inl 1) := by unfold F7_uses; rw [requireLetter_no hx]; rfl
theorem R_uses2 {b : BS} {x y : Int32} (hx : inB x 0 25 = true) (hy : inB y 0 3 = false) : F7_uses b x y = some (b, .inl 2) := by unfold F7_uses; rw [requireLetter_ok hx, requireWhat_no hy]; rfl
theorem R_chain {b : BS} {x : Int32} (hx : inB x 0 25 = false) : F7_chain b x = some (b, .inl 1) := by unfold F7_chain; rw [requireLetter_no hx]; rfl
theorem R_ifDefined {b : BS} {x : Int32} (hx : inB x 0 25 = false) : F7_ifDefined b x = some (b, .inl 1) := by unfold F7_ifDefined; rw [requireLetter_no hx]; rfl
theorem R_sign {b : BS} {x : Int32} (hx : x < 0) : F7_sign b x = some (b, .inl 2) := by unfold F7_sign; rw [if_neg (Int32.not_le.mpr hx)]
theorem R_result {b : BS} {x : Int32} (hx : inB x 0 7 = false) : F7_result b x = some (b, .inl 2) := by unfold F7_result; rw [requireWhat_no hx]; rfl
theorem R_trace1 {b : BS} {x y : Int32} (hx : x < 0) : F7_trace b x y = some (b, .inl 2) := by unfold F7_trace; rw [if_neg (Int32.not_le.mpr hx)]
theorem R_trace2 {b : BS} {x y : Int32} (hx : (0 : Int32) ≤ x) (hy : inB y 0 5 = false) : F7_trace b x y = some (b, .inl 2) := by unfold F7_trace; rw [if_pos hx, requireWhat_no hy]; rfl
theorem R_length1 {b : BS} {x y : Int32} (hx : inB x 0 25 = false) : F7_lengthOf b x y = some (b, .inl 1) := by unfold F7_lengthOf; rw [requireLetter_no hx]; rfl
theorem R_length2 {b : BS} {x y : Int32} (hx : inB x 0 25 = true) (hy : inB y 0 20 = false) : F7_lengthOf b x y = some (b, .inl 2) := by
  unfold F7_lengthOf
  rw [requireLetter_ok hx]
  refine bx_in (b := ()) (v := ()) rfl <| jp_go ?_
  by_cases h1 : y < 0
  · exact if_go h1 rfl
  · refine if_no h1 (if_no (fun h2 => ?_) rfl)
    unfold inB at hy
    rw [decide_eq_true (Int32.not_lt.mp h1), decide_eq_true h2] at hy
    cases hy
theorem R_count {b : BS} {x : Int32} (hx : inB x 0 7 = false) : F7_count b x = some (b, .inl 2) := by unfold F7_count; rw [requireWhat_no hx]; rfl
theorem R_define {b : BS} {x : Int32} (hx : inB x 0 25 = false) : F7_define b x = some (b, .inl 1) := by unfold F7_define; rw [requireLetter_no hx]; rfl
theorem R_def25 {b : BS} {a : AS} (hW : WA a) (hS : SBb b 70 a) : F7_requireDefinition b 25 = some (b, .inl 3) := by
  have hd := hS.2.1 25 (by decide)
  rw [hW.2.2.2.2.2.1] at hd
  unfold F7_requireDefinition
  exact bn_go (F5_definitionOf_eq (k := 25) hS.1 (by decide)) <| on_no hd rfl
theorem R_remove25 {b : BS} {a : AS} (hW : WA a) (hS : SBb b 70 a) : F7_remove b 25 = some (b, .inl 3) := by
  unfold F7_remove
  rw [requireLetter_ok (by decide)]
  exact bx_in (b := ()) (v := ()) rfl <| bx_out (R_def25 hW hS) rfl
theorem R_load25 {b : BS} {a : AS} (hW : WA a) (hS : SBb b 70 a) : F7_load b 25 = some (b, .inl 3) := by
  unfold F7_load
  rw [requireLetter_ok (by decide)]
  exact bx_in (b := ()) (v := ()) rfl <| bx_out (R_def25 hW hS) rfl
theorem rh_mk {cs : List (Nat × Int32)} {x : Option (BS × (Nat ⊕ Int32))} {b : BS} {k : Nat} {v : Int32} (h : x = some (b, .inl k)) (hv : cs.lookup k = some v) : gx cs x = some (b, v) := by
  rw [h]
  show (cs.lookup k).map (fun c => (b, c)) = _
  rw [hv]; rfl
/-- answers that are told of refused calls -/
noncomputable def ER (P : BS → Prop) (m : Nat) (x y : Int32) : Option Int32 := @dite _ (∃ v, RH P m x y v) (Classical.propDecidable _) (fun h => some (Classical.choose h)) (fun _ => none)
theorem ER_hE {P : BS → Prop} : ∀ m x y v, ER P m x y = some v → RH P m x y v := by
  intro m x y v h
  unfold ER at h
  by_cases c : ∃ v, RH P m x y v
  · rw [dif_pos c] at h
    have := Option.some.inj h
    rw [← this]; exact Classical.choose_spec c
  · rw [dif_neg c] at h; cases h
theorem ER_of {P : BS → Prop} {m : Nat} {x y v : Int32} (hne : ∃ b, P b) (h : RH P m x y v) : ER P m x y = some v := by
  obtain ⟨b, hb⟩ := hne
  have c : ∃ v, RH P m x y v := ⟨v, h⟩
  unfold ER
  rw [dif_pos c]
  obtain ⟨b1, e1, -⟩ := h b hb
  obtain ⟨b2, e2, -⟩ := Classical.choose_spec c b hb
  exact congrArg some (congrArg Prod.snd (Option.some.inj (e1.symm.trans e2))).symm
set_option maxHeartbeats 4000000 in
set_option maxRecDepth 100000 in
theorem refuses_eval {P : BS → Prop} (hne : ∃ b, P b) (hP : ∀ b, P b → ∃ a, WA a ∧ SBb b 70 a) {y : Nat} (hy : y < 100000) : FL_refuses (ER P) (nI y) = some 1 := by
  have st : ∀ (m : Nat) (x w v : Int32), (∀ b, P b → cg m b x w = some (b, v)) → ER P m x w = some v := fun m x w v h => ER_of hne (fun b hb => ⟨b, h b hb, hb⟩)
  have s0 : ∀ x w v : Int32, (∀ b, P b → gx cs_remove (F7_remove b x) = some (b, v)) → ER P 0 x w = some v := fun x w v h => st 0 x w v h
  have s1 : ∀ x w v : Int32, (∀ b, P b → gx cs_exchange (F7_exchange b x w) = some (b, v)) → ER P 1 x w = some v := fun x w v h => st 1 x w v h
  have s2 : ∀ x w v : Int32, (∀ b, P b → gx cs_set (F7_set b x) = some (b, v)) → ER P 2 x w = some v := fun x w v h => st 2 x w v h
  have s3 : ∀ x w v : Int32, (∀ b, P b → gx cs_append (F7_append b x) = some (b, v)) → ER P 3 x w = some v := fun x w v h => st 3 x w v h
  have s4 : ∀ x w v : Int32, (∀ b, P b → gx cs_load (F7_load b x) = some (b, v)) → ER P 4 x w = some v := fun x w v h => st 4 x w v h
  have s5 : ∀ x w v : Int32, (∀ b, P b → gx cs_keep (F7_keep b x) = some (b, v)) → ER P 5 x w = some v := fun x w v h => st 5 x w v h
  have s6 : ∀ x w v : Int32, (∀ b, P b → gx cs_goBack (F7_goBack b x) = some (b, v)) → ER P 6 x w = some v := fun x w v h => st 6 x w v h
  have s7 : ∀ x w v : Int32, (∀ b, P b → gx cs_body (F7_body b x w) = some (b, v)) → ER P 7 x w = some v := fun x w v h => st 7 x w v h
  have s8 : ∀ x w v : Int32, (∀ b, P b → gx cs_uses (F7_uses b x w) = some (b, v)) → ER P 8 x w = some v := fun x w v h => st 8 x w v h
  have s9 : ∀ x w v : Int32, (∀ b, P b → gx cs_chain (F7_chain b x) = some (b, v)) → ER P 9 x w = some v := fun x w v h => st 9 x w v h
  have s10 : ∀ x w v : Int32, (∀ b, P b → gx cs_ifDefined (F7_ifDefined b x) = some (b, v)) → ER P 10 x w = some v := fun x w v h => st 10 x w v h
  have s11 : ∀ x w v : Int32, (∀ b, P b → gx cs_sign (F7_sign b x) = some (b, v)) → ER P 11 x w = some v := fun x w v h => st 11 x w v h
  have s12 : ∀ x w v : Int32, (∀ b, P b → gx cs_result (F7_result b x) = some (b, v)) → ER P 12 x w = some v := fun x w v h => st 12 x w v h
  have s13 : ∀ x w v : Int32, (∀ b, P b → gx cs_trace (F7_trace b x w) = some (b, v)) → ER P 13 x w = some v := fun x w v h => st 13 x w v h
  have s14 : ∀ x w v : Int32, (∀ b, P b → gx cs_lengthOf (F7_lengthOf b x w) = some (b, v)) → ER P 14 x w = some v := fun x w v h => st 14 x w v h
  have s15 : ∀ x w v : Int32, (∀ b, P b → gx cs_count (F7_count b x) = some (b, v)) → ER P 15 x w = some v := fun x w v h => st 15 x w v h
  have s16 : ∀ x w v : Int32, (∀ b, P b → gx cs_define (F7_define b x) = some (b, v)) → ER P 16 x w = some v := fun x w v h => st 16 x w v h
  have m1 : (((-1) : Int32) - nI y).toInt = -1 - y := sub_toInt (by decide) (by omega)
  have ad : ∀ c : Int32, -1073741824 ≤ c.toInt ∧ c.toInt ≤ 1073741823 → (c + nI y).toInt = c.toInt + y := fun c hc => add_toInt hc (by omega)
  have neg : ((-1) : Int32) - nI y < 0 := by
    rw [Int32.lt_iff_toInt_lt, m1]
    show -1 - (y : Int) < 0
    omega
  have low : ∀ lo hi : Int32, 0 ≤ lo.toInt → inB (((-1) : Int32) - nI y) lo hi = false := fun lo hi h => inB_no (by rw [m1]; omega)
  have up : ∀ c lo hi : Int32, -1073741824 ≤ c.toInt ∧ c.toInt ≤ 1073741823 → hi.toInt < c.toInt → inB (c + nI y) lo hi = false := fun c lo hi hc h => inB_no (by rw [ad c hc]; omega)
  have key : ∀ x6 : Int32, inB x6 0 25 = false → ∀ K : Option Int32, K = (bn (ER P 0 x6 0) fun x14 => jp (fun (x196 : Int32) => jp (fun (x235 : Int32) => bz x235 (some x235)) fun k203 => jp (fun (_ : Unit) => k203 0) fun k205 => if x196 = 0 then k205 () else bn (ER P 0 25 0) fun x211 => if ¬ x211 = (-2) then k205 () else bn (ER P 4 25 0) fun x218 => if ¬ x218 = (-2) then k205 () else bn (ER P 16 x6 0) fun x225 => if ¬ x225 = (-3) then k205 () else k203 1) fun k17 => jp (fun (_ : Unit) => k17 0) fun k19 => if ¬ x14 = (-3) then k19 () else bn (ER P 1 x6 0) fun x25 => if ¬ x25 = (-3) then k19 () else bn (ER P 1 0 x6) fun x32 => if ¬ x32 = (-3) then k19 () else bn (ER P 2 0 0) fun x39 => if ¬ x39 = (-2) then k19 () else bn (ER P 2 ((13 : Int32) + nI y) 0) fun x46 => if ¬ x46 = (-2) then k19 () else bn (ER P 3 ((32 : Int32) - nI y) 0) fun x53 => if ¬ x53 = (-2) then k19 () else bn (ER P 3 ((127 : Int32) + nI y) 0) fun x60 => if ¬ x60 = (-2) then k19 () else bn (ER P 4 x6 0) fun x67 => if ¬ x67 = (-3) then k19 () else bn (ER P 5 ((2 : Int32) + nI y) 0) fun x74 => if ¬ x74 = (-2) then k19 () else bn (ER P 5 (((-1) : Int32) - nI y) 0) fun x81 => if ¬ x81 = (-2) then k19 () else bn (ER P 6 ((2 : Int32) + nI y) 0) fun x88 => if ¬ x88 = (-2) then k19 () else bn (ER P 7 x6 0) fun x95 => if ¬ x95 = (-3) then k19 () else bn (ER P 7 0 ((6 : Int32) + nI y)) fun x102 => if ¬ x102 = (-2) then k19 () else bn (ER P 8 x6 0) fun x109 => if ¬ x109 = (-3) then k19 () else bn (ER P 8 0 (((-1) : Int32) - nI y)) fun x116 => if ¬ x116 = (-2) then k19 () else bn (ER P 9 x6 0) fun x123 => if ¬ x123 = (-3) then k19 () else bn (ER P 10 x6 0) fun x130 => if ¬ x130 = (-3) then k19 () else bn (ER P 11 (((-1) : Int32) - nI y) 0) fun x137 => if ¬ x137 = (-2) then k19 () else bn (ER P 12 ((8 : Int32) + nI y) 0) fun x144 => if ¬ x144 = (-2) then k19 () else bn (ER P 13 (((-1) : Int32) - nI y) 0) fun x151 => if ¬ x151 = (-2) then k19 () else bn (ER P 13 0 ((6 : Int32) + nI y)) fun x158 => if ¬ x158 = (-2) then k19 () else bn (ER P 14 x6 0) fun x165 => if ¬ x165 = (-3) then k19 () else bn (ER P 14 0 ((21 : Int32) + nI y)) fun x172 => if ¬ x172 = (-2) then k19 () else bn (ER P 15 ((8 : Int32) + nI y) 0) fun x179 => if ¬ x179 = (-2) then k19 () else bn (ER P 15 (((-1) : Int32) - nI y) 0) fun x186 => if ¬ x186 = (-2) then k19 () else k17 1) → K = some 1 := by
    rintro x6 hx K rfl
    have h32 : inB ((32 : Int32) - nI y) 33 126 = false := inB_no (by rw [sub_toInt (by decide) (by omega)]; show ¬ ((33 : Int) ≤ 32 - y ∧ _); omega)
    have zl : inB (0 : Int32) 0 25 = true := by decide
    refine bn_go (s0 x6 0 (-3) fun b _ => rh_mk (R_remove hx) rfl) <| jp_go <| jp_go <| if_no (fun q => q rfl) <| bn_go (s1 x6 0 (-3) fun b _ => rh_mk (R_exchange1 hx) rfl) <| if_no (fun q => q rfl) <| bn_go (s1 0 x6 (-3) fun b _ => rh_mk (R_exchange2 zl hx) rfl) <| if_no (fun q => q rfl) <| bn_go (s2 0 0 (-2) fun b _ => rh_mk (R_set (by decide)) rfl) <| if_no (fun q => q rfl) <| bn_go (s2 _ 0 (-2) fun b _ => rh_mk (R_set (up 13 1 12 (by decide) (by decide))) rfl) <| if_no (fun q => q rfl) <| bn_go (s3 _ 0 (-2) fun b _ => rh_mk (R_append h32) rfl) <| if_no (fun q => q rfl) <| bn_go (s3 _ 0 (-2) fun b _ => rh_mk (R_append (up 127 33 126 (by decide) (by decide))) rfl) <| if_no (fun q => q rfl) <| bn_go (s4 x6 0 (-3) fun b _ => rh_mk (R_load hx) rfl) <| if_no (fun q => q rfl) ?_
    refine bn_go (s5 _ 0 (-2) fun b _ => rh_mk (R_keep (up 2 0 1 (by decide) (by decide))) rfl) <| if_no (fun q => q rfl) <| bn_go (s5 _ 0 (-2) fun b _ => rh_mk (R_keep (low 0 1 (by decide))) rfl) <| if_no (fun q => q rfl) <| bn_go (s6 _ 0 (-2) fun b _ => rh_mk (R_goBack (up 2 0 1 (by decide) (by decide))) rfl) <| if_no (fun q => q rfl) <| bn_go (s7 x6 0 (-3) fun b _ => rh_mk (R_body1 hx) rfl) <| if_no (fun q => q rfl) <| bn_go (s7 0 _ (-2) fun b _ => rh_mk (R_body2 zl (up 6 0 5 (by decide) (by decide))) rfl) <| if_no (fun q => q rfl) <| bn_go (s8 x6 0 (-3) fun b _ => rh_mk (R_uses1 hx) rfl) <| if_no (fun q => q rfl) <| bn_go (s8 0 _ (-2) fun b _ => rh_mk (R_uses2 zl (low 0 3 (by decide))) rfl) <| if_no (fun q => q rfl) <| bn_go (s9 x6 0 (-3) fun b _ => rh_mk (R_chain hx) rfl) <| if_no (fun q => q rfl) <| bn_go (s10 x6 0 (-3) fun b _ => rh_mk (R_ifDefined hx) rfl) <| if_no (fun q => q rfl) ?_
    refine bn_go (s11 _ 0 (-2) fun b _ => rh_mk (R_sign neg) rfl) <| if_no (fun q => q rfl) <| bn_go (s12 _ 0 (-2) fun b _ => rh_mk (R_result (up 8 0 7 (by decide) (by decide))) rfl) <| if_no (fun q => q rfl) <| bn_go (s13 _ 0 (-2) fun b _ => rh_mk (R_trace1 neg) rfl) <| if_no (fun q => q rfl) <| bn_go (s13 0 _ (-2) fun b _ => rh_mk (R_trace2 (by decide) (up 6 0 5 (by decide) (by decide))) rfl) <| if_no (fun q => q rfl) <| bn_go (s14 x6 0 (-3) fun b _ => rh_mk (R_length1 hx) rfl) <| if_no (fun q => q rfl) <| bn_go (s14 0 _ (-2) fun b _ => rh_mk (R_length2 zl (up 21 0 20 (by decide) (by decide))) rfl) <| if_no (fun q => q rfl) <| bn_go (s15 _ 0 (-2) fun b _ => rh_mk (R_count (up 8 0 7 (by decide) (by decide))) rfl) <| if_no (fun q => q rfl) <| bn_go (s15 _ 0 (-2) fun b _ => rh_mk (R_count (low 0 7 (by decide))) rfl) <| if_no (fun q => q rfl) ?_
    refine jp_go <| jp_go <| if_no (by decide) <| bn_go (s0 25 0 (-2) fun b hb => ?_) <| if_no (fun q => q rfl) <| bn_go (s4 25 0 (-2) fun b hb => ?_) <| if_no (fun q => q rfl) <| bn_go (s16 x6 0 (-3) fun b _ => rh_mk (R_define hx) rfl) <| if_no (fun q => q rfl) <| bz_go (Or.inr rfl) rfl
    · obtain ⟨a, hW, hS⟩ := hP b hb
      exact rh_mk (R_remove25 hW hS) rfl
    · obtain ⟨a, hW, hS⟩ := hP b hb
      exact rh_mk (R_load25 hW hS) rfl
  unfold FL_refuses
  by_cases c : (nI y - nI y / 2 * 2) = 0
  · exact jp_go <| if_no (fun q => q c) (key _ (up 26 0 25 (by decide) (by decide)) _ rfl)
  · exact jp_go <| if_go c (key _ (low 0 25 (by decide)) _ rfl)
