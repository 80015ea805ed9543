/-! PURE: the class's answers to questions, as numbers of the abstract state -/
theorem SBb.oc {b : BS} {a : AS} (hS : SBb b 70 a) : ∃ o : Nat, b.2.1 70 1 = some o ∧ OCb b o a.2.1 ∧ 100 ≤ o := by
  obtain ⟨o, h1, h2⟩ := hS.2.2.1
  exact ⟨o, h1, h2, (kd3 (okB_2 h2.1)).1⟩
theorem V_sign {b : BS} {a : AS} (hW : WA a) (hS : SBb b 70 a) {j : Nat} (hj : j < 2 ^ 31) : F7_sign b (nI j) = some (b, .inr (if a.2.1.1.length ≤ j then -1 else a.2.1.1.getD j 0)) := by
  obtain ⟨o, ho, hO, h100⟩ := hS.oc
  have hs200 := hW.2.2.1
  have hln : lnB b.2.2 (o + 1) = a.2.1.1.length := (lnB_dyn (by omega)).trans hO.2.1
  unfold F7_sign
  rw [if_pos (nI_pos' hj)]
  simp only [bd, ho, de]
  rw [ck_t hO.1]
  simp only [jp]
  rw [hln]
  by_cases c : a.2.1.1.length ≤ j
  · rw [if_pos c, if_pos ((nI_leI (by omega) hj).mpr c)]
  · rw [if_neg c, if_neg (fun q => c ((nI_leI (by omega) hj).mp q)), rd_nI (by omega) (by omega), hO.2.2.1 j (by omega)]
def rsV (a : AS) (x : Int32) : Int32 := if x = 0 then nI a.2.1.1.length else if x = 1 then nI (a.2.1.1.countP (fun c => decide (c = 35))) else if x = 2 then nI (a.2.1.1.countP (fun c => decide (c = 37))) else if x = 3 then nI (a.2.1.1.countP (fun c => decide (c = 36))) else if x = 4 then nI (a.2.1.1.countP (fun c => decide (c = 63))) else if x = 5 then a.2.1.2.2.1 else if x = 6 then a.2.1.2.2.2 else nI (a.2.1.2.1.length / 6)
theorem V_result {b : BS} {a : AS} (hW : WA a) (hS : SBb b 70 a) {x : Int32} (hx : inB x 0 7 = true) : F7_result b x = some (b, .inr (rsV a x)) := by
  obtain ⟨o, ho, hO, h100⟩ := hS.oc
  obtain ⟨-, -, hs200, ht360, ht6, -⟩ := hW
  have hln : lnB b.2.2 (o + 1) = a.2.1.1.length := (lnB_dyn (by omega)).trans hO.2.1
  have hln2 : lnB b.2.2 (o + 2) = a.2.1.2.1.length := (lnB_dyn (by omega)).trans hO.2.2.2.1
  have h7 : F7_result b x = (if x = 0 then some (b, .inr (nI a.2.1.1.length)) else if x = 1 then some (b, .inr (nI (a.2.1.1.countP (fun c => decide (c = 35))))) else if x = 2 then some (b, .inr (nI (a.2.1.1.countP (fun c => decide (c = 37))))) else if x = 3 then some (b, .inr (nI (a.2.1.1.countP (fun c => decide (c = 36))))) else if x = 4 then some (b, .inr (nI (a.2.1.1.countP (fun c => decide (c = 63))))) else if x = 5 then some (b, .inr a.2.1.2.2.1) else if x = 6 then some (b, .inr a.2.1.2.2.2) else some (b, .inr (nI (a.2.1.2.1.length / 6)))) := by
    unfold F7_result F3_listedCalls
    rw [requireWhat_ok hx]
    simp only [bx, bd, ho, de]
    rw [ck_t hO.1, ck_t hO.1, ck_t hO.1, ck_t hO.1, ck_t hO.1, ck_t hO.1, ck_t hO.1, ck_t hO.1, ck_t hO.1, F3_occurrencesOf_eq hO hs200, F3_occurrencesOf_eq hO hs200, F3_occurrencesOf_eq hO hs200, F3_occurrencesOf_eq hO hs200, hln, hln2, hO.2.2.2.2.2.1, hO.2.2.2.2.2.2, nI_div6 _ (by omega)]
    simp only [bn]
  rw [h7]
  rcases i7 0 x hx with rfl | rfl | rfl | rfl | rfl | rfl | rfl | rfl <;> rfl
theorem V_trace {b : BS} {a : AS} (hW : WA a) (hS : SBb b 70 a) {j w : Nat} (hj : j < 2 ^ 31) (hw : w ≤ 5) : F7_trace b (nI j) (nI w) = some (b, .inr (if a.2.1.2.1.length / 6 ≤ j then -1 else a.2.1.2.1.getD (6 * j + w) 0)) := by
  obtain ⟨o, ho, hO, h100⟩ := hS.oc
  obtain ⟨-, -, -, ht360, ht6, -⟩ := hW
  have hln2 : lnB b.2.2 (o + 2) = a.2.1.2.1.length := (lnB_dyn (by omega)).trans hO.2.2.2.1
  have hy : inB (nI w) 0 5 = true := inB_of (n := 5) rfl (by decide) hw
  unfold F7_trace
  rw [if_pos (nI_pos' hj), requireWhat_ok hy]
  simp only [bx, bd, ho, de]
  rw [ck_t hO.1]
  unfold F3_numberOfCall F3_listedCalls
  simp only [jp]
  rw [if_neg (nI_pos hj), ck_t hO.1, ck_t hO.1, hln2, nI_div6 _ (by omega)]
  simp only [bn]
  by_cases c : a.2.1.2.1.length / 6 ≤ j
  · rw [if_pos c, if_pos ((nI_leI (by omega) hj).mpr c)]
  · rw [if_neg c, if_neg (fun q => c ((nI_leI (by omega) hj).mp q)), if_neg (nI_pos (by omega)), if_pos (show nI w < 6 from nI_lt (b := 6) (by omega) (by decide)), rd_lit (x := (nI j * 6) + nI w) (k := 6 * j + w) (by show (nI j * nI 6) + nI w = _; rw [nI_mul, nI_add, Nat.mul_comm]) (by omega) (by omega), hO.2.2.2.2.1 _ (by omega)]
theorem F7_count_go {b : BS} {x : Int32} (hx : inB x 0 7 = true) : ∀ r, (if x = 0 then
        bn (F5_definedCount b 70) fun x25 =>
        some (b, .inr x25)
        else if x = 1 then
        bn (F5_definedSet b 70) fun x28 =>
        some (b, .inr x28)
        else if x = 2 then
        some (b, .inr (b.1 70 2))
        else if x = 3 then
        some (b, .inr (b.1 70 3))
        else if x = 4 then
        some (b, .inr (b.1 70 4))
        else if x = 5 then
        bn (F5_callsOfBodies b 70) fun x31 =>
        some (b, .inr x31)
        else if x = 6 then
        some (b, .inr (b.1 63 3))
        else some (b, .inr (b.1 50 6))) = r → F7_count b x = r := by
  intro r hr
  unfold F7_count
  exact bx_in (requireWhat_ok hx) hr
theorem V_count0 {b : BS} {a : AS} (hS : SBb b 70 a) : F7_count b 0 = some (b, .inr (nI (cnD a.1 26))) := F7_count_go (by decide) _ <| if_go rfl <| bn_go (F5_definedCount_eq hS) rfl
theorem V_count1 {b : BS} {a : AS} (hS : SBb b 70 a) : F7_count b 1 = some (b, .inr (nI (mkN a.1 26))) := F7_count_go (by decide) _ <| if_no (by decide) <| if_go rfl <| bn_go (F5_definedSet_eq hS) rfl
theorem V_count5 {b : BS} {a : AS} (hS : SBb b 70 a) : F7_count b 5 = some (b, .inr (nI (smD cls a.1 26))) := F7_count_go (by decide) _ <| if_no (by decide) <| if_no (by decide) <| if_no (by decide) <| if_no (by decide) <| if_no (by decide) <| if_go rfl <| bn_go (F5_callsOfBodies_eq hS) rfl
/-- any of the numbers of the book -/
theorem V_count {b : BS} {a : AS} (hS : SBb b 70 a) {x : Int32} (hx : inB x 0 7 = true) : ∃ v, F7_count b x = some (b, .inr v) := by
  rcases i7 0 x hx with rfl | rfl | rfl | rfl | rfl | rfl | rfl | rfl
  · exact ⟨_, V_count0 hS⟩
  · exact ⟨_, V_count1 hS⟩
  · exact ⟨_, F7_count_go (by decide) _ <| if_no (by decide) <| if_no (by decide) <| if_go rfl rfl⟩
  · exact ⟨_, F7_count_go (by decide) _ <| if_no (by decide) <| if_no (by decide) <| if_no (by decide) <| if_go rfl rfl⟩
  · exact ⟨_, F7_count_go (by decide) _ <| if_no (by decide) <| if_no (by decide) <| if_no (by decide) <| if_no (by decide) <| if_go rfl rfl⟩
  · exact ⟨_, V_count5 hS⟩
  · exact ⟨_, F7_count_go (by decide) _ <| if_no (by decide) <| if_no (by decide) <| if_no (by decide) <| if_no (by decide) <| if_no (by decide) <| if_no (by decide) <| if_go rfl rfl⟩
  · exact ⟨_, F7_count_go (by decide) _ <| if_no (by decide) <| if_no (by decide) <| if_no (by decide) <| if_no (by decide) <| if_no (by decide) <| if_no (by decide) <| if_no (by decide) rfl⟩
def bdV (a : AS) (k : Nat) (y : Int32) : Int32 := match a.1 k with
  | none => -1
  | some t => if y = 0 then nI t.length else if y = 1 then nI (hls t) else if y = 2 then nI (cls t) else if y = 3 then nI (mstA t) else if y = 4 then nI (nst t) else nI (sml t)
theorem bdV_none {a : AS} {k : Nat} (h : a.1 k = none) (y : Int32) : bdV a k y = -1 := by unfold bdV; rw [h]
theorem bdV_some {a : AS} {k : Nat} {t : Tx} (h : a.1 k = some t) (y : Int32) : bdV a k y = if y = 0 then nI t.length else if y = 1 then nI (hls t) else if y = 2 then nI (cls t) else if y = 3 then nI (mstA t) else if y = 4 then nI (nst t) else nI (sml t) := by unfold bdV; rw [h]
theorem V_body {b : BS} {a : AS} (hS : SBb b 70 a) {k : Nat} (hk : k < 26) {y : Int32} (hy : inB y 0 5 = true) : F7_body b (nI k) y = some (b, .inr (bdV a k y)) := by
  have hx := nI_letter hk
  have hdo := F5_definitionOf_eq hS.1 hk
  have hD := hS.2.1 k hk
  cases e : a.1 k with
  | none =>
    rw [e] at hD
    dsimp only at hD
    rw [bdV_none e]
    unfold F7_body
    exact bx_in (requireLetter_ok hx) <| bx_in (requireWhat_ok hy) <| bn_go hdo <| on_no hD rfl
  | some t =>
    rw [e] at hD
    obtain ⟨xx, hx1, g1, g2, g3, g4, g5, g6, g7, g8, g9⟩ := hD
    have hxx : 100 ≤ xx := (kd6 (okB_2 g1)).1
    rw [bdV_some e]
    have h7 : ∀ r, (if y = 0 then
          ck (okB b.2.2 xx 6) <|
          some (b, .inr (nI (lnB b.2.2 (xx + 1))))
          else if y = 1 then
          ck (okB b.2.2 xx 6) <|
          some (b, .inr (b.1 xx 1))
          else if y = 2 then
          ck (okB b.2.2 xx 6) <|
          some (b, .inr (b.1 xx 2))
          else if y = 3 then
          ck (okB b.2.2 xx 6) <|
          some (b, .inr (b.1 xx 3))
          else if y = 4 then
          ck (okB b.2.2 xx 6) <|
          some (b, .inr (b.1 xx 4))
          else ck (okB b.2.2 xx 6) <|
          some (b, .inr (b.1 xx 5))) = r → F7_body b (nI k) y = r := by
      intro r hr
      unfold F7_body
      exact bx_in (requireLetter_ok hx) <| bx_in (requireWhat_ok hy) <| bn_go hdo <| on_so hx1 hr
    rcases i5 y hy with rfl | rfl | rfl | rfl | rfl | rfl
    · exact h7 _ <| if_go rfl <| ck_go g1 (by rw [lnB_dyn (by omega), g2]; rfl)
    · exact h7 _ <| if_no (by decide) <| if_go rfl <| ck_go g1 (by rw [g4]; rfl)
    · exact h7 _ <| if_no (by decide) <| if_no (by decide) <| if_go rfl <| ck_go g1 (by rw [g5]; rfl)
    · exact h7 _ <| if_no (by decide) <| if_no (by decide) <| if_no (by decide) <| if_go rfl <| ck_go g1 (by rw [g6]; rfl)
    · exact h7 _ <| if_no (by decide) <| if_no (by decide) <| if_no (by decide) <| if_no (by decide) <| if_go rfl <| ck_go g1 (by rw [g7]; rfl)
    · exact h7 _ <| if_no (by decide) <| if_no (by decide) <| if_no (by decide) <| if_no (by decide) <| if_no (by decide) <| ck_go g1 (by rw [g8]; rfl)
theorem F7_uses_go {b b1 : BS} {k : Nat} (hk : k < 26) {y : Int32} (hy : inB y 0 3 = true) (e1 : F0_takeFrom b 70 = some b1) : ∀ r, (if y = 0 then bn (F0_calledBy b1 (nI k)) fun x => some (b1, .inr x) else if y = 1 then bn2 (F0_reachedFrom b1 (nI k)) fun b2 x => some (b2, .inr x) else if y = 2 then bn (F0_callersOf b1 (nI k)) fun x => some (b1, .inr x) else bn2 (F0_reaching b1 (nI k)) fun b2 x => some (b2, .inr x)) = r → F7_uses b (nI k) y = r := by
  intro r hr
  unfold F7_uses
  rw [requireLetter_ok (nI_letter hk), requireWhat_ok hy]
  exact bx_in (b := ()) (v := ()) rfl <| bx_in (b := ()) (v := ()) rfl <| bn_go e1 hr
theorem V_uses0 {b : BS} {a : AS} (hS : SBb b 70 a) {k : Nat} (hk : k < 26) : ∃ b', F7_uses b (nI k) 0 = some (b', .inr (gs a.1 k)) ∧ SmB b b' := by
  obtain ⟨b1, e1, k1⟩ := F0_takeFrom_eq hS
  refine ⟨b1, F7_uses_go hk (by decide) e1 _ <| if_go rfl <| bn_go (a := gs a.1 k) ?_ rfl, k1.sm⟩
  unfold F0_calledBy
  exact bn_go (F7_isLetter_eq _) <| jp_go <| if_no (by rw [nI_letter hk]; decide) <| rd_go rfl hk (by decide) (k1.2.2.1 k hk) rfl
theorem rB_lt {D : Nat → Option Tx} {i j : Nat} (h : rB D i j = true) : j < 26 := (rB_iff.mp h).lt
theorem V_uses1 {b : BS} {a : AS} (hS : SBb b 70 a) {k : Nat} (hk : k < 26) : ∃ b', F7_uses b (nI k) 1 = some (b', .inr (gth (fun j => rB a.1 k j) 26)) ∧ SmB b b' := by
  obtain ⟨b1, e1, k1⟩ := F0_takeFrom_eq hS
  obtain ⟨b2, e2, k2⟩ := follow_eq k1.2.2.1
  have er : b2.1 56 k = gth (fun j => rB a.1 k j) 26 := by
    apply tb_ext
    intro j
    rw [k2.2.2 k hk j, tb_gth _ (Nat.le_refl _)]
    cases e : rB a.1 k j with
    | false => rw [Bool.and_false]
    | true => rw [decide_eq_true (rB_lt e)]; rfl
  refine ⟨b2, F7_uses_go hk (by decide) e1 _ <| if_no (by decide) <| if_go rfl <| bn2_go (a := b2) (b := gth (fun j => rB a.1 k j) 26) ?_ rfl, k1.sm.tr k2.sm⟩
  unfold F0_reachedFrom
  exact bn_go e2 <| bn_go (F7_isLetter_eq _) <| jp_go <| if_no (by rw [nI_letter hk]; decide) <| rd_go rfl hk (by decide) er rfl
theorem V_uses2 {b : BS} {a : AS} (hS : SBb b 70 a) {k : Nat} (hk : k < 26) : ∃ b', F7_uses b (nI k) 2 = some (b', .inr (gth (fun x => tb (gs a.1 x) k) 26)) ∧ SmB b b' := by
  obtain ⟨b1, e1, k1⟩ := F0_takeFrom_eq hS
  exact ⟨b1, F7_uses_go hk (by decide) e1 _ <| if_no (by decide) <| if_no (by decide) <| if_go rfl <| bn_go (F0_callersOf_eq k1.2.2.1 hk) rfl, k1.sm⟩
theorem V_uses3 {b : BS} {a : AS} (hS : SBb b 70 a) {k : Nat} (hk : k < 26) : ∃ b', F7_uses b (nI k) 3 = some (b', .inr (gth (fun x => rB a.1 x k) 26)) ∧ SmB b b' := by
  obtain ⟨b1, e1, k1⟩ := F0_takeFrom_eq hS
  obtain ⟨b2, e2, k2⟩ := F0_reaching_eq k1.2.2.1 hk
  exact ⟨b2, F7_uses_go hk (by decide) e1 _ <| if_no (by decide) <| if_no (by decide) <| if_no (by decide) <| bn2_go e2 rfl, k1.sm.tr k2.sm⟩
theorem V_rings {b : BS} {a : AS} (hS : SBb b 70 a) : ∃ b', F7_rings b = some (b', gth (fun x => rB a.1 x x) 26) ∧ SmB b b' := by
  obtain ⟨b1, e1, k1⟩ := F0_takeFrom_eq hS
  obtain ⟨b2, e2, k2⟩ := F0_inRings_eq k1.2.2.1
  refine ⟨b2, ?_, k1.sm.tr k2.sm⟩
  unfold F7_rings
  exact bn_go e1 <| bn2_go e2 rfl
theorem V_missing {b : BS} {a : AS} (hS : SBb b 70 a) : ∃ b', F7_missing b = some (b', orA (gs a.1) 26 &&& (nI (mkN a.1 26) ^^^ (-1))) ∧ SmB b b' := by
  obtain ⟨b1, e1, k1⟩ := F0_takeFrom_eq hS
  refine ⟨b1, ?_, k1.sm⟩
  unfold F7_missing
  refine bn_go e1 <| bn_go (a := orA (gs a.1) 26 &&& (nI (mkN a.1 26) ^^^ (-1))) ?_ rfl
  unfold F0_calledButNotDefined
  refine bn_go (F0_calledInBodiesOf_eq k1.2.2.1 _) ?_
  rw [k1.2.2.2, orS_mk _ (Nat.le_refl _)]
theorem least_pth {D : Nat → Option Tx} {p : Nat} (n : Nat) (h : ¬ ∃ x, Pth D n p x) : ∃ M, M ≤ n ∧ (∀ m, m < M → ∃ x, Pth D m p x) ∧ ¬ ∃ x, Pth D M p x := by
  induction n with
  | zero => exact ⟨0, Nat.le_refl _, fun m hm => absurd hm (Nat.not_lt_zero m), h⟩
  | succ n ih =>
    by_cases c : ∃ x, Pth D n p x
    · refine ⟨n + 1, Nat.le_refl _, fun m hm => ?_, h⟩
      obtain ⟨x, hx⟩ := c
      exact hx.pre (by omega)
    · obtain ⟨M, h1, h2, h3⟩ := ih c
      exact ⟨M, by omega, h2, h3⟩
theorem V_chain (a : AS) {k : Nat} (hk : k < 26) : ∃ c : Int32, (a.1 k = none → c = 0) ∧ ((a.1 k).isSome = true → c ≠ 0) ∧ (Rch (gs a.1) k k → c = -1) ∧ ∀ b, SBb b 70 a → ∃ b', F7_chain b (nI k) = some (b', .inr c) ∧ SmB b b' := by
  have f7 : ∀ b b1 v, F0_takeFrom b 70 = some b1 → F0_longestChain b1 (nI k) = some v → F7_chain b (nI k) = some (b1, .inr v) := by
    intro b b1 v e1 hv
    unfold F7_chain
    rw [requireLetter_ok (nI_letter hk)]
    exact bx_in (b := ()) (v := ()) rfl <| bn_go e1 <| bn_go hv rfl
  by_cases hr : Rgd a.1 k
  · refine ⟨-1, fun e => ?_, fun _ => by decide, fun _ => rfl, fun b hS => ?_⟩
    · obtain ⟨x, hx⟩ := hr.long 0
      have := hx.head.2
      rw [e] at this; cases this
    · obtain ⟨b1, e1, k1⟩ := F0_takeFrom_eq hS
      exact ⟨b1, f7 _ _ _ e1 (longest_ring k1.2.2.1 k1.2.2.2 hk hr), k1.sm⟩
  · have h26 : ¬ ∃ x, Pth a.1 26 k x := by
      rintro ⟨x, hx⟩
      have := short_of hr (Or.inl rfl) hx
      omega
    obtain ⟨M, h1, h2, h3⟩ := least_pth 26 h26
    refine ⟨nI M, fun e => ?_, fun hd => ?_, fun q => absurd ⟨k, Or.inl rfl, q⟩ hr, fun b hS => ?_⟩
    · have : M = 0 := by
        refine Classical.byContradiction fun q => ?_
        obtain ⟨x, hx⟩ := h2 0 (by omega)
        have := hx.head.2
        rw [e] at this; cases this
      rw [this]; rfl
    · have : M ≠ 0 := by
        rintro rfl
        exact h3 ⟨k, rfl, hk, hd⟩
      exact nI_ne0 (by omega) (by omega)
    · obtain ⟨b1, e1, k1⟩ := F0_takeFrom_eq hS
      exact ⟨b1, f7 _ _ _ e1 (longest_end k1.2.2.1 k1.2.2.2 hk h1 h2 h3), k1.sm⟩
/-- the length that is told for a call -/
def lnV (a : AS) (L k len : Nat) : Int32 := match a.1 k with
  | none => -1
  | some t => if (callF (evF a.1 L 13) a.1 L [] k (List.replicate (hls t) (List.replicate len 97)) [] G00).2.2.2.2 = true then -1 else nI (callF (evF a.1 L 13) a.1 L [] k (List.replicate (hls t) (List.replicate len 97)) [] G00).1.length
theorem V_length {b : BS} {a : AS} (hW : WA a) (hS : SBb b 70 a) {L : Nat} (hL12 : L ≤ 12) (hL : a.2.2.1 = nI L) {k len : Nat} (hk : k < 26) (hlen : len ≤ 20) : ∃ b', F7_lengthOf b (nI k) (nI len) = some (b', .inr (lnV a L k len)) ∧ SmB b b' := by
  have hdo := F5_definitionOf_eq hS.1 hk
  have hD := hS.2.1 k hk
  cases e : a.1 k with
  | none =>
    rw [e] at hD
    dsimp only at hD
    have ev : lnV a L k len = -1 := by unfold lnV; rw [e]
    refine ⟨b, ?_, SmB.rf b⟩
    unfold F7_lengthOf
    rw [requireLetter_ok (nI_letter hk), ev]
    exact bx_in (b := ()) (v := ()) rfl <| jp_go <| if_no (nI_pos (by omega)) <| if_go (nI_le (b := 20) hlen (by decide)) <| bn_go hdo <| on_no hD rfl
  | some t =>
    rw [e] at hD
    obtain ⟨xx, hx1, hx2⟩ := hD
    have ht := hW.1 k t e
    have hh : hls t ≤ 60 := Nat.le_trans (hls_le t) ht.2
    obtain ⟨b', m1, m2⟩ := measureCall_ok (k := k) (N := hls t) hW hS hL hL12 hk hh hlen
    have ev : lnV a L k len = (if (callF (evF a.1 L 13) a.1 L [] k (List.replicate (hls t) (List.replicate len 97)) [] G00).2.2.2.2 = true then -1 else nI (callF (evF a.1 L 13) a.1 L [] k (List.replicate (hls t) (List.replicate len 97)) [] G00).1.length) := by unfold lnV; rw [e]
    refine ⟨b', ?_, m2.sm⟩
    unfold F7_lengthOf
    rw [requireLetter_ok (nI_letter hk), ev]
    refine bx_in (b := ()) (v := ()) rfl <| jp_go <| if_no (nI_pos (by omega)) <| if_go (nI_le (b := 20) hlen (by decide)) <| bn_go hdo <| on_so hx1 <| ck_go hx2.1 ?_
    rw [hx2.2.2.2.1]
    exact bn2_go m1 rfl
noncomputable def mnV (a : AS) : UInt64 := if cnD a.1 26 = 0 then FP.dconst0 else FP.ddiv (FP.i2d (nI (smD hls a.1 26))) (FP.i2d (nI (cnD a.1 26)))
theorem mn_dv {a : AS} (hW : WA a) (q : ¬ cnD a.1 26 = 0) : dvok (nI (smD hls a.1 26)) (nI (cnD a.1 26)) := by
  have hc26 := cnD_le a.1 26
  have hh := smD_le hW 26
  exact ⟨smD hls a.1 26, cnD a.1 26 - 1, by omega, by omega, rfl, by congr 1; omega⟩
theorem V_mean {b : BS} {a : AS} (hW : WA a) (hS : SBb b 70 a) : F7_meanHoles b = some (mnV a) := by
  have hc26 := cnD_le a.1 26
  unfold F7_meanHoles mnV
  refine bn_go (F5_definedCount_eq hS) ?_
  by_cases q : cnD a.1 26 = 0
  · rw [if_pos q]
    exact if_no (by rw [q]; decide) rfl
  · rw [if_neg q]
    refine if_go (nI_ne0 (by omega) (by omega)) <| bn_go (F5_holesOfBodies_eq hS) ?_
    rw [pr_in (mn_dv hW q)]
