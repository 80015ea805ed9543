/-! PURE: exchange, define, keep, goBack, undo -/
theorem up2_sr (z : MS) (a k : Nat) (v : Int32) : up2 z a k v = sr z a (upd (z a) k v) := by
  funext u
  by_cases h : u = a
  · subst h; rw [up2_same, sr_at]
  · rw [up2_ne _ h, sr_ne _ _ h]
/-- rows of two letters exchanged, the first j signs -/
def swp (f : Nat → Int32) (k l j : Nat) : Nat → Int32 := fun i =>
  if i = k then f l else if i = l then f k else
  if 26 + 60 * k ≤ i ∧ i < 26 + 60 * k + j then f (i - (26 + 60 * k) + (26 + 60 * l)) else
  if 26 + 60 * l ≤ i ∧ i < 26 + 60 * l + j then f (i - (26 + 60 * l) + (26 + 60 * k)) else f i
theorem swpE (f : Nat → Int32) (k l j i : Nat) : swp f k l j i = (if i = k then f l else if i = l then f k else
  if 26 + 60 * k ≤ i ∧ i < 26 + 60 * k + j then f (i - (26 + 60 * k) + (26 + 60 * l)) else
  if 26 + 60 * l ≤ i ∧ i < 26 + 60 * l + j then f (i - (26 + 60 * l) + (26 + 60 * k)) else f i) := rfl
theorem swp_0 (f : Nat → Int32) (k l : Nat) : upd (upd f k (f l)) l (f k) = swp f k l 0 := by
  funext i
  unfold upd swp
  by_cases c : i = l
  · subst c
    by_cases d : i = k
    · subst d; simp
    · rw [if_pos rfl, if_neg d, if_pos rfl]
  · rw [if_neg c]
    by_cases d : i = k
    · rw [if_pos d, if_pos d]
    · rw [if_neg d, if_neg d, if_neg c, if_neg (by omega), if_neg (by omega)]
theorem swp_s (f : Nat → Int32) {k l j : Nat} (hk : k < 26) (hl : l < 26) (hj : j < 60) :
    swp f k l j (26 + 60 * k + j) = f (26 + 60 * k + j) ∧ swp f k l j (26 + 60 * l + j) = f (26 + 60 * l + j) ∧
    upd (upd (swp f k l j) (26 + 60 * k + j) (f (26 + 60 * l + j))) (26 + 60 * l + j) (f (26 + 60 * k + j)) = swp f k l (j + 1) := by
  refine ⟨?_, ?_, ?_⟩
  · unfold swp
    rw [if_neg (by omega), if_neg (by omega), if_neg (by omega), if_neg (by omega)]
  · unfold swp
    rw [if_neg (by omega), if_neg (by omega), if_neg (by omega), if_neg (by omega)]
  · funext i
    unfold upd
    by_cases c : i = 26 + 60 * l + j
    · subst c
      rw [if_pos rfl]
      unfold swp
      rw [if_neg (by omega), if_neg (by omega)]
      by_cases d : k = l
      · subst d
        rw [if_pos (by omega)]; congr 1; omega
      · rw [if_neg (by omega), if_pos (by omega)]; congr 1; omega
    · rw [if_neg c]
      by_cases d : i = 26 + 60 * k + j
      · subst d
        rw [if_pos rfl]
        unfold swp
        rw [if_neg (by omega), if_neg (by omega), if_pos (by omega)]; congr 1; omega
      · rw [if_neg d]
        unfold swp
        by_cases e1 : i = k
        · rw [if_pos e1, if_pos e1]
        rw [if_neg e1, if_neg e1]
        by_cases e2 : i = l
        · rw [if_pos e2, if_pos e2]
        rw [if_neg e2, if_neg e2]
        by_cases e3 : 26 + 60 * k ≤ i ∧ i < 26 + 60 * k + j
        · rw [if_pos e3, if_pos (by omega)]
        rw [if_neg e3, if_neg (show ¬ (26 + 60 * k ≤ i ∧ i < 26 + 60 * k + (j + 1)) by omega)]
        by_cases e4 : 26 + 60 * l ≤ i ∧ i < 26 + 60 * l + j
        · rw [if_pos e4, if_pos (by omega)]
        rw [if_neg e4, if_neg (show ¬ (26 + 60 * l ≤ i ∧ i < 26 + 60 * l + (j + 1)) by omega)]
theorem ZS.swp {f : Nat → Int32} {a : AS} {k l : Nat} (hk : k < 26) (hl : l < 26) (k25 : k ≠ 25) (hW : WA a) (h : ZS f a) : ZS (swp f k l 60) (updF (updF a.1 k (a.1 l)) l (a.1 k), a.2) := by
  have h1 : ZS (fun i => if i = k then f l else if 26 + 60 * k ≤ i ∧ i < 86 + 60 * k then f (i - (26 + 60 * k) + (26 + 60 * l)) else f i) (updF a.1 k (a.1 l), a.2) := by
    refine h.put hk hW (fun i q1 q2 q3 => ?_) ?_ (fun t e => ?_)
    · rw [if_neg q2, if_neg q3]
    · rw [if_pos rfl]; exact h.1 l hl
    · have := (hW.1 l t e).2
      refine hold_congr (fun j hj => ?_) (h.2.1 l hl t e)
      rw [if_neg (by omega), if_pos (by omega)]; congr 1; omega
  have hW1 : WA (updF a.1 k (a.1 l), a.2) := hW.put (Or.inl k25) (fun t e => hW.1 l t e)
  refine h1.put hl hW1 (fun i q1 q2 q3 => ?_) ?_ (fun t e => ?_)
  · rw [swpE]
    by_cases c : i = k
    · rw [if_pos c, if_pos c]
    rw [if_neg c, if_neg q2, if_neg c]
    by_cases d : 26 + 60 * k ≤ i ∧ i < 86 + 60 * k
    · rw [if_pos (by omega), if_pos d]
    · rw [if_neg (by omega), if_neg (by omega), if_neg d]
  · rw [swpE]
    by_cases c : l = k
    · subst c; rw [if_pos rfl]; exact h.1 l hl
    · rw [if_neg c, if_pos rfl]; exact h.1 k hk
  · have := (hW.1 k t e).2
    refine hold_congr (fun j hj => ?_) (h.2.1 k hk t e)
    rw [swpE]
    rw [if_neg (by omega), if_neg (by omega)]
    by_cases c : k = l
    · subst c; rw [if_pos (by omega)]; congr 1; omega
    · rw [if_neg (by omega), if_pos (by omega)]; congr 1; omega
theorem SBb.def_ok {b : BS} {a : AS} (g : SBb b 70 a) {k : Nat} (hk : k < 26) : ∀ x, b.2.1 71 k = some x → okB b.2.2 x 6 = true := fun x hx => g.tok k hk x hx
theorem on_bi {ρ : Type} (K : Int32 → Option ρ) {o : Option Nat} {q : Bool} {r : Option ρ} (ho : o.isSome = q) (h : K (bI q) = r) : on o (K 0) (fun _ => K 1) = r := by subst ho; cases o <;> exact h
theorem on_is {ρ : Type} (o : Option Nat) (K : Int32 → Option ρ) : on o (K 0) (fun _ => K 1) = K (bI o.isSome) := by cases o <;> rfl
theorem S_exchange {z : MS} {b : BS} (h : Inv z b) (x y : Int32) (x25 : x ≠ 25) (y25 : y ≠ 25) : okT Inv (F7_exchange b x y) (F8_exchange z x y) [1] := by
  obtain ⟨t, a, p, s, hI⟩ := id h
  by_cases hx : inB x 0 25 = true
  · by_cases hy : inB y 0 25 = true
    · obtain ⟨k, hk, rfl⟩ := letter_nI hx
      obtain ⟨l, hl, rfl⟩ := letter_nI hy
      obtain ⟨z1, b1, p1, e8, e7, hI1, hg, h7, hi, h17⟩ := save_inv (InvD.rf0 hI 0)
      have hD : InvD t a p1 s z1 b1 := hI1
      obtain ⟨hB, hW, hZ, hS, -, -, hC⟩ := hI1
      have k25 : k ≠ 25 := fun q => x25 (by rw [q]; rfl)
      have l25 : l ≠ 25 := fun q => y25 (by rw [q]; rfl)
      have hZ' := hZ.swp hk hl k25 hW
      have hW' : WA (updF (updF a.1 k (a.1 l)) l (a.1 k), a.2) := (hW.put (k := k) (o := a.1 l) (Or.inl k25) (fun t e => hW.1 l t e)).put (a := (updF a.1 k (a.1 l), a.2)) (Or.inl l25) (fun t e => hW.1 k t e)
      have dk := hS.2.1 k hk
      have dl := hS.2.1 l hl
      have hS1 : SBb (setR b1 71 k (b1.2.1 71 l)) 70 (updF a.1 k (a.1 l), a.2) := by
        refine hS.put ?_
        cases e : a.1 l with
        | none => rw [e] at dl; exact dl
        | some u => rw [e] at dl; exact dl
      have hS2 : SBb (setR (setR b1 71 k (b1.2.1 71 l)) 71 l (b1.2.1 71 k)) 70 (updF (updF a.1 k (a.1 l)) l (a.1 k), a.2) := by
        refine hS1.put ?_
        cases e : a.1 k with
        | none => rw [e] at dk; exact dk
        | some u => rw [e] at dk; obtain ⟨q, q1, q2⟩ := dk; exact ⟨q, q1, q2.ext (setR_ext b1)⟩
      have ik : (b1.2.1 71 k).isSome = (a.1 k).isSome := by
        cases e : a.1 k with
        | none => rw [e] at dk; rw [dk]; rfl
        | some u => rw [e] at dk; obtain ⟨q, q1, q2⟩ := dk; rw [q1]; rfl
      have il : (b1.2.1 71 l).isSome = (a.1 l).isSome := by
        cases e : a.1 l with
        | none => rw [e] at dl; rw [dl]; rfl
        | some u => rw [e] at dl; obtain ⟨q, q1, q2⟩ := dl; rw [q1]; rfl
      have hC' := setR_closed (i := 71) (k := l) (v := b1.2.1 71 k) (setR_closed (i := 71) (k := k) (v := b1.2.1 71 l) hC (fun x q => hC _ _ _ q)) (fun x q => hC _ _ _ q)
      have hld : ∀ (j : Nat), j < 26 → ∀ u, (updF (updF a.1 k (a.1 l)) l (a.1 k)) j = some u → u.length ≤ 60 := fun j _ u e => (hW'.1 j u e).2
      have d1 := F8_isDefined_eq (z := sr z1 0 (swp (z1 0) k l 60)) (a := (updF (updF a.1 k (a.1 l)) l (a.1 k), a.2)) (by rw [sr_at]; exact hZ') hk (hld k hk)
      have d2 := F8_isDefined_eq (z := sr z1 0 (swp (z1 0) k l 60)) (a := (updF (updF a.1 k (a.1 l)) l (a.1 k), a.2)) (by rw [sr_at]; exact hZ') hl (hld l hl)
      have g1 : (updF (updF a.1 k (a.1 l)) l (a.1 k)) k = a.1 l := by
        unfold updF
        by_cases c : k = l
        · subst c; rw [if_pos rfl]
        · rw [if_neg c, if_pos rfl]
      have g2 : (updF (updF a.1 k (a.1 l)) l (a.1 k)) l = a.1 k := by unfold updF; rw [if_pos rfl]
      dsimp only at d1 d2
      rw [g1] at d1
      rw [g2] at d2
      refine okT_mk (b' := setR (setR b1 71 k (b1.2.1 71 l)) 71 l (b1.2.1 71 k)) (z' := sr z1 0 (swp (z1 0) k l 60)) (v := bI (a.1 k).isSome + bI (a.1 l).isSome) ?_ ?_ ?_ ⟨t, (updF (updF a.1 k (a.1 l)) l (a.1 k), a.2), p1, s, ?_⟩
      · unfold F7_exchange
        rw [requireLetter_ok hx, requireLetter_ok hy]
        refine bx_in (b := ()) (v := ()) rfl <| bx_in (b := ()) (v := ()) rfl <| (pr_in (Gr.rf b)).trans <| bn_go e7 <| bn_go (F5_definitionOf_eq hS.1 hk) <| bn_go (F5_definitionOf_eq hS.1 hl) <| bn_go (F5_put_eq hk hS.1 (hS.def_ok hl)) <| bn_go (F5_put_eq hl hS1.1 (hS.def_ok hk)) <| jp_go ?_
        refine on_bi (fun x48 => jp (fun (x62 : Int32) => some (setR (setR b1 71 k (b1.2.1 71 l)) 71 l (b1.2.1 71 k), (Sum.inr (x48 + x62) : Nat ⊕ Int32))) fun k53 => on (b1.2.1 71 l) (k53 0) fun t55 => k53 1) ik <| jp_go ?_
        exact on_bi (fun x62 => some (setR (setR b1 71 k (b1.2.1 71 l)) 71 l (b1.2.1 71 k), (Sum.inr (bI (a.1 k).isSome + x62) : Nat ⊕ Int32))) il rfl
      · unfold F8_exchange
        refine bn_go (F8_isLetter_eq _) <| jp_go <| jp_go <| if_no (by rw [hx]; decide) <| bn_go (F8_isLetter_eq _) <| if_no (by rw [hy]; decide) <| bn2_go (F8_refused0 z) <| if_go rfl <| bn_go e8 <| rd_go rfl (by omega) (by decide) rfl <| rd_go rfl (by omega) (by decide) rfl <| wr_go rfl (by omega) (by decide) <| wr_go rfl (by omega) (by decide) ?_
        have e0 : ((0 : Int32), up2 (up2 z1 0 k (z1 0 l)) 0 l (z1 0 k)) = (fun j => (nI j, sr z1 0 (swp (z1 0) k l j))) 0 := by
          show _ = (nI 0, _)
          rw [← swp_0, up2_sr z1, sr_up]; rfl
        rw [e0]
        have ek : ∀ j, (26 + (60 * nI k)) + nI j = nI (26 + 60 * k + j) := fun j => by
          show (nI 26 + (nI 60 * nI k)) + nI j = _
          rw [nI_mul, nI_add, nI_add]
        have el : ∀ j, (26 + (60 * nI l)) + nI j = nI (26 + 60 * l + j) := fun j => by
          show (nI 26 + (nI 60 * nI l)) + nI j = _
          rw [nI_mul, nI_add, nI_add]
        refine Loop_seq (fun j => (nI j, sr z1 0 (swp (z1 0) k l j))) 60 (fun j hj => ?_) ?_
        · obtain ⟨s1, s2, s3⟩ := swp_s (z1 0) hk hl hj
          refine if_no (nI_ge (b := 60) hj (by decide)) <| rd_go (v := z1 0 (26 + 60 * k + j)) (ek j) (by omega) (by decide) (by show sr z1 0 (swp (z1 0) k l j) 0 _ = _; rw [sr_at]; exact s1) <| rd_go (v := z1 0 (26 + 60 * l + j)) (el j) (by omega) (by decide) (by show sr z1 0 (swp (z1 0) k l j) 0 _ = _; rw [sr_at]; exact s2) <| wr_go (ek j) (by omega) (by decide) <| wr_go (el j) (by omega) (by decide) <| bd_go ?_
          dsimp only
          rw [sr_up, sr_up, s3, nI_1]
        · refine if_go (show (60 : Int32) ≤ nI 60 by decide) <| bn_go d1 <| jp_go ?_
          have fin : bn (F8_isDefined (sr z1 0 (swp (z1 0) k l 60)) (nI l)) (fun x23 => jp (fun (x26 : Int32) => some (Sum.inr (sr z1 0 (swp (z1 0) k l 60), bI (a.1 l).isSome + x26))) fun k24 => if x23 = 0 then k24 0 else k24 1) = (some (Sum.inr (sr z1 0 (swp (z1 0) k l 60), bI (a.1 l).isSome + bI (a.1 k).isSome)) : Option ((Int32 × MS) ⊕ (MS × Int32))) := by
            refine bn_go d2 <| jp_go ?_
            cases (a.1 k).isSome
            · exact if_go rfl rfl
            · exact if_no (by decide) rfl
          rw [Int32.add_comm]
          cases q : (a.1 l).isSome
          · rw [q] at fin; exact if_go rfl fin
          · rw [q] at fin; exact if_no (by decide) fin
      · show sr z1 0 _ 43 7 = 0
        rw [sr_ne _ _ (by decide), h7]; exact rfs7 z 0
      · refine hD.cur (hB.of (by rw [sr_ne _ _ (by decide)]) (sr_ne _ _ (by decide)) rfl rfl) hW' ?_ ⟨sr_ne _ _ (by decide), sr_ne _ _ (by decide), sr_ne _ _ (by decide), by rw [sr_ne _ _ (by decide)]⟩ ((setR_ext b1).tr (setR_ext _)) (fun u h1 h2 h3 h4 => ⟨rfl, by rw [setR_row _ h4, setR_row _ h4]⟩) (fun _ _ _ => rfl) hS2 hC'
        rw [sr_at]; exact hZ'
    · have hy' : inB y 0 25 = false := by simpa using hy
      refine okT_x (b' := b) (k := 1) (z' := rfs z 1) (v := 0) ?_ ?_ (by decide) (rfs7 _ _) (h.rfs 1)
      · unfold F7_exchange; rw [requireLetter_ok hx, requireLetter_no hy']; rfl
      · unfold F8_exchange
        refine bn_go (F8_isLetter_eq _) <| jp_go <| jp_go <| if_no (by rw [hx]; decide) <| bn_go (F8_isLetter_eq _) <| if_go (by rw [hy']; rfl) <| bn2_go (F8_refusedP z 1 (by decide)) <| if_no (by decide) rfl
  · have hx' : inB x 0 25 = false := by simpa using hx
    refine okT_x (b' := b) (k := 1) (z' := rfs z 1) (v := 0) ?_ ?_ (by decide) (rfs7 _ _) (h.rfs 1)
    · unfold F7_exchange; rw [requireLetter_no hx']; rfl
    · unfold F8_exchange
      refine bn_go (F8_isLetter_eq _) <| jp_go <| jp_go <| if_go (by rw [hx']; rfl) <| bn2_go (F8_refusedP z 1 (by decide)) <| if_no (by decide) rfl
