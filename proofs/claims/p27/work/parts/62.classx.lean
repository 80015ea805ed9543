/-! PURE: the class expands the buffer, and measures a call -/
def G00 : Gl := (0, 0, [], false)
theorem startOver_ok (b : BS) (kp : Bool) : ∃ b', F1_startOver b (bI kp) = some b' ∧ Sx b b' ∧ CS b' kp 0 0 [] 0 G00 [] := by
  refine ⟨_, bd_go <| bd_go <| bd_go <| bd_go <| bd_go <| bd_go <| bd_go <| bz_go (by cases kp <;> first | exact Or.inl rfl | exact Or.inr rfl) <| bd_go <| bz_go (Or.inl rfl) <| bd_go rfl, ⟨rfl, fun j hj => ?_⟩, ⟨?_, ?_, ?_, ?_, ?_, fun i hi => absurd hi (by simp), fun _ => hold_nil _, ⟨?_, ?_, ?_, fun k hk => ?_, hold_nil _, rfl, Nat.zero_le _, Nat.zero_le _, Nat.zero_le _⟩⟩⟩
  · repeat rw [setI_other _ (by omega)]
  · repeat rw [setI_ne _ (by omega)]
    exact setI_at _ _ _ _
  · repeat rw [setI_ne _ (by omega)]
    exact setI_at _ _ _ _
  · repeat rw [setI_ne _ (by omega)]
    exact setI_at _ _ _ _
  · repeat rw [setI_ne _ (by omega)]
    exact setI_at _ _ _ _
  · exact setI_at _ _ _ _
  · repeat rw [setI_ne _ (by omega)]
    exact setI_at _ _ _ _
  · repeat rw [setI_ne _ (by omega)]
    exact setI_at _ _ _ _
  · repeat rw [setI_ne _ (by omega)]
    exact setI_at _ _ _ _
  · repeat rw [setI_ne _ (by omega)]
    rw [setI_at, tb_0]; rfl
theorem writeResult_ok {b : BS} {a : AS} {t : Tx} {L : Nat} (hW : WA a) (hS : SBb b 70 a) (hL : a.2.2.1 = nI L) (hL12 : L ≤ 12) (hl : t.length ≤ 60) (hC : Cpl t) (h5 : hold (b.1 51) t) : ∃ b', F1_writeResult b 70 51 (nI t.length) = some (b', bI (!(evF a.1 L 14 [] (fun _ => [63]) t G00).2.2.2.2)) ∧ Sx b b' ∧ ((evF a.1 L 14 [] (fun _ => [63]) t G00).2.2.2.2 = false → CS b' true 0 0 [(evF a.1 L 14 [] (fun _ => [63]) t G00).1] 0 (evF a.1 L 14 [] (fun _ => [63]) t G00).2 []) := by
  obtain ⟨b1, e1, s1, C1⟩ := startOver_ok b true
  obtain ⟨b2, e2, s2, C2, l2⟩ := setMark_eq C1 (by decide)
  have s12 := s1.tr s2
  obtain ⟨b3, e3, s3, g3⟩ := WT_all hW hL hL12 true 14 [] (fun _ => [63]) t b2 51 0 0 0 0 0 G00 (hS.sx s12) rfl (Nat.zero_le _) hC hl ⟨okL51 _, hl, Nat.le_refl _, by rw [s12.2 51 (by decide)]; exact h5, by decide⟩ (Or.inl ⟨rfl, rfl⟩) C2 rfl (Nat.zero_le _) (Nat.zero_le _) (Nat.zero_le _)
  refine ⟨b3, ?_, s12.tr s3, fun q => ?_⟩
  · unfold F1_writeResult
    refine bn_go e1 <| bn_go e2 <| bn_go e3 <| jp_go ?_
    cases c : (evF a.1 L 14 [] (fun _ => [63]) t G00).2.2.2.2 with
    | true =>
      rw [if_pos c] at g3
      exact if_go (by rw [g3]; decide) (bz_go (Or.inl rfl) rfl)
    | false =>
      rw [if_neg (by rw [c]; decide)] at g3
      exact if_no (fun q => q g3.1.2.2.2.2.1) (bz_go (Or.inr rfl) rfl)
  · rw [if_neg (by rw [q]; decide)] at g3
    exact g3.1
theorem fl_rep (w : Tx) (j : Nat) : fl (List.replicate j w) = j * w.length := by
  induction j with
  | zero => show 0 = _; omega
  | succ j ih =>
    have := fl_app [w] (List.replicate j w)
    rw [fl_one, ih] at this
    rw [List.replicate_succ, Nat.succ_mul]
    show fl ([w] ++ List.replicate j w) = _
    omega
theorem rep_snoc {α : Type} (w : α) (j : Nat) : List.replicate (j + 1) w = List.replicate j w ++ [w] := List.replicate_succ'
theorem measureCall_ok {b : BS} {a : AS} {L k N len : Nat} (hW : WA a) (hS : SBb b 70 a) (hL : a.2.2.1 = nI L) (hL12 : L ≤ 12) (hk : k < 26) (hN : N ≤ 60) (hlen : len ≤ 20) : ∃ b', F1_measureCall b 70 (nI k) (nI N) (nI len) = some (b', if (callF (evF a.1 L 13) a.1 L [] k (List.replicate N (List.replicate len 97)) [] G00).2.2.2.2 = true then -1 else nI (callF (evF a.1 L 13) a.1 L [] k (List.replicate N (List.replicate len 97)) [] G00).1.length) ∧ Sx b b' := by
  obtain ⟨w, hw⟩ : ∃ w : Tx, w = List.replicate len 97 := ⟨_, rfl⟩
  have lw : w.length = len := by rw [hw, List.length_replicate]
  rw [← hw]
  obtain ⟨R, hR⟩ : ∃ R, R = callF (evF a.1 L 13) a.1 L [] k (List.replicate N w) [] G00 := ⟨_, rfl⟩
  rw [← hR]
  obtain ⟨b1, e1, s1, C1⟩ := startOver_ok b false
  obtain ⟨b2, e2, s2, C2, l2⟩ := setMark_eq C1 (by decide)
  obtain ⟨b3, e3, s3, C3, l3, w1, w2⟩ := letWait_ok C2 (by decide) (nI k)
  have main : ∃ q, Loop (fun (q : Int32 × BS) => (fun (x12 : Int32) (b13 : BS) =>
      jp (fun (_ : Unit) => bn (F1_finishCall (F1_wt 13) b13 70 0) fun b42 =>
      jp (fun (x48 : Int32) => some (.inr (b42, x48))) fun k43 =>
      if (b42.1 57 13) = 0 then
      k43 (b42.1 57 5)
      else
      k43 (-1)) fun k18 =>
      if (nI N) ≤ x12 then
      k18 ()
      else
      if (60 : Int32) ≤ x12 then
      k18 ()
      else
      bn (F1_setMark b13) fun b28 =>
      bd (setI b28 57 5 ((b28.1 57 5) + (nI len))) fun b29 =>
      bd (x12 + 1) fun x32 =>
      some (.inl (x32, b29))) q.1 q.2) (0, b3) = some q ∧ (q.2 = (if R.2.2.2.2 = true then -1 else nI R.1.length) ∧ Sx b q.1) := by
    refine Loop_inv (fun j q => q.1 = nI j ∧ Sx b q.2 ∧ CS q.2 false 0 0 ([[]] ++ List.replicate j w) 1 G00 [] ∧ q.2.1 60 0 = nI k ∧ q.2.1 61 0 = nI 1) N _ ?_ ?_ (0, b3) ⟨rfl, (s1.tr s2).tr s3, C3, w1, w2⟩
    · rintro j ⟨x, c⟩ hj ⟨rfl, h2, h3, h4, h5⟩
      dsimp only at h2 h3 h4 h5
      have lj : ([[]] ++ List.replicate j w).length = 1 + j := by rw [List.length_append, List.length_replicate]; rfl
      obtain ⟨d, e4, s4, C4, l4⟩ := setMark_eq h3 (by rw [lj]; omega)
      have C5 : CS (setI d 57 5 (d.1 57 5 + nI len)) false 0 0 ([[]] ++ List.replicate j w ++ [[] ++ w]) 1 G00 [] := by
        refine C4.grow (u := w) ?_ (fun k hk => setI_ne _ (by omega)) (setI_other _ (by decide)) (setI_other _ (by decide)) (fun q => by cases q)
        rw [setI_at, C4.1, nI_add, lw]
      refine ⟨(nI (j + 1), setI d 57 5 (d.1 57 5 + nI len)), ?_, rfl, (h2.tr s4).tr (Sx.up d (by decide)), ?_, ?_, ?_⟩
      · refine jp_go <| if_no (nI_ge hj (by omega)) <| if_no (nI_ge (b := 60) (by omega) (by decide)) <| bn_go e4 <| bd_go <| bd_go ?_
        rw [nI_1]
      · rw [rep_snoc, ← List.append_assoc]
        exact C5
      · dsimp only; rw [setI_other _ (by decide), (l4.1 0 (by decide)).1]; exact h4
      · dsimp only; rw [setI_other _ (by decide), (l4.1 0 (by decide)).2]; exact h5
    · rintro ⟨x, c⟩ ⟨rfl, h2, h3, h4, h5⟩
      dsimp only at h2 h3 h4 h5
      have fN : fl (List.replicate N w) ≤ 1200 := by
        rw [fl_rep, lw]
        exact Nat.le_trans (Nat.mul_le_mul hN hlen) (by decide)
      obtain ⟨b', e6, s6, g6⟩ := finish_ok (WT_all hW hL hL12 false 13) (O := []) (k := k) (Q := []) (as := List.replicate N w) (sv := []) (Mb := 0) (base := 0) (Wn := 0) (hS.sx h2) hW hL hL12 rfl (Nat.zero_le _) hk h3 h4 h5 rfl (by rw [List.length_replicate]; show 0 + (0 + 1 + N) ≤ 61; omega) (by rw [fl_app]; show 0 + (0 + fl (List.replicate N w)) + 1 ≤ 1260 + 0; omega) (by decide) (by rw [List.length_replicate]; exact hN) fN
      rw [← hR] at g6
      cases c13 : R.2.2.2.2 with
      | true =>
        rw [if_pos c13] at g6
        refine ⟨(b', -1), ?_, ?_, h2.tr s6⟩
        · exact jp_go <| if_go (nI_le (Nat.le_refl _) (by omega)) <| bn_go e6 <| jp_go <| if_no (by rw [g6]; decide) rfl
        · rw [if_pos rfl]
      | false =>
        rw [if_neg (by rw [c13]; decide)] at g6
        refine ⟨(b', nI R.1.length), ?_, ?_, h2.tr s6⟩
        · refine jp_go <| if_go (nI_le (Nat.le_refl _) (by omega)) <| bn_go e6 <| jp_go <| if_go g6.1.2.2.2.2.1 ?_
          have q := g6.1.1
          rw [q]
          show some (Sum.inr (b', nI (0 + fl ([] ++ [R.1])))) = _
          rw [List.nil_append, fl_one, Nat.zero_add]
        · rw [if_neg (by decide)]
  obtain ⟨⟨b', v⟩, m1, m2, m3⟩ := main
  dsimp only at m2 m3
  subst m2
  refine ⟨b', ?_, m3⟩
  unfold F1_measureCall
  exact bn_go e1 <| bn_go e2 <| bn_go e3 m1
