/-! PURE: the class writes a text -/
theorem Loop_way {σ ρ : Type} {f : σ → Option (σ ⊕ ρ)} (I : σ → Prop) (μ : σ → Nat) (Q : ρ → Prop) (hs : ∀ s, I s → (∃ s', Loop f s = Loop f s' ∧ I s' ∧ μ s' < μ s) ∨ ∃ r, Loop f s = some r ∧ Q r) : ∀ s, I s → ∃ r, Loop f s = some r ∧ Q r := by
  have key : ∀ (n : Nat) (s : σ), μ s < n → I s → ∃ r, Loop f s = some r ∧ Q r := by
    intro n
    induction n with
    | zero => intro s h; exact absurd h (by omega)
    | succ n ih =>
      intro s hm hI
      rcases hs s hI with ⟨s', h1, h2, h3⟩ | h
      · rw [h1]; exact ih s' (by omega) h2
      · exact h
  exact fun s hI => key _ s (Nat.lt_succ_self _) hI
theorem drop_sL {α : Type} (d : α) {l : List α} {j : Nat} (h : j < l.length) : l.drop j = l.getD j d :: l.drop (j + 1) := by
  rw [List.drop_eq_getElem_cons h, List.getD_eq_getElem?_getD, List.getElem?_eq_getElem h]; rfl
theorem take_sL {α : Type} (d : α) : ∀ (l : List α) (j : Nat), j < l.length → l.take (j + 1) = l.take j ++ [l.getD j d]
  | [], _, h => absurd h (by simp)
  | _ :: _, 0, _ => rfl
  | x :: l, j + 1, h => by
    have q := take_sL d l j (by rw [List.length_cons] at h; omega)
    show x :: l.take (j + 1) = x :: (l.take j ++ [l.getD j d])
    rw [q]
theorem fl_take_le (as : List Tx) (h : Nat) : fl (as.take h) ≤ fl as := by
  have q := fl_app (as.take h) (as.drop h)
  rw [List.take_append_drop] at q
  omega
def fsum (fill : Nat → Tx) : Nat → Nat
  | 0 => 0
  | h + 1 => fsum fill h + (fill h).length
theorem fsum_fl (as : List Tx) (h : Nat) : fsum (fun i => as.getD i []) h = fl (as.take h) := by
  induction h with
  | zero => rfl
  | succ h ih =>
    show fsum (fun i => as.getD i []) h + (as.getD h []).length = _
    rw [ih]
    by_cases c : h < as.length
    · rw [take_sL [] as h c, fl_app, fl_one]
    · rw [List.take_of_length_le (by omega), List.take_of_length_le (by omega), List.getD_eq_getElem?_getD, List.getElem?_eq_none (by omega)]; rfl
theorem FillOK.sum {b : BS} {kp : Bool} {O : List Nat} {fill : Nat → Tx} {p4 p5 : Int32} {Mb base : Nat} (hF : FillOK b kp O fill p4 p5 Mb base) {h : Nat} (hh : h ≤ 60) : fsum fill h ≤ 1200 := by
  rcases hF with ⟨-, rfl⟩ | ⟨-, as, m, s, rfl, -, -, -, -, -, hal, -⟩
  · have : ∀ k, fsum (fun _ => [63]) k = k := by
      intro k
      induction k with
      | zero => rfl
      | succ k ih => show fsum (fun _ => [63]) k + 1 = _; rw [ih]
    rw [this]; omega
  · rw [fsum_fl]; exact Nat.le_trans (fl_take_le as h) hal
theorem FillOK.lo {b b' : BS} {kp : Bool} {O : List Nat} {fill : Nat → Tx} {p4 p5 : Int32} {Mb base W : Nat} (hF : FillOK b kp O fill p4 p5 Mb base) (hl : Lo b b' W (Mb + 1) base) : FillOK b' kp O fill p4 p5 Mb base := by
  rcases hF with h | ⟨h1, as, m, s, h2, h3, h4, h5, h6, h7, h8, h9, h10⟩
  · exact Or.inl h
  · refine Or.inr ⟨h1, as, m, s, h2, h3, h4, h5, h6, h7, h8, fun i hi => ?_, fun q => hold_congr (fun j hj => ?_) (h10 q)⟩
    · rw [hl.2.1 (m + i) (by omega)]; exact h9 i hi
    · exact hl.2.2 (s + j) (by unfold fl at h7; omega)
theorem fillHole_eq {b : BS} {kp : Bool} {Mb base : Nat} {Q : List Tx} {w : Tx} {Wn : Nat} {G : Gl} {O : List Nat} {fill : Nat → Tx} {p4 p5 : Int32} (h : CS b kp Mb base (Q ++ [w]) Wn G O) (hF : FillOK b kp O fill p4 p5 Mb base) (hM : Mb + Q.length < 854) (hO : O.length ≤ 12) {k : Nat} (hk : k ≤ 60) (hw : w.length ≤ 200) (hb : base + fl (Q ++ [w]) + (fill k).length ≤ 28380) : ∃ b', F1_fillHole b (nI k) (nI O.length) p4 p5 = some b' ∧ Sx b b' ∧ (if ovr (w ++ fill k) = true then b'.1 57 13 = 1 else CS b' kp Mb base (Q ++ [w ++ fill k]) Wn G O ∧ Lo b b' 10000 10000 (base + fl (Q ++ [w]))) := by
  unfold F1_fillHole
  rcases hF with ⟨rfl, rfl⟩ | ⟨hn, as, m, s, rfl, rfl, rfl, h5, h6, h7, h8, h9, h10⟩
  · have hb1 : base + fl (Q ++ [w]) + 1 ≤ 28380 := hb
    obtain ⟨b1, e1, s1, g1⟩ := writeSign_eq 63 h hM (by omega)
    exact ⟨b1, jp_go <| if_no (fun q => q rfl) <| bn_go e1 rfl, s1, g1⟩
  · have hO0 : 0 < O.length := by
      cases O with
      | nil => exact absurd rfl hn
      | cons x r => rw [List.length_cons]; omega
    by_cases c : as.length ≤ k
    · have e : as.getD k [] = [] := by rw [List.getD_eq_getElem?_getD, List.getElem?_eq_none (by omega)]; rfl
      refine ⟨b, jp_go <| if_go (nI_ne0 hO0 (by omega)) <| if_go (nI_le c (by omega)) rfl, Sx.rf b, ?_⟩
      have e2 : w ++ as.getD k [] = w := by rw [e, List.append_nil]
      have hv : ¬ ovr (w ++ as.getD k []) = true := by rw [e2]; unfold ovr; rw [decide_eq_false (by omega)]; decide
      dsimp only
      rw [if_neg hv, e2]
      exact ⟨h, Lo.rf _ _ _ _⟩
    · have hb1 : base + fl (Q ++ [w]) + (as.getD k []).length ≤ 28380 := hb
      have e1 : fl (as.take (k + 1)) = fl (as.take k) + (as.getD k []).length := by rw [take_sL [] as k (by omega), fl_app, fl_one]
      have e2 := fl_take_le as (k + 1)
      have hv : nI (s + fl (as.take (k + 1))) - nI (s + fl (as.take k)) = nI (as.getD k []).length := nI_add_sub (by omega)
      have hu : kp = true → hold (fun i => b.1 58 (s + fl (as.take k) + i)) (as.getD k []) := by
        intro q
        have fe : as.flatten = (as.take k).flatten ++ (as.getD k [] ++ (as.drop (k + 1)).flatten) := by
          have q := congrArg List.flatten (List.take_append_drop k as)
          rw [List.flatten_append, drop_sL [] (l := as) (j := k) (by omega), List.flatten_cons] at q
          exact q.symm
        have q1 := h10 q
        rw [fe, hold_app, hold_app] at q1
        refine hold_congr (fun j hj => ?_) q1.2.1
        show b.1 58 (s + fl (as.take k) + j) = b.1 58 (s + ((as.take k).flatten.length + j))
        rw [← Nat.add_assoc]; rfl
      obtain ⟨b1, e3, s1, g1⟩ := writeCopy_eq (u := as.getD k []) (s := s + fl (as.take k)) h hM (by omega) (by omega) hu
      have m1 : b.1 59 (m + k) = nI (s + fl (as.take k)) := h9 k (by omega)
      have m2 : b.1 59 (m + k + 1) = nI (s + fl (as.take (k + 1))) := h9 (k + 1) (by omega)
      refine ⟨b1, ?_, s1, g1⟩
      refine jp_go <| if_go (nI_ne0 hO0 (by omega)) <| if_no (nI_ge (by omega) (by omega)) ?_
      rw [nI_add, nI_1]
      refine bn_go (markAt_eq (by omega)) <| bn_go (markAt_eq (by omega)) ?_
      rw [m1, m2, hv]
      exact bn_go e3 rfl
theorem letWait_ok {b : BS} {kp : Bool} {Mb base : Nat} {P : List Tx} {Wn : Nat} {G : Gl} {O : List Nat} (h : CS b kp Mb base P Wn G O) (hW : Wn < 780) (x : Int32) : ∃ b', F1_letCallWait b x = some b' ∧ Sx b b' ∧ CS b' kp Mb base P (Wn + 1) G O ∧ Lo b b' Wn 10000 100000 ∧ b'.1 60 Wn = x ∧ b'.1 61 Wn = nI (Mb + P.length) := by
  obtain ⟨h1, h2, h3, h4, h5, h6, h7, h8⟩ := id h
  refine ⟨_, letWait_eq h3 hW h2 x, ((Sx.up b (by decide)).tr (Sx.up _ (by decide))).tr (Sx.up _ (by decide)), ⟨?_, ?_, ?_, ?_, ?_, fun i hi => ?_, fun q => ?_, h8.keep ?_ (fun k q1 q2 => ?_)⟩, ⟨fun i hi => ⟨?_, ?_⟩, fun i hi => ?_, fun i hi => ?_⟩, ?_, ?_⟩
  · rw [setI_ne _ (by omega), setI_other _ (by decide), setI_other _ (by decide)]; exact h1
  · rw [setI_ne _ (by omega), setI_other _ (by decide), setI_other _ (by decide)]; exact h2
  · exact setI_at _ _ _ _
  · rw [setI_ne _ (by omega), setI_other _ (by decide), setI_other _ (by decide)]; exact h4
  · rw [setI_ne _ (by omega), setI_other _ (by decide), setI_other _ (by decide)]; exact h5
  · rw [setI_other _ (by decide), setI_other _ (by decide), setI_other _ (by decide)]; exact h6 i hi
  · rw [setI_other _ (by decide), setI_other _ (by decide), setI_other _ (by decide)]; exact h7 q
  · rw [setI_other _ (by decide), setI_other _ (by decide), setI_other _ (by decide)]
  · rw [setI_ne _ (by omega), setI_other _ (by decide), setI_other _ (by decide)]
  · rw [setI_other _ (by decide), setI_other _ (by decide), setI_row_at, if_neg (by omega)]
  · rw [setI_other _ (by decide), setI_row_at, if_neg (by omega), setI_other _ (by decide)]
  · rw [setI_other _ (by decide), setI_other _ (by decide), setI_other _ (by decide)]
  · rw [setI_other _ (by decide), setI_other _ (by decide), setI_other _ (by decide)]
  · rw [setI_other _ (by decide), setI_other _ (by decide)]; exact setI_at _ _ _ _
  · rw [setI_other _ (by decide)]; exact setI_at _ _ _ _
/-- what reads on: calls that wait, and the sign behind a letter -/
def PrsOK (v : Tx) (st : List Fr) (hd : Bool) : Prop := (∃ hf, scn v (st.map (fun f => f.2.2.length + 1), hd) = some ([], hf)) ∧ (hd = true → v.head? ≠ some 40) ∧ ∀ f ∈ st, f.2.2.length + 1 ≤ 6
theorem stp_par (S : List Nat) : stp 40 (S, true) = some (1 :: S, false) := by
  unfold stp
  rw [if_neg (by decide), if_neg (by decide), if_pos rfl]; rfl
theorem PrsOK.start {u : Tx} (h : Cpl u) : PrsOK u [] false := ⟨h, fun q => (by cases q), fun f hf => absurd hf (by simp)⟩
theorem PrsOK.nil {st : List Fr} {hd : Bool} (h : PrsOK [] st hd) : st = [] := by
  obtain ⟨⟨hf, e⟩, -⟩ := h
  cases st with
  | nil => rfl
  | cons f r => cases e
theorem PrsOK.way {c : Int32} {v : Tx} {st : List Fr} {hd : Bool} (h : PrsOK (c :: v) st hd) :
    (plB c = true ∧ PrsOK v st false) ∨ (c = 63 ∧ PrsOK v st false) ∨
    (inB c 65 90 = true ∧ v.head? ≠ some 40 ∧ PrsOK v st true) ∨
    (inB c 65 90 = true ∧ ∃ v', v = 40 :: v' ∧ ∀ f : Fr, f.2.2 = [] → PrsOK v' (f :: st) false) ∨
    (c = 44 ∧ ∃ f r, st = f :: r ∧ ∀ g : Fr, g.2.2.length = f.2.2.length + 1 → PrsOK v (g :: r) false) ∨
    (c = 41 ∧ ∃ f r, st = f :: r ∧ f.2.2.length + 1 ≤ 6 ∧ PrsOK v r false) := by
  obtain ⟨⟨hf, e⟩, hh, hb⟩ := h
  unfold scn at e
  cases e1 : stp c (st.map (fun f => f.2.2.length + 1), hd) with
  | none => rw [e1] at e; cases e
  | some q =>
    obtain ⟨s1, h1⟩ := q
    rw [e1] at e
    dsimp only at e
    rcases stp_some e1 with ⟨h2, -, -, -, -, rfl, rfl⟩ | ⟨-, -, h2, -, -, -, rfl, rfl⟩ | ⟨rfl, rfl, rfl, rfl⟩ | ⟨x, r, rfl, h2, h3, rfl, rfl⟩ | ⟨x, rfl, h2, rfl⟩
    · rcases h2 with h2 | h2
      · exact Or.inl ⟨h2, ⟨hf, e⟩, fun q => (by cases q), hb⟩
      · exact Or.inr (Or.inl ⟨h2, ⟨hf, e⟩, fun q => (by cases q), hb⟩)
    · by_cases c40 : v.head? = some 40
      · cases v with
        | nil => cases c40
        | cons x v =>
          cases c40
          unfold scn at e
          rw [stp_par] at e
          dsimp only at e
          refine Or.inr (Or.inr (Or.inr (Or.inl ⟨h2, v, rfl, fun f hf2 => ⟨⟨hf, ?_⟩, fun q => (by cases q), fun g hg => ?_⟩⟩)))
          · rw [List.map_cons, hf2]; exact e
          · rcases List.mem_cons.mp hg with rfl | hg
            · rw [hf2]; decide
            · exact hb g hg
      · exact Or.inr (Or.inr (Or.inl ⟨h2, c40, ⟨hf, e⟩, fun _ => c40, hb⟩))
    · exact absurd rfl (hh rfl)
    · cases st with
      | nil => cases h2
      | cons f rr =>
        rw [List.map_cons] at h2
        obtain ⟨h4, h5⟩ := List.cons.inj h2
        subst h5
        refine Or.inr (Or.inr (Or.inr (Or.inr (Or.inl ⟨rfl, f, rr, rfl, fun g hg => ⟨⟨hf, ?_⟩, fun q => (by cases q), fun g' hg' => ?_⟩⟩))))
        · rw [List.map_cons, hg, h4]; exact e
        · rcases List.mem_cons.mp hg' with rfl | hg'
          · omega
          · exact hb g' (List.mem_cons_of_mem _ hg')
    · cases st with
      | nil => cases h2
      | cons f rr =>
        rw [List.map_cons] at h2
        obtain ⟨h4, h5⟩ := List.cons.inj h2
        subst h5
        exact Or.inr (Or.inr (Or.inr (Or.inr (Or.inr ⟨rfl, f, rr, rfl, hb f (List.mem_cons_self ..), ⟨hf, e⟩, fun q => (by cases q), fun g hg => hb g (List.mem_cons_of_mem _ hg)⟩))))
def FrOK (b : BS) (Mb Wn : Nat) : List Fr → Prop
  | [] => True
  | f :: r => f.1 < 26 ∧ b.1 60 (Wn + r.length) = nI f.1 ∧ b.1 61 (Wn + r.length) = nI (Mb + (pcs r f.2.1).length) ∧ FrOK b Mb Wn r
theorem FrOK.lo {b b' : BS} {Mb Wn : Nat} {st : List Fr} (h : FrOK b Mb Wn st) (hl : ∀ i, i < Wn + st.length → b'.1 60 i = b.1 60 i ∧ b'.1 61 i = b.1 61 i) : FrOK b' Mb Wn st := by
  induction st with
  | nil => trivial
  | cons f r ih =>
    obtain ⟨h1, h2, h3, h4⟩ := h
    rw [List.length_cons] at hl
    refine ⟨h1, ?_, ?_, ih h4 (fun i hi => hl i (by omega))⟩
    · rw [(hl (Wn + r.length) (by omega)).1]; exact h2
    · rw [(hl (Wn + r.length) (by omega)).2]; exact h3
theorem fl_cons9 (w : Tx) (P : List Tx) : fl (w :: P) = w.length + fl P := by
  have := fl_app [w] P
  rw [fl_one] at this; exact this
def Sml (P : List Tx) : Prop := ∀ w ∈ P, w.length ≤ 200
theorem Sml.fl {P : List Tx} (h : Sml P) : fl P ≤ 200 * P.length := by
  induction P with
  | nil => exact Nat.le_refl _
  | cons w P ih =>
    have q := ih (fun v hv => h v (List.mem_cons_of_mem _ hv))
    have q1 := h w (List.mem_cons_self ..)
    rw [fl_cons9, List.length_cons]; omega
