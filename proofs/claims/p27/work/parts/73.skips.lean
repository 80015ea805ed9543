/-! PURE: skipping arguments, filling, calling by name -/
theorem drop_app {u x w : Tx} {q : Nat} (h : u.drop q = x ++ w) : u.drop (q + x.length) = w := by
  rw [← List.drop_drop, h, List.drop_left]
theorem drop_lt {u w : Tx} {c : Int32} {q : Nat} (h : u.drop q = c :: w) : q < u.length ∧ u.getD q 0 = c ∧ u.drop (q + 1) = w := by
  have hlt : q < u.length := by
    have e := congrArg List.length h
    rw [List.length_drop, List.length_cons] at e; omega
  have e := drop_sL (0 : Int32) (l := u) hlt
  rw [h] at e
  obtain ⟨e1, e2⟩ := List.cons.inj e
  exact ⟨hlt, e1.symm, e2.symm⟩
section
variable {y : MS} {d B s : Nat} {u : Tx}
theorem skip_v (hd : d < 430) (h32 : y 43 32 = nI d) (hs : SrcZ y s u) {ss : List Nat} (rest : Tx) : ∀ (v : Tx) (A A' : List Nat) (hd0 hd1 : Bool) (q : Nat) (z : MS), A.length + v.length ≤ 500 → scn v (A, hd0) = some (A', hd1) → u.drop q = v ++ rest → SKI y d B q ss z →
    ∃ z', Loop (skB (nI s)) (nI (1 + A.length), z) = Loop (skB (nI s)) (nI (1 + A'.length), z') ∧ SKI y d B (q + v.length) ss z'
  | [], A, A', hd0, hd1, q, z, _, e, _, hI => by
    cases e
    exact ⟨z, rfl, hI⟩
  | c :: v, A, A', hd0, hd1, q, z, hb, e, hu, hI => by
    obtain ⟨hlt, hc, hdr⟩ := drop_lt (w := v ++ rest) hu
    rw [List.length_cons] at hb
    cases e1 : stp c (A, hd0) with
    | none =>
      have : scn (c :: v) (A, hd0) = none := by
        show (match stp c (A, hd0) with | none => none | some s' => scn v s') = _
        rw [e1]
      rw [this] at e; cases e
    | some s1 =>
      obtain ⟨A1, h1⟩ := s1
      rw [scn_cons e1] at e
      have key : A1.length + v.length ≤ 500 → Loop (skB (nI s)) (nI (1 + A.length), z) = Loop (skB (nI s)) (nI (1 + A1.length), up2 z 30 d (nI (q + 1))) → ∃ z', Loop (skB (nI s)) (nI (1 + A.length), z) = Loop (skB (nI s)) (nI (1 + A'.length), z') ∧ SKI y d B (q + (c :: v).length) ss z' := by
        intro hb1 hl
        obtain ⟨z', p1, p2⟩ := skip_v hd h32 hs rest v A1 A' h1 hd1 (q + 1) _ hb1 e hdr hI.move
        refine ⟨z', hl.trans p1, ?_⟩
        rw [List.length_cons, Nat.add_comm v.length 1, ← Nat.add_assoc]
        exact p2
      rcases stp_some e1 with ⟨-, -, h3, h4, h5, rfl, rfl⟩ | ⟨-, -, -, h3, h4, h5, rfl, rfl⟩ | ⟨rfl, rfl, rfl, rfl⟩ | ⟨a, r, rfl, rfl, h3, rfl, rfl⟩ | ⟨a, rfl, rfl, rfl⟩
      · exact key (by omega) (skB_pass hd h32 hI hs hlt (by omega) (by omega) (Or.inr (Or.inr (Or.inr ⟨by rw [hc]; exact h3, by rw [hc]; exact h5, by rw [hc]; exact h4, rfl⟩))))
      · exact key (by omega) (skB_pass hd h32 hI hs hlt (by omega) (by omega) (Or.inr (Or.inr (Or.inr ⟨by rw [hc]; exact h3, by rw [hc]; exact h5, by rw [hc]; exact h4, rfl⟩))))
      · exact key (by rw [List.length_cons]; omega) (skB_pass hd h32 hI hs hlt (by omega) (by rw [List.length_cons]; omega) (Or.inl ⟨hc, by rw [nI_1, List.length_cons]; congr 1, by rw [List.length_cons]; omega⟩))
      · rw [List.length_cons] at hb
        exact key (by rw [List.length_cons]; omega) (skB_pass hd h32 hI hs hlt (by omega) (by rw [List.length_cons]; omega) (Or.inr (Or.inr (Or.inl ⟨hc, rfl, by rw [List.length_cons]; omega⟩))))
      · rw [List.length_cons] at hb
        exact key (by omega) (skB_pass hd h32 hI hs hlt (by omega) (by omega) (Or.inr (Or.inl ⟨hc, by rw [List.length_cons, ← Nat.add_assoc]; exact nI_m1 _⟩)))
def nxt : Nat → List Tx → List Nat
  | _, [] => []
  | _, [_] => []
  | q, v :: w :: r => (q + v.length + 1) :: nxt (q + v.length + 1) (w :: r)
theorem skip_args (hd : d < 430) (h32 : y 43 32 = nI d) (h38 : y 43 38 = nI B) (hB : B < 62) (hs : SrcZ y s u) (rest : Tx) : ∀ (vs : List Tx) (q : Nat) (ss : List Nat) (z : MS), vs ≠ [] → (∀ x ∈ vs, Cpl x) → ss.length + vs.length ≤ 7 → u.drop q = jn vs ++ 41 :: rest → SKI y d B q ss z →
    ∃ z', Loop (skB (nI s)) (1, z) = some z' ∧ SKI y d B (q + (jn vs).length + 1) (ss ++ nxt q vs) z'
  | [], _, _, _, hn, _, _, _, _ => absurd rfl hn
  | [v], q, ss, z, _, hc, hb, hu, hI => by
    obtain ⟨h1, e1⟩ := hc v (List.mem_cons_self ..)
    have hl : v.length ≤ 60 := by
      have e := congrArg List.length hu
      have := hs.1
      rw [List.length_drop, List.length_append] at e
      have e2 : (jn [v]).length = v.length := rfl
      omega
    obtain ⟨z1, p1, p2⟩ := skip_v hd h32 hs (ss := ss) (41 :: rest) v [] [] false h1 q z (by show 0 + v.length ≤ 500; omega) e1 hu hI
    obtain ⟨hlt, hc41, hdr⟩ := drop_lt (drop_app hu)
    refine ⟨up2 z1 30 d (nI (q + v.length + 1)), ?_, ?_⟩
    · have q1 : Loop (skB (nI s)) (1, z) = Loop (skB (nI s)) (1, z1) := p1
      rw [q1]
      refine Loop_inr (skB_at hd h32 p2 hs hlt ?_)
      have hc' : u.getD (q + v.length) 0 = 41 := hc41
      rw [hc']
      exact jp_go <| if_go (by decide) <| if_no (fun q => q rfl) <| bd_go <| jp_go <| if_go (by decide) <| if_no (by decide) rfl
    · rw [show ss ++ nxt q [v] = ss from List.append_nil ss]
      exact p2.move
  | v :: w :: r, q, ss, z, _, hc, hb, hu, hI => by
    obtain ⟨h1, e1⟩ := hc v (List.mem_cons_self ..)
    have hu2 : u.drop q = v ++ 44 :: (jn (w :: r) ++ 41 :: rest) := by
      rw [hu]
      show v ++ 44 :: jn (w :: r) ++ 41 :: rest = _
      rw [List.append_assoc]; rfl
    have hl : v.length ≤ 60 := by
      have e := congrArg List.length hu2
      have := hs.1
      rw [List.length_drop, List.length_append] at e
      omega
    rw [List.length_cons, List.length_cons] at hb
    obtain ⟨z1, p1, p2⟩ := skip_v hd h32 hs (ss := ss) (44 :: (jn (w :: r) ++ 41 :: rest)) v [] [] false h1 q z (by show 0 + v.length ≤ 500; omega) e1 hu2 hI
    obtain ⟨hlt, hc44, hdr⟩ := drop_lt (drop_app hu2)
    obtain ⟨z2, p3, p4⟩ := skB_note (x10 := 1) hd h32 h38 hB p2 hs hlt (by omega) (Or.inr ⟨hc44, rfl⟩)
    obtain ⟨z3, p5, p6⟩ := skip_args hd h32 h38 hB hs rest (w :: r) (q + v.length + 1) (ss ++ [q + v.length + 1]) z2 (by simp) (fun x hx => hc x (List.mem_cons_of_mem _ hx)) (by rw [List.length_append, List.length_cons]; simp; omega) hdr p4
    have q1 : Loop (skB (nI s)) (1, z) = Loop (skB (nI s)) (1, z1) := p1
    refine ⟨z3, q1.trans (p3.trans p5), ?_⟩
    have e3 : q + (jn (v :: w :: r)).length + 1 = q + v.length + 1 + (jn (w :: r)).length + 1 := by
      show q + (v ++ 44 :: jn (w :: r)).length + 1 = _
      rw [List.length_append, List.length_cons]; omega
    have e4 : ss ++ nxt q (v :: w :: r) = ss ++ [q + v.length + 1] ++ nxt (q + v.length + 1) (w :: r) := by
      rw [List.append_assoc]; rfl
    rw [e3, e4]; exact p6
theorem SKI.start (y : MS) (d B q : Nat) (h30 : y 30 d = nI q) : SKI y d B q [] (up2 y 36 B 0) := by
  refine ⟨fun u _ q2 _ => up2_ne _ q2, fun j hj => by rw [up2_ne _ (by decide)], by rw [up2_ne _ (by decide)]; exact h30, fun j hj => by rw [up2_at, if_neg (by omega)], by rw [up2_at, if_pos ⟨rfl, rfl⟩]; rfl, fun i hi => by rw [up2_ne _ (by decide)], fun i hi => absurd hi (by simp)⟩
theorem skips_par (hd : d < 430) (h32 : y 43 32 = nI d) (h38 : y 43 38 = nI B) (hB : B < 62) (h29 : y 29 d = nI s) {q : Nat} (h30 : y 30 d = nI q) (hs : SrcZ y s u) {vs : List Tx} {rest : Tx} (hn : vs ≠ []) (hv : ∀ x ∈ vs, Cpl x) (h6 : vs.length ≤ 6) (hu : u.drop q = 40 :: (jn vs ++ 41 :: rest)) :
    ∃ z3, F8_skips y = some z3 ∧ SKI y d B (q + 1 + (jn vs).length + 1) ((q + 1) :: nxt (q + 1) vs) z3 := by
  have hu60 := hs.1
  obtain ⟨hlt, hc, hdr⟩ := drop_lt hu
  obtain ⟨w, hw⟩ : ∃ w, w = up2 y 36 B 0 := ⟨_, rfl⟩
  have hI : SKI y d B q [] w := by rw [hw]; exact SKI.start y d B q h30
  have w43 : w 43 = y 43 := hI.1 43 (by decide) (by decide) (by decide)
  have hsw : SrcZ w s u := by
    unfold SrcZ
    rw [hI.1 0 (by decide) (by decide) (by decide), hI.1 5 (by decide) (by decide) (by decide), w43]; exact hs
  obtain ⟨z1, p1, p2⟩ := skB_note (x10 := 0) hd h32 h38 hB hI hs hlt (by decide) (Or.inl ⟨hc, rfl⟩)
  obtain ⟨z2, p3, p4⟩ := skip_args hd h32 h38 hB hs rest vs (q + 1) ([] ++ [q + 1]) z1 hn hv (by show 1 + vs.length ≤ 7; omega) hdr p2
  refine ⟨z2, ?_, p4⟩
  unfold F8_skips
  refine rd_go h32 hd (by decide) h29 <| wr_go h38 hB (by decide) ?_
  rw [← hw]
  have w32 : w 43 32 = nI d := by rw [w43]; exact h32
  refine rd_go w32 hd (by decide) hI.2.2.1 <| bn_go (F8_longOf_eq hsw) <| jp_go <| if_no (nI_ge hlt (by omega)) <| rd_go w32 hd (by decide) hI.2.2.1 <| bn_go (F8_signOf_eq hsw hlt) <| if_go hc ?_
  exact p1.trans p3
theorem skips_none (hd : d < 430) (h32 : y 43 32 = nI d) (h38 : y 43 38 = nI B) (hB : B < 62) (h29 : y 29 d = nI s) {q : Nat} (h30 : y 30 d = nI q) (hs : SrcZ y s u) (hq : q ≤ u.length) (hu : (u.drop q).head? ≠ some 40) :
    ∃ z3, F8_skips y = some z3 ∧ SKI y d B q [] z3 := by
  have hu60 := hs.1
  obtain ⟨w, hw⟩ : ∃ w, w = up2 y 36 B 0 := ⟨_, rfl⟩
  have hI : SKI y d B q [] w := by rw [hw]; exact SKI.start y d B q h30
  have w43 : w 43 = y 43 := hI.1 43 (by decide) (by decide) (by decide)
  have hsw : SrcZ w s u := by
    unfold SrcZ
    rw [hI.1 0 (by decide) (by decide) (by decide), hI.1 5 (by decide) (by decide) (by decide), w43]; exact hs
  refine ⟨w, ?_, hI⟩
  unfold F8_skips
  refine rd_go h32 hd (by decide) h29 <| wr_go h38 hB (by decide) ?_
  rw [← hw]
  have w32 : w 43 32 = nI d := by rw [w43]; exact h32
  refine rd_go w32 hd (by decide) hI.2.2.1 <| bn_go (F8_longOf_eq hsw) <| jp_go ?_
  by_cases c : q < u.length
  · refine if_no (nI_ge c (by omega)) <| rd_go w32 hd (by decide) hI.2.2.1 <| bn_go (F8_signOf_eq hsw c) <| if_no (fun e => hu ?_) rfl
    rw [drop_sL (0 : Int32) c, e]; rfl
  · exact if_go (nI_le (by omega) (by omega)) rfl
end
/-- where arguments stand -/
theorem nxt_len : ∀ (vs : List Tx) (q : Nat), vs ≠ [] → (nxt q vs).length + 1 = vs.length
  | [], _, h => absurd rfl h
  | [_], _, _ => rfl
  | v :: w :: r, q, _ => by
    have := nxt_len (w :: r) (q + v.length + 1) (by simp)
    show (nxt (q + v.length + 1) (w :: r)).length + 1 + 1 = _
    rw [this]; rfl
theorem hls_app (x w : Tx) : hls (x ++ w) = hls x + hls w := by unfold hls; exact List.countP_append ..
theorem hls_take {u x w : Tx} {q : Nat} (h : u.drop q = x ++ w) : hls (u.take (q + x.length)) = hls (u.take q) + hls x := by
  have e : u.take (q + x.length) = u.take q ++ x := by
    rw [List.take_add, h, List.take_left]
  rw [e, hls_app]
theorem arg_at {u rest : Tx} : ∀ (vs : List Tx) (q : Nat), vs ≠ [] → u.drop q = jn vs ++ 41 :: rest → ∀ i, i < vs.length → ∃ post, u.drop ((q :: nxt q vs).getD i 0) = vs.getD i [] ++ post ∧ (post.head? = some 44 ∨ post.head? = some 41) ∧ hls (u.take ((q :: nxt q vs).getD i 0)) = hls (u.take q) + hll (vs.take i)
  | [], _, h, _, _, _ => absurd rfl h
  | [v], q, _, hu, i, hi => by
    have : i = 0 := by simp at hi; exact hi
    subst this
    exact ⟨41 :: rest, hu, Or.inr rfl, rfl⟩
  | v :: w :: r, q, _, hu, i, hi => by
    have hu2 : u.drop q = v ++ 44 :: (jn (w :: r) ++ 41 :: rest) := by
      rw [hu]
      show v ++ 44 :: jn (w :: r) ++ 41 :: rest = _
      rw [List.append_assoc]; rfl
    cases i with
    | zero => exact ⟨_, hu2, Or.inl rfl, rfl⟩
    | succ i =>
      have hu3 : u.drop (q + v.length + 1) = jn (w :: r) ++ 41 :: rest := (drop_lt (drop_app hu2)).2.2
      obtain ⟨post, p1, p2, p3⟩ := arg_at (w :: r) (q + v.length + 1) (by simp) hu3 i (by rw [List.length_cons] at hi; omega)
      refine ⟨post, p1, p2, ?_⟩
      have e : hls (u.take (q + v.length + 1)) = hls (u.take q) + hls v := by
        have q1 := hls_take (x := v ++ [44]) (w := jn (w :: r) ++ 41 :: rest) (u := u) (q := q) (by rw [hu2]; simp)
        have l1 : (v ++ [(44 : Int32)]).length = v.length + 1 := by rw [List.length_append]; rfl
        rw [l1, hls_app, ← Nat.add_assoc] at q1
        have : hls [(44 : Int32)] = 0 := rfl
        omega
      show hls (u.take (((q + v.length + 1) :: nxt (q + v.length + 1) (w :: r)).getD i 0)) = hls (u.take q) + (hls v + hll ((w :: r).take i))
      rw [p3, e, Nat.add_assoc]
theorem hll_jn : ∀ vs : List Tx, hls (jn vs) = hll vs
  | [] => rfl
  | [v] => (Nat.add_zero _).symm
  | v :: w :: r => by
    show hls (v ++ 44 :: jn (w :: r)) = hls v + hll (w :: r)
    rw [hls_app, hls_cons, if_neg (by decide), hll_jn (w :: r), Nat.zero_add]
