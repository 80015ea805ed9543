/-! PURE: a call's arguments are whole texts between commas -/
def jn : List Tx → Tx
  | [] => []
  | [v] => v
  | v :: w :: r => v ++ 44 :: jn (w :: r)
theorem jn_cons (c : Int32) (v : Tx) (vs : List Tx) : jn ((c :: v) :: vs) = c :: jn (v :: vs) := by
  cases vs with
  | nil => rfl
  | cons w r => rfl
theorem jn_app (x v : Tx) (vs : List Tx) : jn ((x ++ v) :: vs) = x ++ jn (v :: vs) := by
  cases vs with
  | nil => rfl
  | cons w r => show x ++ v ++ 44 :: jn (w :: r) = x ++ (v ++ 44 :: jn (w :: r)); rw [List.append_assoc]
theorem stp_fr {c : Int32} {A A' : List Nat} {hd h' : Bool} (e : stp c (A, hd) = some (A', h')) (B : List Nat) : stp c (A ++ B, hd) = some (A' ++ B, h') := by
  unfold stp at e ⊢
  by_cases h1 : plB c = true ∨ c = 63
  · rw [if_pos h1] at e ⊢; cases e; rfl
  · rw [if_neg h1] at e ⊢
    by_cases h2 : inB c 65 90 = true
    · rw [if_pos h2] at e ⊢; cases e; rfl
    · rw [if_neg h2] at e ⊢
      by_cases h3 : c = 40
      · rw [if_pos h3] at e ⊢
        cases hd with
        | true => rw [if_pos rfl] at e ⊢; cases e; rfl
        | false => rw [if_neg (show ¬ ((A, false) : Sc).2 = true from fun q => by cases q)] at e; cases e
      · rw [if_neg h3] at e ⊢
        by_cases h4 : c = 44
        · rw [if_pos h4] at e ⊢
          cases A with
          | nil => cases e
          | cons a r =>
            dsimp only at e
            show (if a < 6 then some ((a + 1) :: (r ++ B), false) else none) = some (A' ++ B, h')
            by_cases h5 : a < 6
            · rw [if_pos h5] at e ⊢; cases e; rfl
            · rw [if_neg h5] at e; cases e
        · rw [if_neg h4] at e ⊢
          by_cases h5 : c = 41
          · rw [if_pos h5] at e ⊢
            cases A with
            | nil => cases e
            | cons a r => cases e; rfl
          · rw [if_neg h5] at e; cases e
theorem scn_fr {v : Tx} {A A' : List Nat} {hd h' : Bool} (e : scn v (A, hd) = some (A', h')) (B : List Nat) : scn v (A ++ B, hd) = some (A' ++ B, h') := by
  induction v generalizing A hd with
  | nil => cases e; rfl
  | cons c v ih =>
    unfold scn at e ⊢
    cases e1 : stp c (A, hd) with
    | none => rw [e1] at e; cases e
    | some q =>
      obtain ⟨A1, h1⟩ := q
      rw [e1] at e
      rw [stp_fr e1 B]
      exact ih e
theorem scn_cons {c : Int32} {v : Tx} {s s1 : Sc} (e : stp c s = some s1) : scn (c :: v) s = scn v s1 := by
  show (match stp c s with | none => none | some s' => scn v s') = _
  rw [e]
theorem stp_comma {a : Nat} {S : List Nat} {hd : Bool} (h : a < 6) : stp 44 (a :: S, hd) = some ((a + 1) :: S, false) := by
  unfold stp
  rw [if_neg (by decide), if_neg (by decide), if_neg (by decide), if_pos rfl]
  show (if a < 6 then _ else _) = _
  rw [if_pos h]
theorem stp_close (a : Nat) (S : List Nat) (hd : Bool) : stp 41 (a :: S, hd) = some (S, false) := by
  unfold stp
  rw [if_neg (by decide), if_neg (by decide), if_neg (by decide), if_neg (by decide), if_pos rfl]
theorem stp_word {c : Int32} (h : plB c = true ∨ c = 63) (s : Sc) : stp c s = some (s.1, false) := by
  unfold stp; rw [if_pos h]
theorem stp_ltr {c : Int32} (h : inB c 65 90 = true) (s : Sc) : stp c s = some (s.1, true) := by
  unfold stp
  rw [if_neg, if_pos h]
  rintro (q | q)
  · rw [pl_ab q] at h; cases h
  · exact (ab_ne h).1 q
def CplH (v : Tx) (hd : Bool) : Prop := ∃ h, scn v ([], hd) = some ([], h)
theorem scn_jn {ys : List Tx} (h : ∀ v ∈ ys, Cpl v) (hn : ys ≠ []) {b : Nat} (hb : b + ys.length ≤ 7) (S : List Nat) : ∃ h', scn (jn ys) (b :: S, false) = some ((b + ys.length - 1) :: S, h') := by
  induction ys generalizing b with
  | nil => exact absurd rfl hn
  | cons v r ih =>
    obtain ⟨h1, e1⟩ := h v (List.mem_cons_self ..)
    have e2 := scn_fr e1 (b :: S)
    rw [List.nil_append] at e2
    rw [List.length_cons] at hb
    cases r with
    | nil => exact ⟨h1, e2⟩
    | cons w r =>
      obtain ⟨h2, e3⟩ := ih (fun x hx => h x (List.mem_cons_of_mem _ hx)) (by simp) (b := b + 1) (by omega)
      refine ⟨h2, ?_⟩
      show scn (v ++ 44 :: jn (w :: r)) (b :: S, false) = _
      rw [scn_app, e2]
      show scn (44 :: jn (w :: r)) (b :: S, h1) = _
      have hq : b + 1 + (w :: r).length - 1 = b + (v :: w :: r).length - 1 := by simp only [List.length_cons]; omega
      rw [List.length_cons] at hb
      rw [scn_cons (stp_comma (by omega)), e3, hq]
/-- up to the sign that closes -/
theorem split_args (N : Nat) : ∀ (w : Tx) (a : Nat) (R F : List Nat) (hd hf : Bool), w.length ≤ N → a ≤ 6 → scn w (a :: R, hd) = some (F, hf) → F.length ≤ R.length →
    ∃ v vs w', w = jn (v :: vs) ++ 41 :: w' ∧ CplH v hd ∧ (∀ x ∈ vs, Cpl x) ∧ vs.length + a ≤ 6 ∧ scn w' (R, false) = some (F, hf) := by
  induction N with
  | zero =>
    intro w a R F hd hf hN ha e hF
    cases w with
    | nil => cases e; rw [List.length_cons] at hF; omega
    | cons c w => rw [List.length_cons] at hN; omega
  | succ N ih =>
    intro w a R F hd hf hN ha e hF
    cases w with
    | nil => cases e; rw [List.length_cons] at hF; omega
    | cons c w =>
      rw [List.length_cons] at hN
      cases e1 : stp c (a :: R, hd) with
      | none =>
        have : scn (c :: w) (a :: R, hd) = none := by
          show (match stp c (a :: R, hd) with | none => none | some s' => scn w s') = _
          rw [e1]
        rw [this] at e; cases e
      | some q =>
        obtain ⟨s1, h1⟩ := q
        rw [scn_cons e1] at e
        rcases stp_some e1 with ⟨h2, -, -, -, -, rfl, rfl⟩ | ⟨-, -, h2, -, -, -, rfl, rfl⟩ | ⟨rfl, rfl, rfl, rfl⟩ | ⟨x, r, rfl, h2, h3, rfl, rfl⟩ | ⟨x, rfl, h2, rfl⟩
        · obtain ⟨v, vs, w', rfl, ⟨h4, e4⟩, h5, h6, h7⟩ := ih w a R F false hf (by omega) ha e hF
          exact ⟨c :: v, vs, w', by rw [jn_cons]; rfl, ⟨h4, by rw [scn_cons (stp_word h2 _)]; exact e4⟩, h5, h6, h7⟩
        · obtain ⟨v, vs, w', rfl, ⟨h4, e4⟩, h5, h6, h7⟩ := ih w a R F true hf (by omega) ha e hF
          exact ⟨c :: v, vs, w', by rw [jn_cons]; rfl, ⟨h4, by rw [scn_cons (stp_ltr h2 _)]; exact e4⟩, h5, h6, h7⟩
        · obtain ⟨y, ys, w2, rfl, ⟨h4, e4⟩, h5, h6, h7⟩ := ih w 1 (a :: R) F false hf (by omega) (by decide) e (by rw [List.length_cons]; omega)
          have hl : w2.length + 1 ≤ N := by
            rw [List.length_append, List.length_cons] at hN; omega
          obtain ⟨v, vs, w', rfl, ⟨h8, e8⟩, h9, h10, h11⟩ := ih w2 a R F false hf (by omega) ha h7 hF
          have hc : ∀ x ∈ y :: ys, Cpl x := by
            intro x hx
            rcases List.mem_cons.mp hx with rfl | hx
            · exact ⟨h4, e4⟩
            · exact h5 x hx
          obtain ⟨h12, e12⟩ := scn_jn hc (by simp) (b := 1) (by rw [List.length_cons]; omega) []
          refine ⟨40 :: (jn (y :: ys) ++ 41 :: v), vs, w', ?_, ⟨h8, ?_⟩, h9, h10, h11⟩
          · have q := jn_app (40 :: (jn (y :: ys) ++ [41])) v vs
            have q2 : 40 :: (jn (y :: ys) ++ [41]) ++ v = 40 :: (jn (y :: ys) ++ 41 :: v) := by simp
            rw [q2] at q
            rw [q]; simp
          · rw [scn_cons (stp_par []), scn_app, e12]
            show scn (41 :: v) ([1 + (y :: ys).length - 1], h12) = _
            rw [scn_cons (stp_close _ _ _)]; exact e8
        · obtain ⟨h4, h5⟩ := List.cons.inj h2
          subst h4 h5
          obtain ⟨v, vs, w', rfl, h6, h7, h8, h9⟩ := ih w (a + 1) R F false hf (by omega) (by omega) e hF
          refine ⟨[], v :: vs, w', rfl, ⟨hd, rfl⟩, fun x hx => ?_, by rw [List.length_cons]; omega, h9⟩
          rcases List.mem_cons.mp hx with rfl | hx
          · exact h6
          · exact h7 x hx
        · obtain ⟨h4, h5⟩ := List.cons.inj h2
          subst h4 h5
          exact ⟨[], [], w, rfl, ⟨hd, rfl⟩, fun x hx => absurd hx (by simp), by simpa using ha, e⟩
/-- a call with arguments, taken apart -/
theorem PrsOK.args {w : Tx} {f : Fr} {r : List Fr} (hf : f.2.2 = []) (h : PrsOK w (f :: r) false) : ∃ vs w', vs ≠ [] ∧ vs.length ≤ 6 ∧ w = jn vs ++ 41 :: w' ∧ (∀ x ∈ vs, Cpl x) ∧ PrsOK w' r false := by
  obtain ⟨⟨h1, e⟩, -, h3⟩ := h
  rw [List.map_cons, hf] at e
  obtain ⟨v, vs, w', e1, h4, h5, h6, h7⟩ := split_args w.length w 1 (r.map (fun f => f.2.2.length + 1)) [] false h1 (Nat.le_refl _) (by decide) e (Nat.zero_le _)
  refine ⟨v :: vs, w', by simp, by rw [List.length_cons]; omega, e1, fun x hx => ?_, ⟨h1, h7⟩, fun q => (by cases q), fun g hg => h3 g (List.mem_cons_of_mem _ hg)⟩
  rcases List.mem_cons.mp hx with rfl | hx
  · exact h4
  · exact h5 x hx
theorem runF_app {call : Nat → List Tx → Tx → Gl → Tx × Gl} {fill : Nat → Tx} {w : Tx} (hw : w.head? ≠ some 40) (n : Nat) (v : Tx) (hn : v.length ≤ n) (s : Lc × Gl) : runF call fill (v ++ w) s = runF call fill w (runF call fill v s) := by
  induction n generalizing v s with
  | zero =>
    cases v with
    | nil => rfl
    | cons c v => rw [List.length_cons] at hn; omega
  | succ n ih =>
    cases v with
    | nil => rfl
    | cons c v =>
      rw [List.length_cons] at hn
      by_cases q : inB c 65 90 = true ∧ v.head? = some 40
      · cases v with
        | nil => cases q.2
        | cons e v =>
          obtain ⟨q1, q2⟩ := q
          cases q2
          rw [List.length_cons] at hn
          show runF call fill (c :: 40 :: (v ++ w)) s = _
          rw [runF_psh q1, runF_psh q1]
          exact ih v (by omega) _
      · rw [runF_one q]
        show runF call fill (c :: (v ++ w)) s = _
        rw [runF_one (r := v ++ w)]
        · exact ih v (by omega) _
        · rintro ⟨q1, q2⟩
          cases v with
          | nil => exact hw q2
          | cons e v => exact q ⟨q1, q2⟩
/-- what arguments are worth, one behind the other -/
def vls (call : Nat → List Tx → Tx → Gl → Tx × Gl) (fill : Nat → Tx) : Nat → List Tx → List Tx
  | _, [] => []
  | h, v :: vs => vl call fill h v :: vls call fill (h + hls v) vs
def xls (call : Nat → List Tx → Tx → Gl → Tx × Gl) (fill : Nat → Tx) : Nat → List Tx → Nat
  | _, [] => 0
  | h, v :: vs => xl call fill h v + xls call fill (h + hls v) vs
def hll : List Tx → Nat
  | [] => 0
  | v :: vs => hls v + hll vs
theorem runF_args {call : Nat → List Tx → Tx → Gl → Tx × Gl} {cv : Nat → List Tx → Tx} {ce : Nat → List Tx → Nat} (hc : NIc call cv ce) {fill : Nat → Tx} {vs : List Tx} (hn : vs ≠ []) (hv : ∀ x ∈ vs, Cpl x) (w' : Tx) (k : Nat) (own : Tx) (stk : List Fr) (don : List Tx) (h : Nat) (G : Gl) :
    ∃ G', runF call fill (jn vs ++ 41 :: w') (([], (k, own, don) :: stk, h), G) = runF call fill w' ((own ++ cv k (don ++ vls call fill h vs), stk, h + hll vs), G') ∧ G'.1 = G.1 + xls call fill h vs + ce k (don ++ vls call fill h vs) := by
  induction vs generalizing don h G with
  | nil => exact absurd rfl hn
  | cons v r ih =>
    have hv1 := runF_vl hc (fill := fill) (PrsOK.start (hv v (List.mem_cons_self ..))) [] ((k, own, don) :: stk) h G
    rw [List.nil_append] at hv1
    obtain ⟨x, hx⟩ : ∃ x, x = runF call fill v (([], (k, own, don) :: stk, h), G) := ⟨_, rfl⟩
    rw [← hx] at hv1
    cases r with
    | nil =>
      show ∃ G', runF call fill (v ++ 41 :: w') _ = _ ∧ _
      rw [runF_app (by intro q; cases q) v.length v (Nat.le_refl _), ← hx, runF_one (by rintro ⟨q, -⟩; cases q)]
      have ho : oneF call fill 41 x = (((call k (don ++ [vl call fill h v]) own x.2).1, stk, h + hls v), (call k (don ++ [vl call fill h v]) own x.2).2) := by
        unfold oneF
        rw [if_neg (by decide), if_neg (by decide), if_neg (by decide), if_pos rfl, hv1.1]
      rw [ho]
      have g := hc k (don ++ [vl call fill h v]) own x.2
      refine ⟨(call k (don ++ [vl call fill h v]) own x.2).2, ?_, ?_⟩
      · rw [g.1]; rfl
      · rw [g.2, hv1.2]
        show _ = G.1 + (xl call fill h v + 0) + _
        rfl
    | cons w r =>
      obtain ⟨G', e1, e2⟩ := ih (by simp) (fun y hy => hv y (List.mem_cons_of_mem _ hy)) (don ++ [vl call fill h v]) (h + hls v) x.2
      refine ⟨G', ?_, ?_⟩
      · show runF call fill (v ++ 44 :: jn (w :: r) ++ 41 :: w') _ = _
        rw [List.append_assoc, List.cons_append, runF_app (by intro q; cases q) v.length v (Nat.le_refl _), ← hx, runF_one (by rintro ⟨q, -⟩; cases q)]
        have ho : oneF call fill 44 x = (([], (k, own, don ++ [vl call fill h v]) :: stk, h + hls v), x.2) := by
          unfold oneF
          rw [if_neg (by decide), if_neg (by decide), if_pos rfl, hv1.1]
        rw [ho, e1, List.append_assoc]
        show runF call fill w' ((_, stk, h + hls v + hll (w :: r)), G') = runF call fill w' ((_, stk, h + (hls v + hll (w :: r))), G')
        rw [Nat.add_assoc]; rfl
      · rw [e2, hv1.2, List.append_assoc]
        show G.1 + xl call fill h v + xls call fill (h + hls v) (w :: r) + _ = G.1 + (xl call fill h v + xls call fill (h + hls v) (w :: r)) + _
        rw [Nat.add_assoc G.1]; rfl
