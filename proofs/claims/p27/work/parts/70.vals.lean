/-! PURE: what a text is worth does not hang on what was counted before; a run in a frame -/
def NIc (call : Nat → List Tx → Tx → Gl → Tx × Gl) (cv : Nat → List Tx → Tx) (ce : Nat → List Tx → Nat) : Prop := ∀ k as own G, (call k as own G).1 = own ++ cv k as ∧ (call k as own G).2.1 = G.1 + ce k as
def pre (own : Tx) : List Fr → Tx → Tx
  | [], w => own ++ w
  | _ :: _, w => w
def liftSt (own : Tx) (stk : List Fr) : List Fr → List Fr
  | [] => stk
  | f :: r => (f.1, pre own r f.2.1, f.2.2) :: liftSt own stk r
def lift (own : Tx) (stk : List Fr) (s : Lc) : Lc := (pre own s.2.1 s.1, liftSt own stk s.2.1, s.2.2)
theorem pre_app (own : Tx) (r : List Fr) (w x : Tx) : pre own r (w ++ x) = pre own r w ++ x := by
  cases r with
  | nil => exact (List.append_assoc ..).symm
  | cons f r => rfl
theorem runF_lift {call : Nat → List Tx → Tx → Gl → Tx × Gl} {cv : Nat → List Tx → Tx} {ce : Nat → List Tx → Nat} (hc : NIc call cv ce) (fill : Nat → Tx) (own : Tx) (stk : List Fr) (n : Nat) (v : Tx) (hn : v.length ≤ n) (s : Lc) (hd : Bool) (hp : PrsOK v s.2.1 hd) (G G' : Gl) :
    (runF call fill v (lift own stk s, G)).1 = lift own stk (runF call fill v (s, G')).1 ∧ (runF call fill v (lift own stk s, G)).2.1 + G'.1 = (runF call fill v (s, G')).2.1 + G.1 := by
  induction n generalizing v s hd G G' with
  | zero =>
    cases v with
    | nil => exact ⟨rfl, Nat.add_comm _ _⟩
    | cons c v => rw [List.length_cons] at hn; omega
  | succ n ih =>
    cases v with
    | nil => exact ⟨rfl, Nat.add_comm _ _⟩
    | cons c v =>
      rw [List.length_cons] at hn
      obtain ⟨w, r, h⟩ := s
      rcases hp.way with ⟨hpl, hp'⟩ | ⟨rfl, hp'⟩ | ⟨hab, hnx, hp'⟩ | ⟨hab, v', rfl, hp'⟩ | ⟨rfl, f, r', hst, hp'⟩ | ⟨rfl, f, r', hst, hf6, hp'⟩
      · have hnp := pl_ne hpl
        have ho : ∀ s : Lc × Gl, oneF call fill c s = ((s.1.1 ++ [c], s.1.2.1, s.1.2.2), bdd s.2 (ovr (s.1.1 ++ [c]))) := fun s => by
          unfold oneF
          rw [if_neg hnp.1, if_neg (by rw [pl_ab hpl]; decide), if_neg hnp.2.2.1, if_neg hnp.2.2.2]
        rw [runF_one (by rw [pl_ab hpl]; rintro ⟨q, -⟩; cases q), runF_one (by rw [pl_ab hpl]; rintro ⟨q, -⟩; cases q), ho, ho]
        have q := ih v (by omega) (w ++ [c], r, h) false hp' (bdd G (ovr ((lift own stk (w, r, h)).1 ++ [c]))) (bdd G' (ovr (w ++ [c])))
        have e : lift own stk (w ++ [c], r, h) = ((lift own stk (w, r, h)).1 ++ [c], (lift own stk (w, r, h)).2.1, (lift own stk (w, r, h)).2.2) := by
          unfold lift; dsimp only; rw [pre_app]
        rw [e] at q
        exact q
      · have ho : ∀ s : Lc × Gl, oneF call fill 63 s = ((s.1.1 ++ fill s.1.2.2, s.1.2.1, s.1.2.2 + 1), bdd s.2 (ovr (s.1.1 ++ fill s.1.2.2))) := fun s => by
          unfold oneF; rw [if_pos rfl]
        rw [runF_one (by rintro ⟨q, -⟩; cases q), runF_one (by rintro ⟨q, -⟩; cases q), ho, ho]
        have q := ih v (by omega) (w ++ fill h, r, h + 1) false hp' (bdd G (ovr ((lift own stk (w, r, h)).1 ++ fill h))) (bdd G' (ovr (w ++ fill h)))
        have e : lift own stk (w ++ fill h, r, h + 1) = ((lift own stk (w, r, h)).1 ++ fill h, (lift own stk (w, r, h)).2.1, (lift own stk (w, r, h)).2.2 + 1) := by
          unfold lift; dsimp only; rw [pre_app]
        rw [e] at q
        exact q
      · have ho : ∀ s : Lc × Gl, oneF call fill c s = (((call (ltr c) [] s.1.1 s.2).1, s.1.2.1, s.1.2.2), (call (ltr c) [] s.1.1 s.2).2) := fun s => by
          unfold oneF; rw [if_neg (ab_ne hab).1, if_pos hab]
        rw [runF_one (by rintro ⟨-, q⟩; exact hnx q), runF_one (by rintro ⟨-, q⟩; exact hnx q), ho, ho]
        have q := ih v (by omega) ((call (ltr c) [] w G').1, r, h) true hp' (call (ltr c) [] (lift own stk (w, r, h)).1 G).2 (call (ltr c) [] w G').2
        have e : lift own stk ((call (ltr c) [] w G').1, r, h) = ((call (ltr c) [] (lift own stk (w, r, h)).1 G).1, (lift own stk (w, r, h)).2.1, (lift own stk (w, r, h)).2.2) := by
          rw [(hc _ _ _ _).1, (hc _ _ _ _).1]; unfold lift; dsimp only; rw [pre_app]
        rw [e] at q
        have g1 := (hc (ltr c) [] w G').2
        have g2 := (hc (ltr c) [] (lift own stk (w, r, h)).1 G).2
        refine ⟨q.1, ?_⟩
        have q2 := q.2
        dsimp only at q2 ⊢
        omega
      · rw [List.length_cons] at hn
        rw [runF_psh hab, runF_psh hab]
        have q := ih v' (by omega) ([], (ltr c, w, []) :: r, h) false (hp' _ rfl) G G'
        exact q
      · dsimp only at hst
        subst hst
        have ho : ∀ (s : Lc × Gl) (f : Fr) (r : List Fr), s.1.2.1 = f :: r → oneF call fill 44 s = (([], (f.1, f.2.1, f.2.2 ++ [s.1.1]) :: r, s.1.2.2), s.2) := fun s f r e => by
          unfold oneF; rw [if_neg (by decide), if_neg (by decide), if_pos rfl, e]
        rw [runF_one (by rintro ⟨q, -⟩; cases q), runF_one (by rintro ⟨q, -⟩; cases q), ho _ (f.1, pre own r' f.2.1, f.2.2) (liftSt own stk r') rfl, ho _ f r' rfl]
        exact ih v (by omega) ([], (f.1, f.2.1, f.2.2 ++ [w]) :: r', h) false (hp' _ (by rw [List.length_append]; rfl)) G G'
      · dsimp only at hst
        subst hst
        have ho : ∀ (s : Lc × Gl) (f : Fr) (r : List Fr), s.1.2.1 = f :: r → oneF call fill 41 s = (((call f.1 (f.2.2 ++ [s.1.1]) f.2.1 s.2).1, r, s.1.2.2), (call f.1 (f.2.2 ++ [s.1.1]) f.2.1 s.2).2) := fun s f r e => by
          unfold oneF; rw [if_neg (by decide), if_neg (by decide), if_neg (by decide), if_pos rfl, e]
        rw [runF_one (by rintro ⟨q, -⟩; cases q), runF_one (by rintro ⟨q, -⟩; cases q), ho _ (f.1, pre own r' f.2.1, f.2.2) (liftSt own stk r') rfl, ho _ f r' rfl]
        have q := ih v (by omega) ((call f.1 (f.2.2 ++ [w]) f.2.1 G').1, r', h) false hp' (call f.1 (f.2.2 ++ [w]) (pre own r' f.2.1) G).2 (call f.1 (f.2.2 ++ [w]) f.2.1 G').2
        have e : lift own stk ((call f.1 (f.2.2 ++ [w]) f.2.1 G').1, r', h) = ((call f.1 (f.2.2 ++ [w]) (pre own r' f.2.1) G).1, liftSt own stk r', h) := by
          rw [(hc _ _ _ _).1, (hc _ _ _ _).1]; unfold lift; dsimp only; rw [pre_app]
        rw [e] at q
        have g1 := (hc f.1 (f.2.2 ++ [w]) f.2.1 G').2
        have g2 := (hc f.1 (f.2.2 ++ [w]) (pre own r' f.2.1) G).2
        refine ⟨q.1, ?_⟩
        have q2 := q.2
        dsimp only at q2 ⊢
        show _ + G'.1 = _
        have q3 : (runF call fill v (((call f.1 (f.2.2 ++ [w]) (pre own r' f.2.1) G).1, liftSt own stk r', h), (call f.1 (f.2.2 ++ [w]) (pre own r' f.2.1) G).2)).2.1 + (call f.1 (f.2.2 ++ [w]) f.2.1 G').2.1 = (runF call fill v (((call f.1 (f.2.2 ++ [w]) f.2.1 G').1, r', h), (call f.1 (f.2.2 ++ [w]) f.2.1 G').2)).2.1 + (call f.1 (f.2.2 ++ [w]) (pre own r' f.2.1) G).2.1 := q2
        have q4 : (lift own stk (w, f :: r', h)).1 = w := rfl
        show (runF call fill v (((call f.1 (f.2.2 ++ [w]) (pre own r' f.2.1) G).1, liftSt own stk r', h), (call f.1 (f.2.2 ++ [w]) (pre own r' f.2.1) G).2)).2.1 + G'.1 = (runF call fill v (((call f.1 (f.2.2 ++ [w]) f.2.1 G').1, r', h), (call f.1 (f.2.2 ++ [w]) f.2.1 G').2)).2.1 + G.1
        omega
/-- what a whole text is worth, from hole h on, and how many it expands -/
def vl (call : Nat → List Tx → Tx → Gl → Tx × Gl) (fill : Nat → Tx) (h : Nat) (v : Tx) : Tx := (runF call fill v (([], [], h), G00)).1.1
def xl (call : Nat → List Tx → Tx → Gl → Tx × Gl) (fill : Nat → Tx) (h : Nat) (v : Tx) : Nat := (runF call fill v (([], [], h), G00)).2.1
theorem runF_vl {call : Nat → List Tx → Tx → Gl → Tx × Gl} {cv : Nat → List Tx → Tx} {ce : Nat → List Tx → Nat} (hc : NIc call cv ce) {fill : Nat → Tx} {v : Tx} {hd : Bool} (hp : PrsOK v [] hd) (own : Tx) (stk : List Fr) (h : Nat) (G : Gl) :
    (runF call fill v ((own, stk, h), G)).1 = (own ++ vl call fill h v, stk, h + hls v) ∧ (runF call fill v ((own, stk, h), G)).2.1 = G.1 + xl call fill h v := by
  have q := runF_lift hc fill own stk v.length v (Nat.le_refl _) ([], [], h) hd hp G G00
  have e : lift own stk ([], [], h) = (own, stk, h) := by
    show (own ++ [], stk, h) = _
    rw [List.append_nil]
  rw [e] at q
  obtain ⟨q1, q2⟩ := q
  obtain ⟨p1, p2⟩ := runF_end (call := call) (fill := fill) v.length v (Nat.le_refl _) (([], [], h), G00) hd hp
  refine ⟨?_, ?_⟩
  · rw [q1]
    obtain ⟨x1, hx1⟩ : ∃ x1, x1 = (runF call fill v (([], [], h), G00)).1 := ⟨_, rfl⟩
    rw [← hx1] at p1 p2 ⊢
    show lift own stk x1 = _
    have hv : vl call fill h v = x1.1 := by rw [hx1]; rfl
    rw [hv]
    unfold lift
    rw [p1, p2]; rfl
  · have g : G00.1 = 0 := rfl
    rw [g, Nat.add_zero] at q2
    rw [q2, Nat.add_comm]; rfl
theorem evF_ni (D : Nat → Option Tx) (L : Nat) : ∀ n O fill u, Cpl u → (∀ k t, D k = some t → Cpl t) → ∀ G, (evF D L n O fill u G).1 = (evF D L n O fill u G00).1 ∧ (evF D L n O fill u G).2.1 = G.1 + (evF D L n O fill u G00).2.1
  | 0, O, fill, u, _, _, G => ⟨rfl, rfl⟩
  | n + 1, O, fill, u, hu, hD, G => by
    have hc : NIc (callF (evF D L n) D L O) (fun k as => (resF (evF D L n) D L O k as G00).1) (fun k as => (resF (evF D L n) D L O k as G00).2.1) := by
      intro k as own G
      have q : (resF (evF D L n) D L O k as G).1 = (resF (evF D L n) D L O k as G00).1 ∧ (resF (evF D L n) D L O k as G).2.1 = G.1 + (resF (evF D L n) D L O k as G00).2.1 := by
        unfold resF
        by_cases c : edg D L O k = 0
        · rw [if_pos c, if_pos c]
          obtain ⟨⟨t, et⟩, -⟩ := edg_0 c
          rw [et]
          have a1 := evF_ni D L n (k :: O) (fun i => as.getD i []) t (hD k t et) hD (bodyG G O)
          have a2 := evF_ni D L n (k :: O) (fun i => as.getD i []) t (hD k t et) hD (bodyG G00 O)
          refine ⟨a1.1.trans a2.1.symm, ?_⟩
          show (evF D L n (k :: O) (fun i => as.getD i []) t (bodyG G O)).2.1 = G.1 + (evF D L n (k :: O) (fun i => as.getD i []) t (bodyG G00 O)).2.1
          rw [a1.2, a2.2]
          show G.1 + 1 + _ = G.1 + (0 + 1 + _)
          omega
        · rw [if_neg c, if_neg c]; exact ⟨rfl, rfl⟩
      exact ⟨by dsimp only; rw [← q.1]; rfl, q.2⟩
    have a1 := runF_vl hc (fill := fill) (PrsOK.start hu) [] [] 0 G
    have a2 := runF_vl hc (fill := fill) (PrsOK.start hu) [] [] 0 G00
    rw [evF_succ, evF_succ]
    refine ⟨?_, ?_⟩
    · show (runF (callF (evF D L n) D L O) fill u (([], [], 0), G)).1.1 = (runF (callF (evF D L n) D L O) fill u (([], [], 0), G00)).1.1
      rw [a1.1, a2.1]
    · show (runF (callF (evF D L n) D L O) fill u (([], [], 0), G)).2.1 = G.1 + (runF (callF (evF D L n) D L O) fill u (([], [], 0), G00)).2.1
      rw [a1.2, a2.2]
      show _ = G.1 + (0 + _)
      omega
def cvF (D : Nat → Option Tx) (L n : Nat) (O : List Nat) (k : Nat) (as : List Tx) : Tx := (resF (evF D L n) D L O k as G00).1
def ceF (D : Nat → Option Tx) (L n : Nat) (O : List Nat) (k : Nat) (as : List Tx) : Nat := (resF (evF D L n) D L O k as G00).2.1
theorem callF_ni {D : Nat → Option Tx} (L n : Nat) (O : List Nat) (hD : ∀ k t, D k = some t → Cpl t) : NIc (callF (evF D L n) D L O) (cvF D L n O) (ceF D L n O) := by
  intro k as own G
  have q : (resF (evF D L n) D L O k as G).1 = cvF D L n O k as ∧ (resF (evF D L n) D L O k as G).2.1 = G.1 + ceF D L n O k as := by
    unfold cvF ceF resF
    by_cases c : edg D L O k = 0
    · rw [if_pos c, if_pos c]
      obtain ⟨⟨t, et⟩, -⟩ := edg_0 c
      rw [et]
      have a1 := evF_ni D L n (k :: O) (fun i => as.getD i []) t (hD k t et) hD (bodyG G O)
      have a2 := evF_ni D L n (k :: O) (fun i => as.getD i []) t (hD k t et) hD (bodyG G00 O)
      refine ⟨a1.1.trans a2.1.symm, ?_⟩
      show (evF D L n (k :: O) (fun i => as.getD i []) t (bodyG G O)).2.1 = G.1 + (evF D L n (k :: O) (fun i => as.getD i []) t (bodyG G00 O)).2.1
      rw [a1.2, a2.2]
      show G.1 + 1 + _ = G.1 + (0 + 1 + _)
      omega
    · rw [if_neg c, if_neg c]; exact ⟨rfl, rfl⟩
  exact ⟨by rw [← q.1]; rfl, q.2⟩
