/-! PURE: what the reference spells is what the text is worth -/
def sm (fc : Nat → Nat) : Nat → Nat → Nat
  | _, 0 => 0
  | h, n + 1 => fc h + sm fc (h + 1) n
theorem sm_add (fc : Nat → Nat) (h n m : Nat) : sm fc h (n + m) = sm fc h n + sm fc (h + n) m := by
  induction n generalizing h with
  | zero => rw [Nat.zero_add]; show _ = 0 + _; rw [Nat.zero_add]; rfl
  | succ n ih =>
    rw [Nat.succ_add]
    show fc h + sm fc (h + 1) (n + m) = fc h + sm fc (h + 1) n + sm fc (h + (n + 1)) m
    rw [ih, show h + 1 + n = h + (n + 1) by omega, Nat.add_assoc]
theorem sm_sh (fc : Nat → Nat) (h n : Nat) : sm fc (h + 1) n = sm (fun i => fc (i + 1)) h n := by
  induction n generalizing h with
  | zero => rfl
  | succ n ih => show fc (h + 1) + sm fc (h + 1 + 1) n = fc (h + 1) + sm (fun i => fc (i + 1)) (h + 1) n; rw [ih]
theorem sm_0 (h n : Nat) : sm (fun _ => 0) h n = 0 := by
  induction n generalizing h with
  | zero => rfl
  | succ n ih => show 0 + sm (fun _ => 0) (h + 1) n = 0; rw [ih]
section
variable {call : Nat → List Tx → Tx → Gl → Tx × Gl} {cv : Nat → List Tx → Tx} {ce : Nat → List Tx → Nat} {fill : Nat → Tx}
/-- what the arguments cost, by name -/
def fcs (call : Nat → List Tx → Tx → Gl → Tx × Gl) (fill : Nat → Tx) (fc : Nat → Nat) : Nat → List Tx → Nat → Nat
  | _, [], _ => 0
  | h, v :: _, 0 => xl call fill h v + sm fc h (hls v)
  | h, v :: vs, i + 1 => fcs call fill fc (h + hls v) vs i
theorem fcs_sum (fc : Nat → Nat) (vs : List Tx) (h n : Nat) : sm (fcs call fill fc h vs) 0 n ≤ xls call fill h vs + sm fc h (hll vs) := by
  induction vs generalizing h n with
  | nil =>
    have : fcs call fill fc h [] = fun _ => 0 := by funext i; cases i <;> rfl
    rw [this, sm_0]; omega
  | cons v vs ih =>
    cases n with
    | zero => show 0 ≤ _; omega
    | succ n =>
      have q := ih (h + hls v) n
      show xl call fill h v + sm fc h (hls v) + sm (fcs call fill fc h (v :: vs)) (0 + 1) n ≤ xl call fill h v + xls call fill (h + hls v) vs + sm fc h (hls v + hll vs)
      rw [sm_sh, sm_add]
      have e : (fun i => fcs call fill fc h (v :: vs) (i + 1)) = fcs call fill fc (h + hls v) vs := by funext i; rfl
      rw [e]; omega
theorem fcs_at (fc : Nat → Nat) : ∀ (vs : List Tx) (h i : Nat), i < vs.length → fcs call fill fc h vs i = xl call fill (h + hll (vs.take i)) (vs.getD i []) + sm fc (h + hll (vs.take i)) (hls (vs.getD i []))
  | [], _, _, hi => absurd hi (by simp)
  | v :: vs, h, 0, _ => rfl
  | v :: vs, h, i + 1, hi => by
    have q := fcs_at fc vs (h + hls v) i (by rw [List.length_cons] at hi; omega)
    show fcs call fill fc (h + hls v) vs i = xl call fill (h + (hls v + hll (vs.take i))) (vs.getD i []) + sm fc (h + (hls v + hll (vs.take i))) (hls (vs.getD i []))
    rw [q, Nat.add_assoc]
theorem vls_len : ∀ (vs : List Tx) (h : Nat), (vls call fill h vs).length = vs.length
  | [], _ => rfl
  | v :: vs, h => by show (vls call fill (h + hls v) vs).length + 1 = vs.length + 1; rw [vls_len vs]
theorem vls_at : ∀ (vs : List Tx) (h i : Nat), i < vs.length → (vls call fill h vs).getD i [] = vl call fill (h + hll (vs.take i)) (vs.getD i [])
  | [], _, _, hi => absurd hi (by simp)
  | v :: vs, h, 0, _ => rfl
  | v :: vs, h, i + 1, hi => by
    have q := vls_at vs (h + hls v) i (by rw [List.length_cons] at hi; omega)
    show (vls call fill (h + hls v) vs).getD i [] = vl call fill (h + (hls v + hll (vs.take i))) (vs.getD i [])
    rw [q, Nat.add_assoc]
theorem jn_getD : ∀ (vs : List Tx) (i : Nat), (vs.getD i []).length ≤ (jn vs).length
  | [], _ => Nat.le_refl _
  | [v], 0 => Nat.le_refl _
  | [v], i + 1 => Nat.zero_le _
  | v :: w :: r, 0 => by show v.length ≤ (v ++ 44 :: jn (w :: r)).length; rw [List.length_append]; omega
  | v :: w :: r, i + 1 => by
    have q := jn_getD (w :: r) i
    show ((w :: r).getD i []).length ≤ (v ++ 44 :: jn (w :: r)).length
    rw [List.length_append, List.length_cons]; omega
theorem vl_plain (hc : NIc call cv ce) {c : Int32} {v : Tx} {hd : Bool} (hpl : plB c = true) (hp : PrsOK v [] hd) (h : Nat) : vl call fill h (c :: v) = [c] ++ vl call fill h v ∧ xl call fill h (c :: v) = xl call fill h v := by
  have hnp := pl_ne hpl
  have ho : oneF call fill c ((([], [], h), G00) : Lc × Gl) = (([] ++ [c], [], h), bdd G00 (ovr ([] ++ [c]))) := by
    unfold oneF
    rw [if_neg hnp.1, if_neg (by rw [pl_ab hpl]; decide), if_neg hnp.2.2.1, if_neg hnp.2.2.2]
  have q := runF_vl hc (fill := fill) hp ([] ++ [c]) [] h (bdd G00 (ovr ([] ++ [c])))
  unfold vl xl
  rw [runF_one (by rw [pl_ab hpl]; rintro ⟨q, -⟩; cases q), ho, q.1, q.2]
  exact ⟨rfl, Nat.zero_add _⟩
theorem vl_hole (hc : NIc call cv ce) {v : Tx} {hd : Bool} (hp : PrsOK v [] hd) (h : Nat) : vl call fill h (63 :: v) = fill h ++ vl call fill (h + 1) v ∧ xl call fill h (63 :: v) = xl call fill (h + 1) v := by
  have ho : oneF call fill 63 ((([], [], h), G00) : Lc × Gl) = (([] ++ fill h, [], h + 1), bdd G00 (ovr ([] ++ fill h))) := by
    unfold oneF; rw [if_pos rfl]
  have q := runF_vl hc (fill := fill) hp ([] ++ fill h) [] (h + 1) (bdd G00 (ovr ([] ++ fill h)))
  unfold vl xl
  rw [runF_one (by rintro ⟨q, -⟩; cases q), ho, q.1, q.2]
  exact ⟨rfl, Nat.zero_add _⟩
theorem vl_lone (hc : NIc call cv ce) {c : Int32} {v : Tx} {hd : Bool} (hab : inB c 65 90 = true) (hnx : v.head? ≠ some 40) (hp : PrsOK v [] hd) (h : Nat) : vl call fill h (c :: v) = cv (ltr c) [] ++ vl call fill h v ∧ xl call fill h (c :: v) = ce (ltr c) [] + xl call fill h v := by
  have ho : oneF call fill c ((([], [], h), G00) : Lc × Gl) = (((call (ltr c) [] [] G00).1, [], h), (call (ltr c) [] [] G00).2) := by
    unfold oneF; rw [if_neg (ab_ne hab).1, if_pos hab]
  have g := hc (ltr c) [] [] G00
  have q := runF_vl hc (fill := fill) hp (call (ltr c) [] [] G00).1 [] h (call (ltr c) [] [] G00).2
  unfold vl xl
  rw [runF_one (by rintro ⟨-, q⟩; exact hnx q), ho, q.1, q.2, g.1, g.2]
  refine ⟨rfl, ?_⟩
  show 0 + ce (ltr c) [] + _ = _
  rw [Nat.zero_add]; rfl
theorem vl_par (hc : NIc call cv ce) {c : Int32} {w : Tx} {vs : List Tx} {hd : Bool} (hab : inB c 65 90 = true) (hn : vs ≠ []) (hv : ∀ x ∈ vs, Cpl x) (hp : PrsOK w [] hd) (h : Nat) : vl call fill h (c :: 40 :: (jn vs ++ 41 :: w)) = cv (ltr c) (vls call fill h vs) ++ vl call fill (h + hll vs) w ∧ xl call fill h (c :: 40 :: (jn vs ++ 41 :: w)) = xls call fill h vs + ce (ltr c) (vls call fill h vs) + xl call fill (h + hll vs) w := by
  obtain ⟨G', e1, e2⟩ := runF_args hc (fill := fill) hn hv w (ltr c) [] [] [] h G00
  have q := runF_vl hc (fill := fill) hp ([] ++ cv (ltr c) ([] ++ vls call fill h vs)) [] (h + hll vs) G'
  unfold vl xl
  rw [runF_psh hab]
  show (runF call fill (jn vs ++ 41 :: w) (([], (ltr c, [], []) :: [], h), G00)).1.1 = _ ∧ (runF call fill (jn vs ++ 41 :: w) (([], (ltr c, [], []) :: [], h), G00)).2.1 = _
  rw [e1, q.1, q.2, e2]
  refine ⟨rfl, ?_⟩
  show 0 + xls call fill h vs + ce (ltr c) (vls call fill h vs) + _ = _
  rw [Nat.zero_add]; rfl
end
def SPn (a : AS) (L n : Nat) : Prop := ∀ (O : List Nat) (fill : Nat → Tx) (fc : Nat → Nat) (u : Tx) (N : Nat) (v post : Tx) (p : Nat) (hd : Bool) (z : MS) (d B S : Nat) (env : Int32), v.length ≤ N → O.length + n = 13 → O.length ≤ L → DZ z a → SrcZ z (srcO O) u → u.drop p = v ++ post → (post = [] ∨ post.head? = some 44 ∨ post.head? = some 41) → p ≤ u.length → PrsOK v [] hd → EnvCh z B env O → Clo z B env O fill fc → z 43 32 = nI d → z 43 38 = nI B → z 43 39 = nI S → z 29 d = nI (srcO O) → z 30 d = nI p → z 31 d = env →
  B + (xl (callF (evF a.1 L n) a.1 L O) fill (hls (u.take p)) v + sm fc (hls (u.take p)) (hls v)) ≤ 60 → S + (vl (callF (evF a.1 L n) a.1 L O) fill (hls (u.take p)) v).length ≤ 200 → d + O.length ≤ 2 * B →
  POP z d B S (vl (callF (evF a.1 L n) a.1 L O) fill (hls (u.take p)) v) (xl (callF (evF a.1 L n) a.1 L O) fill (hls (u.take p)) v + sm fc (hls (u.take p)) (hls v))
