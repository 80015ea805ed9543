/-! PURE: an expansion without places to fall out of: texts as lists, sticky 'too much' -/
/-- expanded, deepest, trace, too much -/
abbrev Gl : Type := Nat × Nat × Tx × Bool
/-- a call that waits: letter, what was written before it, finished arguments -/
abbrev Fr : Type := Nat × Tx × List Tx
/-- what is being written, calls that wait, holes seen -/
abbrev Lc : Type := Tx × List Fr × Nat
def nte (G : Gl) (l : Tx) : Gl := (G.1, G.2.1, if G.2.2.1.length < 360 then G.2.2.1 ++ l else G.2.2.1, G.2.2.2)
def bdd (G : Gl) (p : Bool) : Gl := (G.1, G.2.1, G.2.2.1, G.2.2.2 || p)
def ovr (w : Tx) : Bool := decide (200 < w.length)
def sgn (e : Nat) : Int32 := if e = 1 then 36 else if e = 2 then 35 else 37
def edg (D : Nat → Option Tx) (L : Nat) (O : List Nat) (k : Nat) : Nat := match D k with | none => 1 | some _ => if k ∈ O then 2 else if L ≤ O.length then 3 else 0
def smA (as : List Tx) : Nat := as.flatten.length
def cnt6 (k e : Nat) (O : List Nat) (as : List Tx) (n : Nat) : Tx := [nI k, nI e, nI O.length, nI as.length, nI n, nI (smA as)]
def ltr (c : Int32) : Nat := (c - 65).toNatClampNeg
def bodyG (G : Gl) (O : List Nat) : Gl := (G.1 + 1, max G.2.1 (O.length + 1), G.2.2.1, G.2.2.2 || decide (60 ≤ G.1))
def resF (rec : List Nat → (Nat → Tx) → Tx → Gl → Tx × Gl) (D : Nat → Option Tx) (L : Nat) (O : List Nat) (k : Nat) (as : List Tx) (G : Gl) : Tx × Gl :=
  if edg D L O k = 0 then rec (k :: O) (fun i => as.getD i []) ((D k).getD []) (bodyG G O) else ([sgn (edg D L O k)], G)
def callF (rec : List Nat → (Nat → Tx) → Tx → Gl → Tx × Gl) (D : Nat → Option Tx) (L : Nat) (O : List Nat) (k : Nat) (as : List Tx) (own : Tx) (G : Gl) : Tx × Gl :=
  (own ++ (resF rec D L O k as G).1, nte (bdd (resF rec D L O k as G).2 (ovr (own ++ (resF rec D L O k as G).1))) (cnt6 k (edg D L O k) O as (resF rec D L O k as G).1.length))
def oneF (call : Nat → List Tx → Tx → Gl → Tx × Gl) (fill : Nat → Tx) (c : Int32) (s : Lc × Gl) : Lc × Gl :=
  if c = 63 then ((s.1.1 ++ fill s.1.2.2, s.1.2.1, s.1.2.2 + 1), bdd s.2 (ovr (s.1.1 ++ fill s.1.2.2)))
  else if inB c 65 90 = true then (((call (ltr c) [] s.1.1 s.2).1, s.1.2.1, s.1.2.2), (call (ltr c) [] s.1.1 s.2).2)
  else if c = 44 then (match s.1.2.1 with | [] => s | f :: r => (([], (f.1, f.2.1, f.2.2 ++ [s.1.1]) :: r, s.1.2.2), s.2))
  else if c = 41 then (match s.1.2.1 with | [] => s | f :: r => (((call f.1 (f.2.2 ++ [s.1.1]) f.2.1 s.2).1, r, s.1.2.2), (call f.1 (f.2.2 ++ [s.1.1]) f.2.1 s.2).2))
  else ((s.1.1 ++ [c], s.1.2.1, s.1.2.2), bdd s.2 (ovr (s.1.1 ++ [c])))
def pshF (c : Int32) (s : Lc × Gl) : Lc × Gl := (([], (ltr c, s.1.1, []) :: s.1.2.1, s.1.2.2), s.2)
def runF (call : Nat → List Tx → Tx → Gl → Tx × Gl) (fill : Nat → Tx) : Tx → Lc × Gl → Lc × Gl
  | [], s => s
  | [c], s => oneF call fill c s
  | c :: e :: r, s => if inB c 65 90 = true ∧ e = 40 then runF call fill r (pshF c s) else runF call fill (e :: r) (oneF call fill c s)
def evF (D : Nat → Option Tx) (L : Nat) : Nat → List Nat → (Nat → Tx) → Tx → Gl → Tx × Gl
  | 0, _, _, _, G => ([], G)
  | f + 1, O, fill, u, G => ((runF (callF (evF D L f) D L O) fill u (([], [], 0), G)).1.1, (runF (callF (evF D L f) D L O) fill u (([], [], 0), G)).2)
theorem runF_psh {call : Nat → List Tx → Tx → Gl → Tx × Gl} {fill : Nat → Tx} {c : Int32} {r : Tx} {s : Lc × Gl} (h : inB c 65 90 = true) : runF call fill (c :: 40 :: r) s = runF call fill r (pshF c s) := by
  rw [runF, if_pos ⟨h, rfl⟩]
theorem runF_one {call : Nat → List Tx → Tx → Gl → Tx × Gl} {fill : Nat → Tx} {c : Int32} {r : Tx} {s : Lc × Gl} (h : ¬ (inB c 65 90 = true ∧ r.head? = some 40)) : runF call fill (c :: r) s = runF call fill r (oneF call fill c s) := by
  cases r with
  | nil => rfl
  | cons e r =>
    rw [runF, if_neg]
    rintro ⟨h1, rfl⟩
    exact h ⟨h1, rfl⟩
theorem ltr_nI {k : Nat} (hk : k < 26) : ltr (nI (65 + k)) = k := by
  unfold ltr
  show (nI (65 + k) - nI 65).toNatClampNeg = k
  rw [nI_sub _ _ (by omega), Nat.add_sub_cancel_left, nI_clamp (by omega)]
theorem ltr_lt {c : Int32} (h : inB c 65 90 = true) : ltr c < 26 ∧ c - 65 = nI (ltr c) := by
  obtain ⟨k, hk, rfl, e⟩ := ab_nI h
  rw [ltr_nI hk]; exact ⟨hk, e⟩
/-- 'too much' stays -/
theorem nte_bad (G : Gl) (l : Tx) : (nte G l).2.2.2 = G.2.2.2 := rfl
theorem bdd_bad (G : Gl) (p : Bool) : (bdd G p).2.2.2 = (G.2.2.2 || p) := rfl
def Stk (rec : List Nat → (Nat → Tx) → Tx → Gl → Tx × Gl) : Prop := ∀ O fill u G, G.2.2.2 = true → (rec O fill u G).2.2.2.2 = true
theorem resF_bad {rec : List Nat → (Nat → Tx) → Tx → Gl → Tx × Gl} (hr : Stk rec) {D : Nat → Option Tx} {L : Nat} {O : List Nat} {k : Nat} {as : List Tx} {G : Gl} (h : G.2.2.2 = true) : (resF rec D L O k as G).2.2.2.2 = true := by
  unfold resF
  split
  · exact hr _ _ _ _ (by show (G.2.2.2 || _) = true; rw [h]; rfl)
  · exact h
theorem callF_bad {rec : List Nat → (Nat → Tx) → Tx → Gl → Tx × Gl} {D : Nat → Option Tx} {L : Nat} {O : List Nat} {k : Nat} {as : List Tx} {own : Tx} {G : Gl} : (callF rec D L O k as own G).2.2.2.2 = ((resF rec D L O k as G).2.2.2.2 || ovr (own ++ (resF rec D L O k as G).1)) := rfl
theorem oneF_bad {call : Nat → List Tx → Tx → Gl → Tx × Gl} (hc : ∀ k as own G, G.2.2.2 = true → (call k as own G).2.2.2.2 = true) {fill : Nat → Tx} {c : Int32} {s : Lc × Gl} (h : s.2.2.2.2 = true) : (oneF call fill c s).2.2.2.2 = true := by
  unfold oneF
  by_cases h1 : c = 63
  · rw [if_pos h1]; show (s.2.2.2.2 || _) = true; rw [h]; rfl
  · rw [if_neg h1]
    by_cases h2 : inB c 65 90 = true
    · rw [if_pos h2]; exact hc _ _ _ _ h
    · rw [if_neg h2]
      by_cases h3 : c = 44
      · rw [if_pos h3]
        cases s.1.2.1 with
        | nil => exact h
        | cons f r => exact h
      · rw [if_neg h3]
        by_cases h4 : c = 41
        · rw [if_pos h4]
          cases s.1.2.1 with
          | nil => exact h
          | cons f r => exact hc _ _ _ _ h
        · rw [if_neg h4]; show (s.2.2.2.2 || _) = true; rw [h]; rfl
theorem runF_bad {call : Nat → List Tx → Tx → Gl → Tx × Gl} (hc : ∀ k as own G, G.2.2.2 = true → (call k as own G).2.2.2.2 = true) {fill : Nat → Tx} (n : Nat) (u : Tx) (hn : u.length ≤ n) (s : Lc × Gl) (h : s.2.2.2.2 = true) : (runF call fill u s).2.2.2.2 = true := by
  induction n generalizing u s with
  | zero =>
    cases u with
    | nil => exact h
    | cons c r => rw [List.length_cons] at hn; omega
  | succ n ih =>
    cases u with
    | nil => exact h
    | cons c r =>
      rw [List.length_cons] at hn
      by_cases q : inB c 65 90 = true ∧ r.head? = some 40
      · cases r with
        | nil => cases q.2
        | cons e r =>
          obtain ⟨q1, q2⟩ := q
          cases q2
          rw [List.length_cons] at hn
          rw [runF_psh q1]
          exact ih r (by omega) _ h
      · rw [runF_one q]
        exact ih r (by omega) _ (oneF_bad hc h)
theorem evF_bad (D : Nat → Option Tx) (L : Nat) (f : Nat) : Stk (evF D L f) := by
  induction f with
  | zero => exact fun _ _ _ _ h => h
  | succ f ih =>
    intro O fill u G h
    refine runF_bad (fun k as own G h => ?_) u.length u (Nat.le_refl _) _ h
    rw [callF_bad, resF_bad ih h]; rfl
theorem evF_call_bad (D : Nat → Option Tx) (L : Nat) (f : Nat) (O : List Nat) : ∀ k as own G, G.2.2.2 = true → (callF (evF D L f) D L O k as own G).2.2.2.2 = true := fun k as own G h => by
  rw [callF_bad, resF_bad (evF_bad D L f) h]; rfl
/-- pieces of what is written, oldest first -/
def pcs : List Fr → Tx → List Tx
  | [], own => [own]
  | f :: r, own => pcs r f.2.1 ++ f.2.2 ++ [own]
theorem pcs_last (stk : List Fr) (own : Tx) : ∃ Q, ∀ w, pcs stk w = Q ++ [w] := by
  cases stk with
  | nil => exact ⟨[], fun _ => rfl⟩
  | cons f r => exact ⟨pcs r f.2.1 ++ f.2.2, fun _ => rfl⟩
def fl (P : List Tx) : Nat := P.flatten.length
theorem fl_app (P Q : List Tx) : fl (P ++ Q) = fl P + fl Q := by unfold fl; rw [List.flatten_append, List.length_append]
theorem fl_one (w : Tx) : fl [w] = w.length := by unfold fl; simp
theorem fl_nil : fl [] = 0 := rfl
