/-! PURE: texts, the abstract state, what ties both worlds to it -/
abbrev Tx : Type := List Int32
/-- a reading of a text: how many arguments each call has that is not closed (innermost first), and whether a letter was just read -/
abbrev Sc : Type := List Nat × Bool
def stp (c : Int32) (s : Sc) : Option Sc :=
  if plB c = true ∨ c = 63 then some (s.1, false)
  else if inB c 65 90 = true then some (s.1, true)
  else if c = 40 then (if s.2 = true then some (1 :: s.1, false) else none)
  else if c = 44 then (match s.1 with | [] => none | a :: r => if a < 6 then some ((a + 1) :: r, false) else none)
  else if c = 41 then (match s.1 with | [] => none | _ :: r => some (r, false))
  else none
def scn : Tx → Sc → Option Sc
  | [], s => some s
  | c :: t, s => match stp c s with
    | none => none
    | some s' => scn t s'
def Cpl (t : Tx) : Prop := ∃ h, scn t ([], false) = some ([], h)
/-- numbers of a text: (calls not closed, most arguments, deepest nesting) -/
def mst (c : Int32) (s : List Nat × Nat × Nat) : List Nat × Nat × Nat :=
  if inB c 65 90 = true then (s.1, s.2.1, max s.2.2 (s.1.length + 1))
  else if c = 40 then (1 :: s.1, max s.2.1 1, s.2.2)
  else if c = 44 then (match s.1 with | [] => s | a :: r => ((a + 1) :: r, max s.2.1 (a + 1), s.2.2))
  else if c = 41 then (s.1.tail, s.2.1, s.2.2)
  else s
def msts (t : Tx) (s : List Nat × Nat × Nat) : List Nat × Nat × Nat := t.foldl (fun s c => mst c s) s
def hls (t : Tx) : Nat := t.countP (fun c => decide (c = 63))
def cls (t : Tx) : Nat := t.countP (fun c => inB c 65 90)
def sml (t : Tx) : Nat := t.countP plB
def mstA (t : Tx) : Nat := (msts t ([], 0, 0)).2.1
def nst (t : Tx) : Nat := (msts t ([], 0, 0)).2.2
def cbit (c : Int32) : Int32 := if inB c 65 90 = true then (1 : Int32) <<< ((c - 65) &&& 31) else 0
def cld (t : Tx) : Int32 := t.foldl (fun m c => m ||| cbit c) 0
/-- signs, numbers of calls (six each), expanded, deepest -/
abbrev Oc : Type := Tx × Tx × Int32 × Int32
/-- definitions, outcome, depth, successes, failures -/
abbrev AS : Type := (Nat → Option Tx) × Oc × Int32 × Int32 × Int32
/-- the first signs of a row -/
def hold (f : Nat → Int32) (t : Tx) : Prop := ∀ j, j < t.length → f j = t.getD j 0
def ZS (f : Nat → Int32) (a : AS) : Prop :=
  (∀ k, k < 26 → f k = (match a.1 k with | none => -1 | some t => nI t.length)) ∧
  (∀ k, k < 26 → ∀ t, a.1 k = some t → hold (fun j => f (26 + 60 * k + j)) t) ∧
  f 1586 = a.2.2.1 ∧ f 1587 = nI a.2.1.1.length ∧ hold (fun j => f (1588 + j)) a.2.1.1 ∧
  f 1788 = a.2.1.2.2.1 ∧ f 1789 = a.2.1.2.2.2 ∧ f 1790 = a.2.2.2.1 ∧ f 1791 = a.2.2.2.2 ∧
  f 1792 = nI (a.2.1.2.1.length / 6) ∧ hold (fun j => f (1793 + j)) a.2.1.2.1
def TXb (b : BS) (x : Nat) (t : Tx) : Prop :=
  okB b.2.2 x 6 = true ∧ b.2.2 (x + 1) = t.length ∧ hold (b.1 (x + 1)) t ∧ b.1 x 1 = nI (hls t) ∧ b.1 x 2 = nI (cls t) ∧ b.1 x 3 = nI (mstA t) ∧ b.1 x 4 = nI (nst t) ∧ b.1 x 5 = nI (sml t) ∧ b.1 x 6 = cld t
def OCb (b : BS) (o : Nat) (c : Oc) : Prop :=
  okB b.2.2 o 3 = true ∧ b.2.2 (o + 1) = c.1.length ∧ hold (b.1 (o + 1)) c.1 ∧ b.2.2 (o + 2) = c.2.1.length ∧ hold (b.1 (o + 2)) c.2.1 ∧ b.1 o 1 = c.2.2.1 ∧ b.1 o 2 = c.2.2.2
def SBb (b : BS) (i : Nat) (a : AS) : Prop :=
  okB b.2.2 i 5 = true ∧ (∀ k, k < 26 → match a.1 k with | none => b.2.1 (i + 1) k = none | some t => ∃ x, b.2.1 (i + 1) k = some x ∧ TXb b x t) ∧
  (∃ o, b.2.1 i 1 = some o ∧ OCb b o a.2.1) ∧ b.1 i 2 = a.2.2.1 ∧ b.1 i 3 = a.2.2.2.1 ∧ b.1 i 4 = a.2.2.2.2
/-- a sign of a result -/
def sgB (x : Int32) : Bool := plB x || decide (x = 63) || decide (x = 35) || decide (x = 37) || decide (x = 36)
/-- a call that is listed: letter, ending, open, arguments, written, given -/
def enOK (t : Tx) (j : Nat) : Prop := ∃ k e o n w g : Nat, k < 26 ∧ e < 4 ∧ o ≤ 12 ∧ n ≤ 6 ∧ w ≤ 200 ∧ g ≤ 200 * n ∧ (e ≠ 0 → w = 1) ∧ t.getD (6 * j) 0 = nI k ∧ t.getD (6 * j + 1) 0 = nI e ∧ t.getD (6 * j + 2) 0 = nI o ∧ t.getD (6 * j + 3) 0 = nI n ∧ t.getD (6 * j + 4) 0 = nI w ∧ t.getD (6 * j + 5) 0 = nI g
def enC (t : Tx) : Nat → Nat
  | 0 => 0
  | j + 1 => enC t j + (if t.getD (6 * j + 1) 0 = 0 then 1 else 0)
def enM (t : Tx) : Nat → Nat
  | 0 => 0
  | j + 1 => if t.getD (6 * j + 1) 0 = 0 then max (enM t j) ((t.getD (6 * j + 2) 0).toNatClampNeg + 1) else enM t j
def TrG (t : Tx) (E dp : Nat) : Prop := (∀ j, j < t.length / 6 → enOK t j) ∧ (t.length / 6 < 60 → enC t (t.length / 6) = E ∧ enM t (t.length / 6) = dp) ∧ enC t (t.length / 6) ≤ E ∧ enM t (t.length / 6) ≤ dp
def OcG (c : Oc) : Prop := (∀ x ∈ c.1, sgB x = true) ∧ ∃ E dp : Nat, E ≤ 60 ∧ dp ≤ 12 ∧ c.2.2.1 = nI E ∧ c.2.2.2 = nI dp ∧ TrG c.2.1 E dp
/-- letter Z is never defined, and what is told of the outcome hangs together -/
def WX (a : AS) : Prop := a.1 25 = none ∧ OcG a.2.1
/-- what is always so of a state -/
def WA (a : AS) : Prop :=
  (∀ k t, a.1 k = some t → Cpl t ∧ t.length ≤ 60) ∧ (∃ d : Nat, 1 ≤ d ∧ d ≤ 12 ∧ a.2.2.1 = nI d) ∧ a.2.1.1.length ≤ 200 ∧ a.2.1.2.1.length ≤ 360 ∧ a.2.1.2.1.length % 6 = 0 ∧ WX a
/-- the buffer in both worlds -/
def Buf (z : MS) (b : BS) (t : Tx) : Prop := t.length ≤ 60 ∧ z 43 6 = nI t.length ∧ hold (z 5) t ∧ b.1 50 6 = nI t.length ∧ hold (b.1 51) t
/-- the saved states: oldest first -/
def Past (z : MS) (b : BS) (p : List AS) : Prop :=
  p.length ≤ 6 ∧ z 43 2 = nI p.length ∧ b.1 63 3 = nI p.length ∧ (∀ i a, p[i]? = some a → WA a ∧ ZS (fun k => z 1 (2153 * i + k)) a) ∧
  (∃ n : Nat, n < 6 ∧ b.1 63 2 = nI n ∧ ∀ i a, p[i]? = some a → b.2.1 64 ((n + 7 + i - p.length) % 6) = some (72 + 2 * ((n + 7 + i - p.length) % 6)) ∧ SBb b (72 + 2 * ((n + 7 + i - p.length) % 6)) a) ∧
  ∀ k, k < 6 → (b.2.1 64 k = none ∧ lvB b.2.2 (72 + 2 * k) = false) ∨ (b.2.1 64 k = some (72 + 2 * k) ∧ lvB b.2.2 (72 + 2 * k) = true)
def Snap (z : MS) (b : BS) (s : Nat → Option AS) : Prop := ∀ k, k < 2 → match s k with
  | none => z 4 k = 0 ∧ b.2.1 65 k = none ∧ lvB b.2.2 (84 + 2 * k) = false
  | some a => WA a ∧ z 4 k = 1 ∧ ZS (fun j => z 3 (2153 * k + j)) a ∧ b.2.1 65 k = some (84 + 2 * k) ∧ SBb b (84 + 2 * k) a
def Inv (z : MS) (b : BS) : Prop := ∃ (t : Tx) (a : AS) (p : List AS) (s : Nat → Option AS), Buf z b t ∧ WA a ∧ ZS (z 0) a ∧ SBb b 70 a ∧ Past z b p ∧ Snap z b s ∧ Closed b
/-- only scratch differs -/
def SmZ (z z' : MS) : Prop := z' 0 = z 0 ∧ z' 1 = z 1 ∧ z' 3 = z 3 ∧ z' 4 = z 4 ∧ z' 5 = z 5 ∧ z' 43 2 = z 43 2 ∧ z' 43 6 = z 43 6
def SmB (b b' : BS) : Prop := b'.2 = b.2 ∧ ∀ j, (j < 52 ∨ 62 < j) → b'.1 j = b.1 j
/-- .. the buffer too -/
def SmZ2 (z z' : MS) : Prop := z' 0 = z 0 ∧ z' 1 = z 1 ∧ z' 3 = z 3 ∧ z' 4 = z 4 ∧ z' 43 2 = z 43 2
def SmB2 (b b' : BS) : Prop := b'.2 = b.2 ∧ ∀ j, (j < 50 ∨ 62 < j) → b'.1 j = b.1 j
theorem SmZ.two {z z' : MS} (h : SmZ z z') : SmZ2 z z' := ⟨h.1, h.2.1, h.2.2.1, h.2.2.2.1, h.2.2.2.2.2.1⟩
theorem SmB.two {b b' : BS} (h : SmB b b') : SmB2 b b' := ⟨h.1, fun j hj => h.2 j (by omega)⟩
theorem SmZ.rf (z : MS) : SmZ z z := ⟨rfl, rfl, rfl, rfl, rfl, rfl, rfl⟩
theorem SmB.rf (b : BS) : SmB b b := ⟨rfl, fun _ _ => rfl⟩
theorem SmZ.tr {z z1 z2 : MS} (h : SmZ z z1) (g : SmZ z1 z2) : SmZ z z2 :=
  ⟨g.1.trans h.1, g.2.1.trans h.2.1, g.2.2.1.trans h.2.2.1, g.2.2.2.1.trans h.2.2.2.1, g.2.2.2.2.1.trans h.2.2.2.2.1, g.2.2.2.2.2.1.trans h.2.2.2.2.2.1, g.2.2.2.2.2.2.trans h.2.2.2.2.2.2⟩
theorem SmB.tr {b b1 b2 : BS} (h : SmB b b1) (g : SmB b1 b2) : SmB b b2 := ⟨g.1.trans h.1, fun j hj => (g.2 j hj).trans (h.2 j hj)⟩
theorem SmZ.up {z : MS} {a k : Nat} {v : Int32} (h : (a ≠ 0 ∧ a ≠ 1 ∧ a ≠ 3 ∧ a ≠ 4 ∧ a ≠ 5 ∧ a ≠ 43) ∨ (a = 43 ∧ k ≠ 2 ∧ k ≠ 6)) : SmZ z (up2 z a k v) := by
  rcases h with ⟨h0, h1, h3, h4, h5, h43⟩ | ⟨rfl, h2, h6⟩
  · exact ⟨up2_ne _ (Ne.symm h0), up2_ne _ (Ne.symm h1), up2_ne _ (Ne.symm h3), up2_ne _ (Ne.symm h4), up2_ne _ (Ne.symm h5), by rw [up2_ne _ (Ne.symm h43)], by rw [up2_ne _ (Ne.symm h43)]⟩
  · refine ⟨up2_ne _ (by decide), up2_ne _ (by decide), up2_ne _ (by decide), up2_ne _ (by decide), up2_ne _ (by decide), ?_, ?_⟩
    · rw [up2_at, if_neg (by omega)]
    · rw [up2_at, if_neg (by omega)]
theorem SmZ.rfs (z : MS) (w : Int32) : SmZ z (rfs z w) := SmZ.up (Or.inr ⟨rfl, by decide, by decide⟩)
theorem SmB.up {b : BS} {a k : Nat} {v : Int32} (h : 52 ≤ a ∧ a ≤ 62) : SmB b (setI b a k v) := ⟨rfl, fun j hj => up2_ne _ (by omega)⟩
theorem TXb.sm {b b' : BS} {x : Nat} {t : Tx} (h : SmB2 b b') (g : TXb b x t) : TXb b' x t := by
  obtain ⟨g1, g2, g3, g4⟩ := g
  have hx : 100 ≤ x := (kd6 (okB_2 g1)).1
  unfold TXb
  rw [h.1, h.2 x (by omega), h.2 (x + 1) (by omega)]
  exact ⟨g1, g2, g3, g4⟩
theorem OCb.sm {b b' : BS} {x : Nat} {t : Oc} (h : SmB2 b b') (g : OCb b x t) : OCb b' x t := by
  have hx : 100 ≤ x := (kd3 (okB_2 g.1)).1
  unfold OCb
  rw [h.1, h.2 x (by omega), h.2 (x + 1) (by omega), h.2 (x + 2) (by omega)]
  exact g
theorem SBb.sm {b b' : BS} {i : Nat} {a : AS} (h : SmB2 b b') (g : SBb b i a) : SBb b' i a := by
  obtain ⟨g1, g2, ⟨o, g3, g3'⟩, g4⟩ := g
  have hi := kd5 (okB_2 g1)
  unfold SBb
  rw [h.1, h.2 i (by omega)]
  refine ⟨g1, fun k hk => ?_, ⟨o, g3, g3'.sm h⟩, g4⟩
  have q := g2 k hk
  cases e : a.1 k with
  | none => rw [e] at q; exact q
  | some t =>
    rw [e] at q
    obtain ⟨x, q1, q2⟩ := q
    exact ⟨x, q1, q2.sm h⟩
theorem Buf.sm {z z' : MS} {b b' : BS} {t : Tx} (hz : SmZ z z') (hb : SmB b b') (g : Buf z b t) : Buf z' b' t := by
  unfold Buf
  rw [hz.2.2.2.2.1, hz.2.2.2.2.2.2, hb.2 50 (by omega), hb.2 51 (by omega)]
  exact g
theorem Past.sm {z z' : MS} {b b' : BS} {p : List AS} (hz : SmZ2 z z') (hb : SmB2 b b') (g : Past z b p) : Past z' b' p := by
  obtain ⟨g1, g2, g3, g4, ⟨n, g5, g6, g7⟩, g8⟩ := g
  unfold Past
  rw [hz.2.1, hz.2.2.2.2, hb.2 63 (by omega), hb.1]
  exact ⟨g1, g2, g3, g4, ⟨n, g5, g6, fun i a hi => ⟨(g7 i a hi).1, (g7 i a hi).2.sm hb⟩⟩, g8⟩
theorem Snap.sm {z z' : MS} {b b' : BS} {s : Nat → Option AS} (hz : SmZ2 z z') (hb : SmB2 b b') (g : Snap z b s) : Snap z' b' s := by
  intro k hk
  have q := g k hk
  cases e : s k with
  | none =>
    rw [e] at q
    dsimp only at q ⊢
    rw [hz.2.2.2.1, hb.1]; exact q
  | some a =>
    rw [e] at q
    dsimp only at q ⊢
    rw [hz.2.2.2.1, hz.2.2.1]
    refine ⟨q.1, q.2.1, q.2.2.1, ?_, q.2.2.2.2.sm hb⟩
    rw [hb.1]; exact q.2.2.2.1
theorem Inv.sm {z z' : MS} {b b' : BS} (hz : SmZ z z') (hb : SmB b b') (g : Inv z b) : Inv z' b' := by
  obtain ⟨t, a, p, s, g1, g2, g3, g4, g5, g6, g7⟩ := g
  refine ⟨t, a, p, s, g1.sm hz hb, g2, ?_, g4.sm hb.two, g5.sm hz.two hb.two, g6.sm hz.two hb.two, ?_⟩
  · rw [hz.1]; exact g3
  · unfold Closed; rw [hb.1]; exact g7
theorem Inv.buf {z z' : MS} {b b' : BS} {t : Tx} (hz : SmZ2 z z') (hb : SmB2 b b') (ht : Buf z' b' t) (g : Inv z b) : Inv z' b' := by
  obtain ⟨t0, a, p, s, g1, g2, g3, g4, g5, g6, g7⟩ := g
  refine ⟨t, a, p, s, ht, g2, ?_, g4.sm hb, g5.sm hz hb, g6.sm hz hb, ?_⟩
  · rw [hz.1]; exact g3
  · unfold Closed; rw [hb.1]; exact g7
