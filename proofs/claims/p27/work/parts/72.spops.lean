/-! PURE: the reference spells, operation by operation -/
def Sp (z z' : MS) : Prop := (∀ u, u ≠ 0 → (u < 29 ∨ 37 < u) → u ≠ 43 → z' u = z u) ∧ (∀ i, (i < 1588 ∨ 1788 ≤ i) → z' 0 i = z 0 i) ∧ ∀ k, k ≠ 32 → k ≠ 38 → k ≠ 39 → z' 43 k = z 43 k
theorem Sp.rf (z : MS) : Sp z z := ⟨fun _ _ _ _ => rfl, fun _ _ => rfl, fun _ _ _ _ => rfl⟩
theorem Sp.tr {z z1 z2 : MS} (h : Sp z z1) (g : Sp z1 z2) : Sp z z2 := ⟨fun u a b c => (g.1 u a b c).trans (h.1 u a b c), fun i hi => (g.2.1 i hi).trans (h.2.1 i hi), fun k a b c => (g.2.2 k a b c).trans (h.2.2 k a b c)⟩
theorem Sp.up {z : MS} {a k : Nat} {v : Int32} (h : (29 ≤ a ∧ a ≤ 37) ∨ (a = 43 ∧ (k = 32 ∨ k = 38 ∨ k = 39)) ∨ (a = 0 ∧ 1588 ≤ k ∧ k < 1788)) : Sp z (up2 z a k v) := by
  refine ⟨fun u q1 q2 q3 => up2_ne _ (by omega), fun i hi => ?_, fun j q1 q2 q3 => ?_⟩
  · rw [up2_at, if_neg (by omega)]
  · rw [up2_at, if_neg (by omega)]
def EnvSt (z z' : MS) (B : Nat) : Prop := (∀ j, j < B → z' 33 j = z 33 j ∧ z' 34 j = z 34 j ∧ z' 35 j = z 35 j ∧ z' 36 j = z 36 j) ∧ ∀ i, i < 6 * B → z' 37 i = z 37 i
theorem EnvSt.rf (z : MS) (B : Nat) : EnvSt z z B := ⟨fun _ _ => ⟨rfl, rfl, rfl, rfl⟩, fun _ _ => rfl⟩
theorem EnvSt.tr {z z1 z2 : MS} {B : Nat} (h : EnvSt z z1 B) (g : EnvSt z1 z2 B) : EnvSt z z2 B :=
  ⟨fun j hj => ⟨(g.1 j hj).1.trans (h.1 j hj).1, (g.1 j hj).2.1.trans (h.1 j hj).2.1, (g.1 j hj).2.2.1.trans (h.1 j hj).2.2.1, (g.1 j hj).2.2.2.trans (h.1 j hj).2.2.2⟩, fun i hi => (g.2 i hi).trans (h.2 i hi)⟩
theorem EnvSt.le {z z' : MS} {B B' : Nat} (h : EnvSt z z' B) (hB : B' ≤ B) : EnvSt z z' B' := ⟨fun j hj => h.1 j (by omega), fun i hi => h.2 i (by omega)⟩
theorem EnvSt.up {z : MS} {a k : Nat} {v : Int32} {B : Nat} (h1 : a = 33 ∨ a = 34 ∨ a = 35 ∨ a = 36 → B ≤ k) (h2 : a = 37 → 6 * B ≤ k) : EnvSt z (up2 z a k v) B := by
  refine ⟨fun j hj => ⟨?_, ?_, ?_, ?_⟩, fun i hi => ?_⟩ <;> rw [up2_at, if_neg (by omega)]
def StkSt (z z' : MS) (d : Nat) : Prop := ∀ j, j < d → z' 29 j = z 29 j ∧ z' 30 j = z 30 j ∧ z' 31 j = z 31 j
theorem StkSt.rf (z : MS) (d : Nat) : StkSt z z d := fun _ _ => ⟨rfl, rfl, rfl⟩
theorem StkSt.tr {z z1 z2 : MS} {d : Nat} (h : StkSt z z1 d) (g : StkSt z1 z2 d) : StkSt z z2 d := fun j hj => ⟨(g j hj).1.trans (h j hj).1, (g j hj).2.1.trans (h j hj).2.1, (g j hj).2.2.trans (h j hj).2.2⟩
theorem StkSt.le {z z' : MS} {d d' : Nat} (h : StkSt z z' d) (hd : d' ≤ d) : StkSt z z' d' := fun j hj => h j (by omega)
theorem StkSt.up {z : MS} {a k : Nat} {v : Int32} {d : Nat} (h : a = 29 ∨ a = 30 ∨ a = 31 → d ≤ k) : StkSt z (up2 z a k v) d := by
  refine fun j hj => ⟨?_, ?_, ?_⟩ <;> rw [up2_at, if_neg (by omega)]
/-- the definitions -/
def DZ (z : MS) (a : AS) : Prop := (∀ k, k < 26 → z 0 k = (match a.1 k with | none => -1 | some t => nI t.length)) ∧ (∀ k, k < 26 → ∀ t, a.1 k = some t → hold (fun j => z 0 (26 + 60 * k + j)) t) ∧ z 0 1586 = a.2.2.1
theorem DZ.sp {z z' : MS} {a : AS} (hW : WA a) (h : DZ z a) (g : Sp z z') : DZ z' a := by
  obtain ⟨h1, h2, h3⟩ := h
  refine ⟨fun k hk => ?_, fun k hk t e => hold_congr (fun j hj => ?_) (h2 k hk t e), ?_⟩
  · rw [g.2.1 k (by omega)]; exact h1 k hk
  · have := (hW.1 k t e).2
    exact g.2.1 _ (by omega)
  · rw [g.2.1 _ (by omega)]; exact h3
theorem DZ.src {z : MS} {a : AS} (hW : WA a) (h : DZ z a) {k : Nat} (hk : k < 26) {t : Tx} (e : a.1 k = some t) : SrcZ z k t := by
  refine ⟨(hW.1 k t e).2, Or.inr ⟨hk, ?_, h.2.1 k hk t e⟩⟩
  have q := h.1 k hk
  rw [e] at q; exact q
theorem SrcZ.sp {z z' : MS} {p : Nat} {t : Tx} (h : SrcZ z p t) (g : Sp z z') : SrcZ z' p t := by
  obtain ⟨h1, h2⟩ := h
  refine ⟨h1, ?_⟩
  rcases h2 with ⟨rfl, q1, q2⟩ | ⟨q1, q2, q3⟩
  · refine Or.inl ⟨rfl, ?_, ?_⟩
    · rw [g.2.2 6 (by decide) (by decide) (by decide)]; exact q1
    · rw [g.1 5 (by decide) (by omega) (by decide)]; exact q2
  · refine Or.inr ⟨q1, ?_, hold_congr (fun j hj => ?_) q3⟩
    · rw [g.2.1 p (by omega)]; exact q2
    · exact g.2.1 _ (by omega)
theorem isDefined_dz {z : MS} {a : AS} (hZ : DZ z a) (hW : WA a) {k : Nat} (hk : k < 26) : F8_isDefined z (nI k) = some (bI (a.1 k).isSome) := by
  unfold F8_isDefined
  rw [rd_nI (by omega) (by decide), hZ.1 k hk]
  simp only [jp]
  cases e : a.1 k with
  | none => dsimp only; rw [if_pos (by decide), bz0]; rfl
  | some t => dsimp only; rw [if_neg (nI_pos (by have := (hW.1 k t e).2; omega)), bz1]; rfl
theorem puts_ok {z : MS} {S : Nat} (h : z 43 39 = nI S) (hS : S < 200) (c : Int32) : F8_puts z c = some (up2 (up2 z 0 (1588 + S) c) 43 39 (nI (S + 1))) := by
  unfold F8_puts
  refine wr_go (k := 1588 + S) (by rw [h]; exact nI_add 1588 S) (by omega) (by decide) <| bd_go ?_
  rw [up2_ne _ (by decide), h, nI_1]
theorem enters_ok {z : MS} {e : Nat} (h : z 43 32 + 1 = nI e) (he : e < 430) (x y w : Int32) : F8_enters z x y w = some (up2 (up2 (up2 (up2 z 43 32 (nI e)) 29 e x) 30 e y) 31 e w) := by
  unfold F8_enters
  refine bd_go ?_
  rw [h]
  have i0 : up2 z 43 32 (nI e) 43 32 = nI e := by rw [up2_at, if_pos ⟨rfl, rfl⟩]
  exact wr_go i0 he (by decide) <| wr_go (k := e) (by rw [up2_ne _ (by decide)]; exact i0) he (by decide) <| wr_go (k := e) (by rw [up2_ne _ (by decide), up2_ne _ (by decide)]; exact i0) he (by decide) rfl
/-- a round of the loop -/
noncomputable def sB : MS → Option (MS ⊕ MS) := fun (z5 : MS) =>
  if (z5 43 32) < 0 then
  some (.inr z5)
  else
  rd (z5 30) 430 (z5 43 32) fun x7 =>
  rd (z5 29) 430 (z5 43 32) fun x8 =>
  bn (F8_longOf z5 x8) fun x9 =>
  jp (fun (x15 : Int32) => jp (fun (z29 : MS) => some (.inl (z29))) fun k16 =>
  jp (fun (_ : Unit) => bd (up2 z5 43 32 ((z5 43 32) - 1)) fun z28 =>
  k16 z28) fun k17 =>
  if x15 = 44 then
  k17 ()
  else
  if ¬ x15 = 41 then
  rd (z5 30) 430 (z5 43 32) fun x20 =>
  wr z5 30 430 (z5 43 32) (x20 + 1) fun z21 =>
  bn (F8_isCall x15) fun x22 =>
  if x22 = 0 then
  if ¬ x15 = 63 then
  bn (F8_puts z21 x15) fun z25 =>
  k16 z25
  else
  bn (F8_fills z21) fun z26 =>
  k16 z26
  else
  bn (F8_calls z21 (x15 - 65)) fun z27 =>
  k16 z27
  else
  k17 ()) fun k10 =>
  if x9 ≤ x7 then
  k10 41
  else
  rd (z5 29) 430 (z5 43 32) fun x12 =>
  rd (z5 30) 430 (z5 43 32) fun x13 =>
  bn (F8_signOf z5 x12 x13) fun x14 =>
  k10 x14
theorem sB_pop {z : MS} {d p s : Nat} {u post : Tx} (hd : d < 430) (h32 : z 43 32 = nI d) (h29 : z 29 d = nI s) (h30 : z 30 d = nI p) (hs : SrcZ z s u) (hp : p ≤ u.length) (hpo : u.drop p = post) (hh : post = [] ∨ post.head? = some 44 ∨ post.head? = some 41) : Loop sB z = Loop sB (up2 z 43 32 (nI d - 1)) := by
  have hu := hs.1
  refine Loop_inl ?_
  have last : ∀ x : Int32, x = 44 ∨ x = 41 → (jp (fun (z29 : MS) => some (.inl (z29))) fun k16 =>
      jp (fun (_ : Unit) => bd (up2 z 43 32 ((z 43 32) - 1)) fun z28 =>
      k16 z28) fun k17 =>
      if x = 44 then
      k17 ()
      else
      if ¬ x = 41 then
      rd (z 30) 430 (z 43 32) fun x20 =>
      wr z 30 430 (z 43 32) (x20 + 1) fun z21 =>
      bn (F8_isCall x) fun x22 =>
      if x22 = 0 then
      if ¬ x = 63 then
      bn (F8_puts z21 x) fun z25 =>
      k16 z25
      else
      bn (F8_fills z21) fun z26 =>
      k16 z26
      else
      bn (F8_calls z21 (x - 65)) fun z27 =>
      k16 z27
      else
      k17 ()) = (some (.inl (up2 z 43 32 (nI d - 1))) : Option (MS ⊕ MS)) := by
    intro x hx
    rw [h32]
    rcases hx with rfl | rfl
    · exact jp_go <| jp_go <| if_go rfl <| bd_go rfl
    · exact jp_go <| jp_go <| if_no (by decide) <| if_no (fun q => q rfl) <| bd_go rfl
  refine if_no (by rw [h32]; exact nI_pos (by omega)) <| rd_go h32 hd (by decide) h30 <| rd_go h32 hd (by decide) h29 <| bn_go (F8_longOf_eq hs) <| jp_go ?_
  by_cases c : p < u.length
  · refine if_no (nI_ge c (by omega)) <| rd_go h32 hd (by decide) h29 <| rd_go h32 hd (by decide) h30 <| bn_go (F8_signOf_eq hs c) (last _ ?_)
    rw [drop_sL (0 : Int32) c] at hpo
    rw [← hpo] at hh
    rcases hh with q | q | q
    · cases q
    · exact Or.inl (Option.some.inj q)
    · exact Or.inr (Option.some.inj q)
  · exact if_go (nI_le (by omega) (by omega)) (last 41 (Or.inr rfl))
theorem sB_go {z z2 : MS} {d p s : Nat} {u v : Tx} {c : Int32} (hd : d < 430) (h32 : z 43 32 = nI d) (h29 : z 29 d = nI s) (h30 : z 30 d = nI p) (hs : SrcZ z s u) (hpo : u.drop p = c :: v) (h44 : c ≠ 44) (h41 : c ≠ 41)
    (hr : (inB c 65 90 = true ∧ F8_calls (up2 z 30 d (nI (p + 1))) (c - 65) = some z2) ∨ (inB c 65 90 = false ∧ c ≠ 63 ∧ F8_puts (up2 z 30 d (nI (p + 1))) c = some z2) ∨ (c = 63 ∧ F8_fills (up2 z 30 d (nI (p + 1))) = some z2)) : Loop sB z = Loop sB z2 := by
  have hu := hs.1
  have hlt : p < u.length := by
    have q := congrArg List.length hpo
    rw [List.length_drop, List.length_cons] at q; omega
  rw [drop_sL (0 : Int32) hlt] at hpo
  have hc : u.getD p 0 = c := (List.cons.inj hpo).1
  refine Loop_inl ?_
  refine if_no (by rw [h32]; exact nI_pos (by omega)) <| rd_go h32 hd (by decide) h30 <| rd_go h32 hd (by decide) h29 <| bn_go (F8_longOf_eq hs) <| jp_go <| if_no (nI_ge hlt (by omega)) <| rd_go h32 hd (by decide) h29 <| rd_go h32 hd (by decide) h30 <| bn_go (F8_signOf_eq hs hlt) ?_
  rw [hc]
  refine jp_go <| jp_go <| if_no h44 <| if_go h41 <| rd_go h32 hd (by decide) h30 <| wr_go h32 hd (by decide) ?_
  rw [nI_1]
  refine bn_go (F8_isCall_eq c) ?_
  rcases hr with ⟨q1, q2⟩ | ⟨q1, q2, q3⟩ | ⟨rfl, q2⟩
  · rw [q1]; exact if_no (by decide) <| bn_go q2 rfl
  · rw [q1]; exact if_go rfl <| if_go q2 <| bn_go q3 rfl
  · exact if_go (by decide) <| if_no (fun q => q rfl) <| bn_go q2 rfl
/-- skipping -/
noncomputable def skB (x1 : Int32) : Int32 × MS → Option ((Int32 × MS) ⊕ MS) := fun (q : Int32 × MS) => (fun (x10 : Int32) (z11 : MS) =>
  rd (z11 30) 430 (z11 43 32) fun x12 =>
  bn (F8_signOf z11 x1 x12) fun x13 =>
  rd (z11 30) 430 (z11 43 32) fun x14 =>
  wr z11 30 430 (z11 43 32) (x14 + 1) fun z15 =>
  jp (fun (x19 : Int32) => bd (x10 + x19) fun x20 =>
  jp (fun (z31 : MS) => if (0 : Int32) < x20 then
  some (.inl (x20, z31))
  else
  some (.inr z31)) fun k21 =>
  if ¬ x20 = 1 then
  k21 z15
  else
  jp (fun (_ : Unit) => rd (z15 36) 62 (z15 43 38) fun x26 =>
  rd (z15 30) 430 (z15 43 32) fun x27 =>
  wr z15 37 372 ((6 * (z15 43 38)) + x26) x27 fun z28 =>
  rd (z28 36) 62 (z28 43 38) fun x29 =>
  wr z28 36 62 (z28 43 38) (x29 + 1) fun z30 =>
  k21 z30) fun k23 =>
  if x13 = 44 then
  k23 ()
  else
  if ¬ x13 = 40 then
  k21 z15
  else
  k23 ()) fun k16 =>
  if ¬ x13 = 40 then
  if ¬ x13 = 41 then
  k16 0
  else
  k16 (-1)
  else
  k16 1) q.1 q.2
def SKI (y : MS) (d B q : Nat) (ss : List Nat) (z : MS) : Prop :=
  (∀ u, u ≠ 30 → u ≠ 36 → u ≠ 37 → z u = y u) ∧ (∀ j, j ≠ d → z 30 j = y 30 j) ∧ z 30 d = nI q ∧ (∀ j, j ≠ B → z 36 j = y 36 j) ∧ z 36 B = nI ss.length ∧ (∀ i, i < 6 * B → z 37 i = y 37 i) ∧ ∀ i, i < ss.length → z 37 (6 * B + i) = nI (ss.getD i 0)
theorem SKI.move {y z : MS} {d B q : Nat} {ss : List Nat} (h : SKI y d B q ss z) : SKI y d B (q + 1) ss (up2 z 30 d (nI (q + 1))) := by
  obtain ⟨h1, h2, h3, h4, h5, h6, h7⟩ := h
  refine ⟨fun u q1 q2 q3 => ?_, fun j hj => ?_, ?_, fun j hj => ?_, ?_, fun i hi => ?_, fun i hi => ?_⟩
  · rw [up2_ne _ q1]; exact h1 u q1 q2 q3
  · rw [up2_at, if_neg (by omega)]; exact h2 j hj
  · rw [up2_at, if_pos ⟨rfl, rfl⟩]
  · rw [up2_ne _ (by decide)]; exact h4 j hj
  · rw [up2_ne _ (by decide)]; exact h5
  · rw [up2_ne _ (by decide)]; exact h6 i hi
  · rw [up2_ne _ (by decide)]; exact h7 i hi
section
variable {y z : MS} {d B q s : Nat} {ss : List Nat} {u : Tx} {x10 : Int32}
theorem skB_at (hd : d < 430) (h32 : y 43 32 = nI d) (hI : SKI y d B q ss z) (hs : SrcZ y s u) (hq : q < u.length) {r : Option ((Int32 × MS) ⊕ MS)}
    (h : (jp (fun (x19 : Int32) => bd (x10 + x19) fun x20 =>
      jp (fun (z31 : MS) => if (0 : Int32) < x20 then
      some (.inl (x20, z31))
      else
      some (.inr z31)) fun k21 =>
      if ¬ x20 = 1 then
      k21 (up2 z 30 d (nI (q + 1)))
      else
      jp (fun (_ : Unit) => rd (up2 z 30 d (nI (q + 1)) 36) 62 (up2 z 30 d (nI (q + 1)) 43 38) fun x26 =>
      rd (up2 z 30 d (nI (q + 1)) 30) 430 (up2 z 30 d (nI (q + 1)) 43 32) fun x27 =>
      wr (up2 z 30 d (nI (q + 1))) 37 372 ((6 * (up2 z 30 d (nI (q + 1)) 43 38)) + x26) x27 fun z28 =>
      rd (z28 36) 62 (z28 43 38) fun x29 =>
      wr z28 36 62 (z28 43 38) (x29 + 1) fun z30 =>
      k21 z30) fun k23 =>
      if u.getD q 0 = 44 then
      k23 ()
      else
      if ¬ u.getD q 0 = 40 then
      k21 (up2 z 30 d (nI (q + 1)))
      else
      k23 ()) fun k16 =>
      if ¬ u.getD q 0 = 40 then
      if ¬ u.getD q 0 = 41 then
      k16 0
      else
      k16 (-1)
      else
      k16 1) = r) : skB (nI s) (x10, z) = r := by
  have hz43 : z 43 = y 43 := hI.1 43 (by decide) (by decide) (by decide)
  have hz : SrcZ z s u := by
    unfold SrcZ
    rw [hI.1 0 (by decide) (by decide) (by decide), hI.1 5 (by decide) (by decide) (by decide), hz43]
    exact hs
  have z32 : z 43 32 = nI d := by rw [hz43]; exact h32
  unfold skB
  dsimp only
  refine rd_go z32 hd (by decide) hI.2.2.1 <| bn_go (F8_signOf_eq hz hq) <| rd_go z32 hd (by decide) hI.2.2.1 <| wr_go z32 hd (by decide) ?_
  rw [nI_1]
  exact h
/-- nothing is noted -/
theorem skB_pass (hd : d < 430) (h32 : y 43 32 = nI d) (hI : SKI y d B q ss z) (hs : SrcZ y s u) (hq : q < u.length) {x20 : Nat} (h0 : 0 < x20) (h20 : x20 < 1000) (hx : (u.getD q 0 = 40 ∧ x10 + 1 = nI x20 ∧ x20 ≠ 1) ∨ (u.getD q 0 = 41 ∧ x10 + (-1) = nI x20) ∨ (u.getD q 0 = 44 ∧ x10 = nI x20 ∧ x20 ≠ 1) ∨ (u.getD q 0 ≠ 40 ∧ u.getD q 0 ≠ 41 ∧ u.getD q 0 ≠ 44 ∧ x10 = nI x20)) : Loop (skB (nI s)) (x10, z) = Loop (skB (nI s)) (nI x20, up2 z 30 d (nI (q + 1))) := by
  have fin : (if (0 : Int32) < nI x20 then some (.inl (nI x20, up2 z 30 d (nI (q + 1)))) else some (.inr (up2 z 30 d (nI (q + 1))))) = (some (.inl (nI x20, up2 z 30 d (nI (q + 1)))) : Option ((Int32 × MS) ⊕ MS)) := if_go (nI_lt (a := 0) h0 (by omega)) rfl
  refine Loop_inl (skB_at hd h32 hI hs hq ?_)
  rcases hx with ⟨e1, e2, e3⟩ | ⟨e1, e2⟩ | ⟨e1, e2, e3⟩ | ⟨e1, e2, e3, e4⟩
  · rw [e1]
    refine jp_go <| if_no (fun q => q rfl) <| bd_go ?_
    rw [e2]
    exact jp_go <| if_go (nI_neq (b := 1) (by omega) (by decide) e3) fin
  · rw [e1]
    refine jp_go <| if_go (by decide) <| if_no (fun q => q rfl) <| bd_go ?_
    rw [e2]
    refine jp_go ?_
    by_cases c : x20 = 1
    · exact if_no (fun q => q (by rw [c]; rfl)) <| jp_go <| if_no (by decide) <| if_go (by decide) fin
    · exact if_go (nI_neq (b := 1) (by omega) (by decide) c) fin
  · rw [e1, e2]
    refine jp_go <| if_go (by decide) <| if_go (by decide) <| bd_go ?_
    rw [Int32.add_zero]
    exact jp_go <| if_go (nI_neq (b := 1) (by omega) (by decide) e3) fin
  · rw [e4]
    refine jp_go <| if_go e1 <| if_go e2 <| bd_go ?_
    rw [Int32.add_zero]
    refine jp_go ?_
    by_cases c : x20 = 1
    · exact if_no (fun q => q (by rw [c]; rfl)) <| jp_go <| if_no e3 <| if_go e1 fin
    · exact if_go (nI_neq (b := 1) (by omega) (by decide) c) fin
/-- a start is noted -/
theorem skB_note (hd : d < 430) (h32 : y 43 32 = nI d) (h38 : y 43 38 = nI B) (hB : B < 62) (hI : SKI y d B q ss z) (hs : SrcZ y s u) (hq : q < u.length) (hss : ss.length < 6) (hx : (u.getD q 0 = 40 ∧ x10 = 0) ∨ (u.getD q 0 = 44 ∧ x10 = 1)) : ∃ z', Loop (skB (nI s)) (x10, z) = Loop (skB (nI s)) (1, z') ∧ SKI y d B (q + 1) (ss ++ [q + 1]) z' := by
  have hz43 : z 43 = y 43 := hI.1 43 (by decide) (by decide) (by decide)
  obtain ⟨w, hw⟩ : ∃ w, w = up2 z 30 d (nI (q + 1)) := ⟨_, rfl⟩
  have hIw : SKI y d B (q + 1) ss w := by rw [hw]; exact hI.move
  have w43 : w 43 = y 43 := hIw.1 43 (by decide) (by decide) (by decide)
  have w38 : w 43 38 = nI B := by rw [w43]; exact h38
  have w32 : w 43 32 = nI d := by rw [w43]; exact h32
  obtain ⟨h1, h2, h3, h4, h5, h6, h7⟩ := hIw
  obtain ⟨w2, hw2⟩ : ∃ w2, w2 = up2 (up2 w 37 (6 * B + ss.length) (nI (q + 1))) 36 B (nI (ss.length + 1)) := ⟨_, rfl⟩
  have ls : (ss ++ [q + 1]).length = ss.length + 1 := by rw [List.length_append]; rfl
  refine ⟨w2, ?_, ⟨fun u q1 q2 q3 => ?_, fun j hj => ?_, ?_, fun j hj => ?_, ?_, fun i hi => ?_, fun i hi => ?_⟩⟩
  · have inner : (rd (w 36) 62 (w 43 38) fun x26 =>
        rd (w 30) 430 (w 43 32) fun x27 =>
        wr w 37 372 ((6 * (w 43 38)) + x26) x27 fun z28 =>
        rd (z28 36) 62 (z28 43 38) fun x29 =>
        wr z28 36 62 (z28 43 38) (x29 + 1) fun z30 =>
        if (0 : Int32) < 1 then some (.inl ((1 : Int32), z30)) else some (.inr z30)) = (some (.inl (1, w2)) : Option ((Int32 × MS) ⊕ MS)) := by
      refine rd_go w38 hB (by decide) h5 <| rd_go w32 hd (by decide) h3 <| wr_go (k := 6 * B + ss.length) ?_ (by omega) (by decide) ?_
      · rw [w38]
        show nI 6 * nI B + nI ss.length = _
        rw [nI_mul, nI_add]
      · refine rd_go (k := B) (v := nI ss.length) (by rw [up2_ne _ (by decide)]; exact w38) hB (by decide) (by rw [up2_ne _ (by decide)]; exact h5) <| wr_go (k := B) (by rw [up2_ne _ (by decide)]; exact w38) hB (by decide) ?_
        rw [nI_1, ← hw2]
        exact if_go (by decide) rfl
    refine Loop_inl (skB_at hd h32 hI hs hq ?_)
    rw [← hw]
    rcases hx with ⟨e1, rfl⟩ | ⟨e1, rfl⟩
    · rw [e1]
      exact jp_go <| if_no (fun q => q rfl) <| bd_go <| jp_go <| if_no (fun q => q rfl) <| jp_go <| if_no (by decide) <| if_no (fun q => q rfl) inner
    · rw [e1]
      exact jp_go <| if_go (by decide) <| if_go (by decide) <| bd_go <| jp_go <| if_no (fun q => q rfl) <| jp_go <| if_go rfl inner
  · rw [hw2, up2_ne _ q2, up2_ne _ q3]; exact h1 u q1 q2 q3
  · rw [hw2, up2_ne _ (by decide), up2_ne _ (by decide)]; exact h2 j hj
  · rw [hw2, up2_ne _ (by decide), up2_ne _ (by decide)]; exact h3
  · rw [hw2, up2_at, if_neg (by omega), up2_ne _ (by decide)]; exact h4 j hj
  · rw [hw2, up2_at, if_pos ⟨rfl, rfl⟩, ls]
  · rw [hw2, up2_ne _ (by decide), up2_at, if_neg (by omega)]; exact h6 i hi
  · rw [ls] at hi
    rw [hw2, up2_ne _ (by decide), up2_at]
    by_cases e : i = ss.length
    · rw [if_pos ⟨rfl, by omega⟩, e, List.getD_eq_getElem?_getD, List.getElem?_append_right (Nat.le_refl _), Nat.sub_self]; rfl
    · rw [if_neg (by omega), h7 i (by omega), List.getD_eq_getElem?_getD, List.getD_eq_getElem?_getD, List.getElem?_append_left (by omega)]
end
