/-! PURE: calls and holes by name -/
def EnvCh (z : MS) (B : Nat) : Int32 → List Nat → Prop
  | e, [] => e = -1
  | e, k :: O => ∃ j : Nat, j < B ∧ e = nI j ∧ z 33 j = nI k ∧ k < 26 ∧ EnvCh z B (z 35 j) O
theorem EnvCh.keep {z z' : MS} {B B' : Nat} (g : EnvSt z z' B) (hB : B ≤ B') : ∀ {O : List Nat} {e : Int32}, EnvCh z B e O → EnvCh z' B' e O
  | [], _, h => h
  | _ :: O, _, h => by
    obtain ⟨j, h1, h2, h3, h4, h5⟩ := h
    have q := g.1 j h1
    refine ⟨j, by omega, h2, by rw [q.1]; exact h3, h4, ?_⟩
    rw [q.2.2.1]; exact EnvCh.keep g hB h5
theorem SKI.sp {y z : MS} {d B q : Nat} {ss : List Nat} (h : SKI y d B q ss z) : Sp y z :=
  ⟨fun u q1 q2 q3 => h.1 u (by omega) (by omega) (by omega), fun i _ => by rw [h.1 0 (by decide) (by decide) (by decide)], fun k _ _ _ => by rw [h.1 43 (by decide) (by decide) (by decide)]⟩
theorem SKI.env {y z : MS} {d B q : Nat} {ss : List Nat} (h : SKI y d B q ss z) : EnvSt y z B :=
  ⟨fun j hj => ⟨by rw [h.1 33 (by decide) (by decide) (by decide)], by rw [h.1 34 (by decide) (by decide) (by decide)], by rw [h.1 35 (by decide) (by decide) (by decide)], h.2.2.2.1 j (by omega)⟩, h.2.2.2.2.2.1⟩
theorem SKI.stk {y z : MS} {d B q : Nat} {ss : List Nat} (h : SKI y d B q ss z) : StkSt y z d :=
  fun j hj => ⟨by rw [h.1 29 (by decide) (by decide) (by decide)], h.2.1 j (by omega), by rw [h.1 31 (by decide) (by decide) (by decide)]⟩
noncomputable def clK (z3 : MS) (p0 x1 x2 x4 x5 : Int32) : Option ((Int32 × Int32 × Int32) ⊕ MS) :=
  bn (F8_isDefined z3 p0) fun x8 =>
  jp (fun (_ : Unit) => bn (F8_isDefined z3 p0) fun x19 =>
  jp (fun (x23 : Int32) => bn (F8_puts z3 x23) fun z24 =>
  some (.inr z24)) fun k20 =>
  if ¬ x19 = 0 then
  if x4 = 0 then
  k20 37
  else
  k20 35
  else
  k20 36) fun k9 =>
  if x8 = 0 then
  k9 ()
  else
  if ¬ x4 = 0 then
  k9 ()
  else
  rd (z3 0) 2153 (1586 : Int32) fun x12 =>
  if ¬ x5 = x12 then
  wr z3 33 62 (z3 43 38) p0 fun z14 =>
  wr z14 34 62 (z14 43 38) x2 fun z15 =>
  wr z15 35 62 (z15 43 38) x1 fun z16 =>
  bn (F8_enters z16 p0 0 (z16 43 38)) fun z17 =>
  bd (up2 z17 43 38 ((z17 43 38) + 1)) fun z18 =>
  some (.inr z18)
  else
  k9 ()
def callZ (z3 : MS) (d B : Nat) (k s : Int32) (env : Int32) : MS := up2 (up2 (up2 (up2 (up2 (up2 (up2 (up2 z3 33 B k) 34 B s) 35 B env) 43 32 (nI (d + 1))) 29 (d + 1) k) 30 (d + 1) 0) 31 (d + 1) (nI B)) 43 38 (nI (B + 1))
theorem clK_ok {z3 : MS} {a : AS} {L k B d S : Nat} {O : List Nat} {s env : Int32} (hZ : DZ z3 a) (hW : WA a) (hL : a.2.2.1 = nI L) (hOL : O.length ≤ L) (hL12 : L ≤ 12) (hk : k < 26) (h38 : z3 43 38 = nI B) (hB : B < 62) (h32 : z3 43 32 = nI d) (hd : d + 1 < 430) (h39 : z3 43 39 = nI S) (hS : edg a.1 L O k ≠ 0 → S < 200) :
    clK z3 (nI k) env s (bI (decide (k ∈ O))) (nI O.length) = some (.inr (if edg a.1 L O k = 0 then callZ z3 d B (nI k) s env else up2 (up2 z3 0 (1588 + S) (sgn (edg a.1 L O k))) 43 39 (nI (S + 1)))) := by
  have hdf := isDefined_dz hZ hW hk
  unfold clK edg
  unfold edg at hS
  refine bn_go hdf <| jp_go ?_
  cases e : a.1 k with
  | none =>
    rw [e] at hdf hS
    dsimp only at hS ⊢
    refine if_go rfl <| bn_go hdf <| jp_go <| if_no (fun q => q rfl) <| bn_go (puts_ok h39 (hS (by decide)) 36) ?_
    rw [if_neg (by decide)]; rfl
  | some t =>
    rw [e] at hdf hS
    dsimp only at hS ⊢
    refine if_no (by show ¬ bI true = 0; decide) ?_
    by_cases c1 : k ∈ O
    · rw [if_pos c1] at hS ⊢
      rw [decide_eq_true c1]
      refine if_go (by decide) <| bn_go hdf <| jp_go <| if_go (by show ¬ bI true = 0; decide) <| if_no (by decide) <| bn_go (puts_ok h39 (hS (by decide)) 35) ?_
      rw [if_neg (by decide)]; rfl
    · rw [if_neg c1] at hS ⊢
      rw [decide_eq_false c1]
      refine if_no (fun q => q rfl) <| rd_go (k := 1586) rfl (by decide) (by decide) (hZ.2.2.trans hL) ?_
      by_cases c2 : L ≤ O.length
      · rw [if_pos c2] at hS ⊢
        have hLO : O.length = L := by omega
        refine if_no (fun q => q (by rw [hLO])) <| bn_go hdf <| jp_go <| if_go (by show ¬ bI true = 0; decide) <| if_go rfl <| bn_go (puts_ok h39 (hS (by decide)) 37) ?_
        rw [if_neg (by decide)]; rfl
      · rw [if_neg c2, if_pos rfl]
        refine if_go (nI_neq (by omega) (by omega) (by omega)) <| wr_go h38 hB (by decide) <| wr_go (k := B) (by rw [up2_ne _ (by decide)]; exact h38) hB (by decide) <| wr_go (k := B) (by rw [up2_ne _ (by decide), up2_ne _ (by decide)]; exact h38) hB (by decide) ?_
        have e43 : up2 (up2 (up2 z3 33 B (nI k)) 34 B s) 35 B env 43 = z3 43 := by rw [up2_ne _ (by decide), up2_ne _ (by decide), up2_ne _ (by decide)]
        refine bn_go (enters_ok (e := d + 1) (by rw [e43, h32, nI_1]) hd _ _ _) <| bd_go ?_
        have e38 : up2 (up2 (up2 (up2 (up2 (up2 (up2 z3 33 B (nI k)) 34 B s) 35 B env) 43 32 (nI (d + 1))) 29 (d + 1) (nI k)) 30 (d + 1) 0) 31 (d + 1) (up2 (up2 (up2 z3 33 B (nI k)) 34 B s) 35 B env 43 38) 43 38 = nI B := by
          rw [up2_ne _ (by decide), up2_ne _ (by decide), up2_ne _ (by decide), up2_at, if_neg (by decide), e43]; exact h38
        rw [e38, nI_1, e43, h38]; rfl
theorem calls_ok {y z3 : MS} {a : AS} {L k B d S p' s : Nat} {ss : List Nat} {O : List Nat} {env : Int32} (hZ : DZ y a) (hW : WA a) (hL : a.2.2.1 = nI L) (hOL : O.length ≤ L) (hL12 : L ≤ 12) (hk : k < 26) (h38 : y 43 38 = nI B) (hB : B < 62) (h32 : y 43 32 = nI d) (hd : d + 1 < 430) (h39 : y 43 39 = nI S) (hS : edg a.1 L O k ≠ 0 → S < 200) (h29 : y 29 d = nI s) (h31 : y 31 d = env) (hE : EnvCh y B env O) (hsk : F8_skips y = some z3) (hI : SKI y d B p' ss z3) :
    F8_calls y (nI k) = some (if edg a.1 L O k = 0 then callZ z3 d B (nI k) (nI s) env else up2 (up2 z3 0 (1588 + S) (sgn (edg a.1 L O k))) 43 39 (nI (S + 1))) := by
  have z43 : z3 43 = y 43 := hI.1 43 (by decide) (by decide) (by decide)
  have hE3 : EnvCh z3 B env O := hE.keep hI.env (Nat.le_refl _)
  have hcl := clK_ok (z3 := z3) (s := nI s) (env := env) (hZ.sp hW hI.sp) hW hL hOL hL12 hk (by rw [z43]; exact h38) hB (by rw [z43]; exact h32) hd (by rw [z43]; exact h39) hS
  have main := Loop_inv (f := fun (q : Int32 × Int32 × Int32) => (fun (x4 : Int32) (x5 : Int32) (x6 : Int32) =>
    if x6 < 0 then
    clK z3 (nI k) env (nI s) x4 x5
    else
    jp (fun (x30 : Int32) => bd (x5 + 1) fun x31 =>
    rd (z3 35) 62 x6 fun x32 =>
    some (.inl (x30, x31, x32))) fun k25 =>
    jp (fun (_ : Unit) => k25 1) fun k26 =>
    if ¬ x4 = 0 then
    k26 ()
    else
    rd (z3 33) 62 x6 fun x28 =>
    if ¬ x28 = nI k then
    k25 0
    else
    k26 ()) q.1 q.2.1 q.2.2) (fun j q => q.1 = bI (decide (k ∈ O.take j)) ∧ q.2.1 = nI j ∧ EnvCh z3 B q.2.2 (O.drop j)) O.length (fun r => r = (if edg a.1 L O k = 0 then callZ z3 d B (nI k) (nI s) env else up2 (up2 z3 0 (1588 + S) (sgn (edg a.1 L O k))) 43 39 (nI (S + 1)))) ?_ ?_ (0, 0, env) ⟨rfl, rfl, hE3⟩
  · obtain ⟨r, p1, p2⟩ := main
    rw [← p2]
    unfold F8_calls
    refine rd_go h32 (by omega) (by decide) h31 <| rd_go h32 (by omega) (by decide) h29 <| bn_go hsk ?_
    exact p1
  · rintro j ⟨x4, x5, x6⟩ hj ⟨rfl, rfl, h3⟩
    dsimp only at h3
    rw [drop_sL (0 : Nat) hj] at h3
    obtain ⟨i, q1, rfl, q3, q4, q5⟩ := h3
    have last : ∀ x : Int32, x = bI (decide (k ∈ O.take (j + 1))) → (bd (nI j + 1) fun x31 => rd (z3 35) 62 (nI i) fun x32 => (some (.inl (x, x31, x32)) : Option ((Int32 × Int32 × Int32) ⊕ MS))) = some (.inl (bI (decide (k ∈ O.take (j + 1))), nI (j + 1), z3 35 i)) := by
      rintro x rfl
      refine bd_go <| rd_go rfl (by omega) (by decide) rfl ?_
      rw [nI_1]
    refine ⟨(bI (decide (k ∈ O.take (j + 1))), nI (j + 1), z3 35 i), ?_, rfl, rfl, q5⟩
    have ht := take_sL (0 : Nat) O j hj
    refine if_no (nI_pos (by omega)) <| jp_go <| jp_go ?_
    by_cases c : k ∈ O.take j
    · rw [decide_eq_true c]
      exact if_go (show ¬ bI true = 0 by decide) (last 1 (by rw [ht, decide_eq_true (List.mem_append_left _ c)]; rfl))
    · rw [decide_eq_false c]
      refine if_no (fun q => q rfl) <| rd_go rfl (by omega) (by decide) q3 ?_
      by_cases e : O.getD j 0 = k
      · exact if_no (fun q => q (by rw [e])) (last 1 (by rw [ht, decide_eq_true (List.mem_append_right _ (List.mem_singleton.mpr e.symm))]; rfl))
      · refine if_go (nI_neq (by omega) (by omega) e) (last 0 ?_)
        rw [ht, decide_eq_false]
        · rfl
        · intro q
          rcases List.mem_append.mp q with q | q
          · exact c q
          · exact e (List.mem_singleton.mp q).symm
  · rintro ⟨x4, x5, x6⟩ ⟨rfl, rfl, h3⟩
    dsimp only at h3
    rw [List.drop_length] at h3
    have h3' : x6 = -1 := h3
    subst h3'
    refine ⟨_, if_go (show (-1 : Int32) < 0 by decide) ?_, rfl⟩
    rw [List.take_length]
    exact hcl
def enterZ (y : MS) (d : Nat) (x1 x2 x3 : Int32) : MS := up2 (up2 (up2 (up2 y 43 32 (nI (d + 1))) 29 (d + 1) x1) 30 (d + 1) x2) 31 (d + 1) x3
theorem fills_top {y : MS} {d p s : Nat} {u : Tx} (hd : d < 430) (h32 : y 43 32 = nI d) (h31 : y 31 d = -1) (h29 : y 29 d = nI s) (h30 : y 30 d = nI (p + 1)) (hs : SrcZ y s u) (hp : p < u.length) {r : MS} (h : F8_puts y 63 = some r) : F8_fills y = some r := by
  unfold F8_fills
  refine rd_go h32 hd (by decide) h31 <| rd_go h32 hd (by decide) h29 <| rd_go h32 hd (by decide) h30 ?_
  rw [nI_pred]
  exact bn_go (F8_holesOf_eq hs (by omega)) <| jp_go <| if_no (by decide) <| bn_go h rfl
theorem fills_in {y : MS} {d p s b m : Nat} {u : Tx} (hd : d + 1 < 430) (h32 : y 43 32 = nI d) (h31 : y 31 d = nI b) (hb : b < 62) (h29 : y 29 d = nI s) (h30 : y 30 d = nI (p + 1)) (hs : SrcZ y s u) (hp : p < u.length) (h36 : y 36 b = nI m) (hm : m ≤ 6) : F8_fills y = some (if m ≤ hls (u.take p) then y else enterZ y d (y 34 b) (y 37 (6 * b + hls (u.take p))) (y 35 b)) := by
  have hu := hs.1
  have hh : hls (u.take p) ≤ 60 := by
    have := List.countP_le_length (p := fun c : Int32 => decide (c = 63)) (l := u.take p)
    rw [List.length_take] at this
    unfold hls; omega
  unfold F8_fills
  refine rd_go h32 (by omega) (by decide) h31 <| rd_go h32 (by omega) (by decide) h29 <| rd_go h32 (by omega) (by decide) h30 ?_
  rw [nI_pred]
  refine bn_go (F8_holesOf_eq hs (by omega)) <| jp_go <| if_go (nI_pos' (by omega)) <| rd_go rfl hb (by decide) h36 ?_
  by_cases c : m ≤ hls (u.take p)
  · rw [if_pos c]; exact if_go (nI_le c (by omega)) rfl
  · rw [if_neg c]
    refine if_no (nI_ge (by omega) (by omega)) <| rd_go rfl hb (by decide) rfl <| rd_go (k := 6 * b + hls (u.take p)) ?_ (by omega) (by decide) rfl <| rd_go rfl hb (by decide) rfl <| bn_go (enters_ok (e := d + 1) (by rw [h32, nI_1]) hd _ _ _) rfl
    show nI 6 * nI b + nI _ = _
    rw [nI_mul, nI_add]
/-- from here to the end of what is read: a text is written -/
def POP (z : MS) (d B S : Nat) (w : Tx) (c : Nat) : Prop := ∃ z' B', Loop sB z = Loop sB z' ∧ Sp z z' ∧ z' 43 32 = nI d - 1 ∧ z' 43 38 = nI B' ∧ B ≤ B' ∧ B' ≤ B + c ∧ z' 43 39 = nI (S + w.length) ∧ (∀ i, i < S → z' 0 (1588 + i) = z 0 (1588 + i)) ∧ hold (fun j => z' 0 (1588 + S + j)) w ∧ EnvSt z z' B ∧ StkSt z z' d
def ITM (z z' : MS) (d B S p' : Nat) (w : Tx) (B' : Nat) : Prop := Sp z z' ∧ z' 43 32 = nI d ∧ z' 43 38 = nI B' ∧ B ≤ B' ∧ z' 43 39 = nI (S + w.length) ∧ (∀ i, i < S → z' 0 (1588 + i) = z 0 (1588 + i)) ∧ hold (fun j => z' 0 (1588 + S + j)) w ∧ EnvSt z z' B ∧ StkSt z z' d ∧ z' 29 d = z 29 d ∧ z' 31 d = z 31 d ∧ z' 30 d = nI p'
theorem POP.of {z z1 : MS} {d B S p' B1 c1 c2 : Nat} {w1 w2 : Tx} (h : Loop sB z = Loop sB z1) (hi : ITM z z1 d B S p' w1 B1) (hc : B1 ≤ B + c1) (g : POP z1 d B1 (S + w1.length) w2 c2) : POP z d B S (w1 ++ w2) (c1 + c2) := by
  obtain ⟨i1, i2, i3, i4, i5, i6, i7, i8, i9, i10, i11, i12⟩ := hi
  obtain ⟨z', B', g1, g2, g3, g4, g5, g6, g7, g8, g9, g10, g11⟩ := g
  refine ⟨z', B', h.trans g1, i1.tr g2, g3, g4, by omega, by omega, ?_, fun i hi => ?_, ?_, i8.tr (g10.le i4), i9.tr g11⟩
  · rw [g7, List.length_append, Nat.add_assoc]
  · rw [g8 i (by omega)]; exact i6 i hi
  · rw [hold_app]
    refine ⟨hold_congr (fun j hj => ?_) i7, hold_congr (fun j hj => ?_) g9⟩
    · show z' 0 (1588 + S + j) = z1 0 (1588 + S + j)
      rw [Nat.add_assoc, g8 (S + j) (by omega)]
    · show z' 0 (1588 + S + (w1.length + j)) = z' 0 (1588 + (S + w1.length) + j)
      congr 1; omega
theorem POP.le {z : MS} {d B S c c' : Nat} {w : Tx} (h : POP z d B S w c) (hc : c ≤ c') : POP z d B S w c' := by
  obtain ⟨z', B', g1, g2, g3, g4, g5, g6, g7⟩ := h
  exact ⟨z', B', g1, g2, g3, g4, g5, by omega, g7⟩
/-- what was entered is left again -/
theorem ITM.of {z z2 : MS} {d B B2 S p' c : Nat} {w : Tx} (s2 : Sp z z2) (e2 : EnvSt z z2 B) (k2 : StkSt z z2 d) (h29 : z2 29 d = z 29 d) (h31 : z2 31 d = z 31 d) (h30 : z2 30 d = nI p') (h0 : ∀ i, i < S → z2 0 (1588 + i) = z 0 (1588 + i)) (hB : B ≤ B2) (g : POP z2 (d + 1) B2 S w c) : ∃ z3 B3, Loop sB z2 = Loop sB z3 ∧ ITM z z3 d B S p' w B3 ∧ B3 ≤ B2 + c := by
  obtain ⟨z3, B3, g1, g2, g3, g4, g5, g6, g7, g8, g9, g10, g11⟩ := g
  obtain ⟨q1, q2, q3⟩ := g11 d (by omega)
  refine ⟨z3, B3, g1, ⟨s2.tr g2, by rw [g3, nI_pred], g4, by omega, g7, fun i hi => by rw [g8 i hi]; exact h0 i hi, g9, e2.tr (g10.le hB), k2.tr (g11.le (by omega)), q1.trans h29, q3.trans h31, q2.trans h30⟩, g6⟩
/-- what stands behind a hole -/
def CloS (zc : MS) (Bc : Nat) (src pos env : Int32) (lev : Nat) (w : Tx) (c : Nat) : Prop := ∀ (z : MS) (d B S : Nat), Sp zc z → EnvSt zc z Bc → Bc ≤ B → z 43 32 = nI d → z 43 38 = nI B → z 43 39 = nI S → z 29 d = src → z 30 d = pos → z 31 d = env → B + c ≤ 60 → S + w.length ≤ 200 → d + lev ≤ 2 * B → POP z d B S w c
def Clo (z : MS) (B : Nat) (env : Int32) : List Nat → (Nat → Tx) → (Nat → Nat) → Prop
  | [], fill, _ => fill = fun _ => [63]
  | _ :: O, fill, fc => ∃ b m : Nat, b < B ∧ env = nI b ∧ z 36 b = nI m ∧ m ≤ 6 ∧ (∀ i, m ≤ i → fill i = []) ∧ ∀ i, i < m → CloS z b (z 34 b) (z 37 (6 * b + i)) (z 35 b) O.length (fill i) (fc i)
theorem Clo.keep {z z' : MS} {B B' : Nat} {env : Int32} {O : List Nat} {fill : Nat → Tx} {fc : Nat → Nat} (s : Sp z z') (g : EnvSt z z' B) (hB : B ≤ B') (h : Clo z B env O fill fc) : Clo z' B' env O fill fc := by
  cases O with
  | nil => exact h
  | cons k O =>
    obtain ⟨b, m, h1, h2, h3, h4, h5, h6⟩ := h
    have q := g.1 b h1
    refine ⟨b, m, by omega, h2, by rw [q.2.2.2]; exact h3, h4, h5, fun i hi => ?_⟩
    rw [q.2.1, q.2.2.1, g.2 _ (by omega)]
    intro z1 d B1 S p1 p2
    exact h6 i hi z1 d B1 S (s.tr p1) ((g.le (by omega)).tr p2)
