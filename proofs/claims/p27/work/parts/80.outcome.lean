/-! PURE: what an expansion that did not fail tells hangs together -/
theorem getD_a (t l : Tx) {i : Nat} (h : i < t.length) : (t ++ l).getD i 0 = t.getD i 0 := by
  rw [List.getD_eq_getElem?_getD, List.getD_eq_getElem?_getD, List.getElem?_append_left h]
theorem getD_b (t l : Tx) (i : Nat) : (t ++ l).getD (t.length + i) 0 = l.getD i 0 := by
  rw [List.getD_eq_getElem?_getD, List.getD_eq_getElem?_getD, List.getElem?_append_right (Nat.le_add_right _ _), Nat.add_sub_cancel_left]
theorem enC_a (t l : Tx) {j : Nat} (h : 6 * j ≤ t.length) : enC (t ++ l) j = enC t j := by
  induction j with
  | zero => rfl
  | succ j ih =>
    show enC (t ++ l) j + _ = enC t j + _
    rw [ih (by omega), getD_a t l (by omega)]
theorem enM_a (t l : Tx) {j : Nat} (h : 6 * j ≤ t.length) : enM (t ++ l) j = enM t j := by
  induction j with
  | zero => rfl
  | succ j ih =>
    show (if (t ++ l).getD (6 * j + 1) 0 = 0 then max (enM (t ++ l) j) _ else enM (t ++ l) j) = (if t.getD (6 * j + 1) 0 = 0 then max (enM t j) _ else enM t j)
    rw [ih (by omega), getD_a t l (by omega), getD_a t l (by omega)]
theorem enOK_a (t l : Tx) {j : Nat} (h : 6 * j + 6 ≤ t.length) (g : enOK t j) : enOK (t ++ l) j := by
  unfold enOK
  rw [getD_a t l (by omega), getD_a t l (by omega), getD_a t l (by omega), getD_a t l (by omega), getD_a t l (by omega), getD_a t l (by omega)]
  exact g
/-- what holds of the numbers while o bodies are open -/
def GI (o : Nat) (G : Gl) : Prop := G.2.2.1.length % 6 = 0 ∧ G.2.2.1.length ≤ 360 ∧ (∀ j, j < G.2.2.1.length / 6 → enOK G.2.2.1 j) ∧ G.1 ≤ 60 ∧ G.2.1 ≤ 12 ∧ (G.2.2.1.length / 6 < 60 → enC G.2.2.1 (G.2.2.1.length / 6) + o = G.1 ∧ max (enM G.2.2.1 (G.2.2.1.length / 6)) o = G.2.1) ∧ enC G.2.2.1 (G.2.2.1.length / 6) + o ≤ G.1 ∧ max (enM G.2.2.1 (G.2.2.1.length / 6)) o ≤ G.2.1
theorem GI.bdd {o : Nat} {G : Gl} (h : GI o G) (p : Bool) : GI o (bdd G p) := h
theorem GI.body {o : Nat} {G : Gl} {O : List Nat} (h : GI o G) (ho : O.length = o) (h12 : o + 1 ≤ 12) (hb : (bodyG G O).2.2.2 = false) : GI (o + 1) (bodyG G O) := by
  obtain ⟨h1, h2, h3, h4, h5, h6, h7, h8⟩ := h
  have hb' : (G.2.2.2 || decide (60 ≤ G.1)) = false := hb
  rw [Bool.or_eq_false_iff, decide_eq_false_iff_not] at hb'
  subst ho
  refine ⟨h1, h2, h3, ?_, ?_, fun q => ?_, ?_, ?_⟩
  · show G.1 + 1 ≤ 60; omega
  · show max G.2.1 (O.length + 1) ≤ 12; omega
  · obtain ⟨a, b⟩ := h6 q
    refine ⟨?_, ?_⟩
    · show enC G.2.2.1 (G.2.2.1.length / 6) + (O.length + 1) = G.1 + 1; omega
    · show max (enM G.2.2.1 (G.2.2.1.length / 6)) (O.length + 1) = max G.2.1 (O.length + 1); omega
  · show enC G.2.2.1 (G.2.2.1.length / 6) + (O.length + 1) ≤ G.1 + 1; omega
  · show max (enM G.2.2.1 (G.2.2.1.length / 6)) (O.length + 1) ≤ max G.2.1 (O.length + 1); omega
theorem nI_z {e : Nat} (h : e < 4) : (nI e = 0) ↔ e = 0 := by
  have : ∀ e, e < 4 → ((nI e = 0) ↔ e = 0) := by decide
  exact this e h
/-- a call that ends: e = 0 closes a body -/
theorem GI.note {o e k n w g : Nat} {G : Gl} (h : GI (if e = 0 then o + 1 else o) G) (hk : k < 26) (he : e < 4) (ho : o ≤ 12) (hn : n ≤ 6) (hw : w ≤ 200) (hg : g ≤ 200 * n) (hw1 : e ≠ 0 → w = 1) : GI o (nte G [nI k, nI e, nI o, nI n, nI w, nI g]) := by
  obtain ⟨h1, h2, h3, h4, h5, h6, h7, h8⟩ := h
  obtain ⟨t, ht⟩ : ∃ t, t = G.2.2.1 := ⟨_, rfl⟩
  rw [← ht] at h1 h2 h3 h6 h7 h8
  obtain ⟨o', ho'⟩ : ∃ q, q = (if e = 0 then o + 1 else o) := ⟨_, rfl⟩
  rw [← ho'] at h6 h7 h8
  by_cases c : t.length < 360
  · have e1 : (nte G [nI k, nI e, nI o, nI n, nI w, nI g]).2.2.1 = t ++ [nI k, nI e, nI o, nI n, nI w, nI g] := by
      unfold nte; dsimp only; rw [← ht, if_pos c]
    have el : (t ++ [nI k, nI e, nI o, nI n, nI w, nI g]).length = t.length + 6 := by rw [List.length_append]; rfl
    obtain ⟨m, hm⟩ : ∃ m, m = t.length / 6 := ⟨_, rfl⟩
    have tl : t.length = 6 * m := by omega
    have m60 : m < 60 := by omega
    have e6 : (t ++ [nI k, nI e, nI o, nI n, nI w, nI g]).length / 6 = m + 1 := by rw [el]; omega
    have g0 := getD_b t [nI k, nI e, nI o, nI n, nI w, nI g] 0
    have g1 := getD_b t [nI k, nI e, nI o, nI n, nI w, nI g] 1
    have g2 := getD_b t [nI k, nI e, nI o, nI n, nI w, nI g] 2
    have g3 := getD_b t [nI k, nI e, nI o, nI n, nI w, nI g] 3
    have g4 := getD_b t [nI k, nI e, nI o, nI n, nI w, nI g] 4
    have g5 := getD_b t [nI k, nI e, nI o, nI n, nI w, nI g] 5
    rw [tl] at g0 g1 g2 g3 g4 g5
    have g1' : (t ++ [nI k, nI e, nI o, nI n, nI w, nI g]).getD (6 * m + 1) 0 = nI e := g1
    have g2' : (t ++ [nI k, nI e, nI o, nI n, nI w, nI g]).getD (6 * m + 2) 0 = nI o := g2
    rw [← hm] at h3 h6 h7 h8
    have c1 : enC (t ++ [nI k, nI e, nI o, nI n, nI w, nI g]) (m + 1) = enC t m + (if e = 0 then 1 else 0) := by
      show enC _ m + (if (t ++ [nI k, nI e, nI o, nI n, nI w, nI g]).getD (6 * m + 1) 0 = 0 then 1 else 0) = _
      rw [enC_a t _ (by omega), g1']
      by_cases q : e = 0
      · rw [if_pos q, if_pos ((nI_z he).mpr q)]
      · rw [if_neg q, if_neg (fun w => q ((nI_z he).mp w))]
    have c2 : enM (t ++ [nI k, nI e, nI o, nI n, nI w, nI g]) (m + 1) = if e = 0 then max (enM t m) (o + 1) else enM t m := by
      show (if (t ++ [nI k, nI e, nI o, nI n, nI w, nI g]).getD (6 * m + 1) 0 = 0 then max (enM _ m) (((t ++ [nI k, nI e, nI o, nI n, nI w, nI g]).getD (6 * m + 2) 0).toNatClampNeg + 1) else enM _ m) = _
      rw [enM_a t _ (by omega), g1', g2', nI_clamp (by omega)]
      by_cases q : e = 0
      · rw [if_pos q, if_pos ((nI_z he).mpr q)]
      · rw [if_neg q, if_neg (fun w => q ((nI_z he).mp w))]
    have h6' := h6 m60
    unfold GI
    rw [e1, e6, c1, c2]
    refine ⟨by rw [el]; omega, by rw [el]; omega, fun j hj => ?_, h4, h5, fun _ => ⟨?_, ?_⟩, ?_, ?_⟩
    · by_cases q : j = m
      · subst q
        exact ⟨k, e, o, n, w, g, hk, he, ho, hn, hw, hg, hw1, g0, g1, g2, g3, g4, g5⟩
      · exact enOK_a t _ (by omega) (h3 j (by omega))
    · show _ = G.1
      by_cases q : e = 0
      · rw [if_pos q] at ho' ⊢; omega
      · rw [if_neg q] at ho' ⊢; omega
    · show _ = G.2.1
      by_cases q : e = 0
      · rw [if_pos q] at ho' ⊢; omega
      · rw [if_neg q] at ho' ⊢; omega
    · show _ ≤ G.1
      by_cases q : e = 0
      · rw [if_pos q] at ho' ⊢; omega
      · rw [if_neg q] at ho' ⊢; omega
    · show _ ≤ G.2.1
      by_cases q : e = 0
      · rw [if_pos q] at ho' ⊢; omega
      · rw [if_neg q] at ho' ⊢; omega
  · have e1 : (nte G [nI k, nI e, nI o, nI n, nI w, nI g]).2.2.1 = t := by
      unfold nte; dsimp only; rw [← ht, if_neg c]
    have oo : o ≤ o' := by rw [ho']; split <;> omega
    unfold GI
    rw [e1]
    refine ⟨h1, h2, h3, h4, h5, fun q => absurd q (by omega), ?_, ?_⟩
    · show _ ≤ G.1; omega
    · show _ ≤ G.2.1; omega
def sgT (t : Tx) : Prop := ∀ x ∈ t, sgB x = true
theorem sgT_nil : sgT [] := fun x h => absurd h (by simp)
theorem sgT_app {t u : Tx} (h : sgT t) (g : sgT u) : sgT (t ++ u) := fun x hx => (List.mem_append.mp hx).elim (h x) (g x)
theorem sgT_sgn (e : Nat) : sgT [sgn e] := fun x hx => by
  rw [List.mem_singleton.mp hx]
  unfold sgn
  split
  · decide
  · split <;> decide
def arT (as : List Tx) : Prop := ∀ v ∈ as, v.length ≤ 200 ∧ sgT v
theorem arT_getD {as : List Tx} (h : arT as) (i : Nat) : sgT (as.getD i []) := by
  rw [List.getD_eq_getElem?_getD]
  cases e : as[i]? with
  | none => exact sgT_nil
  | some v => exact (h v (List.mem_of_getElem? e)).2
theorem arT_snoc {as : List Tx} {v : Tx} (h : arT as) (hv : v.length ≤ 200) (hs : sgT v) : arT (as ++ [v]) := fun u hu => by
  rcases List.mem_append.mp hu with q | q
  · exact h u q
  · rw [List.mem_singleton.mp q]; exact ⟨hv, hs⟩
theorem smA_le {as : List Tx} (h : arT as) : smA as ≤ 200 * as.length := by
  unfold smA
  induction as with
  | nil => exact Nat.le_refl _
  | cons v as ih =>
    rw [List.flatten_cons, List.length_append, List.length_cons]
    have h1 := (h v (List.mem_cons_self ..)).1
    have h2 := ih (fun u hu => h u (List.mem_cons_of_mem _ hu))
    omega
def RecG (L : Nat) (rec : List Nat → (Nat → Tx) → Tx → Gl → Tx × Gl) : Prop := ∀ (O : List Nat) (fill : Nat → Tx) (u : Tx) (G : Gl), O.length ≤ L → Cpl u → (∀ i, sgT (fill i)) → (rec O fill u G).2.2.2.2 = false → GI O.length G → GI O.length (rec O fill u G).2 ∧ sgT (rec O fill u G).1
theorem edg_lt (D : Nat → Option Tx) (L : Nat) (O : List Nat) (k : Nat) : edg D L O k < 4 := by
  unfold edg
  split
  · decide
  · split
    · decide
    · split <;> decide
theorem edg_op {D : Nat → Option Tx} {L : Nat} {O : List Nat} {k : Nat} (h : edg D L O k = 0) : (∃ t, D k = some t) ∧ O.length < L := by
  unfold edg at h
  cases e : D k with
  | none => rw [e] at h; cases h
  | some t =>
    rw [e] at h
    dsimp only at h
    by_cases c : k ∈ O
    · rw [if_pos c] at h; cases h
    · rw [if_neg c] at h
      by_cases d : L ≤ O.length
      · rw [if_pos d] at h; cases h
      · exact ⟨⟨t, rfl⟩, by omega⟩
theorem callF_good {D : Nat → Option Tx} {L : Nat} (hL : L ≤ 12) (hD : ∀ k t, D k = some t → Cpl t) {rec : List Nat → (Nat → Tx) → Tx → Gl → Tx × Gl} (hR : RecG L rec) (hS : Stk rec) {O : List Nat} (hO : O.length ≤ L) {k : Nat} (hk : k < 26) {as : List Tx} (ha6 : as.length ≤ 6) (has : arT as) {own : Tx} (hown : sgT own) {G : Gl} (hG : GI O.length G) (hb : (callF rec D L O k as own G).2.2.2.2 = false) :
    GI O.length (callF rec D L O k as own G).2 ∧ sgT (callF rec D L O k as own G).1 ∧ (callF rec D L O k as own G).1.length ≤ 200 := by
  have hb' := hb
  rw [callF_bad, Bool.or_eq_false_iff] at hb'
  obtain ⟨hb1, hb2⟩ := hb'
  have hlen : (own ++ (resF rec D L O k as G).1).length ≤ 200 := by
    unfold ovr at hb2
    rw [decide_eq_false_iff_not] at hb2
    omega
  have hlw : (resF rec D L O k as G).1.length ≤ 200 := by rw [List.length_append] at hlen; omega
  have key : GI (if edg D L O k = 0 then O.length + 1 else O.length) (resF rec D L O k as G).2 ∧ sgT (resF rec D L O k as G).1 ∧ (edg D L O k ≠ 0 → (resF rec D L O k as G).1.length = 1) := by
    by_cases c : edg D L O k = 0
    · obtain ⟨⟨t, et⟩, hlt⟩ := edg_op c
      have er : resF rec D L O k as G = rec (k :: O) (fun i => as.getD i []) ((D k).getD []) (bodyG G O) := by unfold resF; rw [if_pos c]
      rw [if_pos c, er]
      rw [er] at hb1
      have hbb : (bodyG G O).2.2.2 = false := by
        cases q : (bodyG G O).2.2.2 with
        | false => rfl
        | true => rw [hS _ _ _ _ q] at hb1; cases hb1
      have hB := hG.body (O := O) rfl (by omega) hbb
      obtain ⟨q1, q2⟩ := hR (k :: O) (fun i => as.getD i []) ((D k).getD []) (bodyG G O) (by rw [List.length_cons]; omega) (by rw [et]; exact hD k t et) (fun i => arT_getD has i) hb1 hB
      exact ⟨q1, q2, fun q => absurd c q⟩
    · have er : resF rec D L O k as G = ([sgn (edg D L O k)], G) := by unfold resF; rw [if_neg c]
      rw [if_neg c, er]
      exact ⟨hG, sgT_sgn _, fun _ => rfl⟩
  obtain ⟨k1, k2, k3⟩ := key
  refine ⟨?_, sgT_app hown k2, hlen⟩
  exact GI.note (GI.bdd k1 _) hk (edg_lt D L O k) (by omega) ha6 hlw (smA_le has) k3
/-- what holds of a run -/
def SI (o : Nat) (s : Lc × Gl) : Prop := sgT s.1.1 ∧ s.1.1.length ≤ 200 ∧ (∀ f ∈ s.1.2.1, f.1 < 26 ∧ sgT f.2.1 ∧ arT f.2.2) ∧ GI o s.2
theorem SI.psh {o : Nat} {s : Lc × Gl} {c : Int32} (h : SI o s) (hc : inB c 65 90 = true) : SI o (pshF c s) := by
  refine ⟨sgT_nil, Nat.zero_le _, fun f hf => ?_, h.2.2.2⟩
  rcases List.mem_cons.mp hf with rfl | hf
  · exact ⟨(ltr_lt hc).1, h.1, fun v hv => absurd hv (by simp)⟩
  · exact h.2.2.1 f hf
theorem SI.wr {o : Nat} {s : Lc × Gl} {add : Tx} {h' : Nat} (h : SI o s) (hs : sgT add) (hb : (bdd s.2 (ovr (s.1.1 ++ add))).2.2.2 = false) : SI o ((s.1.1 ++ add, s.1.2.1, h'), bdd s.2 (ovr (s.1.1 ++ add))) := by
  rw [bdd_bad, Bool.or_eq_false_iff] at hb
  have := hb.2
  unfold ovr at this
  rw [decide_eq_false_iff_not] at this
  exact ⟨sgT_app h.1 hs, by dsimp only; omega, h.2.2.1, h.2.2.2.bdd _⟩
theorem runF_good {D : Nat → Option Tx} {L : Nat} (hL : L ≤ 12) (hD : ∀ k t, D k = some t → Cpl t) {rec : List Nat → (Nat → Tx) → Tx → Gl → Tx × Gl} (hR : RecG L rec) (hS : Stk rec) {O : List Nat} (hO : O.length ≤ L) {fill : Nat → Tx} (hf : ∀ i, sgT (fill i)) (n : Nat) (v : Tx) (hn : v.length ≤ n) (s : Lc × Gl) (hd : Bool) (hp : PrsOK v s.1.2.1 hd) (hI : SI O.length s) (hb : (runF (callF rec D L O) fill v s).2.2.2.2 = false) : SI O.length (runF (callF rec D L O) fill v s) := by
  have hcb : ∀ k as own (G : Gl), G.2.2.2 = true → (callF rec D L O k as own G).2.2.2.2 = true := fun k as own G h => by
    rw [callF_bad, resF_bad hS h]; rfl
  induction n generalizing v s hd with
  | zero =>
    cases v with
    | nil => exact hI
    | cons c v => rw [List.length_cons] at hn; omega
  | succ n ih =>
    cases v with
    | nil => exact hI
    | cons c v =>
      rw [List.length_cons] at hn
      have back : ∀ (w : Tx) (s' : Lc × Gl), (runF (callF rec D L O) fill w s').2.2.2.2 = false → s'.2.2.2.2 = false := fun w s' q => by
        cases e : s'.2.2.2.2 with
        | false => rfl
        | true => rw [runF_bad hcb w.length w (Nat.le_refl _) s' e] at q; cases q
      rcases hp.way with ⟨hpl, hp'⟩ | ⟨rfl, hp'⟩ | ⟨hab, hnx, hp'⟩ | ⟨hab, v', hv', hp'⟩ | ⟨rfl, f, r, hst, hp'⟩ | ⟨rfl, f, r, hst, hf6, hp'⟩
      · have hnp := pl_ne hpl
        have ho : oneF (callF rec D L O) fill c s = ((s.1.1 ++ [c], s.1.2.1, s.1.2.2), bdd s.2 (ovr (s.1.1 ++ [c]))) := by
          unfold oneF
          rw [if_neg hnp.1, if_neg (by rw [pl_ab hpl]; decide), if_neg hnp.2.2.1, if_neg hnp.2.2.2]
        rw [runF_one (by rw [pl_ab hpl]; rintro ⟨q, -⟩; cases q), ho] at hb ⊢
        refine ih v (by omega) _ false hp' (hI.wr (fun x hx => ?_) (back _ _ hb)) hb
        rw [List.mem_singleton.mp hx]; unfold sgB; rw [hpl]; rfl
      · have ho : oneF (callF rec D L O) fill 63 s = ((s.1.1 ++ fill s.1.2.2, s.1.2.1, s.1.2.2 + 1), bdd s.2 (ovr (s.1.1 ++ fill s.1.2.2))) := by
          unfold oneF; rw [if_pos rfl]
        rw [runF_one (by rintro ⟨q, -⟩; cases q), ho] at hb ⊢
        exact ih v (by omega) _ false hp' (hI.wr (hf _) (back _ _ hb)) hb
      · have ho : oneF (callF rec D L O) fill c s = (((callF rec D L O (ltr c) [] s.1.1 s.2).1, s.1.2.1, s.1.2.2), (callF rec D L O (ltr c) [] s.1.1 s.2).2) := by
          unfold oneF; rw [if_neg (ab_ne hab).1, if_pos hab]
        rw [runF_one (by rintro ⟨-, q⟩; exact hnx q), ho] at hb ⊢
        have hbb := back _ _ hb
        obtain ⟨q1, q2, q3⟩ := callF_good hL hD hR hS hO (ltr_lt hab).1 (as := []) (Nat.zero_le _) (fun v hv => absurd hv (by simp)) hI.1 hI.2.2.2 hbb
        exact ih v (by omega) _ true hp' ⟨q2, q3, hI.2.2.1, q1⟩ hb
      · subst hv'
        rw [runF_psh hab] at hb ⊢
        rw [List.length_cons] at hn
        exact ih v' (by omega) _ false (hp' _ rfl) (hI.psh hab) hb
      · have ho : oneF (callF rec D L O) fill 44 s = (([], (f.1, f.2.1, f.2.2 ++ [s.1.1]) :: r, s.1.2.2), s.2) := by
          unfold oneF; rw [if_neg (by decide), if_neg (by decide), if_pos rfl, hst]
        rw [runF_one (by rintro ⟨q, -⟩; cases q), ho] at hb ⊢
        have hff := hI.2.2.1 f (by rw [hst]; exact List.mem_cons_self ..)
        refine ih v (by omega) _ false (hp' _ (by rw [List.length_append]; rfl)) ⟨sgT_nil, Nat.zero_le _, fun g hg => ?_, hI.2.2.2⟩ hb
        rcases List.mem_cons.mp hg with rfl | hg
        · exact ⟨hff.1, hff.2.1, arT_snoc hff.2.2 hI.2.1 hI.1⟩
        · exact hI.2.2.1 g (by rw [hst]; exact List.mem_cons_of_mem _ hg)
      · have ho : oneF (callF rec D L O) fill 41 s = (((callF rec D L O f.1 (f.2.2 ++ [s.1.1]) f.2.1 s.2).1, r, s.1.2.2), (callF rec D L O f.1 (f.2.2 ++ [s.1.1]) f.2.1 s.2).2) := by
          unfold oneF; rw [if_neg (by decide), if_neg (by decide), if_neg (by decide), if_pos rfl, hst]
        rw [runF_one (by rintro ⟨q, -⟩; cases q), ho] at hb ⊢
        have hff := hI.2.2.1 f (by rw [hst]; exact List.mem_cons_self ..)
        have hbb := back _ _ hb
        obtain ⟨q1, q2, q3⟩ := callF_good hL hD hR hS hO hff.1 (as := f.2.2 ++ [s.1.1]) (by rw [List.length_append]; exact hf6) (arT_snoc hff.2.2 hI.2.1 hI.1) hff.2.1 hI.2.2.2 hbb
        exact ih v (by omega) _ false hp' ⟨q2, q3, fun g hg => hI.2.2.1 g (by rw [hst]; exact List.mem_cons_of_mem _ hg), q1⟩ hb
theorem evF_good {D : Nat → Option Tx} {L : Nat} (hL : L ≤ 12) (hD : ∀ k t, D k = some t → Cpl t) (n : Nat) : RecG L (evF D L n) := by
  induction n with
  | zero => exact fun O fill u G _ _ _ _ hG => ⟨hG, sgT_nil⟩
  | succ n ih =>
    intro O fill u G hO hu hf hb hG
    have q := runF_good hL hD ih (evF_bad D L n) hO hf u.length u (Nat.le_refl _) (([], [], 0), G) false (PrsOK.start hu) ⟨sgT_nil, Nat.zero_le _, fun f hf => absurd hf (by simp), hG⟩ hb
    exact ⟨q.2.2.2, q.1⟩
theorem RX_good {a : AS} {t : Tx} {L : Nat} (hW : WA a) (hL12 : L ≤ 12) (hC : Cpl t) (hb : (RX a L t).2.2.2.2 = false) : OcG ((RX a L t).1, (RX a L t).2.2.2.1, nI (RX a L t).2.1, nI (RX a L t).2.2.1) := by
  obtain ⟨q1, q2⟩ := evF_good (D := a.1) hL12 (fun k t e => (hW.1 k t e).1) 14 [] (fun _ => [63]) t G00 (Nat.zero_le _) hC (fun _ x hx => by rw [List.mem_singleton.mp hx]; decide) hb ⟨rfl, Nat.zero_le _, fun j hj => absurd hj (Nat.not_lt_zero j), Nat.zero_le _, Nat.zero_le _, fun _ => ⟨rfl, rfl⟩, Nat.zero_le _, Nat.zero_le _⟩
  obtain ⟨g1, g2, g3, g4, g5, g6, g7, g8⟩ := q1
  refine ⟨q2, _, _, g4, g5, rfl, rfl, g3, fun h => ?_, g7, ?_⟩
  · obtain ⟨a, b⟩ := g6 h
    exact ⟨a, (Nat.max_eq_left (Nat.zero_le _)).symm.trans b⟩
  · exact Nat.le_trans (Nat.le_max_left _ _) g8
