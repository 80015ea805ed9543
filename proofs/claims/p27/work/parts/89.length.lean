/-! PURE: a length that is told is that of the expansion -/
/-- arguments of the same lengths -/
def ArE : List Tx → List Tx → Prop
  | [], [] => True
  | v :: r, v' :: r' => v.length = v'.length ∧ ArE r r'
  | _, _ => False
theorem ArE.len {as as' : List Tx} (h : ArE as as') : as.length = as'.length ∧ smA as = smA as' ∧ ∀ i, (as.getD i []).length = (as'.getD i []).length := by
  induction as generalizing as' with
  | nil =>
    cases as' with
    | nil => exact ⟨rfl, rfl, fun _ => rfl⟩
    | cons v r => exact h.elim
  | cons v r ih =>
    cases as' with
    | nil => exact h.elim
    | cons v' r' =>
      obtain ⟨h1, h2⟩ := h
      obtain ⟨i1, i2, i3⟩ := ih h2
      refine ⟨by rw [List.length_cons, List.length_cons, i1], ?_, fun i => ?_⟩
      · unfold smA at i2 ⊢
        rw [List.flatten_cons, List.flatten_cons, List.length_append, List.length_append, h1, i2]
      · cases i with
        | zero => exact h1
        | succ i => exact i3 i
theorem ArE.snoc {as as' : List Tx} (h : ArE as as') {v v' : Tx} (hv : v.length = v'.length) : ArE (as ++ [v]) (as' ++ [v']) := by
  induction as generalizing as' with
  | nil =>
    cases as' with
    | nil => exact ⟨hv, trivial⟩
    | cons _ _ => exact h.elim
  | cons u r ih =>
    cases as' with
    | nil => exact h.elim
    | cons u' r' => exact ⟨h.1, ih h.2⟩
theorem ArE.rep {w w' : Tx} (h : w.length = w'.length) (n : Nat) : ArE (List.replicate n w) (List.replicate n w') := by
  induction n with
  | zero => exact trivial
  | succ n ih => exact ⟨h, ih⟩
def FrE : List Fr → List Fr → Prop
  | [], [] => True
  | f :: r, f' :: r' => f.1 = f'.1 ∧ f.2.1.length = f'.2.1.length ∧ ArE f.2.2 f'.2.2 ∧ FrE r r'
  | _, _ => False
def LcE (s s' : Lc × Gl) : Prop := s.1.1.length = s'.1.1.length ∧ FrE s.1.2.1 s'.1.2.1 ∧ s.1.2.2 = s'.1.2.2 ∧ s.2 = s'.2
def RecE (rec : List Nat → (Nat → Tx) → Tx → Gl → Tx × Gl) : Prop := ∀ (O : List Nat) (fill fill' : Nat → Tx) (u : Tx) (G : Gl), (∀ i, (fill i).length = (fill' i).length) → (rec O fill u G).1.length = (rec O fill' u G).1.length ∧ (rec O fill u G).2 = (rec O fill' u G).2
theorem callE {rec : List Nat → (Nat → Tx) → Tx → Gl → Tx × Gl} (hR : RecE rec) (D : Nat → Option Tx) (L : Nat) (O : List Nat) (k : Nat) {as as' : List Tx} (ha : ArE as as') {own own' : Tx} (ho : own.length = own'.length) (G : Gl) : (callF rec D L O k as own G).1.length = (callF rec D L O k as' own' G).1.length ∧ (callF rec D L O k as own G).2 = (callF rec D L O k as' own' G).2 := by
  obtain ⟨a1, a2, a3⟩ := ha.len
  have key : (resF rec D L O k as G).1.length = (resF rec D L O k as' G).1.length ∧ (resF rec D L O k as G).2 = (resF rec D L O k as' G).2 := by
    unfold resF
    by_cases c : edg D L O k = 0
    · rw [if_pos c, if_pos c]; exact hR _ _ _ _ _ a3
    · rw [if_neg c, if_neg c]; exact ⟨rfl, rfl⟩
  obtain ⟨k1, k2⟩ := key
  have kl : (own ++ (resF rec D L O k as G).1).length = (own' ++ (resF rec D L O k as' G).1).length := by rw [List.length_append, List.length_append, ho, k1]
  refine ⟨kl, ?_⟩
  show nte (bdd (resF rec D L O k as G).2 (ovr (own ++ (resF rec D L O k as G).1))) (cnt6 k (edg D L O k) O as (resF rec D L O k as G).1.length) = nte (bdd (resF rec D L O k as' G).2 (ovr (own' ++ (resF rec D L O k as' G).1))) (cnt6 k (edg D L O k) O as' (resF rec D L O k as' G).1.length)
  unfold ovr cnt6
  rw [k1, k2, kl, a1, a2]
theorem oneE {rec : List Nat → (Nat → Tx) → Tx → Gl → Tx × Gl} (hR : RecE rec) {D : Nat → Option Tx} {L : Nat} {O : List Nat} {fill fill' : Nat → Tx} (hf : ∀ i, (fill i).length = (fill' i).length) (c : Int32) {s s' : Lc × Gl} (h : LcE s s') : LcE (oneF (callF rec D L O) fill c s) (oneF (callF rec D L O) fill' c s') := by
  obtain ⟨⟨own, stk, hh⟩, G⟩ := s
  obtain ⟨⟨own', stk', hh'⟩, G'⟩ := s'
  obtain ⟨h1, h2, h3, h4⟩ := h
  dsimp only at h1 h2 h3 h4
  subst h3; subst h4
  unfold oneF
  by_cases c1 : c = 63
  · rw [if_pos c1, if_pos c1]
    have e : (own ++ fill hh).length = (own' ++ fill' hh).length := by rw [List.length_append, List.length_append, h1, hf]
    refine ⟨e, h2, rfl, ?_⟩
    show bdd G (ovr (own ++ fill hh)) = bdd G (ovr (own' ++ fill' hh))
    unfold ovr; rw [e]
  · rw [if_neg c1, if_neg c1]
    by_cases c2 : inB c 65 90 = true
    · rw [if_pos c2, if_pos c2]
      obtain ⟨q1, q2⟩ := callE hR D L O (ltr c) (as := []) (as' := []) trivial h1 G
      exact ⟨q1, h2, rfl, q2⟩
    · rw [if_neg c2, if_neg c2]
      by_cases c3 : c = 44
      · rw [if_pos c3, if_pos c3]
        cases stk with
        | nil =>
          cases stk' with
          | nil => exact ⟨h1, h2, rfl, rfl⟩
          | cons f r => exact h2.elim
        | cons f r =>
          cases stk' with
          | nil => exact h2.elim
          | cons f' r' => exact ⟨rfl, ⟨h2.1, h2.2.1, h2.2.2.1.snoc h1, h2.2.2.2⟩, rfl, rfl⟩
      · rw [if_neg c3, if_neg c3]
        by_cases c4 : c = 41
        · rw [if_pos c4, if_pos c4]
          cases stk with
          | nil =>
            cases stk' with
            | nil => exact ⟨h1, h2, rfl, rfl⟩
            | cons f r => exact h2.elim
          | cons f r =>
            cases stk' with
            | nil => exact h2.elim
            | cons f' r' =>
              obtain ⟨q1, q2⟩ := callE hR D L O f.1 (h2.2.2.1.snoc h1) h2.2.1 G
              rw [h2.1] at q1 q2
              dsimp only
              rw [h2.1]
              exact ⟨q1, h2.2.2.2, rfl, q2⟩
        · rw [if_neg c4, if_neg c4]
          have e : (own ++ [c]).length = (own' ++ [c]).length := by rw [List.length_append, List.length_append, h1]
          refine ⟨e, h2, rfl, ?_⟩
          show bdd G (ovr (own ++ [c])) = bdd G (ovr (own' ++ [c]))
          unfold ovr; rw [e]
theorem runE {rec : List Nat → (Nat → Tx) → Tx → Gl → Tx × Gl} (hR : RecE rec) {D : Nat → Option Tx} {L : Nat} {O : List Nat} {fill fill' : Nat → Tx} (hf : ∀ i, (fill i).length = (fill' i).length) (n : Nat) (v : Tx) (hn : v.length ≤ n) (s s' : Lc × Gl) (h : LcE s s') : LcE (runF (callF rec D L O) fill v s) (runF (callF rec D L O) fill' v s') := by
  induction n generalizing v s s' with
  | zero =>
    cases v with
    | nil => exact h
    | cons c v => rw [List.length_cons] at hn; omega
  | succ n ih =>
    cases v with
    | nil => exact h
    | cons c v =>
      rw [List.length_cons] at hn
      by_cases q : inB c 65 90 = true ∧ v.head? = some 40
      · cases v with
        | nil => cases q.2
        | cons e v =>
          obtain ⟨q1, q2⟩ := q
          cases q2
          rw [List.length_cons] at hn
          rw [runF_psh q1, runF_psh q1]
          exact ih v (by omega) _ _ ⟨rfl, ⟨rfl, h.1, trivial, h.2.1⟩, h.2.2.1, h.2.2.2⟩
      · rw [runF_one q, runF_one q]
        exact ih v (by omega) _ _ (oneE hR hf c h)
theorem evE (D : Nat → Option Tx) (L n : Nat) : RecE (evF D L n) := by
  induction n with
  | zero => exact fun _ _ _ _ _ _ => ⟨rfl, rfl⟩
  | succ n ih =>
    intro O fill fill' u G hf
    have q := runE ih (D := D) (L := L) (O := O) hf u.length u (Nat.le_refl _) (([], [], 0), G) (([], [], 0), G) ⟨rfl, trivial, rfl, rfl⟩
    exact ⟨q.1, q.2.2.2⟩
/-- letters from a on -/
def wrA : Nat → Tx
  | 0 => []
  | i + 1 => wrA i ++ [(97 : Int32) + nI i]
theorem wrA_len (i : Nat) : (wrA i).length = i := by
  induction i with
  | zero => rfl
  | succ i ih => show (wrA i ++ [_]).length = i + 1; rw [List.length_append, ih]; rfl
theorem ltA_ok : ∀ i, i < 26 → plB ((97 : Int32) + nI i) = true := by decide
theorem wrA_pl {i : Nat} (hi : i ≤ 26) : ∀ c ∈ wrA i, plB c = true := by
  induction i with
  | zero => exact fun c hc => absurd hc (by simp [wrA])
  | succ i ih =>
    intro c hc
    rcases List.mem_append.mp hc with q | q
    · exact ih (by omega) c q
    · rw [List.mem_singleton.mp q]; exact ltA_ok i (by omega)
/-- the arguments of the typed call, without its last bracket -/
def midA (w : Tx) : Nat → Tx
  | 0 => w
  | j + 1 => midA w j ++ (44 :: w)
def preA (c : Int32) (w : Tx) : Nat → Tx
  | 0 => [c]
  | j + 1 => preA c w j ++ ((if j = 0 then 40 else 44) :: w)
theorem preA_mid (c : Int32) (w : Tx) (j : Nat) : preA c w (j + 1) = c :: 40 :: midA w j := by
  induction j with
  | zero => rfl
  | succ j ih =>
    show preA c w (j + 1) ++ ((if j + 1 = 0 then 40 else 44) :: w) = c :: 40 :: (midA w j ++ (44 :: w))
    rw [ih, if_neg (Nat.succ_ne_zero j)]
    rfl
theorem preA_len (c : Int32) (w : Tx) (j : Nat) : (preA c w j).length = 1 + j * (w.length + 1) := by
  induction j with
  | zero => rw [Nat.zero_mul]; rfl
  | succ j ih =>
    show (preA c w j ++ _).length = _
    rw [List.length_append, ih, List.length_cons, Nat.succ_mul]
    omega
theorem midA_no {w : Tx} (hw : ∀ c ∈ w, plB c = true) (j : Nat) : ∀ c ∈ midA w j, inB c 65 90 = false := by
  induction j with
  | zero => exact fun c hc => pl_ab (hw c hc)
  | succ j ih =>
    intro c hc
    rcases List.mem_append.mp hc with q | q
    · exact ih c q
    · rcases List.mem_cons.mp q with rfl | q
      · decide
      · exact pl_ab (hw c q)
theorem runF_flat {call : Nat → List Tx → Tx → Gl → Tx × Gl} {fill : Nat → Tx} {v : Tx} (h : ∀ c ∈ v, inB c 65 90 = false) (s : Lc × Gl) : runF call fill v s = v.foldl (fun s c => oneF call fill c s) s := by
  induction v generalizing s with
  | nil => rfl
  | cons c v ih =>
    rw [runF_one (by rw [h c (List.mem_cons_self ..)]; rintro ⟨q, -⟩; cases q), List.foldl_cons]
    exact ih (fun d hd => h d (List.mem_cons_of_mem _ hd)) _
theorem bdd_f (G : Gl) : bdd G false = G := by
  unfold bdd
  rw [Bool.or_false]
theorem fold_w {call : Nat → List Tx → Tx → Gl → Tx × Gl} {fill : Nat → Tx} {w : Tx} (hw : ∀ c ∈ w, plB c = true) (own : Tx) (stk : List Fr) (h : Nat) (G : Gl) (hl : own.length + w.length ≤ 200) : w.foldl (fun s c => oneF call fill c s) ((own, stk, h), G) = ((own ++ w, stk, h), G) := by
  induction w generalizing own with
  | nil => rw [List.append_nil]; rfl
  | cons c w ih =>
    have hc := hw c (List.mem_cons_self ..)
    have hnp := pl_ne hc
    rw [List.length_cons] at hl
    have ho : oneF call fill c ((own, stk, h), G) = ((own ++ [c], stk, h), G) := by
      unfold oneF
      rw [if_neg hnp.1, if_neg (by rw [pl_ab hc]; decide), if_neg hnp.2.2.1, if_neg hnp.2.2.2]
      have : ovr (own ++ [c]) = false := by
        unfold ovr
        rw [decide_eq_false_iff_not, List.length_append]
        show ¬ 200 < own.length + 1
        omega
      show ((own ++ [c], stk, h), bdd G (ovr (own ++ [c]))) = _
      rw [this, bdd_f]
    rw [List.foldl_cons, ho, ih (fun d hd => hw d (List.mem_cons_of_mem _ hd)) (own ++ [c]) (by rw [List.length_append]; show own.length + 1 + w.length ≤ 200; omega), List.append_assoc]
    rfl
theorem fold_mid {call : Nat → List Tx → Tx → Gl → Tx × Gl} {fill : Nat → Tx} {w : Tx} (hw : ∀ c ∈ w, plB c = true) (hl : w.length ≤ 200) (k h : Nat) (G : Gl) (j : Nat) : (midA w j).foldl (fun s c => oneF call fill c s) (([], [(k, [], [])], h), G) = ((w, [(k, [], List.replicate j w)], h), G) := by
  induction j with
  | zero => exact fold_w hw [] [(k, [], [])] h G (by show 0 + _ ≤ _; omega)
  | succ j ih =>
    show (midA w j ++ (44 :: w)).foldl _ _ = _
    rw [List.foldl_append, ih, List.foldl_cons]
    have ho : oneF call fill 44 ((w, [(k, [], List.replicate j w)], h), G) = (([], [(k, [], List.replicate j w ++ [w])], h), G) := by
      unfold oneF; rw [if_neg (by decide), if_neg (by decide), if_pos rfl]
    rw [ho, fold_w hw [] _ h G (by show 0 + _ ≤ _; omega), rep_snoc]
    rfl
theorem stp_pl {c : Int32} (h : plB c = true) (s : List Nat) (b : Bool) : stp c (s, b) = some (s, false) := by unfold stp; rw [if_pos (Or.inl h)]
theorem scn_w {w : Tx} (hw : ∀ c ∈ w, plB c = true) (s : List Nat) : scn w (s, false) = some (s, false) := by
  induction w with
  | nil => rfl
  | cons c w ih =>
    rw [scn_cons (stp_pl (hw c (List.mem_cons_self ..)) s false)]
    exact ih (fun d hd => hw d (List.mem_cons_of_mem _ hd))
theorem scn_mid {w : Tx} (hw : ∀ c ∈ w, plB c = true) {j : Nat} (hj : j < 6) : scn (midA w j) ([1], false) = some ([j + 1], false) := by
  induction j with
  | zero => exact scn_w hw [1]
  | succ j ih =>
    show scn (midA w j ++ (44 :: w)) ([1], false) = _
    rw [scn_app, ih (by omega)]
    show scn (44 :: w) ([j + 1], false) = _
    have e : stp 44 ([j + 1], false) = some ([j + 1 + 1], false) := by
      unfold stp
      rw [if_neg (by decide), if_neg (by decide), if_neg (by decide), if_pos rfl]
      show (if j + 1 < 6 then some ((j + 1 + 1) :: [], false) else none) = _
      rw [if_pos (by omega)]
    rw [scn_cons e]
    exact scn_w hw _
theorem cap_up {k : Nat} (hk : k < 26) : inB (nI (65 + k)) 65 90 = true := by
  have : ∀ k, k < 26 → inB (nI (65 + k)) 65 90 = true := by decide
  exact this k hk
theorem cpl_call {k : Nat} (hk : k < 26) {w : Tx} (hw : ∀ c ∈ w, plB c = true) {j : Nat} (hj : j < 6) : Cpl (preA (nI (65 + k)) w (j + 1) ++ [41]) := by
  refine ⟨false, ?_⟩
  rw [preA_mid]
  show scn (nI (65 + k) :: 40 :: (midA w j ++ [41])) ([], false) = _
  have e1 : stp (nI (65 + k)) ([], false) = some ([], true) := by
    unfold stp
    rw [if_neg ?_, if_pos (cap_up hk)]
    rintro (q | q)
    · have := pl_ab q
      rw [cap_up hk] at this; cases this
    · exact (ab_ne (cap_up hk)).1 q
  have e2 : stp 40 (([] : List Nat), true) = some ([1], false) := by
    unfold stp; rw [if_neg (by decide), if_neg (by decide), if_pos rfl]; rfl
  rw [scn_cons e1, scn_cons e2, scn_app, scn_mid hw hj]
  rfl
theorem cpl_one {k : Nat} (hk : k < 26) : Cpl [nI (65 + k)] := by
  refine ⟨true, ?_⟩
  have e1 : stp (nI (65 + k)) ([], false) = some ([], true) := by
    unfold stp
    rw [if_neg ?_, if_pos (cap_up hk)]
    rintro (q | q)
    · have := pl_ab q
      rw [cap_up hk] at this; cases this
    · exact (ab_ne (cap_up hk)).1 q
  rw [scn_cons e1]; rfl
/-- the typed call -/
def typA (k h len : Nat) : Tx := if h = 0 then [nI (65 + k)] else preA (nI (65 + k)) (wrA len) h ++ [41]
theorem typA_cpl {k h len : Nat} (hk : k < 26) (hh : h ≤ 6) (hl : len ≤ 8) : Cpl (typA k h len) := by
  unfold typA
  by_cases c : h = 0
  · rw [if_pos c]; exact cpl_one hk
  · rw [if_neg c]
    obtain ⟨j, rfl⟩ : ∃ j, h = j + 1 := ⟨h - 1, by omega⟩
    exact cpl_call hk (wrA_pl (by omega)) (by omega)
theorem typA_run (a : AS) (L : Nat) {k h len : Nat} (hk : k < 26) (hh : h ≤ 6) (hl : len ≤ 8) : (RX a L (typA k h len)).1 = (callF (evF a.1 L 13) a.1 L [] k (List.replicate h (wrA len)) [] G00).1 ∧ (RX a L (typA k h len)).2 = (callF (evF a.1 L 13) a.1 L [] k (List.replicate h (wrA len)) [] G00).2 := by
  have hw : ∀ c ∈ wrA len, plB c = true := wrA_pl (by omega)
  have key : runF (callF (evF a.1 L 13) a.1 L []) (fun _ => [63]) (typA k h len) (([], [], 0), G00) = (((callF (evF a.1 L 13) a.1 L [] k (List.replicate h (wrA len)) [] G00).1, [], 0), (callF (evF a.1 L 13) a.1 L [] k (List.replicate h (wrA len)) [] G00).2) := by
    unfold typA
    by_cases c : h = 0
    · subst c
      rw [if_pos rfl]
      show oneF _ _ (nI (65 + k)) _ = _
      unfold oneF
      rw [if_neg (ab_ne (cap_up hk)).1, if_pos (cap_up hk), ltr_nI hk]
      rfl
    · rw [if_neg c]
      obtain ⟨j, rfl⟩ : ∃ j, h = j + 1 := ⟨h - 1, by omega⟩
      rw [preA_mid]
      show runF _ _ (nI (65 + k) :: 40 :: (midA (wrA len) j ++ [41])) _ = _
      rw [runF_psh (cap_up hk), runF_flat (fun d hd => by
        rcases List.mem_append.mp hd with q | q
        · exact midA_no hw j d q
        · rw [List.mem_singleton.mp q]; decide)]
      have ep : pshF (nI (65 + k)) (([], [], 0), G00) = (([], [(k, [], [])], 0), G00) := by
        unfold pshF; rw [ltr_nI hk]
      rw [ep, List.foldl_append, fold_mid hw (by rw [wrA_len]; omega), rep_snoc]
      rw [List.foldl_cons, List.foldl_nil]
      unfold oneF
      rw [if_neg (by decide), if_neg (by decide), if_neg (by decide), if_pos rfl]
  constructor
  · show (runF (callF (evF a.1 L 13) a.1 L []) (fun _ => [63]) (typA k h len) (([], [], 0), G00)).1.1 = _
    rw [key]
  · show (runF (callF (evF a.1 L 13) a.1 L []) (fun _ => [63]) (typA k h len) (([], [], 0), G00)).2 = _
    rw [key]
/-- what is told is what comes -/
theorem told_is {a : AS} {L k len : Nat} {t : Tx} (e : a.1 k = some t) (hk : k < 26) (hh : hls t ≤ 6) (hl : len ≤ 8) : exV a L (typA k (hls t) len) = lnV a L k len := by
  obtain ⟨q1, q2⟩ := typA_run a L hk hh hl
  have q := callE (evE a.1 L 13) a.1 L [] k (ArE.rep (w := wrA len) (w' := List.replicate len 97) (by rw [wrA_len, List.length_replicate]) (hls t)) (own := []) (own' := []) rfl G00
  unfold exV lnV
  rw [e]
  dsimp only
  rw [q2, q1, q.1, q.2]
theorem typA_len {k h len : Nat} (hh : h ≤ 6) (hl : len ≤ 8) : 0 < (typA k h len).length ∧ (typA k h len).length ≤ 60 := by
  unfold typA
  by_cases c : h = 0
  · rw [if_pos c]; exact ⟨Nat.zero_lt_one, by show 1 ≤ 60; decide⟩
  · rw [if_neg c, List.length_append, preA_len, wrA_len]
    have : h * (len + 1) ≤ 6 * 9 := Nat.mul_le_mul hh (by omega)
    show 0 < 1 + h * (len + 1) + 1 ∧ 1 + h * (len + 1) + 1 ≤ 60
    omega
set_option maxHeartbeats 4000000 in
set_option maxRecDepth 100000 in
theorem len_tot {z : MS} {b : BS} (h : Inv z b) {k len : Nat} (hk : k < 26) (hl : len ≤ 8) : ∃ r, FL_isLength z (nI k) (nI len) = some r ∧ (r.2 = 1 ∧ ∃ b', Inv r.1 b') := by
  obtain ⟨t0, a, p, s, hI⟩ := h
  obtain ⟨L, hL1, hL12, hL⟩ := hI.2.1.2.1
  obtain ⟨z5, -, e5, h5, hI5⟩ := X_body1 hI hk
  obtain ⟨z12, b12, -, e12, h12, hI12⟩ := X_length hI5 hL1 hL12 hL hk (len := len) (by omega)
  have hb12 : Inv z12 b12 := ⟨t0, a, p, s, hI12⟩
  unfold FL_isLength
  cases e : a.1 k with
  | none =>
    rw [bdV_none e] at e5
    have ev : lnV a L k len = -1 := by unfold lnV; rw [e]
    rw [ev] at e12
    exact ⟨_, bn2_go (nw_go e5 h5) <| bn2_go (nw_go e12 h12) <| jp_go <| if_go (by decide) <| jp_go <| jp_go <| if_no (by decide) <| if_no (fun q => q rfl) <| bz_go (Or.inr rfl) rfl, rfl, b12, hb12⟩
  | some t =>
    have e51 : F8_body z (nI k) 1 = some (z5, nI (hls t)) := by rw [bdV_some e] at e5; exact e5
    have ht := hI.2.1.1 k t e
    have h60 : hls t ≤ 60 := Nat.le_trans (hls_le t) ht.2
    by_cases h6 : hls t ≤ 6
    · obtain ⟨z27, b27, -, e27, hI27⟩ := X_clear hI12
      have n60 := hI12.1.1
      obtain ⟨w, hw⟩ : ∃ w, w = wrA len := ⟨_, rfl⟩
      obtain ⟨A, hA⟩ : ∃ A, A = nI (65 + k) := ⟨_, rfl⟩
      have eA : (65 : Int32) + nI k = A := by rw [hA]; exact nI_add 65 k
      have hAc : inB A 33 126 = true := by
        have : ∀ k, k < 26 → inB (nI (65 + k)) 33 126 = true := by decide
        rw [hA]; exact this k hk
      obtain ⟨z37, b37, -, e37, h37, hI37⟩ := X_append hI27 hAc (by decide)
      refine ex_go (bn2_go (nw_go e51 h5) <| bn2_go (nw_go e12 h12) <| jp_go <| if_no (nI_pos (by omega)) <| if_go (nI_le (b := 6) h6 (by decide)) <| bn2_go e27 <| jp_go <| if_go (nI_pos' (by omega)) <| bn2_go (by rw [eA]; exact nw_go e37 h37) rfl) ?_
      have plen : ∀ j, (preA A w j).length = 1 + j * (len + 1) := fun j => by rw [preA_len, hw, wrA_len]
      have pb : ∀ j, j < hls t → j * (len + 1) ≤ 5 * 9 := fun j hj => Nat.mul_le_mul (by omega) (by omega)
      refine Loop_inv (fun j q => q.2.1 = nI j ∧ q.1 = nI (preA A w j).length ∧ ∃ b', InvD (preA A w j) a p s q.2.2 b') (hls t) _ ?_ ?_ _ ?_
      · rintro j ⟨x48, x49, z50⟩ hj ⟨rfl, rfl, b50, hI50⟩
        have pj := plen j
        have qj := pb j hj
        -- a bracket or a comma, then the letters
        have put : ∀ c : Int32, inB c 33 126 = true → ∀ K : Option ((Int32 × Int32 × MS) ⊕ (MS × Int32)), K = (bn2 (nw (F8_append z50 c)) fun z132 x129 => Loop (fun (q : Int32 × Int32 × MS) => (fun (x137 : Int32) (x138 : Int32) (b139 : MS) => if nI len ≤ x138 then bd (nI j + 1) fun x147 => (some (.inr (.inl (x137, x147, b139))) : Option ((Int32 × Int32 × MS) ⊕ ((Int32 × Int32 × MS) ⊕ (MS × Int32)))) else bn2 (nw (F8_append b139 ((97 : Int32) + x138))) fun z155 x152 => bd (x138 + 1) fun x158 => some (.inl (x152, x158, z155))) q.1 q.2.1 q.2.2) (x129, 0, z132)) → ∃ s', K = some (.inl s') ∧ (s'.2.1 = nI (j + 1) ∧ s'.1 = nI (preA A w j ++ (c :: w)).length ∧ ∃ b', InvD (preA A w j ++ (c :: w)) a p s s'.2.2 b') := by
          rintro c hc K rfl
          obtain ⟨zc, bc, -, ec, hc7, hIc⟩ := X_append hI50 hc (by rw [pj]; omega)
          refine ex_il (bn2_go (nw_go ec hc7) rfl) ?_
          have ll : ∀ i, (preA A w j ++ [c] ++ wrA i).length = 1 + j * (len + 1) + 1 + i := fun i => by rw [List.length_append, List.length_append, pj, wrA_len]; rfl
          refine Loop_inv (fun i q => q.2.1 = nI i ∧ q.1 = nI (preA A w j ++ [c] ++ wrA i).length ∧ ∃ b', InvD (preA A w j ++ [c] ++ wrA i) a p s q.2.2 b') len _ ?_ ?_ _ ⟨rfl, ?_, bc, ?_⟩
          · rintro i ⟨x137, x138, zi⟩ hi ⟨rfl, rfl, bi, hIi⟩
            have hci : inB ((97 : Int32) + nI i) 33 126 = true := by
              have : ∀ i, i < 26 → inB ((97 : Int32) + nI i) 33 126 = true := by decide
              exact this i (by omega)
            obtain ⟨z2, b2, -, e2, h2, hI2⟩ := X_append hIi hci (by rw [ll]; omega)
            have ea : preA A w j ++ [c] ++ wrA i ++ [(97 : Int32) + nI i] = preA A w j ++ [c] ++ wrA (i + 1) := by
              rw [List.append_assoc (preA A w j ++ [c])]; rfl
            refine ⟨_, if_no (nI_ge hi (by omega)) <| bn2_go (nw_go e2 h2) <| bd_go rfl, nI_1 i, ?_, b2, ?_⟩
            · show nI ((preA A w j ++ [c] ++ wrA i).length + 1) = _
              rw [ll, ll]; rfl
            · rw [← ea]; exact hI2
          · rintro ⟨x137, x138, zi⟩ ⟨rfl, rfl, bi, hIi⟩
            have ea : preA A w j ++ [c] ++ wrA len = preA A w j ++ (c :: w) := by rw [hw, List.append_assoc]; rfl
            refine ⟨_, if_go (nI_le (Nat.le_refl _) (by omega)) <| bd_go rfl, _, rfl, nI_1 j, ?_, bi, ?_⟩
            · rw [← ea]
            · rw [← ea]; exact hIi
          · show nI ((preA A w j).length + 1) = nI (preA A w j ++ [c] ++ []).length
            rw [List.append_nil, List.length_append]; rfl
          · show InvD (preA A w j ++ [c] ++ []) a p s zc bc
            rw [List.append_nil]; exact hIc
        refine exL (if_no (nI_ge hj (by omega)) <| jp_go rfl) ?_
        by_cases j0 : j = 0
        · have ep : preA A w (j + 1) = preA A w j ++ (40 :: w) := by
            show preA A w j ++ ((if j = 0 then 40 else 44) :: w) = _
            rw [if_pos j0]
          rw [ep]
          exact exL (if_no (fun q => q (by rw [j0]; rfl)) rfl) (put 40 (by decide) _ rfl)
        · have ep : preA A w (j + 1) = preA A w j ++ (44 :: w) := by
            show preA A w j ++ ((if j = 0 then 40 else 44) :: w) = _
            rw [if_neg j0]
          rw [ep]
          exact exL (if_go (nI_ne0 (by omega) (by omega)) rfl) (put 44 (by decide) _ rfl)
      · rintro ⟨x48, x49, z50⟩ ⟨rfl, rfl, b50, hI50⟩
        -- the call is typed: expand, undo, clearBuffer
        obtain ⟨T, hT⟩ : ∃ T, T = typA k (hls t) len := ⟨_, rfl⟩
        obtain ⟨tl0, tl60⟩ := typA_len (k := k) (h := hls t) (len := len) h6 hl
        rw [← hT] at tl0 tl60
        have fin : ∀ (z1 : MS) (b1 : BS), InvD T a p s z1 b1 → ∀ K : Option ((Int32 × Int32 × MS) ⊕ (MS × Int32)), K = (jp (fun (x112 : Int32) (b113 : MS) => bz x112 (some (.inr (b113, x112)) : Option ((Int32 × Int32 × MS) ⊕ (MS × Int32)))) fun k76 => jp (fun (b107 : MS) => k76 0 b107) fun k78 => if nI T.length ≤ 0 then k78 z1 else bn2 (gz (-2) 0 (F8_expand z1)) fun z87 x84 => if ¬ x84 = lnV a L k len then k78 z87 else bn2 (gz (-2) 0 (F8_undo z87)) fun z95 x92 => if x92 < 0 then k78 z95 else bn2 (F8_clearBuffer z95) fun z103 x100 => if ¬ x100 = nI T.length then k78 z103 else k76 1 z103) → ∃ r, K = some (.inr r) ∧ (r.2 = 1 ∧ ∃ b', Inv r.1 b') := by
          rintro z1 b1 hI1 K rfl
          obtain ⟨z2, b2, a2, p2, -, e2, h2, hI2, hp2⟩ := X_expand hI1 (by rw [hT]; exact typA_cpl hk h6 hl) hL12 hL
          obtain ⟨z3, b3, m, y3, p3, hm5, -, e3, h3, hI3⟩ := X_undo hI2 hp2
          obtain ⟨z4, b4, -, e4, hI4⟩ := X_clear hI3
          have ev : exV a L T = lnV a L k len := by rw [hT]; exact told_is e hk h6 hl
          exact ⟨_, jp_go <| jp_go <| if_no (nI_nle (by omega) (by omega)) <| bn2_go (gz_go e2 h2) <| if_no (fun q => q ev) <| bn2_go (gz_go e3 h3) <| if_no (nI_pos (by omega)) <| bn2_go e4 <| if_no (fun q => q rfl) <| bz_go (Or.inr rfl) rfl, rfl, b4, [], y3, p3, s, hI4⟩
        refine exR (if_go (nI_le (Nat.le_refl _) (by omega)) <| jp_go rfl) ?_
        by_cases h0 : hls t = 0
        · have eT : T = preA A w (hls t) := by rw [hT, h0, hA]; unfold typA; rw [if_pos rfl]; rfl
          rw [← eT] at hI50 ⊢
          exact exR (if_go (by rw [h0]; decide) rfl) (fin z50 b50 hI50 _ rfl)
        · have eT : T = preA A w (hls t) ++ [41] := by rw [hT, hA, hw]; unfold typA; rw [if_neg h0]
          have pl' : (preA A w (hls t)).length < 60 := by
            have : T.length = (preA A w (hls t)).length + 1 := by rw [eT, List.length_append]; rfl
            omega
          obtain ⟨z2, b2, -, e2, h2, hI2⟩ := X_append hI50 (c := 41) (by decide) pl'
          rw [← eT] at hI2
          have el : nI ((preA A w (hls t)).length + 1) = nI T.length := by rw [eT, List.length_append]; rfl
          rw [el] at e2
          exact exR (if_no (nI_nle (by omega) (by omega)) <| bn2_go (nw_go e2 h2) rfl) (fin z2 b2 hI2 _ rfl)
      · exact ⟨rfl, rfl, b37, hI37⟩
    · exact ⟨_, bn2_go (nw_go e51 h5) <| bn2_go (nw_go e12 h12) <| jp_go <| if_no (nI_pos (by omega)) <| if_no (nI_ge (b := hls t) (a := 6) (by omega) (by omega)) <| jp_go <| jp_go <| if_go (nI_lt (a := 6) (by omega) (by omega)) <| bz_go (Or.inr rfl) rfl, rfl, b12, hb12⟩
