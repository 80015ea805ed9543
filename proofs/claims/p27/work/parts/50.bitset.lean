/-! PURE: sets as bits -/
def tb (x : Int32) (k : Nat) : Bool := x.toBitVec.getLsbD k
theorem tb_ext {x y : Int32} (h : ∀ j, tb x j = tb y j) : x = y := by
  apply Int32.toBitVec_inj.mp
  apply BitVec.eq_of_getLsbD_eq
  exact fun i _ => h i
theorem tb_or (x y : Int32) (k : Nat) : tb (x ||| y) k = (tb x k || tb y k) := by
  unfold tb; rw [Int32.toBitVec_or, BitVec.getLsbD_or]
theorem tb_and (x y : Int32) (k : Nat) : tb (x &&& y) k = (tb x k && tb y k) := by
  unfold tb; rw [Int32.toBitVec_and, BitVec.getLsbD_and]
theorem tb_0 (k : Nat) : tb 0 k = false := by
  unfold tb; exact BitVec.getLsbD_zero
theorem tb_ge {x : Int32} {k : Nat} (h : 32 ≤ k) : tb x k = false := BitVec.getLsbD_of_ge _ _ h
def one (k : Nat) : Int32 := (1 : Int32) <<< (nI k &&& 31)
theorem tb_one {k : Nat} (hk : k < 26) (j : Nat) : tb (one k) j = decide (j = k) := by
  rcases Nat.lt_or_ge j 32 with h | h
  · have : ∀ k, k < 26 → ∀ j, j < 32 → tb (one k) j = decide (j = k) := by decide
    exact this k hk j h
  · rw [tb_ge h, decide_eq_false (by omega)]
theorem tb_ref {x : Int32} {k : Nat} (hk : k < 26) : ((x >>> (nI k &&& 31)) &&& 1 = 1) ↔ tb x k = true := by
  have e : ∀ k, k < 26 → ((nI k &&& 31).toBitVec.smod 32).toNat = k := by decide
  rw [← Int32.toBitVec_inj, Int32.toBitVec_and, Int32.toBitVec_shiftRight]
  show BitVec.sshiftRight' x.toBitVec ((nI k &&& 31).toBitVec.smod 32) &&& 1#32 = 1#32 ↔ _
  rw [BitVec.sshiftRight', e k hk, BitVec.and_one_eq_setWidth_ofBool_getLsbD]
  rw [BitVec.getLsbD_sshiftRight]
  have : (if k + 0 < 32 then x.toBitVec.getLsbD (k + 0) else x.toBitVec.msb) = tb x k := by rw [if_pos (by omega)]; rfl
  rw [this]
  cases tb x k <;> decide
theorem tb_cls {x : Int32} {k : Nat} (hk : k < 26) : (x &&& one k = 0) ↔ tb x k = false := by
  constructor
  · intro h
    have q : tb (x &&& one k) k = tb 0 k := by rw [h]
    rw [tb_and, tb_one hk, tb_0, decide_eq_true rfl, Bool.and_true] at q
    exact q
  · intro h
    apply tb_ext
    intro j
    rw [tb_and, tb_one hk, tb_0]
    by_cases c : j = k
    · subst c; rw [h]; rfl
    · rw [decide_eq_false c, Bool.and_false]
theorem F0_holds_eq {x : Int32} {k : Nat} (hk : k < 26) : F0_holds x (nI k) = some (bI (tb x k)) := by
  unfold F0_holds
  refine bn_go (F7_isLetter_eq _) <| jp_go <| jp_go <| if_no (by rw [nI_letter hk]; decide) ?_
  cases e : tb x k with
  | true => exact if_no (fun q => by rw [(tb_cls hk).mp q] at e; cases e) bz1
  | false => exact if_go ((tb_cls hk).mpr e) bz0
/-- letters that have a property -/
def gth (p : Nat → Bool) : Nat → Int32
  | 0 => 0
  | n + 1 => gth p n ||| (if p n = true then one n else 0)
theorem tb_gth (p : Nat → Bool) {n : Nat} (hn : n ≤ 26) (j : Nat) : tb (gth p n) j = (decide (j < n) && p j) := by
  induction n with
  | zero => rw [decide_eq_false (by omega)]; exact tb_0 j
  | succ n ih =>
    show tb (gth p n ||| _) j = _
    rw [tb_or, ih (by omega)]
    by_cases c : j = n
    · subst c
      rw [decide_eq_false (by omega), decide_eq_true (show j < j + 1 by omega), Bool.false_and, Bool.false_or, Bool.true_and]
      cases p j
      · rw [if_neg (by decide)]; exact tb_0 _
      · rw [if_pos rfl, tb_one (by omega), decide_eq_true rfl]
    · have : tb (if p n = true then one n else 0) j = false := by
        split
        · rw [tb_one (by omega), decide_eq_false c]
        · exact tb_0 _
      rw [this, Bool.or_false]
      congr 1
      by_cases d : j < n
      · rw [decide_eq_true d, decide_eq_true (by omega)]
      · rw [decide_eq_false d, decide_eq_false (by omega)]
/-- sets of a family joined -/
def orA (G : Nat → Int32) : Nat → Int32
  | 0 => 0
  | n + 1 => orA G n ||| G n
theorem tb_orA (G : Nat → Int32) (n : Nat) (j : Nat) : tb (orA G n) j = true ↔ ∃ k, k < n ∧ tb (G k) j = true := by
  induction n with
  | zero => rw [show orA G 0 = 0 from rfl, tb_0]; exact ⟨fun h => (by cases h), fun ⟨k, hk, _⟩ => absurd hk (by omega)⟩
  | succ n ih =>
    show tb (orA G n ||| G n) j = true ↔ _
    rw [tb_or, Bool.or_eq_true, ih]
    constructor
    · rintro (⟨k, hk, h⟩ | h)
      · exact ⟨k, by omega, h⟩
      · exact ⟨n, by omega, h⟩
    · rintro ⟨k, hk, h⟩
      by_cases c : k = n
      · subst c; exact Or.inr h
      · exact Or.inl ⟨k, by omega, h⟩
theorem mkN_gth (D : Nat → Option Tx) {n : Nat} (hn : n ≤ 26) : nI (mkN D n) = gth (fun k => (D k).isSome) n := by
  induction n with
  | zero => rfl
  | succ n ih =>
    rw [← mk_s (by omega), ih (by omega)]; rfl
theorem ab_nI {c : Int32} (h : inB c 65 90 = true) : ∃ k : Nat, k < 26 ∧ c = nI (65 + k) ∧ c - 65 = nI k := by
  have h' := (ab_iff c).mp h
  obtain ⟨m, hm, rfl⟩ : ∃ m : Nat, m ≤ 90 ∧ c = nI m := by
    refine nI_of2 (n := 90) (M := 90) rfl ?_ ?_
    · intro q
      have := Int32.lt_iff_toInt_lt.mp q
      have e0 : (0 : Int32).toInt = 0 := rfl
      omega
    · rw [Int32.le_iff_toInt_le]; exact h'.2
  rw [nI_toInt (by omega)] at h'
  obtain ⟨k, rfl⟩ : ∃ k, m = 65 + k := ⟨m - 65, by omega⟩
  refine ⟨k, by omega, rfl, ?_⟩
  show nI (65 + k) - nI 65 = nI k
  rw [nI_sub _ _ (by omega)]; congr 1; omega
theorem tb_cld (t : Tx) {j : Nat} (h : 26 ≤ j) : tb (cld t) j = false := by
  have one_c : ∀ c : Int32, tb (cbit c) j = false := by
    intro c
    unfold cbit
    by_cases q : inB c 65 90 = true
    · rw [if_pos q]
      obtain ⟨k, hk, -, e⟩ := ab_nI q
      rw [e]
      show tb (one k) j = false
      rw [tb_one hk, decide_eq_false (by omega)]
    · rw [if_neg q]; exact tb_0 j
  have key : ∀ (t : Tx) (m : Int32), tb m j = false → tb (t.foldl (fun m c => m ||| cbit c) m) j = false := by
    intro t
    induction t with
    | nil => exact fun m h => h
    | cons c t ih => exact fun m h => ih _ (by rw [tb_or, h, one_c]; rfl)
  exact key t 0 (tb_0 j)
