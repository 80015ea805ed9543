/-! PURE: what the reference's expansion rests on -/
theorem begins_ok (z : MS) (x : Int32) : ∃ z', F8_begins z x = some z' ∧ (∀ u, u ≠ 10 → u ≠ 11 → u ≠ 12 → u ≠ 23 → u ≠ 43 → z' u = z u) ∧ z' 10 0 = x ∧ z' 11 0 = 0 ∧ z' 12 0 = 0 ∧ z' 23 0 = 0 ∧ z' 43 18 = 0 ∧ z' 43 22 = 0 ∧ z' 43 24 = 0 ∧ z' 43 25 = 0 ∧ z' 43 26 = 0 ∧ z' 43 28 = 0 ∧ z' 43 17 = -1 ∧ ∀ k, k < 17 → z' 43 k = z 43 k := by
  refine ⟨up2 (up2 (up2 (up2 (up2 (up2 (up2 (up2 (up2 (up2 (up2 z 43 18 0) 10 0 x) 11 0 0) 12 0 0) 43 22 0) 23 0 0) 43 24 0) 43 25 0) 43 26 0) 43 28 0) 43 17 (-1), ?_, fun u q1 q2 q3 q4 q5 => ?_, ?_, ?_, ?_, ?_, ?_, ?_, ?_, ?_, ?_, ?_, ?_, fun k hk => ?_⟩
  · unfold F8_begins
    exact bd_go <| wr_go (k := 0) rfl (by decide) (by decide) <| wr_go (k := 0) rfl (by decide) (by decide) <| wr_go (k := 0) rfl (by decide) (by decide) <| bd_go <| wr_go (k := 0) rfl (by decide) (by decide) <| bz_go (Or.inl rfl) <| bd_go <| bd_go <| bd_go <| bd_go <| bd_go rfl
  · repeat rw [up2_ne _ (by omega)]
  · repeat rw [up2_at, if_neg (by decide)]
    rw [up2_at, if_pos ⟨rfl, rfl⟩]
  · repeat rw [up2_at, if_neg (by decide)]
    rw [up2_at, if_pos ⟨rfl, rfl⟩]
  · repeat rw [up2_at, if_neg (by decide)]
    rw [up2_at, if_pos ⟨rfl, rfl⟩]
  · repeat rw [up2_at, if_neg (by decide)]
    rw [up2_at, if_pos ⟨rfl, rfl⟩]
  · repeat rw [up2_at, if_neg (by decide)]
    rw [up2_at, if_pos ⟨rfl, rfl⟩]
  · repeat rw [up2_at, if_neg (by decide)]
    rw [up2_at, if_pos ⟨rfl, rfl⟩]
  · repeat rw [up2_at, if_neg (by decide)]
    rw [up2_at, if_pos ⟨rfl, rfl⟩]
  · repeat rw [up2_at, if_neg (by decide)]
    rw [up2_at, if_pos ⟨rfl, rfl⟩]
  · repeat rw [up2_at, if_neg (by decide)]
    rw [up2_at, if_pos ⟨rfl, rfl⟩]
  · repeat rw [up2_at, if_neg (by decide)]
    rw [up2_at, if_pos ⟨rfl, rfl⟩]
  · rw [up2_at, if_pos ⟨rfl, rfl⟩]
  · repeat rw [up2_at, if_neg (by omega)]
theorem runF_len {call : Nat → List Tx → Tx → Gl → Tx × Gl} (hc : ∀ k as own G, G.2.2.2 = true → (call k as own G).2.2.2.2 = true) (hl : ∀ k as own G, (call k as own G).2.2.2.2 = false → (call k as own G).1.length ≤ 200) {fill : Nat → Tx} (n : Nat) (u : Tx) (hn : u.length ≤ n) (s : Lc × Gl) (hb : (runF call fill u s).2.2.2.2 = false) (ho : s.1.1.length ≤ 200) : (runF call fill u s).1.1.length ≤ 200 := by
  induction n generalizing u s with
  | zero =>
    cases u with
    | nil => exact ho
    | cons c r => rw [List.length_cons] at hn; omega
  | succ n ih =>
    cases u with
    | nil => exact ho
    | cons c r =>
      rw [List.length_cons] at hn
      by_cases q : inB c 65 90 = true ∧ r.head? = some 40
      · cases r with
        | nil => cases q.2
        | cons e r =>
          obtain ⟨q1, q2⟩ := q
          cases q2
          rw [List.length_cons] at hn
          rw [runF_psh q1] at hb ⊢
          exact ih r (by omega) _ hb (Nat.zero_le _)
      · rw [runF_one q] at hb ⊢
        have hs : (oneF call fill c s).2.2.2.2 = false := by
          cases e : (oneF call fill c s).2.2.2.2 with
          | false => rfl
          | true => rw [runF_bad hc r.length r (Nat.le_refl _) _ e] at hb; cases hb
        refine ih r (by omega) _ hb ?_
        revert hs
        unfold oneF
        by_cases h1 : c = 63
        · rw [if_pos h1]; intro hs
          exact ovr_f (Bool.or_eq_false_iff.mp hs).2
        · rw [if_neg h1]
          by_cases h2 : inB c 65 90 = true
          · rw [if_pos h2]; intro hs; exact hl _ _ _ _ hs
          · rw [if_neg h2]
            by_cases h3 : c = 44
            · rw [if_pos h3]
              cases s.1.2.1 with
              | nil => intro _; exact ho
              | cons f r => intro _; exact Nat.zero_le _
            · rw [if_neg h3]
              by_cases h4 : c = 41
              · rw [if_pos h4]
                cases s.1.2.1 with
                | nil => intro _; exact ho
                | cons f r => intro hs; exact hl _ _ _ _ hs
              · rw [if_neg h4]; intro hs
                exact ovr_f (Bool.or_eq_false_iff.mp hs).2
theorem evF_len {D : Nat → Option Tx} {L n : Nat} {O : List Nat} {fill : Nat → Tx} {u : Tx} {G : Gl} (h : (evF D L n O fill u G).2.2.2.2 = false) : (evF D L n O fill u G).1.length ≤ 200 := by
  cases n with
  | zero => exact Nat.zero_le _
  | succ n =>
    rw [evF_succ] at h ⊢
    refine runF_len (evF_call_bad D L n O) (fun k as own G q => ?_) u.length u (Nat.le_refl _) _ h (Nat.zero_le _)
    rw [callF_bad] at q
    exact ovr_f (Bool.or_eq_false_iff.mp q).2
theorem spells_ok {z : MS} {a : AS} {t : Tx} {L : Nat} (hW : WA a) (hL : a.2.2.1 = nI L) (hL12 : L ≤ 12) (hZ : DZ z a) (hs : SrcZ z 26 t) (hC : Cpl t) (h60 : (evF a.1 L 14 [] (fun _ => [63]) t G00).2.1 ≤ 60) (h200 : (evF a.1 L 14 [] (fun _ => [63]) t G00).1.length ≤ 200) :
    ∃ z', F8_spells z = some z' ∧ Sp z z' ∧ z' 43 39 = nI (evF a.1 L 14 [] (fun _ => [63]) t G00).1.length ∧ hold (fun j => z' 0 (1588 + j)) (evF a.1 L 14 [] (fun _ => [63]) t G00).1 := by
  obtain ⟨z3, hz3⟩ : ∃ q, q = up2 (up2 (up2 z 43 39 0) 43 38 0) 43 32 (-1) := ⟨_, rfl⟩
  have s3 : Sp z z3 := by
    rw [hz3]
    exact ((Sp.up (Or.inr (Or.inl ⟨rfl, by decide⟩))).tr (Sp.up (Or.inr (Or.inl ⟨rfl, by decide⟩)))).tr (Sp.up (Or.inr (Or.inl ⟨rfl, by decide⟩)))
  have z332 : z3 43 32 + 1 = nI 0 := by rw [hz3, up2_at, if_pos ⟨rfl, rfl⟩]; rfl
  have he := enters_ok (e := 0) z332 (by decide) 26 0 (-1)
  obtain ⟨z4, hz4⟩ : ∃ q, q = up2 (up2 (up2 (up2 z3 43 32 (nI 0)) 29 0 26) 30 0 0) 31 0 (-1) := ⟨_, rfl⟩
  rw [← hz4] at he
  have s4 : Sp z z4 := s3.tr (by
    rw [hz4]
    exact (((Sp.up (Or.inr (Or.inl ⟨rfl, by decide⟩))).tr (Sp.up (Or.inl (by decide)))).tr (Sp.up (Or.inl (by decide)))).tr (Sp.up (Or.inl (by decide))))
  have hpop := SP_all hW hL hL12 13 [] (fun _ => [63]) (fun _ => 0) t t.length t [] 0 false z4 0 0 0 (-1) (Nat.le_refl _) rfl (Nat.zero_le _) (hZ.sp hW s4) (hs.sp s4) (by rw [List.append_nil]; rfl) (Or.inl rfl) (Nat.zero_le _) (PrsOK.start hC) rfl rfl
    (by rw [hz4, up2_ne _ (by decide), up2_ne _ (by decide), up2_ne _ (by decide), up2_at, if_pos ⟨rfl, rfl⟩])
    (by rw [hz4, up2_ne _ (by decide), up2_ne _ (by decide), up2_ne _ (by decide), up2_at, if_neg (by decide), hz3, up2_at, if_neg (by decide), up2_at, if_pos ⟨rfl, rfl⟩]; rfl)
    (by rw [hz4, up2_ne _ (by decide), up2_ne _ (by decide), up2_ne _ (by decide), up2_at, if_neg (by decide), hz3, up2_at, if_neg (by decide), up2_at, if_neg (by decide), up2_at, if_pos ⟨rfl, rfl⟩]; rfl)
    (by rw [hz4, up2_ne _ (by decide), up2_ne _ (by decide), up2_at, if_pos ⟨rfl, rfl⟩]; rfl)
    (by rw [hz4, up2_ne _ (by decide), up2_at, if_pos ⟨rfl, rfl⟩]; rfl)
    (by rw [hz4, up2_at, if_pos ⟨rfl, rfl⟩])
    (by
      rw [sm_0]
      show 0 + ((evF a.1 L 14 [] (fun _ => [63]) t G00).2.1 + 0) ≤ 60
      omega)
    (by
      show 0 + (evF a.1 L 14 [] (fun _ => [63]) t G00).1.length ≤ 200
      omega) (Nat.le_refl _)
  obtain ⟨z', B', g1, g2, g3, g4, g5, g6, g7, g8, g9, g10, g11⟩ := hpop
  refine ⟨z', ?_, s4.tr g2, ?_, ?_⟩
  · have hlast : Loop sB z' = some z' := Loop_inr (if_go (by rw [g3]; decide) rfl)
    unfold F8_spells
    refine bd_go <| bd_go <| bd_go ?_
    rw [← hz3]
    exact bn_go he (g1.trans hlast)
  · rw [g7, Nat.zero_add]; rfl
  · exact g9
