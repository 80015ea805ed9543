/-! PURE: reading the buffer, in both worlds -/
theorem bn_go {α ρ : Type} {x : Option α} {a : α} {K : α → Option ρ} {r : Option ρ} (hx : x = some a) (h : K a = r) : bn x K = r := by rw [hx]; exact h
theorem bn2_go {α β ρ : Type} {x : Option (α × β)} {a : α} {b : β} {K : α → β → Option ρ} {r : Option ρ} (hx : x = some (a, b)) (h : K a b = r) : bn2 x K = r := by rw [hx]; exact h
theorem rd_go {ρ : Type} {f : Nat → Int32} {n k : Nat} {x v : Int32} {K : Int32 → Option ρ} {r : Option ρ} (hx : x = nI k) (hk : k < n) (hn : n < 2 ^ 31) (hv : f k = v) (h : K v = r) : rd f n x K = r := by
  rw [rd_lit hx hk hn, hv]; exact h
theorem wr_go {ρ : Type} {z : MS} {a n k : Nat} {x v : Int32} {K : MS → Option ρ} {r : Option ρ} (hx : x = nI k) (hk : k < n) (hn : n < 2 ^ 31) (h : K (up2 z a k v) = r) : wr z a n x v K = r := by
  rw [wr_lit hx hk hn]; exact h
theorem wb_go {ρ : Type} {b : BS} {a n k : Nat} {x v : Int32} {K : BS → Option ρ} {r : Option ρ} (hx : x = nI k) (hk : k < n) (hn : n < 2 ^ 31) (h : K (setI b a k v) = r) : wb b a n x v K = r := by
  rw [wb_lit hx hk hn]; exact h
theorem bz_go {ρ : Type} {v : Int32} {K r : Option ρ} (hv : v = 0 ∨ v = 1) (h : K = r) : bz v K = r := by unfold bz; rw [if_pos hv]; exact h
theorem ck_go {ρ : Type} {c : Bool} {K r : Option ρ} (hc : c = true) (h : K = r) : ck c K = r := by rw [ck_t hc]; exact h
theorem setI_52 (b : BS) (k : Nat) (v : Int32) (j : Nat) : (setI b 52 k v).1 52 j = if j = k then v else b.1 52 j := by
  show up2 b.1 52 k v 52 j = _
  rw [up2_at]; by_cases h : j = k <;> simp [h]
theorem setI_other (b : BS) {a k u : Nat} {v : Int32} (h : u ≠ a) : (setI b a k v).1 u = b.1 u := up2_ne _ h
theorem setI_own (b : BS) (a k : Nat) (v : Int32) : (setI b a k v).1 a = upd (b.1 a) k v := up2_same _ _ _ _
/-- the numbers of a reading -/
def RdS (b : BS) (n j : Nat) (s : List Nat) (ho ca mo ne sm : Nat) (cd : Int32) : Prop :=
  b.1 52 1 = nI s.length ∧ b.1 52 2 = nI n ∧ b.1 52 3 = nI j ∧ b.1 52 4 = nI ho ∧ b.1 52 5 = nI ca ∧ b.1 52 6 = nI mo ∧ b.1 52 7 = nI ne ∧ b.1 52 8 = nI sm ∧ b.1 52 9 = cd ∧ RS (b.1 53) s
theorem nI_maxl {a b : Nat} (ha : a < 2 ^ 31) (hb : b < 2 ^ 31) : (if nI a < nI b then nI b else nI a) = nI (max a b) := by
  by_cases h : a < b
  · rw [if_pos ((nI_ltI ha hb).mpr h)]; congr 1; omega
  · rw [if_neg (fun q => h ((nI_ltI ha hb).mp q))]; congr 1; omega
theorem RdS.same {b : BS} {n j : Nat} {s : List Nat} {ho ca mo ne sm : Nat} {cd : Int32} (h : RdS b n j s ho ca mo ne sm cd) : RdS b n j s ho ca mo ne sm cd := h
set_option maxHeartbeats 2000000 in
theorem accepts_ok {b : BS} {n j : Nat} {s s' : List Nat} {ho ca mo ne sm : Nat} {cd c before : Int32} {hd hd' : Bool} (h : RdS b n j s ho ca mo ne sm cd) (hb : hd = inB before 65 90) (e : stp c (s, hd) = some (s', hd')) (hlen : s.length ≤ 30) (hmo : mo ≤ 6) (hne : ne ≤ 100) :
    ∃ b2, F4_accepts b c before = some (b2, 1) ∧ SmB b b2 ∧ RdS b2 n j s' (ho + if c = 63 then 1 else 0) (ca + if inB c 65 90 = true then 1 else 0) (mst c (s, mo, ne)).2.1 (mst c (s, mo, ne)).2.2 (sm + if plB c = true then 1 else 0) (cd ||| cbit c) := by
  obtain ⟨g1, g2, g3, g4, g5, g6, g7, g8, g9, g10⟩ := id h
  have or0 : ∀ x : Int32, x ||| 0 = x := fun x => Int32.or_zero
  rcases stp_some e with ⟨h1, h2, h3, h4, h5, rfl, rfl⟩ | ⟨hp, h63, h2, h3, h4, h5, rfl, rfl⟩ | ⟨rfl, rfl, rfl, rfl⟩ | ⟨a, r, rfl, rfl, ha, rfl, rfl⟩ | ⟨a, rfl, rfl, rfl⟩
  · have em : mst c (s', mo, ne) = (s', mo, ne) := by unfold mst; rw [if_neg (by rw [h2]; decide), if_neg h3, if_neg h4, if_neg h5]
    have ec : cbit c = 0 := by unfold cbit; rw [if_neg (by rw [h2]; decide)]
    rw [em, ec, h2, or0]
    by_cases hp : plB c = true
    · have h63 := (pl_ne hp).1
      refine ⟨setI b 52 8 (nI (sm + 1)), ?_, SmB.up (by decide), ?_⟩
      · unfold F4_accepts
        rw [plB_iff] at hp
        by_cases h95 : c = 95
        · subst h95
          refine jp_go (jp_go (if_go (by decide) (if_no (by decide) (bd_go ?_))))
          rw [g8, nI_1, bz1]
        · have hr : 97 ≤ c.toInt ∧ c.toInt ≤ 122 := by rcases hp with q | q; exact q; exact absurd q h95
          refine jp_go (jp_go (if_no (Int32.not_lt.mpr (Int32.le_iff_toInt_le.mpr hr.1)) (if_go (Int32.le_iff_toInt_le.mpr hr.2) (bd_go ?_))))
          rw [g8, nI_1, bz1]
      · rw [if_neg h63, if_neg (by decide), if_pos hp]
        refine ⟨?_, ?_, ?_, ?_, ?_, ?_, ?_, ?_, ?_, ?_⟩
        · rw [setI_52, if_neg (by decide)]; exact g1
        · rw [setI_52, if_neg (by decide)]; exact g2
        · rw [setI_52, if_neg (by decide)]; exact g3
        · rw [setI_52, if_neg (by decide)]; exact g4
        · rw [setI_52, if_neg (by decide)]; exact g5
        · rw [setI_52, if_neg (by decide)]; exact g6
        · rw [setI_52, if_neg (by decide)]; exact g7
        · rw [setI_52, if_pos rfl]
        · rw [setI_52, if_neg (by decide)]; exact g9
        · rw [setI_other _ (by decide)]; exact g10
    · have h63 : c = 63 := by rcases h1 with q | q; exact absurd q hp; exact q
      subst h63
      refine ⟨setI b 52 4 (nI (ho + 1)), ?_, SmB.up (by decide), ?_⟩
      · unfold F4_accepts
        refine jp_go (jp_go (if_go (by decide) (if_go (by decide) (if_no (by decide) (bd_go ?_)))))
        rw [g4, nI_1, bz1]
      · rw [if_pos rfl, if_neg (by decide), if_neg (by decide)]
        refine ⟨?_, ?_, ?_, ?_, ?_, ?_, ?_, ?_, ?_, ?_⟩
        · rw [setI_52, if_neg (by decide)]; exact g1
        · rw [setI_52, if_neg (by decide)]; exact g2
        · rw [setI_52, if_neg (by decide)]; exact g3
        · rw [setI_52, if_pos rfl]
        · rw [setI_52, if_neg (by decide)]; exact g5
        · rw [setI_52, if_neg (by decide)]; exact g6
        · rw [setI_52, if_neg (by decide)]; exact g7
        · rw [setI_52, if_neg (by decide)]; exact g8
        · rw [setI_52, if_neg (by decide)]; exact g9
        · rw [setI_other _ (by decide)]; exact g10
  · have em : mst c (s', mo, ne) = (s', mo, max ne (s'.length + 1)) := by unfold mst; rw [if_pos h2]
    have ec : cbit c = (1 : Int32) <<< ((c - 65) &&& 31) := by unfold cbit; rw [if_pos h2]
    rw [em, ec, h2, hp, if_neg h63, if_pos rfl, if_neg (by decide)]
    refine ⟨setI (setI (setI b 52 5 (nI (ca + 1))) 52 9 (cd ||| (1 : Int32) <<< ((c - 65) &&& 31))) 52 7 (nI (max ne (s'.length + 1))), ?_, ((SmB.up (by decide)).tr (SmB.up (by decide))).tr (SmB.up (by decide)), ?_⟩
    · unfold F4_accepts
      have hr := (ab_iff c).mp h2
      refine jp_go (jp_go (if_go (Int32.lt_iff_toInt_lt.mpr (by show c.toInt < 97; omega)) (if_go (by rintro rfl; exact absurd h2 (by decide)) (if_go h63 (bn_go (F7_isAbbreviation_eq c) (if_no (by rw [h2]; decide) (bn_go (a := setI (setI (setI b 52 5 (nI (ca + 1))) 52 9 (cd ||| (1 : Int32) <<< ((c - 65) &&& 31))) 52 7 (nI (max ne (s'.length + 1)))) ?_ ?_)))))))
      · unfold F4_noteCall
        refine bd_go (bd_go (bd_go ?_))
        rw [g5, nI_1]
        have q1 : (setI b 52 5 (nI (ca + 1))).1 52 9 = cd := by rw [setI_52, if_neg (by decide)]; exact g9
        rw [q1]
        have q2 : ∀ v, (setI (setI b 52 5 (nI (ca + 1))) 52 9 v).1 52 7 = nI ne := fun v => by rw [setI_52, if_neg (by decide), setI_52, if_neg (by decide)]; exact g7
        have q3 : ∀ v, (setI (setI b 52 5 (nI (ca + 1))) 52 9 v).1 52 1 = nI s'.length := fun v => by rw [setI_52, if_neg (by decide), setI_52, if_neg (by decide)]; exact g1
        rw [q2, q3, nI_1, nI_maxl (by omega) (by omega)]
      · exact bz1
    · refine ⟨?_, ?_, ?_, ?_, ?_, ?_, ?_, ?_, ?_, ?_⟩
      · rw [setI_52, if_neg (by decide), setI_52, if_neg (by decide), setI_52, if_neg (by decide)]; exact g1
      · rw [setI_52, if_neg (by decide), setI_52, if_neg (by decide), setI_52, if_neg (by decide)]; exact g2
      · rw [setI_52, if_neg (by decide), setI_52, if_neg (by decide), setI_52, if_neg (by decide)]; exact g3
      · rw [setI_52, if_neg (by decide), setI_52, if_neg (by decide), setI_52, if_neg (by decide)]; exact g4
      · rw [setI_52, if_neg (by decide), setI_52, if_neg (by decide), setI_52, if_pos rfl]
      · rw [setI_52, if_neg (by decide), setI_52, if_neg (by decide), setI_52, if_neg (by decide)]; exact g6
      · rw [setI_52, if_pos rfl]
      · rw [setI_52, if_neg (by decide), setI_52, if_neg (by decide), setI_52, if_neg (by decide)]; exact g8
      · rw [setI_52, if_neg (by decide), setI_52, if_pos rfl]
      · rw [setI_other _ (by decide), setI_other _ (by decide), setI_other _ (by decide)]; exact g10
  · have em : mst 40 (s, mo, ne) = (1 :: s, max mo 1, ne) := rfl
    have ec : cbit 40 = 0 := rfl
    rw [em, ec, or0, if_neg (by decide), if_neg (by decide), if_neg (by decide)]
    refine ⟨setI (setI (setI b 53 s.length 1) 52 6 (nI (max mo 1))) 52 1 (nI (s.length + 1)), ?_, ((SmB.up (by decide)).tr (SmB.up (by decide))).tr (SmB.up (by decide)), ?_⟩
    · unfold F4_accepts
      refine jp_go (jp_go (if_go (by decide) (if_go (by decide) (if_go (by decide) (bn_go (F7_isAbbreviation_eq 40) (if_go (by decide) (if_no (by decide) (bn_go (F7_isAbbreviation_eq before) (jp_go (jp_go (if_no (by rw [← hb]; decide) (bn2_go (a := setI (setI (setI b 53 s.length 1) 52 6 (nI (max mo 1))) 52 1 (nI (s.length + 1))) (b := 1) ?_ (if_no (by decide) ?_)))))))))))))
      · unfold F4_opensCall
        refine jp_go (if_no (by rw [g1]; exact nI_pos (by omega)) (if_go (by rw [g1]; exact nI_lt (by omega) (by decide)) (wb_go g1 (by omega) (by decide) (bd_go (bd_go ?_)))))
        have q1 : (setI b 53 s.length 1).1 52 6 = nI mo := by rw [setI_other _ (by decide)]; exact g6
        have q2 : ∀ v, (setI (setI b 53 s.length 1) 52 6 v).1 52 1 = nI s.length := fun v => by rw [setI_52, if_neg (by decide), setI_other _ (by decide)]; exact g1
        rw [q1, q2, nI_1, show (if nI mo < 1 then (1 : Int32) else nI mo) = nI (max mo 1) from nI_maxl (b := 1) (by omega) (by decide), bz1]
      · exact bz1
    · refine ⟨?_, ?_, ?_, ?_, ?_, ?_, ?_, ?_, ?_, ?_⟩
      · rw [setI_52, if_pos rfl, List.length_cons]
      · rw [setI_52, if_neg (by decide), setI_52, if_neg (by decide), setI_other _ (by decide)]; exact g2
      · rw [setI_52, if_neg (by decide), setI_52, if_neg (by decide), setI_other _ (by decide)]; exact g3
      · rw [setI_52, if_neg (by decide), setI_52, if_neg (by decide), setI_other _ (by decide)]; exact g4
      · rw [setI_52, if_neg (by decide), setI_52, if_neg (by decide), setI_other _ (by decide)]; exact g5
      · rw [setI_52, if_neg (by decide), setI_52, if_pos rfl]
      · rw [setI_52, if_neg (by decide), setI_52, if_neg (by decide), setI_other _ (by decide)]; exact g7
      · rw [setI_52, if_neg (by decide), setI_52, if_neg (by decide), setI_other _ (by decide)]; exact g8
      · rw [setI_52, if_neg (by decide), setI_52, if_neg (by decide), setI_other _ (by decide)]; exact g9
      · rw [setI_other _ (by decide), setI_other _ (by decide), setI_own]
        exact ⟨by unfold upd; rw [if_pos rfl]; rfl, g10.upd (Nat.le_refl _)⟩
  · have hl : r.length < 60 := by rw [List.length_cons] at hlen; omega
    have em : mst 44 (a :: r, mo, ne) = ((a + 1) :: r, max mo (a + 1), ne) := rfl
    have ec : cbit 44 = 0 := rfl
    rw [em, ec, or0, if_neg (by decide), if_neg (by decide), if_neg (by decide)]
    rw [List.length_cons] at g1
    refine ⟨setI (setI b 53 r.length (nI (a + 1))) 52 6 (nI (max mo (a + 1))), ?_, (SmB.up (by decide)).tr (SmB.up (by decide)), ?_⟩
    · unfold F4_accepts
      refine jp_go (jp_go (if_go (by decide) (if_go (by decide) (if_go (by decide) (bn_go (F7_isAbbreviation_eq 44) (if_go (by decide) (if_go (by decide) (if_no (by decide) (bn2_go (a := setI (setI b 53 r.length (nI (a + 1))) 52 6 (nI (max mo (a + 1)))) (b := 1) ?_ bz1)))))))))
      unfold F4_addsArgument
      refine bd_go (jp_go ?_)
      rw [g1, nI_pred]
      refine if_no (nI_pos (by omega)) (if_go (nI_lt (by omega) (by decide)) (rd_go rfl hl (by decide) g10.1 (if_go (nI_lt (b := 6) (by omega) (by decide)) (rd_go rfl hl (by decide) g10.1 (wb_go rfl hl (by decide) (rd_go rfl hl (by decide) (v := nI (a + 1)) ?_ (bd_go ?_)))))))
      · rw [setI_own, nI_1]; unfold upd; rw [if_pos rfl]
      · have q1 : ∀ v, (setI b 53 r.length v).1 52 6 = nI mo := fun v => by rw [setI_other _ (by decide)]; exact g6
        rw [q1, nI_maxl (by omega) (by omega), nI_1, bz1]
    · refine ⟨?_, ?_, ?_, ?_, ?_, ?_, ?_, ?_, ?_, ?_⟩
      · rw [setI_52, if_neg (by decide), setI_other _ (by decide), List.length_cons]; exact g1
      · rw [setI_52, if_neg (by decide), setI_other _ (by decide)]; exact g2
      · rw [setI_52, if_neg (by decide), setI_other _ (by decide)]; exact g3
      · rw [setI_52, if_neg (by decide), setI_other _ (by decide)]; exact g4
      · rw [setI_52, if_neg (by decide), setI_other _ (by decide)]; exact g5
      · rw [setI_52, if_pos rfl]
      · rw [setI_52, if_neg (by decide), setI_other _ (by decide)]; exact g7
      · rw [setI_52, if_neg (by decide), setI_other _ (by decide)]; exact g8
      · rw [setI_52, if_neg (by decide), setI_other _ (by decide)]; exact g9
      · rw [setI_other _ (by decide), setI_own]
        exact ⟨by unfold upd; rw [if_pos rfl], g10.2.upd (Nat.le_refl _)⟩
  · have em : mst 41 (a :: s', mo, ne) = (s', mo, ne) := rfl
    have ec : cbit 41 = 0 := rfl
    rw [em, ec, or0, if_neg (by decide), if_neg (by decide), if_neg (by decide)]
    rw [List.length_cons] at g1 hlen
    refine ⟨setI b 52 1 (nI s'.length), ?_, SmB.up (by decide), ?_⟩
    · unfold F4_accepts
      refine jp_go (jp_go (if_go (by decide) (if_go (by decide) (if_go (by decide) (bn_go (F7_isAbbreviation_eq 41) (if_go (by decide) (if_go (by decide) (if_go (by decide) (jp_go (jp_go (if_no (by decide) (bn2_go (a := setI b 52 1 (nI s'.length)) (b := 1) ?_ (if_no (by decide) bz1)))))))))))))
      unfold F4_closesCall
      refine if_go (by rw [g1]; exact nI_lt (a := 0) (by omega) (by omega)) (bd_go ?_)
      rw [g1, nI_pred, bz1]
    · refine ⟨?_, ?_, ?_, ?_, ?_, ?_, ?_, ?_, ?_, ?_⟩
      · rw [setI_52, if_pos rfl]
      · rw [setI_52, if_neg (by decide)]; exact g2
      · rw [setI_52, if_neg (by decide)]; exact g3
      · rw [setI_52, if_neg (by decide)]; exact g4
      · rw [setI_52, if_neg (by decide)]; exact g5
      · rw [setI_52, if_neg (by decide)]; exact g6
      · rw [setI_52, if_neg (by decide)]; exact g7
      · rw [setI_52, if_neg (by decide)]; exact g8
      · rw [setI_52, if_neg (by decide)]; exact g9
      · rw [setI_other _ (by decide)]; exact g10.2
