/-! PURE: the reference's measuring is the ideal one: a call -/
def srcO : List Nat → Nat
  | [] => 26
  | k :: _ => k
def FL (R : Tx × Gl) (o : Nat) : Prop := R.2.2.2.2 = true ∨ 200 < o + R.1.length
def MT (a : AS) (L n : Nat) : Prop := ∀ (O : List Nat) (fill : Nat → Tx) (u : Tx) (z : MS) (c0 o0 : Nat) (G : Gl),
  ZS (z 0) a → OpZ z O → SrcZ z (srcO O) u → z 10 O.length = nI (srcO O) → (O ≠ [] ∨ z 43 17 = -1) → O.length + n = 14 → O.length ≤ L → Cpl u → FillZ z O fill u → z 43 18 = nI O.length → z 43 22 = nI c0 → z 43 24 = 0 → GZ z G → G.2.2.2 = false → z 11 O.length = 0 → z 12 O.length = 0 → z 23 c0 = nI o0 → o0 ≤ 200 → c0 ≤ 30 * O.length →
  (FL (evF a.1 L n O fill u G) o0 → ∃ z', Loop mB z = some (z', 0) ∧ Sm1 z z') ∧
  (¬ FL (evF a.1 L n O fill u G) o0 → ∃ z', Loop mB z = Loop mB z' ∧ Sm1 z z' ∧ LoM z z' O.length (O.length + 1) c0 ∧ z' 43 18 = nI O.length ∧ z' 43 22 = nI c0 ∧ z' 43 24 = 0 ∧ GZ z' (evF a.1 L n O fill u G).2 ∧ z' 11 O.length = nI u.length ∧ z' 23 c0 = nI (o0 + (evF a.1 L n O fill u G).1.length))
set_option maxHeartbeats 1000000 in
theorem call_ok {a : AS} {L n : Nat} (hMT : MT a L n) (hW : WA a) (hL : a.2.2.1 = nI L) (hL12 : L ≤ 12) {z : MS} {O : List Nat} {k c o : Nat} {as : List Tx} {G : Gl} (hZ : ZS (z 0) a) (hOp : OpZ z O) (h18 : z 43 18 = nI O.length) (h22 : z 43 22 = nI c) (h24 : z 43 24 = 0) (hG : GZ z G) (hbad : G.2.2.2 = false) (ho : z 23 c = nI o) (ho2 : o ≤ 200) (hc : c ≤ 30 * O.length + 30) (hk : k < 26) (has : as.length ≤ 6) (hsm : Sml as) (hsz : ∀ j, j < as.length → z 21 (6 * c + j) = nI (as.getD j []).length) (hOL : O.length ≤ L) (hOn : O.length + n = 13) (hun : O ≠ [] ∨ z 43 17 = -1) :
    ∃ z2, F8_goesOn z (nI k) (nI as.length) = some z2 ∧ (FL (resF (evF a.1 L n) a.1 L O k as G) o → ∃ z', Loop mB z2 = some (z', 0) ∧ Sm1 z z') ∧
      (¬ FL (resF (evF a.1 L n) a.1 L O k as G) o → ∃ z', Loop mB z2 = Loop mB z' ∧ Sm1 z z' ∧ LoM z z' (O.length + 1) (O.length + 1) c ∧ z' 43 18 = nI O.length ∧ z' 43 22 = nI c ∧ z' 43 24 = 0 ∧ GZ z' (nte (resF (evF a.1 L n) a.1 L O k as G).2 (cnt6 k (edg a.1 L O k) O as (resF (evF a.1 L n) a.1 L O k as G).1.length)) ∧ z' 23 c = nI (o + (resF (evF a.1 L n) a.1 L O k as G).1.length)) := by
  by_cases ed : edg a.1 L O k = 0
  · obtain ⟨⟨t, et⟩, hkO, hOL2⟩ := edg_0 ed
    have hres : resF (evF a.1 L n) a.1 L O k as G = evF a.1 L n (k :: O) (fun i => as.getD i []) t (bodyG G O) := by
      unfold resF; rw [if_pos ed, et]; rfl
    rw [hres]
    obtain ⟨z2, e2, r1, r2, r16, a10, a11, a12, a15, a13, a14, b16, a18, a25, a26, a24, ak⟩ := goK_yes (k := k) h18 (by omega) h22 (by omega) h24 hG ho has hsz
    have eg := goesOn_go hZ hW hL hOL hL12 hOp h18 h22 (by omega) hk has hsm hsz (by rw [ed]; exact e2)
    have s2 : Sm1 z z2 := ⟨fun u q1 q2 => r1 u (by omega) q2, fun j hj => ak j (by omega) (by omega) (by omega) (by omega)⟩
    have l2 : LoM z z2 (O.length + 1) (O.length + 1) c := ⟨fun j hj => ⟨r2 11 j (by decide) (by decide) (by omega), r2 12 j (by decide) (by decide) (by omega)⟩, fun j hj => ⟨r2 10 j (by decide) (by decide) (by omega), r2 13 j (by decide) (by decide) (by omega), r2 14 j (by decide) (by decide) (by omega), r2 15 j (by decide) (by decide) (by omega)⟩, r16, fun i hi => ⟨by rw [r1 19 (by decide) (by decide)], by rw [r1 20 (by decide) (by decide)], by rw [r1 23 (by decide) (by decide)]⟩, fun i hi => by rw [r1 21 (by decide) (by decide)]⟩
    refine ⟨z2, eg, ?_⟩
    obtain ⟨g1, g2, g3, g4, g5, g6, g7, g8⟩ := id hG
    by_cases h60 : 60 < G.1 + 1
    · have hb : (evF a.1 L n (k :: O) (fun i => as.getD i []) t (bodyG G O)).2.2.2.2 = true := evF_bad a.1 L n _ _ _ _ (by show (G.2.2.2 || decide (60 ≤ G.1)) = true; rw [hbad, decide_eq_true (by omega)]; rfl)
      rw [decide_eq_true h60] at a24
      exact ⟨fun _ => ⟨z2, mB_fail a24, s2⟩, fun q => absurd (Or.inl hb) q⟩
    · rw [decide_eq_false h60] at a24
      have G2 : GZ z2 (bodyG G O) := by
        refine ⟨a25, a26, ?_, ?_, g5, g6, ?_, ?_⟩
        · rw [ak 28 (by decide) (by decide) (by decide) (by decide)]; exact g3
        · rw [r1 27 (by decide) (by decide)]; exact g4
        · show G.1 + 1 ≤ 60; omega
        · show max G.2.1 (O.length + 1) ≤ 13; omega
      have hZ2 : ZS (z2 0) a := by rw [r1 0 (by decide) (by decide)]; exact hZ
      have hs2 : SrcZ z2 k t := hZ2.src hW hk et
      have ht := hW.1 k t et
      obtain ⟨m1, m2⟩ := hMT (k :: O) (fun i => as.getD i []) t z2 c o (bodyG G O) hZ2 ⟨a10, hk, hOp.keep (fun j hj => r2 10 j (by decide) (by decide) (by omega))⟩ hs2 a10 (Or.inl (by simp)) (by rw [List.length_cons]; omega) (by rw [List.length_cons]; omega) ht.1
        (Or.inr (Or.inr ⟨by simp, by
          rw [List.length_cons, s2.2 17 (by omega)]
          rcases hun with q | q
          · left
            cases O with
            | nil => exact absurd rfl q
            | cons x r => rw [List.length_cons]; omega
          · exact Or.inr q, as, rfl, has, a13, hsm, b16⟩)) a18 (by rw [ak 22 (by decide) (by decide) (by decide) (by decide)]; exact h22) a24 G2 (by show (G.2.2.2 || decide (60 ≤ G.1)) = false; rw [hbad, decide_eq_false (by omega)]; rfl) a11 a12 (by rw [r1 23 (by decide) (by decide)]; exact ho) ho2 (by rw [List.length_cons]; omega)
      refine ⟨fun q => ?_, fun q => ?_⟩
      · obtain ⟨z', p1, p2⟩ := m1 q
        exact ⟨z', p1, s2.tr p2⟩
      · obtain ⟨z3, p1, p2, p3, p4, p5, p6, p7, p8, p9⟩ := m2 q
        rw [List.length_cons] at p3 p4 p8
        obtain ⟨R, hR⟩ : ∃ R, R = evF a.1 L n (k :: O) (fun i => as.getD i []) t (bodyG G O) := ⟨_, rfl⟩
        rw [← hR] at p7 p9 ⊢
        have q4 := p3.2.1 (O.length + 1) (by omega)
        obtain ⟨z4, e4, G4, r4, k4⟩ := notes_ok p7 (nI k) 0 (nI O.length) (nI as.length) (nI R.1.length) (nI (smA as))
        have cl := mB_close (l := O.length) (i := t.length) (p := k) (u := t) (c := c) (by omega) p6 p4 (q4.1.trans a10) p8 (hs2.sm1 p2) (Nat.le_refl _) (by omega) p5 (by omega) (q4.2.1.trans a13) (q4.2.2.1.trans a14) (q4.2.2.2.trans a15) p9 (by rw [nI_add_sub rfl]; exact e4) (by rw [k4 18 (by decide)]; exact p4)
        refine ⟨up2 z4 43 18 (nI O.length), p1.trans cl, ((s2.tr p2).tr ⟨fun u v1 v2 => r4 u (by omega) v2, fun j hj => k4 j (by omega)⟩).tr (Sm1.up (Or.inr ⟨rfl, by decide, by decide⟩)), ?_, ?_, ?_, ?_, ?_, ?_⟩
        · refine ((l2.tr (p3.le (by omega) (by omega) (Nat.le_refl _))).tr ?_).tr (LoM.up (by omega) (by omega) (by omega) (by omega) (by omega))
          refine ⟨fun j hj => ⟨?_, ?_⟩, fun j hj => ⟨?_, ?_, ?_, ?_⟩, fun i hi => ?_, fun i hi => ⟨?_, ?_, ?_⟩, fun i hi => ?_⟩ <;> rw [r4 _ (by decide) (by decide)]
        · rw [up2_at, if_pos ⟨rfl, rfl⟩]
        · rw [up2_at, if_neg (by decide), k4 22 (by decide)]; exact p5
        · rw [up2_at, if_neg (by decide), k4 24 (by decide)]; exact p6
        · rw [ed]
          exact G4.up (by decide) (Or.inr (by decide))
        · rw [up2_ne _ (by decide), r4 23 (by decide) (by decide)]; exact p9
  · have hres : resF (evF a.1 L n) a.1 L O k as G = ([sgn (edg a.1 L O k)], G) := by unfold resF; rw [if_neg ed]
    rw [hres]
    obtain ⟨z2, e2, s2, l2, G2, k18, k22, k24, k23⟩ := goK_no (k := k) (as := as) h18 h22 (by omega) h24 hG ho ho2 (edg_3 a.1 L O k ed)
    have eg := goesOn_go hZ hW hL hOL hL12 hOp h18 h22 (by omega) hk has hsm hsz e2
    refine ⟨z2, eg, fun q => ?_, fun q => ?_⟩
    · have : 200 < o + 1 := by
        rcases q with q | q
        · rw [show (([sgn (edg a.1 L O k)], G) : Tx × Gl).2.2.2.2 = G.2.2.2 from rfl, hbad] at q; cases q
        · exact q
      rw [decide_eq_true this] at k24
      exact ⟨z2, mB_fail k24, s2⟩
    · have : ¬ 200 < o + 1 := fun p => q (Or.inr p)
      rw [decide_eq_false this] at k24
      exact ⟨z2, rfl, s2, l2, k18, k22, k24, G2, k23⟩
