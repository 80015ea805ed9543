/-! PURE: body -/
theorem bx_in {α τ ρ : Type} {x : Option (α × (Nat ⊕ τ))} {b : α} {v : τ} {T : α → Nat → Option ρ} {K : α → τ → Option ρ} {r : Option ρ} (hx : x = some (b, .inr v)) (h : K b v = r) : bx x T K = r := by rw [hx]; exact h
theorem bx_out {α τ ρ : Type} {x : Option (α × (Nat ⊕ τ))} {b : α} {k : Nat} {T : α → Nat → Option ρ} {K : α → τ → Option ρ} {r : Option ρ} (hx : x = some (b, .inl k)) (h : T b k = r) : bx x T K = r := by rw [hx]; exact h
theorem on_no {ρ : Type} {o : Option Nat} {A : Option ρ} {B : Nat → Option ρ} {r : Option ρ} (ho : o = none) (h : A = r) : on o A B = r := by rw [ho]; exact h
theorem on_so {ρ : Type} {o : Option Nat} {t : Nat} {A : Option ρ} {B : Nat → Option ρ} {r : Option ρ} (ho : o = some t) (h : B t = r) : on o A B = r := by rw [ho]; exact h
theorem i5 (x : Int32) (h : inB x 0 5 = true) : x = 0 ∨ x = 1 ∨ x = 2 ∨ x = 3 ∨ x = 4 ∨ x = 5 := by
  obtain ⟨k, hk, rfl⟩ := inB_nI (n := 5) rfl h
  rcases (show k = 0 ∨ k = 1 ∨ k = 2 ∨ k = 3 ∨ k = 4 ∨ k = 5 by omega) with rfl | rfl | rfl | rfl | rfl | rfl <;> decide
theorem ZS.rfs {z : MS} {a : AS} (h : ZS (z 0) a) (w : Int32) : ZS (rfs z w 0) a := by rw [rfs_a _ _ (by decide)]; exact h
theorem S_body {z : MS} {b : BS} (h : Inv z b) (x y : Int32) : okT Inv (F7_body b x y) (F8_body z x y) [1, 2] := by
  obtain ⟨t0, a, p, s, hB, hW, hZ, hS, -⟩ := id h
  by_cases hx : inB x 0 25 = true
  · by_cases hy : inB y 0 5 = true
    · obtain ⟨k, hk, rfl⟩ := letter_nI hx
      have hZr : ZS (rfs z 0 0) a := hZ.rfs 0
      have hdf := F8_isDefined_eq hZr hk (fun t e => (hW.1 k t e).2)
      have hdo := F5_definitionOf_eq hS.1 hk
      have hD := hS.2.1 k hk
      have pre : ∀ r, (bn (F8_isDefined (rfs z 0) (nI k)) fun x10 =>
        if ¬ x10 = 0 then
        if y = 0 then
        rd (rfs z 0 0) 2153 (nI k) fun x12 =>
        some (rfs z 0, x12)
        else if y = 1 then
        rd (rfs z 0 0) 2153 (nI k) fun x13 =>
        bn (F8_holesOf (rfs z 0) (nI k) x13) fun x14 =>
        some (rfs z 0, x14)
        else if y = 2 then
        bn (F8_callsOf (rfs z 0) (nI k)) fun x15 =>
        some (rfs z 0, x15)
        else if y = 3 then
        bn2 (F8_mostOf (rfs z 0) (nI k) 1) fun z17 x16 =>
        some (z17, x16)
        else if y = 4 then
        bn2 (F8_mostOf (rfs z 0) (nI k) 0) fun z19 x18 =>
        some (z19, x18)
        else bn (F8_plainOf (rfs z 0) (nI k)) fun x20 =>
        some (rfs z 0, x20)
        else
        some (rfs z 0, (-1))) = r → F8_body z (nI k) y = r := by
        intro r hr
        unfold F8_body
        refine bn_go (F8_isLetter_eq _) <| jp_go <| if_go (by rw [hx]; decide) <| bn_go (F8_in_eq _ _ _) <| if_no (by rw [hy]; decide) <| bn2_go (F8_refused0 z) <| if_go rfl ?_
        exact hr
      cases e : a.1 k with
      | none =>
        rw [e] at hD hdf
        dsimp only at hD
        refine okT_mk (b' := b) (z' := rfs z 0) (v := -1) ?_ ?_ (rfs7 _ _) (h.rfs 0)
        · unfold F7_body
          exact bx_in (requireLetter_ok hx) <| bx_in (requireWhat_ok hy) <| bn_go hdo <| on_no hD rfl
        · exact pre _ <| bn_go hdf <| if_no (by decide) rfl
      | some t =>
        rw [e] at hD hdf
        obtain ⟨xx, hx1, g1, g2, g3, g4, g5, g6, g7, g8, g9⟩ := hD
        have hxx : 100 ≤ xx := (kd6 (okB_2 g1)).1
        have hsr := hZr.src hW hk e
        have hcp := (hW.1 k t e).1
        have h60 := (hW.1 k t e).2
        have h0 : rfs z 0 0 k = nI t.length := by have q := hZr.1 k hk; rw [e] at q; exact q
        have h7 : ∀ r, (if y = 0 then
          ck (okB b.2.2 xx 6) <|
          some (b, .inr (nI (lnB b.2.2 (xx + 1))))
          else if y = 1 then
          ck (okB b.2.2 xx 6) <|
          some (b, .inr (b.1 xx 1))
          else if y = 2 then
          ck (okB b.2.2 xx 6) <|
          some (b, .inr (b.1 xx 2))
          else if y = 3 then
          ck (okB b.2.2 xx 6) <|
          some (b, .inr (b.1 xx 3))
          else if y = 4 then
          ck (okB b.2.2 xx 6) <|
          some (b, .inr (b.1 xx 4))
          else ck (okB b.2.2 xx 6) <|
          some (b, .inr (b.1 xx 5))) = r → F7_body b (nI k) y = r := by
          intro r hr
          unfold F7_body
          exact bx_in (requireLetter_ok hx) <| bx_in (requireWhat_ok hy) <| bn_go hdo <| on_so hx1 hr
        have hdt : ¬ bI (some t).isSome = 0 := by rw [show (some t).isSome = true from rfl]; decide
        rcases i5 y hy with rfl | rfl | rfl | rfl | rfl | rfl
        · refine okT_mk (v := nI t.length) (h7 _ <| if_go rfl <| ck_go g1 ?_) (pre _ <| bn_go hdf <| if_go hdt <| if_go rfl <| rd_go rfl (by omega) (by decide) h0 rfl) (rfs7 _ _) (h.rfs 0)
          rw [lnB_dyn (by omega), g2]
        · refine okT_mk (v := nI (hls t)) (h7 _ <| if_no (by decide) <| if_go rfl <| ck_go g1 ?_) (pre _ <| bn_go hdf <| if_go hdt <| if_no (by decide) <| if_go rfl <| rd_go rfl (by omega) (by decide) h0 <| bn_go (F8_holesOf_eq hsr (Nat.le_refl _)) ?_) (rfs7 _ _) (h.rfs 0)
          · rw [g4]
          · rw [List.take_length]
        · refine okT_mk (v := nI (cls t)) (h7 _ <| if_no (by decide) <| if_no (by decide) <| if_go rfl <| ck_go g1 ?_) (pre _ <| bn_go hdf <| if_go hdt <| if_no (by decide) <| if_no (by decide) <| if_go rfl <| bn_go (F8_callsOf_eq hk hsr) rfl) (rfs7 _ _) (h.rfs 0)
          rw [g5]
        · obtain ⟨z', m1, m2⟩ := F8_mostOf_eq hk hsr hcp 1
          rw [if_neg (by decide)] at m1
          refine okT_mk (v := nI (mstA t)) (h7 _ <| if_no (by decide) <| if_no (by decide) <| if_no (by decide) <| if_go rfl <| ck_go g1 ?_) (pre _ <| bn_go hdf <| if_go hdt <| if_no (by decide) <| if_no (by decide) <| if_no (by decide) <| if_go rfl <| bn2_go m1 rfl) (by rw [m2 43 (by decide)]; exact rfs7 _ _) ((h.rfs 0).sm ⟨m2 0 (by decide), m2 1 (by decide), m2 3 (by decide), m2 4 (by decide), m2 5 (by decide), by rw [m2 43 (by decide)], by rw [m2 43 (by decide)]⟩ (SmB.rf b))
          rw [g6]
        · obtain ⟨z', m1, m2⟩ := F8_mostOf_eq hk hsr hcp 0
          rw [if_pos rfl] at m1
          refine okT_mk (v := nI (nst t)) (h7 _ <| if_no (by decide) <| if_no (by decide) <| if_no (by decide) <| if_no (by decide) <| if_go rfl <| ck_go g1 ?_) (pre _ <| bn_go hdf <| if_go hdt <| if_no (by decide) <| if_no (by decide) <| if_no (by decide) <| if_no (by decide) <| if_go rfl <| bn2_go m1 rfl) (by rw [m2 43 (by decide)]; exact rfs7 _ _) ((h.rfs 0).sm ⟨m2 0 (by decide), m2 1 (by decide), m2 3 (by decide), m2 4 (by decide), m2 5 (by decide), by rw [m2 43 (by decide)], by rw [m2 43 (by decide)]⟩ (SmB.rf b))
          rw [g7]
        · refine okT_mk (v := nI (sml t)) (h7 _ <| if_no (by decide) <| if_no (by decide) <| if_no (by decide) <| if_no (by decide) <| if_no (by decide) <| ck_go g1 ?_) (pre _ <| bn_go hdf <| if_go hdt <| if_no (by decide) <| if_no (by decide) <| if_no (by decide) <| if_no (by decide) <| if_no (by decide) <| bn_go (F8_plainOf_eq hk hsr) rfl) (rfs7 _ _) (h.rfs 0)
          rw [g8]
    · have hy' : inB y 0 5 = false := by simpa using hy
      refine okT_x (b' := b) (k := 2) (z' := rfs z 2) (v := 0) ?_ ?_ (by decide) (rfs7 _ _) (h.rfs 2)
      · unfold F7_body
        exact bx_in (requireLetter_ok hx) <| bx_out (requireWhat_no hy') rfl
      · unfold F8_body
        exact bn_go (F8_isLetter_eq _) <| jp_go <| if_go (by rw [hx]; decide) <| bn_go (F8_in_eq _ _ _) <| if_go (by rw [hy']; decide) <| bn2_go (F8_refusedP z 2 (by decide)) <| if_no (by decide) rfl
  · have hx' : inB x 0 25 = false := by simpa using hx
    refine okT_x (b' := b) (k := 1) (z' := rfs z 1) (v := 0) ?_ ?_ (by decide) (rfs7 _ _) (h.rfs 1)
    · unfold F7_body
      exact bx_out (requireLetter_no hx') rfl
    · unfold F8_body
      exact bn_go (F8_isLetter_eq _) <| jp_go <| if_no (by rw [hx']; decide) <| bn2_go (F8_refusedP z 1 (by decide)) <| if_no (by decide) rfl
