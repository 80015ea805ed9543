/-! PURE: the class's loop over a text -/
def WI (a : AS) (L : Nat) (kp : Bool) (n : Nat) (O : List Nat) (fill : Nat → Tx) (u : Tx) (b0 : BS) (Mb base Wn : Nat) (fin : Lc × Gl) (i : Nat) (s : Lc × Gl) (hd : Bool) (b : BS) : Prop :=
  i ≤ u.length ∧ s.1.2.2 ≤ i ∧ Sx b0 b ∧ Lo b0 b Wn (Mb + 1) base ∧ s.2.2.2.2 = false ∧ runF (callF (evF a.1 L n) a.1 L O) fill (u.drop i) s = fin ∧
  CS b kp Mb base (pcs s.1.2.1 s.1.1) (Wn + s.1.2.1.length) s.2 O ∧ FrOK b Mb Wn s.1.2.1 ∧ Sml (pcs s.1.2.1 s.1.1) ∧ (pcs s.1.2.1 s.1.1).length ≤ i + 1 ∧
  base + fl (pcs s.1.2.1 s.1.1) ≤ 1260 * O.length + 200 * s.2.1 + i + fsum fill s.1.2.2 ∧ s.1.2.1.length ≤ i ∧ PrsOK (u.drop i) s.1.2.1 hd
theorem ovr_f {w : Tx} (h : ovr w = false) : w.length ≤ 200 := by
  unfold ovr at h
  have := of_decide_eq_false h
  omega
theorem Sml.last {Q : List Tx} {w v : Tx} (h : Sml (Q ++ [w])) (hv : v.length ≤ 200) : Sml (Q ++ [v]) := by
  intro x hx
  rcases List.mem_append.mp hx with hx | hx
  · exact h x (List.mem_append_left _ hx)
  · rw [List.mem_singleton.mp hx]; exact hv
theorem WI.add {a : AS} {L : Nat} {kp : Bool} {n : Nat} {O : List Nat} {fill : Nat → Tx} {u : Tx} {b0 b : BS} {Mb base Wn : Nat} {fin : Lc × Gl} {i : Nat} {s : Lc × Gl} {hd : Bool} (hI : WI a L kp n O fill u b0 Mb base Wn fin i s hd b) {Q : List Tx} (hQ : ∀ w, pcs s.1.2.1 w = Q ++ [w]) {b1 : BS} {add : Tx} {h' : Nat} (hlt : i < u.length) (s1 : Sx b b1) (hv : ovr (s.1.1 ++ add) = false) (C1 : CS b1 kp Mb base (Q ++ [s.1.1 ++ add]) (Wn + s.1.2.1.length) s.2 O) (l1 : Lo b b1 10000 10000 (base + fl (Q ++ [s.1.1]))) (hh : h' ≤ i + 1) (hs : add.length + fsum fill s.1.2.2 ≤ 1 + fsum fill h') (hr : runF (callF (evF a.1 L n) a.1 L O) fill (u.drop (i + 1)) ((s.1.1 ++ add, s.1.2.1, h'), bdd s.2 (ovr (s.1.1 ++ add))) = fin) (hp : PrsOK (u.drop (i + 1)) s.1.2.1 false) (hW : Wn + s.1.2.1.length ≤ 1000) (hM : Mb ≤ 1000) : WI a L kp n O fill u b0 Mb base Wn fin (i + 1) ((s.1.1 ++ add, s.1.2.1, h'), bdd s.2 (ovr (s.1.1 ++ add))) false b1 := by
  obtain ⟨i1, i2, i3, i4, i5, i6, i7, i8, i9, i10, i11, i12, i13⟩ := hI
  rw [hQ] at i9 i10 i11
  have e1 : fl (Q ++ [s.1.1 ++ add]) = fl (Q ++ [s.1.1]) + add.length := by rw [fl_app, fl_app, fl_one, fl_one, List.length_append]; omega
  refine ⟨by omega, hh, i3.tr s1, i4.tr (l1.le (by omega) (by omega) (by omega)), ?_, hr, ?_, i8.lo (fun j hj => l1.1 j (by omega)), ?_, ?_, ?_, ?_, hp⟩
  · show (s.2.2.2.2 || ovr (s.1.1 ++ add)) = false
    rw [i5, hv]; rfl
  · dsimp only; rw [hQ]; exact C1
  · dsimp only; rw [hQ]; exact i9.last (ovr_f hv)
  · dsimp only; rw [hQ]; rw [List.length_append] at i10 ⊢; simp at i10 ⊢; omega
  · dsimp only; rw [hQ, e1]; show base + (fl (Q ++ [s.1.1]) + add.length) ≤ 1260 * O.length + 200 * s.2.1 + (i + 1) + fsum fill h'; omega
  · show s.1.2.1.length ≤ i + 1; omega
theorem WI.call {a : AS} {L : Nat} {kp : Bool} {n : Nat} {O : List Nat} {fill : Nat → Tx} {u : Tx} {b0 b b1 : BS} {Mb base Wn : Nat} {fin : Lc × Gl} {i k h : Nat} {r : List Fr} {Q as : List Tx} {sv : Tx} {G : Gl} {hd' : Bool} (i3 : Sx b0 b) (i4 : Lo b0 b Wn (Mb + 1) base) (hQ : ∀ w, pcs r w = Q ++ [w]) (hfr : FrOK b Mb Wn r) (hsm : Sml (Q ++ [sv])) (hln : (Q ++ [sv]).length ≤ i + 1) (hfl : base + fl (Q ++ [sv]) ≤ 1260 * O.length + 200 * G.1 + i + fsum fill h) (hrl : r.length ≤ i) (hh : h ≤ i) (hlt : i < u.length) (s1 : Sx b b1) (hv : (callF (evF a.1 L n) a.1 L O k as sv G).2.2.2.2 = false) (C1 : CS b1 kp Mb base (Q ++ [(callF (evF a.1 L n) a.1 L O k as sv G).1]) (Wn + r.length) (callF (evF a.1 L n) a.1 L O k as sv G).2 O) (l1 : Lo b b1 (Wn + r.length) (Mb + Q.length + 1) (base + fl (Q ++ [sv]))) (hr : runF (callF (evF a.1 L n) a.1 L O) fill (u.drop (i + 1)) (((callF (evF a.1 L n) a.1 L O k as sv G).1, r, h), (callF (evF a.1 L n) a.1 L O k as sv G).2) = fin) (hp : PrsOK (u.drop (i + 1)) r hd') : WI a L kp n O fill u b0 Mb base Wn fin (i + 1) (((callF (evF a.1 L n) a.1 L O k as sv G).1, r, h), (callF (evF a.1 L n) a.1 L O k as sv G).2) hd' b1 := by
  have hv2 : ovr (sv ++ (resF (evF a.1 L n) a.1 L O k as G).1) = false := by
    rw [callF_bad] at hv
    exact (Bool.or_eq_false_iff.mp hv).2
  have e1 : fl (Q ++ [sv ++ (resF (evF a.1 L n) a.1 L O k as G).1]) = fl (Q ++ [sv]) + (resF (evF a.1 L n) a.1 L O k as G).1.length := by rw [fl_app, fl_app, fl_one, fl_one, List.length_append]; omega
  have hv3 := ovr_f hv2
  rw [List.length_append] at hv3
  refine ⟨by omega, by show h ≤ i + 1; omega, i3.tr s1, i4.tr (l1.le (by omega) (by omega) (by omega)), hv, hr, ?_, hfr.lo (fun j hj => l1.1 j hj), ?_, ?_, ?_, ?_, hp⟩
  · dsimp only; rw [hQ]; exact C1
  · dsimp only; rw [hQ]; exact hsm.last (ovr_f hv2)
  · dsimp only; rw [hQ]; rw [List.length_append] at hln ⊢; simp at hln ⊢; omega
  · dsimp only; rw [hQ]
    show base + fl (Q ++ [sv ++ (resF (evF a.1 L n) a.1 L O k as G).1]) ≤ 1260 * O.length + 200 * (resF (evF a.1 L n) a.1 L O k as G).2.1 + (i + 1) + fsum fill h
    rw [e1]
    rcases resF_mon (evF_mon a.1 L n) (D := a.1) (L := L) (O := O) (k := k) (as := as) (G := G) with ⟨-, q⟩ | ⟨-, q⟩
    · omega
    · rw [q]
      show base + (fl (Q ++ [sv]) + 1) ≤ 1260 * O.length + 200 * G.1 + (i + 1) + fsum fill h
      omega
  · show r.length ≤ i + 1; omega
noncomputable def wtC (rec : BS → Nat → Nat → Int32 → Int32 → Int32 → Int32 → Option BS) (p0 : Nat) (p1 : Nat) (p2 : Int32) (p3 : Int32) (p4 : Int32) (p5 : Int32) (x5 x6 : Int32) (b7 : BS) (x25 : Int32) : Option ((Int32 × Int32 × BS) ⊕ BS) :=
  jp (fun (x96 : Int32) (b97 : BS) => bd (x6 + 1) fun x102 =>
  some (.inl (x96, x102, b97))) fun k29 =>
  if ¬ x25 = 63 then
  bn (F7_isAbbreviation x25) fun x34 =>
  if x34 = 0 then
  jp (fun (_ : Unit) => bn (F1_setMark b7) fun b63 =>
  k29 x5 b63) fun k40 =>
  if x25 = 40 then
  k40 ()
  else
  if ¬ x25 = 44 then
  if ¬ x25 = 41 then
  bn (F1_writeSign b7 x25) fun b53 =>
  k29 x5 b53
  else
  bn (F1_finishCall rec b7 p0 p3) fun b56 =>
  k29 x5 b56
  else
  k40 ()
  else
  bn (F1_letCallWait b7 (x25 - 65)) fun b66 =>
  jp (fun (_ : Unit) => bn (F1_finishCall rec b66 p0 p3) fun b88 =>
  k29 x5 b88) fun k67 =>
  if p2 ≤ (x6 + 1) then
  k67 ()
  else
  ck (okB b66.2.2 p1 20) <|
  if (nI (lnB b66.2.2 p1)) ≤ (x6 + 1) then
  k67 ()
  else
  rd (b66.1 p1) (lnB b66.2.2 p1) (x6 + 1) fun x77 =>
  if x77 = 40 then
  k29 x5 b66
  else
  k67 ()
  else
  bn (F1_fillHole b7 x5 p3 p4 p5) fun b91 =>
  bd (x5 + 1) fun x92 =>
  k29 x92 b91
noncomputable def wtB (rec : BS → Nat → Nat → Int32 → Int32 → Int32 → Int32 → Option BS) (p0 : Nat) (p1 : Nat) (p2 : Int32) (p3 : Int32) (p4 : Int32) (p5 : Int32) : Int32 × Int32 × BS → Option ((Int32 × Int32 × BS) ⊕ BS) :=
  fun (q : Int32 × Int32 × BS) => (fun (x5 : Int32) (x6 : Int32) (b7 : BS) =>
  jp (fun (_ : Unit) => some (.inr b7)) fun k12 =>
  if p2 ≤ x6 then
  k12 ()
  else
  ck (okB b7.2.2 p1 20) <|
  if (nI (lnB b7.2.2 p1)) ≤ x6 then
  k12 ()
  else
  if ¬ (b7.1 57 13) = 0 then
  k12 ()
  else
  rd (b7.1 p1) (lnB b7.2.2 p1) x6 fun x25 =>
  wtC rec p0 p1 p2 p3 p4 p5 x5 x6 b7 x25) q.1 q.2.1 q.2.2
theorem F1_writeText_wtB (rec : BS → Nat → Nat → Int32 → Int32 → Int32 → Int32 → Option BS) (b : BS) (p0 p1 : Nat) (p2 p3 p4 p5 : Int32) : F1_writeText rec b p0 p1 p2 p3 p4 p5 = Loop (wtB rec p0 p1 p2 p3 p4 p5) (0, 0, b) := rfl
section
variable {rec : BS → Nat → Nat → Int32 → Int32 → Int32 → Int32 → Option BS} {p0 p1 : Nat} {p3 p4 p5 x5 c : Int32} {b7 : BS} {u : Tx} {i : Nat}
theorem wtB_at (hN : i < u.length) (hu : u.length ≤ 60) (hp : okB b7.2.2 p1 20 = true ∧ u.length ≤ lnB b7.2.2 p1 ∧ lnB b7.2.2 p1 ≤ 60) (hb : b7.1 57 13 = 0) (hc : b7.1 p1 i = c) : wtB rec p0 p1 (nI u.length) p3 p4 p5 (x5, nI i, b7) = wtC rec p0 p1 (nI u.length) p3 p4 p5 x5 (nI i) b7 c := by
  obtain ⟨h1, h2, h3⟩ := hp
  have f1 : i < lnB b7.2.2 p1 := by omega
  have f2 : lnB b7.2.2 p1 < 2 ^ 31 := by omega
  exact jp_go <| if_no (nI_ge hN (by omega)) <| ck_go h1 <| if_no (nI_ge f1 f2) <| if_no (fun q => q hb) <| rd_go rfl f1 f2 hc rfl
theorem wtB_end (hu : u.length ≤ 60) : wtB rec p0 p1 (nI u.length) p3 p4 p5 (x5, nI u.length, b7) = some (.inr b7) := jp_go <| if_go (nI_le (Nat.le_refl _) (by omega)) rfl
theorem wtB_bad (hi : i ≤ u.length) (hu : u.length ≤ 60) (hp : okB b7.2.2 p1 20 = true ∧ u.length ≤ lnB b7.2.2 p1 ∧ lnB b7.2.2 p1 ≤ 60) (hb : b7.1 57 13 = 1) : Loop (wtB rec p0 p1 (nI u.length) p3 p4 p5) (x5, nI i, b7) = some b7 := by
  obtain ⟨h1, h2, h3⟩ := hp
  refine Loop_inr ?_
  by_cases c : i < u.length
  · have f1 : i < lnB b7.2.2 p1 := by omega
    have f2 : lnB b7.2.2 p1 < 2 ^ 31 := by omega
    exact jp_go <| if_no (nI_ge c (by omega)) <| ck_go h1 <| if_no (nI_ge f1 f2) <| if_go (by rw [hb]; decide) rfl
  · exact jp_go <| if_go (nI_le (by omega) (by omega)) rfl
theorem wtC_hole {b91 : BS} (h : F1_fillHole b7 x5 p3 p4 p5 = some b91) {p2 : Int32} : wtC rec p0 p1 p2 p3 p4 p5 x5 (nI i) b7 63 = some (.inl (x5 + 1, nI i + 1, b91)) := jp_go <| if_no (fun q => q rfl) <| bn_go h <| bd_go rfl
theorem wtC_sign {b91 : BS} (hc : plB c = true) (h : F1_writeSign b7 c = some b91) {p2 : Int32} : wtC rec p0 p1 p2 p3 p4 p5 x5 (nI i) b7 c = some (.inl (x5, nI i + 1, b91)) := by
  obtain ⟨q1, q2, q3, q4⟩ := pl_ne hc
  exact jp_go <| if_go q1 <| bn_go (F7_isAbbreviation_eq c) <| if_go (by rw [pl_ab hc]; rfl) <| jp_go <| if_no q2 <| if_go q3 <| if_go q4 <| bn_go h rfl
theorem wtC_mark (hc : c = 40 ∨ c = 44) {b91 : BS} (h : F1_setMark b7 = some b91) {p2 : Int32} : wtC rec p0 p1 p2 p3 p4 p5 x5 (nI i) b7 c = some (.inl (x5, nI i + 1, b91)) := by
  rcases hc with rfl | rfl
  · exact jp_go <| if_go (by decide) <| bn_go (F7_isAbbreviation_eq 40) <| if_go (by decide) <| jp_go <| if_go rfl <| bn_go h rfl
  · exact jp_go <| if_go (by decide) <| bn_go (F7_isAbbreviation_eq 44) <| if_go (by decide) <| jp_go <| if_no (by decide) <| if_no (fun q => q rfl) <| bn_go h rfl
theorem wtC_close {b91 : BS} (h : F1_finishCall rec b7 p0 p3 = some b91) {p2 : Int32} : wtC rec p0 p1 p2 p3 p4 p5 x5 (nI i) b7 41 = some (.inl (x5, nI i + 1, b91)) :=
  jp_go <| if_go (by decide) <| bn_go (F7_isAbbreviation_eq 41) <| if_go (by decide) <| jp_go <| if_no (by decide) <| if_go (by decide) <| if_no (fun q => q rfl) <| bn_go h rfl
theorem wtC_par (hc : inB c 65 90 = true) {b66 : BS} (h : F1_letCallWait b7 (c - 65) = some b66) (hN : i + 1 < u.length) (hu : u.length ≤ 60) (hp : okB b66.2.2 p1 20 = true ∧ u.length ≤ lnB b66.2.2 p1 ∧ lnB b66.2.2 p1 ≤ 60) (hx : b66.1 p1 (i + 1) = 40) : wtC rec p0 p1 (nI u.length) p3 p4 p5 x5 (nI i) b7 c = some (.inl (x5, nI i + 1, b66)) := by
  obtain ⟨h1, h2, h3⟩ := hp
  have hn := ab_ne hc
  exact jp_go <| if_go hn.1 <| bn_go (F7_isAbbreviation_eq c) <| if_no (by rw [hc]; decide) <| bn_go h <| jp_go <| if_no (by rw [nI_1]; exact nI_ge hN (by omega)) <| ck_go h1 <| if_no (by rw [nI_1]; exact nI_ge (by omega) (by omega)) <| rd_go (nI_1 i) (by omega) (by omega) hx <| if_go rfl rfl
theorem wtC_lone (hc : inB c 65 90 = true) {b66 b91 : BS} (h : F1_letCallWait b7 (c - 65) = some b66) (hi : i < u.length) (hu : u.length ≤ 60) (hp : okB b66.2.2 p1 20 = true ∧ u.length ≤ lnB b66.2.2 p1 ∧ lnB b66.2.2 p1 ≤ 60) (hx : i + 1 < u.length → b66.1 p1 (i + 1) ≠ 40) (h2 : F1_finishCall rec b66 p0 p3 = some b91) : wtC rec p0 p1 (nI u.length) p3 p4 p5 x5 (nI i) b7 c = some (.inl (x5, nI i + 1, b91)) := by
  obtain ⟨h1, h2', h3⟩ := hp
  have hn := ab_ne hc
  by_cases q : i + 1 < u.length
  · exact jp_go <| if_go hn.1 <| bn_go (F7_isAbbreviation_eq c) <| if_no (by rw [hc]; decide) <| bn_go h <| jp_go <| if_no (by rw [nI_1]; exact nI_ge q (by omega)) <| ck_go h1 <| if_no (by rw [nI_1]; exact nI_ge (by omega) (by omega)) <| rd_go (nI_1 i) (by omega) (by omega) rfl <| if_no (hx q) <| bn_go h2 rfl
  · exact jp_go <| if_go hn.1 <| bn_go (F7_isAbbreviation_eq c) <| if_no (by rw [hc]; decide) <| bn_go h <| jp_go <| if_go (by rw [nI_1]; exact nI_le (by omega) (by omega)) <| bn_go h2 rfl
end
