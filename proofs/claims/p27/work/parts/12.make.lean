/-! Arrays.copyOf of a row of ints; what is made out of it -/
def cutI (f : Nat → Int32) (n : Nat) : Nat → Int32 := fun j => if j < n then f j else 0
theorem arrI_congr {cA : ClassId} {k : Nat} {f g : Nat → Int32} (h : ∀ j, j < k → f j = g j) : vp_cell cA (k, .inl f) = vp_cell cA (k, .inl g) := by
  rw [vp_cell_i, vp_cell_i]
  unfold arrV
  congr 1
  apply Array.ext
  · simp
  · intro i h1 h2
    simp at h1 h2 ⊢
    exact h i (by simpa using h1)
abbrev rmJ7_copyOf : Nat → Room := fun k => { frames := 1, cells := 1, slots := k, locals := 40 }
theorem wq_copy1 : Cond.methodLink RJ7 316 ⟨"[I", "clone", "()Ljava/lang/Object;"⟩ ∈ G0 := gq (by decide +kernel) rfl
theorem wq_copy2 : Cond.sameMethod "[I" "java/lang/Object" "clone" "()Ljava/lang/Object;" ∈ G0 := gq (by decide +kernel) rfl
theorem wq_copy3 : Cond.native ⟨"java/lang/Object", "clone", "()Ljava/lang/Object;"⟩ ∈ G0 := gq (by decide +kernel) rfl
theorem wq_copy4 : Cond.instanceMethod ⟨"java/lang/Object", "clone", "()Ljava/lang/Object;"⟩ ∈ G0 := gq (by decide +kernel) rfl
theorem wq_copy5 : Cond.selects "[I" ⟨"[I", "clone", "()Ljava/lang/Object;"⟩ ⟨"java/lang/Object", "clone", "()Ljava/lang/Object;"⟩ ∈ G0 := gq (by decide +kernel) rfl
theorem wq_copy6 : Cond.classLink RJ7 317 "[I" ∈ G0 := gq (by decide +kernel) rfl
theorem wq_copy7 : Cond.methodLink RJ7 304 Lib.Math.min.name ∈ G0 := gq (by decide +kernel) rfl
theorem wq_copy8 : Cond.methodLink RJ7 150 arraycopyName ∈ G0 := gq (by decide +kernel) rfl
theorem wq_copy9 : Cond.native arraycopyName ∈ G0 := gq (by decide +kernel) rfl
theorem wq_copy10 : Cond.static arraycopyName ∈ G0 := gq (by decide +kernel) rfl
theorem wq_copy11 : Cond.initialized "java/lang/System" ∈ G0 := gq (by decide +kernel) rfl
theorem arrI_fit {cA : ClassId} {k : Nat} {f : Nat → Int32} (i : Nat) (v : Value) (h : (vp_cell cA (k, .inl f)).slots[i]? = some v) : fits .int v = true := by
  rw [vp_cell_i] at h
  by_cases hi : i < k
  · rw [arrV_read _ _ hi] at h
    cases h; rfl
  · rw [Array.getElem?_eq_none (by rw [arrV_size]; omega)] at h
    cases h
set_option maxHeartbeats 4000000 in
set_option maxRecDepth 100000 in
theorem c_copyOf (l : Launch) (D : va_G) (κ : Nat → ClassId) (h0 sz n k : Nat) (f : Nat → Int32) (hk : k ≤ 100000) (hn : n ≤ 100000) : Met l yJ7_copyOf_59c91 (gw yJ7_copyOf_59c91 cJ7_copyOf_59c91 3 (some (.array .int))) (rmJ7_copyOf k) (va_Pc [.ref h0, .int (nI k)] (fun U => U.heap.size = sz ∧ va_P D vwCl [(h0, .inl (κ 0, n, .inl f))] U.heap ∧ va_K D vwCl (tysK κ) U ∧ va_D (fun _ => True) [(h0, .inl (κ 0, n, .inl f))] ∧ va_Nw (.castable "[I" "java/lang/Cloneable") U)) (va_Qr (fun (_ : Unit) => True) (fun _ q t => va_P D vwCl [(h0, .inl (κ 0, n, .inl f)), (q, .inl (κ 0, k, .inl (cutI f n)))] t.heap ∧ va_D (va_A [(h0, .inl (κ 0, n, .inl f))] sz) [(h0, .inl (κ 0, n, .inl f)), (q, .inl (κ 0, k, .inl (cutI f n)))]) (va_A [(h0, .inl (κ 0, n, .inl f))] sz)) 1 k (va_A [(h0, .inl (κ 0, n, .inl f))] sz) := by
  refine Met.ofW (cc := cJ7_copyOf_59c91) (maxL := 3) (ret := some (.array .int)) (by decide +kernel) rfl ?_
  intro p e s m args below meth c s₁ B hml hv
  obtain ⟨rfl, hsz, hP, hK, hD0, hcl⟩ := hv
  have hx := B.exec
  have hb := B.bytes
  have hr := B.returns
  have hts0 := atoms_spec (ws := gw yJ7_copyOf_59c91 cJ7_copyOf_59c91 3 (some (.array .int))) B.pre
  have hts : ∀ w ∈ G0, w.before ([.ref h0, .int (nI k)] : List Value).toArray s = true := fun w hw => hts0 w (List.mem_cons_of_mem _ hw)
  have hown : s.vm.findClass RJ7 = some m.cls := findClass_of_methodNamed B.named
  have hlocks := B.notSynchronized
  subst hsz
  have hD := hD0.self (sz := s.heap.size)
  generalize hAe : va_A [(h0, .inl (κ 0, n, .inl f))] s.heap.size = A at hD ⊢
  have hA : ∀ q : Nat, s.heap.size ≤ q → A q := fun q h => by rw [← hAe]; exact Or.inr h
  have hS : va_S A s.heap s.heap [] := va_S.rf
  have hl := lv_entry ([.ref h0, .int (nI k)]) (n := 3) (Nat.le_of_ble_eq_true rfl)
  rw [lg_entry_eq]
  generalize (lg_sl ([.ref h0, .int (nI k)]) ++ List.replicate (3 - (lg_sl ([.ref h0, .int (nI k)])).length) Slot.unset).toArray = ls at hl ⊢
  have hl : lv_has ls 3 [(0, .ref h0), (1, .int (nI k))] := hl
  refine lv_iload_n hx hb dJ7_copyOf_59c91_0 rfl (lv_at hl 1 rfl) ?_
  refine lv_aload_n hx hb dJ7_copyOf_59c91_1 rfl (lv_at hl 0 rfl) ?_
  refine va_alen hx hb hK hP 0 0 rfl rfl (v := nI n) rfl dJ7_copyOf_59c91_2 ?_
  refine lv_icmp_ne (pc := 3) (tgt := 14) hx hb dJ7_copyOf_59c91_3 (by decide) (fun hc => ?_) (fun hc => ?_)
  · refine lv_iload_n (pc := 14) hx hb dJ7_copyOf_59c91_14 rfl (lv_at hl 1 rfl) ?_
    refine va_newa (pc := 15) (atype := .int) hx hb (hts _ w_arrI) rfl hK hP hD hS hA (N' := k) (a0 := (k, .inl (fun _ => 0))) (fun cA => rfl) (nI_pos (by omega)) (nI_clamp (by omega)) (by show k * 4 ≤ _; omega) (Nat.le_refl _) (by show 0 + k ≤ k; omega) dJ7_copyOf_59c91_15 (fun q cA H hK1 hP hD hS => ?_)
    have hP : va_P D vwCl [(h0, .inl (κ 0, n, .inl f)), (q, .inl (cA, k, .inl (fun _ => 0)))] H := hP
    have hD : va_D A [(h0, .inl (κ 0, n, .inl f)), (q, .inl (cA, k, .inl (fun _ => 0)))] := hD
    have hcA : cA = κ 0 := Option.some.inj ((hK1.2 4 (cA, .int) rfl).2.symm.trans (hK.2 0 (κ 0, .int) rfl).2)
    subst hcA
    refine lv_astore_n (pc := 17) (lv' := [(2, .ref q), (0, .ref h0), (1, .int (nI k))]) hx hb dJ7_copyOf_59c91_17 rfl hl (by decide) rfl (fun ls hl => ?_)
    refine lv_aload_n (pc := 18) hx hb dJ7_copyOf_59c91_18 rfl (lv_at hl 1 rfl) ?_
    refine lv_iconst (pc := 19) (v := 0) hx hb dJ7_copyOf_59c91_19 (by decide) ?_
    refine lv_aload_n (pc := 20) hx hb dJ7_copyOf_59c91_20 rfl (lv_at hl 0 rfl) ?_
    refine lv_iconst (pc := 21) (v := 0) hx hb dJ7_copyOf_59c91_21 (by decide) ?_
    refine lv_aload_n (pc := 22) hx hb dJ7_copyOf_59c91_22 rfl (lv_at hl 1 rfl) ?_
    refine va_alen (pc := 23) hx hb hK hP 0 0 rfl rfl (v := nI n) rfl dJ7_copyOf_59c91_23 ?_
    refine lv_iload_n (pc := 24) hx hb dJ7_copyOf_59c91_24 rfl (lv_at hl 2 rfl) ?_
    refine va_mmin (pc := 25) hx hb (hml.trans hl.1.symm) hown (hts _ wq_copy7) (hts _ w_min_s) (hts _ w_math) (hts _ w_min_c) (Nat.le_of_ble_eq_true rfl) (Nat.le_of_ble_eq_true rfl) (Nat.le_refl _) (by show 0 + k ≤ k; omega) dJ7_copyOf_59c91_25 ?_
    obtain ⟨j, hj⟩ : ∃ j, j = if k < n then k else n := ⟨_, rfl⟩
    have ej : (if nI k < nI n then nI k else nI n) = nI j := by
      rw [hj]
      by_cases c : k < n
      · rw [if_pos c, if_pos (nI_lt c (by omega))]
      · rw [if_neg c, if_neg (nI_nlt (by omega) (by omega))]
    rw [ej]
    have hjk : j ≤ k ∧ j ≤ n := by rw [hj]; split <;> omega
    have hj31 : j < 2 ^ 31 := by omega
    refine va_copyi (pc := 28) hx hb (hml.trans hl.1.symm) hown (hts _ wq_copy8) (hts _ wq_copy9) (hts _ wq_copy10) (hts _ wq_copy11) hK hP hD hS 0 1 0 0 rfl rfl rfl rfl rfl (by decide) (by decide) (nI_pos hj31) (by rw [nI_clamp hj31]; show 0 + j ≤ n; omega) (by rw [nI_clamp hj31]; show 0 + j ≤ k; omega) (fun _ _ => rfl) (Nat.le_of_ble_eq_true rfl) (by show 0 + (nativeFrameWords "java/lang/System" "arraycopy" 5 + 11) ≤ 40; decide +kernel) dJ7_copyOf_59c91_28 (fun H locs hP hD hS => ?_)
    have hP : va_P D vwCl [(h0, .inl (κ 0, n, .inl f)), (q, .inl (κ 0, k, .inl (va_cpy f (fun _ => 0) (0 : Int32).toNatClampNeg (0 : Int32).toNatClampNeg (nI j).toNatClampNeg)))] H := hP
    have hD : va_D A [(h0, .inl (κ 0, n, .inl f)), (q, .inl (κ 0, k, .inl (va_cpy f (fun _ => 0) (0 : Int32).toNatClampNeg (0 : Int32).toNatClampNeg (nI j).toNatClampNeg)))] := hD
    refine lv_aload_n (pc := 31) hx hb dJ7_copyOf_59c91_31 rfl (lv_at hl 0 rfl) ?_
    have hfin : va_P D vwCl [(h0, .inl (κ 0, n, .inl f)), (q, .inl (κ 0, k, .inl (cutI f n)))] H := by
      intro z x hz
      match z, hz with
      | 0, hz => cases hz; exact hP 0 _ rfl
      | 1, hz =>
        cases hz
        have h1 : H[q]? = some (vp_cell _ _) := hP 1 _ rfl
        show H[q]? = some (vp_cell _ _)
        rw [h1]
        refine congrArg some (arrI_congr fun i hi => ?_)
        rw [nI_clamp hj31]
        unfold va_cpy cutI
        show (if 0 ≤ i ∧ i < 0 + j then f (0 + (i - 0)) else 0) = _
        by_cases c : i < n
        · rw [if_pos ⟨Nat.zero_le _, by rw [hj]; split <;> omega⟩, if_pos c]
          congr 1; omega
        · rw [if_neg (by rintro ⟨-, h⟩; rw [hj] at h; split at h <;> omega), if_neg c]
      | z + 2, hz => simp at hz
    have hDfin : va_D A [(h0, .inl (κ 0, n, .inl f)), (q, .inl (κ 0, k, .inl (cutI f n)))] := hD.set (p := 1) (e := .inl (κ 0, k, .inl (cutI f n))) rfl
    refine W.widen (k := 1) (n := k) (Nat.le_refl _) (by show 0 + k ≤ k; omega) ?_
    exact W.aret (pc := 32) hx hb hr (Or.inr ⟨_, rfl⟩) (Or.inr ⟨_, rfl⟩) (fun t ht hW => ⟨⟨(), q, rfl, trivial, by rw [ht]; exact hfin, hDfin⟩, hS.F ht⟩) hS.2.2 dJ7_copyOf_59c91_32
  · have hkn : k = n := (nI_eq (by omega) (by omega)).mp hc
    subst hkn
    refine lv_aload_n (pc := 6) hx hb dJ7_copyOf_59c91_6 rfl (lv_at hl 0 rfl) ?_
    refine va_clone (pc := 7) hx hb (hml.trans hl.1.symm) hown (hts _ wq_copy1) (hts _ wq_copy2) (hts _ wq_copy3) (hts _ wq_copy4) (hts _ wq_copy5) hcl hK hP hD hS hA 0 0 rfl rfl (hK.2 0 (κ 0, .int) rfl).2 arrI_fit (Nat.le_of_ble_eq_true rfl) (Nat.le_of_ble_eq_true rfl) (Nat.le_refl _) (by show 0 + k ≤ k; omega) dJ7_copyOf_59c91_7 (fun q H hK1 hP hD hS => ?_)
    have hP : va_P D vwCl [(h0, .inl (κ 0, k, .inl f)), (q, .inl (κ 0, k, .inl f))] H := hP
    have hD : va_D A [(h0, .inl (κ 0, k, .inl f)), (q, .inl (κ 0, k, .inl f))] := hD
    refine va_castA (pc := 10) hx hb hown (hts _ wq_copy6) hP 1 rfl (hK.2 0 (κ 0, .int) rfl).2 dJ7_copyOf_59c91_10 ?_
    have hfin : va_P D vwCl [(h0, .inl (κ 0, k, .inl f)), (q, .inl (κ 0, k, .inl (cutI f k)))] H := by
      intro z x hz
      match z, hz with
      | 0, hz => cases hz; exact hP 0 _ rfl
      | 1, hz =>
        cases hz
        have h1 : H[q]? = some (vp_cell _ _) := hP 1 _ rfl
        show H[q]? = some (vp_cell _ _)
        rw [h1]
        exact congrArg some (arrI_congr fun i hi => by unfold cutI; rw [if_pos hi])
      | z + 2, hz => simp at hz
    have hDfin : va_D A [(h0, .inl (κ 0, k, .inl f)), (q, .inl (κ 0, k, .inl (cutI f k)))] := hD.set (p := 1) (e := .inl (κ 0, k, .inl (cutI f k))) rfl
    refine W.widen (k := 1) (n := k) (Nat.le_refl _) (by show 0 + k ≤ k; omega) ?_
    exact W.aret (pc := 13) hx hb hr (Or.inr ⟨_, rfl⟩) (Or.inr ⟨_, rfl⟩) (fun t ht hW => ⟨⟨(), q, rfl, trivial, by rw [ht]; exact hfin, hDfin⟩, hS.F ht⟩) hS.2.2 dJ7_copyOf_59c91_13
theorem Mm.join1 {D : va_G} {κ : Nat → ClassId} {A : Nat → Prop} {ad : Nat → Nat} {M : Nat → Option va_E} {s : State} {H H1 : Heap} {locs locs1 : List Loc} (h : Mm D κ A ad M s H locs) {i q a : Nat} {e0 e1 : va_E} (hi : M i = some e0) (hq : M q = none) (hP1 : va_P D vwCl [(ad i, e0), (a, e1)] H1) (hD1 : va_D (va_A [(ad i, e0)] H.size) [(ad i, e0), (a, e1)]) (hk : ∀ x : Nat, x < H.size → ¬ va_A [(ad i, e0)] H.size x → H1[x]? = H[x]?) (hS : va_S A s.heap H1 locs1) : Mm D κ A (upA ad q a) (upO M q e1) s H1 locs1 := by
  obtain ⟨h1, h2, h3, h4, h5, h6⟩ := h
  have mem : ∀ x, va_A [(ad i, e0)] H.size x → x = ad i ∨ H.size ≤ x := by
    rintro x (⟨k, e, hk⟩ | hx)
    · match k, hk with
      | 0, hk => cases hk; exact Or.inl rfl
      | k + 1, hk => simp at hk
    · exact Or.inr hx
  have ha : H.size ≤ a := by
    rcases mem a (hD1.2 1 _ rfl) with hx | hx
    · exact absurd (hD1.1 0 1 (ad i, e0) (a, e1) rfl rfl hx.symm) (by decide)
    · exact hx
  have old : ∀ j x, j ≠ q → upO M q e1 j = some x → M j = some x := fun j x hj hx => by rw [upO_n hj] at hx; exact hx
  refine ⟨h1, fun j x hx => ?_, fun j k x y hx hy hxy => ?_, h4, hS, h6⟩
  · by_cases hj : j = q
    · subst hj
      rw [upO_s] at hx
      cases hx
      rw [upA_s]
      exact ⟨hP1 1 _ rfl, h4 _ (Nat.le_trans h5.1 ha)⟩
    · rw [upA_n hj]
      obtain ⟨g1, g2⟩ := h2 j x (old j x hj hx)
      by_cases hji : j = i
      · subst hji
        have : x = e0 := Option.some.inj ((old j x hj hx).symm.trans hi)
        subst this
        exact ⟨hP1 0 _ rfl, g2⟩
      · refine ⟨g1.kept (hk _ g1.lt (fun z => ?_)), g2⟩
        rcases mem _ z with z | z
        · exact hji (h3 j i _ _ (old j x hj hx) hi z)
        · have := g1.lt
          dsimp only at this z
          omega
  · by_cases hj : j = q
    · by_cases hk' : k = q
      · rw [hj, hk']
      · subst hj
        rw [upA_s, upA_n hk'] at hxy
        have := (h2 k y (old k y hk' hy)).1.lt
        dsimp only at this
        omega
    · by_cases hk' : k = q
      · subst hk'
        rw [upA_s, upA_n hj] at hxy
        have := (h2 j x (old j x hj hx)).1.lt
        dsimp only at this
        omega
      · rw [upA_n hj, upA_n hk'] at hxy
        exact h3 j k x y (old j x hj hx) (old k y hk' hy) hxy
theorem hs_copyOf : yJ7_copyOf_59c91.cls ≠ "java/lang/invoke/MethodHandle" ∧ yJ7_copyOf_59c91.cls ≠ "java/lang/invoke/VarHandle" ∧ (parseMethodDescriptor yJ7_copyOf_59c91.desc).map (fun d => d.parameters.length) = some 2 := by decide +kernel
theorem ini_arrays : Cond.initialized RJ7 ∈ G0 := gq (by decide +kernel) rfl
section MK
variable {p : Program} {l : Launch} {e : Env} {R : Room} {s : State} {m : MethodId} {args : Array Value} {below : List Frame} {meth : Method} {c : Code} {H : Heap} {locs : List Loc} {cells slots : Nat} {Q : State → Prop}
variable {cc : ByteArray} {pc nL : Nat} {ls : Array Slot} {rest : List Value} {D : va_G} {κ : Nat → ClassId} {A : Nat → Prop} {ad : Nat → Nat} {own : String} {lv : List (Nat × Value)} {M M' : Nat → Option va_E}
theorem m_copyOf (X : CallFix p m c cc nL s args G0 own) (G : Mm D κ A ad M s H locs) (q : Nat) {i n k a0 index : Nat} {f : Nat → Int32} (ha0 : a0 = ad i) (hi : M i = some (.inl (κ 0, n, .inl f))) (hq : M q = none) (hk : k ≤ 100000) (hn : n ≤ 100000) (hml : Cond.methodLink own index yJ7_copyOf_59c91 ∈ G0) (hl : lv_has ls nL lv) (hR : 2 ≤ R.frames ∧ 62 ≤ R.locals) (hW : 2 * (F0 m pc ls (.int (nI k) :: .ref a0 :: rest)).monitorRoom + (rest.map fun v => v.category).sum ≤ 8) (hdg : decode cc pc = .ok (.invokestatic index, 3)) (hf : cells + 1 ≤ R.cells ∧ slots + k ≤ R.slots)
    (kk : ∀ (a : Nat) (H1 : Heap) (locs1 : List Loc), Mm D κ A (upA ad q a) (upO M q (.inl (κ 0, k, .inl (cutI f n)))) s H1 locs1 → W p l e R s m args below meth c H1 locs1 (cells + 1) (slots + k) Q (F0 m (pc + 3) ls (.ref a :: rest))) : W p l e R s m args below meth c H locs cells slots Q (F0 m pc ls (.int (nI k) :: .ref a0 :: rest)) := by
  subst ha0
  have mem : ∀ x, va_A [(ad i, (.inl (κ 0, n, .inl f) : va_E))] H.size x → A x := by
    rintro x (⟨k, e, hk⟩ | hx)
    · match k, hk with
      | 0, hk => cases hk; exact (G.2.1 i _ hi).2
      | k + 1, hk => simp at hk
    · exact G.2.2.2.1 x (Nat.le_trans G.2.2.2.2.1.1 hx)
  have hDl : va_D (fun _ => True) [(ad i, (.inl (κ 0, n, .inl f) : va_E))] := by
    refine ⟨fun a b x y hx hy _ => ?_, fun _ _ _ => trivial⟩
    match a, b, hx, hy with
    | 0, 0, _, _ => rfl
    | a + 1, _, hx, _ => simp at hx
    | _, b + 1, _, hy => simp at hy
  refine va_callr (va_runS (As := [.ref (ad i), .int (nI k)]) (rest := rest) X (c_copyOf l D κ (ad i) H.size n k f hk hn) (va_cwS 2 X.2.2.2.2 (gsS_in hml sm_yJ7_copyOf_59c91 ini_arrays cd_yJ7_copyOf_59c91) rfl rfl rfl hs_copyOf ⟨by show 1 + 1 ≤ _; omega, by show 8 + (3 + 11) + 40 ≤ _; omega⟩) ⟨fun a U g mk q => ⟨q.1, q.2.1, q.2.2.1, va_K.moved (u := U) (U := U.calling g mk a) (Vm.Alike.refl U.vm) q.2.2.2.1, q.2.2.2.2.1, va_Nw.same (u := U) (U := U.calling g mk a) rfl rfl q.2.2.2.2.2⟩, fun U hU hW => ⟨rfl, by rw [hU], by rw [hU]; exact G.at hi, va_K.moved hW.alike G.1, hDl, (G.2.2.2.2.2.2.2.2.2.1 ("[I", "java/lang/Cloneable") (by simp [thC])).warmC hW⟩⟩ rfl rfl hl.1 rfl hW hdg hf) G.2.2.2.2.1 (fun q _ h => mem q h) mem (fun u a t H1 locs1 ht hvm hw hB hz hk hS => ?_)
  obtain ⟨hP1, hD1⟩ := hB
  rw [ht] at hP1
  exact kk a H1 locs1 (G.join1 hi hq hP1 hD1 hk hS)
end MK
