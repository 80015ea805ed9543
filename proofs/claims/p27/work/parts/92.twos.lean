/-! ROWS FOR DOUBLES OVER TWO BOOKS, a cell of the script, the second book: laid by wip/p27/mklaw.py -/
abbrev QWD (A : Nat → Prop) (B : Heap → Prop) (v : UInt64) : Array Value → State → Outcome → State → Prop := va_Qd (fun (x : UInt64) (_ : Unit) => x = v) (fun _ t => B t.heap) A
theorem met_lift0D {l : Launch} {y : MethodName} {ws : List Cond} {rm : Room} {As : List Value} {D : va_G} {κ : Nat → ClassId} {A : Nat → Prop} {o : Nat} {P P' : BS → Prop} {v : UInt64} {mc ms : Nat}
    (h : ∀ (ad : Nat → Nat) (b : BS), ad 50 = o → P b → ∃ b' : BS, P' b' ∧ Met l y ws rm (va_Pc (.ref (ad 50) :: As) (MW D κ A ad (celB κ ad nuW b))) (QD D κ A ad (celB κ ad nuW b') v) mc ms A) :
    Met l y ws rm (va_Pc (.ref o :: As) (WB D κ A (B1 D κ A o P))) (QWD A (B1 D κ A o P') v) mc ms A := by
  intro p e ha hc hk s m args below hf happ hpre hK
  obtain ⟨rfl, hw⟩ := hpre
  obtain ⟨ad, b, h50, hP, hM⟩ := hw.cel
  obtain ⟨b', hP', hmet⟩ := h ad b h50 hP
  subst h50
  obtain ⟨n, o', q1, q2, q3, ⟨⟨r, u, e1, e2, hMW⟩, hF⟩, hL⟩ := hmet p e ha hc hk s m _ below hf happ ⟨rfl, hw.mm hM⟩ hK
  exact ⟨n, o', q1, q2, q3, ⟨⟨r, (), e1, e2, ad, b', rfl, hP', Mm.mc hMW⟩, hF⟩, hL⟩

theorem met_twoD {l : Launch} {y : MethodName} {ws : List Cond} {rm : Room} {As : List Value} {D : va_G} {κ : Nat → ClassId} {A : Nat → Prop} {o q : Nat} {P1 P1' P2 : BS → Prop} {v : UInt64} {mc ms : Nat}
    (h : ∀ A : Nat → Prop, Met l y ws rm (va_Pc As (WB D κ A (B1 D κ A o P1))) (QWD A (B1 D κ A o P1') v) mc ms A) :
    Met l y ws rm (va_Pc As (WB D κ A (B2 D κ A o q P1 P2))) (QWD A (B2 D κ A o q P1' P2) v) mc ms A := by
  intro p e ha hc hk s m args below hf happ hpre hK
  obtain ⟨rfl, hw⟩ := hpre
  obtain ⟨ad1, ad2, b1, b2, h1, h2, h3, h4, h5, h6, h7⟩ := hw.cel
  obtain ⟨A', hA'⟩ : ∃ A' : Nat → Prop, A' = fun x => A x ∧ ∀ j e', celB κ ad2 nuW b2 j = some e' → x ≠ ad2 j := ⟨_, rfl⟩
  have sub : ∀ x, A' x → A x := fun x hx => by rw [hA'] at hx; exact hx.1
  have pre : WB D κ A' (B1 D κ A' o P1) s := by
    refine ⟨hw.1, fun x hx => ?_, va_S.rf, hw.2.2.2.1.narrow sub, ad1, b1, h1, h3, fun i e he => ⟨(h5.1 i e he).1, ?_⟩, h5.2⟩
    · rw [hA']
      refine ⟨hw.2.1 x hx, fun j e' hj hxe => ?_⟩
      have := (h6.1 j e' hj).1.lt
      have hx' : s.heap.size ≤ x := hx
      have hl : ad2 j < s.heap.size := this
      omega
    · rw [hA']
      exact ⟨(h5.1 i e he).2, fun j e' hj hxe => h7 i j e e' he hj hxe⟩
  obtain ⟨n, o', q1, q2, q3, ⟨⟨r, u, e1, e2, ad1', b1', g1, g2, g3⟩, hF⟩, L, hL1, hL2⟩ := h A' p e ha hc hk s m _ below hf happ ⟨rfl, pre⟩ hK
  refine ⟨n, o', q1, q2, q3, ⟨⟨r, (), e1, e2, ad1', ad2, b1', b2, g1, h2, g2, h4, g3.wide sub, ⟨fun j e' hj => ⟨(h6.1 j e' hj).1.kept ?_, (h6.1 j e' hj).2⟩, h6.2⟩, fun i j e e' he he' hx => ?_⟩, hF.1, fun x hx hnA => hF.2 x hx (fun w => hnA (sub x w))⟩, L, hL1, fun x hx => sub _ (hL2 x hx)⟩
  · refine hF.2 (ad2 j) (h6.1 j e' hj).1.lt (fun w => ?_)
    rw [hA'] at w
    exact w.2 j e' hj rfl
  · have w := (g3.1 i e he).2
    rw [hA'] at w
    exact w.2 j e' he' hx

section WT
variable {p : Program} {l : Launch} {e : Env} {R : Room} {s : State} {m : MethodId} {args : Array Value} {below : List Frame} {meth : Method} {c : Code} {H : Heap} {locs : List Loc} {cells slots : Nat} {Q : State → Prop}
variable {cc : ByteArray} {pc nL : Nat} {ls : Array Slot} {rest : List Value} {D : va_G} {κ : Nat → ClassId} {A : Nat → Prop} {B B' : Heap → Prop} {own : String} {lv : List (Nat × Value)} {mc ms o : Nat}
theorem w_callVD (X : CallFix p m c cc nL s args G0 own) (G : Wo D κ A B s H locs) {n index maxL : Nat} {As st : List Value} {y : MethodName} {b : ByteArray} {rm : Room} {v : UInt64} (h0 : rm.cells = 0) (h1 : rm.slots = 0)
    (hM : Met l y (gw y b maxL (some .double)) rm (va_Pc (.ref o :: As) (WB D κ A B)) (QWD A B' v) 0 0 A) (hi : ∃ cell : Cell, H[o]? = some cell ∧ cell.vm.isStatics = false ∧ s.vm.findClass RX7 = some cell.cls) (hG : GoodIn G0 (wsV own index RX7 y (gw y b maxL (some .double))))
    (hd : y.cls = RX7 ∧ y.cls ≠ "java/lang/invoke/MethodHandle" ∧ y.cls ≠ "java/lang/invoke/VarHandle" ∧ (parseMethodDescriptor y.desc).map (fun d => d.parameters.length) = some n) (hR : rm.frames + 1 ≤ R.frames ∧ 8 + (maxL + 11) + rm.locals ≤ R.locals) (hn : As.length = n) (hl : lv_has ls nL lv) (hst : st = As.reverse ++ .ref o :: rest) (hW : 2 * (F0 m pc ls st).monitorRoom + (rest.map fun v => v.category).sum ≤ 8) (hdg : decode cc pc = .ok (.invokevirtual index, 3)) (hf : cells ≤ R.cells ∧ slots ≤ R.slots)
    (kk : ∀ (H1 : Heap) (locs1 : List Loc), Wo D κ A B' s H1 locs1 → W p l e R s m args below meth c H1 locs1 cells slots Q (F0 m (pc + 3) ls (.double v :: rest))) : W p l e R s m args below meth c H locs cells slots Q (F0 m pc ls st) := by
  have hM' : Met l y (gw y b maxL (some .double)) rm (va_Pc (.ref o :: As) (WB D κ A B)) (QWD A B' v) rm.cells rm.slots A := by rw [h0, h1]; exact hM
  refine va_calld (va_runV X hM' (cwV n X.2.2.2.2 hG rfl rfl rfl hd hR) ⟨fun a U g mk q => ⟨q.1, q.2.blind⟩, hi, fun U hU hW => ⟨rfl, G.out hU hW⟩⟩ rfl hn hl.1 hst hW hdg (by rw [h0, h1]; exact hf)) G.S (fun q _ h => h) (fun q h => h) (fun r u t H1 locs1 ht hvm hw hB hz hk hS => ?_)
  subst hw
  rw [h0, h1]
  exact kk H1 locs1 (G.next (by rw [← ht]; exact hB) hS)
theorem w_cell (X : CallFix p m c cc nL s args G0 own) (G : Wo D κ A B s H locs) {bs L k index : Nat} {xs : Nat → Int32} (hX : va_X bs L xs s s.heap) (hbl : bs < s.heap.size) (hbA : ¬ A bs) (hL : L ≤ 260) (hk : k < 2 ^ 31) (hG : GoodIn G0 (va_wsS own index yL_cell (gw yL_cell cL_cell 2 (some (FieldType.int)))))
    (hR : 0 + 1 ≤ R.frames ∧ 8 + (2 + 11) + 0 ≤ R.locals) (hl : lv_has ls nL lv) (hW : 2 * (F0 m pc ls (.int (nI k) :: .ref bs :: rest)).monitorRoom + (rest.map fun v => v.category).sum ≤ 8) (hdg : decode cc pc = .ok (.invokestatic index, 3)) (hf : cells ≤ R.cells ∧ slots ≤ R.slots)
    (kk : ∀ (c0 : Nat) (H1 : Heap) (locs1 : List Loc), c0 < 2 ^ 31 → Wo D κ A B s H1 locs1 → W p l e R s m args below meth c H1 locs1 cells slots Q (F0 m (pc + 3) ls (.int (nI c0) :: rest))) : W p l e R s m args below meth c H locs cells slots Q (F0 m pc ls (.int (nI k) :: .ref bs :: rest)) := by
  refine va_calli (va_runS X (M_cell l D κ A B (bs := bs) (xs := xs) hL hk) (va_cwS 2 X.2.2.2.2 hG rfl rfl rfl hs_yL_cell hR) ⟨fun a U g mk q => ⟨q.1, q.2.1.blind, va_X.moved (u := U) (U := U.calling g mk a) (Vm.Alike.refl U.vm) q.2.2.1, q.2.2.2⟩, fun U hU hW => ⟨rfl, G.out hU hW, ?_, ?_, hbA⟩⟩ rfl rfl hl.1 rfl hW hdg hf) G.S (fun q _ h => h) (fun q h => h) (fun r u t H1 locs1 ht hvm hw hB hz hk hS => ?_)
  · rw [hU]
    exact (va_X.moved hW.alike hX).kept (G.S.2.1 bs hbl hbA)
  · rw [hU]; exact Nat.lt_of_lt_of_le hbl G.S.1
  · obtain ⟨c0, hc0, rfl⟩ := hw
    exact kk c0 H1 locs1 hc0 (G.next (by rw [← ht]; exact hB) hS)
end WT

theorem upO_cg {M M' : Nat → Option va_E} {i j : Nat} {e : va_E} (h : M j = M' j) : upO M i e j = upO M' i e j := by
  unfold upO
  by_cases c : j = i
  · rw [if_pos c, if_pos c]
  · rw [if_neg c, if_neg c]; exact h
theorem b0_lo {κ : Nat → ClassId} {ad' : Nat → Nat} {x0 : va_E} {M : Nat → Option va_E} (j : Nat) (h : M j = none) : celB κ ad' nuW b0_7 j = (upO (upO (upO (upO (upO (upO (upO (upO (upO (upO (upO (upO (upO (upO (upO (upO (upO (upO (upO (upO (upO (upO (upO (upO (upO (upO (upO (upO M 50 x0) 70 (.inr (5, [.null, .null, .int 0, .int 0, .int 0]))) 71 (.inl (κ 2, 26, .inr (.inr (.inr (.inr (fun _ => none))))))) 102 (.inr (3, [.null, .int 0, .int 0, .null]))) 103 (.inl (κ 0, 0, .inl (fun _ => 0)))) 104 (.inl (κ 0, 0, .inl (fun _ => 0)))) 102 (.inr (3, [(.ref (ad' 103)), .int 0, .int 0, (.ref (ad' 104))]))) 70 (.inr (5, [(.ref (ad' 71)), (.ref (ad' 102)), .int 8, .int 0, .int 0]))) 63 (.inr (2, [.null, .null, .int 0, .int 0]))) 64 (.inl (κ 3, 6, .inr (.inr (.inr (.inr (fun _ => none))))))) 65 (.inl (κ 3, 2, .inr (.inr (.inr (.inr (fun _ => none))))))) 63 (.inr (2, [.ref (ad' 64), .ref (ad' 65), .int 0, .int 0]))) 51 (.inl (κ 0, 60, .inl (fun _ => 0)))) 52 (.inr (4, [.null, .int 0, .int 0, .int 0, .int 0, .int 0, .int 0, .int 0, .int 0, .int 0]))) 53 (.inl (κ 0, 60, .inl (fun _ => 0)))) 52 (.inr (4, [.ref (ad' 53), .int 0, .int 0, .int 0, .int 0, .int 0, .int 0, .int 0, .int 0, .int 0]))) 54 (.inr (0, [.null, .null, .int 0]))) 55 (.inl (κ 0, 26, .inl (fun _ => 0)))) 56 (.inl (κ 0, 26, .inl (fun _ => 0)))) 54 (.inr (0, [.ref (ad' 55), .ref (ad' 56), .int 0]))) 57 (.inr (1, [.null, .null, .null, .null, .null, .int 0, .int 0, .int 0, .int 0, .int 0, .int 0, .int 0, .int 0, .int 0]))) 58 (.inl (κ 0, 28380, .inl (fun _ => 0)))) 59 (.inl (κ 0, 854, .inl (fun _ => 0)))) 60 (.inl (κ 0, 780, .inl (fun _ => 0)))) 61 (.inl (κ 0, 780, .inl (fun _ => 0)))) 62 (.inl (κ 0, 360, .inl (fun _ => 0)))) 57 (.inr (1, [.ref (ad' 58), .ref (ad' 59), .ref (ad' 60), .ref (ad' 61), .ref (ad' 62), .int 0, .int 0, .int 0, .int 0, .int 0, .int 0, .int 0, .int 0, .int 0]))) 50 (.inr (7, [.ref (ad' 70), .ref (ad' 63), .ref (ad' 51), .ref (ad' 52), .ref (ad' 54), .ref (ad' 57), .int 0]))) j := by
  refine (b0_world (x0 := x0) j).trans ?_
  iterate 28 refine upO_cg ?_
  exact h.symm
theorem b0_hi {κ : Nat → ClassId} {ad' : Nat → Nat} {x0 : va_E} {M : Nat → Option va_E} (j : Nat) (h : 200 ≤ j) : (upO (upO (upO (upO (upO (upO (upO (upO (upO (upO (upO (upO (upO (upO (upO (upO (upO (upO (upO (upO (upO (upO (upO (upO (upO (upO (upO (upO M 50 x0) 70 (.inr (5, [.null, .null, .int 0, .int 0, .int 0]))) 71 (.inl (κ 2, 26, .inr (.inr (.inr (.inr (fun _ => none))))))) 102 (.inr (3, [.null, .int 0, .int 0, .null]))) 103 (.inl (κ 0, 0, .inl (fun _ => 0)))) 104 (.inl (κ 0, 0, .inl (fun _ => 0)))) 102 (.inr (3, [(.ref (ad' 103)), .int 0, .int 0, (.ref (ad' 104))]))) 70 (.inr (5, [(.ref (ad' 71)), (.ref (ad' 102)), .int 8, .int 0, .int 0]))) 63 (.inr (2, [.null, .null, .int 0, .int 0]))) 64 (.inl (κ 3, 6, .inr (.inr (.inr (.inr (fun _ => none))))))) 65 (.inl (κ 3, 2, .inr (.inr (.inr (.inr (fun _ => none))))))) 63 (.inr (2, [.ref (ad' 64), .ref (ad' 65), .int 0, .int 0]))) 51 (.inl (κ 0, 60, .inl (fun _ => 0)))) 52 (.inr (4, [.null, .int 0, .int 0, .int 0, .int 0, .int 0, .int 0, .int 0, .int 0, .int 0]))) 53 (.inl (κ 0, 60, .inl (fun _ => 0)))) 52 (.inr (4, [.ref (ad' 53), .int 0, .int 0, .int 0, .int 0, .int 0, .int 0, .int 0, .int 0, .int 0]))) 54 (.inr (0, [.null, .null, .int 0]))) 55 (.inl (κ 0, 26, .inl (fun _ => 0)))) 56 (.inl (κ 0, 26, .inl (fun _ => 0)))) 54 (.inr (0, [.ref (ad' 55), .ref (ad' 56), .int 0]))) 57 (.inr (1, [.null, .null, .null, .null, .null, .int 0, .int 0, .int 0, .int 0, .int 0, .int 0, .int 0, .int 0, .int 0]))) 58 (.inl (κ 0, 28380, .inl (fun _ => 0)))) 59 (.inl (κ 0, 854, .inl (fun _ => 0)))) 60 (.inl (κ 0, 780, .inl (fun _ => 0)))) 61 (.inl (κ 0, 780, .inl (fun _ => 0)))) 62 (.inl (κ 0, 360, .inl (fun _ => 0)))) 57 (.inr (1, [.ref (ad' 58), .ref (ad' 59), .ref (ad' 60), .ref (ad' 61), .ref (ad' 62), .int 0, .int 0, .int 0, .int 0, .int 0, .int 0, .int 0, .int 0, .int 0]))) 50 (.inr (7, [.ref (ad' 70), .ref (ad' 63), .ref (ad' 51), .ref (ad' 52), .ref (ad' 54), .ref (ad' 57), .int 0]))) j = M j := by
  simp only [upO, show ¬ j = 50 by omega, show ¬ j = 51 by omega, show ¬ j = 52 by omega, show ¬ j = 53 by omega, show ¬ j = 54 by omega, show ¬ j = 55 by omega, show ¬ j = 56 by omega, show ¬ j = 57 by omega, show ¬ j = 58 by omega, show ¬ j = 59 by omega, show ¬ j = 60 by omega, show ¬ j = 61 by omega, show ¬ j = 62 by omega, show ¬ j = 63 by omega, show ¬ j = 64 by omega, show ¬ j = 65 by omega, show ¬ j = 70 by omega, show ¬ j = 71 by omega, show ¬ j = 102 by omega, show ¬ j = 103 by omega, show ¬ j = 104 by omega, if_false]
set_option maxHeartbeats 8000000 in
set_option maxRecDepth 100000 in
/-- the second book is made beside the first -/
theorem second_book {p : Program} {l : Launch} {e : Env} {s : State} {m : MethodId} {args : Array Value} {below : List Frame} {meth : Method} {c : Code} {H : Heap} {locs : List Loc} {cells slots : Nat} {Q : State → Prop} {ls : Array Slot} {D : va_G} {κ : Nat → ClassId} {A : Nat → Prop} {ad1 : Nat → Nat} {lv : List (Nat × Value)} (X : CallFix p m c cL_law 7 s args G0 RL) (G : Mm D κ A ad1 (celB κ ad1 nuW b0_7) s H locs) (hl : lv_has ls 7 lv) (hc : cells + 21 ≤ 600172) (hs : slots + 31407 ≤ 7300668)
    (kk : ∀ (q : Nat) (H1 : Heap) (locs1 : List Loc), Wo D κ A (B2 D κ A (ad1 50) q P0 P0) s H1 locs1 → W p l e room_1 s m args below meth c H1 locs1 (cells + 21) (slots + 31407) Q (F0 m 15 ls [.ref q])) : W p l e room_1 s m args below meth c H locs cells slots Q (F0 m 8 ls []) := by
  obtain ⟨M1, hM1⟩ : ∃ M1 : Nat → Option va_E, M1 = fun j => if 200 ≤ j then celB κ ad1 nuW b0_7 (j - 200) else none := ⟨_, rfl⟩
  obtain ⟨adM, hadM⟩ : ∃ adM : Nat → Nat, adM = fun j => if 200 ≤ j then ad1 (j - 200) else 0 := ⟨_, rfl⟩
  have m_lo : ∀ j, j < 200 → M1 j = none := fun j hj => by rw [hM1]; exact if_neg (by omega)
  have m_hi : ∀ i, M1 (i + 200) = celB κ ad1 nuW b0_7 i := fun i => by
    rw [hM1]
    show (if 200 ≤ i + 200 then celB κ ad1 nuW b0_7 (i + 200 - 200) else none) = _
    rw [if_pos (by omega), Nat.add_sub_cancel]
  have a_hi : ∀ i, adM (i + 200) = ad1 i := fun i => by
    rw [hadM]
    show (if 200 ≤ i + 200 then ad1 (i + 200 - 200) else 0) = _
    rw [if_pos (by omega), Nat.add_sub_cancel]
  have up : ∀ i x, M1 i = some x → ∃ k, i = k + 200 := fun i x hi => by
    refine ⟨i - 200, ?_⟩
    by_cases q : i < 200
    · rw [m_lo i q] at hi; cases hi
    · omega
  have G1 : Mm D κ A adM M1 s H locs := by
    refine ⟨G.1, fun i x hi => ?_, fun i j x y hi hj hij => ?_, G.2.2.2.1, G.2.2.2.2.1, G.2.2.2.2.2⟩
    · obtain ⟨k, rfl⟩ := up i x hi
      rw [m_hi] at hi
      rw [a_hi]
      exact G.2.1 k x hi
    · obtain ⟨k, rfl⟩ := up i x hi
      obtain ⟨k', rfl⟩ := up j y hj
      rw [m_hi] at hi hj
      rw [a_hi, a_hi] at hij
      have := G.2.2.1 k k' x y hi hj hij
      omega
  refine m_new (pc := 8) X G1 50 (ci := 7) (N := 7) (C := RX7) (T := TX7) (ty := tyX7) (fs := [.null, .null, .null, .null, .null, .null, .int 0]) (m_lo 50 (by decide)) rfl wl_X7 tyX7_ok (by decide +kernel) cl_L_10 ins_X7 ini_X7 (by show cells + 1 ≤ 600172; omega) (by show slots + 7 ≤ 7300668; omega) dL_law_8 (fun a7 H G => ?_)
  refine lv_dup (pc := 11) X.1 X.2.1 dL_law_11 rfl ?_
  have e7 : a7 = upA adM 50 a7 50 := upA_s.symm
  have f : ∀ j, j < 200 → j ≠ 50 → upO M1 50 (.inr (7, [.null, .null, .null, .null, .null, .null, .int 0])) j = none := fun j h1 h2 => (upO_n h2).trans (m_lo j h1)
  refine m_callC (pc := 12) (As := []) (rest := [.ref a7]) (n := 0) (a := a7) X G (rm := rm7_init) (by have q := c7_init l D κ A (upA adM 50 a7) (upO M1 50 (.inr (7, [.null, .null, .null, .null, .null, .null, .int 0]))) (f 70 (by decide) (by decide)) (f 71 (by decide) (by decide)) (f 102 (by decide) (by decide)) (f 103 (by decide) (by decide)) (f 104 (by decide) (by decide)) (f 63 (by decide) (by decide)) (f 64 (by decide) (by decide)) (f 65 (by decide) (by decide)) (f 51 (by decide) (by decide)) (f 52 (by decide) (by decide)) (f 53 (by decide) (by decide)) (f 54 (by decide) (by decide)) (f 55 (by decide) (by decide)) (f 56 (by decide) (by decide)) (f 57 (by decide) (by decide)) (f 58 (by decide) (by decide)) (f 59 (by decide) (by decide)) (f 60 (by decide) (by decide)) (f 61 (by decide) (by decide)) (f 62 (by decide) (by decide)) upO_s; rw [← e7] at q; exact q) ml_L_136 rfl im_yX7_init ini_X7 cd_yX7_init (by decide +kernel) ⟨Nat.le_of_ble_eq_true rfl, Nat.le_of_ble_eq_true rfl⟩ rfl hl rfl (lv_room (Nat.le_of_ble_eq_true rfl)) dL_law_12 ⟨by show cells + 1 + 20 ≤ 600172; omega, by show slots + 7 + 31400 ≤ 7300668; omega⟩ (fun ad2 H locs hok G => ?_)
  have n8 : ∀ j, 200 ≤ j ∨ j = 50 → j ∉ ([70, 71, 102, 103, 104, 63, 64, 65, 51, 52, 53, 54, 55, 56, 57, 58, 59, 60, 61, 62] : List Nat) := by
    intro j hj h
    simp only [List.mem_cons, List.not_mem_nil, or_false] at h
    omega
  have f50 : a7 = ad2 50 := e7.trans (hok 50 (n8 50 (Or.inr rfl))).symm
  have ad2_hi : ∀ i, ad2 (i + 200) = ad1 i := fun i => by
    rw [hok (i + 200) (n8 _ (Or.inl (by omega))), upA_n (by omega)]; exact a_hi i
  have hi : ∀ i x, celB κ ad1 nuW b0_7 i = some x → va_at D vwCl (ad1 i, x) H ∧ A (ad1 i) := fun i x hx => by
    have q := G.2.1 (i + 200) x ((b0_hi (i + 200) (by omega)).trans ((m_hi i).trans hx))
    rw [ad2_hi] at q; exact q
  have small : ∀ j x, celB κ ad2 nuW b0_7 j = some x → j < 200 := fun j x hx => by
    have d : lvB b0_7.2.2 j = true := by
      by_cases c : j < 50
      · have : celB κ ad2 nuW b0_7 j = none := by unfold celB; rw [if_pos c]; rfl
        rw [this] at hx; cases hx
      · by_cases d : lvB b0_7.2.2 j = true
        · exact d
        · have : celB κ ad2 nuW b0_7 j = none := by unfold celB; rw [if_neg c, if_neg d]
          rw [this] at hx; cases hx
    rw [b0_lv] at d
    omega
  refine W.widen (k := cells + 21) (n := slots + 31407) (by show cells + 1 + 20 ≤ _; omega) (by show slots + 7 + 31400 ≤ _; omega) ?_
  rw [f50]
  refine kk (ad2 50) H locs (G.wo ⟨ad1, ad2, b0_7, b0_7, rfl, rfl, P0_at, P0_at, ⟨hi, fun i j x y hx hy hxy => ?_⟩, ⟨fun j x hx => ?_, fun i j x y hx hy hxy => ?_⟩, fun i j x y hx hy hxy => ?_⟩)
  · have := G.2.2.1 (i + 200) (j + 200) x y ((b0_hi (i + 200) (by omega)).trans ((m_hi i).trans hx)) ((b0_hi (j + 200) (by omega)).trans ((m_hi j).trans hy)) (by rw [ad2_hi, ad2_hi]; exact hxy)
    omega
  · have q := small j x hx
    exact G.2.1 j x ((b0_lo j (m_lo j q)).symm.trans hx)
  · have q1 := small i x hx
    have q2 := small j y hy
    exact G.2.2.1 i j x y ((b0_lo i (m_lo i q1)).symm.trans hx) ((b0_lo j (m_lo j q2)).symm.trans hy) hxy
  · have q2 := small j y hy
    have := G.2.2.1 (i + 200) j x y ((b0_hi (i + 200) (by omega)).trans ((m_hi i).trans hx)) ((b0_lo j (m_lo j q2)).symm.trans hy) (by rw [ad2_hi]; exact hxy)
    omega
