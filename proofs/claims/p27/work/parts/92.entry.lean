/-! THE ENTRY: what the statement gives of the start -/
section EN
variable {s : State} {args : Array Value}
theorem arr_known {ty : FieldType} (h : (Cond.arrayClass ty).before args s = true) (hp : ∀ U cA, va_RA U cA ty = (U.vm.findClass ("[" ++ ty.toString) = some cA)) : ∃ cA, ArrOfT s cA ty ∧ va_RA s cA ty := by
  obtain ⟨c, k, comp, h1, h2, h3⟩ := Cond.arrayClass_spec (show (Cond.arrayClass ty).holds args s none s [] = true from h)
  exact ⟨c, fun n z => ⟨fun k h => (by cases h), k, h2, comp, h3⟩, by rw [hp]; exact h1⟩
theorem arr_over {C : String} (h : (Cond.arrayOver (.object C)).before args s = true) : ∃ cA, ArrOfT s cA (.object C) ∧ va_RA s cA (.object C) := by
  obtain ⟨comp, c, k, h1, h2, h3, h4, h5⟩ := Cond.arrayOver_spec (show (Cond.arrayOver (.object C)).holds args s none s [] = true from h)
  exact ⟨c, fun n z => ⟨fun k h => (by cases h), k, h3, comp, h4⟩, ⟨k, comp, h3, h4, h1, h5⟩⟩
theorem str_known {own tx : String} {k : Nat} {m : ClassId} (hown : s.vm.findClass own = some m) (h : (Cond.stringRef own k tx).before args s = true) : ∃ a, vk_R own k tx a s := by
  obtain ⟨k', cf, i, a, -, -, -, -, -, hev⟩ := Cond.stringRef_spec hown h
  exact ⟨a, vk_R.of h hev⟩
theorem entry_K (hts : ∀ w ∈ lw_tbl, w.before args s = true) : ∃ (D : va_G) (κ : Nat → ClassId), va_K D vwCl (tysK κ) s := by
  have hG : ∀ w ∈ G0, w.before args s = true := fun w hw => hts w (List.mem_filter.mp hw).1
  obtain ⟨c0, i0, k0⟩ := u_known (C := RX0) (T := TX0) (N := 3) (n := 3) hG wl_X0 (hG _ ins_X0)
  obtain ⟨c1, i1, k1⟩ := u_known (C := RX1) (T := TX1) (N := 14) (n := 14) hG wl_X1 (hG _ ins_X1)
  obtain ⟨c2, i2, k2⟩ := u_known (C := RX2) (T := TX2) (N := 4) (n := 4) hG wl_X2 (hG _ ins_X2)
  obtain ⟨c3, i3, k3⟩ := u_known (C := RX3) (T := TX3) (N := 4) (n := 4) hG wl_X3 (hG _ ins_X3)
  obtain ⟨c4, i4, k4⟩ := u_known (C := RX4) (T := TX4) (N := 10) (n := 10) hG wl_X4 (hG _ ins_X4)
  obtain ⟨c5, i5, k5⟩ := u_known (C := RX5) (T := TX5) (N := 5) (n := 5) hG wl_X5 (hG _ ins_X5)
  obtain ⟨c6, i6, k6⟩ := u_known (C := RX6) (T := TX6) (N := 7) (n := 7) hG wl_X6 (hG _ ins_X6)
  obtain ⟨c7, i7, k7⟩ := u_known (C := RX7) (T := TX7) (N := 7) (n := 7) hG wl_X7 (hG _ ins_X7)
  obtain ⟨a0, r0, r0'⟩ := arr_known (ty := .int) (hts _ (List.mem_of_getElem? (i := 83) (by decide +kernel))) (fun _ _ => rfl)
  obtain ⟨a2, r2, r2'⟩ := arr_over (C := RX6) (hts _ (List.mem_of_getElem? (i := 60) (by decide +kernel)))
  obtain ⟨a3, r3, r3'⟩ := arr_over (C := RX5) (hts _ (List.mem_of_getElem? (i := 112) (by decide +kernel)))
  refine ⟨(fun k => match k with | 0 => c0 | 1 => c1 | 2 => c2 | 3 => c3 | 4 => c4 | 5 => c5 | 6 => c6 | _ => c7, fun k => match k with | 0 => i0 | 1 => i1 | 2 => i2 | 3 => i3 | 4 => i4 | 5 => i5 | 6 => i6 | _ => i7), fun k => match k with | 0 => a0 | 2 => a2 | _ => a3, fun c q hq => ?_, fun k q hq => ?_⟩
  · match c, hq with
    | 0, hq => cases hq; exact k0
    | 1, hq => cases hq; exact k1
    | 2, hq => cases hq; exact k2
    | 3, hq => cases hq; exact k3
    | 4, hq => cases hq; exact k4
    | 5, hq => cases hq; exact k5
    | 6, hq => cases hq; exact k6
    | 7, hq => cases hq; exact k7
    | c + 8, hq => simp at hq
  · match k, hq with
    | 0, hq => cases hq; exact ⟨r0, r0'⟩
    | 1, hq => cases hq; exact ⟨r0, r0'⟩
    | 2, hq => cases hq; exact ⟨r2, r2'⟩
    | 3, hq => cases hq; exact ⟨r3, r3'⟩
    | k + 4, hq => simp at hq
theorem entry_TH (hts : ∀ w ∈ lw_tbl, w.before args s = true) (hgv : (Jvm.Cond.and given_1 narrow_1).before args s = true) : TH (fun q : Nat => s.heap.size ≤ q) s := by
  have hs := flat_of_before _ hgv
  have hG : ∀ w ∈ G0, w.before args s = true := fun w hw => hts w (List.mem_filter.mp hw).1
  have hA : ∀ a : Nat, a < s.heap.size → ¬ (fun q : Nat => s.heap.size ≤ q) a := fun a h => Nat.not_le.mpr h
  obtain ⟨cC, kC, hfc, -, -, -⟩ := Cond.instantiable_spec (hG _ ins_X7)
  refine ⟨vx_Zqof (hts _ (List.mem_of_getElem? (i := 362) (by decide +kernel))) (hts _ (List.mem_of_getElem? (i := 34) (by decide +kernel))) (hs _ (by decide +kernel)) hA, vx_Zqof (hts _ (List.mem_of_getElem? (i := 364) (by decide +kernel))) (hts _ (List.mem_of_getElem? (i := 34) (by decide +kernel))) (hs _ (by decide +kernel)) hA, ?_, ?_, ?_, ?_, ?_, ?_⟩
  · intro q hq
    simp only [thS, List.mem_cons, List.not_mem_nil, or_false] at hq
    rcases hq with rfl | rfl | rfl | rfl | rfl | rfl | rfl | rfl | rfl | rfl | rfl | rfl
    · exact str_known hfc (hts _ (List.mem_of_getElem? (i := 506) (by decide +kernel)))
    · exact str_known hfc (hts _ (List.mem_of_getElem? (i := 584) (by decide +kernel)))
    · exact str_known hfc (hts _ (List.mem_of_getElem? (i := 522) (by decide +kernel)))
    · exact str_known hfc (hts _ (List.mem_of_getElem? (i := 541) (by decide +kernel)))
    · exact str_known hfc (hts _ (List.mem_of_getElem? (i := 567) (by decide +kernel)))
    · exact str_known hfc (hts _ (List.mem_of_getElem? (i := 568) (by decide +kernel)))
    · exact str_known hfc (hts _ (List.mem_of_getElem? (i := 448) (by decide +kernel)))
    · exact str_known hfc (hts _ (List.mem_of_getElem? (i := 465) (by decide +kernel)))
    · exact str_known hfc (hts _ (List.mem_of_getElem? (i := 470) (by decide +kernel)))
    · exact str_known hfc (hts _ (List.mem_of_getElem? (i := 376) (by decide +kernel)))
    · exact str_known hfc (hts _ (List.mem_of_getElem? (i := 736) (by decide +kernel)))
    · exact str_known hfc (hts _ (List.mem_of_getElem? (i := 823) (by decide +kernel)))
  · intro q hq
    simp only [thD, List.mem_cons, List.not_mem_nil, or_false] at hq
    rcases hq with rfl | rfl | rfl
    · exact va_Nw.of rfl (hts _ (List.mem_of_getElem? (i := 339) (by decide +kernel)))
    · exact va_Nw.of rfl (hts _ (List.mem_of_getElem? (i := 341) (by decide +kernel)))
    · exact va_Nw.of rfl (hts _ (List.mem_of_getElem? (i := 343) (by decide +kernel)))
  · intro q hq
    simp only [thC, List.mem_cons, List.not_mem_nil, or_false] at hq
    rcases hq with rfl | rfl | rfl | rfl
    · exact va_Nw.of rfl (hts _ (List.mem_of_getElem? (i := 499) (by decide +kernel)))
    · exact va_Nw.of rfl (hts _ (List.mem_of_getElem? (i := 337) (by decide +kernel)))
    · exact va_Nw.of rfl (hts _ (List.mem_of_getElem? (i := 441) (by decide +kernel)))
    · exact va_Nw.of rfl (hts _ (List.mem_of_getElem? (i := 603) (by decide +kernel)))
  · intro q hq
    simp only [thM, List.mem_cons, List.not_mem_nil, or_false] at hq
    rcases hq with rfl | rfl | rfl | rfl | rfl | rfl | rfl | rfl | rfl | rfl
    · exact va_Nw.of rfl (hts _ (List.mem_of_getElem? (i := 55) (by decide +kernel)))
    · exact va_Nw.of rfl (hts _ (List.mem_of_getElem? (i := 107) (by decide +kernel)))
    · exact va_Nw.of rfl (hts _ (List.mem_of_getElem? (i := 129) (by decide +kernel)))
    · exact va_Nw.of rfl (hts _ (List.mem_of_getElem? (i := 174) (by decide +kernel)))
    · exact va_Nw.of rfl (hts _ (List.mem_of_getElem? (i := 190) (by decide +kernel)))
    · exact va_Nw.of rfl (hts _ (List.mem_of_getElem? (i := 275) (by decide +kernel)))
    · exact va_Nw.of rfl (hts _ (List.mem_of_getElem? (i := 521) (by decide +kernel)))
    · exact va_Nw.of rfl (hts _ (List.mem_of_getElem? (i := 777) (by decide +kernel)))
    · exact va_Nw.of rfl (hts _ (List.mem_of_getElem? (i := 478) (by decide +kernel)))
    · exact va_Nw.of rfl (hts _ (List.mem_of_getElem? (i := 692) (by decide +kernel)))
  · intro q hq
    simp only [thN, List.mem_cons, List.not_mem_nil, or_false] at hq
    rcases hq with rfl | rfl | rfl | rfl
    · exact va_Nc.of (hs _ (by decide +kernel))
    · exact va_Nc.of (hs _ (by decide +kernel))
    · exact va_Nc.of (hs _ (by decide +kernel))
    · exact va_Nc.of (hs _ (by decide +kernel))
  · intro q hq
    simp only [thA, List.mem_cons, List.not_mem_nil, or_false] at hq
    rcases hq with rfl | rfl
    · exact va_AO.of (A := args) (hts _ (List.mem_of_getElem? (i := 60) (by decide +kernel)))
    · exact va_AO.of (A := args) (hts _ (List.mem_of_getElem? (i := 112) (by decide +kernel)))
end EN
