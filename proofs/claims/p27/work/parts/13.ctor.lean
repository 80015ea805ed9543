/-! CONSTRUCTORS -/
theorem met_ofI {l : Launch} {y : MethodName} {own : String} {b : ByteArray} {nL : Nat} {ret : Option FieldType} {rm : Room} {As : List Value} {D : va_G} {κ : Nat → ClassId} {A : Nat → Prop} {ad : Nat → Nat} {M : Nat → Option va_E} {Qc : Array Value → State → Outcome → State → Prop} {mc ms : Nat} (hy : plainName y.cls = true) (hny : y.name = "<init>") (ho : y.cls = own) (hn : (lg_sl As).length ≤ nL)
    (body : ∀ (p : Program) (e : Env) (s : State) (m : MethodId) (below : List Frame) (meth : Method) (c : Code) (ls : Array Slot), CallFix p m c b nL s As.toArray G0 own → meth.sig.returnType = ret → meth.locks = false → meth.name = "<init>" → Mm D κ A ad M s s.heap [] → lv_has ls nL (lv_args 0 As) → W p l e rm s m As.toArray below meth c s.heap [] 0 0 (MQ below Qc As.toArray s mc ms A) (F0 m 0 ls [])) : Met l y (gw y b nL ret) rm (va_Pc As (MW D κ A ad M)) Qc mc ms A := by
  refine Met.ofW (cc := b) (maxL := nL) (ret := ret) hy rfl ?_
  intro p e s m args below meth c s₁ B hml hv
  obtain ⟨rfl, hG⟩ := hv
  have hts := atoms_spec (ws := gw y b nL ret) B.pre
  have hown : s.vm.findClass own = some m.cls := by rw [← ho]; exact findClass_of_methodNamed B.named
  have hin : meth.name = "<init>" := (name_of_methodNamed B.named B.method).1.trans hny
  have hl := lv_entry As (n := nL) hn
  rw [lg_entry_eq]
  exact body p e s m below meth c _ ⟨B.exec, B.bytes, hml, hown, fun w hw => hts w (List.mem_cons_of_mem _ hw)⟩ B.returns B.notSynchronized hin hG hl
theorem upO_upO {M : Nat → Option va_E} {i : Nat} {x y : va_E} : upO (upO M i x) i y = upO M i y := by
  funext j; unfold upO; by_cases h : j = i <;> simp [h]
theorem upO_comm {M : Nat → Option va_E} {i k : Nat} {x y : va_E} (h : k ≠ i) : upO (upO M i x) k y = upO (upO M k y) i x := by
  funext j; unfold upO
  by_cases h1 : j = i
  · subst h1; simp [Ne.symm h, h]
  · by_cases h2 : j = k
    · subst h2; simp [h1]
    · simp [h1, h2]
/-- an end behind which addresses may be new ones -/
abbrev QVC (D : va_G) (A : Nat → Prop) (ok : (Nat → Nat) → Prop) (M' : (Nat → Nat) → Nat → Option va_E) : Array Value → State → Outcome → State → Prop := va_Qv (fun (ad' : Nat → Nat) => ok ad') (fun ad' t => MC D A ad' (M' ad') t.heap) A
section CT
variable {p : Program} {l : Launch} {e : Env} {R : Room} {s : State} {m : MethodId} {args : Array Value} {below : List Frame} {meth : Method} {c : Code} {H : Heap} {locs : List Loc} {cells slots : Nat} {Q : State → Prop}
variable {cc : ByteArray} {pc nL : Nat} {ls : Array Slot} {rest : List Value} {D : va_G} {κ : Nat → ClassId} {A : Nat → Prop} {ad : Nat → Nat} {own : String} {lv : List (Nat × Value)} {M : Nat → Option va_E}
theorem C_ret (X : CallFix p m c cc nL s args G0 own) (G : Mm D κ A ad M s H locs) {ok : (Nat → Nat) → Prop} {M' : (Nat → Nat) → Nat → Option va_E} (hr : meth.sig.returnType = none) (hl : meth.locks = false) (hdg : decode cc pc = .ok (.return_, 1)) (hok : ok ad) (hM : M = M' ad) : W p l e R s m args below meth c H locs cells slots (MQ below (QVC D A ok M') args s cells slots A) (F0 m pc ls []) :=
  W.vret X.1 X.2.1 hr (fun t ht hW => ⟨⟨ad, rfl, hok, by show MC D A ad (M' ad) t.heap; rw [ht, ← hM]; exact G.mc⟩, G.2.2.2.2.1.F ht⟩) G.2.2.2.2.1.2.2 hdg hl
theorem C_obj (X : CallFix p m c cc nL s args G0 own) {index a : Nat} (hl : lv_has ls nL lv) (h1 : Cond.methodLink own index objectInit ∈ G0) (hdg : decode cc pc = .ok (.invokespecial index, 3)) (hf : 1 ≤ R.frames) (hlo : 12 ≤ R.locals) (kk : W p l e R s m args below meth c H locs cells slots Q (F0 m (pc + 3) ls [])) : W p l e R s m args below meth c H locs cells slots Q (F0 m pc ls [.ref a]) :=
  W.objInit X.1 X.2.1 X.2.2.2.1 (X.2.2.2.2 _ h1) (X.2.2.2.2 _ im_oi) (X.2.2.2.2 _ cd_oi) rfl (hl.1.trans X.2.2.1.symm) rfl hdg hf (by show 2 * 0 + 0 + 12 ≤ _; omega) kk
theorem upO_self {M : Nat → Option va_E} {i : Nat} {e : va_E} (h : M i = some e) (j : Nat) : upO M i e j = M j := by
  unfold upO; by_cases c : j = i
  · rw [if_pos c, c, h]
  · rw [if_neg c]
end CT
abbrev rm3_init : Room := { frames := 1, cells := 0, slots := 0, locals := 12 }
set_option maxHeartbeats 4000000 in
set_option maxRecDepth 100000 in
theorem c3_init (l : Launch) (D : va_G) (κ : Nat → ClassId) (A : Nat → Prop) (ad : Nat → Nat) (M : Nat → Option va_E) (i : Nat) (p1 : Nat) (p2 : Nat) (p3 : Int32) (p4 : Int32) (hM : M i = some (.inr (3, [.null, .int 0, .int 0, .null]))) : Met l yX3_init (gw yX3_init cX3_init 5 none) rm3_init (va_Pc [.ref (ad i), .ref p1, .ref p2, .int p3, .int p4] (MW D κ A ad M)) (QVC D A (fun ad' => ∀ j, j ∉ ([] : List Nat) → ad' j = ad j) (fun ad' => upO M i (.inr (3, [.ref p1, .int p3, .int p4, .ref p2])))) 0 0 A := by
  refine met_ofI (own := RX3) (by decide +kernel) rfl rfl (Nat.le_of_ble_eq_true rfl) ?_
  intro p e s m below meth c ls X hr hlk hin G hl
  have hl : lv_has ls 5 [(0, .ref (ad i)), (1, .ref p1), (2, .ref p2), (3, .int p3), (4, .int p4)] := hl
  have G : Mm D κ A ad (upO M i (.inr (3, [.null, .int 0, .int 0, .null]))) s s.heap [] := G.same (fun j => upO_self hM j)
  refine lv_aload_n (pc := 0) X.1 X.2.1 dX3_init_0 rfl (lv_at hl 0 rfl) ?_
  refine C_obj (pc := 1) X hl ml_X3_3 dX3_init_1 (Nat.le_of_ble_eq_true rfl) (Nat.le_of_ble_eq_true rfl) ?_
  refine lv_aload_n (pc := 4) X.1 X.2.1 dX3_init_4 rfl (lv_at hl 0 rfl) ?_
  refine lv_aload_n (pc := 5) X.1 X.2.1 dX3_init_5 rfl (lv_at hl 1 rfl) ?_
  refine m_putF (pc := 6) X G (i := i) (k := 0) (v := .ref p1) rfl upO_s rfl wl_X3 tyX3_ok nmX3 (by decide) fl_X3_9 rfl rfl rfl hin rfl rfl (Nat.le_of_ble_eq_true rfl) dX3_init_6 (fun H locs G => ?_)
  have G : Mm D κ A ad (upO M i (.inr (3, [.ref p1, .int 0, .int 0, .null]))) s H locs := by rw [upO_upO] at G; exact G
  refine lv_aload_n (pc := 9) X.1 X.2.1 dX3_init_9 rfl (lv_at hl 0 rfl) ?_
  refine lv_aload_n (pc := 10) X.1 X.2.1 dX3_init_10 rfl (lv_at hl 2 rfl) ?_
  refine m_putF (pc := 11) X G (i := i) (k := 3) (v := .ref p2) rfl upO_s rfl wl_X3 tyX3_ok nmX3 (by decide) fl_X3_15 rfl rfl rfl hin rfl rfl (Nat.le_of_ble_eq_true rfl) dX3_init_11 (fun H locs G => ?_)
  have G : Mm D κ A ad (upO M i (.inr (3, [.ref p1, .int 0, .int 0, .ref p2]))) s H locs := by rw [upO_upO] at G; exact G
  refine lv_aload_n (pc := 14) X.1 X.2.1 dX3_init_14 rfl (lv_at hl 0 rfl) ?_
  refine lv_iload_n (pc := 15) X.1 X.2.1 dX3_init_15 rfl (lv_at hl 3 rfl) ?_
  refine m_putF (pc := 16) X G (i := i) (k := 1) (v := .int p3) rfl upO_s rfl wl_X3 tyX3_ok nmX3 (by decide) fl_X3_18 rfl rfl rfl hin rfl rfl (Nat.le_of_ble_eq_true rfl) dX3_init_16 (fun H locs G => ?_)
  have G : Mm D κ A ad (upO M i (.inr (3, [.ref p1, .int p3, .int 0, .ref p2]))) s H locs := by rw [upO_upO] at G; exact G
  refine lv_aload_n (pc := 19) X.1 X.2.1 dX3_init_19 rfl (lv_at hl 0 rfl) ?_
  refine lv_iload (pc := 20) X.1 X.2.1 dX3_init_20 (lv_at hl 4 rfl) ?_
  refine m_putF (pc := 22) X G (i := i) (k := 2) (v := .int p4) rfl upO_s rfl wl_X3 tyX3_ok nmX3 (by decide) fl_X3_22 rfl rfl rfl hin rfl rfl (Nat.le_of_ble_eq_true rfl) dX3_init_22 (fun H locs G => ?_)
  have G : Mm D κ A ad (upO M i (.inr (3, [.ref p1, .int p3, .int p4, .ref p2]))) s H locs := by rw [upO_upO] at G; exact G
  exact C_ret (pc := 25) X G hr hlk dX3_init_25 (fun j hj => by simp only [List.mem_cons, List.not_mem_nil, or_false, not_or] at hj; simp [upA, hj]) rfl
abbrev rm6_init : Room := { frames := 1, cells := 0, slots := 0, locals := 12 }
set_option maxHeartbeats 4000000 in
set_option maxRecDepth 100000 in
theorem c6_init (l : Launch) (D : va_G) (κ : Nat → ClassId) (A : Nat → Prop) (ad : Nat → Nat) (M : Nat → Option va_E) (i : Nat) (p1 : Nat) (hM : M i = some (.inr (6, [.null, .int 0, .int 0, .int 0, .int 0, .int 0, .int 0]))) (hi : i ≠ 52) (rf : Nat → Int32) (ra : Nat) (hR : M 52 = some (.inr (4, [.ref ra, .int (rf 1), .int (rf 2), .int (rf 3), .int (rf 4), .int (rf 5), .int (rf 6), .int (rf 7), .int (rf 8), .int (rf 9)]))) : Met l yX6_init (gw yX6_init cX6_init 3 none) rm6_init (va_Pc [.ref (ad i), .ref p1, .ref (ad 52)] (MW D κ A ad M)) (QVC D A (fun ad' => ∀ j, j ∉ ([] : List Nat) → ad' j = ad j) (fun ad' => upO M i (.inr (6, [.ref p1, .int (rf 4), .int (rf 5), .int (rf 6), .int (rf 7), .int (rf 8), .int (rf 9)])))) 0 0 A := by
  refine met_ofI (own := RX6) (by decide +kernel) rfl rfl (Nat.le_of_ble_eq_true rfl) ?_
  intro p e s m below meth c ls X hr hlk hin G hl
  have hl : lv_has ls 3 [(0, .ref (ad i)), (1, .ref p1), (2, .ref (ad 52))] := hl
  have G : Mm D κ A ad (upO M i (.inr (6, [.null, .int 0, .int 0, .int 0, .int 0, .int 0, .int 0]))) s s.heap [] := G.same (fun j => upO_self hM j)
  refine lv_aload_n (pc := 0) X.1 X.2.1 dX6_init_0 rfl (lv_at hl 0 rfl) ?_
  refine C_obj (pc := 1) X hl ml_X6_1 dX6_init_1 (Nat.le_of_ble_eq_true rfl) (Nat.le_of_ble_eq_true rfl) ?_
  refine lv_aload_n (pc := 4) X.1 X.2.1 dX6_init_4 rfl (lv_at hl 0 rfl) ?_
  refine lv_aload_n (pc := 5) X.1 X.2.1 dX6_init_5 rfl (lv_at hl 1 rfl) ?_
  refine m_putF (pc := 6) X G (i := i) (k := 0) (v := .ref p1) rfl upO_s rfl wl_X6 tyX6_ok nmX6 (by decide) fl_X6_7 rfl rfl rfl hin rfl rfl (Nat.le_of_ble_eq_true rfl) dX6_init_6 (fun H locs G => ?_)
  have G : Mm D κ A ad (upO M i (.inr (6, [.ref p1, .int 0, .int 0, .int 0, .int 0, .int 0, .int 0]))) s H locs := by rw [upO_upO] at G; exact G
  refine lv_aload_n (pc := 9) X.1 X.2.1 dX6_init_9 rfl (lv_at hl 0 rfl) ?_
  refine lv_aload_n (pc := 10) X.1 X.2.1 dX6_init_10 rfl (lv_at hl 2 rfl) ?_
  refine m_get (pc := 11) X G (i := 52) (ci := 4) (k := 4) (v := .int (rf 4)) (T := TX4) (C := RX4) (N := 10) ((upO_n (Ne.symm hi)).trans hR) rfl wl_X4 (by decide) fl_X6_13 rfl rfl dX6_init_11 ?_
  refine m_putF (pc := 14) X G (i := i) (k := 1) (v := .int (rf 4)) rfl upO_s rfl wl_X6 tyX6_ok nmX6 (by decide) fl_X6_19 rfl rfl rfl hin rfl rfl (Nat.le_of_ble_eq_true rfl) dX6_init_14 (fun H locs G => ?_)
  have G : Mm D κ A ad (upO M i (.inr (6, [.ref p1, .int (rf 4), .int 0, .int 0, .int 0, .int 0, .int 0]))) s H locs := by rw [upO_upO] at G; exact G
  refine lv_aload_n (pc := 17) X.1 X.2.1 dX6_init_17 rfl (lv_at hl 0 rfl) ?_
  refine lv_aload_n (pc := 18) X.1 X.2.1 dX6_init_18 rfl (lv_at hl 2 rfl) ?_
  refine m_get (pc := 19) X G (i := 52) (ci := 4) (k := 5) (v := .int (rf 5)) (T := TX4) (C := RX4) (N := 10) ((upO_n (Ne.symm hi)).trans hR) rfl wl_X4 (by decide) fl_X6_20 rfl rfl dX6_init_19 ?_
  refine m_putF (pc := 22) X G (i := i) (k := 2) (v := .int (rf 5)) rfl upO_s rfl wl_X6 tyX6_ok nmX6 (by decide) fl_X6_23 rfl rfl rfl hin rfl rfl (Nat.le_of_ble_eq_true rfl) dX6_init_22 (fun H locs G => ?_)
  have G : Mm D κ A ad (upO M i (.inr (6, [.ref p1, .int (rf 4), .int (rf 5), .int 0, .int 0, .int 0, .int 0]))) s H locs := by rw [upO_upO] at G; exact G
  refine lv_aload_n (pc := 25) X.1 X.2.1 dX6_init_25 rfl (lv_at hl 0 rfl) ?_
  refine lv_aload_n (pc := 26) X.1 X.2.1 dX6_init_26 rfl (lv_at hl 2 rfl) ?_
  refine m_get (pc := 27) X G (i := 52) (ci := 4) (k := 6) (v := .int (rf 6)) (T := TX4) (C := RX4) (N := 10) ((upO_n (Ne.symm hi)).trans hR) rfl wl_X4 (by decide) fl_X6_24 rfl rfl dX6_init_27 ?_
  refine m_putF (pc := 30) X G (i := i) (k := 3) (v := .int (rf 6)) rfl upO_s rfl wl_X6 tyX6_ok nmX6 (by decide) fl_X6_27 rfl rfl rfl hin rfl rfl (Nat.le_of_ble_eq_true rfl) dX6_init_30 (fun H locs G => ?_)
  have G : Mm D κ A ad (upO M i (.inr (6, [.ref p1, .int (rf 4), .int (rf 5), .int (rf 6), .int 0, .int 0, .int 0]))) s H locs := by rw [upO_upO] at G; exact G
  refine lv_aload_n (pc := 33) X.1 X.2.1 dX6_init_33 rfl (lv_at hl 0 rfl) ?_
  refine lv_aload_n (pc := 34) X.1 X.2.1 dX6_init_34 rfl (lv_at hl 2 rfl) ?_
  refine m_get (pc := 35) X G (i := 52) (ci := 4) (k := 7) (v := .int (rf 7)) (T := TX4) (C := RX4) (N := 10) ((upO_n (Ne.symm hi)).trans hR) rfl wl_X4 (by decide) fl_X6_28 rfl rfl dX6_init_35 ?_
  refine m_putF (pc := 38) X G (i := i) (k := 4) (v := .int (rf 7)) rfl upO_s rfl wl_X6 tyX6_ok nmX6 (by decide) fl_X6_31 rfl rfl rfl hin rfl rfl (Nat.le_of_ble_eq_true rfl) dX6_init_38 (fun H locs G => ?_)
  have G : Mm D κ A ad (upO M i (.inr (6, [.ref p1, .int (rf 4), .int (rf 5), .int (rf 6), .int (rf 7), .int 0, .int 0]))) s H locs := by rw [upO_upO] at G; exact G
  refine lv_aload_n (pc := 41) X.1 X.2.1 dX6_init_41 rfl (lv_at hl 0 rfl) ?_
  refine lv_aload_n (pc := 42) X.1 X.2.1 dX6_init_42 rfl (lv_at hl 2 rfl) ?_
  refine m_get (pc := 43) X G (i := 52) (ci := 4) (k := 8) (v := .int (rf 8)) (T := TX4) (C := RX4) (N := 10) ((upO_n (Ne.symm hi)).trans hR) rfl wl_X4 (by decide) fl_X6_32 rfl rfl dX6_init_43 ?_
  refine m_putF (pc := 46) X G (i := i) (k := 5) (v := .int (rf 8)) rfl upO_s rfl wl_X6 tyX6_ok nmX6 (by decide) fl_X6_35 rfl rfl rfl hin rfl rfl (Nat.le_of_ble_eq_true rfl) dX6_init_46 (fun H locs G => ?_)
  have G : Mm D κ A ad (upO M i (.inr (6, [.ref p1, .int (rf 4), .int (rf 5), .int (rf 6), .int (rf 7), .int (rf 8), .int 0]))) s H locs := by rw [upO_upO] at G; exact G
  refine lv_aload_n (pc := 49) X.1 X.2.1 dX6_init_49 rfl (lv_at hl 0 rfl) ?_
  refine lv_aload_n (pc := 50) X.1 X.2.1 dX6_init_50 rfl (lv_at hl 2 rfl) ?_
  refine m_get (pc := 51) X G (i := 52) (ci := 4) (k := 9) (v := .int (rf 9)) (T := TX4) (C := RX4) (N := 10) ((upO_n (Ne.symm hi)).trans hR) rfl wl_X4 (by decide) fl_X6_36 rfl rfl dX6_init_51 ?_
  refine m_putF (pc := 54) X G (i := i) (k := 6) (v := .int (rf 9)) rfl upO_s rfl wl_X6 tyX6_ok nmX6 (by decide) fl_X6_39 rfl rfl rfl hin rfl rfl (Nat.le_of_ble_eq_true rfl) dX6_init_54 (fun H locs G => ?_)
  have G : Mm D κ A ad (upO M i (.inr (6, [.ref p1, .int (rf 4), .int (rf 5), .int (rf 6), .int (rf 7), .int (rf 8), .int (rf 9)]))) s H locs := by rw [upO_upO] at G; exact G
  exact C_ret (pc := 57) X G hr hlk dX6_init_57 (fun j hj => by simp only [List.mem_cons, List.not_mem_nil, or_false, not_or] at hj; simp [upA, hj]) rfl
abbrev rm4_init : Room := { frames := 1, cells := 1, slots := 60, locals := 12 }
set_option maxHeartbeats 4000000 in
set_option maxRecDepth 100000 in
theorem c4_init (l : Launch) (D : va_G) (κ : Nat → ClassId) (A : Nat → Prop) (ad : Nat → Nat) (M : Nat → Option va_E) (hM : M 52 = some (.inr (4, [.null, .int 0, .int 0, .int 0, .int 0, .int 0, .int 0, .int 0, .int 0, .int 0]))) (hq53 : M 53 = none) : Met l yX4_init (gw yX4_init cX4_init 1 none) rm4_init (va_Pc [.ref (ad 52)] (MW D κ A ad M)) (QVC D A (fun ad' => ∀ j, j ∉ ([53] : List Nat) → ad' j = ad j) (fun ad' => upO (upO M 53 (.inl (κ 0, 60, .inl (fun _ => 0)))) 52 (.inr (4, [.ref (ad' 53), .int 0, .int 0, .int 0, .int 0, .int 0, .int 0, .int 0, .int 0, .int 0])))) 1 60 A := by
  refine met_ofI (own := RX4) (by decide +kernel) rfl rfl (Nat.le_of_ble_eq_true rfl) ?_
  intro p e s m below meth c ls X hr hlk hin G hl
  have hl : lv_has ls 1 [(0, .ref (ad 52))] := hl
  have G : Mm D κ A ad (upO M 52 (.inr (4, [.null, .int 0, .int 0, .int 0, .int 0, .int 0, .int 0, .int 0, .int 0, .int 0]))) s s.heap [] := G.same (fun j => upO_self hM j)
  refine lv_aload_n (pc := 0) X.1 X.2.1 dX4_init_0 rfl (lv_at hl 0 rfl) ?_
  refine C_obj (pc := 1) X hl ml_X4_3 dX4_init_1 (Nat.le_of_ble_eq_true rfl) (Nat.le_of_ble_eq_true rfl) ?_
  refine lv_aload_n (pc := 4) X.1 X.2.1 dX4_init_4 rfl (lv_at hl 0 rfl) ?_
  refine lv_bipush (pc := 5) (v := 60) X.1 X.2.1 dX4_init_5 (by decide) ?_
  refine m_newI (pc := 7) X G 53 (N := 60) hq53 w_arrI (by decide) (by decide) (by decide) (Nat.le_of_ble_eq_true rfl) (Nat.le_of_ble_eq_true rfl) dX4_init_7 (fun a53 H G => ?_)
  have G : Mm D κ A (upA ad 53 a53) (upO (upO M 53 (.inl (κ 0, 60, .inl (fun _ => 0)))) 52 (.inr (4, [.null, .int 0, .int 0, .int 0, .int 0, .int 0, .int 0, .int 0, .int 0, .int 0]))) s H [] := by rw [upO_comm (by decide)] at G; exact G
  refine m_putF (pc := 9) X G (i := 52) (k := 0) (v := .ref a53) rfl upO_s rfl wl_X4 tyX4_ok nmX4 (by decide) fl_X4_9 rfl rfl rfl hin rfl rfl (Nat.le_of_ble_eq_true rfl) dX4_init_9 (fun H locs G => ?_)
  have G : Mm D κ A (upA ad 53 a53) (upO (upO M 53 (.inl (κ 0, 60, .inl (fun _ => 0)))) 52 (.inr (4, [.ref a53, .int 0, .int 0, .int 0, .int 0, .int 0, .int 0, .int 0, .int 0, .int 0]))) s H locs := by rw [upO_upO] at G; exact G
  refine lv_aload_n (pc := 12) X.1 X.2.1 dX4_init_12 rfl (lv_at hl 0 rfl) ?_
  refine lv_iconst (pc := 13) (v := 0) X.1 X.2.1 dX4_init_13 (by decide) ?_
  refine m_put (pc := 14) X G (i := 52) (k := 1) (v := .int 0) (M' := (upO (upO M 53 (.inl (κ 0, 60, .inl (fun _ => 0)))) 52 (.inr (4, [.ref a53, .int 0, .int 0, .int 0, .int 0, .int 0, .int 0, .int 0, .int 0, .int 0])))) upO_s rfl wl_X4 tyX4_ok nmX4 (by decide) fl_X4_15 rfl rfl rfl rfl (Nat.le_of_ble_eq_true rfl) upO_s (fun j hj => (upO_n hj).trans (upO_n hj).symm) dX4_init_14 (fun H locs G => ?_)
  have G : Mm D κ A (upA ad 53 a53) (upO (upO M 53 (.inl (κ 0, 60, .inl (fun _ => 0)))) 52 (.inr (4, [.ref a53, .int 0, .int 0, .int 0, .int 0, .int 0, .int 0, .int 0, .int 0, .int 0]))) s H locs := G
  refine lv_aload_n (pc := 17) X.1 X.2.1 dX4_init_17 rfl (lv_at hl 0 rfl) ?_
  refine lv_iconst (pc := 18) (v := 0) X.1 X.2.1 dX4_init_18 (by decide) ?_
  refine m_put (pc := 19) X G (i := 52) (k := 2) (v := .int 0) (M' := (upO (upO M 53 (.inl (κ 0, 60, .inl (fun _ => 0)))) 52 (.inr (4, [.ref a53, .int 0, .int 0, .int 0, .int 0, .int 0, .int 0, .int 0, .int 0, .int 0])))) upO_s rfl wl_X4 tyX4_ok nmX4 (by decide) fl_X4_19 rfl rfl rfl rfl (Nat.le_of_ble_eq_true rfl) upO_s (fun j hj => (upO_n hj).trans (upO_n hj).symm) dX4_init_19 (fun H locs G => ?_)
  have G : Mm D κ A (upA ad 53 a53) (upO (upO M 53 (.inl (κ 0, 60, .inl (fun _ => 0)))) 52 (.inr (4, [.ref a53, .int 0, .int 0, .int 0, .int 0, .int 0, .int 0, .int 0, .int 0, .int 0]))) s H locs := G
  refine lv_aload_n (pc := 22) X.1 X.2.1 dX4_init_22 rfl (lv_at hl 0 rfl) ?_
  refine lv_iconst (pc := 23) (v := 0) X.1 X.2.1 dX4_init_23 (by decide) ?_
  refine m_put (pc := 24) X G (i := 52) (k := 3) (v := .int 0) (M' := (upO (upO M 53 (.inl (κ 0, 60, .inl (fun _ => 0)))) 52 (.inr (4, [.ref a53, .int 0, .int 0, .int 0, .int 0, .int 0, .int 0, .int 0, .int 0, .int 0])))) upO_s rfl wl_X4 tyX4_ok nmX4 (by decide) fl_X4_22 rfl rfl rfl rfl (Nat.le_of_ble_eq_true rfl) upO_s (fun j hj => (upO_n hj).trans (upO_n hj).symm) dX4_init_24 (fun H locs G => ?_)
  have G : Mm D κ A (upA ad 53 a53) (upO (upO M 53 (.inl (κ 0, 60, .inl (fun _ => 0)))) 52 (.inr (4, [.ref a53, .int 0, .int 0, .int 0, .int 0, .int 0, .int 0, .int 0, .int 0, .int 0]))) s H locs := G
  refine lv_aload_n (pc := 27) X.1 X.2.1 dX4_init_27 rfl (lv_at hl 0 rfl) ?_
  refine lv_iconst (pc := 28) (v := 0) X.1 X.2.1 dX4_init_28 (by decide) ?_
  refine m_put (pc := 29) X G (i := 52) (k := 4) (v := .int 0) (M' := (upO (upO M 53 (.inl (κ 0, 60, .inl (fun _ => 0)))) 52 (.inr (4, [.ref a53, .int 0, .int 0, .int 0, .int 0, .int 0, .int 0, .int 0, .int 0, .int 0])))) upO_s rfl wl_X4 tyX4_ok nmX4 (by decide) fl_X4_25 rfl rfl rfl rfl (Nat.le_of_ble_eq_true rfl) upO_s (fun j hj => (upO_n hj).trans (upO_n hj).symm) dX4_init_29 (fun H locs G => ?_)
  have G : Mm D κ A (upA ad 53 a53) (upO (upO M 53 (.inl (κ 0, 60, .inl (fun _ => 0)))) 52 (.inr (4, [.ref a53, .int 0, .int 0, .int 0, .int 0, .int 0, .int 0, .int 0, .int 0, .int 0]))) s H locs := G
  refine lv_aload_n (pc := 32) X.1 X.2.1 dX4_init_32 rfl (lv_at hl 0 rfl) ?_
  refine lv_iconst (pc := 33) (v := 0) X.1 X.2.1 dX4_init_33 (by decide) ?_
  refine m_put (pc := 34) X G (i := 52) (k := 5) (v := .int 0) (M' := (upO (upO M 53 (.inl (κ 0, 60, .inl (fun _ => 0)))) 52 (.inr (4, [.ref a53, .int 0, .int 0, .int 0, .int 0, .int 0, .int 0, .int 0, .int 0, .int 0])))) upO_s rfl wl_X4 tyX4_ok nmX4 (by decide) fl_X4_28 rfl rfl rfl rfl (Nat.le_of_ble_eq_true rfl) upO_s (fun j hj => (upO_n hj).trans (upO_n hj).symm) dX4_init_34 (fun H locs G => ?_)
  have G : Mm D κ A (upA ad 53 a53) (upO (upO M 53 (.inl (κ 0, 60, .inl (fun _ => 0)))) 52 (.inr (4, [.ref a53, .int 0, .int 0, .int 0, .int 0, .int 0, .int 0, .int 0, .int 0, .int 0]))) s H locs := G
  refine lv_aload_n (pc := 37) X.1 X.2.1 dX4_init_37 rfl (lv_at hl 0 rfl) ?_
  refine lv_iconst (pc := 38) (v := 0) X.1 X.2.1 dX4_init_38 (by decide) ?_
  refine m_put (pc := 39) X G (i := 52) (k := 6) (v := .int 0) (M' := (upO (upO M 53 (.inl (κ 0, 60, .inl (fun _ => 0)))) 52 (.inr (4, [.ref a53, .int 0, .int 0, .int 0, .int 0, .int 0, .int 0, .int 0, .int 0, .int 0])))) upO_s rfl wl_X4 tyX4_ok nmX4 (by decide) fl_X4_31 rfl rfl rfl rfl (Nat.le_of_ble_eq_true rfl) upO_s (fun j hj => (upO_n hj).trans (upO_n hj).symm) dX4_init_39 (fun H locs G => ?_)
  have G : Mm D κ A (upA ad 53 a53) (upO (upO M 53 (.inl (κ 0, 60, .inl (fun _ => 0)))) 52 (.inr (4, [.ref a53, .int 0, .int 0, .int 0, .int 0, .int 0, .int 0, .int 0, .int 0, .int 0]))) s H locs := G
  refine lv_aload_n (pc := 42) X.1 X.2.1 dX4_init_42 rfl (lv_at hl 0 rfl) ?_
  refine lv_iconst (pc := 43) (v := 0) X.1 X.2.1 dX4_init_43 (by decide) ?_
  refine m_put (pc := 44) X G (i := 52) (k := 7) (v := .int 0) (M' := (upO (upO M 53 (.inl (κ 0, 60, .inl (fun _ => 0)))) 52 (.inr (4, [.ref a53, .int 0, .int 0, .int 0, .int 0, .int 0, .int 0, .int 0, .int 0, .int 0])))) upO_s rfl wl_X4 tyX4_ok nmX4 (by decide) fl_X4_34 rfl rfl rfl rfl (Nat.le_of_ble_eq_true rfl) upO_s (fun j hj => (upO_n hj).trans (upO_n hj).symm) dX4_init_44 (fun H locs G => ?_)
  have G : Mm D κ A (upA ad 53 a53) (upO (upO M 53 (.inl (κ 0, 60, .inl (fun _ => 0)))) 52 (.inr (4, [.ref a53, .int 0, .int 0, .int 0, .int 0, .int 0, .int 0, .int 0, .int 0, .int 0]))) s H locs := G
  refine lv_aload_n (pc := 47) X.1 X.2.1 dX4_init_47 rfl (lv_at hl 0 rfl) ?_
  refine lv_iconst (pc := 48) (v := 0) X.1 X.2.1 dX4_init_48 (by decide) ?_
  refine m_put (pc := 49) X G (i := 52) (k := 8) (v := .int 0) (M' := (upO (upO M 53 (.inl (κ 0, 60, .inl (fun _ => 0)))) 52 (.inr (4, [.ref a53, .int 0, .int 0, .int 0, .int 0, .int 0, .int 0, .int 0, .int 0, .int 0])))) upO_s rfl wl_X4 tyX4_ok nmX4 (by decide) fl_X4_37 rfl rfl rfl rfl (Nat.le_of_ble_eq_true rfl) upO_s (fun j hj => (upO_n hj).trans (upO_n hj).symm) dX4_init_49 (fun H locs G => ?_)
  have G : Mm D κ A (upA ad 53 a53) (upO (upO M 53 (.inl (κ 0, 60, .inl (fun _ => 0)))) 52 (.inr (4, [.ref a53, .int 0, .int 0, .int 0, .int 0, .int 0, .int 0, .int 0, .int 0, .int 0]))) s H locs := G
  refine lv_aload_n (pc := 52) X.1 X.2.1 dX4_init_52 rfl (lv_at hl 0 rfl) ?_
  refine lv_iconst (pc := 53) (v := 0) X.1 X.2.1 dX4_init_53 (by decide) ?_
  refine m_put (pc := 54) X G (i := 52) (k := 9) (v := .int 0) (M' := (upO (upO M 53 (.inl (κ 0, 60, .inl (fun _ => 0)))) 52 (.inr (4, [.ref a53, .int 0, .int 0, .int 0, .int 0, .int 0, .int 0, .int 0, .int 0, .int 0])))) upO_s rfl wl_X4 tyX4_ok nmX4 (by decide) fl_X4_40 rfl rfl rfl rfl (Nat.le_of_ble_eq_true rfl) upO_s (fun j hj => (upO_n hj).trans (upO_n hj).symm) dX4_init_54 (fun H locs G => ?_)
  have G : Mm D κ A (upA ad 53 a53) (upO (upO M 53 (.inl (κ 0, 60, .inl (fun _ => 0)))) 52 (.inr (4, [.ref a53, .int 0, .int 0, .int 0, .int 0, .int 0, .int 0, .int 0, .int 0, .int 0]))) s H locs := G
  exact C_ret (pc := 57) X G hr hlk dX4_init_57 (fun j hj => by simp only [List.mem_cons, List.not_mem_nil, or_false, not_or] at hj; simp [upA, hj]) rfl
abbrev rm0_init : Room := { frames := 1, cells := 2, slots := 52, locals := 12 }
set_option maxHeartbeats 4000000 in
set_option maxRecDepth 100000 in
theorem c0_init (l : Launch) (D : va_G) (κ : Nat → ClassId) (A : Nat → Prop) (ad : Nat → Nat) (M : Nat → Option va_E) (hM : M 54 = some (.inr (0, [.null, .null, .int 0]))) (hq55 : M 55 = none) (hq56 : M 56 = none) : Met l yX0_init (gw yX0_init cX0_init 1 none) rm0_init (va_Pc [.ref (ad 54)] (MW D κ A ad M)) (QVC D A (fun ad' => ∀ j, j ∉ ([55, 56] : List Nat) → ad' j = ad j) (fun ad' => upO (upO (upO M 55 (.inl (κ 0, 26, .inl (fun _ => 0)))) 56 (.inl (κ 0, 26, .inl (fun _ => 0)))) 54 (.inr (0, [.ref (ad' 55), .ref (ad' 56), .int 0])))) 2 52 A := by
  refine met_ofI (own := RX0) (by decide +kernel) rfl rfl (Nat.le_of_ble_eq_true rfl) ?_
  intro p e s m below meth c ls X hr hlk hin G hl
  have hl : lv_has ls 1 [(0, .ref (ad 54))] := hl
  have G : Mm D κ A ad (upO M 54 (.inr (0, [.null, .null, .int 0]))) s s.heap [] := G.same (fun j => upO_self hM j)
  refine lv_aload_n (pc := 0) X.1 X.2.1 dX0_init_0 rfl (lv_at hl 0 rfl) ?_
  refine C_obj (pc := 1) X hl ml_X0_3 dX0_init_1 (Nat.le_of_ble_eq_true rfl) (Nat.le_of_ble_eq_true rfl) ?_
  refine lv_aload_n (pc := 4) X.1 X.2.1 dX0_init_4 rfl (lv_at hl 0 rfl) ?_
  refine lv_bipush (pc := 5) (v := 26) X.1 X.2.1 dX0_init_5 (by decide) ?_
  refine m_newI (pc := 7) X G 55 (N := 26) hq55 w_arrI (by decide) (by decide) (by decide) (Nat.le_of_ble_eq_true rfl) (Nat.le_of_ble_eq_true rfl) dX0_init_7 (fun a55 H G => ?_)
  have G : Mm D κ A (upA ad 55 a55) (upO (upO M 55 (.inl (κ 0, 26, .inl (fun _ => 0)))) 54 (.inr (0, [.null, .null, .int 0]))) s H [] := by rw [upO_comm (by decide)] at G; exact G
  refine m_putF (pc := 9) X G (i := 54) (k := 0) (v := .ref a55) rfl upO_s rfl wl_X0 tyX0_ok nmX0 (by decide) fl_X0_9 rfl rfl rfl hin rfl rfl (Nat.le_of_ble_eq_true rfl) dX0_init_9 (fun H locs G => ?_)
  have G : Mm D κ A (upA ad 55 a55) (upO (upO M 55 (.inl (κ 0, 26, .inl (fun _ => 0)))) 54 (.inr (0, [.ref a55, .null, .int 0]))) s H locs := by rw [upO_upO] at G; exact G
  refine lv_aload_n (pc := 12) X.1 X.2.1 dX0_init_12 rfl (lv_at hl 0 rfl) ?_
  refine lv_bipush (pc := 13) (v := 26) X.1 X.2.1 dX0_init_13 (by decide) ?_
  refine m_newI (pc := 15) X G 56 (N := 26) hq56 w_arrI (by decide) (by decide) (by decide) (Nat.le_of_ble_eq_true rfl) (Nat.le_of_ble_eq_true rfl) dX0_init_15 (fun a56 H G => ?_)
  have G : Mm D κ A (upA (upA ad 55 a55) 56 a56) (upO (upO (upO M 55 (.inl (κ 0, 26, .inl (fun _ => 0)))) 56 (.inl (κ 0, 26, .inl (fun _ => 0)))) 54 (.inr (0, [.ref a55, .null, .int 0]))) s H locs := by rw [upO_comm (by decide)] at G; exact G
  refine m_putF (pc := 17) X G (i := 54) (k := 1) (v := .ref a56) rfl upO_s rfl wl_X0 tyX0_ok nmX0 (by decide) fl_X0_15 rfl rfl rfl hin rfl rfl (Nat.le_of_ble_eq_true rfl) dX0_init_17 (fun H locs G => ?_)
  have G : Mm D κ A (upA (upA ad 55 a55) 56 a56) (upO (upO (upO M 55 (.inl (κ 0, 26, .inl (fun _ => 0)))) 56 (.inl (κ 0, 26, .inl (fun _ => 0)))) 54 (.inr (0, [.ref a55, .ref a56, .int 0]))) s H locs := by rw [upO_upO] at G; exact G
  refine lv_aload_n (pc := 20) X.1 X.2.1 dX0_init_20 rfl (lv_at hl 0 rfl) ?_
  refine lv_iconst (pc := 21) (v := 0) X.1 X.2.1 dX0_init_21 (by decide) ?_
  refine m_put (pc := 22) X G (i := 54) (k := 2) (v := .int 0) (M' := (upO (upO (upO M 55 (.inl (κ 0, 26, .inl (fun _ => 0)))) 56 (.inl (κ 0, 26, .inl (fun _ => 0)))) 54 (.inr (0, [.ref a55, .ref a56, .int 0])))) upO_s rfl wl_X0 tyX0_ok nmX0 (by decide) fl_X0_18 rfl rfl rfl rfl (Nat.le_of_ble_eq_true rfl) upO_s (fun j hj => (upO_n hj).trans (upO_n hj).symm) dX0_init_22 (fun H locs G => ?_)
  have G : Mm D κ A (upA (upA ad 55 a55) 56 a56) (upO (upO (upO M 55 (.inl (κ 0, 26, .inl (fun _ => 0)))) 56 (.inl (κ 0, 26, .inl (fun _ => 0)))) 54 (.inr (0, [.ref a55, .ref a56, .int 0]))) s H locs := G
  exact C_ret (pc := 25) X G hr hlk dX0_init_25 (fun j hj => by simp only [List.mem_cons, List.not_mem_nil, or_false, not_or] at hj; simp [upA, hj]) rfl
abbrev rm1_init : Room := { frames := 1, cells := 5, slots := 31154, locals := 12 }
set_option maxHeartbeats 4000000 in
set_option maxRecDepth 100000 in
theorem c1_init (l : Launch) (D : va_G) (κ : Nat → ClassId) (A : Nat → Prop) (ad : Nat → Nat) (M : Nat → Option va_E) (hM : M 57 = some (.inr (1, [.null, .null, .null, .null, .null, .int 0, .int 0, .int 0, .int 0, .int 0, .int 0, .int 0, .int 0, .int 0]))) (hq58 : M 58 = none) (hq59 : M 59 = none) (hq60 : M 60 = none) (hq61 : M 61 = none) (hq62 : M 62 = none) : Met l yX1_init (gw yX1_init cX1_init 1 none) rm1_init (va_Pc [.ref (ad 57)] (MW D κ A ad M)) (QVC D A (fun ad' => ∀ j, j ∉ ([58, 59, 60, 61, 62] : List Nat) → ad' j = ad j) (fun ad' => upO (upO (upO (upO (upO (upO M 58 (.inl (κ 0, 28380, .inl (fun _ => 0)))) 59 (.inl (κ 0, 854, .inl (fun _ => 0)))) 60 (.inl (κ 0, 780, .inl (fun _ => 0)))) 61 (.inl (κ 0, 780, .inl (fun _ => 0)))) 62 (.inl (κ 0, 360, .inl (fun _ => 0)))) 57 (.inr (1, [.ref (ad' 58), .ref (ad' 59), .ref (ad' 60), .ref (ad' 61), .ref (ad' 62), .int 0, .int 0, .int 0, .int 0, .int 0, .int 0, .int 0, .int 0, .int 0])))) 5 31154 A := by
  refine met_ofI (own := RX1) (by decide +kernel) rfl rfl (Nat.le_of_ble_eq_true rfl) ?_
  intro p e s m below meth c ls X hr hlk hin G hl
  have hl : lv_has ls 1 [(0, .ref (ad 57))] := hl
  have G : Mm D κ A ad (upO M 57 (.inr (1, [.null, .null, .null, .null, .null, .int 0, .int 0, .int 0, .int 0, .int 0, .int 0, .int 0, .int 0, .int 0]))) s s.heap [] := G.same (fun j => upO_self hM j)
  refine lv_aload_n (pc := 0) X.1 X.2.1 dX1_init_0 rfl (lv_at hl 0 rfl) ?_
  refine C_obj (pc := 1) X hl ml_X1_5 dX1_init_1 (Nat.le_of_ble_eq_true rfl) (Nat.le_of_ble_eq_true rfl) ?_
  refine lv_aload_n (pc := 4) X.1 X.2.1 dX1_init_4 rfl (lv_at hl 0 rfl) ?_
  refine lv_sipush (pc := 5) (v := 28380) X.1 X.2.1 dX1_init_5 (by decide) ?_
  refine m_newI (pc := 8) X G 58 (N := 28380) hq58 w_arrI (by decide) (by decide) (by decide) (Nat.le_of_ble_eq_true rfl) (Nat.le_of_ble_eq_true rfl) dX1_init_8 (fun a58 H G => ?_)
  have G : Mm D κ A (upA ad 58 a58) (upO (upO M 58 (.inl (κ 0, 28380, .inl (fun _ => 0)))) 57 (.inr (1, [.null, .null, .null, .null, .null, .int 0, .int 0, .int 0, .int 0, .int 0, .int 0, .int 0, .int 0, .int 0]))) s H [] := by rw [upO_comm (by decide)] at G; exact G
  refine m_putF (pc := 10) X G (i := 57) (k := 0) (v := .ref a58) rfl upO_s rfl wl_X1 tyX1_ok nmX1 (by decide) fl_X1_11 rfl rfl rfl hin rfl rfl (Nat.le_of_ble_eq_true rfl) dX1_init_10 (fun H locs G => ?_)
  have G : Mm D κ A (upA ad 58 a58) (upO (upO M 58 (.inl (κ 0, 28380, .inl (fun _ => 0)))) 57 (.inr (1, [.ref a58, .null, .null, .null, .null, .int 0, .int 0, .int 0, .int 0, .int 0, .int 0, .int 0, .int 0, .int 0]))) s H locs := by rw [upO_upO] at G; exact G
  refine lv_aload_n (pc := 13) X.1 X.2.1 dX1_init_13 rfl (lv_at hl 0 rfl) ?_
  refine lv_sipush (pc := 14) (v := 854) X.1 X.2.1 dX1_init_14 (by decide) ?_
  refine m_newI (pc := 17) X G 59 (N := 854) hq59 w_arrI (by decide) (by decide) (by decide) (Nat.le_of_ble_eq_true rfl) (Nat.le_of_ble_eq_true rfl) dX1_init_17 (fun a59 H G => ?_)
  have G : Mm D κ A (upA (upA ad 58 a58) 59 a59) (upO (upO (upO M 58 (.inl (κ 0, 28380, .inl (fun _ => 0)))) 59 (.inl (κ 0, 854, .inl (fun _ => 0)))) 57 (.inr (1, [.ref a58, .null, .null, .null, .null, .int 0, .int 0, .int 0, .int 0, .int 0, .int 0, .int 0, .int 0, .int 0]))) s H locs := by rw [upO_comm (by decide)] at G; exact G
  refine m_putF (pc := 19) X G (i := 57) (k := 1) (v := .ref a59) rfl upO_s rfl wl_X1 tyX1_ok nmX1 (by decide) fl_X1_15 rfl rfl rfl hin rfl rfl (Nat.le_of_ble_eq_true rfl) dX1_init_19 (fun H locs G => ?_)
  have G : Mm D κ A (upA (upA ad 58 a58) 59 a59) (upO (upO (upO M 58 (.inl (κ 0, 28380, .inl (fun _ => 0)))) 59 (.inl (κ 0, 854, .inl (fun _ => 0)))) 57 (.inr (1, [.ref a58, .ref a59, .null, .null, .null, .int 0, .int 0, .int 0, .int 0, .int 0, .int 0, .int 0, .int 0, .int 0]))) s H locs := by rw [upO_upO] at G; exact G
  refine lv_aload_n (pc := 22) X.1 X.2.1 dX1_init_22 rfl (lv_at hl 0 rfl) ?_
  refine lv_sipush (pc := 23) (v := 780) X.1 X.2.1 dX1_init_23 (by decide) ?_
  refine m_newI (pc := 26) X G 60 (N := 780) hq60 w_arrI (by decide) (by decide) (by decide) (Nat.le_of_ble_eq_true rfl) (Nat.le_of_ble_eq_true rfl) dX1_init_26 (fun a60 H G => ?_)
  have G : Mm D κ A (upA (upA (upA ad 58 a58) 59 a59) 60 a60) (upO (upO (upO (upO M 58 (.inl (κ 0, 28380, .inl (fun _ => 0)))) 59 (.inl (κ 0, 854, .inl (fun _ => 0)))) 60 (.inl (κ 0, 780, .inl (fun _ => 0)))) 57 (.inr (1, [.ref a58, .ref a59, .null, .null, .null, .int 0, .int 0, .int 0, .int 0, .int 0, .int 0, .int 0, .int 0, .int 0]))) s H locs := by rw [upO_comm (by decide)] at G; exact G
  refine m_putF (pc := 28) X G (i := 57) (k := 2) (v := .ref a60) rfl upO_s rfl wl_X1 tyX1_ok nmX1 (by decide) fl_X1_18 rfl rfl rfl hin rfl rfl (Nat.le_of_ble_eq_true rfl) dX1_init_28 (fun H locs G => ?_)
  have G : Mm D κ A (upA (upA (upA ad 58 a58) 59 a59) 60 a60) (upO (upO (upO (upO M 58 (.inl (κ 0, 28380, .inl (fun _ => 0)))) 59 (.inl (κ 0, 854, .inl (fun _ => 0)))) 60 (.inl (κ 0, 780, .inl (fun _ => 0)))) 57 (.inr (1, [.ref a58, .ref a59, .ref a60, .null, .null, .int 0, .int 0, .int 0, .int 0, .int 0, .int 0, .int 0, .int 0, .int 0]))) s H locs := by rw [upO_upO] at G; exact G
  refine lv_aload_n (pc := 31) X.1 X.2.1 dX1_init_31 rfl (lv_at hl 0 rfl) ?_
  refine lv_sipush (pc := 32) (v := 780) X.1 X.2.1 dX1_init_32 (by decide) ?_
  refine m_newI (pc := 35) X G 61 (N := 780) hq61 w_arrI (by decide) (by decide) (by decide) (Nat.le_of_ble_eq_true rfl) (Nat.le_of_ble_eq_true rfl) dX1_init_35 (fun a61 H G => ?_)
  have G : Mm D κ A (upA (upA (upA (upA ad 58 a58) 59 a59) 60 a60) 61 a61) (upO (upO (upO (upO (upO M 58 (.inl (κ 0, 28380, .inl (fun _ => 0)))) 59 (.inl (κ 0, 854, .inl (fun _ => 0)))) 60 (.inl (κ 0, 780, .inl (fun _ => 0)))) 61 (.inl (κ 0, 780, .inl (fun _ => 0)))) 57 (.inr (1, [.ref a58, .ref a59, .ref a60, .null, .null, .int 0, .int 0, .int 0, .int 0, .int 0, .int 0, .int 0, .int 0, .int 0]))) s H locs := by rw [upO_comm (by decide)] at G; exact G
  refine m_putF (pc := 37) X G (i := 57) (k := 3) (v := .ref a61) rfl upO_s rfl wl_X1 tyX1_ok nmX1 (by decide) fl_X1_21 rfl rfl rfl hin rfl rfl (Nat.le_of_ble_eq_true rfl) dX1_init_37 (fun H locs G => ?_)
  have G : Mm D κ A (upA (upA (upA (upA ad 58 a58) 59 a59) 60 a60) 61 a61) (upO (upO (upO (upO (upO M 58 (.inl (κ 0, 28380, .inl (fun _ => 0)))) 59 (.inl (κ 0, 854, .inl (fun _ => 0)))) 60 (.inl (κ 0, 780, .inl (fun _ => 0)))) 61 (.inl (κ 0, 780, .inl (fun _ => 0)))) 57 (.inr (1, [.ref a58, .ref a59, .ref a60, .ref a61, .null, .int 0, .int 0, .int 0, .int 0, .int 0, .int 0, .int 0, .int 0, .int 0]))) s H locs := by rw [upO_upO] at G; exact G
  refine lv_aload_n (pc := 40) X.1 X.2.1 dX1_init_40 rfl (lv_at hl 0 rfl) ?_
  refine lv_sipush (pc := 41) (v := 360) X.1 X.2.1 dX1_init_41 (by decide) ?_
  refine m_newI (pc := 44) X G 62 (N := 360) hq62 w_arrI (by decide) (by decide) (by decide) (Nat.le_of_ble_eq_true rfl) (Nat.le_of_ble_eq_true rfl) dX1_init_44 (fun a62 H G => ?_)
  have G : Mm D κ A (upA (upA (upA (upA (upA ad 58 a58) 59 a59) 60 a60) 61 a61) 62 a62) (upO (upO (upO (upO (upO (upO M 58 (.inl (κ 0, 28380, .inl (fun _ => 0)))) 59 (.inl (κ 0, 854, .inl (fun _ => 0)))) 60 (.inl (κ 0, 780, .inl (fun _ => 0)))) 61 (.inl (κ 0, 780, .inl (fun _ => 0)))) 62 (.inl (κ 0, 360, .inl (fun _ => 0)))) 57 (.inr (1, [.ref a58, .ref a59, .ref a60, .ref a61, .null, .int 0, .int 0, .int 0, .int 0, .int 0, .int 0, .int 0, .int 0, .int 0]))) s H locs := by rw [upO_comm (by decide)] at G; exact G
  refine m_putF (pc := 46) X G (i := 57) (k := 4) (v := .ref a62) rfl upO_s rfl wl_X1 tyX1_ok nmX1 (by decide) fl_X1_24 rfl rfl rfl hin rfl rfl (Nat.le_of_ble_eq_true rfl) dX1_init_46 (fun H locs G => ?_)
  have G : Mm D κ A (upA (upA (upA (upA (upA ad 58 a58) 59 a59) 60 a60) 61 a61) 62 a62) (upO (upO (upO (upO (upO (upO M 58 (.inl (κ 0, 28380, .inl (fun _ => 0)))) 59 (.inl (κ 0, 854, .inl (fun _ => 0)))) 60 (.inl (κ 0, 780, .inl (fun _ => 0)))) 61 (.inl (κ 0, 780, .inl (fun _ => 0)))) 62 (.inl (κ 0, 360, .inl (fun _ => 0)))) 57 (.inr (1, [.ref a58, .ref a59, .ref a60, .ref a61, .ref a62, .int 0, .int 0, .int 0, .int 0, .int 0, .int 0, .int 0, .int 0, .int 0]))) s H locs := by rw [upO_upO] at G; exact G
  refine lv_aload_n (pc := 49) X.1 X.2.1 dX1_init_49 rfl (lv_at hl 0 rfl) ?_
  refine lv_iconst (pc := 50) (v := 0) X.1 X.2.1 dX1_init_50 (by decide) ?_
  refine m_put (pc := 51) X G (i := 57) (k := 5) (v := .int 0) (M' := (upO (upO (upO (upO (upO (upO M 58 (.inl (κ 0, 28380, .inl (fun _ => 0)))) 59 (.inl (κ 0, 854, .inl (fun _ => 0)))) 60 (.inl (κ 0, 780, .inl (fun _ => 0)))) 61 (.inl (κ 0, 780, .inl (fun _ => 0)))) 62 (.inl (κ 0, 360, .inl (fun _ => 0)))) 57 (.inr (1, [.ref a58, .ref a59, .ref a60, .ref a61, .ref a62, .int 0, .int 0, .int 0, .int 0, .int 0, .int 0, .int 0, .int 0, .int 0])))) upO_s rfl wl_X1 tyX1_ok nmX1 (by decide) fl_X1_27 rfl rfl rfl rfl (Nat.le_of_ble_eq_true rfl) upO_s (fun j hj => (upO_n hj).trans (upO_n hj).symm) dX1_init_51 (fun H locs G => ?_)
  have G : Mm D κ A (upA (upA (upA (upA (upA ad 58 a58) 59 a59) 60 a60) 61 a61) 62 a62) (upO (upO (upO (upO (upO (upO M 58 (.inl (κ 0, 28380, .inl (fun _ => 0)))) 59 (.inl (κ 0, 854, .inl (fun _ => 0)))) 60 (.inl (κ 0, 780, .inl (fun _ => 0)))) 61 (.inl (κ 0, 780, .inl (fun _ => 0)))) 62 (.inl (κ 0, 360, .inl (fun _ => 0)))) 57 (.inr (1, [.ref a58, .ref a59, .ref a60, .ref a61, .ref a62, .int 0, .int 0, .int 0, .int 0, .int 0, .int 0, .int 0, .int 0, .int 0]))) s H locs := G
  refine lv_aload_n (pc := 54) X.1 X.2.1 dX1_init_54 rfl (lv_at hl 0 rfl) ?_
  refine lv_iconst (pc := 55) (v := 0) X.1 X.2.1 dX1_init_55 (by decide) ?_
  refine m_put (pc := 56) X G (i := 57) (k := 6) (v := .int 0) (M' := (upO (upO (upO (upO (upO (upO M 58 (.inl (κ 0, 28380, .inl (fun _ => 0)))) 59 (.inl (κ 0, 854, .inl (fun _ => 0)))) 60 (.inl (κ 0, 780, .inl (fun _ => 0)))) 61 (.inl (κ 0, 780, .inl (fun _ => 0)))) 62 (.inl (κ 0, 360, .inl (fun _ => 0)))) 57 (.inr (1, [.ref a58, .ref a59, .ref a60, .ref a61, .ref a62, .int 0, .int 0, .int 0, .int 0, .int 0, .int 0, .int 0, .int 0, .int 0])))) upO_s rfl wl_X1 tyX1_ok nmX1 (by decide) fl_X1_31 rfl rfl rfl rfl (Nat.le_of_ble_eq_true rfl) upO_s (fun j hj => (upO_n hj).trans (upO_n hj).symm) dX1_init_56 (fun H locs G => ?_)
  have G : Mm D κ A (upA (upA (upA (upA (upA ad 58 a58) 59 a59) 60 a60) 61 a61) 62 a62) (upO (upO (upO (upO (upO (upO M 58 (.inl (κ 0, 28380, .inl (fun _ => 0)))) 59 (.inl (κ 0, 854, .inl (fun _ => 0)))) 60 (.inl (κ 0, 780, .inl (fun _ => 0)))) 61 (.inl (κ 0, 780, .inl (fun _ => 0)))) 62 (.inl (κ 0, 360, .inl (fun _ => 0)))) 57 (.inr (1, [.ref a58, .ref a59, .ref a60, .ref a61, .ref a62, .int 0, .int 0, .int 0, .int 0, .int 0, .int 0, .int 0, .int 0, .int 0]))) s H locs := G
  refine lv_aload_n (pc := 59) X.1 X.2.1 dX1_init_59 rfl (lv_at hl 0 rfl) ?_
  refine lv_iconst (pc := 60) (v := 0) X.1 X.2.1 dX1_init_60 (by decide) ?_
  refine m_put (pc := 61) X G (i := 57) (k := 7) (v := .int 0) (M' := (upO (upO (upO (upO (upO (upO M 58 (.inl (κ 0, 28380, .inl (fun _ => 0)))) 59 (.inl (κ 0, 854, .inl (fun _ => 0)))) 60 (.inl (κ 0, 780, .inl (fun _ => 0)))) 61 (.inl (κ 0, 780, .inl (fun _ => 0)))) 62 (.inl (κ 0, 360, .inl (fun _ => 0)))) 57 (.inr (1, [.ref a58, .ref a59, .ref a60, .ref a61, .ref a62, .int 0, .int 0, .int 0, .int 0, .int 0, .int 0, .int 0, .int 0, .int 0])))) upO_s rfl wl_X1 tyX1_ok nmX1 (by decide) fl_X1_34 rfl rfl rfl rfl (Nat.le_of_ble_eq_true rfl) upO_s (fun j hj => (upO_n hj).trans (upO_n hj).symm) dX1_init_61 (fun H locs G => ?_)
  have G : Mm D κ A (upA (upA (upA (upA (upA ad 58 a58) 59 a59) 60 a60) 61 a61) 62 a62) (upO (upO (upO (upO (upO (upO M 58 (.inl (κ 0, 28380, .inl (fun _ => 0)))) 59 (.inl (κ 0, 854, .inl (fun _ => 0)))) 60 (.inl (κ 0, 780, .inl (fun _ => 0)))) 61 (.inl (κ 0, 780, .inl (fun _ => 0)))) 62 (.inl (κ 0, 360, .inl (fun _ => 0)))) 57 (.inr (1, [.ref a58, .ref a59, .ref a60, .ref a61, .ref a62, .int 0, .int 0, .int 0, .int 0, .int 0, .int 0, .int 0, .int 0, .int 0]))) s H locs := G
  refine lv_aload_n (pc := 64) X.1 X.2.1 dX1_init_64 rfl (lv_at hl 0 rfl) ?_
  refine lv_iconst (pc := 65) (v := 0) X.1 X.2.1 dX1_init_65 (by decide) ?_
  refine m_put (pc := 66) X G (i := 57) (k := 8) (v := .int 0) (M' := (upO (upO (upO (upO (upO (upO M 58 (.inl (κ 0, 28380, .inl (fun _ => 0)))) 59 (.inl (κ 0, 854, .inl (fun _ => 0)))) 60 (.inl (κ 0, 780, .inl (fun _ => 0)))) 61 (.inl (κ 0, 780, .inl (fun _ => 0)))) 62 (.inl (κ 0, 360, .inl (fun _ => 0)))) 57 (.inr (1, [.ref a58, .ref a59, .ref a60, .ref a61, .ref a62, .int 0, .int 0, .int 0, .int 0, .int 0, .int 0, .int 0, .int 0, .int 0])))) upO_s rfl wl_X1 tyX1_ok nmX1 (by decide) fl_X1_37 rfl rfl rfl rfl (Nat.le_of_ble_eq_true rfl) upO_s (fun j hj => (upO_n hj).trans (upO_n hj).symm) dX1_init_66 (fun H locs G => ?_)
  have G : Mm D κ A (upA (upA (upA (upA (upA ad 58 a58) 59 a59) 60 a60) 61 a61) 62 a62) (upO (upO (upO (upO (upO (upO M 58 (.inl (κ 0, 28380, .inl (fun _ => 0)))) 59 (.inl (κ 0, 854, .inl (fun _ => 0)))) 60 (.inl (κ 0, 780, .inl (fun _ => 0)))) 61 (.inl (κ 0, 780, .inl (fun _ => 0)))) 62 (.inl (κ 0, 360, .inl (fun _ => 0)))) 57 (.inr (1, [.ref a58, .ref a59, .ref a60, .ref a61, .ref a62, .int 0, .int 0, .int 0, .int 0, .int 0, .int 0, .int 0, .int 0, .int 0]))) s H locs := G
  refine lv_aload_n (pc := 69) X.1 X.2.1 dX1_init_69 rfl (lv_at hl 0 rfl) ?_
  refine lv_iconst (pc := 70) (v := 0) X.1 X.2.1 dX1_init_70 (by decide) ?_
  refine m_put (pc := 71) X G (i := 57) (k := 9) (v := .int 0) (M' := (upO (upO (upO (upO (upO (upO M 58 (.inl (κ 0, 28380, .inl (fun _ => 0)))) 59 (.inl (κ 0, 854, .inl (fun _ => 0)))) 60 (.inl (κ 0, 780, .inl (fun _ => 0)))) 61 (.inl (κ 0, 780, .inl (fun _ => 0)))) 62 (.inl (κ 0, 360, .inl (fun _ => 0)))) 57 (.inr (1, [.ref a58, .ref a59, .ref a60, .ref a61, .ref a62, .int 0, .int 0, .int 0, .int 0, .int 0, .int 0, .int 0, .int 0, .int 0])))) upO_s rfl wl_X1 tyX1_ok nmX1 (by decide) fl_X1_40 rfl rfl rfl rfl (Nat.le_of_ble_eq_true rfl) upO_s (fun j hj => (upO_n hj).trans (upO_n hj).symm) dX1_init_71 (fun H locs G => ?_)
  have G : Mm D κ A (upA (upA (upA (upA (upA ad 58 a58) 59 a59) 60 a60) 61 a61) 62 a62) (upO (upO (upO (upO (upO (upO M 58 (.inl (κ 0, 28380, .inl (fun _ => 0)))) 59 (.inl (κ 0, 854, .inl (fun _ => 0)))) 60 (.inl (κ 0, 780, .inl (fun _ => 0)))) 61 (.inl (κ 0, 780, .inl (fun _ => 0)))) 62 (.inl (κ 0, 360, .inl (fun _ => 0)))) 57 (.inr (1, [.ref a58, .ref a59, .ref a60, .ref a61, .ref a62, .int 0, .int 0, .int 0, .int 0, .int 0, .int 0, .int 0, .int 0, .int 0]))) s H locs := G
  refine lv_aload_n (pc := 74) X.1 X.2.1 dX1_init_74 rfl (lv_at hl 0 rfl) ?_
  refine lv_iconst (pc := 75) (v := 0) X.1 X.2.1 dX1_init_75 (by decide) ?_
  refine m_put (pc := 76) X G (i := 57) (k := 10) (v := .int 0) (M' := (upO (upO (upO (upO (upO (upO M 58 (.inl (κ 0, 28380, .inl (fun _ => 0)))) 59 (.inl (κ 0, 854, .inl (fun _ => 0)))) 60 (.inl (κ 0, 780, .inl (fun _ => 0)))) 61 (.inl (κ 0, 780, .inl (fun _ => 0)))) 62 (.inl (κ 0, 360, .inl (fun _ => 0)))) 57 (.inr (1, [.ref a58, .ref a59, .ref a60, .ref a61, .ref a62, .int 0, .int 0, .int 0, .int 0, .int 0, .int 0, .int 0, .int 0, .int 0])))) upO_s rfl wl_X1 tyX1_ok nmX1 (by decide) fl_X1_43 rfl rfl rfl rfl (Nat.le_of_ble_eq_true rfl) upO_s (fun j hj => (upO_n hj).trans (upO_n hj).symm) dX1_init_76 (fun H locs G => ?_)
  have G : Mm D κ A (upA (upA (upA (upA (upA ad 58 a58) 59 a59) 60 a60) 61 a61) 62 a62) (upO (upO (upO (upO (upO (upO M 58 (.inl (κ 0, 28380, .inl (fun _ => 0)))) 59 (.inl (κ 0, 854, .inl (fun _ => 0)))) 60 (.inl (κ 0, 780, .inl (fun _ => 0)))) 61 (.inl (κ 0, 780, .inl (fun _ => 0)))) 62 (.inl (κ 0, 360, .inl (fun _ => 0)))) 57 (.inr (1, [.ref a58, .ref a59, .ref a60, .ref a61, .ref a62, .int 0, .int 0, .int 0, .int 0, .int 0, .int 0, .int 0, .int 0, .int 0]))) s H locs := G
  refine lv_aload_n (pc := 79) X.1 X.2.1 dX1_init_79 rfl (lv_at hl 0 rfl) ?_
  refine lv_iconst (pc := 80) (v := 0) X.1 X.2.1 dX1_init_80 (by decide) ?_
  refine m_put (pc := 81) X G (i := 57) (k := 11) (v := .int 0) (M' := (upO (upO (upO (upO (upO (upO M 58 (.inl (κ 0, 28380, .inl (fun _ => 0)))) 59 (.inl (κ 0, 854, .inl (fun _ => 0)))) 60 (.inl (κ 0, 780, .inl (fun _ => 0)))) 61 (.inl (κ 0, 780, .inl (fun _ => 0)))) 62 (.inl (κ 0, 360, .inl (fun _ => 0)))) 57 (.inr (1, [.ref a58, .ref a59, .ref a60, .ref a61, .ref a62, .int 0, .int 0, .int 0, .int 0, .int 0, .int 0, .int 0, .int 0, .int 0])))) upO_s rfl wl_X1 tyX1_ok nmX1 (by decide) fl_X1_46 rfl rfl rfl rfl (Nat.le_of_ble_eq_true rfl) upO_s (fun j hj => (upO_n hj).trans (upO_n hj).symm) dX1_init_81 (fun H locs G => ?_)
  have G : Mm D κ A (upA (upA (upA (upA (upA ad 58 a58) 59 a59) 60 a60) 61 a61) 62 a62) (upO (upO (upO (upO (upO (upO M 58 (.inl (κ 0, 28380, .inl (fun _ => 0)))) 59 (.inl (κ 0, 854, .inl (fun _ => 0)))) 60 (.inl (κ 0, 780, .inl (fun _ => 0)))) 61 (.inl (κ 0, 780, .inl (fun _ => 0)))) 62 (.inl (κ 0, 360, .inl (fun _ => 0)))) 57 (.inr (1, [.ref a58, .ref a59, .ref a60, .ref a61, .ref a62, .int 0, .int 0, .int 0, .int 0, .int 0, .int 0, .int 0, .int 0, .int 0]))) s H locs := G
  refine lv_aload_n (pc := 84) X.1 X.2.1 dX1_init_84 rfl (lv_at hl 0 rfl) ?_
  refine lv_iconst (pc := 85) (v := 0) X.1 X.2.1 dX1_init_85 (by decide) ?_
  refine m_put (pc := 86) X G (i := 57) (k := 12) (v := .int 0) (M' := (upO (upO (upO (upO (upO (upO M 58 (.inl (κ 0, 28380, .inl (fun _ => 0)))) 59 (.inl (κ 0, 854, .inl (fun _ => 0)))) 60 (.inl (κ 0, 780, .inl (fun _ => 0)))) 61 (.inl (κ 0, 780, .inl (fun _ => 0)))) 62 (.inl (κ 0, 360, .inl (fun _ => 0)))) 57 (.inr (1, [.ref a58, .ref a59, .ref a60, .ref a61, .ref a62, .int 0, .int 0, .int 0, .int 0, .int 0, .int 0, .int 0, .int 0, .int 0])))) upO_s rfl wl_X1 tyX1_ok nmX1 (by decide) fl_X1_49 rfl rfl rfl rfl (Nat.le_of_ble_eq_true rfl) upO_s (fun j hj => (upO_n hj).trans (upO_n hj).symm) dX1_init_86 (fun H locs G => ?_)
  have G : Mm D κ A (upA (upA (upA (upA (upA ad 58 a58) 59 a59) 60 a60) 61 a61) 62 a62) (upO (upO (upO (upO (upO (upO M 58 (.inl (κ 0, 28380, .inl (fun _ => 0)))) 59 (.inl (κ 0, 854, .inl (fun _ => 0)))) 60 (.inl (κ 0, 780, .inl (fun _ => 0)))) 61 (.inl (κ 0, 780, .inl (fun _ => 0)))) 62 (.inl (κ 0, 360, .inl (fun _ => 0)))) 57 (.inr (1, [.ref a58, .ref a59, .ref a60, .ref a61, .ref a62, .int 0, .int 0, .int 0, .int 0, .int 0, .int 0, .int 0, .int 0, .int 0]))) s H locs := G
  refine lv_aload_n (pc := 89) X.1 X.2.1 dX1_init_89 rfl (lv_at hl 0 rfl) ?_
  refine lv_iconst (pc := 90) (v := 0) X.1 X.2.1 dX1_init_90 (by decide) ?_
  refine m_put (pc := 91) X G (i := 57) (k := 13) (v := .int 0) (M' := (upO (upO (upO (upO (upO (upO M 58 (.inl (κ 0, 28380, .inl (fun _ => 0)))) 59 (.inl (κ 0, 854, .inl (fun _ => 0)))) 60 (.inl (κ 0, 780, .inl (fun _ => 0)))) 61 (.inl (κ 0, 780, .inl (fun _ => 0)))) 62 (.inl (κ 0, 360, .inl (fun _ => 0)))) 57 (.inr (1, [.ref a58, .ref a59, .ref a60, .ref a61, .ref a62, .int 0, .int 0, .int 0, .int 0, .int 0, .int 0, .int 0, .int 0, .int 0])))) upO_s rfl wl_X1 tyX1_ok nmX1 (by decide) fl_X1_53 rfl rfl rfl rfl (Nat.le_of_ble_eq_true rfl) upO_s (fun j hj => (upO_n hj).trans (upO_n hj).symm) dX1_init_91 (fun H locs G => ?_)
  have G : Mm D κ A (upA (upA (upA (upA (upA ad 58 a58) 59 a59) 60 a60) 61 a61) 62 a62) (upO (upO (upO (upO (upO (upO M 58 (.inl (κ 0, 28380, .inl (fun _ => 0)))) 59 (.inl (κ 0, 854, .inl (fun _ => 0)))) 60 (.inl (κ 0, 780, .inl (fun _ => 0)))) 61 (.inl (κ 0, 780, .inl (fun _ => 0)))) 62 (.inl (κ 0, 360, .inl (fun _ => 0)))) 57 (.inr (1, [.ref a58, .ref a59, .ref a60, .ref a61, .ref a62, .int 0, .int 0, .int 0, .int 0, .int 0, .int 0, .int 0, .int 0, .int 0]))) s H locs := G
  exact C_ret (pc := 94) X G hr hlk dX1_init_94 (fun j hj => by simp only [List.mem_cons, List.not_mem_nil, or_false, not_or] at hj; simp [upA, hj]) rfl
abbrev rm2_init : Room := { frames := 1, cells := 2, slots := 8, locals := 12 }
set_option maxHeartbeats 4000000 in
set_option maxRecDepth 100000 in
theorem c2_init (l : Launch) (D : va_G) (κ : Nat → ClassId) (A : Nat → Prop) (ad : Nat → Nat) (M : Nat → Option va_E) (hM : M 63 = some (.inr (2, [.null, .null, .int 0, .int 0]))) (hq64 : M 64 = none) (hq65 : M 65 = none) : Met l yX2_init (gw yX2_init cX2_init 1 none) rm2_init (va_Pc [.ref (ad 63)] (MW D κ A ad M)) (QVC D A (fun ad' => ∀ j, j ∉ ([64, 65] : List Nat) → ad' j = ad j) (fun ad' => upO (upO (upO M 64 (.inl (κ 3, 6, .inr (.inr (.inr (.inr (fun _ => none))))))) 65 (.inl (κ 3, 2, .inr (.inr (.inr (.inr (fun _ => none))))))) 63 (.inr (2, [.ref (ad' 64), .ref (ad' 65), .int 0, .int 0])))) 2 8 A := by
  refine met_ofI (own := RX2) (by decide +kernel) rfl rfl (Nat.le_of_ble_eq_true rfl) ?_
  intro p e s m below meth c ls X hr hlk hin G hl
  have hl : lv_has ls 1 [(0, .ref (ad 63))] := hl
  have G : Mm D κ A ad (upO M 63 (.inr (2, [.null, .null, .int 0, .int 0]))) s s.heap [] := G.same (fun j => upO_self hM j)
  refine lv_aload_n (pc := 0) X.1 X.2.1 dX2_init_0 rfl (lv_at hl 0 rfl) ?_
  refine C_obj (pc := 1) X hl ml_X2_3 dX2_init_1 (Nat.le_of_ble_eq_true rfl) (Nat.le_of_ble_eq_true rfl) ?_
  refine lv_aload_n (pc := 4) X.1 X.2.1 dX2_init_4 rfl (lv_at hl 0 rfl) ?_
  refine lv_bipush (pc := 5) (v := 6) X.1 X.2.1 dX2_init_5 (by decide) ?_
  refine m_newT (pc := 7) X G 64 (t0 := 3) (C := RX5) (N := 6) hq64 rfl (by simp [thA]) cl_X2_9 (by decide) (by decide) (by decide) (Nat.le_of_ble_eq_true rfl) (Nat.le_of_ble_eq_true rfl) dX2_init_7 (fun a64 H G => ?_)
  have G : Mm D κ A (upA ad 64 a64) (upO (upO M 64 (.inl (κ 3, 6, .inr (.inr (.inr (.inr (fun _ => none))))))) 63 (.inr (2, [.null, .null, .int 0, .int 0]))) s H [] := by rw [upO_comm (by decide)] at G; exact G
  refine m_putF (pc := 10) X G (i := 63) (k := 0) (v := .ref a64) rfl upO_s rfl wl_X2 tyX2_ok nmX2 (by decide) fl_X2_11 rfl rfl rfl hin rfl rfl (Nat.le_of_ble_eq_true rfl) dX2_init_10 (fun H locs G => ?_)
  have G : Mm D κ A (upA ad 64 a64) (upO (upO M 64 (.inl (κ 3, 6, .inr (.inr (.inr (.inr (fun _ => none))))))) 63 (.inr (2, [.ref a64, .null, .int 0, .int 0]))) s H locs := by rw [upO_upO] at G; exact G
  refine lv_aload_n (pc := 13) X.1 X.2.1 dX2_init_13 rfl (lv_at hl 0 rfl) ?_
  refine lv_iconst (pc := 14) (v := 2) X.1 X.2.1 dX2_init_14 (by decide) ?_
  refine m_newT (pc := 15) X G 65 (t0 := 3) (C := RX5) (N := 2) hq65 rfl (by simp [thA]) cl_X2_9 (by decide) (by decide) (by decide) (Nat.le_of_ble_eq_true rfl) (Nat.le_of_ble_eq_true rfl) dX2_init_15 (fun a65 H G => ?_)
  have G : Mm D κ A (upA (upA ad 64 a64) 65 a65) (upO (upO (upO M 64 (.inl (κ 3, 6, .inr (.inr (.inr (.inr (fun _ => none))))))) 65 (.inl (κ 3, 2, .inr (.inr (.inr (.inr (fun _ => none))))))) 63 (.inr (2, [.ref a64, .null, .int 0, .int 0]))) s H locs := by rw [upO_comm (by decide)] at G; exact G
  refine m_putF (pc := 18) X G (i := 63) (k := 1) (v := .ref a65) rfl upO_s rfl wl_X2 tyX2_ok nmX2 (by decide) fl_X2_17 rfl rfl rfl hin rfl rfl (Nat.le_of_ble_eq_true rfl) dX2_init_18 (fun H locs G => ?_)
  have G : Mm D κ A (upA (upA ad 64 a64) 65 a65) (upO (upO (upO M 64 (.inl (κ 3, 6, .inr (.inr (.inr (.inr (fun _ => none))))))) 65 (.inl (κ 3, 2, .inr (.inr (.inr (.inr (fun _ => none))))))) 63 (.inr (2, [.ref a64, .ref a65, .int 0, .int 0]))) s H locs := by rw [upO_upO] at G; exact G
  refine lv_aload_n (pc := 21) X.1 X.2.1 dX2_init_21 rfl (lv_at hl 0 rfl) ?_
  refine lv_iconst (pc := 22) (v := 0) X.1 X.2.1 dX2_init_22 (by decide) ?_
  refine m_put (pc := 23) X G (i := 63) (k := 2) (v := .int 0) (M' := (upO (upO (upO M 64 (.inl (κ 3, 6, .inr (.inr (.inr (.inr (fun _ => none))))))) 65 (.inl (κ 3, 2, .inr (.inr (.inr (.inr (fun _ => none))))))) 63 (.inr (2, [.ref a64, .ref a65, .int 0, .int 0])))) upO_s rfl wl_X2 tyX2_ok nmX2 (by decide) fl_X2_20 rfl rfl rfl rfl (Nat.le_of_ble_eq_true rfl) upO_s (fun j hj => (upO_n hj).trans (upO_n hj).symm) dX2_init_23 (fun H locs G => ?_)
  have G : Mm D κ A (upA (upA ad 64 a64) 65 a65) (upO (upO (upO M 64 (.inl (κ 3, 6, .inr (.inr (.inr (.inr (fun _ => none))))))) 65 (.inl (κ 3, 2, .inr (.inr (.inr (.inr (fun _ => none))))))) 63 (.inr (2, [.ref a64, .ref a65, .int 0, .int 0]))) s H locs := G
  refine lv_aload_n (pc := 26) X.1 X.2.1 dX2_init_26 rfl (lv_at hl 0 rfl) ?_
  refine lv_iconst (pc := 27) (v := 0) X.1 X.2.1 dX2_init_27 (by decide) ?_
  refine m_put (pc := 28) X G (i := 63) (k := 3) (v := .int 0) (M' := (upO (upO (upO M 64 (.inl (κ 3, 6, .inr (.inr (.inr (.inr (fun _ => none))))))) 65 (.inl (κ 3, 2, .inr (.inr (.inr (.inr (fun _ => none))))))) 63 (.inr (2, [.ref a64, .ref a65, .int 0, .int 0])))) upO_s rfl wl_X2 tyX2_ok nmX2 (by decide) fl_X2_24 rfl rfl rfl rfl (Nat.le_of_ble_eq_true rfl) upO_s (fun j hj => (upO_n hj).trans (upO_n hj).symm) dX2_init_28 (fun H locs G => ?_)
  have G : Mm D κ A (upA (upA ad 64 a64) 65 a65) (upO (upO (upO M 64 (.inl (κ 3, 6, .inr (.inr (.inr (.inr (fun _ => none))))))) 65 (.inl (κ 3, 2, .inr (.inr (.inr (.inr (fun _ => none))))))) 63 (.inr (2, [.ref a64, .ref a65, .int 0, .int 0]))) s H locs := G
  exact C_ret (pc := 31) X G hr hlk dX2_init_31 (fun j hj => by simp only [List.mem_cons, List.not_mem_nil, or_false, not_or] at hj; simp [upA, hj]) rfl
