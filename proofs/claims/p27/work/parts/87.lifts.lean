/-! THE WRAPPERS OVER BOOKS AS A WHOLE, laid by wip/p27/walkl.py -/
theorem bg_define (l : Launch) (hfl : l.stackTraces = false) (D : va_G) (κ : Nat → ClassId) (A : Nat → Prop) (o : Nat) (P P' : BS → Prop) (p1 : Int32) (v : Int32) (hx : ∀ b, P b → ∃ b', gx cs_define (F7_define b p1) = some (b', v) ∧ P' b') : Met l yL_define (gwh yL_define cL_define 3 (some .int) [(0, 5, 6, 15), (0, 5, 10, 17)]) rmL_define (va_Pc [.ref o, .int p1] (WB D κ A (B1 D κ A o P))) (QW A (B1 D κ A o P') v) 9 114 A :=
  met_lift (fun ad b h50 hP => by obtain ⟨b', h1, h2⟩ := hx b hP; exact ⟨b', h2, wg_define l hfl D κ A ad nuW b p1 b' v h1⟩)
theorem bg_expand (l : Launch) (hfl : l.stackTraces = false) (D : va_G) (κ : Nat → ClassId) (A : Nat → Prop) (o : Nat) (P P' : BS → Prop) (v : Int32) (hx : ∀ b, P b → ∃ b', gx cs_expand (F7_expand b) = some (b', v) ∧ P' b') : Met l yL_expand (gwh yL_expand cL_expand 2 (some .int) [(0, 4, 5, 15)]) rmL_expand (va_Pc [.ref o] (WB D κ A (B1 D κ A o P))) (QW A (B1 D κ A o P') v) 9 605 A :=
  met_lift (fun ad b h50 hP => by obtain ⟨b', h1, h2⟩ := hx b hP; exact ⟨b', h2, wg_expand l hfl D κ A ad nuW b b' v h1⟩)
theorem bn_append (l : Launch) (D : va_G) (κ : Nat → ClassId) (A : Nat → Prop) (o : Nat) (P P' : BS → Prop) (p1 : Int32) (v : Int32) (hx : ∀ b, P b → ∃ b', nx (F7_append b p1) = some (b', v) ∧ P' b') : Met l yL_append (gwh yL_append cL_append 3 (some .int) [(0, 5, 6, 15), (0, 5, 10, 26)]) rmLn_append (va_Pc [.ref o, .int p1] (WB D κ A (B1 D κ A o P))) (QW A (B1 D κ A o P') v) 0 0 A :=
  met_lift0 (fun ad b h50 hP => by obtain ⟨b', h1, h2⟩ := hx b hP; exact ⟨b', h2, wn_append l D κ A ad nuW b p1 b' v h1⟩)
theorem bg_append (l : Launch) (hfl : l.stackTraces = false) (D : va_G) (κ : Nat → ClassId) (A : Nat → Prop) (o : Nat) (P P' : BS → Prop) (p1 : Int32) (v : Int32) (hx : ∀ b, P b → ∃ b', gx cs_append (F7_append b p1) = some (b', v) ∧ P' b') : Met l yL_append (gwh yL_append cL_append 3 (some .int) [(0, 5, 6, 15), (0, 5, 10, 26)]) rmL_append (va_Pc [.ref o, .int p1] (WB D κ A (B1 D κ A o P))) (QW A (B1 D κ A o P') v) 1 6 A :=
  met_lift (fun ad b h50 hP => by obtain ⟨b', h1, h2⟩ := hx b hP; exact ⟨b', h2, wg_append l hfl D κ A ad nuW b p1 b' v h1⟩)
theorem bg_set (l : Launch) (hfl : l.stackTraces = false) (D : va_G) (κ : Nat → ClassId) (A : Nat → Prop) (o : Nat) (P P' : BS → Prop) (p1 : Int32) (v : Int32) (hx : ∀ b, P b → ∃ b', gx cs_set (F7_set b p1) = some (b', v) ∧ P' b') : Met l yL_set (gwh yL_set cL_set 3 (some .int) [(0, 5, 6, 15)]) rmL_set (va_Pc [.ref o, .int p1] (WB D κ A (B1 D κ A o P))) (QW A (B1 D κ A o P') v) 5 35 A :=
  met_lift (fun ad b h50 hP => by obtain ⟨b', h1, h2⟩ := hx b hP; exact ⟨b', h2, wg_set l hfl D κ A ad nuW b p1 b' v h1⟩)
theorem bg_remove (l : Launch) (hfl : l.stackTraces = false) (D : va_G) (κ : Nat → ClassId) (A : Nat → Prop) (o : Nat) (P P' : BS → Prop) (p1 : Int32) (v : Int32) (hx : ∀ b, P b → ∃ b', gx cs_remove (F7_remove b p1) = some (b', v) ∧ P' b') : Met l yL_remove (gwh yL_remove cL_remove 3 (some .int) [(0, 5, 6, 17), (0, 5, 10, 26)]) rmL_remove (va_Pc [.ref o, .int p1] (WB D κ A (B1 D κ A o P))) (QW A (B1 D κ A o P') v) 7 47 A :=
  met_lift (fun ad b h50 hP => by obtain ⟨b', h1, h2⟩ := hx b hP; exact ⟨b', h2, wg_remove l hfl D κ A ad nuW b p1 b' v h1⟩)
theorem bn_sign (l : Launch) (D : va_G) (κ : Nat → ClassId) (A : Nat → Prop) (o : Nat) (P P' : BS → Prop) (p1 : Int32) (v : Int32) (hx : ∀ b, P b → ∃ b', nx (F7_sign b p1) = some (b', v) ∧ P' b') : Met l yL_sign (gwh yL_sign cL_sign 3 (some .int) [(0, 5, 6, 15)]) rmLn_sign (va_Pc [.ref o, .int p1] (WB D κ A (B1 D κ A o P))) (QW A (B1 D κ A o P') v) 0 0 A :=
  met_lift0 (fun ad b h50 hP => by obtain ⟨b', h1, h2⟩ := hx b hP; exact ⟨b', h2, wn_sign l D κ A ad nuW b p1 b' v h1⟩)
theorem bg_sign (l : Launch) (hfl : l.stackTraces = false) (D : va_G) (κ : Nat → ClassId) (A : Nat → Prop) (o : Nat) (P P' : BS → Prop) (p1 : Int32) (v : Int32) (hx : ∀ b, P b → ∃ b', gx cs_sign (F7_sign b p1) = some (b', v) ∧ P' b') : Met l yL_sign (gwh yL_sign cL_sign 3 (some .int) [(0, 5, 6, 15)]) rmL_sign (va_Pc [.ref o, .int p1] (WB D κ A (B1 D κ A o P))) (QW A (B1 D κ A o P') v) 1 6 A :=
  met_lift (fun ad b h50 hP => by obtain ⟨b', h1, h2⟩ := hx b hP; exact ⟨b', h2, wg_sign l hfl D κ A ad nuW b p1 b' v h1⟩)
theorem bn_result (l : Launch) (D : va_G) (κ : Nat → ClassId) (A : Nat → Prop) (o : Nat) (P P' : BS → Prop) (p1 : Int32) (v : Int32) (hx : ∀ b, P b → ∃ b', nx (F7_result b p1) = some (b', v) ∧ P' b') : Met l yL_result (gwh yL_result cL_result 3 (some .int) [(0, 5, 6, 15)]) rmLn_result (va_Pc [.ref o, .int p1] (WB D κ A (B1 D κ A o P))) (QW A (B1 D κ A o P') v) 0 0 A :=
  met_lift0 (fun ad b h50 hP => by obtain ⟨b', h1, h2⟩ := hx b hP; exact ⟨b', h2, wn_result l D κ A ad nuW b p1 b' v h1⟩)
theorem bg_result (l : Launch) (hfl : l.stackTraces = false) (D : va_G) (κ : Nat → ClassId) (A : Nat → Prop) (o : Nat) (P P' : BS → Prop) (p1 : Int32) (v : Int32) (hx : ∀ b, P b → ∃ b', gx cs_result (F7_result b p1) = some (b', v) ∧ P' b') : Met l yL_result (gwh yL_result cL_result 3 (some .int) [(0, 5, 6, 15)]) rmL_result (va_Pc [.ref o, .int p1] (WB D κ A (B1 D κ A o P))) (QW A (B1 D κ A o P') v) 1 6 A :=
  met_lift (fun ad b h50 hP => by obtain ⟨b', h1, h2⟩ := hx b hP; exact ⟨b', h2, wg_result l hfl D κ A ad nuW b p1 b' v h1⟩)
theorem bn_count (l : Launch) (D : va_G) (κ : Nat → ClassId) (A : Nat → Prop) (o : Nat) (P P' : BS → Prop) (p1 : Int32) (v : Int32) (hx : ∀ b, P b → ∃ b', nx (F7_count b p1) = some (b', v) ∧ P' b') : Met l yL_count (gwh yL_count cL_count 3 (some .int) [(0, 5, 6, 15)]) rmLn_count (va_Pc [.ref o, .int p1] (WB D κ A (B1 D κ A o P))) (QW A (B1 D κ A o P') v) 0 0 A :=
  met_lift0 (fun ad b h50 hP => by obtain ⟨b', h1, h2⟩ := hx b hP; exact ⟨b', h2, wn_count l D κ A ad nuW b p1 b' v h1⟩)
theorem bg_count (l : Launch) (hfl : l.stackTraces = false) (D : va_G) (κ : Nat → ClassId) (A : Nat → Prop) (o : Nat) (P P' : BS → Prop) (p1 : Int32) (v : Int32) (hx : ∀ b, P b → ∃ b', gx cs_count (F7_count b p1) = some (b', v) ∧ P' b') : Met l yL_count (gwh yL_count cL_count 3 (some .int) [(0, 5, 6, 15)]) rmL_count (va_Pc [.ref o, .int p1] (WB D κ A (B1 D κ A o P))) (QW A (B1 D κ A o P') v) 1 6 A :=
  met_lift (fun ad b h50 hP => by obtain ⟨b', h1, h2⟩ := hx b hP; exact ⟨b', h2, wg_count l hfl D κ A ad nuW b p1 b' v h1⟩)
theorem bn_body (l : Launch) (D : va_G) (κ : Nat → ClassId) (A : Nat → Prop) (o : Nat) (P P' : BS → Prop) (p1 : Int32) (p2 : Int32) (v : Int32) (hx : ∀ b, P b → ∃ b', nx (F7_body b p1 p2) = some (b', v) ∧ P' b') : Met l yL_body (gwh yL_body cL_body 4 (some .int) [(0, 6, 7, 17), (0, 6, 11, 15)]) rmLn_body (va_Pc [.ref o, .int p1, .int p2] (WB D κ A (B1 D κ A o P))) (QW A (B1 D κ A o P') v) 0 0 A :=
  met_lift0 (fun ad b h50 hP => by obtain ⟨b', h1, h2⟩ := hx b hP; exact ⟨b', h2, wn_body l D κ A ad nuW b p1 p2 b' v h1⟩)
theorem bg_body (l : Launch) (hfl : l.stackTraces = false) (D : va_G) (κ : Nat → ClassId) (A : Nat → Prop) (o : Nat) (P P' : BS → Prop) (p1 : Int32) (p2 : Int32) (v : Int32) (hx : ∀ b, P b → ∃ b', gx cs_body (F7_body b p1 p2) = some (b', v) ∧ P' b') : Met l yL_body (gwh yL_body cL_body 4 (some .int) [(0, 6, 7, 17), (0, 6, 11, 15)]) rmL_body (va_Pc [.ref o, .int p1, .int p2] (WB D κ A (B1 D κ A o P))) (QW A (B1 D κ A o P') v) 2 12 A :=
  met_lift (fun ad b h50 hP => by obtain ⟨b', h1, h2⟩ := hx b hP; exact ⟨b', h2, wg_body l hfl D κ A ad nuW b p1 p2 b' v h1⟩)
theorem bn_uses (l : Launch) (D : va_G) (κ : Nat → ClassId) (A : Nat → Prop) (o : Nat) (P P' : BS → Prop) (p1 : Int32) (p2 : Int32) (v : Int32) (hx : ∀ b, P b → ∃ b', nx (F7_uses b p1 p2) = some (b', v) ∧ P' b') : Met l yL_uses (gwh yL_uses cL_uses 4 (some .int) [(0, 6, 7, 17), (0, 6, 11, 15)]) rmLn_uses (va_Pc [.ref o, .int p1, .int p2] (WB D κ A (B1 D κ A o P))) (QW A (B1 D κ A o P') v) 0 0 A :=
  met_lift0 (fun ad b h50 hP => by obtain ⟨b', h1, h2⟩ := hx b hP; exact ⟨b', h2, wn_uses l D κ A ad nuW b p1 p2 b' v h1⟩)
theorem bg_uses (l : Launch) (hfl : l.stackTraces = false) (D : va_G) (κ : Nat → ClassId) (A : Nat → Prop) (o : Nat) (P P' : BS → Prop) (p1 : Int32) (p2 : Int32) (v : Int32) (hx : ∀ b, P b → ∃ b', gx cs_uses (F7_uses b p1 p2) = some (b', v) ∧ P' b') : Met l yL_uses (gwh yL_uses cL_uses 4 (some .int) [(0, 6, 7, 17), (0, 6, 11, 15)]) rmL_uses (va_Pc [.ref o, .int p1, .int p2] (WB D κ A (B1 D κ A o P))) (QW A (B1 D κ A o P') v) 2 12 A :=
  met_lift (fun ad b h50 hP => by obtain ⟨b', h1, h2⟩ := hx b hP; exact ⟨b', h2, wg_uses l hfl D κ A ad nuW b p1 p2 b' v h1⟩)
theorem bn_chain (l : Launch) (D : va_G) (κ : Nat → ClassId) (A : Nat → Prop) (o : Nat) (P P' : BS → Prop) (p1 : Int32) (v : Int32) (hx : ∀ b, P b → ∃ b', nx (F7_chain b p1) = some (b', v) ∧ P' b') : Met l yL_chain (gwh yL_chain cL_chain 3 (some .int) [(0, 5, 6, 17)]) rmLn_chain (va_Pc [.ref o, .int p1] (WB D κ A (B1 D κ A o P))) (QW A (B1 D κ A o P') v) 0 0 A :=
  met_lift0 (fun ad b h50 hP => by obtain ⟨b', h1, h2⟩ := hx b hP; exact ⟨b', h2, wn_chain l D κ A ad nuW b p1 b' v h1⟩)
theorem bg_chain (l : Launch) (hfl : l.stackTraces = false) (D : va_G) (κ : Nat → ClassId) (A : Nat → Prop) (o : Nat) (P P' : BS → Prop) (p1 : Int32) (v : Int32) (hx : ∀ b, P b → ∃ b', gx cs_chain (F7_chain b p1) = some (b', v) ∧ P' b') : Met l yL_chain (gwh yL_chain cL_chain 3 (some .int) [(0, 5, 6, 17)]) rmL_chain (va_Pc [.ref o, .int p1] (WB D κ A (B1 D κ A o P))) (QW A (B1 D κ A o P') v) 1 6 A :=
  met_lift (fun ad b h50 hP => by obtain ⟨b', h1, h2⟩ := hx b hP; exact ⟨b', h2, wg_chain l hfl D κ A ad nuW b p1 b' v h1⟩)
theorem bg_ifDefined (l : Launch) (hfl : l.stackTraces = false) (D : va_G) (κ : Nat → ClassId) (A : Nat → Prop) (o : Nat) (P P' : BS → Prop) (p1 : Int32) (v : Int32) (hx : ∀ b, P b → ∃ b', gx cs_ifDefined (F7_ifDefined b p1) = some (b', v) ∧ P' b') : Met l yL_ifDefined (gwh yL_ifDefined cL_ifDefined 3 (some .int) [(0, 5, 6, 17), (0, 5, 10, 15)]) rmL_ifDefined (va_Pc [.ref o, .int p1] (WB D κ A (B1 D κ A o P))) (QW A (B1 D κ A o P') v) 2 12 A :=
  met_lift (fun ad b h50 hP => by obtain ⟨b', h1, h2⟩ := hx b hP; exact ⟨b', h2, wg_ifDefined l hfl D κ A ad nuW b p1 b' v h1⟩)
theorem bg_exchange (l : Launch) (hfl : l.stackTraces = false) (D : va_G) (κ : Nat → ClassId) (A : Nat → Prop) (o : Nat) (P P' : BS → Prop) (p1 : Int32) (p2 : Int32) (v : Int32) (hx : ∀ b, P b → ∃ b', gx cs_exchange (F7_exchange b p1 p2) = some (b', v) ∧ P' b') : Met l yL_exchange (gwh yL_exchange cL_exchange 4 (some .int) [(0, 6, 7, 17)]) rmL_exchange (va_Pc [.ref o, .int p1, .int p2] (WB D κ A (B1 D κ A o P))) (QW A (B1 D κ A o P') v) 7 47 A :=
  met_lift (fun ad b h50 hP => by obtain ⟨b', h1, h2⟩ := hx b hP; exact ⟨b', h2, wg_exchange l hfl D κ A ad nuW b p1 p2 b' v h1⟩)
theorem bn_trace (l : Launch) (D : va_G) (κ : Nat → ClassId) (A : Nat → Prop) (o : Nat) (P P' : BS → Prop) (p1 : Int32) (p2 : Int32) (v : Int32) (hx : ∀ b, P b → ∃ b', nx (F7_trace b p1 p2) = some (b', v) ∧ P' b') : Met l yL_trace (gwh yL_trace cL_trace 4 (some .int) [(0, 6, 7, 15)]) rmLn_trace (va_Pc [.ref o, .int p1, .int p2] (WB D κ A (B1 D κ A o P))) (QW A (B1 D κ A o P') v) 0 0 A :=
  met_lift0 (fun ad b h50 hP => by obtain ⟨b', h1, h2⟩ := hx b hP; exact ⟨b', h2, wn_trace l D κ A ad nuW b p1 p2 b' v h1⟩)
theorem bg_trace (l : Launch) (hfl : l.stackTraces = false) (D : va_G) (κ : Nat → ClassId) (A : Nat → Prop) (o : Nat) (P P' : BS → Prop) (p1 : Int32) (p2 : Int32) (v : Int32) (hx : ∀ b, P b → ∃ b', gx cs_trace (F7_trace b p1 p2) = some (b', v) ∧ P' b') : Met l yL_trace (gwh yL_trace cL_trace 4 (some .int) [(0, 6, 7, 15)]) rmL_trace (va_Pc [.ref o, .int p1, .int p2] (WB D κ A (B1 D κ A o P))) (QW A (B1 D κ A o P') v) 1 6 A :=
  met_lift (fun ad b h50 hP => by obtain ⟨b', h1, h2⟩ := hx b hP; exact ⟨b', h2, wg_trace l hfl D κ A ad nuW b p1 p2 b' v h1⟩)
theorem bn_lengthOf (l : Launch) (D : va_G) (κ : Nat → ClassId) (A : Nat → Prop) (o : Nat) (P P' : BS → Prop) (p1 : Int32) (p2 : Int32) (v : Int32) (hx : ∀ b, P b → ∃ b', nx (F7_lengthOf b p1 p2) = some (b', v) ∧ P' b') : Met l yL_lengthOf (gwh yL_lengthOf cL_lengthOf 4 (some .int) [(0, 6, 7, 17), (0, 6, 11, 15)]) rmLn_lengthOf (va_Pc [.ref o, .int p1, .int p2] (WB D κ A (B1 D κ A o P))) (QW A (B1 D κ A o P') v) 0 0 A :=
  met_lift0 (fun ad b h50 hP => by obtain ⟨b', h1, h2⟩ := hx b hP; exact ⟨b', h2, wn_lengthOf l D κ A ad nuW b p1 p2 b' v h1⟩)
theorem bg_lengthOf (l : Launch) (hfl : l.stackTraces = false) (D : va_G) (κ : Nat → ClassId) (A : Nat → Prop) (o : Nat) (P P' : BS → Prop) (p1 : Int32) (p2 : Int32) (v : Int32) (hx : ∀ b, P b → ∃ b', gx cs_lengthOf (F7_lengthOf b p1 p2) = some (b', v) ∧ P' b') : Met l yL_lengthOf (gwh yL_lengthOf cL_lengthOf 4 (some .int) [(0, 6, 7, 17), (0, 6, 11, 15)]) rmL_lengthOf (va_Pc [.ref o, .int p1, .int p2] (WB D κ A (B1 D κ A o P))) (QW A (B1 D κ A o P') v) 2 12 A :=
  met_lift (fun ad b h50 hP => by obtain ⟨b', h1, h2⟩ := hx b hP; exact ⟨b', h2, wg_lengthOf l hfl D κ A ad nuW b p1 p2 b' v h1⟩)
theorem bg_load (l : Launch) (hfl : l.stackTraces = false) (D : va_G) (κ : Nat → ClassId) (A : Nat → Prop) (o : Nat) (P P' : BS → Prop) (p1 : Int32) (v : Int32) (hx : ∀ b, P b → ∃ b', gx cs_load (F7_load b p1) = some (b', v) ∧ P' b') : Met l yL_load (gwh yL_load cL_load 3 (some .int) [(0, 5, 6, 17), (0, 5, 10, 26)]) rmL_load (va_Pc [.ref o, .int p1] (WB D κ A (B1 D κ A o P))) (QW A (B1 D κ A o P') v) 2 12 A :=
  met_lift (fun ad b h50 hP => by obtain ⟨b', h1, h2⟩ := hx b hP; exact ⟨b', h2, wg_load l hfl D κ A ad nuW b p1 b' v h1⟩)
theorem bn_undo (l : Launch) (D : va_G) (κ : Nat → ClassId) (A : Nat → Prop) (o : Nat) (P P' : BS → Prop) (v : Int32) (hx : ∀ b, P b → ∃ b', nx (F7_undo b) = some (b', v) ∧ P' b') : Met l yL_undo (gwh yL_undo cL_undo 2 (some .int) [(0, 4, 5, 26)]) rmLn_undo (va_Pc [.ref o] (WB D κ A (B1 D κ A o P))) (QW A (B1 D κ A o P') v) 0 0 A :=
  met_lift0 (fun ad b h50 hP => by obtain ⟨b', h1, h2⟩ := hx b hP; exact ⟨b', h2, wn_undo l D κ A ad nuW b b' v h1⟩)
theorem bg_undo (l : Launch) (hfl : l.stackTraces = false) (D : va_G) (κ : Nat → ClassId) (A : Nat → Prop) (o : Nat) (P P' : BS → Prop) (v : Int32) (hx : ∀ b, P b → ∃ b', gx cs_undo (F7_undo b) = some (b', v) ∧ P' b') : Met l yL_undo (gwh yL_undo cL_undo 2 (some .int) [(0, 4, 5, 26)]) rmL_undo (va_Pc [.ref o] (WB D κ A (B1 D κ A o P))) (QW A (B1 D κ A o P') v) 1 6 A :=
  met_lift (fun ad b h50 hP => by obtain ⟨b', h1, h2⟩ := hx b hP; exact ⟨b', h2, wg_undo l hfl D κ A ad nuW b b' v h1⟩)
theorem bg_keep (l : Launch) (hfl : l.stackTraces = false) (D : va_G) (κ : Nat → ClassId) (A : Nat → Prop) (o : Nat) (P P' : BS → Prop) (p1 : Int32) (v : Int32) (hx : ∀ b, P b → ∃ b', gx cs_keep (F7_keep b p1) = some (b', v) ∧ P' b') : Met l yL_keep (gwh yL_keep cL_keep 3 (some .int) [(0, 5, 6, 15)]) rmL_keep (va_Pc [.ref o, .int p1] (WB D κ A (B1 D κ A o P))) (QW A (B1 D κ A o P') v) 6 41 A :=
  met_lift (fun ad b h50 hP => by obtain ⟨b', h1, h2⟩ := hx b hP; exact ⟨b', h2, wg_keep l hfl D κ A ad nuW b p1 b' v h1⟩)
theorem bg_goBack (l : Launch) (hfl : l.stackTraces = false) (D : va_G) (κ : Nat → ClassId) (A : Nat → Prop) (o : Nat) (P P' : BS → Prop) (p1 : Int32) (v : Int32) (hx : ∀ b, P b → ∃ b', gx cs_goBack (F7_goBack b p1) = some (b', v) ∧ P' b') : Met l yL_goBack (gwh yL_goBack cL_goBack 3 (some .int) [(0, 5, 6, 15), (0, 5, 10, 26)]) rmL_goBack (va_Pc [.ref o, .int p1] (WB D κ A (B1 D κ A o P))) (QW A (B1 D κ A o P') v) 6 41 A :=
  met_lift (fun ad b h50 hP => by obtain ⟨b', h1, h2⟩ := hx b hP; exact ⟨b', h2, wg_goBack l hfl D κ A ad nuW b p1 b' v h1⟩)
theorem bv_clearBuffer (l : Launch) (D : va_G) (κ : Nat → ClassId) (A : Nat → Prop) (o : Nat) (P P' : BS → Prop) (v : Int32) (hx : ∀ b, P b → ∃ b', F7_clearBuffer b = some (b', v) ∧ P' b') : Met l yX7_clearBuffer (gw yX7_clearBuffer cX7_clearBuffer 2 (some (FieldType.int))) rm7_clearBuffer (va_Pc [.ref o] (WB D κ A (B1 D κ A o P))) (QW A (B1 D κ A o P') v) 0 0 A :=
  met_lift0 (fun ad b h50 hP => by obtain ⟨b', h1, h2⟩ := hx b hP; exact ⟨b', h2, c7_clearBuffer l D κ A ad nuW b (b', v) h1⟩)
theorem bv_rings (l : Launch) (D : va_G) (κ : Nat → ClassId) (A : Nat → Prop) (o : Nat) (P P' : BS → Prop) (v : Int32) (hx : ∀ b, P b → ∃ b', F7_rings b = some (b', v) ∧ P' b') : Met l yX7_rings (gw yX7_rings cX7_rings 1 (some (FieldType.int))) rm7_rings (va_Pc [.ref o] (WB D κ A (B1 D κ A o P))) (QW A (B1 D κ A o P') v) 0 0 A :=
  met_lift0 (fun ad b h50 hP => by obtain ⟨b', h1, h2⟩ := hx b hP; exact ⟨b', h2, c7_rings l D κ A ad nuW b (b', v) h1⟩)
theorem bv_missing (l : Launch) (D : va_G) (κ : Nat → ClassId) (A : Nat → Prop) (o : Nat) (P P' : BS → Prop) (v : Int32) (hx : ∀ b, P b → ∃ b', F7_missing b = some (b', v) ∧ P' b') : Met l yX7_missing (gw yX7_missing cX7_missing 1 (some (FieldType.int))) rm7_missing (va_Pc [.ref o] (WB D κ A (B1 D κ A o P))) (QW A (B1 D κ A o P') v) 0 0 A :=
  met_lift0 (fun ad b h50 hP => by obtain ⟨b', h1, h2⟩ := hx b hP; exact ⟨b', h2, c7_missing l D κ A ad nuW b (b', v) h1⟩)
theorem bv_firstError (l : Launch) (D : va_G) (κ : Nat → ClassId) (A : Nat → Prop) (o : Nat) (P P' : BS → Prop) (v : Int32) (hx : ∀ b, P b → ∃ b', F7_firstError b = some (b', v) ∧ P' b') : Met l yX7_firstError (gw yX7_firstError cX7_firstError 1 (some (FieldType.int))) rm7_firstError (va_Pc [.ref o] (WB D κ A (B1 D κ A o P))) (QW A (B1 D κ A o P') v) 0 0 A :=
  met_lift0 (fun ad b h50 hP => by obtain ⟨b', h1, h2⟩ := hx b hP; exact ⟨b', h2, c7_firstError l D κ A ad nuW b (b', v) h1⟩)
/-- a question by its number -/
noncomputable def cq (m : Nat) (b : BS) (x y : Int32) : Option (BS × Int32) := match m with
  | 0 => nx (F7_result b x)
  | 1 => nx (F7_sign b x)
  | 2 => nx (F7_trace b x y)
  | 3 => nx (F7_count b x)
  | 4 => nx (F7_body b x y)
  | 5 => nx (F7_uses b x y)
  | 6 => nx (F7_chain b x)
  | 7 => nx (F7_lengthOf b x y)
  | 8 => F7_rings b
  | _ => F7_missing b
/-- a call that may be refused by its number -/
noncomputable def cg (m : Nat) (b : BS) (x y : Int32) : Option (BS × Int32) := match m with
  | 0 => gx cs_remove (F7_remove b x)
  | 1 => gx cs_exchange (F7_exchange b x y)
  | 2 => gx cs_set (F7_set b x)
  | 3 => gx cs_append (F7_append b x)
  | 4 => gx cs_load (F7_load b x)
  | 5 => gx cs_keep (F7_keep b x)
  | 6 => gx cs_goBack (F7_goBack b x)
  | 7 => gx cs_body (F7_body b x y)
  | 8 => gx cs_uses (F7_uses b x y)
  | 9 => gx cs_chain (F7_chain b x)
  | 10 => gx cs_ifDefined (F7_ifDefined b x)
  | 11 => gx cs_sign (F7_sign b x)
  | 12 => gx cs_result (F7_result b x)
  | 13 => gx cs_trace (F7_trace b x y)
  | 14 => gx cs_lengthOf (F7_lengthOf b x y)
  | 15 => gx cs_count (F7_count b x)
  | _ => gx cs_define (F7_define b x)
def QH (P : BS → Prop) (m : Nat) (x y v : Int32) : Prop := ∀ b, P b → ∃ b', cq m b x y = some (b', v) ∧ P b'
def RH (P : BS → Prop) (m : Nat) (x y v : Int32) : Prop := ∀ b, P b → ∃ b', cg m b x y = some (b', v) ∧ P b'
theorem qh_result {P : BS → Prop} {x y v : Int32} (h : QH P 0 x y v) : ∀ b, P b → ∃ b', nx (F7_result b x) = some (b', v) ∧ P b' := h
theorem qh_sign {P : BS → Prop} {x y v : Int32} (h : QH P 1 x y v) : ∀ b, P b → ∃ b', nx (F7_sign b x) = some (b', v) ∧ P b' := h
theorem qh_trace {P : BS → Prop} {x y v : Int32} (h : QH P 2 x y v) : ∀ b, P b → ∃ b', nx (F7_trace b x y) = some (b', v) ∧ P b' := h
theorem qh_count {P : BS → Prop} {x y v : Int32} (h : QH P 3 x y v) : ∀ b, P b → ∃ b', nx (F7_count b x) = some (b', v) ∧ P b' := h
theorem qh_body {P : BS → Prop} {x y v : Int32} (h : QH P 4 x y v) : ∀ b, P b → ∃ b', nx (F7_body b x y) = some (b', v) ∧ P b' := h
theorem qh_uses {P : BS → Prop} {x y v : Int32} (h : QH P 5 x y v) : ∀ b, P b → ∃ b', nx (F7_uses b x y) = some (b', v) ∧ P b' := h
theorem qh_chain {P : BS → Prop} {x y v : Int32} (h : QH P 6 x y v) : ∀ b, P b → ∃ b', nx (F7_chain b x) = some (b', v) ∧ P b' := h
theorem qh_lengthOf {P : BS → Prop} {x y v : Int32} (h : QH P 7 x y v) : ∀ b, P b → ∃ b', nx (F7_lengthOf b x y) = some (b', v) ∧ P b' := h
theorem qh_rings {P : BS → Prop} {x y v : Int32} (h : QH P 8 x y v) : ∀ b, P b → ∃ b', F7_rings b = some (b', v) ∧ P b' := h
theorem qh_missing {P : BS → Prop} {x y v : Int32} (h : QH P 9 x y v) : ∀ b, P b → ∃ b', F7_missing b = some (b', v) ∧ P b' := h
theorem rh_remove {P : BS → Prop} {x y v : Int32} (h : RH P 0 x y v) : ∀ b, P b → ∃ b', gx cs_remove (F7_remove b x) = some (b', v) ∧ P b' := h
theorem rh_exchange {P : BS → Prop} {x y v : Int32} (h : RH P 1 x y v) : ∀ b, P b → ∃ b', gx cs_exchange (F7_exchange b x y) = some (b', v) ∧ P b' := h
theorem rh_set {P : BS → Prop} {x y v : Int32} (h : RH P 2 x y v) : ∀ b, P b → ∃ b', gx cs_set (F7_set b x) = some (b', v) ∧ P b' := h
theorem rh_append {P : BS → Prop} {x y v : Int32} (h : RH P 3 x y v) : ∀ b, P b → ∃ b', gx cs_append (F7_append b x) = some (b', v) ∧ P b' := h
theorem rh_load {P : BS → Prop} {x y v : Int32} (h : RH P 4 x y v) : ∀ b, P b → ∃ b', gx cs_load (F7_load b x) = some (b', v) ∧ P b' := h
theorem rh_keep {P : BS → Prop} {x y v : Int32} (h : RH P 5 x y v) : ∀ b, P b → ∃ b', gx cs_keep (F7_keep b x) = some (b', v) ∧ P b' := h
theorem rh_goBack {P : BS → Prop} {x y v : Int32} (h : RH P 6 x y v) : ∀ b, P b → ∃ b', gx cs_goBack (F7_goBack b x) = some (b', v) ∧ P b' := h
theorem rh_body {P : BS → Prop} {x y v : Int32} (h : RH P 7 x y v) : ∀ b, P b → ∃ b', gx cs_body (F7_body b x y) = some (b', v) ∧ P b' := h
theorem rh_uses {P : BS → Prop} {x y v : Int32} (h : RH P 8 x y v) : ∀ b, P b → ∃ b', gx cs_uses (F7_uses b x y) = some (b', v) ∧ P b' := h
theorem rh_chain {P : BS → Prop} {x y v : Int32} (h : RH P 9 x y v) : ∀ b, P b → ∃ b', gx cs_chain (F7_chain b x) = some (b', v) ∧ P b' := h
theorem rh_ifDefined {P : BS → Prop} {x y v : Int32} (h : RH P 10 x y v) : ∀ b, P b → ∃ b', gx cs_ifDefined (F7_ifDefined b x) = some (b', v) ∧ P b' := h
theorem rh_sign {P : BS → Prop} {x y v : Int32} (h : RH P 11 x y v) : ∀ b, P b → ∃ b', gx cs_sign (F7_sign b x) = some (b', v) ∧ P b' := h
theorem rh_result {P : BS → Prop} {x y v : Int32} (h : RH P 12 x y v) : ∀ b, P b → ∃ b', gx cs_result (F7_result b x) = some (b', v) ∧ P b' := h
theorem rh_trace {P : BS → Prop} {x y v : Int32} (h : RH P 13 x y v) : ∀ b, P b → ∃ b', gx cs_trace (F7_trace b x y) = some (b', v) ∧ P b' := h
theorem rh_lengthOf {P : BS → Prop} {x y v : Int32} (h : RH P 14 x y v) : ∀ b, P b → ∃ b', gx cs_lengthOf (F7_lengthOf b x y) = some (b', v) ∧ P b' := h
theorem rh_count {P : BS → Prop} {x y v : Int32} (h : RH P 15 x y v) : ∀ b, P b → ∃ b', gx cs_count (F7_count b x) = some (b', v) ∧ P b' := h
theorem rh_define {P : BS → Prop} {x y v : Int32} (h : RH P 16 x y v) : ∀ b, P b → ∃ b', gx cs_define (F7_define b x) = some (b', v) ∧ P b' := h
/-- a call of the ghost: its answer as the law tells it -/
noncomputable def gz (c1 c2 : Int32) (x : Option (MS × Int32)) : Option (MS × Int32) := bn2 x fun z v => some (z, if z 43 7 = 0 then v else if z 43 7 = 1 then c1 else c2)
noncomputable def nw0 (z : MS) (v : Int32) : Option (MS × Int32) := if z 43 7 = 0 then some (z, v) else none
noncomputable def nw (x : Option (MS × Int32)) : Option (MS × Int32) := bn2 x nw0
theorem gz_ok {Iv : MS → BS → Prop} {x7 : Option (BS × (Nat ⊕ Int32))} {x8 : Option (MS × Int32)} {ks : List Nat} {cs : List (Nat × Int32)} {c1 c2 v : Int32} {z' : MS} (hT : okT Iv x7 x8 ks) (hcs : ∀ k ∈ ks, cs.lookup k = some (if k = ks.headD 0 then c1 else c2)) (h : gz c1 c2 x8 = some (z', v)) : ∃ b', gx cs x7 = some (b', v) ∧ Iv z' b' := by
  obtain ⟨⟨b', r⟩, z1, w, e7, e8, hk, h7, hr, hI⟩ := hT
  subst e7; subst e8
  have h : some (z1, if z1 43 7 = 0 then w else if z1 43 7 = 1 then c1 else c2) = some (z', v) := h
  cases h
  refine ⟨b', ?_, hI⟩
  cases r with
  | inr x =>
    have e : z' 43 7 = 0 := h7
    have ew : x = w := hr x rfl
    subst ew
    show some (b', x) = some (b', _)
    rw [if_pos e]
  | inl k =>
    have hk' := hk k rfl
    have e : z' 43 7 = if k = ks.headD 0 then 1 else 2 := h7
    show (cs.lookup k).map (fun c => (b', c)) = _
    rw [hcs k hk', e]
    by_cases q : k = ks.headD 0
    · rw [if_pos q, if_pos q]; rfl
    · rw [if_neg q, if_neg q]; rfl
theorem nw_ok {Iv : MS → BS → Prop} {x7 : Option (BS × (Nat ⊕ Int32))} {x8 : Option (MS × Int32)} {ks : List Nat} {v : Int32} {z' : MS} (hT : okT Iv x7 x8 ks) (h : nw x8 = some (z', v)) : ∃ b', nx x7 = some (b', v) ∧ Iv z' b' := by
  obtain ⟨⟨b', r⟩, z1, w, e7, e8, hk, h7, hr, hI⟩ := hT
  subst e7; subst e8
  have h : (if z1 43 7 = 0 then some (z1, w) else none) = some (z', v) := h
  by_cases c : z1 43 7 = 0
  · rw [if_pos c] at h
    cases h
    cases r with
    | inr x => have ew : x = v := hr x rfl
               subst ew; exact ⟨b', rfl, hI⟩
    | inl k =>
      exfalso
      have e : z' 43 7 = if k = ks.headD 0 then 1 else 2 := h7
      rw [c] at e
      by_cases q : k = ks.headD 0
      · rw [if_pos q] at e; exact absurd e (by decide)
      · rw [if_neg q] at e; exact absurd e (by decide)
  · rw [if_neg c] at h; cases h
theorem gz_tot {Iv : MS → BS → Prop} {x7 : Option (BS × (Nat ⊕ Int32))} {x8 : Option (MS × Int32)} {ks : List Nat} {c1 c2 : Int32} (hT : okT Iv x7 x8 ks) : ∃ z' v b', gz c1 c2 x8 = some (z', v) ∧ Iv z' b' := by
  obtain ⟨⟨b', r⟩, z1, w, e7, e8, hk, h7, hr, hI⟩ := hT
  subst e8
  exact ⟨z1, _, b', rfl, hI⟩
/-- every call that the law's makers use goes alike in the class and in the ghost -/
def LawS (Iv : MS → BS → Prop) : Prop := ∀ z b, Iv z b → (∀ p1 : Int32, p1 ≠ 25 → okT Iv (F7_define b p1) (F8_define z p1) [1, 2]) ∧
  (∀ p1 : Int32, okT Iv (F7_remove b p1) (F8_remove z p1) [1, 3]) ∧
  (∀ p1 p2 : Int32, p1 ≠ 25 ∧ p2 ≠ 25 → okT Iv (F7_exchange b p1 p2) (F8_exchange z p1 p2) [1]) ∧
  (∀ p1 : Int32, okT Iv (F7_set b p1) (F8_set z p1) [2]) ∧
  okT Iv (F7_expand b) (F8_expand z) [2] ∧
  (∀ p1 : Int32, okT Iv (F7_append b p1) (F8_append z p1) [2, 3]) ∧
  okP Iv (F7_clearBuffer b) (F8_clearBuffer z) ∧
  okT Iv (F7_undo b) (F8_undo z) [3] ∧
  (∀ p1 : Int32, okT Iv (F7_keep b p1) (F8_keep z p1) [2]) ∧
  (∀ p1 : Int32, okT Iv (F7_goBack b p1) (F8_goBack z p1) [2, 3]) ∧
  (∀ p1 p2 : Int32, okT Iv (F7_body b p1 p2) (F8_body z p1 p2) [1, 2]) ∧
  (∀ p1 p2 : Int32, okT Iv (F7_lengthOf b p1 p2) (F8_lengthOf z p1 p2) [1, 2])
theorem iz_define {Iv : MS → BS → Prop} (LS : LawS Iv) {z z' : MS} {v : Int32} {p1 : Int32} (hp : p1 ≠ 25) (h : gz (-3) (-2) (F8_define z p1) = some (z', v)) : ∀ b, Iv z b → ∃ b', gx cs_define (F7_define b p1) = some (b', v) ∧ Iv z' b' := fun b hI => gz_ok ((LS z b hI).1 _ hp) (by decide) h
theorem iz_remove {Iv : MS → BS → Prop} (LS : LawS Iv) {z z' : MS} {v : Int32} {p1 : Int32} (h : gz (-3) (-2) (F8_remove z p1) = some (z', v)) : ∀ b, Iv z b → ∃ b', gx cs_remove (F7_remove b p1) = some (b', v) ∧ Iv z' b' := fun b hI => gz_ok ((LS z b hI).2.1 _) (by decide) h
theorem iz_exchange {Iv : MS → BS → Prop} (LS : LawS Iv) {z z' : MS} {v : Int32} {p1 p2 : Int32} (hp : p1 ≠ 25 ∧ p2 ≠ 25) (h : gz (-3) 0 (F8_exchange z p1 p2) = some (z', v)) : ∀ b, Iv z b → ∃ b', gx cs_exchange (F7_exchange b p1 p2) = some (b', v) ∧ Iv z' b' := fun b hI => gz_ok ((LS z b hI).2.2.1 _ _ hp) (by decide) h
theorem iz_set {Iv : MS → BS → Prop} (LS : LawS Iv) {z z' : MS} {v : Int32} {p1 : Int32} (h : gz (-2) 0 (F8_set z p1) = some (z', v)) : ∀ b, Iv z b → ∃ b', gx cs_set (F7_set b p1) = some (b', v) ∧ Iv z' b' := fun b hI => gz_ok ((LS z b hI).2.2.2.1 _) (by decide) h
theorem iz_expand {Iv : MS → BS → Prop} (LS : LawS Iv) {z z' : MS} {v : Int32} (h : gz (-2) 0 (F8_expand z) = some (z', v)) : ∀ b, Iv z b → ∃ b', gx cs_expand (F7_expand b) = some (b', v) ∧ Iv z' b' := fun b hI => gz_ok ((LS z b hI).2.2.2.2.1) (by decide) h
theorem iz_append {Iv : MS → BS → Prop} (LS : LawS Iv) {z z' : MS} {v : Int32} {p1 : Int32} (h : gz (-2) (-3) (F8_append z p1) = some (z', v)) : ∀ b, Iv z b → ∃ b', gx cs_append (F7_append b p1) = some (b', v) ∧ Iv z' b' := fun b hI => gz_ok ((LS z b hI).2.2.2.2.2.1 _) (by decide) h
theorem in_append {Iv : MS → BS → Prop} (LS : LawS Iv) {z z' : MS} {v : Int32} {p1 : Int32} (h : nw (F8_append z p1) = some (z', v)) : ∀ b, Iv z b → ∃ b', nx (F7_append b p1) = some (b', v) ∧ Iv z' b' := fun b hI => nw_ok ((LS z b hI).2.2.2.2.2.1 _) h
theorem iz_undo {Iv : MS → BS → Prop} (LS : LawS Iv) {z z' : MS} {v : Int32} (h : gz (-2) 0 (F8_undo z) = some (z', v)) : ∀ b, Iv z b → ∃ b', gx cs_undo (F7_undo b) = some (b', v) ∧ Iv z' b' := fun b hI => gz_ok ((LS z b hI).2.2.2.2.2.2.2.1) (by decide) h
theorem in_undo {Iv : MS → BS → Prop} (LS : LawS Iv) {z z' : MS} {v : Int32} (h : nw (F8_undo z) = some (z', v)) : ∀ b, Iv z b → ∃ b', nx (F7_undo b) = some (b', v) ∧ Iv z' b' := fun b hI => nw_ok ((LS z b hI).2.2.2.2.2.2.2.1) h
theorem iz_keep {Iv : MS → BS → Prop} (LS : LawS Iv) {z z' : MS} {v : Int32} {p1 : Int32} (h : gz (-2) 0 (F8_keep z p1) = some (z', v)) : ∀ b, Iv z b → ∃ b', gx cs_keep (F7_keep b p1) = some (b', v) ∧ Iv z' b' := fun b hI => gz_ok ((LS z b hI).2.2.2.2.2.2.2.2.1 _) (by decide) h
theorem iz_goBack {Iv : MS → BS → Prop} (LS : LawS Iv) {z z' : MS} {v : Int32} {p1 : Int32} (h : gz (-2) (-3) (F8_goBack z p1) = some (z', v)) : ∀ b, Iv z b → ∃ b', gx cs_goBack (F7_goBack b p1) = some (b', v) ∧ Iv z' b' := fun b hI => gz_ok ((LS z b hI).2.2.2.2.2.2.2.2.2.1 _) (by decide) h
theorem in_body {Iv : MS → BS → Prop} (LS : LawS Iv) {z z' : MS} {v : Int32} {p1 p2 : Int32} (h : nw (F8_body z p1 p2) = some (z', v)) : ∀ b, Iv z b → ∃ b', nx (F7_body b p1 p2) = some (b', v) ∧ Iv z' b' := fun b hI => nw_ok ((LS z b hI).2.2.2.2.2.2.2.2.2.2.1 _ _) h
theorem in_lengthOf {Iv : MS → BS → Prop} (LS : LawS Iv) {z z' : MS} {v : Int32} {p1 p2 : Int32} (h : nw (F8_lengthOf z p1 p2) = some (z', v)) : ∀ b, Iv z b → ∃ b', nx (F7_lengthOf b p1 p2) = some (b', v) ∧ Iv z' b' := fun b hI => nw_ok ((LS z b hI).2.2.2.2.2.2.2.2.2.2.2 _ _) h
theorem iz_clearBuffer {Iv : MS → BS → Prop} (LS : LawS Iv) {z z' : MS} {v : Int32} (h : F8_clearBuffer z = some (z', v)) : ∀ b, Iv z b → ∃ b', F7_clearBuffer b = some (b', v) ∧ Iv z' b' := fun b hI => by
  obtain ⟨b', z1, w, h7, h8, hI'⟩ := (LS z b hI).2.2.2.2.2.2.1
  rw [h8] at h
  cases h
  exact ⟨b', h7, hI'⟩
theorem g_L_99 : GoodIn G0 (va_wsS RL 99 yL_typed (gw yL_typed cL_typed 7 (some (FieldType.int)))) := gsS_in ml_L_99 sm_yL_typed ini_L cd_yL_typed
theorem hs_yL_typed : yL_typed.cls ≠ "java/lang/invoke/MethodHandle" ∧ yL_typed.cls ≠ "java/lang/invoke/VarHandle" ∧ (parseMethodDescriptor yL_typed.desc).map (fun d => d.parameters.length) = some 2 := by decide +kernel
theorem g_L_116 : GoodIn G0 (wsV RL 116 RX7 yX7_rings (gw yX7_rings cX7_rings 1 (some (FieldType.int)))) := gv_in ml_L_116 im_yX7_rings se_yX7_rings ini_X7 cd_yX7_rings
theorem hd_yX7_rings : yX7_rings.cls = RX7 ∧ yX7_rings.cls ≠ "java/lang/invoke/MethodHandle" ∧ yX7_rings.cls ≠ "java/lang/invoke/VarHandle" ∧ (parseMethodDescriptor yX7_rings.desc).map (fun d => d.parameters.length) = some 0 := by decide +kernel
theorem g_L_125 : GoodIn G0 (wsV RL 125 RX7 yX7_meanHoles (gw yX7_meanHoles cX7_meanHoles 2 (some (FieldType.double)))) := gv_in ml_L_125 im_yX7_meanHoles se_yX7_meanHoles ini_X7 cd_yX7_meanHoles
theorem hd_yX7_meanHoles : yX7_meanHoles.cls = RX7 ∧ yX7_meanHoles.cls ≠ "java/lang/invoke/MethodHandle" ∧ yX7_meanHoles.cls ≠ "java/lang/invoke/VarHandle" ∧ (parseMethodDescriptor yX7_meanHoles.desc).map (fun d => d.parameters.length) = some 0 := by decide +kernel
theorem g_L_129 : GoodIn G0 (wsV RL 129 RX7 yX7_missing (gw yX7_missing cX7_missing 1 (some (FieldType.int)))) := gv_in ml_L_129 im_yX7_missing se_yX7_missing ini_X7 cd_yX7_missing
theorem hd_yX7_missing : yX7_missing.cls = RX7 ∧ yX7_missing.cls ≠ "java/lang/invoke/MethodHandle" ∧ yX7_missing.cls ≠ "java/lang/invoke/VarHandle" ∧ (parseMethodDescriptor yX7_missing.desc).map (fun d => d.parameters.length) = some 0 := by decide +kernel
theorem g_L_77 : GoodIn G0 (wsV RL 77 RX7 yX7_clearBuffer (gw yX7_clearBuffer cX7_clearBuffer 2 (some (FieldType.int)))) := gv_in ml_L_77 im_yX7_clearBuffer se_yX7_clearBuffer ini_X7 cd_yX7_clearBuffer
theorem hd_yX7_clearBuffer : yX7_clearBuffer.cls = RX7 ∧ yX7_clearBuffer.cls ≠ "java/lang/invoke/MethodHandle" ∧ yX7_clearBuffer.cls ≠ "java/lang/invoke/VarHandle" ∧ (parseMethodDescriptor yX7_clearBuffer.desc).map (fun d => d.parameters.length) = some 0 := by decide +kernel
theorem gL_80 : GoodIn G0 (va_wsS RL 80 yL_append (gwh yL_append cL_append 3 (some .int) [(0, 5, 6, 15), (0, 5, 10, 26)])) := gwh_in ml_L_80 sm_yL_append ini_L cw_yL_append
theorem gL_85 : GoodIn G0 (va_wsS RL 85 yL_remove (gwh yL_remove cL_remove 3 (some .int) [(0, 5, 6, 17), (0, 5, 10, 26)])) := gwh_in ml_L_85 sm_yL_remove ini_L cw_yL_remove
theorem gL_87 : GoodIn G0 (va_wsS RL 87 yL_exchange (gwh yL_exchange cL_exchange 4 (some .int) [(0, 6, 7, 17)])) := gwh_in ml_L_87 sm_yL_exchange ini_L cw_yL_exchange
theorem gL_90 : GoodIn G0 (va_wsS RL 90 yL_set (gwh yL_set cL_set 3 (some .int) [(0, 5, 6, 15)])) := gwh_in ml_L_90 sm_yL_set ini_L cw_yL_set
theorem gL_92 : GoodIn G0 (va_wsS RL 92 yL_undo (gwh yL_undo cL_undo 2 (some .int) [(0, 4, 5, 26)])) := gwh_in ml_L_92 sm_yL_undo ini_L cw_yL_undo
theorem gL_95 : GoodIn G0 (va_wsS RL 95 yL_keep (gwh yL_keep cL_keep 3 (some .int) [(0, 5, 6, 15)])) := gwh_in ml_L_95 sm_yL_keep ini_L cw_yL_keep
theorem gL_97 : GoodIn G0 (va_wsS RL 97 yL_goBack (gwh yL_goBack cL_goBack 3 (some .int) [(0, 5, 6, 15), (0, 5, 10, 26)])) := gwh_in ml_L_97 sm_yL_goBack ini_L cw_yL_goBack
theorem gL_102 : GoodIn G0 (va_wsS RL 102 yL_define (gwh yL_define cL_define 3 (some .int) [(0, 5, 6, 15), (0, 5, 10, 17)])) := gwh_in ml_L_102 sm_yL_define ini_L cw_yL_define
theorem gL_104 : GoodIn G0 (va_wsS RL 104 yL_expand (gwh yL_expand cL_expand 2 (some .int) [(0, 4, 5, 15)])) := gwh_in ml_L_104 sm_yL_expand ini_L cw_yL_expand
theorem gL_106 : GoodIn G0 (va_wsS RL 106 yL_result (gwh yL_result cL_result 3 (some .int) [(0, 5, 6, 15)])) := gwh_in ml_L_106 sm_yL_result ini_L cw_yL_result
theorem gL_108 : GoodIn G0 (va_wsS RL 108 yL_sign (gwh yL_sign cL_sign 3 (some .int) [(0, 5, 6, 15)])) := gwh_in ml_L_108 sm_yL_sign ini_L cw_yL_sign
theorem gL_110 : GoodIn G0 (va_wsS RL 110 yL_trace (gwh yL_trace cL_trace 4 (some .int) [(0, 6, 7, 15)])) := gwh_in ml_L_110 sm_yL_trace ini_L cw_yL_trace
theorem gL_112 : GoodIn G0 (va_wsS RL 112 yL_count (gwh yL_count cL_count 3 (some .int) [(0, 5, 6, 15)])) := gwh_in ml_L_112 sm_yL_count ini_L cw_yL_count
theorem gL_114 : GoodIn G0 (va_wsS RL 114 yL_body (gwh yL_body cL_body 4 (some .int) [(0, 6, 7, 17), (0, 6, 11, 15)])) := gwh_in ml_L_114 sm_yL_body ini_L cw_yL_body
theorem gL_119 : GoodIn G0 (va_wsS RL 119 yL_uses (gwh yL_uses cL_uses 4 (some .int) [(0, 6, 7, 17), (0, 6, 11, 15)])) := gwh_in ml_L_119 sm_yL_uses ini_L cw_yL_uses
theorem gL_121 : GoodIn G0 (va_wsS RL 121 yL_chain (gwh yL_chain cL_chain 3 (some .int) [(0, 5, 6, 17)])) := gwh_in ml_L_121 sm_yL_chain ini_L cw_yL_chain
theorem gL_123 : GoodIn G0 (va_wsS RL 123 yL_lengthOf (gwh yL_lengthOf cL_lengthOf 4 (some .int) [(0, 6, 7, 17), (0, 6, 11, 15)])) := gwh_in ml_L_123 sm_yL_lengthOf ini_L cw_yL_lengthOf
theorem gL_132 : GoodIn G0 (va_wsS RL 132 yL_load (gwh yL_load cL_load 3 (some .int) [(0, 5, 6, 17), (0, 5, 10, 26)])) := gwh_in ml_L_132 sm_yL_load ini_L cw_yL_load
theorem gL_134 : GoodIn G0 (va_wsS RL 134 yL_ifDefined (gwh yL_ifDefined cL_ifDefined 3 (some .int) [(0, 5, 6, 17), (0, 5, 10, 15)])) := gwh_in ml_L_134 sm_yL_ifDefined ini_L cw_yL_ifDefined
theorem hsL_append : yL_append.cls ≠ "java/lang/invoke/MethodHandle" ∧ yL_append.cls ≠ "java/lang/invoke/VarHandle" ∧ (parseMethodDescriptor yL_append.desc).map (fun d => d.parameters.length) = some 2 := by decide +kernel
theorem hsL_body : yL_body.cls ≠ "java/lang/invoke/MethodHandle" ∧ yL_body.cls ≠ "java/lang/invoke/VarHandle" ∧ (parseMethodDescriptor yL_body.desc).map (fun d => d.parameters.length) = some 3 := by decide +kernel
theorem hsL_chain : yL_chain.cls ≠ "java/lang/invoke/MethodHandle" ∧ yL_chain.cls ≠ "java/lang/invoke/VarHandle" ∧ (parseMethodDescriptor yL_chain.desc).map (fun d => d.parameters.length) = some 2 := by decide +kernel
theorem hsL_count : yL_count.cls ≠ "java/lang/invoke/MethodHandle" ∧ yL_count.cls ≠ "java/lang/invoke/VarHandle" ∧ (parseMethodDescriptor yL_count.desc).map (fun d => d.parameters.length) = some 2 := by decide +kernel
theorem hsL_define : yL_define.cls ≠ "java/lang/invoke/MethodHandle" ∧ yL_define.cls ≠ "java/lang/invoke/VarHandle" ∧ (parseMethodDescriptor yL_define.desc).map (fun d => d.parameters.length) = some 2 := by decide +kernel
theorem hsL_exchange : yL_exchange.cls ≠ "java/lang/invoke/MethodHandle" ∧ yL_exchange.cls ≠ "java/lang/invoke/VarHandle" ∧ (parseMethodDescriptor yL_exchange.desc).map (fun d => d.parameters.length) = some 3 := by decide +kernel
theorem hsL_expand : yL_expand.cls ≠ "java/lang/invoke/MethodHandle" ∧ yL_expand.cls ≠ "java/lang/invoke/VarHandle" ∧ (parseMethodDescriptor yL_expand.desc).map (fun d => d.parameters.length) = some 1 := by decide +kernel
theorem hsL_goBack : yL_goBack.cls ≠ "java/lang/invoke/MethodHandle" ∧ yL_goBack.cls ≠ "java/lang/invoke/VarHandle" ∧ (parseMethodDescriptor yL_goBack.desc).map (fun d => d.parameters.length) = some 2 := by decide +kernel
theorem hsL_ifDefined : yL_ifDefined.cls ≠ "java/lang/invoke/MethodHandle" ∧ yL_ifDefined.cls ≠ "java/lang/invoke/VarHandle" ∧ (parseMethodDescriptor yL_ifDefined.desc).map (fun d => d.parameters.length) = some 2 := by decide +kernel
theorem hsL_keep : yL_keep.cls ≠ "java/lang/invoke/MethodHandle" ∧ yL_keep.cls ≠ "java/lang/invoke/VarHandle" ∧ (parseMethodDescriptor yL_keep.desc).map (fun d => d.parameters.length) = some 2 := by decide +kernel
theorem hsL_lengthOf : yL_lengthOf.cls ≠ "java/lang/invoke/MethodHandle" ∧ yL_lengthOf.cls ≠ "java/lang/invoke/VarHandle" ∧ (parseMethodDescriptor yL_lengthOf.desc).map (fun d => d.parameters.length) = some 3 := by decide +kernel
theorem hsL_load : yL_load.cls ≠ "java/lang/invoke/MethodHandle" ∧ yL_load.cls ≠ "java/lang/invoke/VarHandle" ∧ (parseMethodDescriptor yL_load.desc).map (fun d => d.parameters.length) = some 2 := by decide +kernel
theorem hsL_remove : yL_remove.cls ≠ "java/lang/invoke/MethodHandle" ∧ yL_remove.cls ≠ "java/lang/invoke/VarHandle" ∧ (parseMethodDescriptor yL_remove.desc).map (fun d => d.parameters.length) = some 2 := by decide +kernel
theorem hsL_result : yL_result.cls ≠ "java/lang/invoke/MethodHandle" ∧ yL_result.cls ≠ "java/lang/invoke/VarHandle" ∧ (parseMethodDescriptor yL_result.desc).map (fun d => d.parameters.length) = some 2 := by decide +kernel
theorem hsL_set : yL_set.cls ≠ "java/lang/invoke/MethodHandle" ∧ yL_set.cls ≠ "java/lang/invoke/VarHandle" ∧ (parseMethodDescriptor yL_set.desc).map (fun d => d.parameters.length) = some 2 := by decide +kernel
theorem hsL_sign : yL_sign.cls ≠ "java/lang/invoke/MethodHandle" ∧ yL_sign.cls ≠ "java/lang/invoke/VarHandle" ∧ (parseMethodDescriptor yL_sign.desc).map (fun d => d.parameters.length) = some 2 := by decide +kernel
theorem hsL_trace : yL_trace.cls ≠ "java/lang/invoke/MethodHandle" ∧ yL_trace.cls ≠ "java/lang/invoke/VarHandle" ∧ (parseMethodDescriptor yL_trace.desc).map (fun d => d.parameters.length) = some 3 := by decide +kernel
theorem hsL_undo : yL_undo.cls ≠ "java/lang/invoke/MethodHandle" ∧ yL_undo.cls ≠ "java/lang/invoke/VarHandle" ∧ (parseMethodDescriptor yL_undo.desc).map (fun d => d.parameters.length) = some 1 := by decide +kernel
theorem hsL_uses : yL_uses.cls ≠ "java/lang/invoke/MethodHandle" ∧ yL_uses.cls ≠ "java/lang/invoke/VarHandle" ∧ (parseMethodDescriptor yL_uses.desc).map (fun d => d.parameters.length) = some 3 := by decide +kernel
