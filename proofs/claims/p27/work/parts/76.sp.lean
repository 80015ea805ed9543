/-! PURE: spelling: a call, a text -/
theorem hD_of {a : AS} (hW : WA a) : ∀ k t, a.1 k = some t → Cpl t := fun k t e => (hW.1 k t e).1
/-- one sign put -/
theorem put_itm {z : MS} {d B S p : Nat} (h32 : z 43 32 = nI d) (h38 : z 43 38 = nI B) (h39 : z 43 39 = nI S) (hS : S < 200) (c : Int32) : F8_puts (up2 z 30 d (nI (p + 1))) c = some (up2 (up2 (up2 z 30 d (nI (p + 1))) 0 (1588 + S) c) 43 39 (nI (S + 1))) ∧ ITM z (up2 (up2 (up2 z 30 d (nI (p + 1))) 0 (1588 + S) c) 43 39 (nI (S + 1))) d B S (p + 1) [c] B := by
  refine ⟨puts_ok (by rw [up2_ne _ (by decide)]; exact h39) hS c, ((Sp.up (Or.inl (by decide))).tr (Sp.up (Or.inr (Or.inr ⟨rfl, by omega, by omega⟩)))).tr (Sp.up (Or.inr (Or.inl ⟨rfl, by decide⟩))), ?_, ?_, Nat.le_refl _, ?_, fun i hi => ?_, fun j hj => ?_, ?_, ?_, ?_, ?_, ?_⟩
  · rw [up2_at, if_neg (by decide), up2_ne _ (by decide), up2_ne _ (by decide)]; exact h32
  · rw [up2_at, if_neg (by decide), up2_ne _ (by decide), up2_ne _ (by decide)]; exact h38
  · rw [up2_at, if_pos ⟨rfl, rfl⟩]; rfl
  · rw [up2_ne _ (by decide), up2_at, if_neg (by omega), up2_ne _ (by decide)]
  · have : j = 0 := by simp at hj; exact hj
    subst this
    show up2 (up2 (up2 z 30 d (nI (p + 1))) 0 (1588 + S) c) 43 39 (nI (S + 1)) 0 (1588 + S + 0) = c
    rw [up2_ne _ (by decide), up2_at, if_pos ⟨rfl, rfl⟩]
  · exact ((EnvSt.up (by omega) (by omega)).tr (EnvSt.up (by omega) (by omega))).tr (EnvSt.up (by omega) (by omega))
  · exact ((StkSt.up (by omega)).tr (StkSt.up (by omega))).tr (StkSt.up (by omega))
  · rw [up2_ne _ (by decide), up2_ne _ (by decide), up2_ne _ (by decide)]
  · rw [up2_ne _ (by decide), up2_ne _ (by decide), up2_ne _ (by decide)]
  · rw [up2_ne _ (by decide), up2_ne _ (by decide), up2_at, if_pos ⟨rfl, rfl⟩]
set_option maxHeartbeats 1000000 in
theorem sp_call {a : AS} {L n : Nat} (hSP : ∀ n', n = n' + 1 → SPn a L n') (hW : WA a) (hL : a.2.2.1 = nI L) (hL12 : L ≤ 12) {O : List Nat} {fill : Nat → Tx} {fc : Nat → Nat} {u : Tx} {z z3 : MS} {d B S p p' k : Nat} {env : Int32} {c : Int32} {v : Tx} {vs : List Tx} {ss : List Nat} (hOn : O.length + n = 13) (hOL : O.length ≤ L) (hZ : DZ z a) (hs : SrcZ z (srcO O) u) (hpo : u.drop p = c :: v) (hab : inB c 65 90 = true) (hk : ltr c = k)
    (hE : EnvCh z B env O) (hC : Clo z B env O fill fc) (h32 : z 43 32 = nI d) (h38 : z 43 38 = nI B) (h39 : z 43 39 = nI S) (h29 : z 29 d = nI (srcO O)) (h30 : z 30 d = nI p) (h31 : z 31 d = env) (hd : d + O.length ≤ 2 * B)
    (hsk : F8_skips (up2 z 30 d (nI (p + 1))) = some z3) (hI : SKI (up2 z 30 d (nI (p + 1))) d B p' ss z3) (hss : ss.length = vs.length) (h6 : vs.length ≤ 6)
    (harg : ∀ i, i < vs.length → ∃ post, u.drop (ss.getD i 0) = vs.getD i [] ++ post ∧ (post.head? = some 44 ∨ post.head? = some 41) ∧ hls (u.take (ss.getD i 0)) = hls (u.take p) + hll (vs.take i) ∧ Cpl (vs.getD i []))
    (IH : ∀ i, i < vs.length → ∀ (post : Tx) (q : Nat) (z' : MS) (d' B' S' : Nat), DZ z' a → SrcZ z' (srcO O) u → u.drop q = vs.getD i [] ++ post → (post = [] ∨ post.head? = some 44 ∨ post.head? = some 41) → q ≤ u.length → EnvCh z' B' env O → Clo z' B' env O fill fc → z' 43 32 = nI d' → z' 43 38 = nI B' → z' 43 39 = nI S' → z' 29 d' = nI (srcO O) → z' 30 d' = nI q → z' 31 d' = env →
      B' + (xl (callF (evF a.1 L n) a.1 L O) fill (hls (u.take q)) (vs.getD i []) + sm fc (hls (u.take q)) (hls (vs.getD i []))) ≤ 60 → S' + (vl (callF (evF a.1 L n) a.1 L O) fill (hls (u.take q)) (vs.getD i [])).length ≤ 200 → d' + O.length ≤ 2 * B' →
      POP z' d' B' S' (vl (callF (evF a.1 L n) a.1 L O) fill (hls (u.take q)) (vs.getD i [])) (xl (callF (evF a.1 L n) a.1 L O) fill (hls (u.take q)) (vs.getD i []) + sm fc (hls (u.take q)) (hls (vs.getD i []))))
    (hc60 : B + (xls (callF (evF a.1 L n) a.1 L O) fill (hls (u.take p)) vs + ceF a.1 L n O k (vls (callF (evF a.1 L n) a.1 L O) fill (hls (u.take p)) vs) + sm fc (hls (u.take p)) (hll vs)) ≤ 60) (hw200 : S + (cvF a.1 L n O k (vls (callF (evF a.1 L n) a.1 L O) fill (hls (u.take p)) vs)).length ≤ 200) :
    ∃ z1 B1, Loop sB z = Loop sB z1 ∧ ITM z z1 d B S p' (cvF a.1 L n O k (vls (callF (evF a.1 L n) a.1 L O) fill (hls (u.take p)) vs)) B1 ∧ B1 ≤ B + (xls (callF (evF a.1 L n) a.1 L O) fill (hls (u.take p)) vs + ceF a.1 L n O k (vls (callF (evF a.1 L n) a.1 L O) fill (hls (u.take p)) vs) + sm fc (hls (u.take p)) (hll vs)) := by
  obtain ⟨hl1, hl2⟩ := ltr_lt hab
  rw [hk] at hl1 hl2
  have hn4 := ab_ne hab
  obtain ⟨y, hy⟩ : ∃ y, y = up2 z 30 d (nI (p + 1)) := ⟨_, rfl⟩
  rw [← hy] at hsk hI
  have sy : Sp z y := by rw [hy]; exact Sp.up (Or.inl (by decide))
  have ey : EnvSt z y B := by rw [hy]; exact EnvSt.up (by omega) (by omega)
  have ky : StkSt z y d := by rw [hy]; exact StkSt.up (by omega)
  have y43 : y 43 = z 43 := by rw [hy]; exact up2_ne _ (by decide)
  have y0 : y 0 = z 0 := by rw [hy]; exact up2_ne _ (by decide)
  have y29 : y 29 d = nI (srcO O) := by rw [hy, up2_ne _ (by decide)]; exact h29
  have y31 : y 31 d = env := by rw [hy, up2_ne _ (by decide)]; exact h31
  have s3 := sy.tr hI.sp
  have e3 := ey.tr hI.env
  have k3 := ky.tr hI.stk
  have z3r : ∀ j, j ≠ 30 → j ≠ 36 → j ≠ 37 → z3 j = z j := fun j q1 q2 q3 => by rw [hI.1 j q1 q2 q3, hy]; exact up2_ne _ q1
  have z343 : z3 43 = z 43 := z3r 43 (by decide) (by decide) (by decide)
  obtain ⟨as, has⟩ : ∃ as, as = vls (callF (evF a.1 L n) a.1 L O) fill (hls (u.take p)) vs := ⟨_, rfl⟩
  rw [← has] at hc60 hw200 ⊢
  have las : as.length = vs.length := by rw [has, vls_len]
  have hB : B ≤ 60 := by omega
  have hsgn : edg a.1 L O k ≠ 0 → cvF a.1 L n O k as = [sgn (edg a.1 L O k)] := fun q => by unfold cvF resF; rw [if_neg q]
  have hcalls := calls_ok (y := y) (hZ.sp hW sy) hW hL hOL hL12 hl1 (by rw [y43]; exact h38) (by omega) (by rw [y43]; exact h32) (by omega) (by rw [y43]; exact h39) (fun q => by rw [hsgn q] at hw200; have : ([sgn (edg a.1 L O k)] : Tx).length = 1 := rfl; omega) y29 y31 (hE.keep ey (Nat.le_refl _)) hsk hI
  have hgo : ∀ {z2 : MS}, F8_calls y (nI k) = some z2 → Loop sB z = Loop sB z2 := fun {z2} q => sB_go (by omega) h32 h29 h30 hs hpo hn4.2.2.1 hn4.2.2.2 (Or.inl ⟨hab, by rw [← hy, hl2]; exact q⟩)
  by_cases ed : edg a.1 L O k = 0
  · rw [if_pos ed] at hcalls
    obtain ⟨⟨t, et⟩, hkO, hOL2⟩ := edg_0 ed
    cases n with
    | zero => omega
    | succ n' =>
      have hb := hSP n' rfl
      have ht := hW.1 k t et
      have hni := evF_ni a.1 L (n' + 1) (k :: O) (fun i => as.getD i []) t ht.1 (hD_of hW) (bodyG G00 O)
      have hcv : cvF a.1 L (n' + 1) O k as = vl (callF (evF a.1 L n') a.1 L (k :: O)) (fun i => as.getD i []) 0 t := by
        unfold cvF resF
        rw [if_pos ed, et]
        exact hni.1
      have hce : ceF a.1 L (n' + 1) O k as = 1 + xl (callF (evF a.1 L n') a.1 L (k :: O)) (fun i => as.getD i []) 0 t := by
        unfold ceF resF
        rw [if_pos ed, et]
        exact hni.2
      obtain ⟨z2, hz2⟩ : ∃ z2, z2 = callZ z3 d B (nI k) (nI (srcO O)) env := ⟨_, rfl⟩
      rw [← hz2] at hcalls
      have s32 : Sp z3 z2 := by
        rw [hz2]
        exact (((((((Sp.up (Or.inl (by decide))).tr (Sp.up (Or.inl (by decide)))).tr (Sp.up (Or.inl (by decide)))).tr (Sp.up (Or.inr (Or.inl ⟨rfl, by decide⟩)))).tr (Sp.up (Or.inl (by decide)))).tr (Sp.up (Or.inl (by decide)))).tr (Sp.up (Or.inl (by decide)))).tr (Sp.up (Or.inr (Or.inl ⟨rfl, by decide⟩)))
      have e32 : EnvSt z3 z2 B := by
        rw [hz2]
        exact (((((((EnvSt.up (by omega) (by omega)).tr (EnvSt.up (by omega) (by omega))).tr (EnvSt.up (by omega) (by omega))).tr (EnvSt.up (by omega) (by omega))).tr (EnvSt.up (by omega) (by omega))).tr (EnvSt.up (by omega) (by omega))).tr (EnvSt.up (by omega) (by omega))).tr (EnvSt.up (by omega) (by omega))
      have k32 : StkSt z3 z2 (d + 1) := by
        rw [hz2]
        exact (((((((StkSt.up (by omega)).tr (StkSt.up (by omega))).tr (StkSt.up (by omega))).tr (StkSt.up (by omega))).tr (StkSt.up (by omega))).tr (StkSt.up (by omega))).tr (StkSt.up (by omega))).tr (StkSt.up (by omega))
      have s2 := s3.tr s32
      have e2 := e3.tr e32
      have c33 : z2 33 B = nI k := by
        rw [hz2]; unfold callZ
        rw [up2_ne _ (by decide), up2_ne _ (by decide), up2_ne _ (by decide), up2_ne _ (by decide), up2_ne _ (by decide), up2_ne _ (by decide), up2_ne _ (by decide), up2_at, if_pos ⟨rfl, rfl⟩]
      have c34 : z2 34 B = nI (srcO O) := by
        rw [hz2]; unfold callZ
        rw [up2_ne _ (by decide), up2_ne _ (by decide), up2_ne _ (by decide), up2_ne _ (by decide), up2_ne _ (by decide), up2_ne _ (by decide), up2_at, if_pos ⟨rfl, rfl⟩]
      have c35 : z2 35 B = env := by
        rw [hz2]; unfold callZ
        rw [up2_ne _ (by decide), up2_ne _ (by decide), up2_ne _ (by decide), up2_ne _ (by decide), up2_ne _ (by decide), up2_at, if_pos ⟨rfl, rfl⟩]
      have c36 : z2 36 = z3 36 := by
        rw [hz2]; unfold callZ
        rw [up2_ne _ (by decide), up2_ne _ (by decide), up2_ne _ (by decide), up2_ne _ (by decide), up2_ne _ (by decide), up2_ne _ (by decide), up2_ne _ (by decide), up2_ne _ (by decide)]
      have c37 : z2 37 = z3 37 := by
        rw [hz2]; unfold callZ
        rw [up2_ne _ (by decide), up2_ne _ (by decide), up2_ne _ (by decide), up2_ne _ (by decide), up2_ne _ (by decide), up2_ne _ (by decide), up2_ne _ (by decide), up2_ne _ (by decide)]
      have c29 : z2 29 (d + 1) = nI k := by
        rw [hz2]; unfold callZ
        rw [up2_ne _ (by decide), up2_ne _ (by decide), up2_ne _ (by decide), up2_at, if_pos ⟨rfl, rfl⟩]
      have c30 : z2 30 (d + 1) = nI 0 := by
        rw [hz2]; unfold callZ
        rw [up2_ne _ (by decide), up2_ne _ (by decide), up2_at, if_pos ⟨rfl, rfl⟩]; rfl
      have c31 : z2 31 (d + 1) = nI B := by
        rw [hz2]; unfold callZ
        rw [up2_ne _ (by decide), up2_at, if_pos ⟨rfl, rfl⟩]
      have d32 : z2 43 32 = nI (d + 1) := by
        rw [hz2]; unfold callZ
        rw [up2_at, if_neg (by decide), up2_ne _ (by decide), up2_ne _ (by decide), up2_ne _ (by decide), up2_at, if_pos ⟨rfl, rfl⟩]
      have d38 : z2 43 38 = nI (B + 1) := by
        rw [hz2]; unfold callZ
        rw [up2_at, if_pos ⟨rfl, rfl⟩]
      have d39 : z2 43 39 = nI S := by
        rw [hz2]; unfold callZ
        rw [up2_at, if_neg (by decide), up2_ne _ (by decide), up2_ne _ (by decide), up2_ne _ (by decide), up2_at, if_neg (by decide), up2_ne _ (by decide), up2_ne _ (by decide), up2_ne _ (by decide), z343]; exact h39
      have z20 : z2 0 = z 0 := by
        rw [hz2]; unfold callZ
        rw [up2_ne _ (by decide), up2_ne _ (by decide), up2_ne _ (by decide), up2_ne _ (by decide), up2_ne _ (by decide), up2_ne _ (by decide), up2_ne _ (by decide), up2_ne _ (by decide)]
        exact z3r 0 (by decide) (by decide) (by decide)
      have hcost := fcs_sum (call := callF (evF a.1 L (n' + 1)) a.1 L O) (fill := fill) fc vs (hls (u.take p)) (hls t)
      have hcl : Clo z2 (B + 1) (nI B) (k :: O) (fun i => as.getD i []) (fcs (callF (evF a.1 L (n' + 1)) a.1 L O) fill fc (hls (u.take p)) vs) := by
        refine ⟨B, vs.length, by omega, rfl, ?_, h6, fun i hi => ?_, fun i hi => ?_⟩
        · rw [c36, hI.2.2.2.2.1, hss]
        · show as.getD i [] = []
          rw [List.getD_eq_getElem?_getD, List.getElem?_eq_none (by omega)]; rfl
        · obtain ⟨post, a1, a2, a3, a4⟩ := harg i hi
          have hq : ss.getD i 0 ≤ u.length := by
            have hne : post ≠ [] := by rintro rfl; rcases a2 with q | q <;> cases q
            rcases Nat.lt_or_ge (ss.getD i 0) u.length with q | q
            · omega
            · have e := congrArg List.length a1
              rw [List.length_drop, List.length_append] at e
              cases post with
              | nil => exact absurd rfl hne
              | cons x r => rw [List.length_cons] at e; omega
          have ev : as.getD i [] = vl (callF (evF a.1 L (n' + 1)) a.1 L O) fill (hls (u.take (ss.getD i 0))) (vs.getD i []) := by rw [has, vls_at vs _ i hi, a3]
          have ec : fcs (callF (evF a.1 L (n' + 1)) a.1 L O) fill fc (hls (u.take p)) vs i = xl (callF (evF a.1 L (n' + 1)) a.1 L O) fill (hls (u.take (ss.getD i 0))) (vs.getD i []) + sm fc (hls (u.take (ss.getD i 0))) (hls (vs.getD i [])) := by rw [fcs_at fc vs _ i hi, a3]
          intro z' d' B' S' p1 p2 p3 p4 p5 p6 p7 p8 p9 p10 p11 p12
          dsimp only at p11 ⊢
          rw [ev] at p11 ⊢
          rw [ec] at p10 ⊢
          have ez' := e2.tr p2
          refine IH i hi post (ss.getD i 0) z' d' B' S' (hZ.sp hW (s2.tr p1)) (hs.sp (s2.tr p1)) a1 (Or.inr a2) hq (hE.keep ez' p3) (hC.keep (s2.tr p1) ez' p3) p4 p5 p6 (p7.trans c34) ?_ (p9.trans c35) p10 p11 p12
          rw [p8, c37]
          exact hI.2.2.2.2.2.2 i (by omega)
      have hpop := hb (k :: O) (fun i => as.getD i []) (fcs (callF (evF a.1 L (n' + 1)) a.1 L O) fill fc (hls (u.take p)) vs) t t.length t [] 0 false z2 (d + 1) (B + 1) S (nI B) (Nat.le_refl _) (by rw [List.length_cons]; omega) (by rw [List.length_cons]; omega) (hZ.sp hW s2) ((hZ.sp hW s2).src hW hl1 et) (by rw [List.append_nil]; rfl) (Or.inl rfl) (Nat.zero_le _) (PrsOK.start ht.1) ⟨B, by omega, rfl, c33, hl1, by rw [c35]; exact hE.keep e2 (by omega)⟩ hcl d32 d38 d39 c29 c30 c31
        (by
          show B + 1 + (xl (callF (evF a.1 L n') a.1 L (k :: O)) (fun i => as.getD i []) 0 t + sm _ 0 (hls t)) ≤ 60
          rw [hce] at hc60
          omega) (by
          show S + (vl (callF (evF a.1 L n') a.1 L (k :: O)) (fun i => as.getD i []) 0 t).length ≤ 200
          rw [hcv] at hw200; exact hw200) (by rw [List.length_cons]; omega)
      obtain ⟨w3, B3, f1, f2, f3⟩ := ITM.of (p' := p') s2 e2 (k3.tr (k32.le (by omega))) ((k32 d (by omega)).1.trans (by rw [z3r 29 (by decide) (by decide) (by decide)])) ((k32 d (by omega)).2.2.trans (by rw [z3r 31 (by decide) (by decide) (by decide)])) ((k32 d (by omega)).2.1.trans hI.2.2.1) (fun i hi => by rw [z20]) (by omega) hpop
      refine ⟨w3, B3, (hgo hcalls).trans f1, ?_, ?_⟩
      · rw [hcv]; exact f2
      · have f3' : B3 ≤ B + 1 + (xl (callF (evF a.1 L n') a.1 L (k :: O)) (fun i => as.getD i []) 0 t + sm (fcs (callF (evF a.1 L (n' + 1)) a.1 L O) fill fc (hls (u.take p)) vs) 0 (hls t)) := f3
        rw [hce]; omega
  · rw [if_neg ed] at hcalls
    have hcv := hsgn ed
    rw [hcv] at hw200 ⊢
    have l1 : ([sgn (edg a.1 L O k)] : Tx).length = 1 := rfl
    rw [l1] at hw200
    refine ⟨_, B, hgo hcalls, ⟨(s3.tr (Sp.up (Or.inr (Or.inr ⟨rfl, by omega, by omega⟩)))).tr (Sp.up (Or.inr (Or.inl ⟨rfl, by decide⟩))), ?_, ?_, Nat.le_refl _, ?_, fun i hi => ?_, fun j hj => ?_, ?_, ?_, ?_, ?_, ?_⟩, by omega⟩
    · rw [up2_at, if_neg (by decide), up2_ne _ (by decide), z343]; exact h32
    · rw [up2_at, if_neg (by decide), up2_ne _ (by decide), z343]; exact h38
    · rw [up2_at, if_pos ⟨rfl, rfl⟩]; rfl
    · rw [up2_ne _ (by decide), up2_at, if_neg (by omega), z3r 0 (by decide) (by decide) (by decide)]
    · have : j = 0 := by rw [l1] at hj; omega
      subst this
      show up2 (up2 z3 0 (1588 + S) (sgn (edg a.1 L O k))) 43 39 (nI (S + 1)) 0 (1588 + S + 0) = sgn (edg a.1 L O k)
      rw [up2_ne _ (by decide), up2_at, if_pos ⟨rfl, rfl⟩]
    · exact (e3.tr (EnvSt.up (by omega) (by omega))).tr (EnvSt.up (by omega) (by omega))
    · exact (k3.tr (StkSt.up (by omega))).tr (StkSt.up (by omega))
    · rw [up2_ne _ (by decide), up2_ne _ (by decide), z3r 29 (by decide) (by decide) (by decide)]
    · rw [up2_ne _ (by decide), up2_ne _ (by decide), z3r 31 (by decide) (by decide) (by decide)]
    · rw [up2_ne _ (by decide), up2_ne _ (by decide)]; exact hI.2.2.1
