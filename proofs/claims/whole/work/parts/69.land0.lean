/-! ===== 69: a land whose rows lie anywhere ===== -/
section CLandG
variable {M : MM} {d : Nat} {Q : Option Value → MM → Prop} {p : Nat} {mk : Nat → Nat → Prop}
theorem s_land_loopG {qo mr : Nat} (hpq : p < qo) (tp : TY p = (3, 0)) (t1 : TY (qo) = (21, 4)) (t2 : TY ((qo + 1)) = (21, 4)) (h6 : mR M p 6 = some (qo)) (h7 : mR M p 7 = some ((qo + 1))) (hm0 : mL M p 2 = zb (mk 0)) (hm1 : mL M p 3 = zb (mk 1)) (l1 l2 l4 : Int32) (l3 : Option Nat) :
    ∀ m i : Nat, i + m = 4 → ∀ M1 : MM, M1.1 = M.1 → M1.2.2 = M.2.2 → (∀ a : Nat, ¬ a = qo → ¬ a = (qo + 1) → mL M1 a = mL M a) → (∀ w : Nat, w < i → mL M1 (qo) w = zb (fun c => ok c w ∧ ¬ mk 0 (nxc c w)) ∧ mL M1 ((qo + 1)) w = zb (fun c => ok c w ∧ ¬ mk 0 (nxc c w) ∧ ¬ mk 1 (nxc c w))) →
    (∀ M' : MM, M'.1 = M.1 → M'.2.2 = M.2.2 → (∀ a : Nat, ¬ a = qo → ¬ a = (qo + 1) → mL M' a = mL M a) → (∀ w : Nat, w < 4 → mL M' (qo) w = zb (fun c => ok c w ∧ ¬ mk 0 (nxc c w)) ∧ mL M' ((qo + 1)) w = zb (fun c => ok c w ∧ ¬ mk 0 (nxc c w) ∧ ¬ mk 1 (nxc c w))) → Q none M') →
    WP (d + 1) kX3_init (163, [.ref p, .int l1, .int l2, rf l3, .int l4, .int (vI i)], [], M1) Q := by
  intro m
  induction m with
  | zero =>
    intro i hi M1 e1 e2 eL hw h
    obtain rfl : i = 4 := by omega
    rw [gX3_init_163, if_neg (by decide)]
    exact h M1 e1 e2 eL hw
  | succ m ih =>
    intro i hi M1 e1 e2 eL hw h
    have hi4 : i < 4 := by omega
    have r6 : mR M1 p 6 = some (qo) := by rw [← h6]; show M1.2.2.1 p 6 = _; rw [e2]; rfl
    have r7 : mR M1 p 7 = some ((qo + 1)) := by rw [← h7]; show M1.2.2.1 p 7 = _; rw [e2]; rfl
    have g0 : mL M1 p 2 = zb (mk 0) := by rw [eL p (by omega) (by omega)]; exact hm0
    have g1 : mL M1 p 3 = zb (mk 1) := by rw [eL p (by omega) (by omega)]; exact hm1
    have hr4 := rv_lt4 hi4
    rw [gX3_init_163, if_pos (by rw [lt_nl (by omega) (by decide)]; exact hi4), s_across hi4, g0, zb_not, r6, rf_some]
    refine ⟨by rw [tp], ?_⟩
    simp only [Option.toList_some, Option.toList_none, List.cons_append, List.nil_append]
    rw [gX3_init_192, s_moved _ (by omega), rv_rv (by omega)]
    simp only [Option.toList_some, Option.toList_none, List.cons_append, List.nil_append]
    rw [gX3_init_195, t1, tp, inb_n (by omega), vI_cl (by omega), s_across hi4, xL_sL (by omega), xL_sL (by omega), g0, g1, zb_not, zb_diff]
    refine ⟨rfl, hi4, rfl, ?_⟩
    rw [r7, rf_some]
    simp only [Option.toList_some, Option.toList_none, List.cons_append, List.nil_append]
    rw [gX3_init_228, s_moved _ (by omega), rv_rv (by omega)]
    simp only [Option.toList_some, Option.toList_none, List.cons_append, List.nil_append]
    rw [gX3_init_231, t2, inb_n (by omega), vI_cl (by omega), add_nl]
    refine ⟨rfl, hi4, ih (i + 1) (by omega) _ e1 e2 (fun a h1 h2 => ?_) (fun w hw2 => ?_) h⟩
    · rw [rL_sL h2, rL_sL h1]; exact eL a h1 h2
    · by_cases e : w = i
      · subst e
        exact ⟨by rw [xL_sL (by omega), aL_sL], by rw [aL_sL]⟩
      · rw [xL_sL (by omega), xL_sL (by omega), xL_sL (by omega), xL_sL (by omega)]
        exact hw w (by omega)
theorem s_land3G {qo mr : Nat} {onN bk : Nat} (hpq : p < qo) (hlq : lq p qo (qo + 1)) (hmr : TY mr = (21, 4)) (hm1 : ¬ mr = p) (hm2 : ¬ mr = qo) (hm3 : ¬ mr = qo + 1) (tp : TY p = (3, 0)) (t1 : TY (qo) = (21, 4)) (t2 : TY ((qo + 1)) = (21, 4)) (hN : mN M = qo) (hM : ∀ k : Nat, k < 4 → mL M mr k = zb (mk k))
    (h : ∀ M' : MM, mN M' = (qo + 2) → (∀ a : Nat, ¬ a = p → ¬ a = qo → ¬ a = qo + 1 → mI M' a = mI M a ∧ mL M' a = mL M a ∧ mR M' a = mR M a) → LandC M' p onN bk mk → Q none M') : CL (d + 1) kX3_init [.ref p, .int (vI onN), .int (vI bk), rf (some mr)] M Q := by
  rw [eX3_init, hN, gX3_init_8, tp]
  refine ⟨t1, rfl, ?_⟩
  have n2 : mN (sR (nw M) p 6 (some (qo))) = (qo + 1) := by show mN M + 1 = _; rw [hN]
  rw [n2, gX3_init_15, tp]
  refine ⟨t2, rfl, rfl, ?_⟩
  simp only [Option.elim_some]
  rw [hmr, if_pos (by decide), gX3_init_43, if_neg (by decide)]
  simp only [hmr, true_and, and_true, Option.some.injEq, exists_eq_left']
  refine ⟨rfl, by decide, ?_⟩
  have e24 : ∀ k : Nat, mL (sI (sI (sR (nw (sR (nw M) p 6 (some (qo)))) p 7 (some ((qo + 1)))) p 0 (vI onN)) p 1 (vI bk)) mr k = mL M mr k := fun k => by
    show mL (nw (sR (nw M) p 6 (some (qo)))) mr k = _
    rw [mL_nw, n2, if_neg (by omega)]
    show mL (nw M) mr k = _
    rw [mL_nw, hN, if_neg (by omega)]
  rw [show (0 : Int32).toNatClampNeg = 0 from rfl, e24 0, hM 0 (by decide), gX3_init_58, tp, if_neg (by decide)]
  simp only [hmr, true_and, and_true, Option.some.injEq, exists_eq_left']
  rw [show (1 : Int32).toNatClampNeg = 1 from rfl, xL_sL (by omega), e24 1, hM 1 (by decide), gX3_init_74, tp, if_neg (by decide)]
  simp only [hmr, true_and, and_true, Option.some.injEq, exists_eq_left']
  rw [show (2 : Int32).toNatClampNeg = 2 from rfl, xL_sL (by omega), xL_sL (by omega), e24 2, hM 2 (by decide), gX3_init_90, tp, if_neg (by decide)]
  simp only [hmr, true_and, and_true, Option.some.injEq, exists_eq_left']
  rw [show (3 : Int32).toNatClampNeg = 3 from rfl, xL_sL (by omega), xL_sL (by omega), xL_sL (by omega), e24 3, hM 3 (by decide), gX3_init_106, tp]
  refine ⟨by decide, by decide, by decide, ?_⟩
  generalize hMa : sI (sI (sR (nw (sR (nw M) p 6 (some (qo)))) p 7 (some ((qo + 1)))) p 0 (vI onN)) p 1 (vI bk) = Ma
  have ea : ∀ a : Nat, ¬ a = p → ¬ a = qo → ¬ a = (qo + 1) → mI Ma a = mI M a ∧ mL Ma a = mL M a ∧ mR Ma a = mR M a := by
    intro a h0 h1 h2
    rw [← hMa]
    refine ⟨?_, ?_, ?_⟩
    · rw [rI_sI h0, rI_sI h0]
      show mI (nw (sR (nw M) p 6 (some (qo)))) a = _
      refine funext fun j => ?_
      rw [mI_nw, n2, if_neg h2]
      show mI (nw M) a j = _
      rw [mI_nw, hN, if_neg h1]
    · show mL (nw (sR (nw M) p 6 (some (qo)))) a = _
      refine funext fun j => ?_
      rw [mL_nw, n2, if_neg h2]
      show mL (nw M) a j = _
      rw [mL_nw, hN, if_neg h1]
    · show mR (sR (nw (sR (nw M) p 6 (some (qo)))) p 7 (some ((qo + 1)))) a = _
      rw [rR_sR h0]
      refine funext fun j => ?_
      rw [mR_nw, n2, if_neg h2, rR_sR h0, mR_nw, hN, if_neg h1]
  have e0 : mI Ma p 0 = vI onN := by rw [← hMa, xI_sI (by omega), aI_sI]
  have e1 : mI Ma p 1 = vI bk := by rw [← hMa, aI_sI]
  have e6 : mR Ma p 6 = some (qo) := by
    rw [← hMa]
    show mR (sR (nw (sR (nw M) p 6 (some (qo)))) p 7 (some ((qo + 1)))) p 6 = _
    rw [bR_sR (by decide), mR_nw, n2, if_neg (by omega), aR_sR]
  have e7 : mR Ma p 7 = some ((qo + 1)) := by
    rw [← hMa]
    show mR (sR (nw (sR (nw M) p 6 (some (qo)))) p 7 (some ((qo + 1)))) p 7 = _
    rw [aR_sR]
  have eN : mN Ma = (qo + 2) := by
    rw [← hMa]
    show mN M + 1 + 1 = _
    rw [hN]
  clear hMa e24
  have f4 : mL (sL (sL (sL (sL Ma p 2 (zb (mk 0))) p 3 (zb (mk 1))) p 4 (zb (mk 2))) p 5 (zb (mk 3))) p 4 = zb (mk 2) := by simp (disch := omega) only [aL_sL, xL_sL]
  have f5 : mL (sL (sL (sL (sL Ma p 2 (zb (mk 0))) p 3 (zb (mk 1))) p 4 (zb (mk 2))) p 5 (zb (mk 3))) p 5 = zb (mk 3) := by simp (disch := omega) only [aL_sL]
  rw [f4, f5, zb_not, zb_diff]
  have f8 : mL (sL (sL (sL (sL (sL Ma p 2 (zb (mk 0))) p 3 (zb (mk 1))) p 4 (zb (mk 2))) p 5 (zb (mk 3))) p 8 (zb (fun i => ¬ mk 2 i ∧ ¬ mk 3 i))) p 8 = zb (fun i => ¬ mk 2 i ∧ ¬ mk 3 i) := by simp (disch := omega) only [aL_sL]
  have f2 : mL (sL (sL (sL (sL (sL Ma p 2 (zb (mk 0))) p 3 (zb (mk 1))) p 4 (zb (mk 2))) p 5 (zb (mk 3))) p 8 (zb (fun i => ¬ mk 2 i ∧ ¬ mk 3 i))) p 2 = zb (mk 0) := by simp (disch := omega) only [aL_sL, xL_sL]
  have f3 : mL (sL (sL (sL (sL (sL Ma p 2 (zb (mk 0))) p 3 (zb (mk 1))) p 4 (zb (mk 2))) p 5 (zb (mk 3))) p 8 (zb (fun i => ¬ mk 2 i ∧ ¬ mk 3 i))) p 3 = zb (mk 1) := by simp (disch := omega) only [aL_sL, xL_sL]
  rw [f8, f2, f3, zb_diff, zb_diff, gX3_init_160, show Value.int 0 = .int (vI 0) from rfl]
  refine ⟨rfl, rfl, ?_⟩
  generalize hMb : sL (sL (sL (sL (sL (sL Ma p 2 (zb (mk 0))) p 3 (zb (mk 1))) p 4 (zb (mk 2))) p 5 (zb (mk 3))) p 8 (zb (fun i => ¬ mk 2 i ∧ ¬ mk 3 i))) p 9 (zb (fun i => ((¬ mk 2 i ∧ ¬ mk 3 i) ∧ ¬ mk 0 i) ∧ ¬ mk 1 i)) = Mb
  have b1 : Mb.1 = Ma.1 := by rw [← hMb]; rfl
  have b2 : Mb.2.2 = Ma.2.2 := by rw [← hMb]; rfl
  have bL : ∀ a : Nat, ¬ a = p → mL Mb a = mL Ma a := fun a h0 => by rw [← hMb, rL_sL h0, rL_sL h0, rL_sL h0, rL_sL h0, rL_sL h0, rL_sL h0]
  have bk4 : ∀ k : Nat, k < 4 → mL Mb p (2 + k) = zb (mk k) := fun k hk => by
    have h4 : k = 0 ∨ k = 1 ∨ k = 2 ∨ k = 3 := by omega
    rw [← hMb]
    rcases h4 with rfl | rfl | rfl | rfl <;> simp (disch := omega) only [aL_sL, xL_sL]
  have b8 : mL Mb p 8 = zb (fun i => ¬ mk 2 i ∧ ¬ mk 3 i) := by rw [← hMb]; simp (disch := omega) only [aL_sL, xL_sL]
  have b9 : mL Mb p 9 = zb (fun i => ((¬ mk 2 i ∧ ¬ mk 3 i) ∧ ¬ mk 0 i) ∧ ¬ mk 1 i) := by rw [← hMb, aL_sL]
  have c6 : mR Mb p 6 = some (qo) := by rw [← e6]; show Mb.2.2.1 p 6 = _; rw [b2]; rfl
  have c7 : mR Mb p 7 = some ((qo + 1)) := by rw [← e7]; show Mb.2.2.1 p 7 = _; rw [b2]; rfl
  refine s_land_loopG (qo := qo) (mr := mr) hpq (M := Mb) (mk := mk) tp t1 t2 c6 c7 (bk4 0 (by decide)) (bk4 1 (by decide)) _ _ _ _ 4 0 rfl Mb rfl rfl (fun _ _ _ => rfl) (fun w hw => absurd hw (Nat.not_lt_zero w)) (fun M' g1 g2 g3 g4 => ?_)
  have kI : ∀ a : Nat, mI M' a = mI Ma a := fun a => by show M'.1 a = _; rw [g1, b1]; rfl
  have kR : ∀ a : Nat, mR M' a = mR Ma a := fun a => by show M'.2.2.1 a = _; rw [g2, b2]; rfl
  refine h M' ?_ (fun a h0 h1 h2 => ⟨?_, ?_, ?_⟩) ⟨by rw [tp], ?_, ?_, fun k hk => ?_, ?_, ?_, qo, (qo + 1), hlq, ?_, t1, ?_, t2, fun w hw => (g4 w hw).1, fun w hw => (g4 w hw).2⟩
  · show M'.2.2.2 = _
    rw [g2, b2]; exact eN
  · rw [kI]; exact (ea a h0 h1 h2).1
  · rw [g3 a h1 h2, bL a h0]; exact (ea a h0 h1 h2).2.1
  · rw [kR]; exact (ea a h0 h1 h2).2.2
  · rw [kI]; exact e0
  · rw [kI]; exact e1
  · rw [g3 p (by omega) (by omega)]; exact bk4 k hk
  · rw [g3 p (by omega) (by omega)]; exact b8
  · rw [g3 p (by omega) (by omega), b9]
    exact zb_congr (fun c _ => ⟨fun h => ⟨h.1.1.1, h.1.1.2, h.1.2, h.2⟩, fun h => ⟨⟨⟨h.1, h.2.1⟩, h.2.2.1⟩, h.2.2.2⟩⟩)
  · rw [kR]; exact e6
  · rw [kR]; exact e7
end CLandG
