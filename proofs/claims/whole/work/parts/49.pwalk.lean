/-! ===== 49: walker, put, image, undo on both sides ===== -/
theorem xI_sI {M : MM} {a k b j : Nat} {v : Int32} (h : ¬ (b = a ∧ j = k)) : mI (sI M a k v) b j = mI M b j := by rw [mI_sI, if_neg h]
section Walk
variable {MZ M : MM} {n d : Nat} {Q : Option Value → MM → Prop}
theorem s_stands {a : Nat} (hT : (TY a).1 = 9) (c f bt : Int32) : CL d kX9_stands [.ref a, .int c, .int f, .int bt] M Q = Q none (sI (sI (sI (sI M a 2 c) a 3 f) a 4 bt) a 6 4) := by
  rw [eX9_stands]; simp only [hT, true_and]
theorem s_added {nw : Nat} (hp : PC M) (h0 : mI M 33 1 = vI nw) (hn : nw ≤ 6) : CL (d + 1) kX5_added [.ref 33] M Q = if nw < 6 then Q (some (rf (some (39 + nw)))) (sI M 33 1 (vI (nw + 1))) else Q (some (rf none)) M := by
  rw [eX5_added, h0]
  simp only [ty_33, true_and]
  by_cases h : nw < 6
  · rw [if_pos (by rw [lt_nl (by omega) (by decide)]; exact h), if_pos h, add_nl, aI_sI, sub_nl (by omega), show nw + 1 - 1 = nw by omega, s_who_t (M := sI M 33 1 (vI (nw + 1))) hp (aI_sI _ _ _ _) (by omega) (by omega)]
    simp only [Option.toList_some, Option.toList_none, List.cons_append, List.nil_append]
    rw [gX5_added_29]
  · rw [if_neg (by rw [lt_nl (by omega) (by decide)]; exact h), if_neg h]
/-- a walker of a scene is written anew on both sides -/
theorem walk_inv {M2 : MM} (hI1 : INV MZ (n + 1) M) {w nw2 kd v c f bt gn : Nat} (h1 : mN M2 = mN M) (h2 : mR M2 = mR M) (h3 : mL M2 = mL M)
    (g0 : ∀ a : Nat, ¬ a = 33 → ¬ a = 39 + w → ¬ a = 83 → mI M2 a = mI M a) (g33 : mI M2 33 1 = vI nw2) (g83 : mI M2 83 0 = vI nw2) (g83b : ∀ j : Nat, ¬ j = 0 → ¬ (4 + 7 * w ≤ j ∧ j < 4 + 7 * w + 7) → mI M2 83 j = mI M 83 j)
    (hw : w < nw2) (hn2 : nw2 ≤ 6) (hold : ∀ w2 : Nat, w2 < nw2 → ¬ w2 = w → WkP (n + 1) M (39 + w2) 83 w2)
    (k1 : kd < 7) (k2 : v < 10) (k3 : bt < 8) (k4 : gn ≤ n + 1) (hc : c < 36) (hf : f < 4) (hWK : WK M2 (39 + w) kd v c f bt gn 4) (hMW : MWs M2 83 w kd v c f bt gn 4) : INV MZ (n + 1) M2 := by
  refine INV_sn (M := M) h1 h2 h3 (fun a ha => ?_) (fun L hS => ⟨ScnL_1 (M := M) (by rw [h2]) ?_ hS.1, ⟨nw2, hn2, g33, g83, fun w2 hw2 => ?_⟩, ?_, ?_⟩) hI1
  · unfold Sn at ha
    exact g0 a (by omega) (by omega) (by omega)
  · exact g83b 1 (by decide) (by omega)
  · by_cases e : w2 = w
    · rw [e]
      exact ⟨kd, v, c, f, bt, gn, 4, k1, k2, k3, k4, ⟨hc, hf, by decide, ok4 c⟩, hWK, hMW⟩
    · exact WkP_1 (g0 _ (by omega) (by omega) (by omega)) (fun k hk => g83b _ (by omega) (by omega)) (hold w2 hw2 e)
  · have hR2 := hS.2.2.1
    rw [ScnR_rw] at hR2 ⊢
    exact RwP_1 (by rw [g0 35 (by omega) (by omega) (by omega)]) (g83b _ (by omega) (by omega)) (fun j _ => by rw [g0 36 (by omega) (by omega) (by omega)]) (fun j _ => g83b _ (by omega) (by omega)) hR2
  · have hR2 := hS.2.2.2
    rw [ScnT_rw] at hR2 ⊢
    exact RwP_1 (by rw [g0 37 (by omega) (by omega) (by omega)]) (g83b _ (by omega) (by omega)) (fun j _ => by rw [g0 38 (by omega) (by omega) (by omega)]) (fun j _ => g83b _ (by omega) (by omega)) hR2
theorem p_walker (hI : INV MZ n M) (a b c e : Int32) : PRI MZ (d + 12) n kX10_walker kX11_walker [.int a, .int b, .int c, .int e] M := by
  have hp := hI.1
  have hpm := hI.2.1
  obtain ⟨nw, hn6, hc0, hm0, hW⟩ := INV_nw hI
  obtain ⟨p, onN, bk, mk, hld, hL, hE, hB⟩ := INV_land hI
  have hI1 := INV_mono hI
  unfold PRI
  rw [eX10_walker, s_isKind]
  simp only [Option.toList_some, Option.toList_none, List.cons_append, List.nil_append]
  rw [gX10_walker_4]
  cases hA : inR a 7 with
  | false =>
    rw [if_pos (by decide)]
    refine ⟨_, rfl, ?_⟩
    rw [eX11_walker, show (7 : Int32) = vI 7 from rfl, m_isIn (by decide), hA]
    simp only [Option.toList_some, Option.toList_none, List.cons_append, List.nil_append]
    rw [gX11_walker_6, if_pos (by decide)]
    exact ⟨rfl, hI1⟩
  | true =>
  rw [if_neg (by decide), s_isCell]
  simp only [Option.toList_some, Option.toList_none, List.cons_append, List.nil_append]
  rw [gX10_walker_11]
  cases hA2 : inR c 36 with
  | false =>
    rw [if_pos (by decide)]
    refine ⟨_, rfl, ?_⟩
    rw [eX11_walker, show (7 : Int32) = vI 7 from rfl, m_isIn (by decide), hA]
    simp only [Option.toList_some, Option.toList_none, List.cons_append, List.nil_append]
    rw [gX11_walker_6, if_neg (by decide), m_isCell, hA2]
    simp only [Option.toList_some, Option.toList_none, List.cons_append, List.nil_append]
    rw [gX11_walker_13, if_pos (by decide)]
    exact ⟨rfl, hI1⟩
  | true =>
  rw [if_neg (by decide), s_isWay]
  simp only [Option.toList_some, Option.toList_none, List.cons_append, List.nil_append]
  rw [gX10_walker_19]
  cases hA3 : inR e 4 with
  | false =>
    rw [if_pos (by decide)]
    refine ⟨_, rfl, ?_⟩
    rw [eX11_walker, show (7 : Int32) = vI 7 from rfl, m_isIn (by decide), hA]
    simp only [Option.toList_some, Option.toList_none, List.cons_append, List.nil_append]
    rw [gX11_walker_6, if_neg (by decide), m_isCell, hA2]
    simp only [Option.toList_some, Option.toList_none, List.cons_append, List.nil_append]
    rw [gX11_walker_13, if_neg (by decide), show (4 : Int32) = vI 4 from rfl, m_isIn (by decide), hA3]
    simp only [Option.toList_some, Option.toList_none, List.cons_append, List.nil_append]
    rw [gX11_walker_22, if_pos (by decide)]
    exact ⟨rfl, hI1⟩
  | true =>
  rw [if_neg (by decide), s_isNumber]
  simp only [Option.toList_some, Option.toList_none, List.cons_append, List.nil_append]
  rw [gX10_walker_28]
  have pre : ∀ (M1 : MM) (Q1 : Option Value → MM → Prop), WP (d + 12) kX11_walker (22, [.ref 82, .int a, .int b, .int c, .int e, dm], [.int 1], M1) Q1 → CL (d + 12) kX11_walker [.ref 82, .int a, .int b, .int c, .int e] M1 Q1 := by
    intro M1 Q1 h
    rw [eX11_walker, show (7 : Int32) = vI 7 from rfl, m_isIn (by decide), hA]
    simp only [Option.toList_some, Option.toList_none, List.cons_append, List.nil_append]
    rw [gX11_walker_6, if_neg (by decide), m_isCell, hA2]
    simp only [Option.toList_some, Option.toList_none, List.cons_append, List.nil_append]
    rw [gX11_walker_13, if_neg (by decide), show (4 : Int32) = vI 4 from rfl, m_isIn (by decide), hA3]
    simp only [Option.toList_some, Option.toList_none, List.cons_append, List.nil_append]
    exact h
  cases hA4 : inR b 10 with
  | false =>
    rw [if_pos (by decide)]
    refine ⟨_, rfl, pre _ _ ?_⟩
    rw [gX11_walker_22, if_neg (by decide)]
    by_cases hb : b < 0
    · rw [if_pos hb]; exact ⟨rfl, hI1⟩
    · obtain ⟨v, hv, rfl⟩ := inR_pos hb
      rw [inR_vI hv] at hA4
      have := of_decide_eq_false hA4
      rw [if_neg hb, if_pos (by rw [lt_ln hv (by decide)]; omega)]; exact ⟨rfl, hI1⟩
  | true =>
  obtain ⟨kd, hkd, rfl⟩ := inR_get hA
  obtain ⟨v, hv, rfl⟩ := inR_get hA4
  obtain ⟨cc, hcc, rfl⟩ := inR_get hA2
  obtain ⟨f, hf, rfl⟩ := inR_get hA3
  rw [if_neg (by decide)]
  simp only [ty_21, pc_21_1 hp, ty_33, hld, hL.1, true_and, and_true, Option.some.injEq, exists_eq_left']
  rw [show mL M p 2 = zb (mk 0) from hL.2.2.2.1 0 (by decide), s_holds _ hcc]
  simp only [Option.toList_some, Option.toList_none, List.cons_append, List.nil_append]
  rw [gX10_walker_48]
  have pre2 : ∀ (M1 : MM) (Q1 : Option Value → MM → Prop), PM M1 → ME M1 onN bk mk → (if b2i (pB (mk 0 cc)) = 0 then (if mI M1 83 0 = 6 then Q1 (some (.int (-4))) M1 else CL (d + 11) kX11_puts [.ref 82, .int (mI M1 83 0), .int 0, .int (vI kd)] (sI M1 83 0 ((mI M1 83 0) + 1)) (fun v_ M_ => WP (d + 12) kX11_walker (92, [.ref 82, .int (vI kd), .int (vI v), .int (vI cc), .int (vI f), .int (mI M1 83 0)], v_.toList ++ [], M_) Q1)) else Q1 (some (.int (-3))) M1) → CL (d + 12) kX11_walker [.ref 82, .int (vI kd), .int (vI v), .int (vI cc), .int (vI f)] M1 Q1 := by
    intro M1 Q1 hp1 hE1 h
    refine pre _ _ ?_
    rw [gX11_walker_22, if_neg (by decide), if_neg (by rw [vI_neg (by omega)]; exact id), if_neg (by rw [lt_ln (by omega) (by decide)]; omega), show (0 : Int32) = vI 0 from rfl, m_isMarked hp1 hE1 hcc (by decide)]
    simp only [ty_82, true_and, Option.toList_some, Option.toList_none, List.cons_append, List.nil_append]
    rw [gX11_walker_46]
    by_cases hw : b2i (pB (mk 0 cc)) = 0
    · rw [if_pos hw] at h ⊢
      refine ⟨by simp only [ty_82], 83, pm_0 hp1, by simp only [ty_83], by rw [ty_83]; decide, ?_⟩
      rw [show (0 : Int32).toNatClampNeg = 0 from rfl]
      by_cases h6 : mI M1 83 0 = 6
      · rw [if_pos h6] at h ⊢; exact h
      · rw [if_neg h6] at h ⊢
        exact ⟨by rw [ty_83]; decide, by rw [ty_83]; decide, by rw [ty_83]; decide, h⟩
    · rw [if_neg hw] at h ⊢; exact h
  by_cases hwl : b2i (pB (mk 0 cc)) = 0
  · rw [if_pos hwl]
    simp only [ty_21, pc_21_1 hp, ty_33, true_and, and_true, Option.some.injEq, exists_eq_left']
    rw [s_added hp hc0 hn6]
    simp only [Option.toList_some, Option.toList_none, List.cons_append, List.nil_append]
    by_cases h6 : nw < 6
    · rw [if_pos h6, gX10_walker_61]
      simp only [Option.elim_some, ty_w nw h6, true_and]
      rw [s_stands (by rw [ty_w nw h6])]
      simp only [Option.toList_some, Option.toList_none, List.cons_append, List.nil_append, rf_some]
      rw [gX10_walker_98]
      have r33 : mI (sI (sI (sI (sI (sI (sI (sI (sI M 33 1 (vI (nw + 1))) (39 + nw) 0 (vI kd)) (39 + nw) 1 (vI v)) (39 + nw) 5 0) (39 + nw) 2 (vI cc)) (39 + nw) 3 (vI f)) (39 + nw) 4 0) (39 + nw) 6 4) 33 1 = vI (nw + 1) := by
        simp (disch := omega) only [aI_sI, xI_sI]
      have hpc : PC (sI (sI (sI (sI (sI (sI (sI (sI M 33 1 (vI (nw + 1))) (39 + nw) 0 (vI kd)) (39 + nw) 1 (vI v)) (39 + nw) 5 0) (39 + nw) 2 (vI cc)) (39 + nw) 3 (vI f)) (39 + nw) 4 0) (39 + nw) 6 4) := hp
      refine ⟨by simp only [ty_21], 33, pc_21_1 hpc, by simp only [ty_33], ?_⟩
      rw [r33, sub_nl (by omega), show nw + 1 - 1 = nw by omega]
      refine ⟨_, rfl, ?_⟩
      have hpm1 : PM (sI (sI (sI (sI (sI (sI (sI (sI M 33 1 (vI (nw + 1))) (39 + nw) 0 (vI kd)) (39 + nw) 1 (vI v)) (39 + nw) 5 0) (39 + nw) 2 (vI cc)) (39 + nw) 3 (vI f)) (39 + nw) 4 0) (39 + nw) 6 4) := hpm
      have hF : FM (fun a => a = 33 ∨ a = 39 + nw) M (sI (sI (sI (sI (sI (sI (sI (sI M 33 1 (vI (nw + 1))) (39 + nw) 0 (vI kd)) (39 + nw) 1 (vI v)) (39 + nw) 5 0) (39 + nw) 2 (vI cc)) (39 + nw) 3 (vI f)) (39 + nw) 4 0) (39 + nw) 6 4) :=
        ((((((((fr_sI (Or.inl rfl))).trans (fr_sI (Or.inr rfl))).trans (fr_sI (Or.inr rfl))).trans (fr_sI (Or.inr rfl))).trans (fr_sI (Or.inr rfl))).trans (fr_sI (Or.inr rfl))).trans (fr_sI (Or.inr rfl))).trans (fr_sI (Or.inr rfl))
      generalize hM1 : (sI (sI (sI (sI (sI (sI (sI (sI M 33 1 (vI (nw + 1))) (39 + nw) 0 (vI kd)) (39 + nw) 1 (vI v)) (39 + nw) 5 0) (39 + nw) 2 (vI cc)) (39 + nw) 3 (vI f)) (39 + nw) 4 0) (39 + nw) 6 4) = M1 at *
      have hE1 : ME M1 onN bk mk := ME_fr hF (fun a h1 h2 => by omega) hE
      have h830 : mI M1 83 0 = vI nw := by rw [hF.i (by omega)]; exact hm0
      refine pre2 M1 _ hpm1 hE1 ?_
      rw [if_pos hwl, h830, if_neg (by rw [eq_nl (by omega) (by decide)]; omega), add_nl, show (0 : Int32) = vI 0 from rfl, m_puts (M := sI M1 83 0 (vI (nw + 1))) hpm1 h6 (by decide)]
      simp only [Option.toList_some, Option.toList_none, List.cons_append, List.nil_append]
      rw [gX11_walker_92]
      refine ⟨by simp only [ty_82], ?_⟩
      rw [show (1 : Int32) = vI 1 from rfl, m_puts (by exact hpm1) h6 (by decide)]
      simp only [Option.toList_some, Option.toList_none, List.cons_append, List.nil_append]
      rw [gX11_walker_100]
      refine ⟨by simp only [ty_82], ?_⟩
      rw [show (2 : Int32) = vI 2 from rfl, m_puts (by exact hpm1) h6 (by decide)]
      simp only [Option.toList_some, Option.toList_none, List.cons_append, List.nil_append]
      rw [gX11_walker_108]
      refine ⟨by simp only [ty_82], ?_⟩
      rw [show (3 : Int32) = vI 3 from rfl, m_puts (by exact hpm1) h6 (by decide)]
      simp only [Option.toList_some, Option.toList_none, List.cons_append, List.nil_append]
      rw [gX11_walker_117]
      refine ⟨by simp only [ty_82], ?_⟩
      rw [show (4 : Int32) = vI 4 from rfl, m_puts (by exact hpm1) h6 (by decide)]
      simp only [Option.toList_some, Option.toList_none, List.cons_append, List.nil_append]
      rw [gX11_walker_125]
      refine ⟨by simp only [ty_82], ?_⟩
      rw [show (5 : Int32) = vI 5 from rfl, m_puts (by exact hpm1) h6 (by decide)]
      simp only [Option.toList_some, Option.toList_none, List.cons_append, List.nil_append]
      rw [gX11_walker_133]
      refine ⟨by simp only [ty_82], ?_⟩
      rw [show (6 : Int32) = vI 6 from rfl, m_puts (by exact hpm1) h6 (by decide)]
      simp only [Option.toList_some, Option.toList_none, List.cons_append, List.nil_append]
      rw [gX11_walker_142]
      refine ⟨rfl, ?_⟩
      have e1 : M1.2 = M.2 := by rw [← hM1]; rfl
      refine walk_inv (M := M) (w := nw) (nw2 := nw + 1) (kd := kd) (v := v) (c := cc) (f := f) (bt := 0) (gn := 0) hI1 ?_ ?_ ?_ (fun a h1 h2 h3 => ?_) ?_ ?_ (fun j h1 h2 => ?_) (by omega) (by omega) (fun w2 h1 h2 => ?_) hkd hv (by decide) (by omega) hcc hf ?_ ?_
      · show M1.2.2.2 = M.2.2.2; rw [e1]
      · show M1.2.2.1 = M.2.2.1; rw [e1]
      · show M1.2.1 = M.2.1; rw [e1]
      · rw [rI_sI h3, rI_sI h3, rI_sI h3, rI_sI h3, rI_sI h3, rI_sI h3, rI_sI h3, rI_sI h3, hF.i (by omega)]
      · rw [← hM1]; simp (disch := omega) only [aI_sI, xI_sI]
      · simp (disch := omega) only [aI_sI, xI_sI]
      · have e2 : mI M1 83 j = mI M 83 j := by rw [hF.i (by omega)]
        rw [← e2]; simp (disch := omega) only [xI_sI]
      · obtain ⟨kd2, v2, c2, f2, bt2, gn2, cm2, j1, j2, j3, j4, j5⟩ := hW w2 (by omega)
        exact ⟨kd2, v2, c2, f2, bt2, gn2, cm2, j1, j2, j3, by omega, j5⟩
      · refine ⟨by rw [ty_w nw h6], ?_, ?_, ?_, ?_, ?_, ?_, ?_⟩ <;> (rw [← hM1]; simp (disch := omega) only [aI_sI, xI_sI]; try rfl)
      · unfold MWs
        refine ⟨?_, ?_, ?_, ?_, ?_, ?_, ?_⟩ <;> (simp (disch := omega) only [aI_sI, xI_sI]; try rfl)
    · rw [if_neg h6, gX10_walker_61]
      simp only [Option.elim_none]
      refine ⟨_, rfl, pre2 M _ hpm hE ?_⟩
      rw [if_pos hwl, hm0, if_pos (by rw [eq_nl (by omega) (by decide)]; omega)]
      exact ⟨rfl, hI1⟩
  · rw [if_neg hwl]
    refine ⟨_, rfl, pre2 M _ hpm hE ?_⟩
    rw [if_neg hwl]
    exact ⟨rfl, hI1⟩
theorem p_put (hI : INV MZ n M) (a b c e : Int32) : PRI MZ (d + 12) n kX10_put kX11_put [.int a, .int b, .int c, .int e] M := by
  have hp := hI.1
  have hpm := hI.2.1
  obtain ⟨nw, hn6, hc0, hm0, hW⟩ := INV_nw hI
  obtain ⟨p, onN, bk, mk, hld, hL, hE, hB⟩ := INV_land hI
  have hI1 := INV_mono hI
  unfold PRI
  rw [eX10_put]
  simp only [ty_21, pc_21_1 hp, ty_33, true_and, and_true, Option.some.injEq, exists_eq_left']
  cases hA : inR a nw with
  | false =>
    rw [s_who_f hp hc0 hn6 hA]
    simp only [Option.toList_some, Option.toList_none, List.cons_append, List.nil_append]
    rw [gX10_put_8]
    simp only [Option.elim_none]
    refine ⟨_, rfl, ?_⟩
    rw [eX11_put, m_isWalker hpm (by omega) hm0, hA]
    simp only [ty_82, true_and, Option.toList_some, Option.toList_none, List.cons_append, List.nil_append]
    rw [gX11_put_5, if_pos (by decide)]
    exact ⟨rfl, hI1⟩
  | true =>
  obtain ⟨w, hw, rfl⟩ := inR_get hA
  rw [s_who_t hp hc0 hn6 hw]
  simp only [Option.toList_some, Option.toList_none, List.cons_append, List.nil_append]
  rw [gX10_put_8]
  simp only [Option.elim_some, rf_some]
  rw [s_isCell]
  simp only [Option.toList_some, Option.toList_none, List.cons_append, List.nil_append]
  rw [gX10_put_19]
  cases hA2 : inR b 36 with
  | false =>
    rw [if_pos (by decide)]
    refine ⟨_, rfl, ?_⟩
    rw [eX11_put, m_isWalker hpm (by omega) hm0, hA]
    simp only [ty_82, true_and, Option.toList_some, Option.toList_none, List.cons_append, List.nil_append]
    rw [gX11_put_5, if_neg (by decide), m_isCell, hA2]
    simp only [Option.toList_some, Option.toList_none, List.cons_append, List.nil_append]
    rw [gX11_put_12, if_pos (by decide)]
    exact ⟨rfl, hI1⟩
  | true =>
  rw [if_neg (by decide), s_isWay]
  simp only [Option.toList_some, Option.toList_none, List.cons_append, List.nil_append]
  rw [gX10_put_26]
  have pre : ∀ (M1 : MM) (Q1 : Option Value → MM → Prop), PM M1 → mI M1 83 0 = vI nw → WP (d + 12) kX11_put (20, [.ref 82, .int (vI w), .int b, .int c, .int e, dm], [.int (b2i (inR c 4))], M1) Q1 → CL (d + 12) kX11_put [.ref 82, .int (vI w), .int b, .int c, .int e] M1 Q1 := by
    intro M1 Q1 hp1 h0 h
    rw [eX11_put, m_isWalker hp1 (by omega) h0, hA]
    simp only [ty_82, true_and, Option.toList_some, Option.toList_none, List.cons_append, List.nil_append]
    rw [gX11_put_5, if_neg (by decide), m_isCell, hA2]
    simp only [Option.toList_some, Option.toList_none, List.cons_append, List.nil_append]
    rw [gX11_put_12, if_neg (by decide), show (4 : Int32) = vI 4 from rfl, m_isIn (by decide)]
    simp only [Option.toList_some, Option.toList_none, List.cons_append, List.nil_append]
    exact h
  cases hA3 : inR c 4 with
  | false =>
    rw [if_pos (by decide)]
    refine ⟨_, rfl, pre _ _ hpm hm0 ?_⟩
    rw [gX11_put_20, hA3, if_pos (by decide)]
    exact ⟨rfl, hI1⟩
  | true =>
  rw [if_neg (by decide)]
  by_cases he : e < 0
  · rw [if_pos he]
    refine ⟨_, rfl, pre _ _ hpm hm0 ?_⟩
    rw [gX11_put_20, hA3, if_neg (by decide), if_pos he]
    exact ⟨rfl, hI1⟩
  obtain ⟨bt, hbt, rfl⟩ := inR_pos he
  rw [if_neg he]
  by_cases h8 : bt < 8
  · rw [if_pos (by rw [lt_nl hbt (by decide)]; exact h8)]
    obtain ⟨cc, hcc, rfl⟩ := inR_get hA2
    obtain ⟨f, hf, rfl⟩ := inR_get hA3
    obtain ⟨kd, v, c0, f0, bt0, gn, cm0, k1, k2, k3, k4, hvl, hWK, hMW⟩ := hW w hw
    simp only [ty_21, pc_21_1 hp, ty_33, hld, hL.1, true_and, and_true, Option.some.injEq, exists_eq_left']
    rw [show mL M p 2 = zb (mk 0) from hL.2.2.2.1 0 (by decide), s_holds _ hcc]
    simp only [Option.toList_some, Option.toList_none, List.cons_append, List.nil_append]
    rw [gX10_put_60]
    have pre2 : ∀ (M1 : MM) (Q1 : Option Value → MM → Prop), PM M1 → ME M1 onN bk mk → mI M1 83 0 = vI nw → (if b2i (pB (mk 0 cc)) = 0 then ((TY 82).1 = 11 ∧ (CL (d + 11) kX11_get [.ref 82, .int (vI w), .int 2] M1 (fun v_ M_ => WP (d + 12) kX11_put (58, [.ref 82, .int (vI w), .int (vI cc), .int (vI f), .int (vI bt), dm], v_.toList ++ [], M_) Q1))) else Q1 (some (.int (-3))) M1) → CL (d + 12) kX11_put [.ref 82, .int (vI w), .int (vI cc), .int (vI f), .int (vI bt)] M1 Q1 := by
      intro M1 Q1 hp1 hE1 h0 h
      refine pre _ _ hp1 h0 ?_
      rw [gX11_put_20, hA3, if_neg (by decide), if_neg he, if_neg (by rw [lt_ln hbt (by decide)]; omega), show (0 : Int32) = vI 0 from rfl, m_isMarked hp1 hE1 hcc (by decide)]
      simp only [ty_82, true_and, Option.toList_some, Option.toList_none, List.cons_append, List.nil_append]
      rw [gX11_put_46]
      exact h
    by_cases hwl : b2i (pB (mk 0 cc)) = 0
    · rw [if_pos hwl, s_stands (by rw [ty_w w (by omega)])]
      simp only [ty_w w (show w < 6 by omega), true_and, Option.toList_some, Option.toList_none, List.cons_append, List.nil_append]
      rw [gX10_put_82, hWK.2.2.2.1]
      refine ⟨_, rfl, ?_⟩
      have hF : FM (fun a => a = 39 + w) M (sI (sI (sI (sI M (39 + w) 2 (vI cc)) (39 + w) 3 (vI f)) (39 + w) 4 (vI bt)) (39 + w) 6 4) := FM.trans (FM.trans (FM.trans (fr_sI (S := fun a => a = 39 + w) rfl) (fr_sI (S := fun a => a = 39 + w) rfl)) (fr_sI (S := fun a => a = 39 + w) rfl)) (fr_sI (S := fun a => a = 39 + w) rfl)
      have hpm1 : PM (sI (sI (sI (sI M (39 + w) 2 (vI cc)) (39 + w) 3 (vI f)) (39 + w) 4 (vI bt)) (39 + w) 6 4) := hpm
      generalize hM1 : sI (sI (sI (sI M (39 + w) 2 (vI cc)) (39 + w) 3 (vI f)) (39 + w) 4 (vI bt)) (39 + w) 6 4 = M1 at *
      have hE1 : ME M1 onN bk mk := ME_fr hF (fun a h1 h2 => by omega) hE
      have h83 : mI M1 83 = mI M 83 := hF.i (by omega)
      refine pre2 M1 _ hpm1 hE1 (by rw [h83]; exact hm0) ?_
      rw [if_pos hwl, show (2 : Int32) = vI 2 from rfl, m_get hpm1 (by omega) (by decide), h83, hMW.2.2.1]
      refine ⟨by simp only [ty_82], ?_⟩
      simp only [Option.toList_some, Option.toList_none, List.cons_append, List.nil_append]
      rw [gX11_put_58]
      refine ⟨by simp only [ty_82], ?_⟩
      rw [show (2 : Int32) = vI 2 from rfl, m_puts (by exact hpm1) (by omega) (by decide)]
      simp only [Option.toList_some, Option.toList_none, List.cons_append, List.nil_append]
      rw [gX11_put_67]
      refine ⟨by simp only [ty_82], ?_⟩
      rw [show (3 : Int32) = vI 3 from rfl, m_puts (by exact hpm1) (by omega) (by decide)]
      simp only [Option.toList_some, Option.toList_none, List.cons_append, List.nil_append]
      rw [gX11_put_74]
      refine ⟨by simp only [ty_82], ?_⟩
      rw [show (4 : Int32) = vI 4 from rfl, m_puts (by exact hpm1) (by omega) (by decide)]
      simp only [Option.toList_some, Option.toList_none, List.cons_append, List.nil_append]
      rw [gX11_put_82]
      refine ⟨by simp only [ty_82], ?_⟩
      rw [show (5 : Int32) = vI 5 from rfl, m_puts (by exact hpm1) (by omega) (by decide)]
      simp only [Option.toList_some, Option.toList_none, List.cons_append, List.nil_append]
      rw [gX11_put_89]
      refine ⟨rfl, ?_⟩
      have e1 : M1.2 = M.2 := by rw [← hM1]; rfl
      obtain ⟨w1, w2, w3, w4, w5, w6, w7, w8⟩ := hWK
      obtain ⟨m0, m1, m2, m3, m4, m5, m6⟩ := hMW
      refine walk_inv (M := M) (w := w) (nw2 := nw) (kd := kd) (v := v) (c := cc) (f := f) (bt := bt) (gn := gn) hI1 ?_ ?_ ?_ (fun a h1 h2 h3 => ?_) ?_ ?_ (fun j h1 h2 => ?_) (by omega) (by omega) (fun w2 h1 h2 => ?_) k1 k2 h8 (by omega) hcc hf ?_ ?_
      · show M1.2.2.2 = M.2.2.2; rw [e1]
      · show M1.2.2.1 = M.2.2.1; rw [e1]
      · show M1.2.1 = M.2.1; rw [e1]
      · rw [rI_sI h3, rI_sI h3, rI_sI h3, rI_sI h3, hF.i (by omega)]
      · rw [← hM1]; simp (disch := omega) only [aI_sI, xI_sI]; exact hc0
      · simp (disch := omega) only [aI_sI, xI_sI]; rw [h83]; exact hm0
      · simp (disch := omega) only [xI_sI]; rw [h83]
      · obtain ⟨kd2, v2, c2, f2, bt2, gn2, cm2, j1, j2, j3, j4, j5⟩ := hW w2 (by omega)
        exact ⟨kd2, v2, c2, f2, bt2, gn2, cm2, j1, j2, j3, by omega, j5⟩
      · refine ⟨by rw [ty_w w (by omega)], ?_, ?_, ?_, ?_, ?_, ?_, ?_⟩ <;> (rw [← hM1]; simp (disch := omega) only [aI_sI, xI_sI]; try (first | rfl | assumption))
      · unfold MWs
        refine ⟨?_, ?_, ?_, ?_, ?_, ?_, ?_⟩ <;> (simp (disch := omega) only [aI_sI, xI_sI]; try (first | rfl | (rw [h83]; assumption)))
    · rw [if_neg hwl]
      refine ⟨_, rfl, pre2 M _ hpm hE hm0 ?_⟩
      rw [if_neg hwl]
      exact ⟨rfl, hI1⟩
  · rw [if_neg (by rw [lt_nl hbt (by decide)]; exact h8)]
    refine ⟨_, rfl, pre _ _ hpm hm0 ?_⟩
    rw [gX11_put_20, hA3, if_neg (by decide), if_neg he, if_pos (by rw [lt_ln hbt (by decide)]; omega)]
    exact ⟨rfl, hI1⟩
end Walk
