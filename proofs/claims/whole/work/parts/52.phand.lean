/-! ===== 52: hand on both sides ===== -/
/-- a told row of steps walked from a place on: how many, and where one stands -/
noncomputable def hnd (mk : Nat → Nat → Prop) (kd v onN bk : Nat) (st : Nat → Nat) : Nat → Nat → Nat → Nat → Nat → Nat → Nat → Nat × Nat × Nat
  | 0, i, c, f, _, _, _ => (i, c, f)
  | m + 1, i, c, f, b, gn, cm => @ite _ (may mk kd v (b % (onN + bk) < onN) gn c f cm (st i)) (Classical.propDecidable _) (hnd mk kd v onN bk st m (i + 1) (tc kd c f cm (st i)) (tf f (st i)) ((b % (onN + bk) + 1) % (onN + bk)) (gn + 1) (tw kd f cm (st i))) (i, c, f)
def hndR (l2 : Int32) (x : Nat × Nat × Nat) : Int32 := if l2 = 0 then vI x.1 else if l2 = 1 then vI x.2.1 else vI x.2.2
section Hand
variable {MZ M : MM} {n d : Nat} {Q : Option Value → MM → Prop} {p onN bk : Nat} {mk : Nat → Nat → Prop} {kd v : Nat}
theorem s_at8 {a q i : Nat} (h8 : (TY a).1 = 8) (hq : mR M a 0 = some q) (tq : TY q = (20, 12)) (hi : i < 12) : CL d kX8_at [.ref a, .int (vI i)] M Q = Q (some (.int (mI M q i))) M := by
  rw [eX8_at, if_neg (by rw [vI_neg (by omega)]; exact id), if_pos (by rw [lt_nl (by omega) (by decide)]; exact hi)]
  simp (disch := omega) only [h8, hq, tq, inb_n, vI_cl, true_and, and_true, Option.some.injEq, exists_eq_left']
  simp only [hi, true_and]
theorem s_hand_loop (hkd : kd < 7) (hv : v < 10) (hB : bnL onN bk) {st : Nat → Nat} {r : Nat} (hr : r ≤ 12) (a0 : Nat) (l1 l2 : Int32) : ∀ m i : Nat, i + m = r → ∀ (c f b gn cm : Nat) (M : MM), PC M → mR M 33 4 = some p → LandC M p onN bk mk → vld c f cm → b < 8 → gn + m < 1000 → WK M 25 kd v c f b gn cm → mI M 35 1 = vI r → (∀ j : Nat, j < r → st j < 6 ∧ mI M 36 j = vI (st j)) →
    (∀ M' : MM, FM (fun y => y = 57 ∨ y = 25) M M' → Q (some (.int (hndR l2 (hnd mk kd v onN bk st m i c f b gn cm)))) M') →
    WP (d + 7) kX10_hand (35, [.ref 21, .int l1, .int l2, .ref a0, .int (vI i)], [], M) Q := by
  have hbb := hB
  unfold bnL at hbb
  have fin : ∀ (c f b gn cm i : Nat) (M : MM), PC M → WK M 25 kd v c f b gn cm → Q (some (.int (hndR l2 (i, c, f)))) M →
      (if l2 = 0 then Q (some (.int (vI i))) M else (if l2 = 1 then ((TY 21).1 = 10 ∧ (∃ q2, (mR M 21 4) = some q2 ∧ (((TY q2).1 = 9 ∧ (Q (some (.int (mI M q2 2))) M))))) else ((TY 21).1 = 10 ∧ (∃ q1, (mR M 21 4) = some q1 ∧ (((TY q1).1 = 9 ∧ (Q (some (.int (mI M q1 3))) M))))))) := by
    intro c f b gn cm i M hp hW h
    unfold hndR at h
    by_cases h0 : l2 = 0
    · rw [if_pos h0] at h ⊢; exact h
    · rw [if_neg h0] at h ⊢
      by_cases h1 : l2 = 1
      · rw [if_pos h1] at h ⊢
        exact ⟨by simp only [ty_21], 25, pc_21_4 hp, by simp only [ty_25], by rw [hW.2.2.2.1]; exact h⟩
      · rw [if_neg h1] at h ⊢
        exact ⟨by simp only [ty_21], 25, pc_21_4 hp, by simp only [ty_25], by rw [hW.2.2.2.2.1]; exact h⟩
  intro m
  induction m with
  | zero =>
    intro i hi c f b gn cm M hp hld hL hvl hb hg hW h35 h36 h
    obtain rfl : i = r := by omega
    have h2 := fin c f b gn cm i M hp hW (h M (FM.refl _ _))
    rw [gX10_hand_35]
    simp only [ty_21, pc_21_1 hp, ty_33, pc_33_2 hp, ty_35, true_and, and_true, Option.some.injEq, exists_eq_left']
    rw [if_neg (by rw [h35, vI_lt (by omega) (by omega)]; omega)]
    simp only [ty_21, true_and, and_true, Option.some.injEq, exists_eq_left'] at h2
    exact h2
  | succ m ih =>
    intro i hi c f b gn cm M hp hld hL hvl hb hg hW h35 h36 h
    obtain ⟨hs6, hsi⟩ := h36 i (by omega)
    rw [gX10_hand_35]
    simp only [ty_21, pc_21_1 hp, ty_33, pc_33_2 hp, ty_35, pc_21_4 hp, rf_some, true_and, and_true, Option.some.injEq, exists_eq_left']
    rw [if_pos (by rw [h35, vI_lt (by omega) (by omega)]; omega), s_at8 (by rw [ty_35]) (pc_35_0 hp) ty_36 (by omega), hsi]
    simp only [Option.toList_some, Option.toList_none, List.cons_append, List.nil_append]
    rw [gX10_hand_67]
    refine ⟨by simp only [ty_21], ?_⟩
    rw [hnd] at h
    refine s_goes hp hld hL hB hkd hv hb (by omega) hvl (by decide) (Or.inl (by decide)) hs6 hW (fun hm M1 hF => ?_) (fun hm M1 hF hLR hW1 => ?_)
    · rw [if_neg hm] at h
      simp only [Option.toList_some, Option.toList_none, List.cons_append, List.nil_append]
      rw [gX10_hand_70, if_pos rfl]
      exact fin c f b gn cm i M1 (PC_fm hF (fun x hx => by unfold Sq; omega) hp) (WK_fr (S := fun x => x = 57) hF (by decide) hW) (h M1 (hF.mono (fun x hx => Or.inl hx)))
    · rw [if_pos hm] at h
      simp only [Option.toList_some, Option.toList_none, List.cons_append, List.nil_append]
      rw [gX10_hand_70, if_neg (by decide), add_nl]
      have hmod : (b % (onN + bk) + 1) % (onN + bk) < onN + bk := Nat.mod_lt _ (by omega)
      have hs : ∀ x : Nat, (x = 57 ∨ x = 25) → Sq x := fun x hx => by unfold Sq; omega
      refine ih (i + 1) (by omega) _ _ _ _ _ M1 (PC_fm hF hs hp) (by rw [hF.r (by omega)]; exact hld) (LandC_fm hF hs hL) ⟨tc_lt hvl.1 hvl.2.1 hvl.2.2.1 hm, tf_lt hvl.2.1, tw_lt hvl.2.1 hvl.2.2.1, tgt_ok hvl.1 hvl.2.1 hvl.2.2.1 hvl.2.2.2 hm⟩ (by omega) (by omega) hW1 (by rw [hF.i (by omega)]; exact h35) (fun j hj => by rw [hF.i (by omega)]; exact h36 j hj) (fun M' h1 => h M' (hF.trans h1))
theorem m_hand_loop (hkd : kd < 7) (hv : v < 10) (hB : bnL onN bk) {st : Nat → Nat} {r w : Nat} (hr : r ≤ 12) (hw : w < 6) (l2 : Int32) : ∀ m i : Nat, i + m = r → ∀ (c f b gn cm : Nat) (M : MM), PM M → ME M onN bk mk → vld c f cm → b < 8 → gn + m < 1000 → MW M w kd v c f b gn cm → mI M 83 2 = vI r → (∀ j : Nat, j < r → st j < 6 ∧ mI M 83 (46 + j) = vI (st j)) →
    (∀ (M' : MM) (l3 : Int32), MSt w M M' → WP (d + 5) kX11_hand (130, [.ref 82, .int (vI w), .int l2, .int l3, .int (hndR l2 (hnd mk kd v onN bk st m i c f b gn cm)), .int 0], [], M') Q) →
    WP (d + 5) kX11_hand (46, [.ref 82, .int (vI w), .int l2, .int (vI i), dm, dm], [], M) Q := by
  have hbb := hB
  unfold bnL at hbb
  have fin : ∀ (c f b gn cm i : Nat) (M : MM), PM M → MW M w kd v c f b gn cm → (∀ l3 : Int32, WP (d + 5) kX11_hand (130, [.ref 82, .int (vI w), .int l2, .int l3, .int (hndR l2 (i, c, f)), .int 0], [], M) Q) →
      (if l2 = 0 then WP (d + 5) kX11_hand (130, [.ref 82, .int (vI w), .int l2, .int (vI i), .int (vI i), .int 0], [], M) Q else (if l2 = 1 then CL (d + 4) kX11_get [.ref 82, .int (vI w), .int 2] M (fun v_ M_ => WP (d + 5) kX11_hand (116, [.ref 82, .int (vI w), .int l2, .int (vI i), dm, dm], v_.toList ++ [], M_) Q) else CL (d + 4) kX11_get [.ref 82, .int (vI w), .int 3] M (fun v_ M_ => WP (d + 5) kX11_hand (125, [.ref 82, .int (vI w), .int l2, .int (vI i), dm, dm], v_.toList ++ [], M_) Q))) := by
    intro c f b gn cm i M hp hW h
    unfold hndR at h
    by_cases h0 : l2 = 0
    · rw [if_pos h0] at h ⊢; exact h _
    · rw [if_neg h0] at h ⊢
      by_cases h1 : l2 = 1
      · rw [if_pos h1] at h ⊢
        rw [show (2 : Int32) = vI 2 from rfl, m_get hp hw (by decide), hW.2.2.1]
        simp only [Option.toList_some, Option.toList_none, List.cons_append, List.nil_append]
        rw [gX11_hand_116]; exact h _
      · rw [if_neg h1] at h ⊢
        rw [show (3 : Int32) = vI 3 from rfl, m_get hp hw (by decide), hW.2.2.2.1]
        simp only [Option.toList_some, Option.toList_none, List.cons_append, List.nil_append]
        rw [gX11_hand_125]; exact h _
  intro m
  induction m with
  | zero =>
    intro i hi c f b gn cm M hp hE hvl hb hg hW h2 h46 h
    obtain rfl : i = r := by omega
    have h3 := fin c f b gn cm i M hp hW (fun l3 => h M l3 (MSt.refl w M))
    rw [gX11_hand_46]
    simp only [ty_82, pm_0 hp, ty_83, true_and, and_true, Option.some.injEq, exists_eq_left']
    rw [show (2 : Int32).toNatClampNeg = 2 from rfl, h2, if_neg (by rw [vI_lt (by omega) (by omega)]; omega)]
    exact ⟨by decide, h3⟩
  | succ m ih =>
    intro i hi c f b gn cm M hp hE hvl hb hg hW h2 h46 h
    obtain ⟨hs6, hsi⟩ := h46 i (by omega)
    rw [gX11_hand_46]
    simp only [ty_82, pm_0 hp, ty_83, true_and, and_true, Option.some.injEq, exists_eq_left']
    rw [show (2 : Int32).toNatClampNeg = 2 from rfl, h2, if_pos (by rw [vI_lt (by omega) (by omega)]; omega)]
    refine ⟨by decide, ?_⟩
    rw [m_mayNow (gn := gn) hp hE hB hkd hv hb (by omega) hvl hw hW]
    simp only [Option.toList_some, Option.toList_none, List.cons_append, List.nil_append]
    rw [gX11_hand_61]
    simp (disch := omega) only [ty_82, pm_0 hp, ty_83, add_ln, inb_n, vI_cl, hsi, true_and, and_true, Option.some.injEq, exists_eq_left']
    rw [hnd] at h
    refine ⟨by omega, ?_⟩
    by_cases hm : may mk kd v (b % (onN + bk) < onN) gn c f cm (st i)
    · rw [if_pos hm] at h
      rw [if_pos (by rw [mb_bit1 _ hs6]; exact hm)]
      refine ⟨by omega, ?_⟩
      refine m_steps hp hE hB hkd hb hvl hw hs6 hW hm (fun M1 hS hW1 => ?_)
      simp only [Option.toList_some, Option.toList_none, List.cons_append, List.nil_append]
      rw [gX11_hand_91, add_nl]
      have hmod : (b % (onN + bk) + 1) % (onN + bk) < onN + bk := Nat.mod_lt _ (by omega)
      refine ih (i + 1) (by omega) _ _ _ _ _ M1 (PM_st hS hp) (ME_st hS hE) ⟨tc_lt hvl.1 hvl.2.1 hvl.2.2.1 hm, tf_lt hvl.2.1, tw_lt hvl.2.1 hvl.2.2.1, tgt_ok hvl.1 hvl.2.1 hvl.2.2.1 hvl.2.2.2 hm⟩ (by omega) (by omega) hW1 (by rw [hS.2.2.2.2 2 (by omega)]; exact h2) (fun j hj => by rw [hS.2.2.2.2 _ (by omega)]; exact h46 j hj) (fun M' l3 h1 => h M' l3 (hS.trans h1))
    · rw [if_neg hm] at h
      rw [if_neg (by rw [mb_bit1 _ hs6]; exact hm)]
      exact fin c f b gn cm i M hp hW (fun l3 => h M l3 (MSt.refl w M))
theorem m_hand_save (l2 : Int32) {w : Nat} (hw : w < 6) : ∀ m k : Nat, k + m = 7 → ∀ M1 : MM, PM M1 → FM (fun a => a = 95) M M1 → mL M1 = mL M → mR M1 = mR M → (∀ x : Nat, x < k → mI M1 95 x = mI M 83 (4 + 7 * w + x)) →
    (∀ M' : MM, FM (fun a => a = 95) M M' → mL M' = mL M → mR M' = mR M → (∀ x : Nat, x < 7 → mI M' 95 x = mI M 83 (4 + 7 * w + x)) → WP (d + 5) kX11_hand (46, [.ref 82, .int (vI w), .int l2, .int 0, dm, dm], [], M') Q) →
    WP (d + 5) kX11_hand (20, [.ref 82, .int (vI w), .int l2, .int (vI k), dm, dm], [], M1) Q := by
  intro m
  induction m with
  | zero =>
    intro k hk M1 hp hF hL hR hx h
    obtain rfl : k = 7 := by omega
    rw [gX11_hand_20, if_neg (by decide)]
    exact h M1 hF hL hR hx
  | succ m ih =>
    intro k hk M1 hp hF hL hR hx h
    rw [gX11_hand_20, if_pos (by rw [lt_nl (by omega) (by decide)]; omega), m_get hp hw (by omega), hF.i (by omega)]
    simp only [ty_82, pm_26 hp, rf_some, true_and, Option.toList_some, Option.toList_none, List.cons_append, List.nil_append]
    rw [gX11_hand_37]
    simp (disch := omega) only [ty_95, inb_n, vI_cl, add_nl, true_and]
    refine ⟨by omega, ?_⟩
    refine ih (k + 1) (by omega) _ hp (hF.trans (fr_sI rfl)) hL hR (fun x hx2 => ?_) h
    by_cases e : x = k
    · subst e; exact aI_sI _ _ _ _
    · rw [bI_sI e]; exact hx x (by omega)
theorem m_hand_back (l2 l3 l4 : Int32) {w : Nat} (hw : w < 6) : ∀ m k : Nat, k + m = 7 → ∀ M1 : MM, PM M1 → (∀ x : Nat, x < 7 → mI M1 95 x = mI M 83 (4 + 7 * w + x)) → (∀ x : Nat, x < k → mI M1 83 (4 + 7 * w + x) = mI M 83 (4 + 7 * w + x)) → (∀ j : Nat, ¬ (4 + 7 * w ≤ j ∧ j < 4 + 7 * w + 7) → mI M1 83 j = mI M 83 j) →
    (∀ M' : MM, FM (fun a => a = 83) M1 M' → mL M' = mL M1 → mR M' = mR M1 → mI M' 83 = mI M 83 → Q (some (.int l4)) M') →
    WP (d + 5) kX11_hand (130, [.ref 82, .int (vI w), .int l2, .int l3, .int l4, .int (vI k)], [], M1) Q := by
  intro m
  induction m with
  | zero =>
    intro k hk M1 hp h95 hx hj h
    obtain rfl : k = 7 := by omega
    rw [gX11_hand_130, if_neg (by decide)]
    refine h M1 (FM.refl _ _) rfl rfl (funext fun j => ?_)
    by_cases e : 4 + 7 * w ≤ j ∧ j < 4 + 7 * w + 7
    · have h2 := hx (j - (4 + 7 * w)) (by omega)
      rw [show 4 + 7 * w + (j - (4 + 7 * w)) = j by omega] at h2
      exact h2
    · exact hj j e
  | succ m ih =>
    intro k hk M1 hp h95 hx hj h
    rw [gX11_hand_130, if_pos (by rw [lt_nl (by omega) (by decide)]; omega)]
    simp (disch := omega) only [ty_82, pm_26 hp, ty_95, inb_n, vI_cl, true_and, and_true, Option.some.injEq, exists_eq_left']
    refine ⟨by omega, ?_⟩
    rw [m_puts hp hw (by omega), h95 k (by omega)]
    simp only [Option.toList_some, Option.toList_none, List.cons_append, List.nil_append]
    rw [gX11_hand_151, add_nl]
    refine ih (k + 1) (by omega) _ hp (fun x hx2 => by rw [rI_sI (by decide)]; exact h95 x hx2) (fun x hx2 => ?_) (fun j hj2 => ?_) (fun M' h1 h2 h3 h4 => h M' ((fr_sI (S := fun a => a = 83) rfl).trans h1) h2 h3 h4)
    · by_cases e : x = k
      · subst e; rw [aI_sI]
      · rw [xI_sI (by omega)]; exact hx x (by omega)
    · rw [xI_sI (by omega)]; exact hj j hj2
theorem p_hand (hI : INV MZ n M) (hn : n ≤ 512) (a b : Int32) : PRI MZ (d + 12) n kX10_hand kX11_hand [.int a, .int b] M := by
  have hp := hI.1
  have hpm := hI.2.1
  obtain ⟨nw, hn6, hc0, hm0, hW⟩ := INV_nw hI
  obtain ⟨p, onN, bk, mk, hld, hL, hE, hB⟩ := INV_land hI
  have hI1 := INV_mono hI
  unfold PRI
  rw [eX10_hand]
  simp only [ty_21, pc_21_1 hp, ty_33, true_and, and_true, Option.some.injEq, exists_eq_left']
  cases hA : inR a nw with
  | false =>
    rw [s_who_f hp hc0 hn6 hA]
    simp only [Option.toList_some, Option.toList_none, List.cons_append, List.nil_append]
    rw [gX10_hand_8]
    refine ⟨_, rfl, ?_⟩
    rw [eX11_hand, m_isWalker hpm (nw := nw) (by omega) hm0, hA]
    simp only [ty_82, true_and, Option.toList_some, Option.toList_none, List.cons_append, List.nil_append]
    rw [gX11_hand_5, if_pos (by decide)]
    exact ⟨rfl, hI1⟩
  | true =>
  obtain ⟨w, hw, rfl⟩ := inR_get hA
  obtain ⟨kd, v, c, f, bt, gn, cm, k1, k2, k3, k4, hvl, hWK, hMW⟩ := hW w hw
  rw [s_who_t hp hc0 hn6 hw]
  simp only [Option.toList_some, Option.toList_none, List.cons_append, List.nil_append]
  rw [gX10_hand_8]
  simp only [Option.elim_some, rf_some]
  have ref : ∀ (M1 : MM) (Q1 : Option Value → MM → Prop), PM M1 → mI M1 83 = mI M 83 →
      WP (d + 12) kX11_hand (13, [.ref 82, .int (vI w), .int b, dm, dm, dm], [.int (b2i (inR b 3))], M1) Q1 → CL (d + 12) kX11_hand [.ref 82, .int (vI w), .int b] M1 Q1 := by
    intro M1 Q1 hp1 h83 h
    rw [eX11_hand, m_isWalker hp1 (nw := nw) (by omega) (by rw [h83]; exact hm0), hA]
    simp only [ty_82, true_and, Option.toList_some, Option.toList_none, List.cons_append, List.nil_append]
    rw [gX11_hand_5, if_neg (by decide), show (3 : Int32) = vI 3 from rfl, m_isIn (by decide)]
    simp only [Option.toList_some, Option.toList_none, List.cons_append, List.nil_append]
    exact h
  by_cases hb0 : b < 0
  · rw [if_pos hb0]
    refine ⟨_, rfl, ref M _ hpm rfl ?_⟩
    rw [gX11_hand_13, inR_neg hb0, if_pos (by decide)]
    exact ⟨rfl, hI1⟩
  rw [if_neg hb0]
  obtain ⟨l2, hl2, rfl⟩ := inR_pos hb0
  by_cases hb3 : l2 < 3
  · rw [if_neg (by rw [lt_ln (by omega) (by decide)]; omega)]
    refine ⟨by simp only [ty_21], 25, pc_21_4 hp, by simp only [ty_25], ?_⟩
    refine s_bec9 (by rw [ty_25]) (by rw [ty_w w (by omega)]) (by omega) (fun M1 hF hL1 hR1 h25 => ?_)
    simp only [Option.toList_some, Option.toList_none, List.cons_append, List.nil_append]
    rw [gX10_hand_32, show (0 : Int32) = vI 0 from rfl]
    obtain ⟨w0, w1, w2, w3, w4, w5, w6, w7⟩ := id hWK
    have hW25 : WK M1 25 kd v c f bt gn cm := ⟨by rw [ty_25], by rw [h25 0 (by decide)]; exact w1, by rw [h25 1 (by decide)]; exact w2, by rw [h25 2 (by decide)]; exact w3, by rw [h25 3 (by decide)]; exact w4, by rw [h25 4 (by decide)]; exact w5, by rw [h25 5 (by decide)]; exact w6, by rw [h25 6 (by decide)]; exact w7⟩
    have hs : ∀ x : Nat, x = 25 → Sq x := fun x hx => by unfold Sq; omega
    have hI2 : INV MZ n M1 := INV_fm hF hs (SOK_r (fun a ha => hF.r (by omega)) hI.2.2.1) hI
    have hR : ScnR M1 33 83 := by
      obtain ⟨L, i5, i6, i7⟩ := hI2.2.2.2.2.1
      exact i6.2.2.1
    obtain ⟨r, r1, r2, r3, r4⟩ := hR
    obtain ⟨st, hst⟩ : ∃ st : Nat → Nat, ∀ j : Nat, j < r → st j < 6 ∧ mI M1 36 j = vI (st j) ∧ mI M1 83 (46 + j) = vI (st j) := by
      classical
      refine ⟨fun j => if h : j < r then Classical.choose (r4 j h) else 0, fun j hj => ?_⟩
      simp only [dif_pos hj]
      exact Classical.choose_spec (r4 j hj)
    refine s_hand_loop (st := st) k1 k2 hB r1 _ _ _ r 0 (by omega) c f bt gn cm M1 hI2.1 (by rw [hF.r (by omega)]; exact hld) (LandC_fm hF hs hL) hvl k3 (by omega) hW25 r2 (fun j hj => ⟨(hst j hj).1, (hst j hj).2.1⟩) (fun M2 hF2 => ?_)
    have hs2 : ∀ x : Nat, (x = 57 ∨ x = 25) → Sq x := fun x hx => by unfold Sq; omega
    have hI3 : INV MZ n M2 := INV_fm hF2 hs2 (SOK_r (fun a ha => hF2.r (by omega)) hI2.2.2.1) hI2
    have e83 : mI M2 83 = mI M1 83 := hF2.i (by omega)
    have e83b : mI M2 83 = mI M 83 := e83.trans (hF.i (by omega))
    refine ⟨_, rfl, ref M2 _ hI3.2.1 e83b ?_⟩
    rw [gX11_hand_13, inR_vI hl2, decide_eq_true hb3, if_neg (by decide), show (0 : Int32) = vI 0 from rfl]
    refine m_hand_save (M := M2) (d := d + 7) _ (by omega) 7 0 rfl M2 hI3.2.1 (FM.refl _ _) rfl rfl (fun x hx => absurd hx (Nat.not_lt_zero x)) (fun M3 hF3 hL3 hR3 h95 => ?_)
    have e3 : mI M3 83 = mI M2 83 := hF3.i (by decide)
    have hE3 : ME M3 onN bk mk := by
      refine ME_fr hF3 (fun a h1 h2 => by omega) (ME_fr hF2 (fun a h1 h2 => by omega) (ME_fr hF (fun a h1 h2 => by omega) hE))
    have hpm3 : PM M3 := fun t ht => by rw [hR3]; exact hI3.2.1 t ht
    rw [show (0 : Int32) = vI 0 from rfl]
    refine m_hand_loop (st := st) (w := w) (d := d + 7) k1 k2 hB r1 (by omega) _ r 0 (by omega) c f bt gn cm M3 hpm3 hE3 hvl k3 (by omega) (by unfold MW; rw [e3, e83b]; exact hMW) (by rw [e3, e83]; exact r3) (fun j hj => ⟨(hst j hj).1, by rw [e3, e83]; exact (hst j hj).2.2⟩) (fun M4 l3 hS => ?_)
    obtain ⟨s1, s2, s3, s4, s5⟩ := id hS
    rw [show (0 : Int32) = vI 0 from rfl]
    refine m_hand_back (M := M2) (d := d + 7) _ _ _ (by omega) 7 0 rfl M4 (PM_st hS hpm3) (fun x hx => by rw [s4 95 (by decide)]; exact h95 x hx) (fun x hx => absurd hx (Nat.not_lt_zero x)) (fun j hj => by rw [s5 j hj, e3]) (fun M5 hF5 hL5 hR5 h5 => ⟨rfl, INV_mono (INV_ag (M := M2) ⟨?_, fun a ha => ?_, ?_, fun k hk => ?_⟩ (SOK_r (fun a ha => ?_) hI3.2.2.1) hI3)⟩)
    · exact hF5.1.trans (s1.trans hF3.1)
    · have n95 : ¬ a = 95 := fun h => ha (by unfold Sg; omega)
      refine ⟨?_, by rw [hL5, s2, hL3], by rw [hR5, s3, hR3]⟩
      by_cases e : a = 83
      · subst e; exact h5
      · rw [hF5.i e, s4 a e, hF3.i n95]
    · rw [hR5, s3, hR3]
    · rw [hF5.i (by decide), s4 82 (by decide), hF3.i (by decide)]
    · rw [hR5, s3, hR3]
  · rw [if_pos (by rw [lt_ln (by omega) (by decide)]; omega)]
    refine ⟨_, rfl, ref M _ hpm rfl ?_⟩
    rw [gX11_hand_13, inR_vI hl2, decide_eq_false hb3, if_pos (by decide)]
    exact ⟨rfl, hI1⟩
end Hand
