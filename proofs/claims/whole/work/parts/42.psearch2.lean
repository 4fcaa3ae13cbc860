/-! ===== 42: begin, slower, home on both sides ===== -/
def bgF (S : Nat → Int32) : Nat → Nat → Int32 → Int32 → Int32 × Int32
  | 0, _, b, l => (b, l)
  | n + 1, i, b, l => if S i < 0 then bgF S n (i + 1) b l else (if b < 0 then bgF S n (i + 1) (vI i) (S i) else (if S i < l then bgF S n (i + 1) (vI i) (S i) else bgF S n (i + 1) b l))
/-- the soonest of one who begins at a beat -/
noncomputable def soB (mk : Nat → Nat → Prop) (kd v onN bk gn c f cm c0 i : Nat) : Int32 := sn (fun t => anyW (rq anyS mk kd v onN bk i gn (A0s c f cm) t) c0) 61 0
section P2
variable {MZ M : MM} {n d : Nat} {Q : Option Value → MM → Prop} {p onN bk : Nat} {mk : Nat → Nat → Prop} {kd v c f bt gn cm : Nat}
theorem s_begin_loop (hk : kd < 7) (hv : v < 10) (hg : gn + 61 < 1000) (hvl : vld c f cm) {w c0 : Nat} (hw : w < 6) (hc0 : c0 < 36) (l1 l3 : Int32) :
    ∀ m i : Nat, i + m = onN + bk → ∀ (M : MM) (l5 l6 : Int32) (l8 : Value), QC M p onN bk mk → WK M (39 + w) kd v c f bt gn cm →
    (∀ M' : MM, FM (inS 58 4) M M' → SOK M' → Q (some (.int (if l3 = 0 then (bgF (soB mk kd v onN bk gn c f cm c0) m i l5 l6).1 else (bgF (soB mk kd v onN bk gn c f cm c0) m i l5 l6).2))) M') →
    WP (d + 7) kX10_begin (42, [.ref 21, .int l1, .int (vI c0), .int l3, .ref (39 + w), .int l5, .int l6, .int (vI i), l8], [], M) Q := by
  intro m
  induction m with
  | zero =>
    intro i hi M l5 l6 l8 hQ hW h
    have hbb := hQ.2.2.2.1
    unfold bnL at hbb
    rw [gX10_begin_42]
    simp only [ty_21, pc_21_1 hQ.1, ty_33, hQ.2.1, hQ.2.2.1.1, true_and, and_true, Option.some.injEq, exists_eq_left']
    rw [s_rhythm hQ.2.2.1]
    simp only [Option.toList_some, Option.toList_none, List.cons_append, List.nil_append]
    rw [gX10_begin_54, if_neg (by rw [vI_lt (by omega) (by omega)]; omega)]
    have h2 := h M (FM.refl _ _) hQ.2.2.2.2
    by_cases hl : l3 = 0
    · rw [if_pos hl] at h2 ⊢; exact h2
    · rw [if_neg hl] at h2 ⊢; exact h2
  | succ m ih =>
    intro i hi M l5 l6 l8 hQ hW h
    have hB := hQ.2.2.2.1
    have hbb := hB
    unfold bnL at hbb
    rw [gX10_begin_42]
    simp only [ty_21, pc_21_1 hQ.1, ty_33, hQ.2.1, hQ.2.2.1.1, true_and, and_true, Option.some.injEq, exists_eq_left']
    rw [s_rhythm hQ.2.2.1]
    simp only [Option.toList_some, Option.toList_none, List.cons_append, List.nil_append]
    rw [gX10_begin_54, if_pos (by rw [vI_lt (by omega) (by omega)]; omega)]
    simp only [ty_21, pc_21_1 hQ.1, pc_21_5 hQ.1, ty_33, ty_58, ty_w w hw, hQ.2.1, rf_some, true_and, and_true, Option.some.injEq, exists_eq_left']
    rw [hW.2.1, hW.2.2.1]
    refine s_alone_ CrT_58 hQ.2.2.2.2.1 hQ.2.2.1 hB (by omega) hW (by omega) hvl.1 hvl.2.1 hvl.2.2.1 (fun M1 hF1 hS1 => ?_)
    have hQ1 := QC_58 hF1 hS1.q hQ
    rw [Nat.mod_eq_of_lt (show i < onN + bk by omega)] at hS1
    simp only [Option.toList_some, Option.toList_none, List.cons_append, List.nil_append]
    rw [gX10_begin_85]
    simp only [ty_21, pc_21_5 hQ1.1, ty_58, true_and, and_true, Option.some.injEq, exists_eq_left']
    refine s_beatsTo CrT_58 hB hk hv (show i < onN + bk by omega) (by omega) hc0 hS1 hQ1.2.2.1 (fun M2 hF2 hq2 => ?_)
    have hF12 := hF1.trans hF2
    have hQ2 := QC_58 hF12 hq2 hQ
    have hW2 := WK_58 hF12 (by omega) hW
    simp only [Option.toList_some, Option.toList_none, List.cons_append, List.nil_append]
    rw [gX10_begin_93, add_nl]
    have e : sn (fun t => anyW (rq anyS mk kd v onN bk i gn (fun c2 f2 w2 => c2 = c ∧ f2 = f ∧ w2 = cm) t) c0) 61 0 = soB mk kd v onN bk gn c f cm c0 i := rfl
    rw [e]
    by_cases h1 : soB mk kd v onN bk gn c f cm c0 i < 0
    · rw [if_pos h1]
      refine ih (i + 1) (by omega) M2 _ _ _ hQ2 hW2 (fun M' g1 g2 => ?_)
      have h3 := h M' (hF12.trans g1) g2
      rw [bgF, if_pos h1] at h3; exact h3
    · rw [if_neg h1]
      by_cases h2 : l5 < 0
      · rw [if_pos h2]
        refine ih (i + 1) (by omega) M2 _ _ _ hQ2 hW2 (fun M' g1 g2 => ?_)
        have h3 := h M' (hF12.trans g1) g2
        rw [bgF, if_neg h1, if_pos h2] at h3; exact h3
      · rw [if_neg h2]
        by_cases h4 : soB mk kd v onN bk gn c f cm c0 i < l6
        · rw [if_pos h4]
          refine ih (i + 1) (by omega) M2 _ _ _ hQ2 hW2 (fun M' g1 g2 => ?_)
          have h3 := h M' (hF12.trans g1) g2
          rw [bgF, if_neg h1, if_neg h2, if_pos h4] at h3; exact h3
        · rw [if_neg h4]
          refine ih (i + 1) (by omega) M2 _ _ _ hQ2 hW2 (fun M' g1 g2 => ?_)
          have h3 := h M' (hF12.trans g1) g2
          rw [bgF, if_neg h1, if_neg h2, if_neg h4] at h3; exact h3
theorem m_begin_loop (hk : kd < 7) (hv : v < 10) (hB : bnL onN bk) (hg : gn + 61 < 1000) (hvl : vld c f cm) {w c0 : Nat} (hw : w < 6) (hc0 : c0 < 36) (l3 : Int32) :
    ∀ m i : Nat, i + m = onN + bk → ∀ (M : MM) (l5 l6 : Int32) (l8 : Value), PM M → ME M onN bk mk → MW M w kd v c f bt gn cm →
    (∀ M' : MM, FN M M' → Q (some (.int (if l3 = 0 then (bgF (soB mk kd v onN bk gn c f cm c0) m i l5 l6).1 else (bgF (soB mk kd v onN bk gn c f cm c0) m i l5 l6).2))) M') →
    WP (d + 6) kX11_begin (36, [.ref 82, .int (vI w), .int (vI c0), .int l3, .int l5, .int l6, .int (vI i), l8], [], M) Q := by
  have hbb := hB
  unfold bnL at hbb
  intro m
  induction m with
  | zero =>
    intro i hi M l5 l6 l8 hp hE hW h
    rw [gX11_begin_36, m_beats hp hE]
    simp only [ty_82, true_and, Option.toList_some, Option.toList_none, List.cons_append, List.nil_append]
    rw [gX11_begin_42, if_neg (by rw [vI_lt (by omega) (by omega)]; omega)]
    have h2 := h M (FN.refl _)
    by_cases hl : l3 = 0
    · rw [if_pos hl] at h2 ⊢; exact h2
    · rw [if_neg hl] at h2 ⊢; exact h2
  | succ m ih =>
    intro i hi M l5 l6 l8 hp hE hW h
    rw [gX11_begin_36, m_beats hp hE]
    simp only [ty_82, true_and, Option.toList_some, Option.toList_none, List.cons_append, List.nil_append]
    rw [gX11_begin_42, if_pos (by rw [vI_lt (by omega) (by omega)]; omega)]
    refine ⟨by simp only [ty_82], ?_⟩
    refine m_beginsAs (mk := mk) (onN := onN) (bk := bk) hvl hp hw hW (fun M1 hF1 hN1 => ?_)
    simp only [Option.toList_some, Option.toList_none, List.cons_append, List.nil_append]
    rw [gX11_begin_52]
    refine ⟨by simp only [ty_82], ?_⟩
    refine m_soonestTo hk hv hB (by omega) hg (okA_0 hvl) hc0 (PM_fn hF1 hp) (ME_fn hF1 hE) hN1 (fun M2 hF2 _ => ?_)
    have hF12 := hF1.trans hF2
    have hp2 := PM_fn hF12 hp
    have hE2 := ME_fn hF12 hE
    have hW2 := MW_fn hF12 hW
    simp only [Option.toList_some, Option.toList_none, List.cons_append, List.nil_append]
    rw [gX11_begin_57, add_nl]
    have e : sn (fun t => anyW (rq anyS mk kd v onN bk i gn (A0s c f cm) t) c0) 61 0 = soB mk kd v onN bk gn c f cm c0 i := rfl
    rw [e]
    by_cases h1 : soB mk kd v onN bk gn c f cm c0 i < 0
    · rw [if_pos h1]
      refine ih (i + 1) (by omega) M2 _ _ _ hp2 hE2 hW2 (fun M' g1 => ?_)
      have h3 := h M' (hF12.trans g1)
      rw [bgF, if_pos h1] at h3; exact h3
    · rw [if_neg h1]
      by_cases h2 : l5 < 0
      · rw [if_pos h2]
        refine ih (i + 1) (by omega) M2 _ _ _ hp2 hE2 hW2 (fun M' g1 => ?_)
        have h3 := h M' (hF12.trans g1)
        rw [bgF, if_neg h1, if_pos h2] at h3; exact h3
      · rw [if_neg h2]
        by_cases h4 : soB mk kd v onN bk gn c f cm c0 i < l6
        · rw [if_pos h4]
          refine ih (i + 1) (by omega) M2 _ _ _ hp2 hE2 hW2 (fun M' g1 => ?_)
          have h3 := h M' (hF12.trans g1)
          rw [bgF, if_neg h1, if_neg h2, if_pos h4] at h3; exact h3
        · rw [if_neg h4]
          refine ih (i + 1) (by omega) M2 _ _ _ hp2 hE2 hW2 (fun M' g1 => ?_)
          have h3 := h M' (hF12.trans g1)
          rw [bgF, if_neg h1, if_neg h2, if_neg h4] at h3; exact h3
theorem p_begin (hI : INV MZ n M) (hn : n ≤ 512) (a b c : Int32) : PRI MZ (d + 12) n kX10_begin kX11_begin [.int a, .int b, .int c] M := by
  have hp := hI.1
  have hpm := hI.2.1
  obtain ⟨nw, hn6, hc0, hm0, hW⟩ := INV_nw hI
  obtain ⟨p, onN, bk, mk, hld, hL, hE, hB⟩ := INV_land hI
  have hI1 := INV_mono hI
  unfold PRI
  rw [eX10_begin]
  simp only [ty_21, pc_21_1 hp, ty_33, true_and, and_true, Option.some.injEq, exists_eq_left']
  cases hA : inR a nw with
  | false =>
    rw [s_who_f hp hc0 hn6 hA]
    simp only [Option.toList_some, Option.toList_none, List.cons_append, List.nil_append]
    rw [gX10_begin_8]
    simp only [Option.elim_none]
    refine ⟨_, rfl, ?_⟩
    rw [eX11_begin, m_isWalker hpm (by omega) hm0, hA]
    simp only [ty_82, true_and, Option.toList_some, Option.toList_none, List.cons_append, List.nil_append]
    rw [gX11_begin_5, if_pos (by decide)]
    exact ⟨rfl, hI1⟩
  | true =>
  obtain ⟨w, hw, rfl⟩ := inR_get hA
  rw [s_who_t hp hc0 hn6 hw]
  simp only [Option.toList_some, Option.toList_none, List.cons_append, List.nil_append]
  rw [gX10_begin_8]
  simp only [Option.elim_some, rf_some]
  rw [s_isCell]
  simp only [Option.toList_some, Option.toList_none, List.cons_append, List.nil_append]
  rw [gX10_begin_19]
  cases hA2 : inR b 36 with
  | false =>
    rw [if_pos (by decide)]
    refine ⟨_, rfl, ?_⟩
    rw [eX11_begin, m_isWalker hpm (by omega) hm0, hA]
    simp only [ty_82, true_and, Option.toList_some, Option.toList_none, List.cons_append, List.nil_append]
    rw [gX11_begin_5, if_neg (by decide), m_isCell, hA2]
    simp only [Option.toList_some, Option.toList_none, List.cons_append, List.nil_append]
    rw [gX11_begin_12, if_pos (by decide)]
    exact ⟨rfl, hI1⟩
  | true =>
  rw [if_neg (by decide), s_isPart]
  simp only [Option.toList_some, Option.toList_none, List.cons_append, List.nil_append]
  rw [gX10_begin_26]
  cases hA3 : inR c 2 with
  | false =>
    rw [if_pos (by decide)]
    refine ⟨_, rfl, ?_⟩
    rw [eX11_begin, m_isWalker hpm (by omega) hm0, hA]
    simp only [ty_82, true_and, Option.toList_some, Option.toList_none, List.cons_append, List.nil_append]
    rw [gX11_begin_5, if_neg (by decide), m_isCell, hA2]
    simp only [Option.toList_some, Option.toList_none, List.cons_append, List.nil_append]
    rw [gX11_begin_12, if_neg (by decide), show (2 : Int32) = vI 2 from rfl, m_isIn (by decide), hA3]
    simp only [Option.toList_some, Option.toList_none, List.cons_append, List.nil_append]
    rw [gX11_begin_20, if_pos (by decide)]
    exact ⟨rfl, hI1⟩
  | true =>
  obtain ⟨c0, hc36, rfl⟩ := inR_get hA2
  obtain ⟨kd, v, cc, f, bt, gn, cm, k1, k2, k3, k4, hvl, hWK, hMW⟩ := hW w hw
  have hQ := QC_inv hI hld hL hB
  rw [if_neg (by decide)]
  refine s_begin_loop k1 k2 (by omega) hvl (by omega) hc36 (vI w) c (onN + bk) 0 (by omega) M (-5) (-5) _ hQ hWK (fun M3 hF3 hO3 => ?_)
  refine ⟨_, rfl, ?_⟩
  have hI3 := INV_fm hF3 Sq_58 hO3 hI1
  have hpm3 := PM_58 hF3 Sq_58 hpm
  have hE3 := ME_58 hF3 Sq_58 hE
  have hMW3 := MW_58 hF3 Sq_58 hMW
  rw [eX11_begin, m_isWalker hpm3 (by omega) (show mI M3 83 0 = vI nw by rw [r83_58 hF3 Sq_58]; exact hm0), hA]
  simp only [ty_82, true_and, Option.toList_some, Option.toList_none, List.cons_append, List.nil_append]
  rw [gX11_begin_5, if_neg (by decide), m_isCell, hA2]
  simp only [Option.toList_some, Option.toList_none, List.cons_append, List.nil_append]
  rw [gX11_begin_12, if_neg (by decide), show (2 : Int32) = vI 2 from rfl, m_isIn (by decide), hA3]
  simp only [Option.toList_some, Option.toList_none, List.cons_append, List.nil_append]
  rw [gX11_begin_20, if_neg (by decide)]
  exact m_begin_loop k1 k2 hB (by omega) hvl (by omega) hc36 c (onN + bk) 0 (by omega) M3 (-5) (-5) _ hpm3 hE3 hMW3 (fun M5 hF5 => ⟨rfl, INV_fn hF5 hI3⟩)
/- slower -/
theorem m_soonestBy {w c0 ak : Nat} (hk : ak < 7) (hB : bnL onN bk) (hbt : bt < 8) (hg : gn + 61 < 1000) (hvl : vld c f cm) (hw : w < 6) (hc0 : c0 < 36) (hp : PM M) (hE : ME M onN bk mk) (hW : MW M w kd v c f bt gn cm)
    (h : ∀ M' : MM, FN M M' → Q (some (.int (soB mk ak 0 onN bk gn c f cm c0 (bt % (onN + bk))))) M') :
    CL (d + 6) kX11_soonestBy [.ref 82, .int (vI w), .int (vI c0), .int (vI ak)] M Q := by
  have hb8 : bt % (onN + bk) < 8 := Nat.lt_of_le_of_lt (Nat.mod_le _ _) hbt
  obtain ⟨w0, w1, w2, w3, w4, w5, w6⟩ := id hW
  rw [eX11_soonestBy, show (2 : Int32) = vI 2 from rfl, m_get hp hw (by decide)]
  simp only [ty_82, true_and, Option.toList_some, Option.toList_none, List.cons_append, List.nil_append]
  rw [gX11_soonestBy_9, show (3 : Int32) = vI 3 from rfl, m_get hp hw (by decide)]
  simp only [ty_82, true_and, Option.toList_some, Option.toList_none, List.cons_append, List.nil_append]
  rw [gX11_soonestBy_15, show (5 : Int32) = vI 5 from rfl, m_get hp hw (by decide)]
  simp only [ty_82, true_and, Option.toList_some, Option.toList_none, List.cons_append, List.nil_append]
  rw [gX11_soonestBy_21, m_beatOf hp hE hB hw w4 (by omega)]
  simp only [ty_82, true_and, Option.toList_some, Option.toList_none, List.cons_append, List.nil_append]
  rw [gX11_soonestBy_26, show (6 : Int32) = vI 6 from rfl, m_get hp hw (by decide)]
  simp only [ty_82, true_and, Option.toList_some, Option.toList_none, List.cons_append, List.nil_append]
  rw [gX11_soonestBy_33, w2, w3, w5, w6, show (0 : Int32) = vI 0 from rfl]
  refine ⟨by simp only [ty_82], ?_⟩
  refine m_begins (mk := mk) (onN := onN) (bk := bk) hvl hp (fun M1 hF1 hN1 => ?_)
  simp only [Option.toList_some, Option.toList_none, List.cons_append, List.nil_append]
  rw [gX11_soonestBy_36]
  refine ⟨by simp only [ty_82], ?_⟩
  refine m_soonestTo hk (by decide) hB (by omega) hg (okA_0 hvl) hc0 (PM_fn hF1 hp) (ME_fn hF1 hE) hN1 (fun M2 hF2 _ => ?_)
  simp only [Option.toList_some, Option.toList_none, List.cons_append, List.nil_append]
  rw [gX11_soonestBy_41]
  exact h M2 (hF1.trans hF2)
theorem p_slower (hI : INV MZ n M) (hn : n ≤ 512) (a b c e : Int32) : PRI MZ (d + 12) n kX10_slower kX11_slower [.int a, .int b, .int c, .int e] M := by
  have hp := hI.1
  have hpm := hI.2.1
  obtain ⟨nw, hn6, hc0, hm0, hW⟩ := INV_nw hI
  obtain ⟨p, onN, bk, mk, hld, hL, hE, hB⟩ := INV_land hI
  have hI1 := INV_mono hI
  unfold PRI
  rw [eX10_slower]
  simp only [ty_21, pc_21_1 hp, ty_33, true_and, and_true, Option.some.injEq, exists_eq_left']
  cases hA : inR a nw with
  | false =>
    rw [s_who_f hp hc0 hn6 hA]
    simp only [Option.toList_some, Option.toList_none, List.cons_append, List.nil_append]
    rw [gX10_slower_8]
    simp only [Option.elim_none]
    refine ⟨_, rfl, ?_⟩
    rw [eX11_slower, m_isWalker hpm (by omega) hm0, hA]
    simp only [ty_82, true_and, Option.toList_some, Option.toList_none, List.cons_append, List.nil_append]
    rw [gX11_slower_5, if_pos (by decide)]
    exact ⟨rfl, hI1⟩
  | true =>
  obtain ⟨w, hw, rfl⟩ := inR_get hA
  rw [s_who_t hp hc0 hn6 hw]
  simp only [Option.toList_some, Option.toList_none, List.cons_append, List.nil_append]
  rw [gX10_slower_8]
  simp only [Option.elim_some, rf_some]
  rw [s_isCell]
  simp only [Option.toList_some, Option.toList_none, List.cons_append, List.nil_append]
  rw [gX10_slower_19]
  cases hA2 : inR b 36 with
  | false =>
    rw [if_pos (by decide)]
    refine ⟨_, rfl, ?_⟩
    rw [eX11_slower, m_isWalker hpm (by omega) hm0, hA]
    simp only [ty_82, true_and, Option.toList_some, Option.toList_none, List.cons_append, List.nil_append]
    rw [gX11_slower_5, if_neg (by decide), m_isCell, hA2]
    simp only [Option.toList_some, Option.toList_none, List.cons_append, List.nil_append]
    rw [gX11_slower_12, if_pos (by decide)]
    exact ⟨rfl, hI1⟩
  | true =>
  rw [if_neg (by decide), s_isKind]
  simp only [Option.toList_some, Option.toList_none, List.cons_append, List.nil_append]
  rw [gX10_slower_26]
  cases hA3 : inR c 7 with
  | false =>
    rw [if_pos (by decide)]
    refine ⟨_, rfl, ?_⟩
    rw [eX11_slower, m_isWalker hpm (by omega) hm0, hA]
    simp only [ty_82, true_and, Option.toList_some, Option.toList_none, List.cons_append, List.nil_append]
    rw [gX11_slower_5, if_neg (by decide), m_isCell, hA2]
    simp only [Option.toList_some, Option.toList_none, List.cons_append, List.nil_append]
    rw [gX11_slower_12, if_neg (by decide), show (7 : Int32) = vI 7 from rfl, m_isIn (by decide), hA3]
    simp only [Option.toList_some, Option.toList_none, List.cons_append, List.nil_append]
    rw [gX11_slower_21, if_pos (by decide)]
    exact ⟨rfl, hI1⟩
  | true =>
  rw [if_neg (by decide), s_isKind]
  simp only [Option.toList_some, Option.toList_none, List.cons_append, List.nil_append]
  rw [gX10_slower_34]
  cases hA4 : inR e 7 with
  | false =>
    rw [if_pos (by decide)]
    refine ⟨_, rfl, ?_⟩
    rw [eX11_slower, m_isWalker hpm (by omega) hm0, hA]
    simp only [ty_82, true_and, Option.toList_some, Option.toList_none, List.cons_append, List.nil_append]
    rw [gX11_slower_5, if_neg (by decide), m_isCell, hA2]
    simp only [Option.toList_some, Option.toList_none, List.cons_append, List.nil_append]
    rw [gX11_slower_12, if_neg (by decide), show (7 : Int32) = vI 7 from rfl, m_isIn (by decide), hA3]
    simp only [Option.toList_some, Option.toList_none, List.cons_append, List.nil_append]
    rw [gX11_slower_21, if_neg (by decide), show (7 : Int32) = vI 7 from rfl, m_isIn (by decide), hA4]
    simp only [Option.toList_some, Option.toList_none, List.cons_append, List.nil_append]
    rw [gX11_slower_31, if_pos (by decide)]
    exact ⟨rfl, hI1⟩
  | true =>
  obtain ⟨c0, hc36, rfl⟩ := inR_get hA2
  obtain ⟨ka, hka, rfl⟩ := inR_get hA3
  obtain ⟨kb, hkb, rfl⟩ := inR_get hA4
  obtain ⟨kd, v, cc, f, bt, gn, cm, k1, k2, k3, k4, hvl, hWK, hMW⟩ := hW w hw
  have hQ := QC_inv hI hld hL hB
  have hb8 := modR (bt := bt) hB
  rw [if_neg (by decide)]
  simp only [ty_21, pc_21_1 hp, pc_21_5 hp, ty_33, ty_58, ty_w w (by omega), hld, rf_some, true_and, and_true, Option.some.injEq, exists_eq_left']
  rw [hWK.2.2.2.2.2.1, show (0 : Int32) = vI 0 from rfl]
  refine s_alone_ CrT_58 hQ.2.2.2.2.1 hL hB (by omega) hWK (by omega) hvl.1 hvl.2.1 hvl.2.2.1 (fun M1 hF1 hS1 => ?_)
  have hQ1 := QC_58 hF1 hS1.q hQ
  simp only [Option.toList_some, Option.toList_none, List.cons_append, List.nil_append]
  rw [gX10_slower_64]
  simp only [ty_21, pc_21_5 hQ1.1, ty_58, true_and, and_true, Option.some.injEq, exists_eq_left']
  refine s_beatsTo CrT_58 hB hka (by decide) hb8 (by omega) hc36 hS1 hQ1.2.2.1 (fun M2 hF2 hq2 => ?_)
  have hF12 := hF1.trans hF2
  have hQ2 := QC_58 hF2 hq2 hQ1
  have hWK2 := WK_58 hF12 (by omega) hWK
  simp only [Option.toList_some, Option.toList_none, List.cons_append, List.nil_append]
  rw [gX10_slower_72]
  simp only [ty_21, pc_21_1 hQ2.1, pc_21_5 hQ2.1, ty_33, ty_58, ty_w w (by omega), hQ2.2.1, rf_some, true_and, and_true, Option.some.injEq, exists_eq_left']
  rw [hWK2.2.2.2.2.2.1, show (0 : Int32) = vI 0 from rfl]
  refine s_alone_ CrT_58 hQ2.2.2.2.2.1 hQ2.2.2.1 hB (by omega) hWK2 (by omega) hvl.1 hvl.2.1 hvl.2.2.1 (fun M3 hF3 hS3 => ?_)
  have hQ3 := QC_58 hF3 hS3.q hQ2
  simp only [Option.toList_some, Option.toList_none, List.cons_append, List.nil_append]
  rw [gX10_slower_98]
  simp only [ty_21, pc_21_5 hQ3.1, ty_58, true_and, and_true, Option.some.injEq, exists_eq_left']
  refine s_beatsTo CrT_58 hB hkb (by decide) hb8 (by omega) hc36 hS3 hQ3.2.2.1 (fun M4 hF4 hq4 => ?_)
  have hQ4 := QC_58 hF4 hq4 hQ3
  have hF14 := (hF12.trans hF3).trans hF4
  simp only [Option.toList_some, Option.toList_none, List.cons_append, List.nil_append]
  rw [gX10_slower_106]
  have e1 : ∀ k : Nat, sn (fun t => anyW (rq anyS mk k 0 onN bk (bt % (onN + bk)) gn (fun c2 f2 w2 => c2 = cc ∧ f2 = f ∧ w2 = cm) t) c0) 61 0 = soB mk k 0 onN bk gn cc f cm c0 (bt % (onN + bk)) := fun _ => rfl
  rw [e1, e1]
  have ref : ∀ z : Int32, (∀ (M5 : MM) (Q : Option Value → MM → Prop), (if soB mk ka 0 onN bk gn cc f cm c0 (bt % (onN + bk)) < 0 then Q (some (.int (-1000))) M5 else (if soB mk kb 0 onN bk gn cc f cm c0 (bt % (onN + bk)) < 0 then Q (some (.int (-1000))) M5 else Q (some (.int (soB mk ka 0 onN bk gn cc f cm c0 (bt % (onN + bk)) - soB mk kb 0 onN bk gn cc f cm c0 (bt % (onN + bk))))) M5)) = Q (some (.int z)) M5) →
      CL (d + 12) kX11_slower [.ref 82, .int (vI w), .int (vI c0), .int (vI ka), .int (vI kb)] M4 (fun r2 M2 => r2 = some (.int z) ∧ INV MZ (n + 1) M2) := by
    intro z hz
    have hI3 := INV_fm hF14 Sq_58 hQ4.2.2.2.2 hI1
    have hpm3 := PM_58 hF14 Sq_58 hpm
    have hE3 := ME_58 hF14 Sq_58 hE
    have hMW3 := MW_58 hF14 Sq_58 hMW
    rw [eX11_slower, m_isWalker hpm3 (by omega) (show mI M4 83 0 = vI nw by rw [r83_58 hF14 Sq_58]; exact hm0), hA]
    simp only [ty_82, true_and, Option.toList_some, Option.toList_none, List.cons_append, List.nil_append]
    rw [gX11_slower_5, if_neg (by decide), m_isCell, hA2]
    simp only [Option.toList_some, Option.toList_none, List.cons_append, List.nil_append]
    rw [gX11_slower_12, if_neg (by decide), show (7 : Int32) = vI 7 from rfl, m_isIn (by decide), hA3]
    simp only [Option.toList_some, Option.toList_none, List.cons_append, List.nil_append]
    rw [gX11_slower_21, if_neg (by decide), show (7 : Int32) = vI 7 from rfl, m_isIn (by decide), hA4]
    simp only [Option.toList_some, Option.toList_none, List.cons_append, List.nil_append]
    rw [gX11_slower_31, if_neg (by decide)]
    refine ⟨by simp only [ty_82], ?_⟩
    refine m_soonestBy hka hB k3 (by omega) hvl (by omega) hc36 hpm3 hE3 hMW3 (fun M6 hF6 => ?_)
    simp only [Option.toList_some, Option.toList_none, List.cons_append, List.nil_append]
    rw [gX11_slower_45]
    refine ⟨by simp only [ty_82], ?_⟩
    refine m_soonestBy hkb hB k3 (by omega) hvl (by omega) hc36 (PM_fn hF6 hpm3) (ME_fn hF6 hE3) (MW_fn hF6 hMW3) (fun M7 hF7 => ?_)
    simp only [Option.toList_some, Option.toList_none, List.cons_append, List.nil_append]
    rw [gX11_slower_55]
    exact (hz M7 (fun r2 M2 => r2 = some (.int z) ∧ INV MZ (n + 1) M2)).mpr ⟨rfl, INV_fn (hF6.trans hF7) hI3⟩
  by_cases h1 : soB mk ka 0 onN bk gn cc f cm c0 (bt % (onN + bk)) < 0
  · rw [if_pos h1]
    refine ⟨_, rfl, ref _ (fun M5 Q => ?_)⟩
    rw [if_pos h1]
  · rw [if_neg h1]
    by_cases h2 : soB mk kb 0 onN bk gn cc f cm c0 (bt % (onN + bk)) < 0
    · rw [if_pos h2]
      refine ⟨_, rfl, ref _ (fun M5 Q => ?_)⟩
      rw [if_neg h1, if_pos h2]
    · rw [if_neg h2]
      refine ⟨_, rfl, ref _ (fun M5 Q => ?_)⟩
      rw [if_neg h1, if_neg h2]
end P2
