/-! ===== 43: home, meet on both sides ===== -/
theorem mod_back {b t R : Nat} (hb : b < R) : ((b + t) % R = b) ↔ t % R = 0 := by
  have h1 := Nat.mod_lt t (show 0 < R by omega)
  have h2 : (b + t) % R = (b + t % R) % R := by rw [Nat.add_mod_mod]
  rw [h2]
  by_cases h : b + t % R < R
  · rw [Nat.mod_eq_of_lt h]; omega
  · rw [Nat.mod_eq_sub_mod (by omega), Nat.mod_eq_of_lt (by omega)]; omega
section Home
variable {MZ M : MM} {n d : Nat} {Q : Option Value → MM → Prop} {p onN bk : Nat} {mk : Nat → Nat → Prop} {kd v c f bt gn cm : Nat}
def hmP (mk : Nat → Nat → Prop) (kd v onN bk b0 gn c f cm t : Nat) : Prop := t % (onN + bk) = 0 ∧ ∃ w : Nat, w < 5 ∧ rq anyS mk kd v onN bk b0 gn (A0s c f cm) t c f w
theorem s_home_loop (hk : kd < 7) (hv : v < 10) (hg : gn + 61 < 1000) (hvl : vld c f cm) {w b0 : Nat} (hw : w < 6) (hb0 : b0 < onN + bk) (l1 : Int32) :
    ∀ m t : Nat, t + m = 61 → 0 < t → ∀ M : MM, QC M p onN bk mk → WK M (39 + w) kd v c f bt gn cm → CrS M 58 p kd v ((b0 + (t - 1)) % (onN + bk)) (gn + (t - 1)) (rq anyS mk kd v onN bk b0 gn (A0s c f cm) (t - 1)) →
    (∀ M' : MM, FM (inS 58 4) M M' → SOK M' → Q (some (.int (sn (hmP mk kd v onN bk b0 gn c f cm) m t))) M') →
    WP (d + 6) kX10_home (44, [.ref 21, .int l1, .ref (39 + w), .int (vI b0), .int (vI t)], [], M) Q := by
  intro m
  induction m with
  | zero =>
    intro t ht h0 M hQ hW hS h
    obtain rfl : t = 61 := by omega
    rw [gX10_home_44, if_pos (by decide)]
    exact h M (FM.refl _ _) hQ.2.2.2.2
  | succ m ih =>
    intro t ht h0 M hQ hW hS h
    have hbb := hQ.2.2.2.1
    unfold bnL at hbb
    rw [gX10_home_44, if_neg (by rw [lt_ln (by omega) (by decide)]; omega)]
    simp only [ty_21, pc_21_5 hQ.1, ty_58, true_and, and_true, Option.some.injEq, exists_eq_left']
    refine s_go (ms := anyS) hk hv (by omega) (fun _ => trivial) hQ hS (fun M1 hF1 hS1 => ?_)
    rw [show t - 1 + 1 = t by omega] at hS1
    have hQ1 := QC_58 hF1 hS1.q hQ
    have hW1 := WK_58 hF1 (by omega) hW
    have hG1 : GA M1 61 p kd v ((b0 + t) % (onN + bk)) (gn + t) := by
      obtain ⟨qh, qt, -, hG, -⟩ := hS1; exact hG
    have h582 : mR M1 58 2 = some 61 := by
      obtain ⟨qh, qt, hP, -, -⟩ := hS1; exact hP.2.2.1
    have hml : (b0 + t) % (onN + bk) < onN + bk := Nat.mod_lt _ (by omega)
    simp only [Option.toList_some, Option.toList_none, List.cons_append, List.nil_append]
    rw [gX10_home_60]
    simp only [ty_21, pc_21_5 hQ1.1, ty_58, h582, ty_61, true_and, and_true, Option.some.injEq, exists_eq_left']
    rw [hG1.2.2.2.2.1]
    have qe : (vI ((b0 + t) % (onN + bk)) = vI b0) = (t % (onN + bk) = 0) := by rw [vI_inj (by omega) (by omega)]; exact propext (mod_back hb0)
    by_cases hz : t % (onN + bk) = 0
    · rw [if_pos (by rw [qe]; exact hz), hW1.2.2.2.2.1, s_facing CrT_58 hS1 hvl.2.1]
      simp only [ty_w w hw, true_and, Option.toList_some, Option.toList_none, List.cons_append, List.nil_append]
      rw [gX10_home_85, hW1.2.2.2.1, s_holds _ hvl.1]
      simp only [ty_w w hw, true_and, Option.toList_some, Option.toList_none, List.cons_append, List.nil_append]
      rw [gX10_home_92]
      by_cases e : ∃ w2 : Nat, w2 < 5 ∧ rq anyS mk kd v onN bk b0 gn (A0s c f cm) t c f w2
      · rw [pB_T e, if_neg (by decide)]
        have h2 := h M1 hF1 hQ1.2.2.2.2
        rw [sn_t (P := hmP mk kd v onN bk b0 gn c f cm) ⟨hz, e⟩] at h2
        exact h2
      · rw [pB_F e, if_pos (by decide), add_nl]
        refine ih (t + 1) (by omega) (by omega) M1 hQ1 hW1 hS1 (fun M' h1 h2 => ?_)
        have h3 := h M' (hF1.trans h1) h2
        rw [sn_f (P := hmP mk kd v onN bk b0 gn c f cm) (fun h => e h.2)] at h3
        exact h3
    · rw [if_neg (by rw [qe]; exact hz), add_nl]
      refine ih (t + 1) (by omega) (by omega) M1 hQ1 hW1 hS1 (fun M' h1 h2 => ?_)
      have h3 := h M' (hF1.trans h1) h2
      rw [sn_f (P := hmP mk kd v onN bk b0 gn c f cm) (fun h => hz h.1)] at h3
      exact h3
theorem m_home46 {t b0 : Nat} (ht : t < 1000) (hvl : vld c f cm) {w : Nat} (hw : w < 6) (hp : PM M) (hW : MW M w kd v c f bt gn cm) (hN : NowT M mk kd v onN bk b0 gn (A0s c f cm) t) :
    ∀ m i : Nat, i + m = 36 → (∀ w2 : Nat, w2 < 5 → ok c w2 → rq anyS mk kd v onN bk b0 gn (A0s c f cm) t c f w2 → i ≤ nxc c w2) →
    WP (d + 5) kX11_home (46, [.ref 82, .int (vI w), .int (vI t), .int (vI i)], [], M) Q = (if pB (∃ w2 : Nat, w2 < 5 ∧ rq anyS mk kd v onN bk b0 gn (A0s c f cm) t c f w2) = true then Q (some (.int (vI t))) M else WP (d + 5) kX11_home (22, [.ref 82, .int (vI w), .int (vI (t + 1)), .int 36], [], M) Q) := by
  have hA := okA_rq (mk := mk) (kd := kd) (v := v) (onN := onN) (bk := bk) (b0 := b0) (g0 := gn) (ms := anyS) (okA_0 hvl) t
  intro m
  induction m with
  | zero =>
    intro i hi h
    obtain rfl : i = 36 := by omega
    rw [gX11_home_46, if_neg (by decide), add_nl, if_neg]
    · rfl
    · rw [pB_t]
      rintro ⟨w2, h1, h2⟩
      have h3 := hA c f w2 h2
      have h4 := h w2 h1 h3.2.2.2 h2
      have h5 := nx_lt hvl.1 h1 h3.2.2.2
      omega
  | succ m ih =>
    intro i hi h
    obtain ⟨w0, w1, w2, w3, w4, w5, w6⟩ := id hW
    have c36 := hvl.1
    have f4 := hvl.2.1
    rw [gX11_home_46, if_pos (by rw [lt_nl (by omega) (by decide)]; omega), show (2 : Int32) = vI 2 from rfl, m_get hp hw (by decide), w2]
    simp only [ty_82, true_and, Option.toList_some, Option.toList_none, List.cons_append, List.nil_append, pm_15 hp, rf_some]
    rw [gX11_home_62, show (3 : Int32) = vI 3 from rfl, m_get hp hw (by decide), w3]
    simp only [ty_82, true_and, Option.toList_some, Option.toList_none, List.cons_append, List.nil_append]
    rw [gX11_home_68, eX11_stateOf, mul_nl, vI_add, mul_nl, vI_add]
    simp only [Option.toList_some, Option.toList_none, List.cons_append, List.nil_append]
    rw [gX11_home_72]
    simp (disch := omega) only [ty_90, inb_n, vI_cl, true_and, add_nl]
    simp only [show (c * 4 + f) * 36 + i < 5184 by omega, true_and]
    by_cases hx : ∃ x : Nat, x < 5 ∧ ok c x ∧ nxc c x = i
    · obtain ⟨x, x1, x2, x3⟩ := hx
      have hvx : vld c f x := ⟨c36, f4, x1, x2⟩
      have e := hN.2.1 c f x hvx
      have e2 : phi c f x = (c * 4 + f) * 36 + i := by unfold phi; rw [x3]
      rw [e2] at e
      have hlt : Vt mk kd v onN bk b0 gn (A0s c f cm) t c f x < 128 := mb_lt _ 7
      rw [e]
      by_cases hr : rq anyS mk kd v onN bk b0 gn (A0s c f cm) t c f x
      · rw [if_neg (by rw [eq_nl (by omega) (by decide)]; exact (Vt_ne c f x).mpr hr), if_pos (pB_T ⟨x, x1, hr⟩)]
      · rw [if_pos (by rw [eq_nl (by omega) (by decide)]; exact Classical.byContradiction fun h0 => hr ((Vt_ne c f x).mp h0))]
        refine ih (i + 1) (by omega) (fun y y1 y2 y3 => ?_)
        have h4 := h y y1 y2 y3
        have : ¬ nxc c y = i := fun h5 => hr (by
          have := nx_inj c36 y1 x1 y2 x2 (h5.trans x3.symm)
          rw [← this]; exact y3)
        omega
    · rw [if_pos (hN.2.2.1 _ (by omega) (fun c1 f1 w1 hv1 he => ?_))]
      · refine ih (i + 1) (by omega) (fun y y1 y2 y3 => ?_)
        have h4 := h y y1 y2 y3
        have : ¬ nxc c y = i := fun h5 => hx ⟨y, y1, y2, h5⟩
        omega
      · have q1 := phi_c hv1
        have q3 := phi_w hv1
        rw [← he] at q1 q3
        have e1 : c1 = c := by omega
        subst e1
        exact hx ⟨w1, hv1.2.2.1, hv1.2.2.2, by omega⟩
theorem m_home_loop (hk : kd < 7) (hv : v < 10) (hB : bnL onN bk) (hg : gn + 61 < 1000) (hvl : vld c f cm) {w b0 : Nat} (hw : w < 6) (hb0 : b0 < onN + bk) :
    ∀ m t : Nat, t + m = 61 → 0 < t → ∀ (M : MM) (l3 : Value), PM M → ME M onN bk mk → MW M w kd v c f bt gn cm → NowT M mk kd v onN bk b0 gn (A0s c f cm) (t - 1) →
    (∀ M' : MM, FN M M' → Q (some (.int (sn (hmP mk kd v onN bk b0 gn c f cm) m t))) M') →
    WP (d + 5) kX11_home (22, [.ref 82, .int (vI w), .int (vI t), l3], [], M) Q := by
  have hbb := hB
  unfold bnL at hbb
  intro m
  induction m with
  | zero =>
    intro t ht h0 M l3 hp hE hW hN h
    obtain rfl : t = 61 := by omega
    rw [gX11_home_22, if_pos (by decide)]
    exact h M (FN.refl _)
  | succ m ih =>
    intro t ht h0 M l3 hp hE hW hN h
    rw [gX11_home_22, if_neg (by rw [lt_ln (by omega) (by decide)]; omega)]
    refine ⟨by simp only [ty_82], ?_⟩
    refine m_beat hk hv hB (by omega) (by omega) (by omega) (okA_0 hvl) hp hE hN (fun M1 hF1 hN1 => ?_)
    rw [show t - 1 + 1 = t by omega] at hN1
    have hp1 := PM_fn hF1 hp
    have hE1 := ME_fn hF1 hE
    have hW1 := MW_fn hF1 hW
    simp only [Option.toList_some, Option.toList_none, List.cons_append, List.nil_append]
    rw [gX11_home_32, m_beats hp1 hE1]
    simp only [ty_82, true_and, Option.toList_some, Option.toList_none, List.cons_append, List.nil_append]
    have hml : t % (onN + bk) < onN + bk := Nat.mod_lt _ (by omega)
    have qe : (iRem (vI t) (vI (onN + bk)) = 0) = (t % (onN + bk) = 0) := by rw [vI_rem (by omega) (by omega), eq_nl (by omega) (by decide)]
    rw [gX11_home_37]
    refine ⟨by rw [eq_nl (by omega) (by decide)]; omega, ?_⟩
    by_cases hz : t % (onN + bk) = 0
    · rw [if_pos (by rw [qe]; exact hz)]
      have e46 := m_home46 (d := d) (Q := Q) (mk := mk) (onN := onN) (bk := bk) (b0 := b0) (t := t) (by omega) hvl hw hp1 hW1 hN1 36 0 rfl (fun _ _ _ _ => Nat.zero_le _)
      refine e46.mpr ?_
      by_cases e : ∃ w2 : Nat, w2 < 5 ∧ rq anyS mk kd v onN bk b0 gn (A0s c f cm) t c f w2
      · rw [if_pos (pB_T e)]
        have h2 := h M1 hF1
        rw [sn_t (P := hmP mk kd v onN bk b0 gn c f cm) ⟨hz, e⟩] at h2
        exact h2
      · rw [if_neg (by rw [pB_t]; exact e)]
        refine ih (t + 1) (by omega) (by omega) M1 _ hp1 hE1 hW1 hN1 (fun M' h1 => ?_)
        have h3 := h M' (hF1.trans h1)
        rw [sn_f (P := hmP mk kd v onN bk b0 gn c f cm) (fun h => e h.2)] at h3
        exact h3
    · rw [if_neg (by rw [qe]; exact hz), add_nl]
      refine ih (t + 1) (by omega) (by omega) M1 _ hp1 hE1 hW1 hN1 (fun M' h1 => ?_)
      have h3 := h M' (hF1.trans h1)
      rw [sn_f (P := hmP mk kd v onN bk b0 gn c f cm) (fun h => hz h.1)] at h3
      exact h3
theorem p_home (hI : INV MZ n M) (hn : n ≤ 512) (a : Int32) : PRI MZ (d + 12) n kX10_home kX11_home [.int a] M := by
  have hp := hI.1
  have hpm := hI.2.1
  obtain ⟨nw, hn6, hc0, hm0, hW⟩ := INV_nw hI
  obtain ⟨p, onN, bk, mk, hld, hL, hE, hB⟩ := INV_land hI
  have hI1 := INV_mono hI
  unfold PRI
  rw [eX10_home]
  simp only [ty_21, pc_21_1 hp, ty_33, true_and, and_true, Option.some.injEq, exists_eq_left']
  cases hA : inR a nw with
  | false =>
    rw [s_who_f hp hc0 hn6 hA]
    simp only [Option.toList_some, Option.toList_none, List.cons_append, List.nil_append]
    rw [gX10_home_8]
    simp only [Option.elim_none]
    refine ⟨_, rfl, ?_⟩
    rw [eX11_home, m_isWalker hpm (by omega) hm0, hA]
    simp only [ty_82, true_and, Option.toList_some, Option.toList_none, List.cons_append, List.nil_append]
    rw [gX11_home_5, if_pos (by decide)]
    exact ⟨rfl, hI1⟩
  | true =>
  obtain ⟨w, hw, rfl⟩ := inR_get hA
  rw [s_who_t hp hc0 hn6 hw]
  simp only [Option.toList_some, Option.toList_none, List.cons_append, List.nil_append]
  rw [gX10_home_8]
  simp only [Option.elim_some, rf_some]
  obtain ⟨kd, v, cc, f, bt, gn, cm, k1, k2, k3, k4, hvl, hWK, hMW⟩ := hW w hw
  have hQ := QC_inv hI hld hL hB
  have hb8 := modR (bt := bt) hB
  have hbb := hB
  unfold bnL at hbb
  simp only [ty_21, pc_21_1 hp, pc_21_5 hp, ty_33, ty_58, hld, rf_some, true_and, and_true, Option.some.injEq, exists_eq_left']
  refine s_alone CrT_58 hQ.2.2.2.2.1 hL hB (by omega) hWK (by omega) hvl.1 hvl.2.1 hvl.2.2.1 (fun M1 hF1 hS1 => ?_)
  have hQ1 := QC_58 hF1 hS1.q hQ
  have hW1 := WK_58 hF1 (by omega) hWK
  have hG1 : GA M1 61 p kd v (bt % (onN + bk)) gn := by
    obtain ⟨qh, qt, -, hG, -⟩ := hS1; exact hG
  have h582 : mR M1 58 2 = some 61 := by
    obtain ⟨qh, qt, hP, -, -⟩ := hS1; exact hP.2.2.1
  simp only [Option.toList_some, Option.toList_none, List.cons_append, List.nil_append]
  rw [gX10_home_30]
  simp only [ty_21, pc_21_5 hQ1.1, ty_58, h582, ty_61, true_and, and_true, Option.some.injEq, exists_eq_left']
  rw [hG1.2.2.2.2.1]
  refine s_home_loop (bt := bt) (gn := gn) k1 k2 (by omega) hvl (by omega) hb8 (vI w) 60 1 rfl (by decide) M1 hQ1 hW1 (by
    rw [Nat.sub_self, Nat.add_zero, Nat.add_zero, Nat.mod_mod]; exact hS1) (fun M3 hF13 hO3 => ?_)
  have hF3 := hF1.trans hF13
  refine ⟨_, rfl, ?_⟩
  have hI3 := INV_fm hF3 Sq_58 hO3 hI1
  have hpm3 := PM_58 hF3 Sq_58 hpm
  have hE3 := ME_58 hF3 Sq_58 hE
  have hMW3 := MW_58 hF3 Sq_58 hMW
  rw [eX11_home, m_isWalker hpm3 (by omega) (show mI M3 83 0 = vI nw by rw [r83_58 hF3 Sq_58]; exact hm0), hA]
  simp only [ty_82, true_and, Option.toList_some, Option.toList_none, List.cons_append, List.nil_append]
  rw [gX11_home_5, if_neg (by decide), m_beatOf hpm3 hE3 hB (by omega) hMW3.2.2.2.2.1 (by omega)]
  simp only [ty_82, true_and, Option.toList_some, Option.toList_none, List.cons_append, List.nil_append]
  rw [gX11_home_17]
  refine ⟨by simp only [ty_82], ?_⟩
  refine m_beginsAs (mk := mk) (onN := onN) (bk := bk) hvl hpm3 (by omega) hMW3 (fun M4 hF4 hN4 => ?_)
  simp only [Option.toList_some, Option.toList_none, List.cons_append, List.nil_append]
  rw [gX11_home_20]
  exact m_home_loop k1 k2 hB (by omega) hvl (by omega) hb8 60 1 rfl (by decide) M4 _ (PM_fn hF4 hpm3) (ME_fn hF4 hE3) (MW_fn hF4 hMW3) hN4 (fun M5 hF5 => ⟨rfl, INV_fn (hF4.trans hF5) hI3⟩)
end Home
