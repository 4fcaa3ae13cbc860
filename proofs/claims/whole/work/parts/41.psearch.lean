/-! ===== 41: soonest, begin, reached, never, slower on both sides ===== -/
theorem QC_inv {MZ M : MM} {n : Nat} {p onN bk : Nat} {mk : Nat → Nat → Prop} (hI : INV MZ n M) (h1 : mR M 33 4 = some p) (h2 : LandC M p onN bk mk) (h3 : bnL onN bk) : QC M p onN bk mk := ⟨hI.1, h1, h2, h3, hI.2.2.1⟩
theorem ME_58 {M M' : MM} {onN bk : Nat} {mk : Nat → Nat → Prop} {S : Nat → Prop} (h : FM S M M') (hs : ∀ a : Nat, S a → Sq a) (hE : ME M onN bk mk) : ME M' onN bk mk := ME_fr h (fun a h1 h2 h3 => by have := hs a h3; unfold Sq at this; omega) hE
theorem PM_58 {M M' : MM} {S : Nat → Prop} (h : FM S M M') (hs : ∀ a : Nat, S a → Sq a) (hp : PM M) : PM M' := PM_fr h (fun h3 => by have := hs _ h3; unfold Sq at this; omega) hp
theorem r83_58 {M M' : MM} {S : Nat → Prop} (h : FM S M M') (hs : ∀ a : Nat, S a → Sq a) : mI M' 83 = mI M 83 := h.i (fun h3 => by have := hs _ h3; unfold Sq at this; omega)
theorem MW_58 {M M' : MM} {S : Nat → Prop} {w kd v c f bt gn cm : Nat} (h : FM S M M') (hs : ∀ a : Nat, S a → Sq a) (hW : MWs M 83 w kd v c f bt gn cm) : MW M' w kd v c f bt gn cm := MWs_ag (r83_58 h hs) hW
section PS
variable {MZ M : MM} {n d : Nat}
theorem p_soonest (hI : INV MZ n M) (hn : n ≤ 512) (a b c : Int32) : PRI MZ (d + 12) n kX10_soonest kX11_soonest [.int a, .int b, .int c] M := by
  have hp := hI.1
  have hpm := hI.2.1
  obtain ⟨nw, hn6, hc0, hm0, hW⟩ := INV_nw hI
  obtain ⟨p, onN, bk, mk, hld, hL, hE, hB⟩ := INV_land hI
  have hI1 := INV_mono hI
  unfold PRI
  rw [eX10_soonest]
  simp only [ty_21, pc_21_1 hp, ty_33, true_and, and_true, Option.some.injEq, exists_eq_left']
  cases hA : inR a nw with
  | false =>
    rw [s_who_f hp hc0 hn6 hA]
    simp only [Option.toList_some, Option.toList_none, List.cons_append, List.nil_append]
    rw [gX10_soonest_8]
    simp only [Option.elim_none]
    refine ⟨_, rfl, ?_⟩
    rw [eX11_soonest, m_isWalker hpm (by omega) hm0, hA]
    simp only [ty_82, true_and, Option.toList_some, Option.toList_none, List.cons_append, List.nil_append]
    rw [gX11_soonest_5, if_pos (by decide)]
    exact ⟨rfl, hI1⟩
  | true =>
  obtain ⟨w, hw, rfl⟩ := inR_get hA
  rw [s_who_t hp hc0 hn6 hw]
  simp only [Option.toList_some, Option.toList_none, List.cons_append, List.nil_append]
  rw [gX10_soonest_8]
  simp only [Option.elim_some, rf_some]
  rw [s_isCell]
  simp only [Option.toList_some, Option.toList_none, List.cons_append, List.nil_append]
  rw [gX10_soonest_19]
  cases hA2 : inR b 36 with
  | false =>
    rw [if_pos (by decide)]
    refine ⟨_, rfl, ?_⟩
    rw [eX11_soonest, m_isWalker hpm (by omega) hm0, hA]
    simp only [ty_82, true_and, Option.toList_some, Option.toList_none, List.cons_append, List.nil_append]
    rw [gX11_soonest_5, if_neg (by decide), m_isCell, hA2]
    simp only [Option.toList_some, Option.toList_none, List.cons_append, List.nil_append]
    rw [gX11_soonest_12, if_pos (by decide)]
    exact ⟨rfl, hI1⟩
  | true =>
  rw [if_neg (by decide), s_isPart]
  simp only [Option.toList_some, Option.toList_none, List.cons_append, List.nil_append]
  rw [gX10_soonest_26]
  cases hA3 : inR c 2 with
  | false =>
    rw [if_pos (by decide)]
    refine ⟨_, rfl, ?_⟩
    rw [eX11_soonest, m_isWalker hpm (by omega) hm0, hA]
    simp only [ty_82, true_and, Option.toList_some, Option.toList_none, List.cons_append, List.nil_append]
    rw [gX11_soonest_5, if_neg (by decide), m_isCell, hA2]
    simp only [Option.toList_some, Option.toList_none, List.cons_append, List.nil_append]
    rw [gX11_soonest_12, if_neg (by decide), show (2 : Int32) = vI 2 from rfl, m_isIn (by decide), hA3]
    simp only [Option.toList_some, Option.toList_none, List.cons_append, List.nil_append]
    rw [gX11_soonest_20, if_pos (by decide)]
    exact ⟨rfl, hI1⟩
  | true =>
  obtain ⟨c0, hc36, rfl⟩ := inR_get hA2
  obtain ⟨kd, v, cc, f, bt, gn, cm, k1, k2, k3, k4, hvl, hWK, hMW⟩ := hW w hw
  have hQ := QC_inv hI hld hL hB
  have hb8 := modR (bt := bt) hB
  have hbb := hB
  unfold bnL at hbb
  rw [if_neg (by decide)]
  simp only [ty_21, pc_21_1 hp, pc_21_5 hp, ty_33, ty_58, hld, rf_some, true_and, and_true, Option.some.injEq, exists_eq_left']
  refine s_alone CrT_58 hQ.2.2.2.2.1 hL hB (by omega) hWK (by omega) hvl.1 hvl.2.1 hvl.2.2.1 (fun M1 hF1 hS1 => ?_)
  have hQ1 := QC_58 hF1 hS1.q hQ
  simp only [Option.toList_some, Option.toList_none, List.cons_append, List.nil_append]
  rw [gX10_soonest_47]
  simp only [ty_21, pc_21_5 hQ1.1, ty_58, true_and, and_true, Option.some.injEq, exists_eq_left']
  refine s_beatsTo CrT_58 hB k1 k2 hb8 (by omega) hc36 hS1 hQ1.2.2.1 (fun M2 hF2 hq2 => ?_)
  have hQ2 := QC_58 hF2 hq2 hQ1
  have hF12 := hF1.trans hF2
  simp only [Option.toList_some, Option.toList_none, List.cons_append, List.nil_append]
  rw [gX10_soonest_55]
  -- the reference's answer, from any memory behind the class's
  have ref : ∀ M3 : MM, FM (inS 58 4) M M3 → SOK M3 → ∀ z : Int32,
      (c = 0 → z = sn (fun t => anyW (rq anyS mk kd v onN bk (bt % (onN + bk)) gn (A0s cc f cm) t) c0) 61 0) →
      (¬ c = 0 → z = sf (fun t => anyW (rq anyS mk kd v onN bk (bt % (onN + bk)) gn (A0s cc f cm) t) c0) (fsG mk kd v onN bk (bt % (onN + bk)) gn (A0s cc f cm) c0) 61 0) →
      CL (d + 12) kX11_soonest [.ref 82, .int (vI w), .int (vI c0), .int c] M3 (fun r2 M2 => r2 = some (.int z) ∧ INV MZ (n + 1) M2) := by
    intro M3 hF3 hO3 z hz0 hz1
    have hI3 := INV_fm hF3 Sq_58 hO3 hI1
    have hpm3 := PM_58 hF3 Sq_58 hpm
    have hE3 := ME_58 hF3 Sq_58 hE
    have hMW3 := MW_58 hF3 Sq_58 hMW
    rw [eX11_soonest, m_isWalker hpm3 (by omega) (show mI M3 83 0 = vI nw by rw [r83_58 hF3 Sq_58]; exact hm0), hA]
    simp only [ty_82, true_and, Option.toList_some, Option.toList_none, List.cons_append, List.nil_append]
    rw [gX11_soonest_5, if_neg (by decide), m_isCell, hA2]
    simp only [Option.toList_some, Option.toList_none, List.cons_append, List.nil_append]
    rw [gX11_soonest_12, if_neg (by decide), show (2 : Int32) = vI 2 from rfl, m_isIn (by decide), hA3]
    simp only [Option.toList_some, Option.toList_none, List.cons_append, List.nil_append]
    rw [gX11_soonest_20, if_neg (by decide), m_beatOf hpm3 hE3 hB (by omega) hMW3.2.2.2.2.1 (by omega)]
    simp only [ty_82, true_and, Option.toList_some, Option.toList_none, List.cons_append, List.nil_append]
    rw [gX11_soonest_32]
    refine ⟨by simp only [ty_82], ?_⟩
    refine m_beginsAs (mk := mk) (onN := onN) (bk := bk) hvl hpm3 (by omega) hMW3 (fun M4 hF4 hN4 => ?_)
    simp only [Option.toList_some, Option.toList_none, List.cons_append, List.nil_append]
    rw [gX11_soonest_35]
    refine ⟨by simp only [ty_82], ?_⟩
    refine m_soonestTo k1 k2 hB (by omega) (by omega) (okA_0 hvl) hc36 (PM_fn hF4 hpm3) (ME_fn hF4 hE3) hN4 (fun M5 hF5 h24 => ?_)
    have hI5 := INV_fn (hF4.trans hF5) hI3
    simp only [Option.toList_some, Option.toList_none, List.cons_append, List.nil_append]
    rw [gX11_soonest_40]
    by_cases hc : c = 0
    · rw [if_pos hc]
      exact ⟨by rw [hz0 hc], hI5⟩
    · rw [if_neg hc]
      refine ⟨by simp only [ty_82], ?_⟩
      rw [h24]
      exact ⟨by rw [hz1 hc], hI5⟩
  by_cases hc : c = 0
  · rw [if_pos hc]
    refine ⟨_, rfl, ?_⟩
    exact ref M2 hF12 hQ2.2.2.2.2 _ (fun _ => rfl) (fun h => absurd hc h)
  · rw [if_neg hc]
    refine ⟨by simp only [ty_21], ?_⟩
    have hWK2 := WK_58 hF12 (by omega) hWK
    rcases sn_sf (P := fun t => anyW (rq anyS mk kd v onN bk (bt % (onN + bk)) gn (A0s cc f cm) t) c0) (fsG mk kd v onN bk (bt % (onN + bk)) gn (A0s cc f cm) c0) 61 0 with ⟨e1, e2⟩ | ⟨u, u1, u2, u3, e1, e2⟩
    · have e1' : sn (fun t => anyW (rq anyS mk kd v onN bk (bt % (onN + bk)) gn (fun c2 f2 w2 => c2 = cc ∧ f2 = f ∧ w2 = cm) t) c0) 61 0 = -5 := e1
      rw [e1', s_first_no (by decide)]
      simp only [Option.toList_some, Option.toList_none, List.cons_append, List.nil_append]
      rw [gX10_soonest_75]
      refine ⟨_, rfl, ?_⟩
      exact ref M2 hF12 hQ2.2.2.2.2 _ (fun h => absurd h hc) (fun _ => e2.symm)
    · have e1' : sn (fun t => anyW (rq anyS mk kd v onN bk (bt % (onN + bk)) gn (fun c2 f2 w2 => c2 = cc ∧ f2 = f ∧ w2 = cm) t) c0) 61 0 = vI u := e1
      rw [e1']
      by_cases hu : u = 0
      · subst hu
        rw [s_first_no (by decide)]
        simp only [Option.toList_some, Option.toList_none, List.cons_append, List.nil_append]
        rw [gX10_soonest_75]
        refine ⟨_, rfl, ?_⟩
        exact ref M2 hF12 hQ2.2.2.2.2 _ (fun h => absurd h hc) (fun _ => e2.symm)
      · refine s_first k1 k2 (by omega) (by omega) hvl (by omega) hc36 (by omega) (by omega) hQ2 hWK2 (fun M3 hF3 hO3 => ?_)
        simp only [Option.toList_some, Option.toList_none, List.cons_append, List.nil_append]
        rw [gX10_soonest_75]
        refine ⟨_, rfl, ?_⟩
        exact ref M3 (hF12.trans hF3) hO3 _ (fun h => absurd h hc) (fun _ => by rw [e2, fsG, if_neg hu])
/-- the reference's within -/
theorem p_reached (hI : INV MZ n M) (hn : n ≤ 512) (a b : Int32) : PRL MZ (d + 12) n kX10_reached kX11_reached [.int a, .int b] M := by
  have hp := hI.1
  have hpm := hI.2.1
  obtain ⟨nw, hn6, hc0, hm0, hW⟩ := INV_nw hI
  obtain ⟨p, onN, bk, mk, hld, hL, hE, hB⟩ := INV_land hI
  have hI1 := INV_mono hI
  unfold PRL
  rw [eX10_reached]
  simp only [ty_21, pc_21_1 hp, ty_33, true_and, and_true, Option.some.injEq, exists_eq_left']
  cases hA : inR a nw with
  | false =>
    rw [s_who_f hp hc0 hn6 hA]
    simp only [Option.toList_some, Option.toList_none, List.cons_append, List.nil_append]
    rw [gX10_reached_8]
    simp only [Option.elim_none]
    refine ⟨_, rfl, ?_⟩
    rw [eX11_reached, m_isWalker hpm (by omega) hm0, hA]
    simp only [ty_82, true_and, Option.toList_some, Option.toList_none, List.cons_append, List.nil_append]
    rw [gX11_reached_5, if_pos (by decide)]
    exact ⟨rfl, hI1⟩
  | true =>
  obtain ⟨w, hw, rfl⟩ := inR_get hA
  rw [s_who_t hp hc0 hn6 hw]
  simp only [Option.toList_some, Option.toList_none, List.cons_append, List.nil_append]
  rw [gX10_reached_8]
  simp only [Option.elim_some, rf_some]
  have bad : inR b 61 = false → ∃ v : Int64, some (Value.long (-9223372036854775808)) = some (.long v) ∧ CL (d + 12) kX11_reached [.ref 82, .int (vI w), .int b] M (fun r2 M2 => r2 = some (.long v) ∧ INV MZ (n + 1) M2) := by
    intro hA2
    refine ⟨_, rfl, ?_⟩
    rw [eX11_reached, m_isWalker hpm (by omega) hm0, hA]
    simp only [ty_82, true_and, Option.toList_some, Option.toList_none, List.cons_append, List.nil_append]
    rw [gX11_reached_5, if_neg (by decide), show (61 : Int32) = vI 61 from rfl, m_isIn (by decide), hA2]
    simp only [Option.toList_some, Option.toList_none, List.cons_append, List.nil_append]
    rw [gX11_reached_14, if_pos (by decide)]
    exact ⟨rfl, hI1⟩
  by_cases hb0 : b < 0
  · rw [if_pos hb0]
    exact bad (inR_neg hb0)
  · obtain ⟨N, hN, rfl⟩ := inR_pos hb0
    rw [if_neg hb0]
    by_cases hN60 : 60 < N
    · rw [if_pos (by rw [lt_ln (by omega) (by decide)]; exact hN60)]
      exact bad (by rw [inR_vI hN]; exact decide_eq_false (by omega))
    · rw [if_neg (by rw [lt_ln (by omega) (by decide)]; exact hN60)]
      obtain ⟨kd, v, cc, f, bt, gn, cm, k1, k2, k3, k4, hvl, hWK, hMW⟩ := hW w hw
      refine ⟨by simp only [ty_21], ?_⟩
      refine s_within k1 k2 (by omega) (by omega) hvl (by omega) (by omega) (QC_inv hI hld hL hB) hWK (fun M3 hF3 hO3 => ?_)
      simp only [Option.toList_some, Option.toList_none, List.cons_append, List.nil_append]
      rw [gX10_reached_35]
      refine ⟨_, rfl, ?_⟩
      have hI3 := INV_fm hF3 Sq_58 hO3 hI1
      have hpm3 := PM_58 hF3 Sq_58 hpm
      have hE3 := ME_58 hF3 Sq_58 hE
      have hMW3 := MW_58 hF3 Sq_58 hMW
      rw [eX11_reached, m_isWalker hpm3 (by omega) (show mI M3 83 0 = vI nw by rw [r83_58 hF3 Sq_58]; exact hm0), hA]
      simp only [ty_82, true_and, Option.toList_some, Option.toList_none, List.cons_append, List.nil_append]
      rw [gX11_reached_5, if_neg (by decide), show (61 : Int32) = vI 61 from rfl, m_isIn (by decide), inR_vI hN, decide_eq_true (show N < 61 by omega)]
      simp only [Option.toList_some, Option.toList_none, List.cons_append, List.nil_append]
      rw [gX11_reached_14, if_neg (by decide)]
      refine ⟨by simp only [ty_82], ?_⟩
      refine m_within k1 k2 hB (by omega) (by omega) hvl (by omega) (by omega) hpm3 hE3 hMW3 (fun M5 hF5 => ?_)
      simp only [Option.toList_some, Option.toList_none, List.cons_append, List.nil_append]
      rw [gX11_reached_23]
      exact ⟨rfl, INV_fn hF5 hI3⟩
theorem m_never_loop {p onN bk : Nat} {mk : Nat → Nat → Prop} {Q : Option Value → MM → Prop} (hp : PM M) (hE : ME M onN bk mk) (P : Nat → Prop) (l1 : Int32) : ∀ m i : Nat, i + m = 36 → WP (d + 1) kX11_never (31, [.ref 82, .int l1, .long (zb (fun c => P c ∧ (c < i → ¬ mk 0 c))), dm, .int (vI i)], [], M) Q = Q (some (.long (zb (fun c => P c ∧ ¬ mk 0 c)))) M := by
  intro m
  induction m with
  | zero =>
    intro i hi
    obtain rfl : i = 36 := by omega
    rw [gX11_never_31, if_neg (by decide)]
    exact qL (zb_congr fun c hc => ⟨fun h => ⟨h.1, h.2 hc⟩, fun h => ⟨h.1, fun _ => h.2⟩⟩)
  | succ m ih =>
    intro i hi
    rw [gX11_never_31, if_pos (by rw [lt_nl (by omega) (by decide)]; omega), show (0 : Int32) = vI 0 from rfl, m_isMarked hp hE (by omega) (by decide)]
    simp only [ty_82, true_and, Option.toList_some, Option.toList_none, List.cons_append, List.nil_append]
    rw [gX11_never_45, zb_one (by omega), zb_diff, add_nl]
    by_cases h : mk 0 i
    · rw [pB_T h, if_neg (by decide), zb_congr (q := fun c => P c ∧ (c < i + 1 → ¬ mk 0 c)) (fun c _ => ?_), ih (i + 1) (by omega)]
      constructor
      · rintro ⟨⟨h1, h2⟩, h3⟩
        exact ⟨h1, fun h4 => h2 (by omega)⟩
      · rintro ⟨h1, h2⟩
        exact ⟨⟨h1, fun h4 => h2 (by omega)⟩, fun h4 => h2 (by omega) (h4 ▸ h)⟩
    · rw [pB_F h, if_pos (by decide), zb_congr (q := fun c => P c ∧ (c < i + 1 → ¬ mk 0 c)) (fun c _ => ?_), ih (i + 1) (by omega)]
      constructor
      · rintro ⟨h1, h2⟩
        refine ⟨h1, fun h4 => ?_⟩
        by_cases e : c = i
        · rw [e]; exact h
        · exact h2 (by omega)
      · rintro ⟨h1, h2⟩
        exact ⟨h1, fun h4 => h2 (by omega)⟩
theorem p_never (hI : INV MZ n M) (hn : n ≤ 512) (a : Int32) : PRL MZ (d + 12) n kX10_never kX11_never [.int a] M := by
  have hp := hI.1
  have hpm := hI.2.1
  obtain ⟨nw, hn6, hc0, hm0, hW⟩ := INV_nw hI
  obtain ⟨p, onN, bk, mk, hld, hL, hE, hB⟩ := INV_land hI
  have hI1 := INV_mono hI
  unfold PRL
  rw [eX10_never]
  simp only [ty_21, pc_21_1 hp, ty_33, true_and, and_true, Option.some.injEq, exists_eq_left']
  cases hA : inR a nw with
  | false =>
    rw [s_who_f hp hc0 hn6 hA]
    simp only [Option.toList_some, Option.toList_none, List.cons_append, List.nil_append]
    rw [gX10_never_8]
    simp only [Option.elim_none]
    refine ⟨_, rfl, ?_⟩
    rw [eX11_never, m_isWalker hpm (by omega) hm0, hA]
    simp only [ty_82, true_and, Option.toList_some, Option.toList_none, List.cons_append, List.nil_append]
    rw [gX11_never_5, if_pos (by decide)]
    exact ⟨rfl, hI1⟩
  | true =>
  obtain ⟨w, hw, rfl⟩ := inR_get hA
  rw [s_who_t hp hc0 hn6 hw]
  simp only [Option.toList_some, Option.toList_none, List.cons_append, List.nil_append]
  rw [gX10_never_8]
  simp only [Option.elim_some, rf_some]
  obtain ⟨kd, v, cc, f, bt, gn, cm, k1, k2, k3, k4, hvl, hWK, hMW⟩ := hW w hw
  simp only [ty_21, pc_21_1 hp, ty_33, hld, hL.1, true_and, and_true, Option.some.injEq, exists_eq_left']
  rw [show mL M p 2 = zb (mk 0) from hL.2.2.2.1 0 (by decide)]
  refine s_within (N := 60) k1 k2 (by omega) (by omega) hvl (by omega) (by omega) (QC_inv hI hld hL hB) hWK (fun M3 hF3 hO3 => ?_)
  simp only [Option.toList_some, Option.toList_none, List.cons_append, List.nil_append]
  rw [gX10_never_44]
  refine ⟨_, rfl, ?_⟩
  have hI3 := INV_fm hF3 Sq_58 hO3 hI1
  have hpm3 := PM_58 hF3 Sq_58 hpm
  have hE3 := ME_58 hF3 Sq_58 hE
  have hMW3 := MW_58 hF3 Sq_58 hMW
  rw [eX11_never, m_isWalker hpm3 (by omega) (show mI M3 83 0 = vI nw by rw [r83_58 hF3 Sq_58]; exact hm0), hA]
  simp only [ty_82, true_and, Option.toList_some, Option.toList_none, List.cons_append, List.nil_append]
  rw [gX11_never_5, if_neg (by decide)]
  refine ⟨by simp only [ty_82], ?_⟩
  refine m_within (N := 60) k1 k2 hB (by omega) (by omega) hvl (by omega) (by omega) hpm3 hE3 hMW3 (fun M5 hF5 => ?_)
  simp only [Option.toList_some, Option.toList_none, List.cons_append, List.nil_append]
  rw [gX11_never_22, zb_not, zb_not, zb_diff]
  rw [zb_congr (p := fun i => ¬ ∃ u : Nat, u ≤ 60 ∧ anyW (rq anyS mk kd v onN bk (bt % (onN + bk)) gn (fun c2 f2 w2 => c2 = cc ∧ f2 = f ∧ w2 = cm) u) i) (q := fun c => (¬ ∃ u : Nat, u ≤ 60 ∧ anyW (rq anyS mk kd v onN bk (bt % (onN + bk)) gn (fun c2 f2 w2 => c2 = cc ∧ f2 = f ∧ w2 = cm) u) c) ∧ (c < 0 → ¬ mk 0 c)) (fun c _ => ⟨fun h => ⟨h, fun h2 => absurd h2 (Nat.not_lt_zero c)⟩, fun h => h.1⟩)]
  have h0 := m_never_loop (p := p) (d := d + 11) (Q := fun r2 M2 => r2 = some (.long (zb (fun i => ¬ mk 0 i ∧ ¬ ∃ u : Nat, u ≤ 60 ∧ anyW (rq anyS mk kd v onN bk (bt % (onN + bk)) gn (A0s cc f cm) u) i))) ∧ INV MZ (n + 1) M2) (PM_fn hF5 hpm3) (ME_fn hF5 hE3) (fun c => ¬ ∃ u : Nat, u ≤ 60 ∧ anyW (rq anyS mk kd v onN bk (bt % (onN + bk)) gn (fun c2 f2 w2 => c2 = cc ∧ f2 = f ∧ w2 = cm) u) c) (vI w) 36 0 rfl
  refine h0.mpr ⟨?_, INV_fn hF5 hI3⟩
  exact congrArg (fun z => some (Value.long z)) (zb_congr fun c _ => and_comm)
end PS
