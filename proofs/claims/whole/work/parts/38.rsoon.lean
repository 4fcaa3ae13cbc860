/-! ===== 38: the reference's start; soonest; within ===== -/
def MW (M : MM) (w kd v c f bt gn cm : Nat) : Prop := mI M 83 (4 + 7 * w + 0) = vI kd ∧ mI M 83 (4 + 7 * w + 1) = vI v ∧ mI M 83 (4 + 7 * w + 2) = vI c ∧ mI M 83 (4 + 7 * w + 3) = vI f ∧ mI M 83 (4 + 7 * w + 4) = vI bt ∧ mI M 83 (4 + 7 * w + 5) = vI (nxc c cm) ∧ mI M 83 (4 + 7 * w + 6) = vI gn
theorem MW_fn {M M' : MM} {w kd v c f bt gn cm : Nat} (h : FN M M') (hW : MW M w kd v c f bt gn cm) : MW M' w kd v c f bt gn cm := by
  unfold MW at hW ⊢
  rw [(h.2.1 83 (by decide) (by decide)).1]; exact hW
/-- the first number of n from t on for which it is so decides -/
noncomputable def sf (P : Nat → Prop) (G : Nat → Int32) : Nat → Nat → Int32
  | 0, _ => -5
  | n + 1, t => @ite _ (P t) (Classical.propDecidable _) (G t) (sf P G n (t + 1))
theorem sf_t {P : Nat → Prop} {G : Nat → Int32} {n t : Nat} (h : P t) : sf P G (n + 1) t = G t := by rw [sf, if_pos h]
theorem sf_f {P : Nat → Prop} {G : Nat → Int32} {n t : Nat} (h : ¬ P t) : sf P G (n + 1) t = sf P G n (t + 1) := by rw [sf, if_neg h]
theorem sn_sf {P : Nat → Prop} (G : Nat → Int32) : ∀ n t : Nat, (sn P n t = -5 ∧ sf P G n t = -5) ∨ (∃ u : Nat, t ≤ u ∧ u < t + n ∧ P u ∧ sn P n t = vI u ∧ sf P G n t = G u)
  | 0, _ => Or.inl ⟨rfl, rfl⟩
  | n + 1, t => by
    by_cases h : P t
    · exact Or.inr ⟨t, by omega, by omega, h, sn_t h, sf_t h⟩
    · rw [sn_f h, sf_f h]
      rcases sn_sf G n (t + 1) with h2 | ⟨u, h2, h3, h4⟩
      · exact Or.inl h2
      · exact Or.inr ⟨u, by omega, by omega, h4⟩
/-- the first step of those that come to c behind t beats -/
noncomputable def fsG (mk : Nat → Nat → Prop) (kd v onN bk b0 g0 : Nat) (A0 : Nat → Nat → Nat → Prop) (c t : Nat) : Int32 :=
  if t = 0 then -5 else sn (fun a => anyW (rq (fstS a) mk kd v onN bk b0 g0 A0 t) c) 6 0
section Soon
variable {d : Nat} {M : MM} {Q : Option Value → MM → Prop} {onN bk : Nat} {mk : Nat → Nat → Prop} {kd v b0 g0 t : Nat} {A0 : Nat → Nat → Nat → Prop}
def S92b (a : Nat) : Prop := a = 90 ∨ a = 92
theorem m_bg30 (l1 l2 l3 l4 l5 l6 l7 : Int32) : ∀ n i : Nat, i + n = 5184 → ∀ M : MM, PM M → (∀ j : Nat, j < i → mI M 90 j = 0 ∧ mL M 92 j = 0) →
    (∀ M' : MM, FM S92 M M' → (∀ j : Nat, j < 5184 → mI M' 90 j = 0 ∧ mL M' 92 j = 0) → WP (d + 1) kX11_begins (30, [.ref 82, .int l1, .int l2, .int l3, .int l4, .int l5, .int l6, .int l7, .int 5184], [], M') Q) →
    WP (d + 1) kX11_begins (30, [.ref 82, .int l1, .int l2, .int l3, .int l4, .int l5, .int l6, .int l7, .int (vI i)], [], M) Q := by
  intro n
  induction n with
  | zero =>
    intro i hi M hp h0 h
    obtain rfl : i = 5184 := by omega
    exact h M (FM.refl _ _) h0
  | succ n ih =>
    intro i hi M hp h0 h
    rw [gX11_begins_30, if_pos (show vI i < 5184 by rw [lt_nl (by omega) (by decide)]; omega)]
    simp (disch := omega) only [ty_82, pm_15 hp, pm_17 hp, ty_90, ty_92, inb_n, vI_cl, add_nl, true_and, and_true, Option.some.injEq, exists_eq_left']
    refine ⟨by omega, by omega, ?_⟩
    have hF : FM S92 M (sL (sI M 90 i 0) 92 i 0) := FM.trans (fr_sI (Or.inl rfl)) (fr_sL (Or.inr rfl))
    refine ih (i + 1) (by omega) _ (PM_fr hF (by unfold S92; omega) hp) (fun j hj => ?_) (fun M' h1 h2 => h M' (hF.trans h1) h2)
    show mI (sI M 90 i 0) 90 j = 0 ∧ mL (sL M 92 i 0) 92 j = 0
    by_cases e : j = i
    · subst e; exact ⟨aI_sI _ _ _ _, aL_sL _ _ _ _⟩
    · rw [bI_sI e, bL_sL e]; exact h0 j (by omega)
theorem m_beginsW {c f w : Nat} (hvl : vld c f w) (hp : PM M)
    (h : ∀ M' : MM, FN M M' → NowT M' mk kd v onN bk b0 g0 (fun c2 f2 w2 => c2 = c ∧ f2 = f ∧ w2 = w) 0 → (∀ j : Nat, j < 5184 → mL M' 92 j = if j = phi c f w then 1 else 0) → Q none M') :
    CL (d + 1) kX11_begins [.ref 82, .int (vI kd), .int (vI v), .int (vI c), .int (vI f), .int (vI (nxc c w)), .int (vI b0), .int (vI g0)] M Q := by
  have hph := phi_lt hvl
  have hnx := vld_nx hvl
  have h36 := hvl.1
  have h4 := hvl.2.1
  rw [eX11_begins]
  refine ⟨by simp only [ty_82], ?_⟩
  have hF0 : FN M (sI (sI (sI (sI (sI M 82 19 (vI kd)) 82 20 (vI v)) 82 21 (vI b0)) 82 22 (vI g0)) 82 23 0) := ((((FN.s82 (by decide)).trans (FN.s82 (by decide))).trans (FN.s82 (by decide))).trans (FN.s82 (by decide))).trans (FN.s82 (by decide))
  have hS0 : MsF (sI (sI (sI (sI (sI M 82 19 (vI kd)) 82 20 (vI v)) 82 21 (vI b0)) 82 22 (vI g0)) 82 23 0) kd v b0 g0 0 := by
    refine ⟨?_, ?_, ?_, ?_, aI_sI _ _ _ _⟩
    · rw [bI_sI (by decide), bI_sI (by decide), bI_sI (by decide), bI_sI (by decide), aI_sI]
    · rw [bI_sI (by decide), bI_sI (by decide), bI_sI (by decide), aI_sI]
    · rw [bI_sI (by decide), bI_sI (by decide), aI_sI]
    · rw [bI_sI (by decide), aI_sI]
  refine m_bg30 _ _ _ _ _ _ _ 5184 0 rfl _ (PM_fn hF0 hp) (fun j hj => absurd hj (Nat.not_lt_zero j)) (fun M1 hF1 h01 => ?_)
  have hp1 := PM_fr hF1 (by unfold S92; omega) (PM_fn hF0 hp)
  have hS1 := MsF_fr hF1 (by unfold S92; omega) hS0
  have eph : (vI c * 4 + vI f) * 36 + vI (nxc c w) = vI (phi c f w) := by
    rw [mul_nl, vI_add, mul_nl, vI_add]; rfl
  rw [gX11_begins_30, if_neg (by decide)]
  simp only [eX11_stateOf, eph, ty_82, pm_15 hp1, pm_17 hp1, rf_some, true_and, Option.toList_some, Option.toList_none, List.cons_append, List.nil_append]
  rw [gX11_begins_72]
  simp (disch := omega) only [ty_82, ty_90, inb_n, vI_cl, true_and]
  refine ⟨hph, ?_⟩
  simp only [eX11_stateOf, eph, Option.toList_some, Option.toList_none, List.cons_append, List.nil_append]
  rw [pm_17 hp1, rf_some, gX11_begins_87]
  simp (disch := omega) only [ty_92, inb_n, vI_cl, true_and]
  refine ⟨hph, ?_⟩
  have hF2 : FM S92 M1 (sL (sI M1 90 (phi c f w) 64) 92 (phi c f w) 1) := FM.trans (fr_sI (Or.inl rfl)) (fr_sL (Or.inr rfl))
  refine h _ (hF0.trans ((FN.of hF1 (by unfold S92; omega)).trans (FN.of hF2 (by unfold S92; omega)))) ⟨MsF_fr hF2 (by unfold S92; omega) hS1, ?_, ?_, ?_, ?_, ?_⟩ (fun j hj => ?_)
  · intro c1 f1 w1 hv1
    rw [Vt_0]
    show mI (sI M1 90 (phi c f w) 64) 90 (phi c1 f1 w1) = _
    by_cases e : phi c1 f1 w1 = phi c f w
    · rw [e, aI_sI, eB_t (phi_inj hv1 hvl e)]; rfl
    · rw [bI_sI e, (h01 _ (phi_lt hv1)).1, eB_f (fun h => e (by rw [h.1, h.2.1, h.2.2]))]; rfl
  · intro k hk hno
    show mI (sI M1 90 (phi c f w) 64) 90 k = _
    rw [bI_sI (hno c f w hvl)]; exact (h01 k hk).1
  · intro c1 f1 w1 hv1 hne
    have h0 := (Vt_ne c1 f1 w1).mp hne
    obtain ⟨rfl, rfl, rfl⟩ := h0
    rw [aL_sL]
    show (1 : Int64) = vL (eB _)
    rw [eB_t ⟨rfl, rfl, rfl⟩]; rfl
  · intro c1 f1 w1 hv1 h0
    rw [Vt_0] at h0
    rcases Nat.mul_eq_zero.mp h0 with h1 | h1
    · exact absurd h1 (by decide)
    · exact h1
  · intro c1 f1 w1 hv1
    rw [Vt_0]
    exact Nat.lt_of_le_of_lt (Nat.mul_le_mul_left 64 (eB_le _)) (by decide)
  · show mL (sL M1 92 (phi c f w) 1) 92 j = _
    by_cases e : j = phi c f w
    · rw [if_pos e, e, aL_sL]
    · rw [if_neg e, bL_sL e]; exact (h01 j hj).2
theorem m_begins {c f w : Nat} (hvl : vld c f w) (hp : PM M)
    (h : ∀ M' : MM, FN M M' → NowT M' mk kd v onN bk b0 g0 (fun c2 f2 w2 => c2 = c ∧ f2 = f ∧ w2 = w) 0 → Q none M') :
    CL (d + 1) kX11_begins [.ref 82, .int (vI kd), .int (vI v), .int (vI c), .int (vI f), .int (vI (nxc c w)), .int (vI b0), .int (vI g0)] M Q :=
  m_beginsW (mk := mk) (onN := onN) (bk := bk) hvl hp (fun M' h1 h2 _ => h M' h1 h2)
theorem m_beginsAsW {w bt c f gn cm : Nat} (hvl : vld c f cm) (hp : PM M) (hw : w < 6) (hW : MW M w kd v c f bt gn cm)
    (h : ∀ M' : MM, FN M M' → NowT M' mk kd v onN bk b0 gn (fun c2 f2 w2 => c2 = c ∧ f2 = f ∧ w2 = cm) 0 → (∀ j : Nat, j < 5184 → mL M' 92 j = if j = phi c f cm then 1 else 0) → Q none M') :
    CL (d + 2) kX11_beginsAs [.ref 82, .int (vI w), .int (vI b0)] M Q := by
  obtain ⟨w0, w1, w2, w3, w4, w5, w6⟩ := id hW
  rw [eX11_beginsAs, show (0 : Int32) = vI 0 from rfl, m_get hp hw (by decide)]
  simp only [ty_82, true_and, Option.toList_some, Option.toList_none, List.cons_append, List.nil_append]
  rw [gX11_beginsAs_7, show (1 : Int32) = vI 1 from rfl, m_get hp hw (by decide)]
  simp only [ty_82, true_and, Option.toList_some, Option.toList_none, List.cons_append, List.nil_append]
  rw [gX11_beginsAs_13, show (2 : Int32) = vI 2 from rfl, m_get hp hw (by decide)]
  simp only [ty_82, true_and, Option.toList_some, Option.toList_none, List.cons_append, List.nil_append]
  rw [gX11_beginsAs_19, show (3 : Int32) = vI 3 from rfl, m_get hp hw (by decide)]
  simp only [ty_82, true_and, Option.toList_some, Option.toList_none, List.cons_append, List.nil_append]
  rw [gX11_beginsAs_25, show (5 : Int32) = vI 5 from rfl, m_get hp hw (by decide)]
  simp only [ty_82, true_and, Option.toList_some, Option.toList_none, List.cons_append, List.nil_append]
  rw [gX11_beginsAs_31, show (6 : Int32) = vI 6 from rfl, m_get hp hw (by decide)]
  simp only [ty_82, true_and, Option.toList_some, Option.toList_none, List.cons_append, List.nil_append]
  rw [gX11_beginsAs_39, w0, w1, w2, w3, w5, w6]
  refine ⟨by simp only [ty_82], ?_⟩
  refine m_beginsW (mk := mk) (onN := onN) (bk := bk) hvl hp (fun M' h1 h2 h3 => ?_)
  simp only [Option.toList_some, Option.toList_none, List.cons_append, List.nil_append]
  rw [gX11_beginsAs_42]
  exact h M' h1 h2 h3
theorem m_beginsAs {w bt c f gn cm : Nat} (hvl : vld c f cm) (hp : PM M) (hw : w < 6) (hW : MW M w kd v c f bt gn cm)
    (h : ∀ M' : MM, FN M M' → NowT M' mk kd v onN bk b0 gn (fun c2 f2 w2 => c2 = c ∧ f2 = f ∧ w2 = cm) 0 → Q none M') :
    CL (d + 2) kX11_beginsAs [.ref 82, .int (vI w), .int (vI b0)] M Q :=
  m_beginsAsW (mk := mk) (onN := onN) (bk := bk) hvl hp hw hW (fun M' h1 h2 _ => h M' h1 h2)
theorem m_so43 {p : Nat → Prop} (l1 : Value) (ht : 0 < t) (ht2 : t < 1000) : ∀ n s : Nat, s + n = 6 → ∀ M : MM, mI M 82 24 = vI s → (∃ b : Nat, s ≤ b ∧ b < 6 ∧ p b) →
    (∀ M' : MM, FN M M' → mI M' 82 24 = sn p n s → Q (some (.int (vI t))) M') →
    (∀ (l3 : Int32) (M : MM), WP (d + 1) kX11_soonestTo (43, [.ref 82, l1, .int (vI t), .int l3], [], M) Q = (if (0 : Int32) < vI t then ((TY 82).1 = 11 ∧ ((if ((iShr l3 (mI M 82 24)) &&& 1) = 0 then WP (d + 1) kX11_soonestTo (43, [.ref 82, l1, .int (vI t), .int l3], [], (sI M 82 24 ((mI M 82 24) + 1))) Q else Q (some (.int (vI t))) M))) else Q (some (.int (vI t))) M)) →
    WP (d + 1) kX11_soonestTo (43, [.ref 82, l1, .int (vI t), .int (vI (mb p 7))], [], M) Q := by
  intro n
  induction n with
  | zero =>
    intro s hs M h24 hb h e
    obtain ⟨b, h1, h2, -⟩ := hb
    omega
  | succ n ih =>
    intro s hs M h24 hb h e
    rw [e, if_pos (show (0 : Int32) < vI t by rw [lt_ln (by omega) (by decide)]; exact ht), h24]
    refine ⟨by simp only [ty_82], ?_⟩
    by_cases hps : p s
    · rw [if_neg (by rw [mb7_bit0 p (by omega)]; exact not_not_intro hps)]
      exact h M (FN.refl _) (by rw [sn_t hps]; exact h24)
    · rw [if_pos (by rw [mb7_bit0 p (by omega)]; exact hps), add_nl]
      obtain ⟨b, h1, h2, h3⟩ := hb
      have hne : ¬ b = s := fun he => hps (he ▸ h3)
      refine ih (s + 1) (by omega) _ (aI_sI _ _ _ _) ⟨b, by omega, h2, h3⟩ (fun M' g1 g2 => h M' ((FN.s82 (by decide)).trans g1) (by rw [sn_f hps]; exact g2)) e
theorem m_soon_loop (hkd : kd < 7) (hv : v < 10) (hB : bnL onN bk) (hb0 : b0 < 1000) (hg : g0 + 61 < 1000) (hA : okA A0) {c : Nat} (hc : c < 36) :
    ∀ n t : Nat, t + n = 61 → ∀ (M : MM) (l3 : Value), PM M → ME M onN bk mk → (0 < t → NowT M mk kd v onN bk b0 g0 A0 (t - 1)) → (t = 0 → NowT M mk kd v onN bk b0 g0 A0 0) →
    (∀ M' : MM, FN M M' → mI M' 82 24 = sf (fun t => anyW (rq anyS mk kd v onN bk b0 g0 A0 t) c) (fsG mk kd v onN bk b0 g0 A0 c) n t → Q (some (.int (sn (fun t => anyW (rq anyS mk kd v onN bk b0 g0 A0 t) c) n t))) M') →
    WP (d + 5) kX11_soonestTo (2, [.ref 82, .int (vI c), .int (vI t), l3], [], M) Q := by
  intro n
  induction n with
  | zero =>
    intro t ht M l3 hp hE hN hN0 h
    obtain rfl : t = 61 := by omega
    rw [gX11_soonestTo_2, if_pos (by decide)]
    exact ⟨by simp only [ty_82], h _ (FN.s82 (by decide)) (aI_sI _ _ _ _)⟩
  | succ n ih =>
    intro t ht M l3 hp hE hN hN0 h
    have q0 : ((0 : Int32) < vI t) = (0 < t) := lt_ln (by omega) (by decide)
    have q60 : ((60 : Int32) < vI t) = (60 < t) := lt_ln (by omega) (by decide)
    have qt : (vI t = 0) = (t = 0) := eq_nl (by omega) (by decide)
    have step : ∀ M1 : MM, FN M M1 → NowT M1 mk kd v onN bk b0 g0 A0 t → CL (d + 4) kX11_firstTo [.ref 82, .int (vI c)] M1 (fun v_ M_ => WP (d + 5) kX11_soonestTo (21, [.ref 82, .int (vI c), .int (vI t), l3], v_.toList ++ [], M_) Q) := by
      intro M1 hF1 hN1
      have hp1 := PM_fn hF1 hp
      have hE1 := ME_fn hF1 hE
      rw [m_firstTo hp1 hN1 hc]
      simp only [Option.toList_some, Option.toList_none, List.cons_append, List.nil_append]
      rw [gX11_soonestTo_21]
      have hl : mb (fun b => ∃ f w : Nat, vld c f w ∧ Pt mk kd v onN bk b0 g0 A0 t c f w b) 7 < 128 := mb_lt _ 7
      have qr : (vI (mb (fun b => ∃ f w : Nat, vld c f w ∧ Pt mk kd v onN bk b0 g0 A0 t c f w b) 7) = 0) = (mb (fun b => ∃ f w : Nat, vld c f w ∧ Pt mk kd v onN bk b0 g0 A0 t c f w b) 7 = 0) := eq_nl (by omega) (by decide)
      have hiff : ¬ mb (fun b => ∃ f w : Nat, vld c f w ∧ Pt mk kd v onN bk b0 g0 A0 t c f w b) 7 = 0 ↔ anyW (rq anyS mk kd v onN bk b0 g0 A0 t) c := by
        rw [mb_n0]
        constructor
        · rintro ⟨b, hb, f, w, h1, h2⟩
          exact ⟨f, w, h1.2.1, h1.2.2.1, (Vt_ne c f w).mp (mb_n0.mpr ⟨b, hb, h2⟩)⟩
        · rintro ⟨f, w, h1, h2, h3⟩
          obtain ⟨b, hb, h4⟩ := mb_n0.mp ((Vt_ne c f w).mpr h3)
          exact ⟨b, hb, f, w, okA_rq hA t c f w h3, h4⟩
      by_cases hz : anyW (rq anyS mk kd v onN bk b0 g0 A0 t) c
      · rw [if_neg (by rw [qr]; exact hiff.mpr hz)]
        by_cases h0 : t = 0
        · subst h0
          rw [if_pos (by decide)]
          refine ⟨by simp only [ty_82], ?_⟩
          rw [gX11_soonestTo_43, if_neg (by decide)]
          have h2 := h _ (hF1.trans (FN.s82 (k := 24) (v := -5) (by decide))) (by rw [aI_sI, sf_t (P := fun t => anyW (rq anyS mk kd v onN bk b0 g0 A0 t) c) hz]; rfl)
          rw [sn_t (P := fun t => anyW (rq anyS mk kd v onN bk b0 g0 A0 t) c) hz] at h2
          exact h2
        · rw [if_neg (by rw [qt]; exact h0)]
          refine ⟨by simp only [ty_82], ?_⟩
          have hP : ∀ b : Nat, b < 6 → ((∃ f w : Nat, vld c f w ∧ Pt mk kd v onN bk b0 g0 A0 t c f w b) ↔ anyW (rq (fstS b) mk kd v onN bk b0 g0 A0 t) c) := by
            intro b hb
            constructor
            · rintro ⟨f, w, h1, h2 | h2⟩
              · exact absurd h2.1 h0
              · exact ⟨f, w, h1.2.1, h1.2.2.1, h2.2.2⟩
            · rintro ⟨f, w, h1, h2, h3⟩
              exact ⟨f, w, okA_rq hA t c f w h3, Or.inr ⟨by omega, hb, h3⟩⟩
          refine m_so43 (p := fun b => ∃ f w : Nat, vld c f w ∧ Pt mk kd v onN bk b0 g0 A0 t c f w b) (.int (vI c)) (by omega) (by omega) 6 0 rfl _ (aI_sI _ _ _ _) ?_ (fun M' g1 g2 => ?_) (fun l3 M => gX11_soonestTo_43 _ _ _ _ _ _ _)
          · obtain ⟨b, hb, h4⟩ := mb_n0.mp (hiff.mpr hz)
            refine ⟨b, by omega, ?_, h4⟩
            obtain ⟨f, w, -, h5 | h5⟩ := h4
            · exact absurd h5.1 h0
            · exact h5.2.1
          · have h2 := h M' (hF1.trans ((FN.s82 (by decide)).trans g1)) (by
              rw [g2, sf_t (P := fun t => anyW (rq anyS mk kd v onN bk b0 g0 A0 t) c) hz, fsG, if_neg h0]
              exact sn_congr 6 0 (fun u _ hu => hP u (by omega)))
            rw [sn_t (P := fun t => anyW (rq anyS mk kd v onN bk b0 g0 A0 t) c) hz] at h2
            exact h2
      · rw [if_pos (by rw [qr]; exact Classical.byContradiction fun h => hz (hiff.mp h)), add_nl]
        refine ih (t + 1) (by omega) M1 _ hp1 hE1 (fun _ => hN1) (fun h => by omega) (fun M' g1 g2 => ?_)
        have h2 := h M' (hF1.trans g1) (by rw [g2, sf_f (P := fun t => anyW (rq anyS mk kd v onN bk b0 g0 A0 t) c) hz])
        rw [sn_f (P := fun t => anyW (rq anyS mk kd v onN bk b0 g0 A0 t) c) hz] at h2
        exact h2
    rw [gX11_soonestTo_2, if_neg (by rw [q60]; omega)]
    by_cases h0 : t = 0
    · rw [if_neg (by rw [q0]; omega)]
      refine ⟨by simp only [ty_82], ?_⟩
      exact step M (FN.refl _) (by rw [h0]; exact hN0 h0)
    · rw [if_pos (by rw [q0]; omega)]
      refine ⟨by simp only [ty_82], ?_⟩
      refine m_beat hkd hv hB hb0 (by omega) (by omega) hA hp hE (hN (by omega)) (fun M1 hF1 hN1 => ?_)
      simp only [Option.toList_some, Option.toList_none, List.cons_append, List.nil_append]
      rw [gX11_soonestTo_16]
      refine ⟨by simp only [ty_82], ?_⟩
      rw [show t - 1 + 1 = t by omega] at hN1
      exact step M1 hF1 hN1
theorem m_soonestTo (hkd : kd < 7) (hv : v < 10) (hB : bnL onN bk) (hb0 : b0 < 1000) (hg : g0 + 61 < 1000) (hA : okA A0) {c : Nat} (hc : c < 36)
    (hp : PM M) (hE : ME M onN bk mk) (hN : NowT M mk kd v onN bk b0 g0 A0 0)
    (h : ∀ M' : MM, FN M M' → mI M' 82 24 = sf (fun t => anyW (rq anyS mk kd v onN bk b0 g0 A0 t) c) (fsG mk kd v onN bk b0 g0 A0 c) 61 0 → Q (some (.int (sn (fun t => anyW (rq anyS mk kd v onN bk b0 g0 A0 t) c) 61 0))) M') :
    CL (d + 5) kX11_soonestTo [.ref 82, .int (vI c)] M Q := by
  rw [eX11_soonestTo]
  exact m_soon_loop hkd hv hB hb0 hg hA hc 61 0 rfl M _ hp hE (fun h => absurd h (by decide)) (fun _ => hN) h
/- all within so many beats -/
theorem m_within_loop (hkd : kd < 7) (hv : v < 10) (hB : bnL onN bk) (hb0 : b0 < 1000) (hg : g0 + 61 < 1000) (hA : okA A0) {N : Nat} (hN60 : N ≤ 60) (l1 : Value)
    (e18 : ∀ (l3 : Int64) (l5 : Int32) (M : MM), WP (d + 5) kX11_within (18, [.ref 82, l1, .int (vI N), .long l3, dm, .int l5], [], M) Q = (if l5 < vI N then ((TY 82).1 = 11 ∧ (CL (d + 4) kX11_goesBeat [.ref 82] M (fun v_ M_ => WP (d + 5) kX11_within (28, [.ref 82, l1, .int (vI N), .long l3, dm, .int l5], v_.toList ++ [], M_) Q))) else Q (some (.long l3)) M))
    (e28 : ∀ (l3 : Int64) (l5 : Int32) (M : MM), WP (d + 5) kX11_within (28, [.ref 82, l1, .int (vI N), .long l3, dm, .int l5], [], M) Q = ((TY 82).1 = 11 ∧ (CL (d + 4) kX11_cellsNow [.ref 82] M (fun v_ M_ => WP (d + 5) kX11_within (33, [.ref 82, l1, .int (vI N), .long l3, dm, .int l5], v_.toList ++ [.long l3], M_) Q))))
    (e33 : ∀ (l3 : Int64) (l5 : Int32) (s0 r : Int64) (M : MM), WP (d + 5) kX11_within (33, [.ref 82, l1, .int (vI N), .long l3, dm, .int l5], [.long r, .long s0], M) Q = WP (d + 5) kX11_within (18, [.ref 82, l1, .int (vI N), .long (s0 ||| r), dm, .int (l5 + 1)], [], M) Q) :
    ∀ n t : Nat, t + n = N → ∀ M : MM, PM M → ME M onN bk mk → NowT M mk kd v onN bk b0 g0 A0 t →
    (∀ M' : MM, FN M M' → Q (some (.long (zb (fun c => ∃ u : Nat, u ≤ N ∧ anyW (rq anyS mk kd v onN bk b0 g0 A0 u) c)))) M') →
    WP (d + 5) kX11_within (18, [.ref 82, l1, .int (vI N), .long (zb (fun c => ∃ u : Nat, u ≤ t ∧ anyW (rq anyS mk kd v onN bk b0 g0 A0 u) c)), dm, .int (vI t)], [], M) Q := by
  intro n
  induction n with
  | zero =>
    intro t ht M hp hE hN h
    obtain rfl : t = N := by omega
    rw [e18, if_neg (by rw [vI_lt (by omega) (by omega)]; omega)]
    exact h M (FN.refl _)
  | succ n ih =>
    intro t ht M hp hE hN h
    rw [e18, if_pos (by rw [vI_lt (by omega) (by omega)]; omega)]
    refine ⟨by simp only [ty_82], ?_⟩
    refine m_beat hkd hv hB hb0 (by omega) (by omega) hA hp hE hN (fun M1 hF1 hN1 => ?_)
    simp only [Option.toList_some, Option.toList_none, List.cons_append, List.nil_append]
    rw [e28, m_cellsNow (PM_fn hF1 hp) hA hN1]
    refine ⟨by simp only [ty_82], ?_⟩
    simp only [Option.toList_some, Option.toList_none, List.cons_append, List.nil_append]
    rw [e33, zb_or, add_nl, zb_congr (q := fun c => ∃ u : Nat, u ≤ t + 1 ∧ anyW (rq anyS mk kd v onN bk b0 g0 A0 u) c) (fun c _ => ?_)]
    · exact ih (t + 1) (by omega) M1 (PM_fn hF1 hp) (ME_fn hF1 hE) hN1 (fun M' h1 => h M' (hF1.trans h1))
    · constructor
      · rintro (⟨u, h1, h2⟩ | h2)
        · exact ⟨u, by omega, h2⟩
        · exact ⟨t + 1, by omega, h2⟩
      · rintro ⟨u, h1, h2⟩
        by_cases e : u = t + 1
        · subst e; exact Or.inr h2
        · exact Or.inl ⟨u, by omega, h2⟩
theorem m_within {w bt c f cm N : Nat} (hkd : kd < 7) (hv : v < 10) (hB : bnL onN bk) (hbt : bt < 1000) (hg : g0 + 61 < 1000) (hvl : vld c f cm) (hw : w < 6) (hN60 : N ≤ 60)
    (hp : PM M) (hE : ME M onN bk mk) (hW : MW M w kd v c f bt g0 cm)
    (h : ∀ M' : MM, FN M M' → Q (some (.long (zb (fun c2 => ∃ u : Nat, u ≤ N ∧ anyW (rq anyS mk kd v onN bk (bt % (onN + bk)) g0 (fun c2 f2 w2 => c2 = c ∧ f2 = f ∧ w2 = cm) u) c2)))) M') :
    CL (d + 5) kX11_within [.ref 82, .int (vI w), .int (vI N)] M Q := by
  have hb8 : bt % (onN + bk) < 1000 := Nat.lt_of_le_of_lt (Nat.mod_le _ _) hbt
  have hA : okA (fun c2 f2 w2 => c2 = c ∧ f2 = f ∧ w2 = cm) := by rintro c2 f2 w2 ⟨rfl, rfl, rfl⟩; exact hvl
  rw [eX11_within, m_beatOf hp hE hB hw hW.2.2.2.2.1 (by omega)]
  simp only [ty_82, true_and, Option.toList_some, Option.toList_none, List.cons_append, List.nil_append]
  rw [gX11_within_7]
  refine ⟨by simp only [ty_82], ?_⟩
  refine m_beginsAs (mk := mk) (onN := onN) (bk := bk) hvl hp hw hW (fun M1 hF1 hN1 => ?_)
  have hp1 := PM_fn hF1 hp
  simp only [Option.toList_some, Option.toList_none, List.cons_append, List.nil_append]
  rw [gX11_within_10, m_cellsNow hp1 hA hN1]
  simp only [ty_82, true_and, Option.toList_some, Option.toList_none, List.cons_append, List.nil_append]
  rw [gX11_within_14, zb_congr (q := fun c2 => ∃ u : Nat, u ≤ 0 ∧ anyW (rq anyS mk kd v onN bk (bt % (onN + bk)) g0 (fun c2 f2 w2 => c2 = c ∧ f2 = f ∧ w2 = cm) u) c2) (fun c2 _ => ⟨fun h => ⟨0, by omega, h⟩, fun ⟨u, h1, h2⟩ => by
    obtain rfl : u = 0 := by omega
    exact h2⟩)]
  exact m_within_loop hkd hv hB hb8 hg hA hN60 (.int (vI w)) (fun l3 l5 M => gX11_within_18 _ _ _ _ _ _ _ _) (fun l3 l5 M => gX11_within_28 _ _ _ _ _ _ _ _) (fun l3 l5 s0 r M => gX11_within_33 _ _ _ _ _ _ _ _ _ _) N 0 (by omega) M1 hp1 (ME_fn hF1 hE) hN1 (fun M' h1 => h M' (hF1.trans h1))
end Soon
