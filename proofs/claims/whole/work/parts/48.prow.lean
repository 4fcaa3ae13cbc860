/-! ===== 48: tape, row, track on both sides ===== -/
theorem vI_m1 {s : Nat} (hs : s < 2147483648) : (vI s < -1) = False := by
  have e1 : (vI s).toInt = s := Int32.toInt_ofNat_of_lt hs
  rw [Int32.lt_iff_toInt_lt, e1, show (-1 : Int32).toInt = -1 from rfl]
  exact eq_false (by omega)
theorem int_cases (a : Int32) : a < -1 ∨ a = -1 ∨ ∃ s : Nat, s < 2147483648 ∧ a = vI s := by
  by_cases h : a < 0
  · by_cases h2 : a < -1
    · exact Or.inl h2
    · refine Or.inr (Or.inl (Int32.toInt_inj.1 ?_))
      rw [Int32.lt_iff_toInt_lt] at h h2
      have e1 : (-1 : Int32).toInt = -1 := rfl
      have e2 : (0 : Int32).toInt = 0 := rfl
      rw [e1] at h2 ⊢
      rw [e2] at h
      omega
  · exact Or.inr (Or.inr (inR_pos h))
theorem lt_m1 {a : Int32} (h : a < -1) : a < 0 := by
  rw [Int32.lt_iff_toInt_lt] at h ⊢
  have e1 : (-1 : Int32).toInt = -1 := rfl
  have e2 : (0 : Int32).toInt = 0 := rfl
  rw [e1] at h; rw [e2]; omega
section Row
variable {MZ M : MM} {n d : Nat} {Q : Option Value → MM → Prop}
theorem m_tape_loop (l2 l3 : Int32) {t : Nat} (ht : t < 6) : ∀ m j : Nat, j + m = 60 → ∀ M1 : MM, PM M1 → (∀ x : Nat, 60 * t ≤ x → x < 60 * t + j → mL M1 100 x = 0) →
    (∀ M' : MM, FM (fun a => a = 100) M1 M' → M'.1 = M1.1 → mR M' = mR M1 → (∀ x : Nat, 60 * t ≤ x → x < 60 * t + 60 → mL M' 100 x = 0) → (∀ x : Nat, ¬ (60 * t ≤ x ∧ x < 60 * t + 60) → mL M' 100 x = mL M1 100 x) → Q (some (.int 1)) M') →
    WP (d + 1) kX11_tape (85, [.ref 82, .int (vI t), .int l2, .int l3, .int (vI j)], [], M1) Q := by
  intro m
  induction m with
  | zero =>
    intro j hj M1 hp hx h
    obtain rfl : j = 60 := by omega
    rw [gX11_tape_85, if_neg (by decide)]
    exact h M1 (FM.refl _ _) rfl rfl hx (fun _ _ => rfl)
  | succ m ih =>
    intro j hj M1 hp hx h
    rw [gX11_tape_85, if_pos (by rw [lt_nl (by omega) (by decide)]; omega)]
    simp (disch := omega) only [ty_82, pm_33 hp, ty_100, mul_ln, vI_add, inb_n, vI_cl, add_nl, true_and, and_true, Option.some.injEq, exists_eq_left']
    refine ⟨by omega, ?_⟩
    have hF1 : FM (fun a => a = 100) M1 (sL M1 100 (60 * t + j) 0) := fr_sL rfl
    refine ih (j + 1) (by omega) _ hp (fun x h1 h2 => ?_) (fun M' g1 g2 g3 g4 g5 => h M' (hF1.trans g1) g2 g3 g4 (fun x hx2 => ?_))
    · by_cases e : x = 60 * t + j
      · subst e; exact aL_sL _ _ _ _
      · rw [bL_sL e]; exact hx x h1 (by omega)
    · rw [g5 x hx2, bL_sL (by omega)]
/-- what stands once a tape has been told -/
theorem tape_inv (hI1 : INV MZ (n + 1) M) {t : Nat} (ht : t < 6) {l2 z3 : Int32} {h9 : Int32} {M2 : MM}
    (e1 : M2.1 = (sI (sI (sI (flL (sI (sI M (70 + 2 * t) 1 l2) (70 + 2 * t) 2 z3) (71 + 2 * t) 60 0) 99 t h9) 97 t l2) 98 t z3).1) (e2 : mR M2 = mR M) (e0 : mN M2 = mN M) (e3 : ∀ a : Nat, ¬ a = 100 → mL M2 a = mL (flL (sI (sI M (70 + 2 * t) 1 l2) (70 + 2 * t) 2 z3) (71 + 2 * t) 60 0) a)
    (e4 : ∀ x : Nat, 60 * t ≤ x → x < 60 * t + 60 → mL M2 100 x = 0) (e5 : ∀ x : Nat, ¬ (60 * t ≤ x ∧ x < 60 * t + 60) → mL M2 100 x = mL M 100 x)
    (hc : (h9 = 0 ∧ l2 = -1 ∧ z3 = 0) ∨ (h9 = 1 ∧ ∃ s z : Nat, s ≤ 4 ∧ z ≤ 60 ∧ l2 = vI s ∧ z3 = vI z)) : INV MZ (n + 1) M2 := by
  have hT := hI1.2.2.2.2.2.2.2
  have g : mI M2 = mI (sI (sI (sI (flL (sI (sI M (70 + 2 * t) 1 l2) (70 + 2 * t) 2 z3) (71 + 2 * t) 60 0) 99 t h9) 97 t l2) 98 t z3) := by unfold mI; rw [e1]
  have gI : ∀ a j : Nat, mI M2 a j = if a = 98 ∧ j = t then z3 else if a = 97 ∧ j = t then l2 else if a = 99 ∧ j = t then h9 else if a = 70 + 2 * t ∧ j = 2 then z3 else if a = 70 + 2 * t ∧ j = 1 then l2 else mI M a j := by
    intro a j
    rw [g]
    rw [mI_sI, mI_sI, mI_sI, mI_flL, mI_sI, mI_sI]
  have gL : ∀ a : Nat, ¬ a = 100 → ∀ j : Nat, mL M2 a j = if a = 71 + 2 * t ∧ j < 60 then 0 else mL M a j := by
    intro a ha j
    rw [e3 a ha, mL_flL]; rfl
  refine INV_tp (M := M) e0 e2 (fun a ha => ⟨funext fun j => ?_, funext fun j => ?_⟩) (Tap_upd (t0 := t) hT (fun t2 ht2 hne => ⟨?_, ?_, ?_, funext fun j => ?_, funext fun j => ?_, fun j hj => ?_⟩) ?_) hI1
  · unfold Tp at ha
    rw [gI, if_neg (by omega), if_neg (by omega), if_neg (by omega), if_neg (by omega), if_neg (by omega)]
  · unfold Tp at ha
    rw [gL a (by omega), if_neg (by omega)]
  · rw [gI, if_neg (by omega), if_neg (by omega), if_neg (by omega), if_neg (by omega), if_neg (by omega)]
  · rw [gI, if_neg (by omega), if_neg (by omega), if_neg (by omega), if_neg (by omega), if_neg (by omega)]
  · rw [gI, if_neg (by omega), if_neg (by omega), if_neg (by omega), if_neg (by omega), if_neg (by omega)]
  · rw [gI, if_neg (by omega), if_neg (by omega), if_neg (by omega), if_neg (by omega), if_neg (by omega)]
  · rw [gL _ (by omega), if_neg (by omega)]
  · exact e5 _ (by omega)
  · have f99 : mI M2 99 t = h9 := by rw [gI, if_neg (by omega), if_neg (by omega), if_pos (by omega)]
    have f97 : mI M2 97 t = l2 := by rw [gI, if_neg (by omega), if_pos (by omega)]
    have f98 : mI M2 98 t = z3 := by rw [gI, if_pos (by omega)]
    have f1 : mI M2 (70 + 2 * t) 1 = l2 := by rw [gI, if_neg (by omega), if_neg (by omega), if_neg (by omega), if_neg (by omega), if_pos (by omega)]
    have f2 : mI M2 (70 + 2 * t) 2 = z3 := by rw [gI, if_neg (by omega), if_neg (by omega), if_neg (by omega), if_pos (by omega)]
    rcases hc with ⟨h1, h2, h3⟩ | ⟨h1, s, z, h2, h3, h4, h5⟩
    · exact Or.inl ⟨f99.trans h1, f1.trans h2, f2.trans h3⟩
    · refine Or.inr ⟨s, z, h2, h3, f99.trans h1, f1.trans h4, f97.trans h4, f2.trans h5, f98.trans h5, fun j hj => ?_⟩
      rw [gL _ (by omega), if_pos ⟨rfl, hj⟩, e4 _ (by omega) (by omega)]
theorem p_tape (hI : INV MZ n M) (a b c : Int32) : PRI MZ (d + 12) n kX10_tape kX11_tape [.int a, .int b, .int c] M := by
  have hp := hI.1
  have hpm := hI.2.1
  have hI1 := INV_mono hI
  unfold PRI
  rw [eX10_tape]
  simp only [ty_21, true_and]
  cases hA : inR a 6 with
  | false =>
    rw [s_tape_f hp hA]
    simp only [Option.toList_some, Option.toList_none, List.cons_append, List.nil_append]
    rw [gX10_tape_5]
    simp only [Option.elim_none]
    refine ⟨_, rfl, ?_⟩
    rw [eX11_tape, show (6 : Int32) = vI 6 from rfl, m_isIn (by decide), hA]
    simp only [Option.toList_some, Option.toList_none, List.cons_append, List.nil_append]
    rw [gX11_tape_6, if_pos (by decide)]
    exact ⟨rfl, hI1⟩
  | true =>
  obtain ⟨t, ht, rfl⟩ := inR_get hA
  rw [s_tape_t hp ht]
  simp only [Option.toList_some, Option.toList_none, List.cons_append, List.nil_append]
  rw [gX10_tape_5]
  simp only [Option.elim_some, rf_some, ty_t t ht, true_and]
  have ref0 : ∀ (M1 : MM) (Q1 : Option Value → MM → Prop), (WP (d + 12) kX11_tape (6, [.ref 82, .int (vI t), .int b, .int c, dm], [.int 1], M1) Q1) → CL (d + 12) kX11_tape [.ref 82, .int (vI t), .int b, .int c] M1 Q1 := by
    intro M1 Q1 h
    rw [eX11_tape, show (6 : Int32) = vI 6 from rfl, m_isIn (by decide), hA]
    simp only [Option.toList_some, Option.toList_none, List.cons_append, List.nil_append]
    exact h
  have bec : ∀ (l2 z3 : Int32) (Q1 : Option Value → MM → Prop), Q1 none (flL (sI (sI M (70 + 2 * t) 1 l2) (70 + 2 * t) 2 z3) (71 + 2 * t) 60 0) → CL (d + 11) kX6_become [.ref (70 + 2 * t), .int l2, .int z3] M Q1 := by
    intro l2 z3 Q1 h
    rw [eX6_become]
    refine ⟨by rw [ty_t t ht], ?_⟩
    rw [pc_70 hp ht, rf_some, s_fill (ty_ti t ht) (by decide)]
    simp only [Option.toList_some, Option.toList_none, List.cons_append, List.nil_append]
    rw [gX6_become_18]
    exact h
  rcases int_cases b with hb | rfl | ⟨s, hs, rfl⟩
  · rw [if_pos hb]
    refine ⟨_, rfl, ref0 _ _ ?_⟩
    rw [gX11_tape_6, if_neg (by decide), if_pos hb]
    exact ⟨rfl, hI1⟩
  · rw [if_neg (by decide), if_neg (by decide), if_pos rfl, if_pos rfl, if_pos rfl]
    refine bec _ _ _ ?_
    simp only [Option.toList_some, Option.toList_none, List.cons_append, List.nil_append]
    rw [gX10_tape_66]
    refine ⟨_, rfl, ref0 _ _ ?_⟩
    have hp1 : PM (flL (sI (sI M (70 + 2 * t) 1 (-1)) (70 + 2 * t) 2 0) (71 + 2 * t) 60 0) := hpm
    have hneg : ((-1 : Int32) < 0) = True := eq_true (by decide)
    rw [gX11_tape_6, if_neg (by decide), if_neg (by decide), if_neg (by decide), if_pos (by decide), if_pos (by decide)]
    refine ⟨by simp only [ty_82], ?_⟩
    rw [if_pos (by decide)]
    refine ⟨99, pm_32 hp1, Or.inr (by simp only [ty_99]), by rw [ty_99, inb_n (by omega)]; exact ht, 97, pm_30 hp1, by simp only [ty_97], by rw [ty_97, inb_n (by omega)]; exact ht, ?_⟩
    rw [if_pos (by decide)]
    refine ⟨98, pm_31 hp1, by simp only [ty_98], by rw [ty_98, inb_n (by omega)]; exact ht, ?_⟩
    rw [vI_cl (by omega), show nbv (TY 99).1 0 = 0 by rw [ty_99]; rfl, show (0 : Int32) = vI 0 from rfl]
    refine m_tape_loop (-1) c ht 60 0 rfl _ hp1 (fun x h1 h2 => by omega) (fun M' g1 g2 g3 g4 g5 => ⟨rfl, ?_⟩)
    exact tape_inv hI1 ht (l2 := -1) (z3 := 0) (h9 := 0) g2 (by rw [g3]; rfl) g1.1 (fun a ha => g1.l ha) g4 (fun x hx => by
      rw [g5 x hx]
      show mL (flL (sI (sI M (70 + 2 * t) 1 (-1)) (70 + 2 * t) 2 (vI 0)) (71 + 2 * t) 60 0) 100 x = _
      rw [mL_flL, if_neg (by omega)]; rfl) (Or.inl ⟨rfl, rfl, rfl⟩)
  · rw [if_neg (by rw [vI_m1 hs]; exact id)]
    by_cases h4 : 4 < s
    · rw [if_pos (by rw [lt_ln hs (by decide)]; exact h4)]
      refine ⟨_, rfl, ref0 _ _ ?_⟩
      rw [gX11_tape_6, if_neg (by decide), if_neg (by rw [vI_m1 hs]; exact id), if_pos (by rw [lt_ln hs (by decide)]; exact h4)]
      exact ⟨rfl, hI1⟩
    · have n1 : ¬ vI s = -1 := vI_ne s hs
      have n0 : ¬ vI s < 0 := by rw [vI_neg hs]; exact id
      rw [if_neg (by rw [lt_ln hs (by decide)]; exact h4), if_neg n1]
      have ref1 : ∀ (M1 : MM) (Q1 : Option Value → MM → Prop), PM M1 → (if (60 : Int32) < c then Q1 (some (.int (-2))) M1 else (if c < 0 then Q1 (some (.int (-14))) M1 else WP (d + 12) kX11_tape (85, [.ref 82, .int (vI t), .int (vI s), .int c, .int 0], [], (sI (sI (sI M1 99 t 1) 97 t (vI s)) 98 t c)) Q1)) → CL (d + 12) kX11_tape [.ref 82, .int (vI t), .int (vI s), .int c] M1 Q1 := by
        intro M1 Q1 hp1 h
        refine ref0 _ _ ?_
        rw [gX11_tape_6, if_neg (by decide), if_neg (by rw [vI_m1 hs]; exact id), if_neg (by rw [lt_ln hs (by decide)]; exact h4), if_neg n0]
        by_cases hc60 : (60 : Int32) < c
        · rw [if_pos hc60] at h ⊢; exact h
        · rw [if_neg hc60] at h ⊢
          rw [if_neg n0]
          by_cases hc0 : c < 0
          · rw [if_pos hc0] at h ⊢; exact h
          · rw [if_neg hc0] at h ⊢
            refine ⟨by simp only [ty_82], ?_⟩
            rw [if_neg n0]
            refine ⟨99, pm_32 hp1, Or.inr (by simp only [ty_99]), by rw [ty_99, inb_n (by omega)]; exact ht, 97, pm_30 hp1, by simp only [ty_97], by rw [ty_97, inb_n (by omega)]; exact ht, ?_⟩
            rw [if_neg n0]
            refine ⟨98, pm_31 hp1, by simp only [ty_98], by rw [ty_98, inb_n (by omega)]; exact ht, ?_⟩
            rw [vI_cl (by omega), show nbv (TY 99).1 1 = 1 by rw [ty_99]; rfl]
            exact h
      by_cases hc60 : (60 : Int32) < c
      · rw [if_pos hc60]
        exact ⟨_, rfl, ref1 _ _ hpm (by rw [if_pos hc60]; exact ⟨rfl, hI1⟩)⟩
      · rw [if_neg hc60, if_neg n1]
        by_cases hc0 : c < 0
        · rw [if_pos hc0]
          exact ⟨_, rfl, ref1 _ _ hpm (by rw [if_neg hc60, if_pos hc0]; exact ⟨rfl, hI1⟩)⟩
        · rw [if_neg hc0, if_neg n1]
          obtain ⟨z, hz, rfl⟩ := inR_pos hc0
          have hz60 : z ≤ 60 := by
            rw [lt_ln hz (by decide)] at hc60; omega
          refine bec _ _ _ ?_
          simp only [Option.toList_some, Option.toList_none, List.cons_append, List.nil_append]
          rw [gX10_tape_66]
          refine ⟨_, rfl, ref1 _ _ hpm ?_⟩
          rw [if_neg hc60, if_neg hc0, show (0 : Int32) = vI 0 from rfl]
          refine m_tape_loop (vI s) (vI z) ht 60 0 rfl _ hpm (fun x h1 h2 => by omega) (fun M' g1 g2 g3 g4 g5 => ⟨rfl, ?_⟩)
          exact tape_inv hI1 ht (l2 := vI s) (z3 := vI z) (h9 := 1) g2 (by rw [g3]; rfl) g1.1 (fun a ha => g1.l ha) g4 (fun x hx => by
            rw [g5 x hx]
            show mL (flL (sI (sI M (70 + 2 * t) 1 (vI s)) (70 + 2 * t) 2 (vI z)) (71 + 2 * t) 60 0) 100 x = _
            rw [mL_flL, if_neg (by omega)]; rfl) (Or.inr ⟨rfl, s, z, by omega, hz60, rfl, rfl⟩)
/- the scene alone changes -/
def Sn (a : Nat) : Prop := (33 ≤ a ∧ a ≤ 44) ∨ a = 83
theorem INV_sn {M' : MM} (hn : mN M' = mN M) (hr : mR M' = mR M) (hl : mL M' = mL M) (h : ∀ a : Nat, ¬ Sn a → mI M' a = mI M a) (hS : ∀ L : Nat, Scn n L M 33 83 → Scn n L M' 33 83) (hI : INV MZ n M) : INV MZ n M' := by
  obtain ⟨i1, i2, i3, i4, ⟨L, i5, i6, i7⟩, i8, i9, i10⟩ := hI
  have rr : ∀ a : Nat, mR M' a = mR M a := fun a => by rw [hr]
  refine ⟨fun t ht => by rw [hr]; exact i1 t ht, fun t ht => by rw [hr]; exact i2 t ht, SOK_r (fun a _ => rr a) i3, fun a ha => ⟨by rw [h a (by unfold Sn; omega)]; exact (i4 a ha).1, by rw [rr]; exact (i4 a ha).2⟩, ⟨L, Lnd_of hn (by rw [h 21 (by unfold Sn; omega)]) (by rw [h 82 (by unfold Sn; omega)]) (fun a ha => ⟨h a (by unfold Sn; omega), by rw [hl], rr a⟩) (fun a ha => h a (by unfold Sn; omega)) i5, hS L i6, Img_ag (by rw [h 21 (by unfold Sn; omega)]) (by rw [h 82 (by unfold Sn; omega)]) (fun q => Scn_ag (fun a h1 h2 => ⟨h a (by unfold Sn; omega), rr a⟩) (h 84 (by unfold Sn; omega)) q) i7⟩, Txt_ag (by rw [h 22 (by unfold Sn; omega)]) (by rw [h 82 (by unfold Sn; omega)]) (h 23 (by unfold Sn; omega)) (h 88 (by unfold Sn; omega)) i8, Bod_ag (h 26 (by unfold Sn; omega)) (by rw [h 82 (by unfold Sn; omega)]) (h 27 (by unfold Sn; omega)) (h 96 (by unfold Sn; omega)) i9, Tap_ag (fun a ha => ⟨h a (by unfold Sn; omega), by rw [hl]⟩) i10⟩
theorem ScnL_1 {L : Nat} {M' : MM} {sc ms : Nat} (h1 : mR M' sc 4 = mR M sc 4) (h2 : mI M' ms 1 = mI M ms 1) (h : ScnL L M sc ms) : ScnL L M' sc ms := by
  unfold ScnL at h ⊢; rw [h1, h2]; exact h
theorem WkP_1 {M' : MM} {a ms w : Nat} (h1 : mI M' a = mI M a) (h2 : ∀ k : Nat, k < 7 → mI M' ms (4 + 7 * w + k) = mI M ms (4 + 7 * w + k)) (h : WkP n M a ms w) : WkP n M' a ms w := by
  obtain ⟨kd, v, c, f, bt, gn, cm, q1, q2, q3, q4, q5, q6, q7⟩ := h
  refine ⟨kd, v, c, f, bt, gn, cm, q1, q2, q3, q4, q5, WK_ag h1 q6, ?_⟩
  unfold MWs at q7 ⊢
  rw [h2 0 (by decide), h2 1 (by decide), h2 2 (by decide), h2 3 (by decide), h2 4 (by decide), h2 5 (by decide), h2 6 (by decide)]
  exact q7
/-- a told row of a scene: the class's cells at lo (length in lo's field 1) and lo + 1, the reference's length at k0, its numbers from b0 on -/
def RwP (M : MM) (lo ms k0 b0 top : Nat) : Prop := ∃ r : Nat, r ≤ 12 ∧ mI M lo 1 = vI r ∧ mI M ms k0 = vI r ∧ ∀ j : Nat, j < r → ∃ a : Nat, a < top ∧ mI M (lo + 1) j = vI a ∧ mI M ms (b0 + j) = vI a
theorem ScnR_rw (M : MM) : ScnR M 33 83 = RwP M 35 83 2 46 6 := rfl
theorem ScnT_rw (M : MM) : ScnT M 33 83 = RwP M 37 83 3 58 36 := rfl
theorem RwP_1 {M' : MM} {lo ms k0 b0 top : Nat} (h1 : mI M' lo 1 = mI M lo 1) (h2 : mI M' ms k0 = mI M ms k0) (h3 : ∀ j : Nat, j < 12 → mI M' (lo + 1) j = mI M (lo + 1) j) (h4 : ∀ j : Nat, j < 12 → mI M' ms (b0 + j) = mI M ms (b0 + j)) (h : RwP M lo ms k0 b0 top) : RwP M' lo ms k0 b0 top := by
  obtain ⟨r, q1, q2, q3, q4⟩ := h
  refine ⟨r, q1, h1.trans q2, h2.trans q3, fun j hj => ?_⟩
  obtain ⟨a, g1, g2, g3⟩ := q4 j hj
  exact ⟨a, g1, (h3 j (by omega)).trans g2, (h4 j (by omega)).trans g3⟩
theorem s_tell_m1 {lo : Nat} (hT : (TY lo).1 = 8) : CL d kX8_tell [.ref lo, .int (-1)] M Q = Q (some (.int 0)) (sI M lo 1 0) := by
  rw [eX8_tell, if_pos (by decide)]
  simp only [hT, true_and]
theorem s_tell {lo q r a : Nat} (hT : (TY lo).1 = 8) (hq : mR M lo 0 = some q) (hTq : TY q = (20, 12)) (hne : ¬ lo = q) (hr : mI M lo 1 = vI r) (hr12 : r ≤ 12) (ha : a < 100) : CL d kX8_tell [.ref lo, .int (vI a)] M Q = if r < 12 then Q (some (.int (vI (r + 1)))) (sI (sI M q r (vI a)) lo 1 (vI (r + 1))) else Q (some (.int (-4))) M := by
  rw [eX8_tell, if_neg (by rw [vI_neg (by omega)]; exact id), hr, if_neg (by rw [vI_neg (by omega)]; exact id)]
  simp only [hT, true_and]
  by_cases h : r < 12
  · rw [if_pos (by rw [lt_nl (by omega) (by decide)]; exact h), if_pos h]
    simp (disch := omega) only [hq, hTq, inb_n, vI_cl, h, true_and, and_true, Option.some.injEq, exists_eq_left']
    rw [rI_sI hne, hr, add_nl, aI_sI]
  · rw [if_neg (by rw [lt_nl (by omega) (by decide)]; exact h), if_neg h]
theorem row_inv (hI1 : INV MZ (n + 1) M) {lo k0 b0 top r a : Nat} (hw : (lo = 35 ∧ k0 = 2 ∧ b0 = 46 ∧ top = 6) ∨ (lo = 37 ∧ k0 = 3 ∧ b0 = 58 ∧ top = 36)) (hR : RwP M lo 83 k0 b0 top) (hr : mI M lo 1 = vI r) (hr12 : r < 12) (ha : a < top) :
    INV MZ (n + 1) (sI (sI (sI (sI M (lo + 1) r (vI a)) lo 1 (vI (r + 1))) 83 (b0 + r) (vI a)) 83 k0 (vI (r + 1))) := by
  have gI : ∀ x j : Nat, mI (sI (sI (sI (sI M (lo + 1) r (vI a)) lo 1 (vI (r + 1))) 83 (b0 + r) (vI a)) 83 k0 (vI (r + 1))) x j = if x = 83 ∧ j = k0 then vI (r + 1) else if x = 83 ∧ j = b0 + r then vI a else if x = lo ∧ j = 1 then vI (r + 1) else if x = lo + 1 ∧ j = r then vI a else mI M x j := by
    intro x j
    rw [mI_sI, mI_sI, mI_sI, mI_sI]
  have hRn : RwP (sI (sI (sI (sI M (lo + 1) r (vI a)) lo 1 (vI (r + 1))) 83 (b0 + r) (vI a)) 83 k0 (vI (r + 1))) lo 83 k0 b0 top := by
    obtain ⟨r2, q1, q2, q3, q4⟩ := hR
    have e : r = r2 := by
      rw [hr, vI_inj (by omega) (by omega)] at q2; exact q2
    subst e
    refine ⟨r + 1, by omega, ?_, ?_, fun j hj => ?_⟩
    · rw [gI, if_neg (by omega), if_neg (by omega), if_pos ⟨rfl, rfl⟩]
    · rw [gI, if_pos ⟨rfl, rfl⟩]
    · by_cases e : j = r
      · subst e
        refine ⟨a, ha, ?_, ?_⟩
        · rw [gI, if_neg (by omega), if_neg (by omega), if_neg (by omega), if_pos ⟨rfl, rfl⟩]
        · rw [gI, if_neg (by omega), if_pos ⟨rfl, rfl⟩]
      · obtain ⟨a2, g1, g2, g3⟩ := q4 j (by omega)
        refine ⟨a2, g1, ?_, ?_⟩
        · rw [gI, if_neg (by omega), if_neg (by omega), if_neg (by omega), if_neg (by omega)]; exact g2
        · rw [gI, if_neg (by omega), if_neg (by omega), if_neg (by omega), if_neg (by omega)]; exact g3
  refine INV_sn (M := M) rfl rfl rfl (fun x hx => funext fun j => ?_) (fun L hS => ⟨ScnL_1 (M := M) rfl ?_ hS.1, ?_, ?_, ?_⟩) hI1
  · unfold Sn at hx
    rw [gI, if_neg (by omega), if_neg (by omega), if_neg (by omega), if_neg (by omega)]
  · rw [gI, if_neg (by omega), if_neg (by omega), if_neg (by omega), if_neg (by omega)]
  · obtain ⟨nw, q1, q2, q3, q4⟩ := hS.2.1
    refine ⟨nw, q1, ?_, ?_, fun w hw2 => WkP_1 (funext fun j => ?_) (fun k hk => ?_) (q4 w hw2)⟩
    · rw [gI, if_neg (by omega), if_neg (by omega), if_neg (by omega), if_neg (by omega)]; exact q2
    · rw [gI, if_neg (by omega), if_neg (by omega), if_neg (by omega), if_neg (by omega)]; exact q3
    · rw [gI, if_neg (by omega), if_neg (by omega), if_neg (by omega), if_neg (by omega)]
    · rw [gI, if_neg (by omega), if_neg (by omega), if_neg (by omega), if_neg (by omega)]
  · rw [ScnR_rw]
    rcases hw with ⟨rfl, rfl, rfl, rfl⟩ | ⟨rfl, rfl, rfl, rfl⟩
    · exact hRn
    · have hR2 := hS.2.2.1
      rw [ScnR_rw] at hR2
      refine RwP_1 ?_ ?_ (fun j hj => ?_) (fun j hj => ?_) hR2 <;> rw [gI, if_neg (by omega), if_neg (by omega), if_neg (by omega), if_neg (by omega)]
  · rw [ScnT_rw]
    rcases hw with ⟨rfl, rfl, rfl, rfl⟩ | ⟨rfl, rfl, rfl, rfl⟩
    · have hR2 := hS.2.2.2
      rw [ScnT_rw] at hR2
      refine RwP_1 ?_ ?_ (fun j hj => ?_) (fun j hj => ?_) hR2 <;> rw [gI, if_neg (by omega), if_neg (by omega), if_neg (by omega), if_neg (by omega)]
    · exact hRn
theorem row_inv0 (hI1 : INV MZ (n + 1) M) {lo k0 b0 top : Nat} (hw : (lo = 35 ∧ k0 = 2 ∧ b0 = 46 ∧ top = 6) ∨ (lo = 37 ∧ k0 = 3 ∧ b0 = 58 ∧ top = 36)) :
    INV MZ (n + 1) (sI (sI M lo 1 0) 83 k0 0) := by
  have gI : ∀ x j : Nat, mI (sI (sI M lo 1 0) 83 k0 0) x j = if x = 83 ∧ j = k0 then 0 else if x = lo ∧ j = 1 then 0 else mI M x j := by
    intro x j
    rw [mI_sI, mI_sI]
  have hRn : RwP (sI (sI M lo 1 0) 83 k0 0) lo 83 k0 b0 top := by
    refine ⟨0, by omega, ?_, ?_, fun j hj => absurd hj (Nat.not_lt_zero j)⟩
    · rw [gI, if_neg (by omega), if_pos ⟨rfl, rfl⟩]; rfl
    · rw [gI, if_pos ⟨rfl, rfl⟩]; rfl
  refine INV_sn (M := M) rfl rfl rfl (fun x hx => funext fun j => ?_) (fun L hS => ⟨ScnL_1 (M := M) rfl ?_ hS.1, ?_, ?_, ?_⟩) hI1
  · unfold Sn at hx
    rw [gI, if_neg (by omega), if_neg (by omega)]
  · rw [gI, if_neg (by omega), if_neg (by omega)]
  · obtain ⟨nw, q1, q2, q3, q4⟩ := hS.2.1
    refine ⟨nw, q1, ?_, ?_, fun w hw2 => WkP_1 (funext fun j => ?_) (fun k hk => ?_) (q4 w hw2)⟩
    · rw [gI, if_neg (by omega), if_neg (by omega)]; exact q2
    · rw [gI, if_neg (by omega), if_neg (by omega)]; exact q3
    · rw [gI, if_neg (by omega), if_neg (by omega)]
    · rw [gI, if_neg (by omega), if_neg (by omega)]
  · rw [ScnR_rw]
    rcases hw with ⟨rfl, rfl, rfl, rfl⟩ | ⟨rfl, rfl, rfl, rfl⟩
    · exact hRn
    · have hR2 := hS.2.2.1
      rw [ScnR_rw] at hR2
      refine RwP_1 ?_ ?_ (fun j hj => ?_) (fun j hj => ?_) hR2 <;> rw [gI, if_neg (by omega), if_neg (by omega)]
  · rw [ScnT_rw]
    rcases hw with ⟨rfl, rfl, rfl, rfl⟩ | ⟨rfl, rfl, rfl, rfl⟩
    · have hR2 := hS.2.2.2
      rw [ScnT_rw] at hR2
      refine RwP_1 ?_ ?_ (fun j hj => ?_) (fun j hj => ?_) hR2 <;> rw [gI, if_neg (by omega), if_neg (by omega)]
    · exact hRn
theorem p_row (hI : INV MZ n M) (a : Int32) : PRI MZ (d + 12) n kX10_row kX11_row [.int a] M := by
  have hp := hI.1
  have hpm := hI.2.1
  have hI1 := INV_mono hI
  have hR : RwP M 35 83 2 46 6 := by
    obtain ⟨i1, i2, i3, i4, ⟨L, i5, i6, i7⟩, i8⟩ := hI
    exact i6.2.2.1
  unfold PRI
  rw [eX10_row]
  have bad : inR a 6 = false → ¬ a = -1 → CL (d + 12) kX11_row [.ref 82, .int a] M (fun r2 M2 => r2 = some (.int (-1)) ∧ INV MZ (n + 1) M2) := by
    intro h h1
    rw [eX11_row, if_neg h1, show (6 : Int32) = vI 6 from rfl, m_isIn (by decide), h]
    simp only [Option.toList_some, Option.toList_none, List.cons_append, List.nil_append]
    rw [gX11_row_20, if_pos (by decide)]
    exact ⟨rfl, hI1⟩
  rcases int_cases a with ha | rfl | ⟨k, hk, rfl⟩
  · rw [if_pos ha]
    exact ⟨_, rfl, bad (inR_neg (lt_m1 ha)) (fun h => by rw [h] at ha; exact absurd ha (by decide))⟩
  · rw [if_neg (by decide), if_pos (by decide)]
    simp only [ty_21, pc_21_1 hp, ty_33, pc_33_2 hp, ty_35, true_and, and_true, Option.some.injEq, exists_eq_left']
    rw [s_tell_m1 (by rw [ty_35])]
    simp only [Option.toList_some, Option.toList_none, List.cons_append, List.nil_append]
    rw [gX10_row_22]
    refine ⟨_, rfl, ?_⟩
    rw [eX11_row, if_pos rfl]
    refine ⟨by simp only [ty_82], 83, pm_0 (M := sI M 35 1 0) hpm, by simp only [ty_83], by rw [ty_83]; decide, rfl, ?_⟩
    exact row_inv0 hI1 (Or.inl ⟨rfl, rfl, rfl, rfl⟩)
  · rw [if_neg (by rw [vI_m1 hk]; exact id)]
    by_cases h6 : k < 6
    · obtain ⟨r, q1, q2, q3, q4⟩ := id hR
      rw [if_pos (by rw [lt_nl hk (by decide)]; exact h6)]
      simp only [ty_21, pc_21_1 hp, ty_33, pc_33_2 hp, ty_35, true_and, and_true, Option.some.injEq, exists_eq_left']
      rw [s_tell (by rw [ty_35]) (pc_35_0 hp) ty_36 (by decide) q2 q1 (by omega)]
      simp only [Option.toList_some, Option.toList_none, List.cons_append, List.nil_append]
      by_cases h12 : r < 12
      · rw [if_pos h12, gX10_row_22]
        refine ⟨_, rfl, ?_⟩
        rw [eX11_row, if_neg (vI_ne k hk), show (6 : Int32) = vI 6 from rfl, m_isIn (by decide), inR_vI hk, decide_eq_true h6]
        simp only [Option.toList_some, Option.toList_none, List.cons_append, List.nil_append]
        rw [gX11_row_20, if_neg (by decide)]
        have q3' : mI (sI (sI M 36 r (vI k)) 35 1 (vI (r + 1))) 83 (2 : Int32).toNatClampNeg = vI r := q3
        refine ⟨by simp only [ty_82], 83, pm_0 (M := sI (sI M 36 r (vI k)) 35 1 (vI (r + 1))) hpm, by simp only [ty_83], by rw [ty_83]; decide, ?_⟩
        rw [q3', if_neg (by rw [eq_nl (by omega) (by decide)]; omega)]
        rw [show (46 : Int32) + vI r = vI (46 + r) from vI_add 46 r, vI_cl (by omega)]
        rw [show mI (sI (sI (sI M 36 r (vI k)) 35 1 (vI (r + 1))) 83 (46 + r) (vI k)) 83 (2 : Int32).toNatClampNeg = vI r by rw [bI_sI (by rw [show (2 : Int32).toNatClampNeg = 2 from rfl]; omega)]; exact q3', add_nl, aI_sI]
        refine ⟨by rw [ty_83]; decide, by rw [ty_83, inb_n (by omega)]; show 46 + r < 70; omega, by rw [ty_83]; decide, by rw [ty_83]; decide, by rw [ty_83]; decide, rfl, ?_⟩
        exact row_inv hI1 (Or.inl ⟨rfl, rfl, rfl, rfl⟩) hR q2 h12 h6
      · rw [if_neg h12, gX10_row_22]
        refine ⟨_, rfl, ?_⟩
        rw [eX11_row, if_neg (vI_ne k hk), show (6 : Int32) = vI 6 from rfl, m_isIn (by decide), inR_vI hk, decide_eq_true h6]
        simp only [Option.toList_some, Option.toList_none, List.cons_append, List.nil_append]
        rw [gX11_row_20, if_neg (by decide)]
        refine ⟨by simp only [ty_82], 83, pm_0 hpm, by simp only [ty_83], by rw [ty_83]; decide, ?_⟩
        have q3' : mI M 83 (2 : Int32).toNatClampNeg = vI r := q3
        rw [q3', if_pos (by rw [eq_nl (by omega) (by decide)]; omega)]
        exact ⟨rfl, hI1⟩
    · rw [if_neg (by rw [lt_nl hk (by decide)]; exact h6)]
      exact ⟨_, rfl, bad (by rw [inR_vI hk]; exact decide_eq_false h6) (vI_ne k hk)⟩
theorem p_track (hI : INV MZ n M) (a : Int32) : PRI MZ (d + 12) n kX10_track kX11_track [.int a] M := by
  have hp := hI.1
  have hpm := hI.2.1
  have hI1 := INV_mono hI
  have hR : RwP M 37 83 3 58 36 := by
    obtain ⟨i1, i2, i3, i4, ⟨L, i5, i6, i7⟩, i8⟩ := hI
    exact i6.2.2.2
  unfold PRI
  rw [eX10_track]
  have bad : inR a 36 = false → ¬ a = -1 → CL (d + 12) kX11_track [.ref 82, .int a] M (fun r2 M2 => r2 = some (.int (-1)) ∧ INV MZ (n + 1) M2) := by
    intro h h1
    rw [eX11_track, if_neg h1, m_isCell, h]
    simp only [Option.toList_some, Option.toList_none, List.cons_append, List.nil_append]
    rw [gX11_track_18, if_pos (by decide)]
    exact ⟨rfl, hI1⟩
  rcases int_cases a with ha | rfl | ⟨k, hk, rfl⟩
  · rw [if_pos ha]
    exact ⟨_, rfl, bad (inR_neg (lt_m1 ha)) (fun h => by rw [h] at ha; exact absurd ha (by decide))⟩
  · rw [if_neg (by decide), if_pos (by decide)]
    simp only [ty_21, pc_21_1 hp, ty_33, pc_33_3 hp, ty_37, true_and, and_true, Option.some.injEq, exists_eq_left']
    rw [s_tell_m1 (by rw [ty_37])]
    simp only [Option.toList_some, Option.toList_none, List.cons_append, List.nil_append]
    rw [gX10_track_22]
    refine ⟨_, rfl, ?_⟩
    rw [eX11_track, if_pos rfl]
    refine ⟨by simp only [ty_82], 83, pm_0 (M := sI M 37 1 0) hpm, by simp only [ty_83], by rw [ty_83]; decide, rfl, ?_⟩
    exact row_inv0 hI1 (Or.inr ⟨rfl, rfl, rfl, rfl⟩)
  · rw [if_neg (by rw [vI_m1 hk]; exact id)]
    by_cases h6 : k < 36
    · obtain ⟨r, q1, q2, q3, q4⟩ := id hR
      rw [if_pos (by rw [lt_nl hk (by decide)]; exact h6)]
      simp only [ty_21, pc_21_1 hp, ty_33, pc_33_3 hp, ty_37, true_and, and_true, Option.some.injEq, exists_eq_left']
      rw [s_tell (by rw [ty_37]) (pc_37_0 hp) ty_38 (by decide) q2 q1 (by omega)]
      simp only [Option.toList_some, Option.toList_none, List.cons_append, List.nil_append]
      by_cases h12 : r < 12
      · rw [if_pos h12, gX10_track_22]
        refine ⟨_, rfl, ?_⟩
        rw [eX11_track, if_neg (vI_ne k hk), m_isCell, inR_vI hk, decide_eq_true h6]
        simp only [Option.toList_some, Option.toList_none, List.cons_append, List.nil_append]
        rw [gX11_track_18, if_neg (by decide)]
        have q3' : mI (sI (sI M 38 r (vI k)) 37 1 (vI (r + 1))) 83 (3 : Int32).toNatClampNeg = vI r := q3
        refine ⟨by simp only [ty_82], 83, pm_0 (M := sI (sI M 38 r (vI k)) 37 1 (vI (r + 1))) hpm, by simp only [ty_83], by rw [ty_83]; decide, ?_⟩
        rw [q3', if_neg (by rw [eq_nl (by omega) (by decide)]; omega)]
        rw [show (58 : Int32) + vI r = vI (58 + r) from vI_add 58 r, vI_cl (by omega)]
        rw [show mI (sI (sI (sI M 38 r (vI k)) 37 1 (vI (r + 1))) 83 (58 + r) (vI k)) 83 (3 : Int32).toNatClampNeg = vI r by rw [bI_sI (by rw [show (3 : Int32).toNatClampNeg = 3 from rfl]; omega)]; exact q3', add_nl, aI_sI]
        refine ⟨by rw [ty_83]; decide, by rw [ty_83, inb_n (by omega)]; show 58 + r < 70; omega, by rw [ty_83]; decide, by rw [ty_83]; decide, by rw [ty_83]; decide, rfl, ?_⟩
        exact row_inv hI1 (Or.inr ⟨rfl, rfl, rfl, rfl⟩) hR q2 h12 h6
      · rw [if_neg h12, gX10_track_22]
        refine ⟨_, rfl, ?_⟩
        rw [eX11_track, if_neg (vI_ne k hk), m_isCell, inR_vI hk, decide_eq_true h6]
        simp only [Option.toList_some, Option.toList_none, List.cons_append, List.nil_append]
        rw [gX11_track_18, if_neg (by decide)]
        refine ⟨by simp only [ty_82], 83, pm_0 hpm, by simp only [ty_83], by rw [ty_83]; decide, ?_⟩
        have q3' : mI M 83 (3 : Int32).toNatClampNeg = vI r := q3
        rw [q3', if_pos (by rw [eq_nl (by omega) (by decide)]; omega)]
        exact ⟨rfl, hI1⟩
    · rw [if_neg (by rw [lt_nl hk (by decide)]; exact h6)]
      exact ⟨_, rfl, bad (by rw [inR_vI hk]; exact decide_eq_false h6) (vI_ne k hk)⟩
end Row
