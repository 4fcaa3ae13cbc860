/-! ===== 66: feed, land on both sides ===== -/
section Reads
variable {M : MM} {d : Nat} {Q : Option Value → MM → Prop} {T : Nat} {tx : Nat → Nat}
theorem m_reads (hK : RK M T tx)
    (h : ∀ M' : MM, RG M M' → mI M' 82 9 = vI (pAll T tx).1 → mI M' 82 11 = b2i ((pAll T tx).2.isNone) → (∀ σ : CS, (pAll T tx).2 = some σ → CXm M' σ) → Q none M') : CL (d + 20) kX11_reads [.ref 82] M Q := by
  have hT := hK.2.2.1
  -- what stands at the end
  have fin : ∀ (M2 : MM) (a : Nat) (r : Nat × Option CS), a ≤ T → RG M M2 → RX M2 a r.2.isNone 0 → r.1 = a → (∀ σ2 : CS, r.2 = some σ2 → CXm M2 σ2) → pAll T tx = rc r (fun a2 σ2 => if a2 < T then (a2, none) else (a2, some σ2)) →
      ((TY 82).1 = 11 ∧ ((if (mI M2 82 11) = 0 then (if (mI M2 82 9) < (mI M2 82 8) then Q none (sI M2 82 11 1) else Q none (sI M2 82 11 0)) else Q none (sI M2 82 11 1)))) := by
    intro M2 a r ha hF hS hr1 hX hp
    have hK2 := RK_rg hF hK
    have at9 : ∀ z : Int32, mI (sI M2 82 11 z) 82 9 = vI a := fun z => by rw [xI_sI (by decide)]; exact hS.1
    have hG : ∀ z : Int32, RG M (sI M2 82 11 z) := fun z => hF.trans (RG.s (by decide))
    rw [hS.1, hS.2.1, hK2.2.1]
    refine ⟨by simp only [ty_82], ?_⟩
    cases hx : r.2 with
    | none =>
      rw [rc_n hx] at hp
      rw [if_neg (by decide)]
      exact h _ (hG _) (by rw [hp, at9, ← hr1]) (by rw [hp, aI_sI]; rfl) (fun σ h2 => by rw [hp] at h2; cases h2)
    | some σ =>
      rw [rc_s hx, hr1] at hp
      rw [if_pos (show b2i (Option.isNone (some σ)) = 0 from rfl)]
      by_cases e : a < T
      · rw [if_pos e] at hp
        rw [if_pos (by rw [vI_lt (by omega) (by omega)]; exact e)]
        exact h _ (hG _) (by rw [hp, at9]) (by rw [hp, aI_sI]; rfl) (fun σ h2 => by rw [hp] at h2; cases h2)
      · rw [if_neg e] at hp
        rw [if_neg (by rw [vI_lt (by omega) (by omega)]; exact e)]
        exact h _ (hG _) (by rw [hp, at9]) (by rw [hp, aI_sI]; rfl) (fun σ2 h2 => by rw [hp] at h2; cases h2; exact CXm_rf (RF.s (by decide)) (hX σ hx))
  have lp : ∀ n i : Nat, i + n = 10 → ∀ (M2 : MM) (a : Nat) (w : Bool) (σ : CS), a ≤ T → RG M M2 → RX M2 a w 0 → (w = false → CXm M2 σ) → pAll T tx = rc (gw w a (pLoop T tx n a σ)) (fun a2 σ2 => if a2 < T then (a2, none) else (a2, some σ2)) →
      WP (d + 20) kX11_reads (52, [.ref 82, .int (vI i)], [], M2) Q := by
    intro n
    induction n with
    | zero =>
      intro i hi M2 a w σ ha hF hS hX hp
      obtain rfl : i = 10 := by omega
      rw [gX11_reads_52, if_neg (by decide)]
      cases w with
      | true => exact fin M2 a (a, none) ha hF hS rfl (fun σ2 h2 => by cases h2) hp
      | false => exact fin M2 a (a, some σ) ha hF hS rfl (fun σ2 h2 => by cases h2; exact hX rfl) hp
    | succ n ih =>
      intro i hi M2 a w σ ha hF hS hX hp
      have hK2 := RK_rg hF hK
      rw [gX11_reads_52, if_pos (by rw [lt_nl (by omega) (by decide)]; omega)]
      cases w with
      | true =>
        have h2 := fin M2 a (a, none) ha hF hS rfl (fun σ2 h2 => by cases h2) hp
        rw [hS.2.1, if_neg (by decide)] at h2 ⊢
        exact h2
      | false =>
        rw [hS.2.1, if_pos (show b2i false = 0 from rfl), m_here hK2 hS ha]
        refine ⟨by simp only [ty_82], ?_⟩
        simp only [Option.toList_some, Option.toList_none, List.cons_append, List.nil_append]
        rw [gX11_reads_69]
        rw [gw_f, pLoop] at hp
        by_cases e : hr T tx a = 59
        · have a1 := hr_T e (by decide)
          have hcb := pClause_b (T := T) (tx := tx) σ (a + 1) (by omega)
          rw [if_pos e] at hp
          rw [if_pos (by rw [show (59 : Int32) = vI 59 from rfl, hz_eq hK2 (by decide)]; exact e), hS.1, add_nl]
          have hF1 : RF M2 (sI M2 82 9 (vI (a + 1))) := RF.s (Or.inl rfl)
          refine ⟨by simp only [ty_82], m_clause (RK_rf hF1 hK2) (by omega) ⟨aI_sI _ _ _ _, by rw [xI_sI (by decide)]; exact hS.2.1, by rw [xI_sI (by decide)]; exact hS.2.2⟩ (CXm_rf hF1 (hX rfl)) (fun M3 hF3 hS3 hX3 => ?_)⟩
          simp only [Option.toList_some, Option.toList_none, List.cons_append, List.nil_append]
          rw [gX11_reads_88, add_nl]
          have hFF := (hF.trans (RG.rf hF1)).trans hF3
          cases hx : (pClause T tx σ (a + 1)).2 with
          | none =>
            rw [rc_n hx] at hp
            rw [hx] at hS3
            exact ih (i + 1) (by omega) M3 _ true σ0 hcb.2 hFF hS3 (fun e => by cases e) hp
          | some σ2 =>
            rw [rc_s hx] at hp
            rw [hx] at hS3
            exact ih (i + 1) (by omega) M3 _ false σ2 hcb.2 hFF hS3 (fun _ => hX3 σ2 hx) hp
        · rw [if_neg e] at hp
          rw [if_neg (by rw [show (59 : Int32) = vI 59 from rfl, hz_eq hK2 (by decide)]; exact e)]
          exact fin M2 a (a, some σ) ha hF hS rfl (fun σ2 h2 => by cases h2; exact hX rfl) hp
  have hz0 : mb (fun k => σ0.2.2 k 0) 4 = 0 := mb_z 4 (fun _ _ h => h)
  have zl : ∀ m c : Nat, c + m = 36 → ∀ M2 : MM, RG M M2 → RX M2 0 false 0 → mI M2 82 13 = vI 2 → mI M2 82 14 = vI 1 → (∀ x : Nat, x < c → mI M2 89 x = 0) → WP (d + 20) kX11_reads (27, [.ref 82, .int (vI c)], [], M2) Q := by
    intro m
    induction m with
    | zero =>
      intro c hc M2 hF hS h13 h14 hz
      obtain rfl : c = 36 := by omega
      have hK2 := RK_rg hF hK
      have hX : CXm M2 σ0 := ⟨h13, h14, by decide, by decide, fun x hx => by
        rw [hz x hx, show mb (fun k => σ0.2.2 k x) 4 = 0 from mb_z 4 (fun _ _ h => h)]; rfl⟩
      have hcb := pClause_b (T := T) (tx := tx) σ0 0 (by omega)
      rw [gX11_reads_27, if_neg (by decide)]
      refine ⟨by simp only [ty_82], m_clause hK2 (by omega) hS hX (fun M3 hF3 hS3 hX3 => ?_)⟩
      simp only [Option.toList_some, Option.toList_none, List.cons_append, List.nil_append]
      rw [gX11_reads_50, show (1 : Int32) = vI 1 from rfl]
      cases hx : (pClause T tx σ0 0).2 with
      | none =>
        rw [hx] at hS3
        refine lp 9 1 rfl M3 _ true σ0 hcb.2 (hF.trans hF3) hS3 (fun e => by cases e) ?_
        unfold pAll
        rw [rc_n hx]; rfl
      | some σ =>
        rw [hx] at hS3
        refine lp 9 1 rfl M3 _ false σ hcb.2 (hF.trans hF3) hS3 (fun _ => hX3 σ hx) ?_
        unfold pAll
        rw [rc_s hx]; rfl
    | succ m ih =>
      intro c hc M2 hF hS h13 h14 hz
      have hK2 := RK_rg hF hK
      rw [gX11_reads_27, if_pos (by rw [lt_nl (by omega) (by decide)]; omega)]
      simp only [ty_82, pm_12 hK2.1, ty_89, true_and, and_true, Option.some.injEq, exists_eq_left']
      rw [inb_n (by omega), vI_cl (by omega), add_nl]
      refine ⟨by omega, ih (c + 1) (by omega) _ (hF.trans RG.r) ⟨by rw [xI_sI (by omega)]; exact hS.1, by rw [xI_sI (by omega)]; exact hS.2.1, by rw [xI_sI (by omega)]; exact hS.2.2⟩ (by rw [xI_sI (by omega)]; exact h13) (by rw [xI_sI (by omega)]; exact h14) (fun x hx => ?_)⟩
      by_cases e : x = c
      · subst e; exact aI_sI _ _ _ _
      · rw [bI_sI e]; exact hz x (by omega)
  rw [eX11_reads, show Value.int 0 = .int (vI 0) from rfl]
  refine ⟨by simp only [ty_82], zl 36 0 rfl _ (((((RG.s (by decide)).trans (RG.s (by decide))).trans (RG.s (by decide))).trans (RG.s (by decide))).trans (RG.s (by decide))) ⟨?_, ?_, ?_⟩ ?_ ?_ (fun x hx => absurd hx (Nat.not_lt_zero x))⟩
  · simp (disch := omega) only [aI_sI, xI_sI]; rfl
  · simp (disch := omega) only [aI_sI, xI_sI]; rfl
  · simp (disch := omega) only [aI_sI, xI_sI]; rfl
  · simp (disch := omega) only [aI_sI, xI_sI]; rfl
  · simp (disch := omega) only [aI_sI]; rfl
end Reads
theorem TK_inv {MZ M : MM} {n : Nat} (hZ : StrZ MZ) (hI : INV MZ n M) : ∃ (T : Nat) (tx : Nat → Nat), TK MZ M T tx ∧ RK M T tx := by
  obtain ⟨i1, i2, i3, i4, i5, ⟨T, t1, t2, t3, t4⟩, i9, i10⟩ := hI
  classical
  refine ⟨T, fun j => if h : j < T then Classical.choose (t4 j h) else 0, ⟨hZ, i4, pc_22_0 i1, pc_22_1 i1, t2, t1, fun j hj => ?_⟩, ⟨i2, t3, t1, fun j hj => ?_⟩⟩
  · simp only [dif_pos hj]
    have := Classical.choose_spec (t4 j hj)
    exact ⟨this.1, this.2.1⟩
  · simp only [dif_pos hj]
    have := Classical.choose_spec (t4 j hj)
    exact ⟨this.1, this.2.2⟩
def At (a : Nat) : Prop := a = 22 ∨ a = 23 ∨ a = 82 ∨ a = 88 ∨ a = 89
theorem INV_tx {MZ : MM} {n : Nat} {M M' : MM} (h2 : M'.2.2 = M.2.2) (hl : ∀ a : Nat, ¬ a = 24 → mL M' a = mL M a) (h : ∀ a : Nat, ¬ At a → mI M' a = mI M a) (h82 : ∀ k : Nat, k = 2 ∨ k = 6 ∨ k = 28 → mI M' 82 k = mI M 82 k) (hT : Txt M') (hI : INV MZ n M) : INV MZ n M' := by
  obtain ⟨i1, i2, i3, i4, ⟨L, i5, i6, i7⟩, i8, i9, i10⟩ := hI
  have hr : mR M' = mR M := by show M'.2.2.1 = _; rw [h2]; rfl
  have hn : mN M' = mN M := by show M'.2.2.2 = _; rw [h2]; rfl
  have rr : ∀ a : Nat, mR M' a = mR M a := fun a => by rw [hr]
  exact ⟨fun t ht => by rw [hr]; exact i1 t ht, fun t ht => by rw [hr]; exact i2 t ht, SOK_r (fun a _ => rr a) i3, fun a ha => ⟨by rw [h a (by unfold At; omega)]; exact (i4 a ha).1, by rw [rr]; exact (i4 a ha).2⟩, ⟨L, Lnd_of hn (by rw [h 21 (by unfold At; omega)]) (h82 6 (by omega)) (fun a ha => ⟨h a (by unfold At; omega), hl a (by omega), rr a⟩) (fun a ha => h a (by unfold At; omega)) i5, Scn_ag (fun a h1 h2 => ⟨h a (by unfold At; omega), rr a⟩) (h 83 (by unfold At; omega)) i6, Img_ag (by rw [h 21 (by unfold At; omega)]) (h82 2 (by omega)) (fun q => Scn_ag (fun a h1 h2 => ⟨h a (by unfold At; omega), rr a⟩) (h 84 (by unfold At; omega)) q) i7⟩, hT, Bod_ag (h 26 (by unfold At; omega)) (h82 28 (by omega)) (h 27 (by unfold At; omega)) (h 96 (by unfold At; omega)) i9, Tap_ag (fun a ha => ⟨h a (by unfold At; omega), hl a (by omega)⟩) i10⟩
section PLand
variable {MZ M : MM} {n d : Nat} {Q : Option Value → MM → Prop}
theorem p_feed (hZ : StrZ MZ) (hI : INV MZ n M) (z : Int32) : PRI MZ (d + 12) n kX10_feed kX11_feed [.int z] M := by
  have hp := hI.1
  have hpm := hI.2.1
  have hI1 := INV_mono hI
  obtain ⟨T, tx, hK, hR⟩ := TK_inv hZ hI
  obtain ⟨k1, k2, k3, k4, k5, k6, k7⟩ := hK
  obtain ⟨r1, r2, r3, r4⟩ := hR
  unfold PRI
  rw [eX10_feed]
  by_cases h0 : z < 0
  · rw [if_pos h0]
    refine ⟨_, rfl, ?_⟩
    rw [eX11_feed, if_pos h0]
    exact ⟨rfl, hI1⟩
  rw [if_neg h0]
  by_cases h127 : (127 : Int32) < z
  · rw [if_pos h127]
    refine ⟨_, rfl, ?_⟩
    rw [eX11_feed, if_neg h0, if_pos h127]
    exact ⟨rfl, hI1⟩
  rw [if_neg h127]
  obtain ⟨c, hc, rfl⟩ := inR_pos h0
  have hc128 : c < 128 := by rw [lt_ln hc (by decide)] at h127; omega
  have e8 : (vI c).toInt8.toInt32 = vI c := by
    have hd : ∀ c : Nat, c < 128 → (vI c).toInt8.toInt32 = vI c := by decide +kernel
    exact hd c hc128
  simp only [ty_21, pc_21_0 hp, ty_22, true_and, and_true, Option.some.injEq, exists_eq_left']
  rw [eX7_add, k5, if_neg (by rw [vI_neg (by omega)]; exact id)]
  by_cases hT : T < 100
  · rw [if_pos (by rw [lt_nl (by omega) (by decide)]; exact hT)]
    simp only [ty_22, k3, ty_23, true_and, and_true, Option.some.injEq, exists_eq_left']
    rw [inb_n (by omega), vI_cl (by omega), e8, show nbv 22 (vI c) = vI c by unfold nbv; rw [if_pos rfl, e8], rI_sI (by decide), k5, add_nl]
    refine ⟨Or.inl trivial, hT, ?_⟩
    simp only [Option.toList_some, Option.toList_none, List.cons_append, List.nil_append]
    rw [gX10_feed_21, if_neg (by decide)]
    simp only [ty_21, ty_22, true_and, and_true, Option.some.injEq, exists_eq_left']
    rw [show mR (sI (sI M 23 T (vI c)) 22 5 (vI (T + 1))) 21 0 = some 22 from pc_21_0 hp]
    refine ⟨22, rfl, by simp only [ty_22], ?_⟩
    rw [aI_sI]
    refine ⟨_, rfl, ?_⟩
    have q8 : mI (sI (sI M 23 T (vI c)) 22 5 (vI (T + 1))) 82 8 = vI T := by rw [xI_sI (by omega), xI_sI (by omega)]; exact r2
    rw [eX11_feed, if_neg h0, if_neg h127, q8, if_neg (by rw [eq_nl (by omega) (by decide)]; omega)]
    rw [show mR (sI (sI M 23 T (vI c)) 22 5 (vI (T + 1))) 82 7 = some 88 from pm_7 hpm]
    refine ⟨by simp only [ty_82], 88, rfl, by simp only [ty_88], by rw [ty_88, inb_n (by omega)]; exact hT, ?_⟩
    rw [vI_cl (by omega), aI_sI, xI_sI (by omega), q8, add_nl]
    refine ⟨rfl, INV_mono (INV_tx (M := M) rfl (fun _ _ => rfl) (fun a ha => ?_) (fun k hk => ?_) ⟨T + 1, by omega, ?_, aI_sI _ _ _ _, fun j hj => ?_⟩ hI)⟩
    · unfold At at ha
      rw [rI_sI (by omega), rI_sI (by omega), rI_sI (by omega), rI_sI (by omega)]
    · rw [xI_sI (by omega), xI_sI (by omega), xI_sI (by omega), xI_sI (by omega)]
    · simp (disch := omega) only [aI_sI, xI_sI]
    · by_cases e : j = T
      · subst e
        refine ⟨c, hc128, ?_, ?_⟩
        · simp (disch := omega) only [aI_sI, xI_sI]
        · simp (disch := omega) only [aI_sI, xI_sI]
      · refine ⟨tx j, (k7 j (by omega)).1, ?_, ?_⟩
        · simp (disch := omega) only [xI_sI]; exact (k7 j (by omega)).2
        · simp (disch := omega) only [xI_sI]; exact (r4 j (by omega)).2
  · rw [if_neg (by rw [lt_nl (by omega) (by decide)]; exact hT)]
    simp only [ty_22, true_and, Option.toList_some, Option.toList_none, List.cons_append, List.nil_append]
    rw [gX10_feed_21, if_pos rfl]
    refine ⟨_, rfl, ?_⟩
    rw [eX11_feed, if_neg h0, if_neg h127, r2, if_pos (by rw [eq_nl (by omega) (by decide)]; omega)]
    exact ⟨by simp only [ty_82], rfl, hI1⟩
theorem LandC_loc {M' : MM} {p onN bk N : Nat} {mk : Nat → Nat → Prop} (hp : p = 29 ∨ (101 ≤ p ∧ p + 2 < N)) (h : ∀ a : Nat, (29 ≤ a ∧ a ≤ 32) ∨ (101 ≤ a ∧ a < N) → mI M' a = mI M a ∧ mL M' a = mL M a ∧ mR M' a = mR M a) (hL : LandC M p onN bk mk) : LandC M' p onN bk mk := by
  obtain ⟨h1, h2, h3, h4, h5, h6, qo, qf, hq, h7⟩ := hL
  have np := h p (by omega)
  have no := h qo (by unfold lq at hq; omega)
  have nf := h qf (by unfold lq at hq; omega)
  unfold LandC
  rw [np.1, np.2.1, np.2.2]
  refine ⟨h1, h2, h3, h4, h5, h6, qo, qf, hq, ?_⟩
  rw [no.2.1, nf.2.1]
  exact h7
theorem ty_land : ∀ L : Nat, L < 6 → TY (101 + 3 * L) = (3, 0) ∧ TY (101 + 3 * L + 1) = (21, 4) ∧ TY (101 + 3 * L + 2) = (21, 4) := by decide +kernel
theorem cl4_b (n : Nat) : 0 < cl4 n ∧ cl4 n < 5 := by
  unfold cl4
  by_cases h : n < 1
  · rw [if_pos h]; omega
  · rw [if_neg h]
    by_cases h2 : 4 < n
    · rw [if_pos h2]; omega
    · rw [if_neg h2]; omega
theorem m_held {x : Nat} (hx : x < 100) : CL d kX11_held [.int (vI x)] M Q = Q (some (.int (vI (cl4 x)))) M := by
  rw [eX11_held]
  unfold cl4
  by_cases h : x < 1
  · rw [if_pos (by rw [lt_nl (by omega) (by decide)]; exact h), if_pos h]; rfl
  · rw [if_neg (by rw [lt_nl (by omega) (by decide)]; exact h), if_neg h]
    by_cases h2 : 4 < x
    · rw [if_pos (by rw [lt_ln (by omega) (by decide)]; exact h2), if_pos h2]; rfl
    · rw [if_neg (by rw [lt_ln (by omega) (by decide)]; exact h2), if_neg h2]
/-- the reference's marks go into its row of lands -/
theorem m_land70 {L : Nat} (hL : L < 6) : ∀ m c : Nat, c + m = 36 → ∀ M1 : MM, PM M1 → mI M1 82 6 = vI L → mI M1 89 = mI M 89 → FM (fun a => a = 87) M M1 → mL M1 = mL M → mR M1 = mR M → (∀ x : Nat, x < c → mI M1 87 (36 * L + x) = mI M 89 x) → (∀ j : Nat, j < 36 * L → mI M1 87 j = mI M 87 j) →
    (∀ M' : MM, FM (fun a => a = 87) M M' → mL M' = mL M → mR M' = mR M → (∀ x : Nat, x < 36 → mI M' 87 (36 * L + x) = mI M 89 x) → (∀ j : Nat, j < 36 * L → mI M' 87 j = mI M 87 j) → Q (some (.int (vI L))) (sI (sI M' 83 1 (vI L)) 82 6 (vI (L + 1)))) →
    WP (d + 1) kX11_land (70, [.ref 82, .int (vI c)], [], M1) Q := by
  intro m
  induction m with
  | zero =>
    intro c hc M1 hp h6 h89 hF hl hr hx hj h
    obtain rfl : c = 36 := by omega
    rw [gX11_land_70, if_neg (by decide), pm_0 hp]
    refine ⟨by simp only [ty_82], 83, rfl, by simp only [ty_83], by rw [ty_83]; decide, by rw [ty_83]; decide, ?_⟩
    rw [show (1 : Int32).toNatClampNeg = 1 from rfl, h6, xI_sI (by omega), aI_sI, xI_sI (by omega), h6, add_nl]
    exact h M1 hF hl hr hx hj
  | succ m ih =>
    intro c hc M1 hp h6 h89 hF hl hr hx hj h
    rw [gX11_land_70, if_pos (by rw [lt_nl (by omega) (by decide)]; omega)]
    simp (disch := omega) only [ty_82, pm_12 hp, pm_5 hp, ty_87, ty_89, h6, mul_ln, vI_add, inb_n, vI_cl, add_nl, true_and, and_true, Option.some.injEq, exists_eq_left']
    refine ⟨by omega, by omega, ?_⟩
    refine ih (c + 1) (by omega) _ hp (by rw [xI_sI (by omega)]; exact h6) (by rw [rI_sI (by decide)]; exact h89) (hF.trans (fr_sI rfl)) hl hr (fun x hx2 => ?_) (fun j hj2 => ?_) h
    · by_cases e : x = c
      · subst e; rw [aI_sI, h89]
      · rw [bI_sI (by omega)]; exact hx x (by omega)
    · rw [bI_sI (by omega)]; exact hj j hj2
theorem p_land (hZ : StrZ MZ) (hI : INV MZ n M) : PRI MZ (d + 30) n kX10_land kX11_land [] M := by
  have hp := hI.1
  have hpm := hI.2.1
  have hI1 := INV_mono hI
  obtain ⟨T, tx, hK, hR⟩ := TK_inv hZ hI
  obtain ⟨i1, i2, i3, i4, ⟨L, i5, i6, i7⟩, i8, i9, i10⟩ := id hI
  obtain ⟨l1, l2, l3, l4, l5, l6⟩ := id i5
  unfold PRI
  rw [eX10_land, l2]
  refine ⟨by simp only [ty_21], ?_⟩
  by_cases hL : L < 6
  · obtain ⟨tp, t1, t2⟩ := ty_land L hL
    rw [if_pos (by rw [lt_nl (by omega) (by decide)]; exact hL)]
    refine ⟨22, pc_21_0 hp, by simp only [ty_22], ?_⟩
    refine s_parsed (d := d + 6) hK (fun hno M1 hG h6 => ?_) (fun σ hyes M1 z hG hX => ?_)
    · -- a fault
      have hR1 : mR M1 = mR M := by show M1.2.2.1 = _; rw [hG.1]; rfl
      simp only [Option.toList_some, Option.toList_none, List.cons_append, List.nil_append]
      rw [gX10_land_19, hR1, pc_21_0 hp]
      refine ⟨by simp only [ty_21], 22, rfl, by simp only [ty_22], ?_⟩
      simp only [Option.elim_none]
      rw [xI_sI (by omega), h6]
      refine ⟨_, rfl, ?_⟩
      have hpm2 : PM (sI M1 22 5 0) := fun t ht => by show mR M1 82 t.1 = _; rw [hR1]; exact hpm t ht
      have r82 : ∀ k : Nat, mI (sI M1 22 5 0) 82 k = mI M 82 k := fun k => by rw [xI_sI (by omega), hG.2.2.1 82 (by decide)]
      have r88 : ∀ k : Nat, mI (sI M1 22 5 0) 88 k = mI M 88 k := fun k => by rw [xI_sI (by omega), hG.2.2.1 88 (by decide)]
      have hRK : RK (sI M1 22 5 0) T tx := ⟨hpm2, by rw [r82]; exact hR.2.1, hR.2.2.1, fun j hj => by rw [r88]; exact hR.2.2.2 j hj⟩
      rw [eX11_land, r82, l3, if_neg (by rw [eq_nl (by omega) (by decide)]; omega)]
      refine ⟨by simp only [ty_82], m_reads (d := d + 9) hRK (fun M2 hG2 g9 g11 gX => ?_)⟩
      simp only [Option.toList_some, Option.toList_none, List.cons_append, List.nil_append]
      rw [gX11_land_16, xI_sI (by omega), g11, hno, if_neg (by decide), xI_sI (by omega), g9]
      refine ⟨by simp only [ty_82], rfl, INV_mono (INV_tx (M := M) ?_ (fun a ha => ?_) (fun a ha => ?_) (fun k hk => ?_) ⟨0, by decide, ?_, ?_, fun j hj => absurd hj (Nat.not_lt_zero j)⟩ hI)⟩
      · show M2.2.2 = _
        rw [hG2.1]; exact hG.1
      · show M2.2.1 a = _
        rw [hG2.1]; exact hG.2.1 a ha
      · unfold At at ha
        rw [rI_sI (by omega), hG2.2.1 a (by omega) (by omega), rI_sI (by omega), hG.2.2.1 a (by omega)]
      · rw [xI_sI (by omega), hG2.2.2 k (by omega), r82]
      · rw [xI_sI (by omega), hG2.2.1 22 (by decide) (by decide), aI_sI]; rfl
      · rw [aI_sI]; rfl
    · -- a land
      have hR1 : mR M1 = mR M := by show M1.2.2.1 = _; rw [hG.1]; rfl
      have hN1 : mN M1 = 101 + 3 * L := by show M1.2.2.2 = _; rw [hG.1]; exact l4
      refine ⟨by rw [hN1]; exact tp, ?_⟩
      rw [hN1, gX7_parsed_84]
      have n2 : mN (nw M1) = 101 + 3 * L + 1 := by show mN M1 + 1 = _; rw [hN1]
      have w1 : mI (nw M1) 22 2 = vI (cl4 σ.1) := by rw [mI_nw, hN1, if_neg (by omega)]; exact hX.1
      have w2 : mI (nw M1) 22 3 = vI (cl4 σ.2.1) := by rw [mI_nw, hN1, if_neg (by omega)]; exact hX.2.1
      have w3 : mR (nw M1) 22 1 = some 24 := by rw [mR_nw, hN1, if_neg (by omega), hR1]; exact pc_22_1 hp
      rw [w1, w2, w3, tp]
      refine ⟨by simp only [ty_22], rfl, ?_⟩
      refine s_land3 (mk := σ.2.2) (by omega) tp t1 t2 n2 (fun k hk => by rw [mL_nw, hN1, if_neg (by omega)]; exact hX.2.2 k hk) (fun M2 hN2 hNL hLC => ?_)
      simp only [Option.toList_some, Option.toList_none, List.cons_append, List.nil_append]
      rw [gX7_parsed_100]
      simp only [Option.toList_some, Option.toList_none, List.cons_append, List.nil_append]
      have c1 : ∀ a : Nat, a < 101 + 3 * L → mI M2 a = mI M1 a ∧ mL M2 a = mL M1 a ∧ mR M2 a = mR M1 a := fun a ha => by
        obtain ⟨q1, q2, q3⟩ := hNL a (by omega) (by omega) (by omega)
        refine ⟨q1.trans ?_, q2.trans ?_, q3.trans ?_⟩
        · exact funext fun j => by rw [mI_nw, hN1, if_neg (by omega)]
        · exact funext fun j => by rw [mL_nw, hN1, if_neg (by omega)]
        · exact funext fun j => by rw [mR_nw, hN1, if_neg (by omega)]
      have cR : ∀ a : Nat, a < 101 + 3 * L → mR M2 a = mR M a := fun a ha => by rw [(c1 a ha).2.2, hR1]
      rw [gX10_land_19, cR 21 (by omega), pc_21_0 hp]
      refine ⟨by simp only [ty_21], 22, rfl, by simp only [ty_22], ?_⟩
      simp only [Option.elim_some]
      rw [pc_21_1 hp]
      refine ⟨33, rfl, by simp only [ty_33], ?_⟩
      have e10 : mI (sR (sI M2 22 5 0) 33 4 (some (101 + 3 * L))) 21 10 = vI L := by
        show mI (sI M2 22 5 0) 21 10 = _
        rw [xI_sI (by omega), (c1 21 (by omega)).1, hG.2.2.1 21 (by decide)]; exact l2
      rw [e10, add_nl, aI_sI, sub_nl (by omega), show L + 1 - 1 = L by omega]
      refine ⟨_, rfl, ?_⟩
      -- the class is done
      generalize hM3 : sI (sR (sI M2 22 5 0) 33 4 (some (101 + 3 * L))) 21 10 (vI (L + 1)) = M3
      have a3 : ∀ a j : Nat, ¬ (a = 22 ∧ j = 5) → ¬ (a = 21 ∧ j = 10) → mI M3 a j = mI M2 a j := fun a j h1 h2 => by
        rw [← hM3, xI_sI h2]
        show mI (sI M2 22 5 0) a j = _
        rw [xI_sI h1]
      have b3 : mI M3 22 5 = vI 0 := by
        rw [← hM3, xI_sI (by omega)]
        show mI (sI M2 22 5 0) 22 5 = _
        rw [aI_sI]; rfl
      have d3 : mI M3 21 10 = vI (L + 1) := by rw [← hM3, aI_sI]
      have L3 : M3.2.1 = M2.2.1 := by rw [← hM3]; rfl
      have R3 : ∀ a k : Nat, mR M3 a k = if a = 33 ∧ k = 4 then some (101 + 3 * L) else mR M2 a k := fun a k => by rw [← hM3]; rfl
      have N3 : mN M3 = mN M2 := by rw [← hM3]; rfl
      clear hM3 e10
      have m3 : ∀ a j : Nat, a < 101 + 3 * L → ¬ a = 22 → ¬ (a = 21 ∧ j = 10) → mI M3 a j = mI M a j := fun a j h1 h2 h3 => by
        rw [a3 a j (by omega) h3, (c1 a h1).1, hG.2.2.1 a h2]
      have hpm3 : PM M3 := fun t ht => by rw [R3, if_neg (by omega), cR 82 (by omega)]; exact hpm t ht
      have hRK : RK M3 T tx := ⟨hpm3, by rw [m3 82 8 (by omega) (by omega) (by omega)]; exact hR.2.1, hR.2.2.1, fun j hj => by rw [m3 88 j (by omega) (by omega) (by omega)]; exact hR.2.2.2 j hj⟩
      rw [eX11_land, m3 82 6 (by omega) (by omega) (by omega), l3, if_neg (by rw [eq_nl (by omega) (by decide)]; omega)]
      refine ⟨by simp only [ty_82], m_reads (d := d + 9) hRK (fun M4 hG2 g9 g11 gX => ?_)⟩
      obtain ⟨x1, x2, x3, x4, x5⟩ := gX σ hyes
      have R4 : mR M4 = mR M3 := by show M4.2.2.1 = _; rw [hG2.1]; rfl
      have hpm4 : PM M4 := fun t ht => by rw [R4]; exact hpm3 t ht
      have s6 : mI M4 82 6 = vI L := by rw [hG2.2.2 6 (by decide), m3 82 6 (by omega) (by omega) (by omega)]; exact l3
      simp only [Option.toList_some, Option.toList_none, List.cons_append, List.nil_append]
      rw [gX11_land_16, xI_sI (by omega), g11, hyes, if_pos (by rfl), xI_sI (by omega), x1, m_held x3, xI_sI (by omega), s6, pm_3 hpm4, rf_some]
      refine ⟨by simp only [ty_82], ?_⟩
      simp only [Option.toList_some, Option.toList_none, List.cons_append, List.nil_append]
      rw [gX11_land_51, ty_85, inb_n (by omega), vI_cl (by omega), xI_sI (by omega), xI_sI (by omega), x2, m_held x4, xI_sI (by omega), xI_sI (by omega), s6]
      refine ⟨rfl, hL, by simp only [ty_82], ?_⟩
      rw [show mR (sI M4 82 8 0) 82 4 = some 86 from pm_4 hpm4, rf_some]
      simp only [Option.toList_some, Option.toList_none, List.cons_append, List.nil_append]
      rw [gX11_land_67, ty_86, inb_n (by omega), vI_cl (by omega), show (0 : Int32) = vI 0 from rfl]
      refine ⟨rfl, hL, ?_⟩
      refine m_land70 (M := sI (sI (sI M4 82 8 (vI 0)) 85 L (vI (cl4 σ.1))) 86 L (vI (cl4 σ.2.1))) (d := d + 29) hL 36 0 rfl _ hpm4 (by simp (disch := omega) only [xI_sI]; exact s6) rfl (FM.refl _ _) rfl rfl (fun x hx => absurd hx (Nat.not_lt_zero x)) (fun _ _ => rfl) (fun M5 hF5 hL5 hR5 h87 h87b => ⟨rfl, ?_⟩)
      -- what stands in the end
      generalize hM6 : sI (sI M5 83 1 (vI L)) 82 6 (vI (L + 1)) = M6
      have N6 : mN M6 = 101 + 3 * L + 3 := by
        rw [← hM6]
        show mN M5 = _
        rw [hF5.1]
        show mN M4 = _
        show M4.2.2.2 = _
        rw [hG2.1]
        exact N3.trans hN2
      have L6 : ∀ a : Nat, mL M6 a = mL M2 a := fun a => by
        rw [← hM6]
        show mL M5 a = _
        rw [hL5]
        show M4.2.1 a = _
        rw [hG2.1, L3]; rfl
      have R6 : ∀ a k : Nat, mR M6 a k = if a = 33 ∧ k = 4 then some (101 + 3 * L) else mR M2 a k := fun a k => by
        rw [← R3 a k, ← hM6]
        show mR M5 a k = _
        rw [hR5]
        show mR M4 a k = _
        rw [R4]
      have I6 : ∀ a j : Nat, ¬ a = 82 → ¬ (a = 83 ∧ j = 1) → ¬ (a = 85 ∧ j = L) → ¬ (a = 86 ∧ j = L) → ¬ a = 87 → ¬ a = 89 → mI M6 a j = mI M3 a j := fun a j h1 h2 h3 h4 h5 h6 => by
        rw [← hM6, xI_sI (by omega), xI_sI (by omega), hF5.i h5, xI_sI (by omega), xI_sI (by omega), xI_sI (by omega), hG2.2.1 a h1 h6]
      have K6 : ∀ k : Nat, k = 2 ∨ k = 28 → mI M6 82 k = mI M 82 k := fun k hk => by
        rw [← hM6, xI_sI (by omega), xI_sI (by omega), hF5.i (by decide), xI_sI (by omega), xI_sI (by omega), xI_sI (by omega), hG2.2.2 k (by omega), m3 82 k (by omega) (by omega) (by omega)]
      have q1 : mI M6 82 6 = vI (L + 1) := by rw [← hM6, aI_sI]
      have q2 : mI M6 82 8 = vI 0 := by rw [← hM6, xI_sI (by omega), xI_sI (by omega), hF5.i (by decide), xI_sI (by omega), xI_sI (by omega), aI_sI]
      have q3 : mI M6 83 1 = vI L := by rw [← hM6, xI_sI (by omega), aI_sI]
      have q4 : mI M6 85 L = vI (cl4 σ.1) := by rw [← hM6, xI_sI (by omega), xI_sI (by omega), hF5.i (by decide), xI_sI (by omega), aI_sI]
      have q5 : mI M6 86 L = vI (cl4 σ.2.1) := by rw [← hM6, xI_sI (by omega), xI_sI (by omega), hF5.i (by decide), aI_sI]
      have q6 : ∀ x : Nat, x < 36 → mI M6 87 (36 * L + x) = vI (mb (fun k => σ.2.2 k x) 4) := fun x hx => by
        rw [← hM6, xI_sI (by omega), xI_sI (by omega), h87 x hx, xI_sI (by omega), xI_sI (by omega), xI_sI (by omega)]
        exact x5 x hx
      have q7 : ∀ j : Nat, j < 36 * L → mI M6 87 j = mI M 87 j := fun j hj => by
        rw [← hM6, xI_sI (by omega), xI_sI (by omega), h87b j hj, xI_sI (by omega), xI_sI (by omega), xI_sI (by omega), hG2.2.1 87 (by decide) (by decide), m3 87 j (by omega) (by omega) (by omega)]
      clear hM6
      have r6 : ∀ a j : Nat, a < 101 + 3 * L → ¬ a = 22 → ¬ (a = 21 ∧ j = 10) → ¬ a = 82 → ¬ (a = 83 ∧ j = 1) → ¬ (a = 85 ∧ j = L) → ¬ (a = 86 ∧ j = L) → ¬ a = 87 → ¬ a = 89 → mI M6 a j = mI M a j := fun a j g1 g2 g3 g4 g5 g6 g7 g8 g9 => by
        rw [I6 a j g4 g5 g6 g7 g8 g9, m3 a j g1 g2 g3]
      have rL : ∀ a : Nat, a < 101 + 3 * L → ¬ a = 24 → mL M6 a = mL M a := fun a h1 h2 => by rw [L6, (c1 a h1).2.1, hG.2.1 a h2]
      have rR : ∀ a k : Nat, a < 101 + 3 * L → ¬ (a = 33 ∧ k = 4) → mR M6 a k = mR M a k := fun a k h1 h2 => by rw [R6, if_neg h2, cR a h1]
      have big : ∀ a : Nat, 101 ≤ a → mI M6 a = mI M2 a ∧ mL M6 a = mL M2 a ∧ mR M6 a = mR M2 a := fun a ha => ⟨funext fun j => by rw [I6 a j (by omega) (by omega) (by omega) (by omega) (by omega) (by omega), a3 a j (by omega) (by omega)], L6 a, funext fun k => by rw [R6, if_neg (by omega)]⟩
      have oldL : ∀ a : Nat, (29 ≤ a ∧ a ≤ 32) ∨ (101 ≤ a ∧ a < 101 + 3 * L) → mI M6 a = mI M a ∧ mL M6 a = mL M a ∧ mR M6 a = mR M a := fun a ha => ⟨funext fun j => r6 a j (by omega) (by omega) (by omega) (by omega) (by omega) (by omega) (by omega) (by omega) (by omega), rL a (by omega) (by omega), funext fun k => rR a k (by omega) (by omega)⟩
      have hcb1 := cl4_b σ.1
      have hcb2 := cl4_b σ.2.1
      have hd : ∀ t ∈ ptC, ¬ (t.1 = 33 ∧ t.2.1 = 4) ∧ t.1 < 101 := by decide
      have hSm : ∀ {sc ms : Nat}, Scn n L M sc ms → ScnW n M sc ms := fun h => h.2.1
      refine ⟨fun t ht => ?_, fun t ht => ?_, SOK_r (fun a ha => ?_) i3, fun a ha => ⟨?_, ?_⟩, ⟨L + 1, ⟨by omega, ?_, q1, by rw [N6]; omega, LandC_loc (Or.inl rfl) oldL l5, fun i hi => ?_⟩, ⟨Or.inr ⟨L, by omega, q3, ?_⟩, ?_, ?_, ?_⟩, ?_⟩, ⟨0, by decide, ?_, q2, fun j hj => absurd hj (Nat.not_lt_zero j)⟩, Bod_ag ?_ (K6 28 (by omega)) ?_ ?_ i9, Tap_ag (fun a ha => ⟨?_, ?_⟩) i10⟩
      · rw [rR _ _ (by have := (hd t ht).2; omega) (hd t ht).1]; exact i1 t ht
      · rw [rR 82 _ (by omega) (by omega)]; exact hpm t ht
      · exact funext fun k => rR a k (by omega) (by omega)
      · rw [← (i4 a ha).1]
        exact funext fun j => r6 a j (by omega) (by omega) (by omega) (by omega) (by omega) (by omega) (by omega) (by omega) (by omega)
      · rw [← (i4 a ha).2]
        exact funext fun k => rR a k (by omega) (by omega)
      · rw [I6 21 10 (by decide) (by decide) (by omega) (by omega) (by decide) (by decide)]; exact d3
      · by_cases e : i = L
        · subst e
          refine ⟨_, _, σ.2.2, by unfold bnL; omega, LandC_loc (N := 101 + 3 * i + 3) (Or.inr ⟨by omega, by omega⟩) (fun a ha => ?_) hLC, q4, q5, fun k c hk hc => ?_⟩
          · rcases ha with ha | ha
            · have o := oldL a (Or.inl ha)
              have o2 := c1 a (by omega)
              refine ⟨o.1.trans ?_, o.2.1.trans ?_, o.2.2.trans ?_⟩
              · rw [o2.1, hG.2.2.1 a (by omega)]
              · rw [o2.2.1, hG.2.1 a (by omega)]
              · rw [o2.2.2, hR1]
            · exact big a ha.1
          · rw [q6 c hc, mb4_6, mb_bit1 _ (by omega)]
            exact ⟨fun h => h.2, fun h => ⟨hk, h⟩⟩
        · obtain ⟨onN, bk, mk, e1, e2, e3, e4, e5⟩ := l6 i (by omega)
          refine ⟨onN, bk, mk, e1, LandC_loc (Or.inr ⟨by omega, by omega⟩) oldL e2, ?_, ?_, fun k c hk hc => ?_⟩
          · rw [r6 85 i (by omega) (by omega) (by omega) (by omega) (by omega) (by omega) (by omega) (by omega) (by omega)]; exact e3
          · rw [r6 86 i (by omega) (by omega) (by omega) (by omega) (by omega) (by omega) (by omega) (by omega) (by omega)]; exact e4
          · rw [q7 (36 * i + c) (by omega)]; exact e5 k c hk hc
      · rw [R6, if_pos ⟨rfl, rfl⟩]
      · obtain ⟨nw, q1, q2, q3, q4⟩ := i6.2.1
        refine ⟨nw, q1, ?_, ?_, fun w hw => ?_⟩
        · rw [r6 33 1 (by omega) (by omega) (by omega) (by omega) (by omega) (by omega) (by omega) (by omega) (by omega)]; exact q2
        · rw [r6 83 0 (by omega) (by omega) (by omega) (by omega) (by omega) (by omega) (by omega) (by omega) (by omega)]; exact q3
        · obtain ⟨kd2, v2, c2, f2, bt2, gn2, cm2, j1, j2, j3, j4, j5⟩ := WkP_1 (M := M) (M' := M6) (funext fun j => r6 _ j (by omega) (by omega) (by omega) (by omega) (by omega) (by omega) (by omega) (by omega) (by omega)) (fun k hk => r6 83 _ (by omega) (by omega) (by omega) (by omega) (by omega) (by omega) (by omega) (by omega) (by omega)) (q4 w hw)
          exact ⟨kd2, v2, c2, f2, bt2, gn2, cm2, j1, j2, j3, by omega, j5⟩
      · have hR2 := i6.2.2.1
        rw [ScnR_rw] at hR2 ⊢
        exact RwP_1 (M := M) (r6 35 1 (by omega) (by omega) (by omega) (by omega) (by omega) (by omega) (by omega) (by omega) (by omega)) (r6 83 _ (by omega) (by omega) (by omega) (by omega) (by omega) (by omega) (by omega) (by omega) (by omega)) (fun j _ => r6 36 j (by omega) (by omega) (by omega) (by omega) (by omega) (by omega) (by omega) (by omega) (by omega)) (fun j _ => r6 83 _ (by omega) (by omega) (by omega) (by omega) (by omega) (by omega) (by omega) (by omega) (by omega)) hR2
      · have hR2 := i6.2.2.2
        rw [ScnT_rw] at hR2 ⊢
        exact RwP_1 (M := M) (r6 37 1 (by omega) (by omega) (by omega) (by omega) (by omega) (by omega) (by omega) (by omega) (by omega)) (r6 83 _ (by omega) (by omega) (by omega) (by omega) (by omega) (by omega) (by omega) (by omega) (by omega)) (fun j _ => r6 38 j (by omega) (by omega) (by omega) (by omega) (by omega) (by omega) (by omega) (by omega) (by omega)) (fun j _ => r6 83 _ (by omega) (by omega) (by omega) (by omega) (by omega) (by omega) (by omega) (by omega) (by omega)) hR2
      · obtain ⟨b, b1, b2, b3⟩ := i7
        refine ⟨b, ?_, (K6 2 (by omega)).trans b2, fun hb => ?_⟩
        · rw [r6 21 11 (by omega) (by omega) (by omega) (by omega) (by omega) (by omega) (by omega) (by omega) (by omega)]; exact b1
        · have hs := Scn_mono (Scn_ag (M := M) (M' := M6) (fun a h1 h2 => ⟨funext fun j => r6 a j (by omega) (by omega) (by omega) (by omega) (by omega) (by omega) (by omega) (by omega) (by omega), funext fun k => rR a k (by omega) (by omega)⟩) (funext fun j => r6 84 j (by omega) (by omega) (by omega) (by omega) (by omega) (by omega) (by omega) (by omega) (by omega)) (b3 hb))
          refine ⟨?_, hs.2⟩
          rcases hs.1 with h | ⟨i, h1, h2, h3⟩
          · exact Or.inl h
          · exact Or.inr ⟨i, by omega, h2, h3⟩
      · rw [I6 22 5 (by decide) (by decide) (by omega) (by omega) (by decide) (by decide)]; exact b3
      · exact funext fun j => r6 26 j (by omega) (by omega) (by omega) (by omega) (by omega) (by omega) (by omega) (by omega) (by omega)
      · exact funext fun j => r6 27 j (by omega) (by omega) (by omega) (by omega) (by omega) (by omega) (by omega) (by omega) (by omega)
      · exact funext fun j => r6 96 j (by omega) (by omega) (by omega) (by omega) (by omega) (by omega) (by omega) (by omega) (by omega)
      · exact funext fun j => r6 a j (by omega) (by omega) (by omega) (by omega) (by omega) (by omega) (by omega) (by omega) (by omega)
      · exact rL a (by omega) (by omega)
  · rw [if_neg (by rw [lt_nl (by omega) (by decide)]; exact hL)]
    refine ⟨_, rfl, ?_⟩
    rw [eX11_land, l3, if_pos (by rw [eq_nl (by omega) (by decide)]; omega)]
    exact ⟨by simp only [ty_82], rfl, hI1⟩
end PLand
