/-! ===== 55: lot on both sides ===== -/
theorem bcnt_dec : ∀ y : Nat, y < 64 → ∀ (d : Nat) (M : MM) (Q : Option Value → MM → Prop), CL d kJ6_bitCount_0f7a4 [.int (vI y)] M Q = Q (some (.int (vI (pop 6 y)))) M := by
  intro y hy d M Q
  rw [eJ6_bitCount_0f7a4]
  refine congrArg (fun z => Q (some (.int z)) M) ?_
  revert y
  decide +kernel
theorem q12_dec : ∀ n : Nat, n < 7 → ((12 : Int32) / vI n).toInt64 = vL (12 / n) := by decide +kernel
/-- the class's shares at 66: told by S -/
def LtS (M : MM) (p kd v b gn : Nat) (S : Nat → Nat) : Prop := ∃ qh qt : Nat, (mR M 66 0 = some qh ∧ mR M 66 1 = some qt ∧ mR M 66 2 = some 69 ∧ ((qh = 67 ∧ qt = 68) ∨ (qh = 68 ∧ qt = 67))) ∧ GA M 69 p kd v b gn ∧ ∀ j : Nat, j < 720 → mL M qh j = vL (S j)
theorem LtS.q {M : MM} {p kd v b gn : Nat} {S : Nat → Nat} (h : LtS M p kd v b gn S) : LtQ M := ⟨_, _, h.choose_spec.choose_spec.1⟩
theorem ty_678 {q : Nat} (h : q = 67 ∨ q = 68) : TY q = (21, 720) := by
  rcases h with rfl | rfl
  · exact ty_67
  · exact ty_68
section Lot
variable {MZ M : MM} {n d : Nat} {Q : Option Value → MM → Prop} {p onN bk : Nat} {mk : Nat → Nat → Prop} {kd v b gn : Nat}
theorem s_join4 {q c f w : Nat} {x : Int64} (hq : TY q = (21, 720)) (hc : c < 36) (hf : f < 4) (hw : w < 5) : CL d kX4_join [.ref q, .int (vI c), .int (vI f), .int (vI w), .long x] M Q = Q none (sL M q (psi c f w) (mL M q (psi c f w) + x)) := by
  have hlt := psi_lt hc hf hw
  have e : ((((vI c) * 4) + vI f) * 5) + vI w = vI (psi c f w) := by rw [mul_nl, vI_add, mul_nl, vI_add]; rfl
  rw [eX4_join, e, hq, if_neg (by rw [vI_neg (by omega)]; exact id), if_pos (show vI (psi c f w) < Int32.ofNat 720 by rw [show Int32.ofNat 720 = vI 720 from rfl, vI_lt (by omega) (by omega)]; exact hlt), inb_n (by omega), vI_cl (by omega)]
  exact propext ⟨fun h => h.2.2.2.2, fun h => ⟨by rfl, rfl, hlt, hlt, h⟩⟩
theorem s_part_loop (hG : GA M 69 p kd v b gn) (hn : bnd kd v b gn) {onN : Nat} {qt c f w s : Nat} (hqt : qt = 67 ∨ qt = 68) (hc : c < 36) (hf : f < 4) (hw : w < 5) (S : Nat → Nat) (hS : S (psi c f w) = s) (l7 : Int32) (l1 : Int64) (T : Nat → Nat) :
    ∀ m i : Nat, i + m = 6 → ∀ (M1 : MM) (l11 : Value), FM (fun x => x = qt) M M1 → mR M 66 1 = some qt → mR M 66 2 = some 69 → (∀ j : Nat, j < 720 → mL M1 qt j = vL (T j + shS mk kd v (b < onN) gn S j c f w i)) →
    (∀ M' : MM, FM (fun x => x = qt) M M' → (∀ j : Nat, j < 720 → mL M' qt j = vL (T j + shS mk kd v (b < onN) gn S j c f w 6)) → Q none M') →
    WP (d + 5) kX4_part (43, [.ref 66, .long l1, dm, .int (vI c), .int (vI f), .int (vI w), .int (vI (mb (may mk kd v (b < onN) gn c f w) 6)), .int l7, .long (vL (s * (12 / wys mk kd v (b < onN) gn c f w))), dm, .int (vI i), l11], [], M1) Q := by
  intro m
  induction m with
  | zero =>
    intro i hi M1 l11 hF h1 h2 hT h
    obtain rfl : i = 6 := by omega
    rw [gX4_part_43, if_neg (by decide)]
    exact h M1 hF hT
  | succ m ih =>
    intro i hi M1 l11 hF h1 h2 hT h
    have hi6 : i < 6 := by omega
    rw [gX4_part_43, if_pos (by rw [lt_nl (by omega) (by decide)]; omega)]
    by_cases hm : may mk kd v (b < onN) gn c f w i
    · have h69 : ¬ (69 : Nat) = qt := by omega
      have hwy := wy_lt (kd := kd) (a := i) hf hw
      have hG1 : GA M1 69 p kd v b gn := GA_fr hF h69 hG
      rw [if_neg (by rw [mb_bit0 _ hi6]; exact fun h => h hm)]
      refine ⟨by simp only [ty_66], 69, by rw [hF.r (by omega)]; exact h2, by simp only [ty_69], ?_⟩
      rw [s_way hG1 hn hi6 hf hw]
      simp only [Option.toList_some, Option.toList_none, List.cons_append, List.nil_append]
      rw [gX4_part_73]
      refine ⟨by simp only [ty_66], ?_⟩
      rw [s_next hc hwy (may_ok hm), hF.r (show ¬ (66 : Nat) = qt by omega), h1, rf_some]
      simp only [Option.toList_some, Option.toList_none, List.cons_append, List.nil_append]
      rw [gX4_part_85, s_facingBy hi6]
      simp only [Option.toList_some, Option.toList_none, List.cons_append, List.nil_append]
      rw [gX4_part_92, s_cameBy hi6 hf hw]
      simp only [Option.toList_some, Option.toList_none, List.cons_append, List.nil_append]
      rw [gX4_part_101, s_join4 (ty_678 hqt) (show nxc c (wy kd f w i) < 36 from tc_lt hc hf hw hm) (tf_lt hf) (tw_lt (kd := kd) hf hw)]
      simp only [Option.toList_some, Option.toList_none, List.cons_append, List.nil_append]
      rw [gX4_part_106, add_nl]
      have hps : psi (nxc c (wy kd f w i)) (tf f i) (tw kd f w i) < 720 := psi_lt (tc_lt hc hf hw hm) (tf_lt hf) (tw_lt hf hw)
      refine ih (i + 1) (by omega) _ _ (hF.trans (fr_sL rfl)) h1 h2 (fun j hj => ?_) h
      have e0 : shS mk kd v (b < onN) gn S j c f w (i + 1) = shS mk kd v (b < onN) gn S j c f w i + eB (may mk kd v (b < onN) gn c f w i ∧ psi (tc kd c f w i) (tf f i) (tw kd f w i) = j) * (S (psi c f w) * (12 / wys mk kd v (b < onN) gn c f w)) := rfl
      rw [e0, hS]
      by_cases e : j = psi (nxc c (wy kd f w i)) (tf f i) (tw kd f w i)
      · rw [eB_t ⟨hm, e.symm⟩, Nat.one_mul, ← Nat.add_assoc, e, aL_sL, hT _ hps, vL_add]
      · rw [eB_f (fun h => e h.2.symm), Nat.zero_mul, Nat.add_zero, bL_sL e]
        exact hT j hj
    · rw [if_pos (by rw [mb_bit0 _ hi6]; exact hm), add_nl]
      refine ih (i + 1) (by omega) M1 _ hF h1 h2 (fun j hj => ?_) h
      have e0 : shS mk kd v (b < onN) gn S j c f w (i + 1) = shS mk kd v (b < onN) gn S j c f w i + eB (may mk kd v (b < onN) gn c f w i ∧ psi (tc kd c f w i) (tf f i) (tw kd f w i) = j) * (S (psi c f w) * (12 / wys mk kd v (b < onN) gn c f w)) := rfl
      rw [e0, eB_f (fun h => hm h.1), Nat.zero_mul, Nat.add_zero]
      exact hT j hj
theorem pop_wys (mk : Nat → Nat → Prop) (kd v : Nat) (on : Prop) (gn c f w : Nat) : pop 6 (mb (may mk kd v on gn c f w) 6) = wys mk kd v on gn c f w := by
  unfold wys
  have h0 := eB_le (may mk kd v on gn c f w 0)
  have h1 := eB_le (may mk kd v on gn c f w 1)
  have h2 := eB_le (may mk kd v on gn c f w 2)
  have h3 := eB_le (may mk kd v on gn c f w 3)
  have h4 := eB_le (may mk kd v on gn c f w 4)
  have h5 := eB_le (may mk kd v on gn c f w 5)
  simp only [pop, sumN]
  rw [mb6]
  omega
theorem s_part (hG : GA M 69 p kd v b gn) (hL : LandC M p onN bk mk) (hn : bnd kd v b gn) (hB : bnL onN bk) {qt c f w s : Nat} (hqt : qt = 67 ∨ qt = 68) (h1 : mR M 66 1 = some qt) (h2 : mR M 66 2 = some 69) (hc : c < 36) (hf : f < 4) (hw : w < 5) (S : Nat → Nat) (hS : S (psi c f w) = s) (T : Nat → Nat) (hT : ∀ j : Nat, j < 720 → mL M qt j = vL (T j))
    (h : ∀ M' : MM, FM (fun x => x = qt) M M' → (∀ j : Nat, j < 720 → mL M' qt j = vL (T j + shS mk kd v (b < onN) gn S j c f w 6)) → Q none M') :
    CL (d + 5) kX4_part [.ref 66, .long (vL s), .int (vI c), .int (vI f), .int (vI w)] M Q := by
  have h64 := mb_lt64 (may mk kd v (b < onN) gn c f w)
  have hw4 := wys_le (mk := mk) (kd := kd) (v := v) (gn := gn) (c := c) (w := w) (on := b < onN) hf
  rw [eX4_part]
  refine ⟨by simp only [ty_66], 69, h2, by simp only [ty_69], ?_⟩
  rw [s_steps hG hL hn hB hc hf hw]
  simp only [Option.toList_some, Option.toList_none, List.cons_append, List.nil_append]
  rw [gX4_part_12, bcnt_dec _ h64, pop_wys]
  simp only [Option.toList_some, Option.toList_none, List.cons_append, List.nil_append]
  have hw1 : 0 < wys mk kd v (b < onN) gn c f w := by
    obtain ⟨a, ha, hm⟩ := may_one (mk := mk) (kd := kd) (v := v) (gn := gn) (c := c) (f := f) (w := w) (on := b < onN)
    have := sumN_mem (g := fun a => eB (may mk kd v (b < onN) gn c f w a)) 6 a ha
    simp only [eB_t hm] at this
    exact this
  rw [gX4_part_19, if_pos (by rw [lt_ln (by omega) (by decide)]; exact hw1), q12_dec _ (by omega), vL_mul]
  refine ⟨by rw [eq_nl (by omega) (by decide)]; omega, ?_⟩
  exact s_part_loop hG hn hqt hc hf hw S hS _ _ T 6 0 rfl M _ (FM.refl _ _) h1 h2 (fun j hj => by rw [hT j hj]; rfl) h
theorem s_ladv_loop (hG : GA M 69 p kd v b gn) (hL : LandC M p onN bk mk) (hn : bnd kd v b gn) (hB : bnL onN bk) {qh qt : Nat} (hq : (qh = 67 ∧ qt = 68) ∨ (qh = 68 ∧ qt = 67)) (h0 : mR M 66 0 = some qh) (h1 : mR M 66 1 = some qt) (h2 : mR M 66 2 = some 69) (S : Nat → Nat) (hSl : ∀ j : Nat, j < 720 → S j < 9223372036854775808) (hS : ∀ j : Nat, j < 720 → mL M qh j = vL (S j)) :
    ∀ m i : Nat, i + m = 720 → ∀ M1 : MM, FM (fun x => x = qt) M M1 → (∀ j : Nat, j < 720 → mL M1 qt j = vL (sumN i (shI mk kd v (b < onN) gn S j))) →
    (∀ M' : MM, FM (inS 66 4) M M' → LtS M' p kd v ((b + 1) % (onN + bk)) (gn + 1) (fun j => sumN 720 (shI mk kd v (b < onN) gn S j)) → Q none M') →
    WP (d + 6) kX4_advance (10, [.ref 66, .int (vI i)], [], M1) Q := by
  intro m
  induction m with
  | zero =>
    intro i hi M1 hF hT h
    obtain rfl : i = 720 := by omega
    have r66 : mR M1 66 = mR M 66 := hF.r (by omega)
    rw [gX4_advance_10, if_neg (by decide)]
    refine ⟨by simp only [ty_66], ?_⟩
    have e2 : mR (sR (sR M1 66 0 (mR M1 66 1)) 66 1 (mR M1 66 0)) 66 2 = some 69 := by
      rw [bR_sR (by decide), bR_sR (by decide), r66]; exact h2
    have hF2 : FM (fun x => x = 66) M1 (sR (sR M1 66 0 (mR M1 66 1)) 66 1 (mR M1 66 0)) := (fr_sR (S := fun x => x = 66) rfl).trans (fr_sR (S := fun x => x = 66) rfl)
    have hG2 : GA (sR (sR M1 66 0 (mR M1 66 1)) 66 1 (mR M1 66 0)) 69 p kd v b gn := GA_fr hF2 (by decide) (GA_fr hF (by omega) hG)
    have hL2 : LandC (sR (sR M1 66 0 (mR M1 66 1)) 66 1 (mR M1 66 0)) p onN bk mk := LandC_fm hF2 (fun x hx => by unfold Sq; omega) (LandC_fm hF (fun x hx => by unfold Sq; omega) hL)
    refine ⟨69, e2, by simp only [ty_69], ?_⟩
    rw [s_tick hG2 hL2 hn hB]
    simp only [Option.toList_some, Option.toList_none, List.cons_append, List.nil_append]
    rw [show mR M1 66 0 = some qh by rw [r66]; exact h0, rf_some, gX4_advance_81]
    have hF3 : FM (inS 66 4) M (sI (sI (sR (sR M1 66 0 (mR M1 66 1)) 66 1 (some qh)) 69 3 (vI ((b + 1) % (onN + bk)))) 69 4 (vI (gn + 1))) :=
      FM.trans (FM.trans (FM.trans (FM.trans (hF.mono (fun x hx => by unfold inS; omega)) (fr_sR (by unfold inS; omega))) (fr_sR (by unfold inS; omega))) (fr_sI (by unfold inS; omega))) (fr_sI (by unfold inS; omega))
    refine h _ hF3 ⟨qt, qh, ⟨?_, ?_, ?_, by omega⟩, ?_, fun j hj => hT j hj⟩
    · show mR (sR (sR M1 66 0 (mR M1 66 1)) 66 1 (some qh)) 66 0 = _
      rw [bR_sR (by decide), aR_sR, r66]; exact h1
    · show mR (sR (sR M1 66 0 (mR M1 66 1)) 66 1 (some qh)) 66 1 = _
      rw [aR_sR]
    · show mR (sR (sR M1 66 0 (mR M1 66 1)) 66 1 (some qh)) 66 2 = _
      rw [bR_sR (by decide), bR_sR (by decide), r66]; exact h2
    · obtain ⟨g1, g2, g3, g4, g5, g6⟩ := hG
      refine ⟨g1, ?_, ?_, ?_, ?_, ?_⟩
      · show mR (sR (sR M1 66 0 (mR M1 66 1)) 66 1 (some qh)) 69 0 = _
        rw [rR_sR (by decide), rR_sR (by decide), hF.r (show ¬ (69 : Nat) = qt by omega)]; exact g2
      · rw [xI_sI (by omega), xI_sI (by omega)]
        show mI M1 69 1 = _
        rw [hF.i (show ¬ (69 : Nat) = qt by omega)]; exact g3
      · rw [xI_sI (by omega), xI_sI (by omega)]
        show mI M1 69 2 = _
        rw [hF.i (show ¬ (69 : Nat) = qt by omega)]; exact g4
      · rw [xI_sI (by omega), aI_sI]
      · rw [aI_sI]
  | succ m ih =>
    intro i hi M1 hF hT h
    have hi2 : i < 720 := by omega
    have r66 : mR M1 66 = mR M 66 := hF.r (by omega)
    have rqh : mL M1 qh = mL M qh := hF.l (by omega)
    have tqh : TY qh = (21, 720) := ty_678 (by omega)
    rw [gX4_advance_10, if_pos (by rw [lt_nl (by omega) (by decide)]; omega)]
    simp only [ty_66, r66, h0, tqh, rqh, true_and, and_true, Option.some.injEq, exists_eq_left']
    rw [inb_n (by omega), vI_cl (by omega), hS i hi2, add_nl]
    refine ⟨hi2, ?_⟩
    by_cases hz : S i = 0
    · rw [if_pos (by rw [lg_0, hz]; rfl)]
      refine ih (i + 1) (by omega) M1 hF (fun j hj => ?_) h
      rw [hT j hj, sumN, show shI mk kd v (b < onN) gn S j i = 0 from shS_0 6 (by rw [psi_i]; exact hz), Nat.add_zero]
    · rw [if_neg (by rw [lg_0, show (0 : Int64) = vL 0 from rfl, vL_inj (hSl i hi2) (by decide)]; exact hz)]
      refine ⟨hi2, ?_⟩
      rw [div_nl (by omega) (by decide), div_nl (by omega) (by decide), rem_nl (by omega) (by decide), rem_nl (by omega) (by decide)]
      refine s_part (GA_fr hF (by omega) hG) (LandC_fm hF (fun x hx => by unfold Sq; omega) hL) hn hB (qt := qt) (by omega) (by rw [r66]; exact h1) (by rw [r66]; exact h2) (by omega) (by omega) (by omega) S (by rw [psi_i]) _ hT (fun M2 hF2 hT2 => ?_)
      simp only [Option.toList_some, Option.toList_none, List.cons_append, List.nil_append]
      rw [gX4_advance_50, add_nl]
      exact ih (i + 1) (by omega) M2 (hF.trans hF2) (fun j hj => by rw [hT2 j hj]; rfl) h
theorem s_ladv (hL : LandC M p onN bk mk) (hn : bnd kd v b gn) (hB : bnL onN bk) (S : Nat → Nat) (hSl : ∀ j : Nat, j < 720 → S j < 9223372036854775808) (hS : LtS M p kd v b gn S)
    (h : ∀ M' : MM, FM (inS 66 4) M M' → LtS M' p kd v ((b + 1) % (onN + bk)) (gn + 1) (fun j => sumN 720 (shI mk kd v (b < onN) gn S j)) → Q none M') : CL (d + 7) kX4_advance [.ref 66] M Q := by
  obtain ⟨qh, qt, ⟨h0, h1, h2, hq⟩, hG, hC⟩ := hS
  have tqt : TY qt = (21, 720) := ty_678 (by omega)
  have hF : FM (fun x => x = qt) M (flL M qt 720 0) := fr_flL (S := fun x => x = qt) rfl
  rw [eX4_advance, h1, rf_some, s_fill tqt (by decide)]
  refine ⟨by simp only [ty_66], ?_⟩
  simp only [Option.toList_some, Option.toList_none, List.cons_append, List.nil_append]
  rw [gX4_advance_8, show (0 : Int32) = vI 0 from rfl]
  have r66 : mR (flL M qt 720 0) 66 = mR M 66 := hF.r (by omega)
  have rqh : mL (flL M qt 720 0) qh = mL M qh := hF.l (by omega)
  refine s_ladv_loop (M := flL M qt 720 0) (GA_fr hF (by omega) hG) (LandC_fm hF (fun x hx => by unfold Sq; omega) hL) hn hB hq (by rw [r66]; exact h0) (by rw [r66]; exact h1) (by rw [r66]; exact h2) S hSl (by rw [rqh]; exact hC) 720 0 rfl _ (FM.refl _ _) (fun j hj => ?_) (fun M' g1 g2 => h M' ((hF.mono (fun x hx => by unfold inS; omega)).trans g1) g2)
  rw [mL_flL, if_pos ⟨rfl, hj⟩]; rfl
theorem s_lalone {c f bt cm w : Nat} (hQ : LtQ M) (hL : LandC M p onN bk mk) (hB : bnL onN bk) (hbt : bt < 2147483648) (hW : WK M (39 + w) kd v c f bt gn cm) (hw : w < 6) (hc : c < 36) (hf : f < 4) (hcm : cm < 5)
    (h : ∀ M' : MM, FM (inS 66 4) M M' → LtS M' p kd v (bt % (onN + bk)) gn (fun j => eB (j = psi c f cm)) → Q none M') : CL (d + 3) kX4_alone [.ref 66, .ref p, .ref (39 + w)] M Q := by
  obtain ⟨qh, qt, h0, h1, h2, hq⟩ := hQ
  obtain ⟨w1, w2, w3, w4, w5, w6, w7, w8⟩ := id hW
  have tqh : TY qh = (21, 720) := ty_678 (by omega)
  rw [eX4_alone, w2, w3, w6, w7]
  refine ⟨by simp only [ty_66], w1, 69, h2, by simp only [ty_69], ?_⟩
  refine s_become (by rw [ty_69]) (by decide) hL hB hbt (fun M1 hF hG => ?_)
  have r66 : mR M1 66 = mR M 66 := hF.r (by decide)
  simp only [Option.toList_some, Option.toList_none, List.cons_append, List.nil_append]
  rw [gX4_alone_24, r66, h0, rf_some, s_fill tqh (by decide)]
  refine ⟨by simp only [ty_66], ?_⟩
  simp only [Option.toList_some, Option.toList_none, List.cons_append, List.nil_append]
  have hF2 : FM (fun x => x = qh) M1 (flL M1 qh 720 0) := fr_flL (S := fun x => x = qh) rfl
  have e66 : mR (flL M1 qh 720 0) 66 0 = some qh := by rw [hF2.r (by omega), r66]; exact h0
  have eI : ∀ k : Nat, mI (flL M1 qh 720 0) (39 + w) k = mI M (39 + w) k := fun k => by rw [hF2.i (by omega), hF.i (by omega)]
  rw [gX4_alone_32, e66, rf_some, eI, eI, eI, w4, w5, w8, s_join4 tqh hc hf hcm]
  refine ⟨by simp only [ty_66], w1, ?_⟩
  simp only [Option.toList_some, Option.toList_none, List.cons_append, List.nil_append]
  rw [gX4_alone_52]
  have hF3 : FM (fun x => x = qh) (flL M1 qh 720 0) (sL (flL M1 qh 720 0) qh (psi c f cm) (mL (flL M1 qh 720 0) qh (psi c f cm) + 1)) := fr_sL (S := fun x => x = qh) rfl
  refine h _ (((hF.mono (fun x hx => by unfold inS; omega)).trans (hF2.mono (fun x hx => by unfold inS; omega))).trans (hF3.mono (fun x hx => by unfold inS; omega))) ⟨qh, qt, ⟨?_, ?_, ?_, hq⟩, ?_, fun j hj => ?_⟩
  · exact e66
  · show mR (flL M1 qh 720 0) 66 1 = _
    rw [hF2.r (by omega), r66]; exact h1
  · show mR (flL M1 qh 720 0) 66 2 = _
    rw [hF2.r (by omega), r66]; exact h2
  · exact GA_fr hF3 (by omega) (GA_fr hF2 (by omega) hG)
  · by_cases e : j = psi c f cm
    · subst e
      show _ = vL (eB (psi c f cm = psi c f cm))
      rw [aL_sL, mL_flL, if_pos ⟨rfl, hj⟩, eB_t rfl]; rfl
    · show _ = vL (eB (j = psi c f cm))
      rw [bL_sL e, mL_flL, if_pos ⟨rfl, hj⟩, eB_f e]; rfl
theorem s_shares {S : Nat → Nat} {c : Nat} (hc : c < 36) (hS : LtS M p kd v b gn S) : CL d kX4_shares [.ref 66, .int (vI c)] M Q = Q (some (.long (vL (sumN 720 (fun i => eB (i / 20 = c) * S i))))) M := by
  obtain ⟨qh, qt, ⟨h0, h1, h2, hq⟩, hG, hC⟩ := hS
  have tqh : TY qh = (21, 720) := ty_678 (by omega)
  have lp : ∀ m i : Nat, i + m = 720 → WP d kX4_shares (5, [.ref 66, .int (vI c), .long (vL (sumN i (fun i => eB (i / 20 = c) * S i))), dm, .int (vI i)], [], M) Q = Q (some (.long (vL (sumN 720 (fun i => eB (i / 20 = c) * S i))))) M := by
    intro m
    induction m with
    | zero =>
      intro i hi
      obtain rfl : i = 720 := by omega
      rw [gX4_shares_5, if_neg (by decide)]
    | succ m ih =>
      intro i hi
      have hi2 : i < 720 := by omega
      have h5 := ih (i + 1) (by omega)
      rw [sumN] at h5
      rw [gX4_shares_5, if_pos (by rw [lt_nl (by omega) (by decide)]; omega), div_nl (by omega) (by decide), add_nl]
      by_cases e : i / 20 = c
      · rw [eB_t e, Nat.one_mul, ← vL_add] at h5
        rw [if_pos (by rw [vI_inj (by omega) (by omega)]; exact e)]
        simp only [ty_66, h0, tqh, true_and, and_true, Option.some.injEq, exists_eq_left']
        rw [inb_n (by omega), vI_cl (by omega), hC i hi2, h5]
        exact propext ⟨fun h => h.2, fun h => ⟨hi2, h⟩⟩
      · rw [eB_f e, Nat.zero_mul, Nat.add_zero] at h5
        rw [if_neg (by rw [vI_inj (by omega) (by omega)]; exact e), show (0 : Int64) = vL 0 from rfl, vL_add, Nat.add_zero]
        exact h5
  rw [eX4_shares]
  exact lp 720 0 rfl
/- the greatest common divisor -/
theorem gcdS (a b : Nat) : Nat.gcd a b = Nat.gcd b (a % b) := by rw [Nat.gcd_comm a b, Nat.gcd_rec b a, Nat.gcd_comm]
theorem mod_half {b r : Nat} (h0 : 0 < r) (h : r < b) : 2 * (b % r) < b := by
  have h1 := Nat.div_add_mod b r
  have h2 : 0 < b / r := Nat.div_pos (by omega) h0
  have h3 : r * 1 ≤ r * (b / r) := Nat.mul_le_mul_left r h2
  have h4 := Nat.mod_lt b h0
  omega
theorem s_common_loop (l0 l2 : Int64) : ∀ k a b i : Nat, a < 9223372036854775808 → b < 9223372036854775808 → b < 2 ^ k → i + 2 * k + 1 < 1000 → ∀ l9 : Value, WP d kX10_common (9, [.long l0, dm, .long l2, dm, .long (vL a), dm, .long (vL b), dm, .int (vI i), l9, dm], [], M) Q = Q (some (.long (vL (Nat.gcd a b)))) M := by
  have z : ∀ x : Nat, x < 9223372036854775808 → (lg_cmp (vL x) 0 = 0) = (x = 0) := fun x hx => by rw [lg_0, show (0 : Int64) = vL 0 from rfl, vL_inj hx (by decide)]
  intro k
  induction k with
  | zero =>
    intro a b i ha hb hk hi l9
    obtain rfl : b = 0 := by omega
    rw [gX10_common_9, if_pos (by rw [lt_nl (by omega) (by decide)]; omega), if_pos (by rw [z 0 (by decide)]), Nat.gcd_zero_right]
  | succ k ih =>
    intro a b i ha hb hk hi l9
    rw [gX10_common_9, if_pos (by rw [lt_nl (by omega) (by decide)]; omega)]
    by_cases h0 : b = 0
    · subst h0
      rw [if_pos (by rw [z 0 (by decide)]), Nat.gcd_zero_right]
    · have hr := Nat.mod_lt a (show 0 < b by omega)
      have hb0 : ¬ vL b = 0 := by rw [show (0 : Int64) = vL 0 from rfl, vL_inj hb (by decide)]; exact h0
      rw [if_neg (by rw [z b hb]; exact h0), vL_rem ha hb, add_nl, gX10_common_9, if_pos (by rw [lt_nl (by omega) (by decide)]; omega)]
      simp only [hb0, not_false_eq_true, true_and]
      by_cases h1 : a % b = 0
      · rw [if_pos (by rw [z _ (by omega)]; exact h1), gcdS, h1, Nat.gcd_zero_right]
      · have hr0 : ¬ vL (a % b) = 0 := by rw [show (0 : Int64) = vL 0 from rfl, vL_inj (by omega) (by decide)]; exact h1
        have hh := mod_half (b := b) (r := a % b) (by omega) hr
        rw [Nat.pow_succ] at hk
        rw [if_neg (by rw [z _ (by omega)]; exact h1), vL_rem hb (by omega), add_nl, ih (a % b) (b % (a % b)) (i + 1 + 1) (by omega) (by omega) (by omega) (by omega), gcdS a b, gcdS b (a % b)]
        simp only [hr0, not_false_eq_true, true_and]
theorem m_common : ∀ k a b : Nat, a < 9223372036854775808 → b < 9223372036854775808 → b < 2 ^ k → ∀ (M : MM) (Q : Option Value → MM → Prop), CL (d + 2 * k + 1) kX11_common [.long (vL a), .long (vL b)] M Q = Q (some (.long (vL (Nat.gcd a b)))) M := by
  have z : ∀ x : Nat, x < 9223372036854775808 → (lg_cmp (vL x) 0 = 0) = (x = 0) := fun x hx => by rw [lg_0, show (0 : Int64) = vL 0 from rfl, vL_inj hx (by decide)]
  intro k
  induction k with
  | zero =>
    intro a b ha hb hk M Q
    obtain rfl : b = 0 := by omega
    rw [eX11_common, if_pos (by rw [z 0 (by decide)]), Nat.gcd_zero_right]
  | succ k ih =>
    intro a b ha hb hk M Q
    rw [show d + 2 * (k + 1) + 1 = (d + 2 * k + 1) + 1 + 1 by omega, eX11_common]
    by_cases h0 : b = 0
    · subst h0
      rw [if_pos (by rw [z 0 (by decide)]), Nat.gcd_zero_right]
    · have hr := Nat.mod_lt a (show 0 < b by omega)
      have hb0 : ¬ vL b = 0 := by rw [show (0 : Int64) = vL 0 from rfl, vL_inj hb (by decide)]; exact h0
      rw [if_neg (by rw [z b hb]; exact h0), vL_rem ha hb, eX11_common]
      simp only [hb0, not_false_eq_true, true_and]
      by_cases h1 : a % b = 0
      · rw [if_pos (by rw [z _ (by omega)]; exact h1), gcdS, h1, Nat.gcd_zero_right]
        simp only [Option.toList_some, Option.toList_none, List.cons_append, List.nil_append]
        rw [gX11_common_17]
      · have hr0 : ¬ vL (a % b) = 0 := by rw [show (0 : Int64) = vL 0 from rfl, vL_inj (by omega) (by decide)]; exact h1
        have hh := mod_half (b := b) (r := a % b) (by omega) hr
        rw [Nat.pow_succ] at hk
        rw [if_neg (by rw [z _ (by omega)]; exact h1), vL_rem hb (by omega), ih (a % b) (b % (a % b)) (by omega) (by omega) (by omega), gcdS a b, gcdS b (a % b)]
        simp only [hr0, not_false_eq_true, true_and, Option.toList_some, Option.toList_none, List.cons_append, List.nil_append]
        rw [gX11_common_17]
        simp only [Option.toList_some, Option.toList_none, List.cons_append, List.nil_append]
        rw [gX11_common_17]
/-- a told part of a fraction -/
def lotR (l4 : Int32) (below above : Nat) : Int64 := if l4 = 0 then vL (above / Nat.gcd below above) else vL (below / Nat.gcd below above)
theorem pw12 {t : Nat} (h : t ≤ 6) : 12 ^ t < 68719476736 := Nat.lt_of_le_of_lt (Nat.pow_le_pow_right (by decide) h) (by decide)
theorem pw60 {t : Nat} (h : t ≤ 6) : 60 ^ t < 68719476736 := Nat.lt_of_le_of_lt (Nat.pow_le_pow_right (by decide) h) (by decide)
theorem lotR_eq (l4 : Int32) (N A : Nat) : lotR l4 (60 ^ N) (5 ^ N * A) = lotR l4 (12 ^ N) A := by
  have h5 : 0 < 5 ^ N := Nat.pow_pos (by decide)
  unfold lotR
  rw [show (60 : Nat) = 5 * 12 from rfl, Nat.mul_pow, Nat.gcd_mul_left, Nat.mul_div_mul_left _ _ h5, Nat.mul_div_mul_left _ _ h5]
theorem s_lot_loop (hkd : kd < 7) (hv : v < 10) {b0 g0 i0 N cell : Nat} (hN : N ≤ 6) (hc : cell < 36) (hg : g0 + 6 < 1000) (a0 : Nat) (l1 l4 : Int32) : ∀ m i : Nat, i + m = N → ∀ M : MM, QC M p onN bk mk → LtS M p kd v ((b0 + i) % (onN + bk)) (g0 + i) (Sf mk kd v onN bk b0 g0 i0 i) →
    (∀ M' : MM, FM (inS 66 4) M M' → LtQ M' → Q (some (.long (lotR l4 (12 ^ N) (sumN 720 (fun j => eB (j / 20 = cell) * Sf mk kd v onN bk b0 g0 i0 N j))))) M') →
    WP (d + 8) kX10_lot (66, [.ref 21, .int l1, .int (vI cell), .int (vI N), .int l4, .ref a0, .long (vL (12 ^ i)), dm, .int (vI i), dm, dm, dm], [], M) Q := by
  intro m
  induction m with
  | zero =>
    intro i hi M hQ hS h
    obtain rfl : i = N := by omega
    have h12 := pw12 hN
    have hA : sumN 720 (fun j => eB (j / 20 = cell) * Sf mk kd v onN bk b0 g0 i0 i j) ≤ 12 ^ i := Nat.le_trans (sumN_le 720 (fun j hj => by
      have := Nat.mul_le_mul_right (Sf mk kd v onN bk b0 g0 i0 i j) (eB_le1 (j / 20 = cell))
      rw [Nat.one_mul] at this; exact this)) (Sf_sum i)
    have h2 := h M (FM.refl _ _) hS.q
    rw [gX10_lot_66, if_neg (by rw [vI_lt (by omega) (by omega)]; omega)]
    refine ⟨by simp only [ty_21], 66, pc_21_7 hQ.1, by simp only [ty_66], ?_⟩
    rw [s_shares hc hS]
    simp only [Option.toList_some, Option.toList_none, List.cons_append, List.nil_append]
    generalize sumN 720 (fun j => eB (j / 20 = cell) * Sf mk kd v onN bk b0 g0 i0 i j) = A at *
    have hg0 : 0 < Nat.gcd (12 ^ i) A := Nat.gcd_pos_of_pos_left A (Nat.pow_pos (by decide))
    have hgl : Nat.gcd (12 ^ i) A ≤ 12 ^ i := Nat.gcd_le_left A (Nat.pow_pos (by decide))
    have hz : ¬ vL (Nat.gcd (12 ^ i) A) = 0 := by rw [show (0 : Int64) = vL 0 from rfl, vL_inj (by omega) (by decide)]; omega
    rw [gX10_lot_101, eX10_common, show (0 : Int32) = vI 0 from rfl, s_common_loop _ _ 36 _ _ 0 (by omega) (by omega) (by omega) (by decide)]
    simp only [Option.toList_some, Option.toList_none, List.cons_append, List.nil_append]
    rw [gX10_lot_110, if_neg (by rw [lg_0]; exact hz), vL_div (by omega) (by omega), vL_div (by omega) (by omega)]
    unfold lotR at h2
    by_cases h4 : l4 = 0
    · rw [if_pos h4] at h2 ⊢
      exact ⟨hz, h2⟩
    · rw [if_neg h4] at h2 ⊢
      exact ⟨hz, h2⟩
  | succ m ih =>
    intro i hi M hQ hS h
    have hB := hQ.2.2.2.1
    rw [gX10_lot_66, if_pos (by rw [vI_lt (by omega) (by omega)]; omega)]
    refine ⟨by simp only [ty_21], 66, pc_21_7 hQ.1, by simp only [ty_66], ?_⟩
    refine s_ladv hQ.2.2.1 (bndR hB hkd hv (by omega)) hB _ (fun j hj => ?_) hS (fun M1 hF1 hS1 => ?_)
    · have h1 := Sf_le (mk := mk) (kd := kd) (v := v) (onN := onN) (bk := bk) (b0 := b0) (g0 := g0) (i0 := i0) (t := i) hj
      have h2 := pw12 (t := i) (by omega)
      omega
    have hs : ∀ x : Nat, inS 66 4 x → Sq x := fun x hx => by unfold inS at hx; unfold Sq; omega
    have hQ1 : QC M1 p onN bk mk := QC_fm hF1 hs ⟨CrQ_fr hF1 (by unfold inS; omega) hQ.2.2.2.2.1, CrQ_fr hF1 (by unfold inS; omega) hQ.2.2.2.2.2.1, hS1.q⟩ hQ
    simp only [Option.toList_some, Option.toList_none, List.cons_append, List.nil_append]
    rw [gX10_lot_79, add_nl, show (12 : Int64) = vL 12 from rfl, vL_mul, ← Nat.pow_succ]
    refine ih (i + 1) (by omega) M1 hQ1 ?_ (fun M' g1 g2 => h M' (hF1.trans g1) g2)
    rw [show (b0 + (i + 1)) % (onN + bk) = ((b0 + i) % (onN + bk) + 1) % (onN + bk) by rw [Nat.mod_add_mod, Nat.add_assoc]]
    exact hS1
/- the reference's -/
theorem m_lot83 {N cell : Nat} (hN : N ≤ 6) (hc : cell < 36) {W : Nat → Nat} (hp : PM M) (hW : ∀ j : Nat, j < 5184 → mL M 92 j = vL (W j)) (l1 l3 l4 : Int32) (hA : sumN 144 (fun k => W (144 * cell + k)) < 68719476736)
    (h : Q (some (.long (lotR l4 (60 ^ N) (sumN 144 (fun k => W (144 * cell + k)))))) M) : ∀ m k : Nat, k + m = 144 → WP (d + 74) kX11_lot (83, [.ref 82, .int l1, .int (vI cell), .int l3, .int l4, .long (vL (60 ^ N)), dm, .long (vL (sumN k (fun k => W (144 * cell + k)))), dm, .int (vI k), dm], [], M) Q := by
  intro m
  induction m with
  | zero =>
    intro k hk
    obtain rfl : k = 144 := by omega
    have h60 := pw60 hN
    generalize sumN 144 (fun k => W (144 * cell + k)) = A at *
    have hg0 : 0 < Nat.gcd (60 ^ N) A := Nat.gcd_pos_of_pos_left A (Nat.pow_pos (by decide))
    have hgl : Nat.gcd (60 ^ N) A ≤ 60 ^ N := Nat.gcd_le_left A (Nat.pow_pos (by decide))
    have hz : ¬ vL (Nat.gcd (60 ^ N) A) = 0 := by rw [show (0 : Int64) = vL 0 from rfl, vL_inj (by omega) (by decide)]; omega
    rw [gX11_lot_83, if_neg (by decide), m_common (d := d) 36 _ _ (by omega) (by omega) (by omega)]
    simp only [Option.toList_some, Option.toList_none, List.cons_append, List.nil_append]
    rw [gX11_lot_122, vL_div (by omega) (by omega), vL_div (by omega) (by omega)]
    unfold lotR at h
    by_cases h4 : l4 = 0
    · rw [if_pos h4] at h ⊢
      exact ⟨hz, h⟩
    · rw [if_neg h4] at h ⊢
      exact ⟨hz, h⟩
  | succ m ih =>
    intro k hk
    have h5 := ih (k + 1) (by omega)
    rw [sumN, ← vL_add] at h5
    rw [gX11_lot_83, if_pos (by rw [lt_nl (by omega) (by decide)]; omega)]
    simp (disch := omega) only [ty_82, pm_17 hp, ty_92, mul_ln, vI_add, inb_n, vI_cl, add_nl, true_and, and_true, Option.some.injEq, exists_eq_left']
    refine ⟨by omega, ?_⟩
    rw [hW _ (by omega)]
    exact h5
theorem m_lot_loop (hkd : kd < 7) (hv : v < 10) (hB : bnL onN bk) {b0 g0 c0 f0 w0 N cell : Nat} (hv0 : vld c0 f0 w0) (hb0 : b0 < 1000) (hN : N ≤ 6) (hc : cell < 36) (hg : g0 + 6 < 1000) (l1 l4 : Int32) : ∀ m i : Nat, i + m = N → ∀ M : MM, PM M → ME M onN bk mk → NowT M mk kd v onN bk b0 g0 (fun c2 f2 w2 => c2 = c0 ∧ f2 = f0 ∧ w2 = w0) i → (∀ j : Nat, j < 5184 → mL M 92 j = vL (Wr mk kd v onN bk b0 g0 c0 f0 w0 i j)) →
    (∀ M' : MM, FN M M' → Q (some (.long (lotR l4 (60 ^ N) (sumN 144 (fun k => Wr mk kd v onN bk b0 g0 c0 f0 w0 N (144 * cell + k)))))) M') →
    WP (d + 74) kX11_lot (53, [.ref 82, .int l1, .int (vI cell), .int (vI N), .int l4, .long (vL (60 ^ i)), dm, .int (vI i), dm, dm, dm], [], M) Q := by
  intro m
  induction m with
  | zero =>
    intro i hi M hp hE hNw hW h
    obtain rfl : i = N := by omega
    have h12 := pw12 hN
    rw [gX11_lot_53, if_neg (by rw [vI_lt (by omega) (by omega)]; omega)]
    have hA : sumN 144 (fun k => Wr mk kd v onN bk b0 g0 c0 f0 w0 i (144 * cell + k)) < 68719476736 := by
      rw [lot_sum hv0 hc]
      have hA : sumN 720 (fun j => eB (j / 20 = cell) * Sf mk kd v onN bk b0 g0 (psi c0 f0 w0) i j) ≤ 12 ^ i := Nat.le_trans (sumN_le 720 (fun j hj => by
        have := Nat.mul_le_mul_right (Sf mk kd v onN bk b0 g0 (psi c0 f0 w0) i j) (eB_le1 (j / 20 = cell))
        rw [Nat.one_mul] at this; exact this)) (Sf_sum i)
      refine Nat.lt_of_le_of_lt (Nat.mul_le_mul_left (5 ^ i) hA) ?_
      rw [← Nat.mul_pow]
      exact pw60 hN
    have h83 := m_lot83 (d := d) (Q := Q) hN hc hp hW l1 (vI i) l4 hA (h M (FN.refl M)) 144 0 rfl
    exact h83
  | succ m ih =>
    intro i hi M hp hE hNw hW h
    rw [gX11_lot_53, if_pos (by rw [vI_lt (by omega) (by omega)]; omega)]
    refine ⟨by simp only [ty_82], ?_⟩
    refine m_beatW hkd hv hB hb0 (by omega) (by omega) (okA_0 hv0) hp hE hNw (fun M1 hF1 hN1 hW1 => ?_)
    simp only [Option.toList_some, Option.toList_none, List.cons_append, List.nil_append]
    rw [gX11_lot_63, add_nl, show (60 : Int64) = vL 60 from rfl, vL_mul, ← Nat.pow_succ]
    exact ih (i + 1) (by omega) M1 (PM_fn hF1 hp) (ME_fn hF1 hE) hN1 hW1 (fun M' g1 => h M' (hF1.trans g1))
theorem p_lot (hI : INV MZ n M) (hn : n ≤ 512) (a b c e : Int32) : PRL MZ (d + 80) n kX10_lot kX11_lot [.int a, .int b, .int c, .int e] M := by
  have hp := hI.1
  have hpm := hI.2.1
  obtain ⟨nw, hn6, hc0, hm0, hW⟩ := INV_nw hI
  obtain ⟨p, onN, bk, mk, hld, hL, hE, hB⟩ := INV_land hI
  have hI1 := INV_mono hI
  unfold PRL
  rw [eX10_lot]
  simp only [ty_21, pc_21_1 hp, ty_33, true_and, and_true, Option.some.injEq, exists_eq_left']
  cases hA : inR a nw with
  | false =>
    rw [s_who_f hp hc0 hn6 hA]
    simp only [Option.toList_some, Option.toList_none, List.cons_append, List.nil_append]
    rw [gX10_lot_8]
    refine ⟨_, rfl, ?_⟩
    rw [eX11_lot, m_isWalker hpm (nw := nw) (by omega) hm0, hA]
    simp only [ty_82, true_and, Option.toList_some, Option.toList_none, List.cons_append, List.nil_append]
    rw [gX11_lot_5, if_pos (by decide)]
    exact ⟨rfl, hI1⟩
  | true =>
  obtain ⟨w, hw, rfl⟩ := inR_get hA
  obtain ⟨kd, v, c0, f0, bt, gn, cm, k1, k2, k3, k4, hvl, hWK, hMW⟩ := hW w hw
  rw [s_who_t hp hc0 hn6 hw]
  simp only [Option.toList_some, Option.toList_none, List.cons_append, List.nil_append]
  rw [gX10_lot_8]
  simp only [Option.elim_some, rf_some]
  rw [s_isCell]
  simp only [Option.toList_some, Option.toList_none, List.cons_append, List.nil_append]
  rw [gX10_lot_19]
  have ref : ∀ (M1 : MM) (Q1 : Option Value → MM → Prop), PM M1 → mI M1 83 = mI M 83 →
      WP (d + 80) kX11_lot (12, [.ref 82, .int (vI w), .int b, .int c, .int e, dm, dm, dm, dm, dm, dm], [.int (b2i (inR b 36))], M1) Q1 → CL (d + 80) kX11_lot [.ref 82, .int (vI w), .int b, .int c, .int e] M1 Q1 := by
    intro M1 Q1 hp1 h83 h
    rw [eX11_lot, m_isWalker hp1 (nw := nw) (by omega) (by rw [h83]; exact hm0), hA]
    simp only [ty_82, true_and, Option.toList_some, Option.toList_none, List.cons_append, List.nil_append]
    rw [gX11_lot_5, if_neg (by decide), m_isCell]
    simp only [Option.toList_some, Option.toList_none, List.cons_append, List.nil_append]
    exact h
  cases hA2 : inR b 36 with
  | false =>
    rw [if_pos (by decide)]
    refine ⟨_, rfl, ref M _ hpm rfl ?_⟩
    rw [gX11_lot_12, hA2, if_pos (by decide)]
    exact ⟨rfl, hI1⟩
  | true =>
  rw [if_neg (by decide)]
  have ref2 : ∀ (M1 : MM) (Q1 : Option Value → MM → Prop), PM M1 → mI M1 83 = mI M 83 →
      WP (d + 80) kX11_lot (21, [.ref 82, .int (vI w), .int b, .int c, .int e, dm, dm, dm, dm, dm, dm], [.int (b2i (inR c 7))], M1) Q1 → CL (d + 80) kX11_lot [.ref 82, .int (vI w), .int b, .int c, .int e] M1 Q1 := by
    intro M1 Q1 hp1 h83 h
    refine ref M1 Q1 hp1 h83 ?_
    rw [gX11_lot_12, hA2, if_neg (by decide), show (7 : Int32) = vI 7 from rfl, m_isIn (by decide)]
    simp only [Option.toList_some, Option.toList_none, List.cons_append, List.nil_append]
    exact h
  by_cases hc0' : c < 0
  · rw [if_pos hc0']
    refine ⟨_, rfl, ref2 M _ hpm rfl ?_⟩
    rw [gX11_lot_21, inR_neg hc0', if_pos (by decide)]
    exact ⟨rfl, hI1⟩
  rw [if_neg hc0']
  obtain ⟨N, hN, rfl⟩ := inR_pos hc0'
  by_cases hN7 : N < 7
  · rw [if_neg (by rw [lt_ln (by omega) (by decide)]; omega), s_isPart]
    simp only [Option.toList_some, Option.toList_none, List.cons_append, List.nil_append]
    rw [gX10_lot_37]
    have ref3 : ∀ (M1 : MM) (Q1 : Option Value → MM → Prop), PM M1 → mI M1 83 = mI M 83 →
        WP (d + 80) kX11_lot (30, [.ref 82, .int (vI w), .int b, .int (vI N), .int e, dm, dm, dm, dm, dm, dm], [.int (b2i (inR e 2))], M1) Q1 → CL (d + 80) kX11_lot [.ref 82, .int (vI w), .int b, .int (vI N), .int e] M1 Q1 := by
      intro M1 Q1 hp1 h83 h
      refine ref2 M1 Q1 hp1 h83 ?_
      rw [gX11_lot_21, inR_vI hN, decide_eq_true hN7, if_neg (by decide), show (2 : Int32) = vI 2 from rfl, m_isIn (by decide)]
      simp only [Option.toList_some, Option.toList_none, List.cons_append, List.nil_append]
      exact h
    cases hA4 : inR e 2 with
    | false =>
      rw [if_pos (by decide)]
      refine ⟨_, rfl, ref3 M _ hpm rfl ?_⟩
      rw [gX11_lot_30, hA4, if_pos (by decide)]
      exact ⟨rfl, hI1⟩
    | true =>
    rw [if_neg (by decide)]
    obtain ⟨cell, hcell, rfl⟩ := inR_get hA2
    simp only [ty_21, pc_21_1 hp, pc_21_7 hp, ty_33, ty_66, hld, rf_some, true_and, and_true, Option.some.injEq, exists_eq_left']
    have hbb := hB
    unfold bnL at hbb
    have hmod := modR (bt := bt) hB
    have hs : ∀ x : Nat, inS 66 4 x → Sq x := fun x hx => by unfold inS at hx; unfold Sq; omega
    refine s_lalone hI.2.2.1.2.2 hL hB (by omega) hWK (by omega) hvl.1 hvl.2.1 hvl.2.2.1 (fun M1 hF1 hS1 => ?_)
    simp only [Option.toList_some, Option.toList_none, List.cons_append, List.nil_append]
    rw [gX10_lot_60, show (0 : Int32) = vI 0 from rfl, show (1 : Int64) = vL (12 ^ 0) from rfl]
    have hSOK1 : SOK M1 := ⟨CrQ_fr hF1 (by unfold inS; omega) hI.2.2.1.1, CrQ_fr hF1 (by unfold inS; omega) hI.2.2.1.2.1, hS1.q⟩
    have hQ1 : QC M1 p onN bk mk := QC_fm hF1 hs hSOK1 ⟨hp, hld, hL, hB, hI.2.2.1⟩
    refine s_lot_loop (b0 := bt % (onN + bk)) (g0 := gn) (i0 := psi c0 f0 cm) k1 k2 (by omega) hcell (by omega) _ _ _ N 0 (by omega) M1 hQ1 (by rw [Nat.add_zero, Nat.add_zero, Nat.mod_mod]; exact hS1) (fun M2 hF2 hq2 => ?_)
    have hF12 := hF1.trans hF2
    have hI2 : INV MZ n M2 := INV_fm hF12 hs ⟨CrQ_fr hF12 (by unfold inS; omega) hI.2.2.1.1, CrQ_fr hF12 (by unfold inS; omega) hI.2.2.1.2.1, hq2⟩ hI
    have h83 : mI M2 83 = mI M 83 := hF12.i (by unfold inS; omega)
    have hE2 : ME M2 onN bk mk := ME_fr hF12 (fun a h1 h2 => by unfold inS; omega) hE
    have hMW2 : MW M2 w kd v c0 f0 bt gn cm := by unfold MW; rw [h83]; exact hMW
    refine ⟨_, rfl, ref3 M2 _ hI2.2.1 h83 ?_⟩
    rw [gX11_lot_30, hA4, if_neg (by decide)]
    refine ⟨by simp only [ty_82], ?_⟩
    rw [m_beatOf hI2.2.1 hE2 hB (by omega) hMW2.2.2.2.2.1 (by omega)]
    simp only [Option.toList_some, Option.toList_none, List.cons_append, List.nil_append]
    rw [gX11_lot_44]
    refine ⟨by simp only [ty_82], ?_⟩
    refine m_beginsAsW (mk := mk) (onN := onN) (bk := bk) hvl hI2.2.1 (by omega) hMW2 (fun M3 hF3 hN3 hW3 => ?_)
    simp only [Option.toList_some, Option.toList_none, List.cons_append, List.nil_append]
    rw [gX11_lot_47, show (0 : Int32) = vI 0 from rfl, show (1 : Int64) = vL (60 ^ 0) from rfl]
    refine m_lot_loop (d := d + 6) k1 k2 hB hvl (by omega) (by omega) hcell (by omega) _ _ N 0 (by omega) M3 (PM_fn hF3 hI2.2.1) (ME_fn hF3 hE2) hN3 (fun j hj => ?_) (fun M4 hF4 => ⟨?_, INV_mono (INV_fn (hF3.trans hF4) hI2)⟩)
    · rw [hW3 j hj]
      show _ = vL (eB (j = phi c0 f0 cm))
      by_cases e1 : j = phi c0 f0 cm
      · rw [if_pos e1, eB_t e1]; rfl
      · rw [if_neg e1, eB_f e1]; rfl
    · rw [lot_sum hvl hcell, lotR_eq]
  · rw [if_pos (by rw [lt_ln (by omega) (by decide)]; omega)]
    refine ⟨_, rfl, ref2 M _ hpm rfl ?_⟩
    rw [gX11_lot_21, inR_vI hN, decide_eq_false hN7, if_pos (by decide)]
    exact ⟨rfl, hI1⟩
end Lot
