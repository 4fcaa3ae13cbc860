/-! ===== 55: lot on both sides ===== -/
theorem bcnt_dec : ∀ y : Nat, y < 64 → ∀ (d : Nat) (M : MM) (Q : Option Value → MM → Prop), CL d kJ6_bitCount_0f7a4 [.int (vI y)] M Q = Q (some (.int (vI (pop 6 y)))) M := by
  intro y hy d M Q
  rw [eJ6_bitCount_0f7a4]
  refine congrArg (fun z => Q (some (.int z)) M) ?_
  revert y
  decide +kernel
theorem q12_dec : ∀ n : Nat, n < 7 → ((12 : Int32) / vI n).toInt64 = vL (12 / n) := by decide +kernel
/-- the class's shares at 66: told by S -/
def LtS (M : MM) (p kd v b gn : Nat) (S : Nat → Nat) : Prop := ∃ qh qt : Nat, (mR M 66 0 = some qh ∧ mR M 66 1 = some qt ∧ mR M 66 2 = some 69 ∧ ((qh = 67 ∧ qt = 68) ∨ (qh = 68 ∧ qt = 67))) ∧ GA M 69 p kd v b gn ∧ ∀ j : Nat, j < 720 → mL M qh j = vL (S j)
theorem LtS.q {M : MM} {p kd v b gn : Nat} {S : Nat → Nat} (h : LtS M p kd v b gn S) : LtQ M := ⟨_, _, h.choose_spec.choose_spec.1⟩
theorem ty_678 {q : Nat} (h : q = 67 ∨ q = 68) : TY q = (21, 720) := by
  rcases h with rfl | rfl
  · exact ty_67
  · exact ty_68
section Lot
variable {MZ M : MM} {n d : Nat} {Q : Option Value → MM → Prop} {p onN bk : Nat} {mk : Nat → Nat → Prop} {kd v b gn : Nat}
theorem s_join4 {q c f w : Nat} {x : Int64} (hq : TY q = (21, 720)) (hc : c < 36) (hf : f < 4) (hw : w < 5) : CL d kX4_join [.ref q, .int (vI c), .int (vI f), .int (vI w), .long x] M Q = Q none (sL M q (psi c f w) (mL M q (psi c f w) + x)) := by
  have hlt := psi_lt hc hf hw
  have e : ((((vI c) * 4) + vI f) * 5) + vI w = vI (psi c f w) := by rw [mul_nl, vI_add, mul_nl, vI_add]; rfl
  rw [eX4_join, e, hq, if_neg (by rw [vI_neg (by omega)]; exact id), if_pos (show vI (psi c f w) < Int32.ofNat 720 by rw [show Int32.ofNat 720 = vI 720 from rfl, vI_lt (by omega) (by omega)]; exact hlt), inb_n (by omega), vI_cl (by omega)]
  exact propext ⟨fun h => h.2.2.2.2, fun h => ⟨by rfl, rfl, hlt, hlt, h⟩⟩
theorem s_part_loop (hG : GA M 69 p kd v b gn) (hn : bnd kd v b gn) {onN : Nat} {qt c f w s : Nat} (hqt : qt = 67 ∨ qt = 68) (hc : c < 36) (hf : f < 4) (hw : w < 5) (S : Nat → Nat) (hS : S (psi c f w) = s) (l7 : Int32) (l1 : Int64) (T : Nat → Nat) :
    ∀ m i : Nat, i + m = 6 → ∀ (M1 : MM) (l11 : Value), FM (fun x => x = qt) M M1 → mR M 66 1 = some qt → mR M 66 2 = some 69 → (∀ j : Nat, j < 720 → mL M1 qt j = vL (T j + shS mk kd v (b < onN) gn S j c f w i)) →
    (∀ M' : MM, FM (fun x => x = qt) M M' → (∀ j : Nat, j < 720 → mL M' qt j = vL (T j + shS mk kd v (b < onN) gn S j c f w 6)) → Q none M') →
    WP (d + 5) kX4_part (43, [.ref 66, .long l1, dm, .int (vI c), .int (vI f), .int (vI w), .int (vI (mb (may mk kd v (b < onN) gn c f w) 6)), .int l7, .long (vL (s * (12 / wys mk kd v (b < onN) gn c f w))), dm, .int (vI i), l11], [], M1) Q := by
  intro m
  induction m with
  | zero =>
    intro i hi M1 l11 hF h1 h2 hT h
    obtain rfl : i = 6 := by omega
    rw [gX4_part_43, if_neg (by decide)]
    exact h M1 hF hT
  | succ m ih =>
    intro i hi M1 l11 hF h1 h2 hT h
    have hi6 : i < 6 := by omega
    rw [gX4_part_43, if_pos (by rw [lt_nl (by omega) (by decide)]; omega)]
    by_cases hm : may mk kd v (b < onN) gn c f w i
    · have h69 : ¬ (69 : Nat) = qt := by omega
      have hwy := wy_lt (kd := kd) (a := i) hf hw
      have hG1 : GA M1 69 p kd v b gn := GA_fr hF h69 hG
      rw [if_neg (by rw [mb_bit0 _ hi6]; exact fun h => h hm)]
      refine ⟨by simp only [ty_66], 69, by rw [hF.r (by omega)]; exact h2, by simp only [ty_69], ?_⟩
      rw [s_way hG1 hn hi6 hf hw]
      simp only [Option.toList_some, Option.toList_none, List.cons_append, List.nil_append]
      rw [gX4_part_73]
      refine ⟨by simp only [ty_66], ?_⟩
      rw [s_next hc hwy (may_ok hm), hF.r (show ¬ (66 : Nat) = qt by omega), h1, rf_some]
      simp only [Option.toList_some, Option.toList_none, List.cons_append, List.nil_append]
      rw [gX4_part_85, s_facingBy hi6]
      simp only [Option.toList_some, Option.toList_none, List.cons_append, List.nil_append]
      rw [gX4_part_92, s_cameBy hi6 hf hw]
      simp only [Option.toList_some, Option.toList_none, List.cons_append, List.nil_append]
      rw [gX4_part_101, s_join4 (ty_678 hqt) (show nxc c (wy kd f w i) < 36 from tc_lt hc hf hw hm) (tf_lt hf) (tw_lt (kd := kd) hf hw)]
      simp only [Option.toList_some, Option.toList_none, List.cons_append, List.nil_append]
      rw [gX4_part_106, add_nl]
      have hps : psi (nxc c (wy kd f w i)) (tf f i) (tw kd f w i) < 720 := psi_lt (tc_lt hc hf hw hm) (tf_lt hf) (tw_lt hf hw)
      refine ih (i + 1) (by omega) _ _ (hF.trans (fr_sL rfl)) h1 h2 (fun j hj => ?_) h
      have e0 : shS mk kd v (b < onN) gn S j c f w (i + 1) = shS mk kd v (b < onN) gn S j c f w i + eB (may mk kd v (b < onN) gn c f w i ∧ psi (tc kd c f w i) (tf f i) (tw kd f w i) = j) * (S (psi c f w) * (12 / wys mk kd v (b < onN) gn c f w)) := rfl
      rw [e0, hS]
      by_cases e : j = psi (nxc c (wy kd f w i)) (tf f i) (tw kd f w i)
      · rw [eB_t ⟨hm, e.symm⟩, Nat.one_mul, ← Nat.add_assoc, e, aL_sL, hT _ hps, vL_add]
      · rw [eB_f (fun h => e h.2.symm), Nat.zero_mul, Nat.add_zero, bL_sL e]
        exact hT j hj
    · rw [if_pos (by rw [mb_bit0 _ hi6]; exact hm), add_nl]
      refine ih (i + 1) (by omega) M1 _ hF h1 h2 (fun j hj => ?_) h
      have e0 : shS mk kd v (b < onN) gn S j c f w (i + 1) = shS mk kd v (b < onN) gn S j c f w i + eB (may mk kd v (b < onN) gn c f w i ∧ psi (tc kd c f w i) (tf f i) (tw kd f w i) = j) * (S (psi c f w) * (12 / wys mk kd v (b < onN) gn c f w)) := rfl
      rw [e0, eB_f (fun h => hm h.1), Nat.zero_mul, Nat.add_zero]
      exact hT j hj
theorem pop_wys (mk : Nat → Nat → Prop) (kd v : Nat) (on : Prop) (gn c f w : Nat) : pop 6 (mb (may mk kd v on gn c f w) 6) = wys mk kd v on gn c f w := by
  unfold wys
  have h0 := eB_le (may mk kd v on gn c f w 0)
  have h1 := eB_le (may mk kd v on gn c f w 1)
  have h2 := eB_le (may mk kd v on gn c f w 2)
  have h3 := eB_le (may mk kd v on gn c f w 3)
  have h4 := eB_le (may mk kd v on gn c f w 4)
  have h5 := eB_le (may mk kd v on gn c f w 5)
  simp only [pop, sumN]
  rw [mb6]
  omega
theorem s_part (hG : GA M 69 p kd v b gn) (hL : LandC M p onN bk mk) (hn : bnd kd v b gn) (hB : bnL onN bk) {qt c f w s : Nat} (hqt : qt = 67 ∨ qt = 68) (h1 : mR M 66 1 = some qt) (h2 : mR M 66 2 = some 69) (hc : c < 36) (hf : f < 4) (hw : w < 5) (S : Nat → Nat) (hS : S (psi c f w) = s) (T : Nat → Nat) (hT : ∀ j : Nat, j < 720 → mL M qt j = vL (T j))
    (h : ∀ M' : MM, FM (fun x => x = qt) M M' → (∀ j : Nat, j < 720 → mL M' qt j = vL (T j + shS mk kd v (b < onN) gn S j c f w 6)) → Q none M') :
    CL (d + 5) kX4_part [.ref 66, .long (vL s), .int (vI c), .int (vI f), .int (vI w)] M Q := by
  have h64 := mb_lt64 (may mk kd v (b < onN) gn c f w)
  have hw4 := wys_le (mk := mk) (kd := kd) (v := v) (gn := gn) (c := c) (w := w) (on := b < onN) hf
  rw [eX4_part]
  refine ⟨by simp only [ty_66], 69, h2, by simp only [ty_69], ?_⟩
  rw [s_steps hG hL hn hB hc hf hw]
  simp only [Option.toList_some, Option.toList_none, List.cons_append, List.nil_append]
  rw [gX4_part_12, bcnt_dec _ h64, pop_wys]
  simp only [Option.toList_some, Option.toList_none, List.cons_append, List.nil_append]
  have hw1 : 0 < wys mk kd v (b < onN) gn c f w := by
    obtain ⟨a, ha, hm⟩ := may_one (mk := mk) (kd := kd) (v := v) (gn := gn) (c := c) (f := f) (w := w) (on := b < onN)
    have := sumN_mem (g := fun a => eB (may mk kd v (b < onN) gn c f w a)) 6 a ha
    simp only [eB_t hm] at this
    exact this
  rw [gX4_part_19, if_pos (by rw [lt_ln (by omega) (by decide)]; exact hw1), q12_dec _ (by omega), vL_mul]
  refine ⟨by rw [eq_nl (by omega) (by decide)]; omega, ?_⟩
  exact s_part_loop hG hn hqt hc hf hw S hS _ _ T 6 0 rfl M _ (FM.refl _ _) h1 h2 (fun j hj => by rw [hT j hj]; rfl) h
theorem s_ladv_loop (hG : GA M 69 p kd v b gn) (hL : LandC M p onN bk mk) (hn : bnd kd v b gn) (hB : bnL onN bk) {qh qt : Nat} (hq : (qh = 67 ∧ qt = 68) ∨ (qh = 68 ∧ qt = 67)) (h0 : mR M 66 0 = some qh) (h1 : mR M 66 1 = some qt) (h2 : mR M 66 2 = some 69) (S : Nat → Nat) (hSl : ∀ j : Nat, j < 720 → S j < 9223372036854775808) (hS : ∀ j : Nat, j < 720 → mL M qh j = vL (S j)) :
    ∀ m i : Nat, i + m = 720 → ∀ M1 : MM, FM (fun x => x = qt) M M1 → (∀ j : Nat, j < 720 → mL M1 qt j = vL (sumN i (shI mk kd v (b < onN) gn S j))) →
    (∀ M' : MM, FM (inS 66 4) M M' → LtS M' p kd v ((b + 1) % (onN + bk)) (gn + 1) (fun j => sumN 720 (shI mk kd v (b < onN) gn S j)) → Q none M') →
    WP (d + 6) kX4_advance (10, [.ref 66, .int (vI i)], [], M1) Q := by
  intro m
  induction m with
  | zero =>
    intro i hi M1 hF hT h
    obtain rfl : i = 720 := by omega
    have r66 : mR M1 66 = mR M 66 := hF.r (by omega)
    rw [gX4_advance_10, if_neg (by decide)]
    refine ⟨by simp only [ty_66], ?_⟩
    have e2 : mR (sR (sR M1 66 0 (mR M1 66 1)) 66 1 (mR M1 66 0)) 66 2 = some 69 := by
      rw [bR_sR (by decide), bR_sR (by decide), r66]; exact h2
    have hF2 : FM (fun x => x = 66) M1 (sR (sR M1 66 0 (mR M1 66 1)) 66 1 (mR M1 66 0)) := (fr_sR (S := fun x => x = 66) rfl).trans (fr_sR (S := fun x => x = 66) rfl)
    have hG2 : GA (sR (sR M1 66 0 (mR M1 66 1)) 66 1 (mR M1 66 0)) 69 p kd v b gn := GA_fr hF2 (by decide) (GA_fr hF (by omega) hG)
    have hL2 : LandC (sR (sR M1 66 0 (mR M1 66 1)) 66 1 (mR M1 66 0)) p onN bk mk := LandC_fm hF2 (fun x hx => by unfold Sq; omega) (LandC_fm hF (fun x hx => by unfold Sq; omega) hL)
    refine ⟨69, e2, by simp only [ty_69], ?_⟩
    rw [s_tick hG2 hL2 hn hB]
    simp only [Option.toList_some, Option.toList_none, List.cons_append, List.nil_append]
    rw [show mR M1 66 0 = some qh by rw [r66]; exact h0, rf_some, gX4_advance_81]
    have hF3 : FM (inS 66 4) M (sI (sI (sR (sR M1 66 0 (mR M1 66 1)) 66 1 (some qh)) 69 3 (vI ((b + 1) % (onN + bk)))) 69 4 (vI (gn + 1))) :=
      FM.trans (FM.trans (FM.trans (FM.trans (hF.mono (fun x hx => by unfold inS; omega)) (fr_sR (by unfold inS; omega))) (fr_sR (by unfold inS; omega))) (fr_sI (by unfold inS; omega))) (fr_sI (by unfold inS; omega))
    refine h _ hF3 ⟨qt, qh, ⟨?_, ?_, ?_, by omega⟩, ?_, fun j hj => hT j hj⟩
    · show mR (sR (sR M1 66 0 (mR M1 66 1)) 66 1 (some qh)) 66 0 = _
      rw [bR_sR (by decide), aR_sR, r66]; exact h1
    · show mR (sR (sR M1 66 0 (mR M1 66 1)) 66 1 (some qh)) 66 1 = _
      rw [aR_sR]
    · show mR (sR (sR M1 66 0 (mR M1 66 1)) 66 1 (some qh)) 66 2 = _
      rw [bR_sR (by decide), bR_sR (by decide), r66]; exact h2
    · obtain ⟨g1, g2, g3, g4, g5, g6⟩ := hG
      refine ⟨g1, ?_, ?_, ?_, ?_, ?_⟩
      · show mR (sR (sR M1 66 0 (mR M1 66 1)) 66 1 (some qh)) 69 0 = _
        rw [rR_sR (by decide), rR_sR (by decide), hF.r (show ¬ (69 : Nat) = qt by omega)]; exact g2
      · rw [xI_sI (by omega), xI_sI (by omega)]
        show mI M1 69 1 = _
        rw [hF.i (show ¬ (69 : Nat) = qt by omega)]; exact g3
      · rw [xI_sI (by omega), xI_sI (by omega)]
        show mI M1 69 2 = _
        rw [hF.i (show ¬ (69 : Nat) = qt by omega)]; exact g4
      · rw [xI_sI (by omega), aI_sI]
      · rw [aI_sI]
  | succ m ih =>
    intro i hi M1 hF hT h
    have hi2 : i < 720 := by omega
    have r66 : mR M1 66 = mR M 66 := hF.r (by omega)
    have rqh : mL M1 qh = mL M qh := hF.l (by omega)
    have tqh : TY qh = (21, 720) := ty_678 (by omega)
    rw [gX4_advance_10, if_pos (by rw [lt_nl (by omega) (by decide)]; omega)]
    simp only [ty_66, r66, h0, tqh, rqh, true_and, and_true, Option.some.injEq, exists_eq_left']
    rw [inb_n (by omega), vI_cl (by omega), hS i hi2, add_nl]
    refine ⟨hi2, ?_⟩
    by_cases hz : S i = 0
    · rw [if_pos (by rw [lg_0, hz]; rfl)]
      refine ih (i + 1) (by omega) M1 hF (fun j hj => ?_) h
      rw [hT j hj, sumN, show shI mk kd v (b < onN) gn S j i = 0 from shS_0 6 (by rw [psi_i]; exact hz), Nat.add_zero]
    · rw [if_neg (by rw [lg_0, show (0 : Int64) = vL 0 from rfl, vL_inj (hSl i hi2) (by decide)]; exact hz)]
      refine ⟨hi2, ?_⟩
      rw [div_nl (by omega) (by decide), div_nl (by omega) (by decide), rem_nl (by omega) (by decide), rem_nl (by omega) (by decide)]
      refine s_part (GA_fr hF (by omega) hG) (LandC_fm hF (fun x hx => by unfold Sq; omega) hL) hn hB (qt := qt) (by omega) (by rw [r66]; exact h1) (by rw [r66]; exact h2) (by omega) (by omega) (by omega) S (by rw [psi_i]) _ hT (fun M2 hF2 hT2 => ?_)
      simp only [Option.toList_some, Option.toList_none, List.cons_append, List.nil_append]
      rw [gX4_advance_50, add_nl]
      exact ih (i + 1) (by omega) M2 (hF.trans hF2) (fun j hj => by rw [hT2 j hj]; rfl) h
end Lot
