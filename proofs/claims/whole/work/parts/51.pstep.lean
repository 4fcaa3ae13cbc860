/-! ===== 51: may, step, hand on both sides ===== -/
section Step
variable {MZ M : MM} {n d : Nat} {Q : Option Value → MM → Prop} {p onN bk : Nat} {mk : Nat → Nat → Prop} {kd v c f bt gn cm : Nat}
theorem s_allowed {a : Nat} (hp : PC M) (hld : mR M 33 4 = some p) (hL : LandC M p onN bk mk) (hB : bnL onN bk) (hkd : kd < 7) (hv : v < 10) (hbt : bt < 8) (hgn : gn < 1000) (hvl : vld c f cm) (ha : a < 57) (hW : WK M a kd v c f bt gn cm)
    (h : ∀ M' : MM, FM (fun x => x = 57) M M' → GA M' 57 p kd v (bt % (onN + bk)) gn → Q (some (.int (vI (mb (may mk kd v (bt % (onN + bk) < onN) gn c f cm) 6)))) M') : CL (d + 5) kX10_allowed [.ref 21, .ref a] M Q := by
  obtain ⟨w1, w2, w3, w4, w5, w6, w7, w8⟩ := id hW
  rw [eX10_allowed, w2, w3, w6, w7]
  simp only [ty_21, pc_21_1 hp, pc_21_3 hp, ty_33, ty_57, w1, hld, rf_some, true_and, and_true, Option.some.injEq, exists_eq_left']
  refine s_become (by rw [ty_57]) (by decide) hL hB (by omega) (fun M1 hF hG => ?_)
  have hW1 := WK_fr (S := fun x => x = 57) hF (show ¬ a = 57 by omega) hW
  have hp1 := PC_fm hF (fun x hx => by unfold Sq; omega) hp
  obtain ⟨g1, g2, g3, g4, g5, g6, g7, g8⟩ := id hW1
  have hm := modR (bt := bt) hB
  have hbb := hB
  unfold bnL at hbb
  simp only [Option.toList_some, Option.toList_none, List.cons_append, List.nil_append]
  rw [gX10_allowed_30, g4, g5, g8]
  simp only [ty_21, pc_21_3 hp1, ty_57, w1, true_and, and_true, Option.some.injEq, exists_eq_left']
  rw [s_steps hG (LandC_fm hF (fun x hx => by unfold Sq; omega) hL) ⟨hkd, hv, by omega, hgn⟩ hB hvl.1 hvl.2.1 hvl.2.2.1]
  simp only [Option.toList_some, Option.toList_none, List.cons_append, List.nil_append]
  rw [gX10_allowed_49]
  exact h M1 hF hG
theorem s_goes {a x : Nat} (hp : PC M) (hld : mR M 33 4 = some p) (hL : LandC M p onN bk mk) (hB : bnL onN bk) (hkd : kd < 7) (hv : v < 10) (hbt : bt < 8) (hgn : gn < 1000) (hvl : vld c f cm) (ha : a < 57) (ha2 : a < 29 ∨ 33 ≤ a) (hx : x < 6) (hW : WK M a kd v c f bt gn cm)
    (h0 : ¬ may mk kd v (bt % (onN + bk) < onN) gn c f cm x → ∀ M' : MM, FM (fun y => y = 57) M M' → Q (some (.int 0)) M')
    (h1 : may mk kd v (bt % (onN + bk) < onN) gn c f cm x → ∀ M' : MM, FM (fun y => y = 57 ∨ y = a) M M' → mL M' a = mL M a ∧ mR M' a = mR M a → WK M' a kd v (tc kd c f cm x) (tf f x) ((bt % (onN + bk) + 1) % (onN + bk)) (gn + 1) (tw kd f cm x) → Q (some (.int 1)) M') :
    CL (d + 6) kX10_goes [.ref 21, .ref a, .int (vI x)] M Q := by
  rw [eX10_goes]
  refine ⟨by simp only [ty_21], ?_⟩
  refine s_allowed hp hld hL hB hkd hv hbt hgn hvl ha hW (fun M1 hF hG => ?_)
  have hm := modR (bt := bt) hB
  have hbb := hB
  unfold bnL at hbb
  have hwy := wy_lt (kd := kd) (a := x) hvl.2.1 hvl.2.2.1
  simp only [Option.toList_some, Option.toList_none, List.cons_append, List.nil_append]
  rw [gX10_goes_5]
  by_cases hm1 : may mk kd v (bt % (onN + bk) < onN) gn c f cm x
  · rw [if_neg (by rw [mb_bit0 _ hx]; exact fun h => h hm1)]
    have hW1 := WK_fr (S := fun x => x = 57) hF (show ¬ a = 57 by omega) hW
    have hp1 := PC_fm hF (fun x hx => by unfold Sq; omega) hp
    have hL1 := LandC_fm hF (fun x hx => by unfold Sq; omega) hL
    obtain ⟨g1, g2, g3, g4, g5, g6, g7, g8⟩ := id hW1
    have hbn : bnd kd v (bt % (onN + bk)) gn := ⟨hkd, hv, by omega, hgn⟩
    rw [g5, g8]
    simp only [ty_21, pc_21_3 hp1, ty_57, g1, true_and, and_true, Option.some.injEq, exists_eq_left']
    rw [s_way hG hbn hx hvl.2.1 hvl.2.2.1]
    simp only [Option.toList_some, Option.toList_none, List.cons_append, List.nil_append]
    rw [gX10_goes_30, g8]
    refine ⟨g1, ?_⟩
    rw [s_cameBy hx hvl.2.1 hvl.2.2.1]
    simp only [Option.toList_some, Option.toList_none, List.cons_append, List.nil_append]
    rw [gX10_goes_41, xI_sI (by omega), g5]
    refine ⟨g1, g1, ?_⟩
    rw [s_facingBy hx]
    simp only [Option.toList_some, Option.toList_none, List.cons_append, List.nil_append]
    rw [gX10_goes_53, xI_sI (by omega), xI_sI (by omega), g4]
    refine ⟨g1, g1, ?_⟩
    rw [s_next hvl.1 hwy (may_ok hm1)]
    simp only [Option.toList_some, Option.toList_none, List.cons_append, List.nil_append]
    rw [gX10_goes_65]
    have hF2 : FM (fun y => y = a) M1 (sI (sI (sI M1 a 6 (vI (tw kd f cm x))) a 3 (vI (tf f x))) a 2 (vI (nxc c (wy kd f cm x)))) := FM.trans (FM.trans (fr_sI (S := fun y => y = a) rfl) (fr_sI (S := fun y => y = a) rfl)) (fr_sI (S := fun y => y = a) rfl)
    have hp2 : PC (sI (sI (sI M1 a 6 (vI (tw kd f cm x))) a 3 (vI (tf f x))) a 2 (vI (nxc c (wy kd f cm x)))) := hp1
    have hL2 : LandC (sI (sI (sI M1 a 6 (vI (tw kd f cm x))) a 3 (vI (tf f x))) a 2 (vI (nxc c (wy kd f cm x)))) p onN bk mk := LandC_ag (fun y hy => hF2.2 y (by omega)) hL1
    have hG2 : GA (sI (sI (sI M1 a 6 (vI (tw kd f cm x))) a 3 (vI (tf f x))) a 2 (vI (nxc c (wy kd f cm x)))) 57 p kd v (bt % (onN + bk)) gn := GA_fr hF2 (by omega) hG
    refine ⟨g1, by simp only [ty_21], 57, pc_21_3 hp1, by simp only [ty_57], ?_⟩
    rw [s_tick hG2 hL2 hbn hB]
    simp only [Option.toList_some, Option.toList_none, List.cons_append, List.nil_append]
    rw [gX10_goes_75]
    refine ⟨by simp only [ty_21], 57, pc_21_3 hp1, by simp only [ty_57], g1, ?_⟩
    refine h1 hm1 _ ?_ ⟨(hF.2 a (show ¬ a = 57 by omega)).2.1, (hF.2 a (show ¬ a = 57 by omega)).2.2⟩ ?_
    · exact FM.trans (FM.trans (FM.trans (FM.trans (FM.trans (hF.mono (fun x hx => Or.inl hx)) (hF2.mono (fun x hx => Or.inr hx))) (fr_sI (Or.inl rfl))) (fr_sI (Or.inl rfl))) (fr_sI (Or.inr rfl))) (fr_sI (Or.inr rfl))
    · refine ⟨g1, ?_, ?_, ?_, ?_, ?_, ?_, ?_⟩ <;> (simp (disch := omega) only [aI_sI, xI_sI]; try (first | rfl | assumption))
  · rw [if_pos (by rw [mb_bit0 _ hx]; exact hm1)]
    exact h0 hm1 M1 hF
/- the reference's -/
theorem m_mayNow {w : Nat} (hp : PM M) (hE : ME M onN bk mk) (hB : bnL onN bk) (hkd : kd < 7) (hv : v < 10) (hbt : bt < 8) (hgn : gn < 1000) (hvl : vld c f cm) (hw : w < 6) (hW : MW M w kd v c f bt gn cm) :
    CL (d + 4) kX11_mayNow [.ref 82, .int (vI w)] M Q = Q (some (.int (vI (mb (may mk kd v (bt % (onN + bk) < onN) gn c f cm) 6)))) M := by
  obtain ⟨m0, m1, m2, m3, m4, m5, m6⟩ := id hW
  have hm := modR (bt := bt) hB
  have hbb := hB
  unfold bnL at hbb
  rw [eX11_mayNow, show (0 : Int32) = vI 0 from rfl, m_get hp hw (by decide), m0]
  simp only [ty_82, true_and, Option.toList_some, Option.toList_none, List.cons_append, List.nil_append]
  rw [gX11_mayNow_7, show (1 : Int32) = vI 1 from rfl, m_get hp hw (by decide), m1]
  simp only [ty_82, true_and, Option.toList_some, Option.toList_none, List.cons_append, List.nil_append]
  rw [gX11_mayNow_13, show (2 : Int32) = vI 2 from rfl, m_get hp hw (by decide), m2]
  simp only [ty_82, true_and, Option.toList_some, Option.toList_none, List.cons_append, List.nil_append]
  rw [gX11_mayNow_19, show (3 : Int32) = vI 3 from rfl, m_get hp hw (by decide), m3]
  simp only [ty_82, true_and, Option.toList_some, Option.toList_none, List.cons_append, List.nil_append]
  rw [gX11_mayNow_25, show (5 : Int32) = vI 5 from rfl, m_get hp hw (by decide), m5]
  simp only [ty_82, true_and, Option.toList_some, Option.toList_none, List.cons_append, List.nil_append]
  rw [gX11_mayNow_31, m_beatOf hp hE hB hw m4 (by omega)]
  simp only [ty_82, true_and, Option.toList_some, Option.toList_none, List.cons_append, List.nil_append]
  rw [gX11_mayNow_36, show (6 : Int32) = vI 6 from rfl, m_get hp hw (by decide), m6]
  simp only [ty_82, true_and, Option.toList_some, Option.toList_none, List.cons_append, List.nil_append]
  rw [gX11_mayNow_43, m_mayBy hp hE ⟨hkd, hv, by omega, hgn⟩ hB hvl.1 hvl.2.1 hvl.2.2.1 hvl.2.2.2]
  simp only [ty_82, true_and, Option.toList_some, Option.toList_none, List.cons_append, List.nil_append]
  rw [gX11_mayNow_46]
theorem ME_put {j : Nat} {z : Int32} (hj : ¬ j = 1) (hE : ME M onN bk mk) : ME (sI M 83 j z) onN bk mk := by
  unfold ME at hE ⊢
  rw [xI_sI (by omega), rI_sI (by decide), rI_sI (by decide), rI_sI (by decide)]; exact hE
/-- what changes when a walker of the reference's scene steps -/
def MSt (w : Nat) (M M' : MM) : Prop := mN M' = mN M ∧ mL M' = mL M ∧ mR M' = mR M ∧ (∀ a : Nat, ¬ a = 83 → mI M' a = mI M a) ∧ ∀ j : Nat, ¬ (4 + 7 * w ≤ j ∧ j < 4 + 7 * w + 7) → mI M' 83 j = mI M 83 j
theorem MSt.refl (w : Nat) (M : MM) : MSt w M M := ⟨rfl, rfl, rfl, fun _ _ => rfl, fun _ _ => rfl⟩
theorem MSt.trans {w : Nat} {M M1 M2 : MM} (h1 : MSt w M M1) (h2 : MSt w M1 M2) : MSt w M M2 := ⟨h2.1.trans h1.1, h2.2.1.trans h1.2.1, h2.2.2.1.trans h1.2.2.1, fun a ha => (h2.2.2.2.1 a ha).trans (h1.2.2.2.1 a ha), fun j hj => (h2.2.2.2.2 j hj).trans (h1.2.2.2.2 j hj)⟩
theorem MSt.put {w k : Nat} {z : Int32} (hk : k < 7) : MSt w M (sI M 83 (4 + 7 * w + k) z) := ⟨rfl, rfl, rfl, fun a ha => rI_sI ha, fun j hj => xI_sI (by omega)⟩
theorem PM_st {w : Nat} {M' : MM} (h : MSt w M M') (hp : PM M) : PM M' := fun t ht => by rw [h.2.2.1]; exact hp t ht
theorem ME_st {w : Nat} {M' : MM} (h : MSt w M M') (hE : ME M onN bk mk) : ME M' onN bk mk := by
  unfold ME at hE ⊢
  rw [h.2.2.2.2 1 (by omega), h.2.2.2.1 85 (by decide), h.2.2.2.1 86 (by decide), h.2.2.2.1 87 (by decide)]; exact hE
theorem nx_back {a : Nat} {on : Prop} (hvl : vld c f cm) (h5 : ¬ a = 5) (h : may mk kd v on gn c f cm a) : nxc (tc kd c f cm a) (tw kd f cm a) = c := by
  unfold tc tw
  rw [if_neg h5]; exact nx_rv hvl.1 (wy_lt hvl.2.1 hvl.2.2.1) (may_ok h)
theorem m_steps {w a : Nat} (hp : PM M) (hE : ME M onN bk mk) (hB : bnL onN bk) (hkd : kd < 7) (hbt : bt < 8) (hvl : vld c f cm) (hw : w < 6) (ha : a < 6) (hW : MW M w kd v c f bt gn cm) (hm : may mk kd v (bt % (onN + bk) < onN) gn c f cm a)
    (h : ∀ M' : MM, MSt w M M' → MW M' w kd v (tc kd c f cm a) (tf f a) ((bt % (onN + bk) + 1) % (onN + bk)) (gn + 1) (tw kd f cm a) → Q none M') :
    CL (d + 3) kX11_steps [.ref 82, .int (vI w), .int (vI a)] M Q := by
  obtain ⟨m0, m1, m2, m3, m4, m5, m6⟩ := id hW
  have hmod := modR (bt := bt) hB
  have hbb := hB
  unfold bnL at hbb
  have tail : ∀ M1 : MM, MSt w M M1 → mI M1 83 (4 + 7 * w + 0) = vI kd → mI M1 83 (4 + 7 * w + 1) = vI v → mI M1 83 (4 + 7 * w + 2) = vI (tc kd c f cm a) → mI M1 83 (4 + 7 * w + 3) = vI (tf f a) → mI M1 83 (4 + 7 * w + 4) = vI bt → mI M1 83 (4 + 7 * w + 5) = vI (nxc (tc kd c f cm a) (tw kd f cm a)) → mI M1 83 (4 + 7 * w + 6) = vI gn →
      CL (d + 2) kX11_beatOf [.ref 82, .int (vI w)] M1 (fun v_ M_ => WP (d + 3) kX11_steps (89, [.ref 82, .int (vI w), .int (vI a), .int (vI c)], v_.toList ++ [.int 4, .int (vI w), .ref 82], M_) Q) := by
    intro M1 hS q0 q1 q2 q3 q4 q5 q6
    have hp1 := PM_st hS hp
    have hE1 := ME_st hS hE
    rw [m_beatOf hp1 hE1 hB hw q4 (by omega)]
    simp only [Option.toList_some, Option.toList_none, List.cons_append, List.nil_append]
    rw [gX11_steps_89]
    refine ⟨by simp only [ty_82], ?_⟩
    rw [m_beats hp1 hE1]
    simp only [Option.toList_some, Option.toList_none, List.cons_append, List.nil_append]
    rw [gX11_steps_95]
    refine ⟨by rw [eq_nl (by omega) (by decide)]; omega, by simp only [ty_82], ?_⟩
    rw [add_nl, vI_rem (by omega) (by omega), show (4 : Int32) = vI 4 from rfl, m_puts hp1 hw (by decide)]
    simp only [Option.toList_some, Option.toList_none, List.cons_append, List.nil_append]
    rw [gX11_steps_99]
    refine ⟨by simp only [ty_82], ?_⟩
    rw [show (6 : Int32) = vI 6 from rfl, m_get (by exact hp1) hw (by decide), xI_sI (by omega), q6]
    simp only [Option.toList_some, Option.toList_none, List.cons_append, List.nil_append]
    rw [gX11_steps_110]
    refine ⟨by simp only [ty_82], ?_⟩
    rw [add_nl, m_puts (by exact hp1) hw (by decide)]
    simp only [Option.toList_some, Option.toList_none, List.cons_append, List.nil_append]
    rw [gX11_steps_115]
    refine h _ ((hS.trans (MSt.put (by decide))).trans (MSt.put (by decide))) ⟨?_, ?_, ?_, ?_, ?_, ?_, ?_⟩ <;> (simp (disch := omega) only [aI_sI, xI_sI]; try (first | rfl | assumption))
  rw [eX11_steps, show (2 : Int32) = vI 2 from rfl, m_get hp hw (by decide), m2]
  simp only [ty_82, true_and, Option.toList_some, Option.toList_none, List.cons_append, List.nil_append]
  rw [gX11_steps_6]
  by_cases h4 : a < 4
  · rw [if_pos (by rw [lt_nl (by omega) (by decide)]; exact h4)]
    refine ⟨by simp only [ty_82], ?_⟩
    have e1 : tc kd c f cm a = nxc c a := by unfold tc wy; rw [if_pos h4]
    have hok : ok c a := by have := may_ok hm; unfold wy at this; rw [if_pos h4] at this; exact this
    rw [show (3 : Int32) = vI 3 from rfl, m_puts hp hw (by decide)]
    simp only [Option.toList_some, Option.toList_none, List.cons_append, List.nil_append]
    rw [gX11_steps_19, m_beside hvl.1 h4, bsd_t hok]
    simp only [Option.toList_some, Option.toList_none, List.cons_append, List.nil_append]
    rw [gX11_steps_27]
    refine ⟨by simp only [ty_82], ?_⟩
    rw [show (2 : Int32) = vI 2 from rfl, m_puts (by exact hp) hw (by decide)]
    simp only [Option.toList_some, Option.toList_none, List.cons_append, List.nil_append]
    rw [gX11_steps_30]
    refine ⟨by simp only [ty_82], ?_⟩
    rw [show (5 : Int32) = vI 5 from rfl, m_puts (by exact hp) hw (by decide)]
    simp only [Option.toList_some, Option.toList_none, List.cons_append, List.nil_append]
    rw [gX11_steps_37]
    refine ⟨by simp only [ty_82], ?_⟩
    refine tail _ (((MSt.put (by decide)).trans (MSt.put (by decide))).trans (MSt.put (by decide))) ?_ ?_ ?_ ?_ ?_ ?_ ?_
    · simp (disch := omega) only [aI_sI, xI_sI]; exact m0
    · simp (disch := omega) only [aI_sI, xI_sI]; exact m1
    · simp (disch := omega) only [aI_sI, xI_sI]; rw [e1]
    · simp (disch := omega) only [aI_sI, xI_sI]; rw [tf, if_pos h4]
    · simp (disch := omega) only [aI_sI, xI_sI]; exact m4
    · simp (disch := omega) only [aI_sI, xI_sI]; rw [nx_back hvl (by omega) hm]
    · simp (disch := omega) only [aI_sI, xI_sI]; exact m6
  · rw [if_neg (by rw [lt_nl (by omega) (by decide)]; exact h4)]
    by_cases e4 : a = 4
    · subst e4
      rw [if_pos (show vI 4 = 4 from rfl)]
      refine ⟨by simp only [ty_82], ?_⟩
      rw [show (0 : Int32) = vI 0 from rfl, m_get hp hw (by decide), m0]
      simp only [Option.toList_some, Option.toList_none, List.cons_append, List.nil_append]
      rw [gX11_steps_55]
      refine ⟨by simp only [ty_82], ?_⟩
      rw [show (3 : Int32) = vI 3 from rfl, m_get hp hw (by decide), m3]
      simp only [Option.toList_some, Option.toList_none, List.cons_append, List.nil_append]
      rw [gX11_steps_62]
      refine ⟨by simp only [ty_82], ?_⟩
      rw [show (5 : Int32) = vI 5 from rfl, m_get hp hw (by decide), m5]
      simp only [Option.toList_some, Option.toList_none, List.cons_append, List.nil_append]
      rw [gX11_steps_68]
      refine ⟨by simp only [ty_82], ?_⟩
      have hok : ok c (bwy kd f cm) := may_ok hm
      rw [m_backTo hkd hvl.1 hvl.2.1, bkt_t hok]
      simp only [Option.toList_some, Option.toList_none, List.cons_append, List.nil_append]
      rw [gX11_steps_71]
      refine ⟨by simp only [ty_82], ?_⟩
      rw [show (2 : Int32) = vI 2 from rfl, m_puts hp hw (by decide)]
      simp only [Option.toList_some, Option.toList_none, List.cons_append, List.nil_append]
      rw [gX11_steps_74]
      refine ⟨by simp only [ty_82], ?_⟩
      rw [show (5 : Int32) = vI 5 from rfl, m_puts (by exact hp) hw (by decide)]
      simp only [Option.toList_some, Option.toList_none, List.cons_append, List.nil_append]
      rw [gX11_steps_81]
      refine ⟨by simp only [ty_82], ?_⟩
      refine tail _ ((MSt.put (by decide)).trans (MSt.put (by decide))) ?_ ?_ ?_ ?_ ?_ ?_ ?_
      · simp (disch := omega) only [aI_sI, xI_sI]; exact m0
      · simp (disch := omega) only [aI_sI, xI_sI]; exact m1
      · simp (disch := omega) only [aI_sI, xI_sI]; rfl
      · simp (disch := omega) only [aI_sI, xI_sI]; exact m3
      · simp (disch := omega) only [aI_sI, xI_sI]; exact m4
      · simp (disch := omega) only [aI_sI, xI_sI]; rw [nx_back hvl (by omega) hm]
      · simp (disch := omega) only [aI_sI, xI_sI]; exact m6
    · obtain rfl : a = 5 := by omega
      rw [if_neg (by decide)]
      refine ⟨by simp only [ty_82], ?_⟩
      exact tail M (MSt.refl w M) m0 m1 m2 m3 m4 m5 m6
/-- a walker of a scene is written anew on both sides, and the gait of the class -/
theorem walk_inv2 {M1 M2 : MM} (hI : INV MZ n M) {w nw : Nat} (hF : FM (fun y => y = 57 ∨ y = 39 + w) M M1) (hLR : mL M1 (39 + w) = mL M (39 + w) ∧ mR M1 (39 + w) = mR M (39 + w)) (hS : MSt w M1 M2) (g33 : mI M 33 1 = vI nw) (g83 : mI M 83 0 = vI nw)
    (hw : w < nw) (hn2 : nw ≤ 6) (hold : ∀ w2 : Nat, w2 < nw → WkP n M (39 + w2) 83 w2)
    (k1 : kd < 7) (k2 : v < 10) (k3 : bt < 8) (k4 : gn ≤ n + 1) (hvl : vld c f cm) (hWK : WK M1 (39 + w) kd v c f bt gn cm) (hMW : MWs M2 83 w kd v c f bt gn cm) : INV MZ (n + 1) M2 := by
  obtain ⟨s1, s2, s3, s4, s5⟩ := hS
  have hFx : FM (fun y => y = 57) M ((fun a => if a = 39 + w then mI M a else mI M1 a, M1.2) : MM) := by
    refine ⟨hF.1, fun a ha => ?_⟩
    by_cases e : a = 39 + w
    · subst e
      exact ⟨if_pos rfl, hLR.1, hLR.2⟩
    · have h := hF.2 a (by omega)
      exact ⟨(if_neg e).trans h.1, h.2⟩
  have hIx := INV_mono (INV_fm hFx (fun x hx => by unfold Sq; omega) (SOK_r (fun a ha => hFx.r (by omega)) hI.2.2.1) hI)
  generalize hMx : ((fun a => if a = 39 + w then mI M a else mI M1 a, M1.2) : MM) = Mx at *
  have gx : ∀ a : Nat, ¬ a = 39 + w → mI Mx a = mI M1 a := fun a ha => by rw [← hMx]; exact if_neg ha
  have e1 : Mx.2 = M1.2 := by rw [← hMx]
  have hR : mR M2 = mR Mx := by rw [s3]; show _ = Mx.2.2.1; rw [e1]; rfl
  refine INV_sn (M := Mx) ?_ hR ?_ (fun a ha => ?_) (fun L hS => ⟨ScnL_1 (M := Mx) (by rw [hR]) ?_ hS.1, ⟨nw, hn2, ?_, ?_, fun w2 hw2 => ?_⟩, ?_, ?_⟩) hIx
  · rw [s1]; show _ = Mx.2.2.2; rw [e1]; rfl
  · rw [s2]; show _ = Mx.2.1; rw [e1]; rfl
  · unfold Sn at ha
    rw [gx a (by omega)]; exact s4 a (by omega)
  · rw [gx 83 (by omega)]; exact s5 1 (by omega)
  · rw [s4 33 (by decide), hF.i (by omega)]; exact g33
  · rw [s5 0 (by omega), hF.i (by omega)]; exact g83
  · by_cases e : w2 = w
    · rw [e]
      exact ⟨kd, v, c, f, bt, gn, cm, k1, k2, k3, k4, hvl, WK_ag (s4 _ (by omega)) hWK, hMW⟩
    · obtain ⟨kd2, v2, c2, f2, bt2, gn2, cm2, j1, j2, j3, j4, j5⟩ := WkP_1 (M := M) (M' := M2) (by rw [s4 _ (by omega)]; exact hF.i (by omega)) (fun k hk => by rw [s5 _ (by omega), hF.i (by omega)]) (hold w2 hw2)
      exact ⟨kd2, v2, c2, f2, bt2, gn2, cm2, j1, j2, j3, by omega, j5⟩
  · have hR2 := hS.2.2.1
    rw [ScnR_rw] at hR2 ⊢
    exact RwP_1 (M := Mx) (by rw [s4 35 (by decide), gx 35 (by omega)]) (by rw [gx 83 (by omega)]; exact s5 _ (by omega)) (fun j _ => by rw [s4 36 (by decide), gx 36 (by omega)]) (fun j _ => by rw [gx 83 (by omega)]; exact s5 _ (by omega)) hR2
  · have hR2 := hS.2.2.2
    rw [ScnT_rw] at hR2 ⊢
    exact RwP_1 (M := Mx) (by rw [s4 37 (by decide), gx 37 (by omega)]) (by rw [gx 83 (by omega)]; exact s5 _ (by omega)) (fun j _ => by rw [s4 38 (by decide), gx 38 (by omega)]) (fun j _ => by rw [gx 83 (by omega)]; exact s5 _ (by omega)) hR2
theorem p_may (hI : INV MZ n M) (hn : n ≤ 512) (a : Int32) : PRI MZ (d + 12) n kX10_may kX11_may [.int a] M := by
  have hp := hI.1
  have hpm := hI.2.1
  obtain ⟨nw, hn6, hc0, hm0, hW⟩ := INV_nw hI
  obtain ⟨p, onN, bk, mk, hld, hL, hE, hB⟩ := INV_land hI
  unfold PRI
  rw [eX10_may]
  simp only [ty_21, pc_21_1 hp, ty_33, true_and, and_true, Option.some.injEq, exists_eq_left']
  cases hA : inR a nw with
  | false =>
    rw [s_who_f hp hc0 hn6 hA]
    simp only [Option.toList_some, Option.toList_none, List.cons_append, List.nil_append]
    rw [gX10_may_8]
    refine ⟨_, rfl, ?_⟩
    rw [eX11_may, m_isWalker hpm (nw := nw) (by omega) hm0, hA]
    simp only [ty_82, true_and, Option.toList_some, Option.toList_none, List.cons_append, List.nil_append]
    rw [gX11_may_5, if_pos (by decide)]
    exact ⟨rfl, INV_mono hI⟩
  | true =>
  obtain ⟨w, hw, rfl⟩ := inR_get hA
  obtain ⟨kd, v, c, f, bt, gn, cm, k1, k2, k3, k4, hvl, hWK, hMW⟩ := hW w hw
  rw [s_who_t hp hc0 hn6 hw]
  simp only [Option.toList_some, Option.toList_none, List.cons_append, List.nil_append]
  rw [gX10_may_8]
  simp only [Option.elim_some, rf_some]
  refine ⟨by simp only [ty_21], ?_⟩
  refine s_allowed hp hld hL hB k1 k2 k3 (by omega) hvl (by omega) hWK (fun M1 hF hG => ?_)
  simp only [Option.toList_some, Option.toList_none, List.cons_append, List.nil_append]
  rw [gX10_may_22]
  have hI1 : INV MZ n M1 := INV_fm hF (fun x hx => by unfold Sq; omega) (SOK_r (fun a ha => hF.r (by omega)) hI.2.2.1) hI
  have hE1 : ME M1 onN bk mk := ME_fr hF (fun a h1 h2 => by omega) hE
  have h83 : mI M1 83 = mI M 83 := hF.i (by omega)
  refine ⟨_, rfl, ?_⟩
  rw [eX11_may, m_isWalker hI1.2.1 (nw := nw) (by omega) (by rw [h83]; exact hm0), hA]
  simp only [ty_82, true_and, Option.toList_some, Option.toList_none, List.cons_append, List.nil_append]
  rw [gX11_may_5, if_neg (by decide)]
  refine ⟨by simp only [ty_82], ?_⟩
  rw [m_mayNow (gn := gn) hI1.2.1 hE1 hB k1 k2 k3 (by omega) hvl (by omega) (by unfold MW; rw [h83]; exact hMW)]
  simp only [Option.toList_some, Option.toList_none, List.cons_append, List.nil_append]
  rw [gX11_may_13]
  exact ⟨rfl, INV_mono hI1⟩
theorem p_step (hI : INV MZ n M) (hn : n ≤ 512) (a b : Int32) : PRI MZ (d + 12) n kX10_step kX11_step [.int a, .int b] M := by
  have hp := hI.1
  have hpm := hI.2.1
  obtain ⟨nw, hn6, hc0, hm0, hW⟩ := INV_nw hI
  obtain ⟨p, onN, bk, mk, hld, hL, hE, hB⟩ := INV_land hI
  unfold PRI
  rw [eX10_step]
  simp only [ty_21, pc_21_1 hp, ty_33, true_and, and_true, Option.some.injEq, exists_eq_left']
  cases hA : inR a nw with
  | false =>
    rw [s_who_f hp hc0 hn6 hA]
    simp only [Option.toList_some, Option.toList_none, List.cons_append, List.nil_append]
    rw [gX10_step_8]
    refine ⟨_, rfl, ?_⟩
    rw [eX11_step, m_isWalker hpm (nw := nw) (by omega) hm0, hA]
    simp only [ty_82, true_and, Option.toList_some, Option.toList_none, List.cons_append, List.nil_append]
    rw [gX11_step_5, if_pos (by decide)]
    exact ⟨rfl, INV_mono hI⟩
  | true =>
  obtain ⟨w, hw, rfl⟩ := inR_get hA
  obtain ⟨kd, v, c, f, bt, gn, cm, k1, k2, k3, k4, hvl, hWK, hMW⟩ := hW w hw
  rw [s_who_t hp hc0 hn6 hw]
  simp only [Option.toList_some, Option.toList_none, List.cons_append, List.nil_append]
  rw [gX10_step_8]
  simp only [Option.elim_some, rf_some]
  rw [s_isStep]
  simp only [Option.toList_some, Option.toList_none, List.cons_append, List.nil_append]
  rw [gX10_step_17]
  cases hA2 : inR b 6 with
  | false =>
    rw [if_pos (by decide)]
    refine ⟨_, rfl, ?_⟩
    rw [eX11_step, m_isWalker hpm (nw := nw) (by omega) hm0, hA]
    simp only [ty_82, true_and, Option.toList_some, Option.toList_none, List.cons_append, List.nil_append]
    rw [gX11_step_5, if_neg (by decide), show (6 : Int32) = vI 6 from rfl, m_isIn (by decide), hA2]
    simp only [Option.toList_some, Option.toList_none, List.cons_append, List.nil_append]
    rw [gX11_step_14, if_pos (by decide)]
    exact ⟨rfl, INV_mono hI⟩
  | true =>
  obtain ⟨x, hx, rfl⟩ := inR_get hA2
  rw [if_neg (by decide)]
  refine ⟨by simp only [ty_21], ?_⟩
  have ref : ∀ (M1 : MM) (Q1 : Option Value → MM → Prop), PM M1 → ME M1 onN bk mk → mI M1 83 = mI M 83 →
      WP (d + 12) kX11_step (24, [.ref 82, .int (vI w), .int (vI x)], [.int (vI (mb (may mk kd v (bt % (onN + bk) < onN) gn c f cm) 6))], M1) Q1 → CL (d + 12) kX11_step [.ref 82, .int (vI w), .int (vI x)] M1 Q1 := by
    intro M1 Q1 hp1 hE1 h83 h
    rw [eX11_step, m_isWalker hp1 (nw := nw) (by omega) (by rw [h83]; exact hm0), hA]
    simp only [ty_82, true_and, Option.toList_some, Option.toList_none, List.cons_append, List.nil_append]
    rw [gX11_step_5, if_neg (by decide), show (6 : Int32) = vI 6 from rfl, m_isIn (by decide), hA2]
    simp only [Option.toList_some, Option.toList_none, List.cons_append, List.nil_append]
    rw [gX11_step_14, if_neg (by decide)]
    refine ⟨by simp only [ty_82], ?_⟩
    rw [m_mayNow (gn := gn) hp1 hE1 hB k1 k2 k3 (by omega) hvl (by omega) (by unfold MW; rw [h83]; exact hMW)]
    simp only [Option.toList_some, Option.toList_none, List.cons_append, List.nil_append]
    exact h
  refine s_goes hp hld hL hB k1 k2 k3 (by omega) hvl (by omega) (by omega) hx hWK (fun hm M1 hF => ?_) (fun hm M1 hF hLR hW1 => ?_)
  · simp only [Option.toList_some, Option.toList_none, List.cons_append, List.nil_append]
    rw [gX10_step_28, if_pos rfl]
    have hI1 : INV MZ n M1 := INV_fm hF (fun x hx => by unfold Sq; omega) (SOK_r (fun a ha => hF.r (by omega)) hI.2.2.1) hI
    refine ⟨_, rfl, ref M1 _ hI1.2.1 (ME_fr hF (fun a h1 h2 => by omega) hE) (hF.i (by omega)) ?_⟩
    rw [gX11_step_24, if_pos (by rw [mb_bit0 _ hx]; exact hm)]
    exact ⟨rfl, INV_mono hI1⟩
  · simp only [Option.toList_some, Option.toList_none, List.cons_append, List.nil_append]
    have htc : tc kd c f cm x < 36 := tc_lt hvl.1 hvl.2.1 hvl.2.2.1 hm
    have hbb := hB
    unfold bnL at hbb
    have hmod : (bt % (onN + bk) + 1) % (onN + bk) < onN + bk := Nat.mod_lt _ (by omega)
    have hvl2 : vld (tc kd c f cm x) (tf f x) (tw kd f cm x) := ⟨htc, tf_lt hvl.2.1, tw_lt hvl.2.1 hvl.2.2.1, tgt_ok hvl.1 hvl.2.1 hvl.2.2.1 hvl.2.2.2 hm⟩
    rw [gX10_step_28, if_neg (by decide), hW1.2.2.2.1]
    refine ⟨by rw [ty_w w (by omega)], _, rfl, ?_⟩
    have hE1 : ME M1 onN bk mk := ME_fr hF (fun a h1 h2 => by omega) hE
    have h83 : mI M1 83 = mI M 83 := hF.i (by omega)
    have hpm1 : PM M1 := PM_fr hF (by omega) hpm
    refine ref M1 _ hpm1 hE1 h83 ?_
    rw [gX11_step_24, if_neg (by rw [mb_bit0 _ hx]; exact fun h => h hm)]
    refine ⟨by simp only [ty_82], ?_⟩
    refine m_steps hpm1 hE1 hB k1 k3 hvl (by omega) hx (by unfold MW; rw [h83]; exact hMW) hm (fun M2 hS hW2 => ?_)
    simp only [Option.toList_some, Option.toList_none, List.cons_append, List.nil_append]
    rw [gX11_step_40]
    refine ⟨by simp only [ty_82], ?_⟩
    rw [show (2 : Int32) = vI 2 from rfl, m_get (PM_st hS hpm1) (by omega) (by decide), hW2.2.2.1]
    simp only [Option.toList_some, Option.toList_none, List.cons_append, List.nil_append]
    rw [gX11_step_46]
    refine ⟨rfl, ?_⟩
    exact walk_inv2 hI hF hLR hS hc0 hm0 hw hn6 hW k1 k2 (by omega) (by omega) hvl2 hW1 hW2
end Step
