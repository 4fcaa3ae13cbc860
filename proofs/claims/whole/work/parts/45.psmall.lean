/-! ===== 45: told, ground, of, count, trace, taken, read, judge on both sides ===== -/
theorem lt_toL {a : Int32} : (a.toInt64 < 0) = (a < 0) := propext (by
  rw [Int64.lt_iff_toInt_lt, Int32.lt_iff_toInt_lt, Int32.toInt_toInt64]; rfl)
theorem lgc_lt (a b : Int64) : (lg_cmp a b < 0) = (a < b) := propext (lg_cmp_lt a b)
theorem lgc_gt (a b : Int64) : ((0 : Int32) < lg_cmp a b) = (b < a) := propext (lg_cmp_gt a b)
section Small
variable {MZ M : MM} {n d : Nat} {Q : Option Value → MM → Prop}
theorem p_told (hI : INV MZ n M) (a : Int32) : PRI MZ (d + 12) n kX10_told kX11_told [.int a] M := by
  have hp := hI.1
  have hpm := hI.2.1
  obtain ⟨p, onN, bk, mk, hld, hL, hE, hB⟩ := INV_land hI
  have hI1 := INV_mono hI
  unfold bnL at hB
  unfold PRI
  rw [eX10_told]
  simp only [ty_21, pc_21_1 hp, ty_33, hld, hL.1, hL.2.1, hL.2.2.1, true_and, and_true, Option.some.injEq, exists_eq_left']
  by_cases h0 : a = 0
  · rw [if_pos h0]
    refine ⟨_, rfl, ?_⟩
    rw [eX11_told, if_pos h0, m_onBeats hpm hE]
    simp only [ty_82, true_and, Option.toList_some, Option.toList_none, List.cons_append, List.nil_append]
    rw [gX11_told_8]
    exact ⟨rfl, hI1⟩
  · rw [if_neg h0]
    by_cases h1 : a = 1
    · rw [if_pos h1]
      refine ⟨_, rfl, ?_⟩
      rw [eX11_told, if_neg h0, if_pos h1, m_beats hpm hE]
      simp only [ty_82, true_and, Option.toList_some, Option.toList_none, List.cons_append, List.nil_append]
      rw [gX11_told_20, m_onBeats hpm hE]
      simp only [ty_82, true_and, Option.toList_some, Option.toList_none, List.cons_append, List.nil_append]
      rw [gX11_told_24, vI_sub (by omega), show onN + bk - onN = bk by omega]
      exact ⟨rfl, hI1⟩
    · rw [if_neg h1]
      refine ⟨_, rfl, ?_⟩
      rw [eX11_told, if_neg h0, if_neg h1]
      exact ⟨rfl, hI1⟩
theorem p_ground (hI : INV MZ n M) (a b : Int32) : PRI MZ (d + 12) n kX10_ground kX11_ground [.int a, .int b] M := by
  have hp := hI.1
  have hpm := hI.2.1
  obtain ⟨p, onN, bk, mk, hld, hL, hE, hB⟩ := INV_land hI
  have hI1 := INV_mono hI
  unfold PRI
  rw [eX10_ground, s_isCell]
  simp only [Option.toList_some, Option.toList_none, List.cons_append, List.nil_append]
  rw [gX10_ground_4]
  cases hA : inR a 36 with
  | false =>
    rw [if_pos (by decide)]
    refine ⟨_, rfl, ?_⟩
    rw [eX11_ground, m_isCell, hA]
    simp only [Option.toList_some, Option.toList_none, List.cons_append, List.nil_append]
    rw [gX11_ground_4, if_pos (by decide)]
    exact ⟨rfl, hI1⟩
  | true =>
  obtain ⟨c, hc, rfl⟩ := inR_get hA
  rw [if_neg (by decide)]
  have bad : inR b 4 = false → CL (d + 12) kX11_ground [.ref 82, .int (vI c), .int b] M (fun r2 M2 => r2 = some (.int (-1)) ∧ INV MZ (n + 1) M2) := by
    intro hb
    rw [eX11_ground, m_isCell, hA]
    simp only [Option.toList_some, Option.toList_none, List.cons_append, List.nil_append]
    rw [gX11_ground_4, if_neg (by decide), show (4 : Int32) = vI 4 from rfl, m_isIn (by decide), hb]
    simp only [Option.toList_some, Option.toList_none, List.cons_append, List.nil_append]
    rw [gX11_ground_12, if_pos (by decide)]
    exact ⟨rfl, hI1⟩
  by_cases hb0 : b < 0
  · rw [if_pos hb0]
    exact ⟨_, rfl, bad (inR_neg hb0)⟩
  · obtain ⟨k, hk, rfl⟩ := inR_pos hb0
    rw [if_neg hb0]
    by_cases hk3 : 3 < k
    · rw [if_pos (by rw [lt_ln (by omega) (by decide)]; exact hk3)]
      exact ⟨_, rfl, bad (by rw [inR_vI hk]; exact decide_eq_false (by omega))⟩
    · rw [if_neg (by rw [lt_ln (by omega) (by decide)]; exact hk3)]
      simp only [ty_21, pc_21_1 hp, ty_33, hld, hL.1, true_and, and_true, Option.some.injEq, exists_eq_left']
      rw [s_marked hL (by omega)]
      simp only [Option.toList_some, Option.toList_none, List.cons_append, List.nil_append]
      rw [gX10_ground_29, s_holds _ hc]
      simp only [Option.toList_some, Option.toList_none, List.cons_append, List.nil_append]
      rw [gX10_ground_33]
      have ref : ∀ z : Int32, z = (if b2i (pB (mk k c)) = 0 then 0 else 1) → CL (d + 12) kX11_ground [.ref 82, .int (vI c), .int (vI k)] M (fun r2 M2 => r2 = some (.int z) ∧ INV MZ (n + 1) M2) := by
        intro z hz
        rw [eX11_ground, m_isCell, hA]
        simp only [Option.toList_some, Option.toList_none, List.cons_append, List.nil_append]
        rw [gX11_ground_4, if_neg (by decide), show (4 : Int32) = vI 4 from rfl, m_isIn (by decide), inR_vI hk, decide_eq_true (show k < 4 by omega)]
        simp only [Option.toList_some, Option.toList_none, List.cons_append, List.nil_append]
        rw [gX11_ground_12, if_neg (by decide), m_isMarked hpm hE hc (by omega)]
        simp only [ty_82, true_and, Option.toList_some, Option.toList_none, List.cons_append, List.nil_append]
        rw [gX11_ground_25]
        by_cases h : b2i (pB (mk k c)) = 0
        · rw [if_pos h] at hz ⊢; rw [hz]; exact ⟨rfl, hI1⟩
        · rw [if_neg h] at hz ⊢; rw [hz]; exact ⟨rfl, hI1⟩
      by_cases h : b2i (pB (mk k c)) = 0
      · rw [if_pos h]; exact ⟨_, rfl, ref _ (by rw [if_pos h])⟩
      · rw [if_neg h]; exact ⟨_, rfl, ref _ (by rw [if_neg h])⟩
theorem p_of (hI : INV MZ n M) (a b : Int32) : PRI MZ (d + 12) n kX10_of kX11_of [.int a, .int b] M := by
  have hp := hI.1
  have hpm := hI.2.1
  obtain ⟨nw, hn6, hc0, hm0, hW⟩ := INV_nw hI
  obtain ⟨p, onN, bk, mk, hld, hL, hE, hB⟩ := INV_land hI
  have hI1 := INV_mono hI
  unfold PRI
  rw [eX10_of]
  simp only [ty_21, pc_21_1 hp, ty_33, true_and, and_true, Option.some.injEq, exists_eq_left']
  cases hA : inR a nw with
  | false =>
    rw [s_who_f hp hc0 hn6 hA]
    simp only [Option.toList_some, Option.toList_none, List.cons_append, List.nil_append]
    rw [gX10_of_8]
    simp only [Option.elim_none]
    refine ⟨_, rfl, ?_⟩
    rw [eX11_of, m_isWalker hpm (by omega) hm0, hA]
    simp only [ty_82, true_and, Option.toList_some, Option.toList_none, List.cons_append, List.nil_append]
    rw [gX11_of_5, if_pos (by decide)]
    exact ⟨rfl, hI1⟩
  | true =>
  obtain ⟨w, hw, rfl⟩ := inR_get hA
  obtain ⟨kd, v, cc, f, bt, gn, cm, k1, k2, k3, k4, hvl, hWK, hMW⟩ := hW w hw
  rw [s_who_t hp hc0 hn6 hw]
  simp only [Option.toList_some, Option.toList_none, List.cons_append, List.nil_append]
  rw [gX10_of_8]
  simp only [Option.elim_some, rf_some, ty_w w (by omega), true_and]
  obtain ⟨w1, w2, w3, w4, w5, w6, w7, w8⟩ := hWK
  obtain ⟨m0, m1, m2, m3, m4, m5, m6⟩ := id hMW
  have get : ∀ (k : Nat) (z : Int32), k < 7 → ¬ k = 4 → mI M 83 (4 + 7 * w + k) = z → CL (d + 12) kX11_of [.ref 82, .int (vI w), .int (vI k)] M (fun r2 M2 => r2 = some (.int z) ∧ INV MZ (n + 1) M2) := by
    intro k z hk hk4 hz
    rw [eX11_of, m_isWalker hpm (by omega) hm0, hA]
    simp only [ty_82, true_and, Option.toList_some, Option.toList_none, List.cons_append, List.nil_append]
    rw [gX11_of_5, if_neg (by decide), show (7 : Int32) = vI 7 from rfl, m_isIn (by decide), inR_vI (by omega), decide_eq_true hk]
    simp only [Option.toList_some, Option.toList_none, List.cons_append, List.nil_append]
    rw [gX11_of_14, if_neg (by decide), if_neg (by rw [eq_nl (by omega) (by decide)]; exact hk4), m_get hpm (by omega) hk, hz]
    simp only [ty_82, true_and, Option.toList_some, Option.toList_none, List.cons_append, List.nil_append]
    rw [gX11_of_40]
    exact ⟨rfl, hI1⟩
  by_cases h0 : b = 0
  · rw [if_pos h0, h0, w2]; exact ⟨_, rfl, get 0 _ (by decide) (by decide) m0⟩
  rw [if_neg h0]
  by_cases h1 : b = 1
  · rw [if_pos h1, h1, w3]; exact ⟨_, rfl, get 1 _ (by decide) (by decide) m1⟩
  rw [if_neg h1]
  by_cases h2 : b = 2
  · rw [if_pos h2, h2, w4]; exact ⟨_, rfl, get 2 _ (by decide) (by decide) m2⟩
  rw [if_neg h2]
  by_cases h3 : b = 3
  · rw [if_pos h3, h3, w5]; exact ⟨_, rfl, get 3 _ (by decide) (by decide) m3⟩
  rw [if_neg h3]
  by_cases h4 : b = 4
  · subst h4
    rw [if_pos rfl, w6]
    simp only [ty_21, pc_21_1 hp, ty_33, hld, hL.1, true_and, and_true, Option.some.injEq, exists_eq_left']
    rw [s_beat hL hB (by omega)]
    simp only [Option.toList_some, Option.toList_none, List.cons_append, List.nil_append]
    rw [gX10_of_94]
    refine ⟨_, rfl, ?_⟩
    rw [eX11_of, m_isWalker hpm (by omega) hm0, hA]
    simp only [ty_82, true_and, Option.toList_some, Option.toList_none, List.cons_append, List.nil_append]
    rw [gX11_of_5, if_neg (by decide), show (7 : Int32) = vI 7 from rfl, m_isIn (by decide), show inR 4 7 = true by decide]
    simp only [Option.toList_some, Option.toList_none, List.cons_append, List.nil_append]
    rw [gX11_of_14, if_neg (by decide), if_pos (by decide), m_beatOf hpm hE hB (by omega) m4 (by omega)]
    simp only [ty_82, true_and, Option.toList_some, Option.toList_none, List.cons_append, List.nil_append]
    rw [gX11_of_31]
    exact ⟨rfl, hI1⟩
  rw [if_neg h4]
  by_cases h5 : b = 5
  · rw [if_pos h5, h5, w4, w8, s_next hvl.1 hvl.2.2.1 hvl.2.2.2]
    simp only [Option.toList_some, Option.toList_none, List.cons_append, List.nil_append]
    rw [gX10_of_106]
    exact ⟨_, rfl, get 5 _ (by decide) (by decide) m5⟩
  rw [if_neg h5]
  by_cases h6 : b = 6
  · rw [if_pos h6, h6, w7]; exact ⟨_, rfl, get 6 _ (by decide) (by decide) m6⟩
  rw [if_neg h6]
  refine ⟨_, rfl, ?_⟩
  rw [eX11_of, m_isWalker hpm (by omega) hm0, hA]
  simp only [ty_82, true_and, Option.toList_some, Option.toList_none, List.cons_append, List.nil_append]
  have hb7 : inR b 7 = false := by
    cases hb : inR b 7 with
    | false => rfl
    | true =>
      obtain ⟨k, hk, rfl⟩ := inR_get hb
      have h7 : k = 0 ∨ k = 1 ∨ k = 2 ∨ k = 3 ∨ k = 4 ∨ k = 5 ∨ k = 6 := by omega
      rcases h7 with rfl | rfl | rfl | rfl | rfl | rfl | rfl
      · exact absurd rfl h0
      · exact absurd rfl h1
      · exact absurd rfl h2
      · exact absurd rfl h3
      · exact absurd rfl h4
      · exact absurd rfl h5
      · exact absurd rfl h6
  rw [gX11_of_5, if_neg (by decide), show (7 : Int32) = vI 7 from rfl, m_isIn (by decide), hb7]
  simp only [Option.toList_some, Option.toList_none, List.cons_append, List.nil_append]
  rw [gX11_of_14, if_pos (by decide)]
  exact ⟨rfl, hI1⟩
theorem p_count (hI : INV MZ n M) (a : Int32) : PRI MZ (d + 12) n kX10_count kX11_count [.int a] M := by
  have hp := hI.1
  have hpm := hI.2.1
  have hI1 := INV_mono hI
  obtain ⟨i1, i2, i3, i4, ⟨L, ⟨l1, l2, l3, -⟩, ⟨-, ⟨nw, -, w1, w2, -⟩, ⟨r, -, r1, r2, -⟩, ⟨t, -, t1, t2, -⟩⟩, -⟩, ⟨T, -, x1, x2, -⟩, ⟨b, -, b1, b2, -⟩, -⟩ := hI
  unfold PRI
  rw [eX10_count]
  simp only [ty_21, pc_21_1 hp, pc_21_0 hp, pc_21_8 hp, ty_33, pc_33_2 hp, pc_33_3 hp, ty_35, ty_37, ty_22, ty_26, l2, w1, r1, t1, x1, b1, true_and, and_true, Option.some.injEq, exists_eq_left']
  have ref : ∀ z : Int32, (∀ Q : Option Value → MM → Prop, (if a = 0 then Q (some (.int (vI nw))) M else (if a = 1 then Q (some (.int (vI L))) M else (if a = 2 then Q (some (.int (vI r))) M else (if a = 3 then Q (some (.int (vI t))) M else (if a = 4 then Q (some (.int (vI T))) M else (if a = 5 then Q (some (.int (vI b))) M else Q (some (.int (-2))) M)))))) = Q (some (.int z)) M) →
      CL (d + 12) kX11_count [.ref 82, .int a] M (fun r2 M2 => r2 = some (.int z) ∧ INV MZ (n + 1) M2) := by
    intro z hz
    have e : ∀ Q : Option Value → MM → Prop, CL (d + 12) kX11_count [.ref 82, .int a] M Q = (if a = 0 then Q (some (.int (vI nw))) M else (if a = 1 then Q (some (.int (vI L))) M else (if a = 2 then Q (some (.int (vI r))) M else (if a = 3 then Q (some (.int (vI t))) M else (if a = 4 then Q (some (.int (vI T))) M else (if a = 5 then Q (some (.int (vI b))) M else Q (some (.int (-2))) M)))))) := by
      intro Q
      rw [eX11_count]
      simp (disch := omega) only [ty_82, pm_0 hpm, ty_83, inb_l, cl_l, Nat.reduceLT, w2, show mI M 83 2 = vI r from r2, show mI M 83 3 = vI t from t2, l3, x2, b2, true_and, and_true, Option.some.injEq, exists_eq_left']
    rw [e]
    exact (hz (fun r2 M2 => r2 = some (.int z) ∧ INV MZ (n + 1) M2)).mpr ⟨rfl, hI1⟩
  by_cases h0 : a = 0
  · rw [if_pos h0]; exact ⟨_, rfl, ref _ (fun Q => by rw [if_pos h0])⟩
  rw [if_neg h0]
  by_cases h1 : a = 1
  · rw [if_pos h1]; exact ⟨_, rfl, ref _ (fun Q => by rw [if_neg h0, if_pos h1])⟩
  rw [if_neg h1]
  by_cases h2 : a = 2
  · rw [if_pos h2]; exact ⟨_, rfl, ref _ (fun Q => by rw [if_neg h0, if_neg h1, if_pos h2])⟩
  rw [if_neg h2]
  by_cases h3 : a = 3
  · rw [if_pos h3]; exact ⟨_, rfl, ref _ (fun Q => by rw [if_neg h0, if_neg h1, if_neg h2, if_pos h3])⟩
  rw [if_neg h3]
  by_cases h4 : a = 4
  · rw [if_pos h4]; exact ⟨_, rfl, ref _ (fun Q => by rw [if_neg h0, if_neg h1, if_neg h2, if_neg h3, if_pos h4])⟩
  rw [if_neg h4]
  by_cases h5 : a = 5
  · rw [if_pos h5]; exact ⟨_, rfl, ref _ (fun Q => by rw [if_neg h0, if_neg h1, if_neg h2, if_neg h3, if_neg h4, if_pos h5])⟩
  rw [if_neg h5]
  exact ⟨_, rfl, ref _ (fun Q => by rw [if_neg h0, if_neg h1, if_neg h2, if_neg h3, if_neg h4, if_neg h5])⟩
theorem p_trace (hI : INV MZ n M) (a : Int32) : PRI MZ (d + 12) n kX10_trace kX11_trace [.int a] M := by
  have hp := hI.1
  have hpm := hI.2.1
  have hI1 := INV_mono hI
  obtain ⟨i1, i2, i3, i4, -, -, ⟨b, hb, b1, b2, b3⟩, -⟩ := hI
  unfold PRI
  rw [eX10_trace]
  by_cases ha : a < 0
  · rw [if_pos ha]
    refine ⟨_, rfl, ?_⟩
    rw [eX11_trace, if_pos ha]
    exact ⟨rfl, hI1⟩
  obtain ⟨i, hi, rfl⟩ := inR_pos ha
  rw [if_neg ha]
  simp only [ty_21, pc_21_8 hp, ty_26, b1, true_and, and_true, Option.some.injEq, exists_eq_left']
  by_cases h1 : i < b
  · rw [if_pos (by rw [vI_lt hi (by omega)]; exact h1)]
    by_cases h2 : i < 20
    · rw [if_pos (by rw [lt_nl hi (by decide)]; exact h2)]
      simp (disch := omega) only [pc_26_0 hp, ty_27, inb_n, vI_cl, h2, true_and, and_true, Option.some.injEq, exists_eq_left']
      refine ⟨_, rfl, ?_⟩
      rw [eX11_trace, if_neg ha, b2]
      rw [if_pos (by rw [vI_lt hi (by omega)]; exact h1), if_pos (by rw [lt_nl hi (by decide)]; exact h2)]
      simp (disch := omega) only [ty_82, pm_27 hpm, ty_96, inb_n, vI_cl, h2, b3 i h1 h2, true_and, and_true, Option.some.injEq, exists_eq_left']
      exact hI1
    · rw [if_neg (by rw [lt_nl hi (by decide)]; exact h2)]
      refine ⟨_, rfl, ?_⟩
      rw [eX11_trace, if_neg ha, b2]
      rw [if_pos (by rw [vI_lt hi (by omega)]; exact h1), if_neg (by rw [lt_nl hi (by decide)]; exact h2)]
      exact ⟨by simp only [ty_82], rfl, hI1⟩
  · rw [if_neg (by rw [vI_lt hi (by omega)]; exact h1)]
    refine ⟨_, rfl, ?_⟩
    rw [eX11_trace, if_neg ha, b2]
    rw [if_neg (by rw [vI_lt hi (by omega)]; exact h1)]
    exact ⟨by simp only [ty_82], rfl, hI1⟩
/- kinds above -/
def abv (k : Nat) : Nat := if k = 4 then 1 else if k = 5 then 2 else if k = 6 then 3 else 0
def rnk (k : Nat) : Nat := if k = 0 then 0 else if k < 4 then 1 else 2
theorem abv_lt {k : Nat} (hk : k < 7) (h0 : ¬ k = 0) : abv k < 7 ∧ rnk (abv k) < rnk k := by
  unfold abv rnk
  have h7 : k = 1 ∨ k = 2 ∨ k = 3 ∨ k = 4 ∨ k = 5 ∨ k = 6 := by omega
  rcases h7 with rfl | rfl | rfl | rfl | rfl | rfl <;> decide
theorem s_above {k : Nat} (hk : k < 7) : CL d kX10_above [.int (vI k)] M Q = Q (some (.int (if k = 0 then -1 else vI (abv k)))) M := by
  rw [eX10_above]
  have h7 : k = 0 ∨ k = 1 ∨ k = 2 ∨ k = 3 ∨ k = 4 ∨ k = 5 ∨ k = 6 := by omega
  rcases h7 with rfl | rfl | rfl | rfl | rfl | rfl | rfl
  · rw [if_neg (by decide), if_neg (by decide), if_neg (by decide), if_neg (by decide), if_neg (by decide), if_neg (by decide)]; rfl
  · rw [if_pos (by decide)]; rfl
  · rw [if_neg (by decide), if_pos (by decide)]; rfl
  · rw [if_neg (by decide), if_neg (by decide), if_pos (by decide)]; rfl
  · rw [if_neg (by decide), if_neg (by decide), if_neg (by decide), if_pos (by decide)]; rfl
  · rw [if_neg (by decide), if_neg (by decide), if_neg (by decide), if_neg (by decide), if_pos (by decide)]; rfl
  · rw [if_neg (by decide), if_neg (by decide), if_neg (by decide), if_neg (by decide), if_neg (by decide), if_pos (by decide)]; rfl
theorem m_above {k : Nat} (hk : k < 7) : CL d kX11_above [.int (vI k)] M Q = Q (some (.int (if k = 0 then -1 else vI (abv k)))) M := by
  rw [eX11_above]
  have h7 : k = 0 ∨ k = 1 ∨ k = 2 ∨ k = 3 ∨ k = 4 ∨ k = 5 ∨ k = 6 := by omega
  rcases h7 with rfl | rfl | rfl | rfl | rfl | rfl | rfl
  · rw [if_neg (by decide), if_neg (by decide), if_neg (by decide), if_pos (by decide)]; rfl
  · rw [if_neg (by decide), if_neg (by decide), if_neg (by decide), if_neg (by decide)]; rfl
  · rw [if_neg (by decide), if_neg (by decide), if_neg (by decide), if_neg (by decide)]; rfl
  · rw [if_neg (by decide), if_neg (by decide), if_neg (by decide), if_neg (by decide)]; rfl
  · rw [if_pos (by decide)]; rfl
  · rw [if_neg (by decide), if_pos (by decide)]; rfl
  · rw [if_neg (by decide), if_neg (by decide), if_pos (by decide)]; rfl
/-- whether a kind k is a told one or under it; m is large enough -/
def udr : Nat → Nat → Nat → Bool
  | 0, _, _ => false
  | m + 1, k, t => if k = t then true else if k = 0 then false else udr m (abv k) t
theorem s_under_loop {t : Nat} (ht : t < 7) (z : Int32) : ∀ m i k : Nat, k < 7 → rnk k < m → i + m ≤ 6 → WP (d + 1) kX10_isUnder (4, [.int z, .int (vI t), .int (vI k), .int (vI i)], [], M) Q = Q (some (.int (b2i (udr m k t)))) M := by
  intro m
  induction m with
  | zero => intro i k hk hr hi; omega
  | succ m ih =>
    intro i k hk hr hi
    rw [gX10_isUnder_4, if_pos (by rw [lt_nl (by omega) (by decide)]; omega), if_neg (vI_ne k (by omega)), udr]
    by_cases h : k = t
    · rw [if_pos (by rw [vI_inj (by omega) (by omega)]; exact h), if_pos h]; rfl
    · rw [if_neg (by rw [vI_inj (by omega) (by omega)]; exact h), if_neg h, s_above hk]
      simp only [Option.toList_some, Option.toList_none, List.cons_append, List.nil_append]
      rw [gX10_isUnder_26, add_nl]
      by_cases h0 : k = 0
      · rw [if_pos h0, if_pos h0, gX10_isUnder_4, if_pos (by rw [lt_nl (by omega) (by decide)]; omega), if_pos rfl]; rfl
      · rw [if_neg h0, if_neg h0]
        have h1 := abv_lt hk h0
        exact ih (i + 1) (abv k) h1.1 (by omega) (by omega)
theorem m_under_loop {t own : Nat} (ht : t < 7) (l0 l1 : Int32) : ∀ m k : Nat, k < 7 → rnk k < m → WP (d + 1) kX11_taken (33, [.ref 82, .int l0, .int (vI t), .int (vI own), .int (vI k)], [], M) Q = (if udr m k t = true then Q (some (.int (vI own))) M else Q (some (.int (-12))) M) := by
  intro m
  induction m with
  | zero => intro k hk hr; omega
  | succ m ih =>
    intro k hk hr
    rw [gX11_taken_33, if_neg (by rw [vI_neg (by omega)]; exact id), udr]
    by_cases h : k = t
    · rw [if_pos (by rw [vI_inj (by omega) (by omega)]; exact h), if_pos h, if_pos rfl]
    · rw [if_neg (by rw [vI_inj (by omega) (by omega)]; exact h), if_neg h, m_above hk]
      simp only [Option.toList_some, Option.toList_none, List.cons_append, List.nil_append]
      rw [gX11_taken_51]
      by_cases h0 : k = 0
      · rw [if_pos h0, if_pos h0, gX11_taken_33, if_pos (by decide), if_neg (by decide)]
      · rw [if_neg h0, if_neg h0]
        have h1 := abv_lt hk h0
        exact ih (abv k) h1.1 (by omega)
theorem p_taken (hI : INV MZ n M) (a b : Int32) : PRI MZ (d + 12) n kX10_taken kX11_taken [.int a, .int b] M := by
  have hp := hI.1
  have hpm := hI.2.1
  obtain ⟨nw, hn6, hc0, hm0, hW⟩ := INV_nw hI
  have hI1 := INV_mono hI
  unfold PRI
  rw [eX10_taken, s_isKind]
  simp only [Option.toList_some, Option.toList_none, List.cons_append, List.nil_append]
  rw [gX10_taken_4]
  cases hA2 : inR b 7 with
  | false =>
    rw [if_pos (by decide)]
    refine ⟨_, rfl, ?_⟩
    rw [eX11_taken, show (7 : Int32) = vI 7 from rfl, m_isIn (by decide), hA2]
    simp only [Option.toList_some, Option.toList_none, List.cons_append, List.nil_append]
    rw [gX11_taken_6, if_pos (by decide)]
    exact ⟨rfl, hI1⟩
  | true =>
  obtain ⟨t, ht, rfl⟩ := inR_get hA2
  rw [if_neg (by decide)]
  simp only [ty_21, pc_21_1 hp, ty_33, true_and, and_true, Option.some.injEq, exists_eq_left']
  cases hA : inR a nw with
  | false =>
    rw [s_who_f hp hc0 hn6 hA]
    simp only [Option.toList_some, Option.toList_none, List.cons_append, List.nil_append]
    rw [gX10_taken_18]
    simp only [Option.elim_none]
    refine ⟨_, rfl, ?_⟩
    rw [eX11_taken, show (7 : Int32) = vI 7 from rfl, m_isIn (by decide), hA2]
    simp only [Option.toList_some, Option.toList_none, List.cons_append, List.nil_append]
    rw [gX11_taken_6, if_neg (by decide), m_isWalker hpm (by omega) hm0, hA]
    simp only [ty_82, true_and, Option.toList_some, Option.toList_none, List.cons_append, List.nil_append]
    rw [gX11_taken_17, if_pos (by decide)]
    exact ⟨rfl, hI1⟩
  | true =>
  obtain ⟨w, hw, rfl⟩ := inR_get hA
  obtain ⟨kd, v, cc, f, bt, gn, cm, k1, k2, k3, k4, hvl, hWK, hMW⟩ := hW w hw
  have hr3 : rnk kd < 3 := by unfold rnk; split <;> (try split) <;> omega
  rw [s_who_t hp hc0 hn6 hw]
  simp only [Option.toList_some, Option.toList_none, List.cons_append, List.nil_append]
  rw [gX10_taken_18]
  simp only [Option.elim_some, rf_some, ty_w w (by omega), true_and]
  rw [hWK.2.1, eX10_isUnder]
  rw [show (0 : Int32) = vI 0 from rfl, s_under_loop ht _ 3 0 kd k1 hr3 (by decide)]
  simp only [Option.toList_some, Option.toList_none, List.cons_append, List.nil_append]
  rw [gX10_taken_34]
  have ref : CL (d + 12) kX11_taken [.ref 82, .int (vI w), .int (vI t)] M (fun r2 M2 => r2 = some (.int (if udr 3 kd t = true then vI kd else -12)) ∧ INV MZ (n + 1) M2) := by
    rw [eX11_taken, show (7 : Int32) = vI 7 from rfl, m_isIn (by decide), hA2]
    simp only [Option.toList_some, Option.toList_none, List.cons_append, List.nil_append]
    rw [gX11_taken_6, if_neg (by decide), m_isWalker hpm (by omega) hm0, hA]
    simp only [ty_82, true_and, Option.toList_some, Option.toList_none, List.cons_append, List.nil_append]
    rw [gX11_taken_17, if_neg (by decide), show (0 : Int32) = vI 0 from rfl, m_get hpm (by omega) (by decide), hMW.1]
    simp only [ty_82, true_and, Option.toList_some, Option.toList_none, List.cons_append, List.nil_append]
    rw [gX11_taken_29, m_under_loop ht _ 0 3 kd k1 hr3]
    by_cases h : udr 3 kd t = true
    · rw [if_pos h, if_pos h]; exact ⟨rfl, hI1⟩
    · rw [if_neg h, if_neg h]; exact ⟨rfl, hI1⟩
  cases h : udr 3 kd t with
  | true =>
    rw [if_neg (by decide), hWK.2.1]
    rw [h, if_pos rfl] at ref
    exact ⟨by simp only [ty_w w (show w < 6 by omega)], _, rfl, ref⟩
  | false =>
    rw [if_pos (by decide)]
    rw [h, if_neg (by decide)] at ref
    exact ⟨_, rfl, ref⟩
end Small
