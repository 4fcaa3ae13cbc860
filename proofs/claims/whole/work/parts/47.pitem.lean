/-! ===== 47: item, tape, shift on both sides ===== -/
section Item
variable {MZ M : MM} {n d : Nat} {Q : Option Value → MM → Prop}
/-- what an item of sort s becomes -/
def cutF (s : Nat) (v : Int64) : Int64 := if s = 0 then v.toInt32.toInt8.toInt32.toInt64 else if s = 1 then v.toInt32.toInt16.toInt32.toInt64 else if s = 2 then v.toInt32.toInt64 else if s = 3 then v else if v = 0 then 0 else 1
theorem s_cut {t s : Nat} (ht : t < 6) (hs : s ≤ 4) (h1 : mI M (70 + 2 * t) 1 = vI s) (v : Int64) : CL d kX6_cut [.ref (70 + 2 * t), .long v] M Q = Q (some (.long (cutF s v))) M := by
  have qs : ∀ k : Nat, k < 100 → (vI s = vI k) = (s = k) := fun k hk => vI_inj (by omega) (by omega)
  rw [eX6_cut, h1, ty_t t ht, cutF]
  simp only [true_and]
  by_cases h0 : s = 0
  · rw [if_pos (show vI s = 0 from (qs 0 (by decide)).mpr h0), if_pos h0]
  rw [if_neg (show ¬ vI s = 0 from fun h => h0 ((qs 0 (by decide)).mp h)), if_neg h0]
  by_cases h2 : s = 1
  · rw [if_pos (show vI s = 1 from (qs 1 (by decide)).mpr h2), if_pos h2]
  rw [if_neg (show ¬ vI s = 1 from fun h => h2 ((qs 1 (by decide)).mp h)), if_neg h2]
  by_cases h3 : s = 2
  · rw [if_pos (show vI s = 2 from (qs 2 (by decide)).mpr h3), if_pos h3]
  rw [if_neg (show ¬ vI s = 2 from fun h => h3 ((qs 2 (by decide)).mp h)), if_neg h3]
  by_cases h4 : s = 3
  · rw [if_pos (show vI s = 3 from (qs 3 (by decide)).mpr h4), if_pos h4]
  rw [if_neg (show ¬ vI s = 3 from fun h => h4 ((qs 3 (by decide)).mp h)), if_neg h4]
  rw [if_pos (show vI s = 4 from (qs 4 (by decide)).mpr (by omega))]
  by_cases h5 : v = 0
  · rw [if_pos (by rw [lg_0]; exact h5), if_pos h5]
  · rw [if_neg (by rw [lg_0]; exact h5), if_neg h5]
theorem p_item (hI : INV MZ n M) (a b : Int32) (v : Int64) : PRI MZ (d + 12) n kX10_item kX11_item [.int a, .int b, .long v] M := by
  have hp := hI.1
  have hpm := hI.2.1
  have hI1 := INV_mono hI
  have hT := hI.2.2.2.2.2.2.2
  unfold PRI
  rw [eX10_item]
  simp only [ty_21, true_and]
  cases hA : inR a 6 with
  | false =>
    rw [s_tape_f hp hA]
    simp only [Option.toList_some, Option.toList_none, List.cons_append, List.nil_append]
    rw [gX10_item_5]
    simp only [Option.elim_none]
    refine ⟨_, rfl, ?_⟩
    rw [eX11_item, show (6 : Int32) = vI 6 from rfl, m_isIn (by decide), hA]
    simp only [Option.toList_some, Option.toList_none, List.cons_append, List.nil_append]
    rw [gX11_item_6, if_pos (by decide)]
    exact ⟨rfl, hI1⟩
  | true =>
  obtain ⟨t, ht, rfl⟩ := inR_get hA
  rw [s_tape_t hp ht]
  simp only [Option.toList_some, Option.toList_none, List.cons_append, List.nil_append]
  rw [gX10_item_5]
  simp only [Option.elim_some, rf_some, ty_t t ht, true_and]
  rcases hT t ht with ⟨q1, q2, q3⟩ | ⟨s, z, q1, q2, q3, q4, q5, q6, q7, q8⟩
  · rw [q2, if_pos rfl]
    refine ⟨_, rfl, ?_⟩
    rw [eX11_item, show (6 : Int32) = vI 6 from rfl, m_isIn (by decide), hA]
    simp only [Option.toList_some, Option.toList_none, List.cons_append, List.nil_append]
    rw [gX11_item_6, if_neg (by decide)]
    simp (disch := omega) only [ty_82, pm_32 hpm, ty_99, isB23, inb_n, vI_cl, ht, q1, true_and, and_true, Option.some.injEq, exists_eq_left']
    rw [if_pos trivial]
    exact hI1
  · rw [q4, if_neg (vI_ne s (by omega)), s_has (by rw [ty_t t ht]) q6 q2]
    simp only [Option.toList_some, Option.toList_none, List.cons_append, List.nil_append]
    rw [gX10_item_33]
    cases hb : inR b z with
    | false =>
      rw [if_pos (by decide)]
      refine ⟨_, rfl, ?_⟩
      rw [eX11_item, show (6 : Int32) = vI 6 from rfl, m_isIn (by decide), hA]
      simp only [Option.toList_some, Option.toList_none, List.cons_append, List.nil_append]
      rw [gX11_item_6, if_neg (by decide)]
      simp (disch := omega) only [ty_82, pm_32 hpm, pm_31 hpm, ty_99, ty_98, isB23, inb_n, vI_cl, ht, q3, q7, true_and, and_true, Option.some.injEq, exists_eq_left']
      rw [if_neg (by decide), m_isIn (by omega), hb]
      simp only [Option.toList_some, Option.toList_none, List.cons_append, List.nil_append]
      rw [gX11_item_33, if_pos (by decide)]
      exact ⟨rfl, hI1⟩
    | true =>
      obtain ⟨j, hj, rfl⟩ := inR_get hb
      rw [if_neg (by decide), eX6_write, if_neg (by rw [vI_neg (by omega)]; exact id), if_pos (by rw [lt_nl (by omega) (by decide)]; omega), s_cut ht q1 q4]
      simp only [ty_t t ht, pc_70 hp ht, rf_some, true_and, Option.toList_some, Option.toList_none, List.cons_append, List.nil_append]
      rw [gX6_write_20]
      simp (disch := omega) only [ty_ti t ht, inb_n, vI_cl, show j < 60 by omega, true_and, Option.toList_some, Option.toList_none, List.cons_append, List.nil_append]
      rw [gX10_item_46]
      refine ⟨_, rfl, ?_⟩
      have hpm1 : PM (sL M (71 + 2 * t) j (cutF s v)) := hpm
      have fin : INV MZ (n + 1) (sL (sL M (71 + 2 * t) j (cutF s v)) 100 (60 * t + j) (cutF s v)) := by
        refine INV_tp (M := M) rfl rfl (fun a ha => ⟨rfl, ?_⟩) (Tap_upd (t0 := t) hT (fun t2 ht2 hne => ⟨rfl, rfl, rfl, rfl, ?_, fun j2 hj2 => ?_⟩) (Or.inr ⟨s, z, q1, q2, q3, q4, q5, q6, q7, fun j2 hj2 => ?_⟩)) hI1
        · rw [rL_sL (fun h => ha (by unfold Tp; omega)), rL_sL (fun h => ha (by unfold Tp; omega))]
        · rw [rL_sL (by omega), rL_sL (by omega)]
        · rw [bL_sL (by omega), rL_sL (by omega)]
        · rw [rL_sL (show ¬ 71 + 2 * t = 100 by omega)]
          by_cases e : j2 = j
          · subst e
            rw [aL_sL, aL_sL]
          · rw [bL_sL e, bL_sL (by omega), rL_sL (by omega)]; exact q8 j2 hj2
      have qs : ∀ k : Nat, k < 100 → (vI s = vI k) = (s = k) := fun k hk => vI_inj (by omega) (by omega)
      rw [eX11_item, show (6 : Int32) = vI 6 from rfl, m_isIn (by decide), hA]
      simp only [Option.toList_some, Option.toList_none, List.cons_append, List.nil_append]
      rw [gX11_item_6, if_neg (by decide)]
      simp (disch := omega) only [ty_82, pm_32 hpm1, pm_31 hpm1, ty_99, ty_98, isB23, inb_n, vI_cl, ht, show mI (sL M (71 + 2 * t) j (cutF s v)) 99 t = 1 from q3, show mI (sL M (71 + 2 * t) j (cutF s v)) 98 t = vI z from q7, true_and, and_true, Option.some.injEq, exists_eq_left']
      rw [if_neg (by decide), m_isIn (by omega), hb]
      simp only [Option.toList_some, Option.toList_none, List.cons_append, List.nil_append]
      rw [gX11_item_33, if_neg (by decide)]
      have e33 : ∀ (x : Int64), x = cutF s v → (∃ q2, mR (sL M (71 + 2 * t) j (cutF s v)) 82 33 = some q2 ∧ (((TY q2).1 = 21 ∧ ((inb ((60 * vI t) + vI j) (TY q2).2 ∧ (some (Value.int 1) = some (Value.int 1) ∧ INV MZ (n + 1) (sL (sL M (71 + 2 * t) j (cutF s v)) q2 ((60 * vI t) + vI j).toNatClampNeg x))))))) := by
        intro x hx
        subst hx
        refine ⟨100, pm_33 hpm1, by simp only [ty_100], ?_, rfl, ?_⟩
        · rw [mul_ln, vI_add, ty_100, inb_n (by omega)]; show 60 * t + j < 360; omega
        · rw [mul_ln, vI_add, vI_cl (by omega)]; exact fin
      have hmI : mI (sL M (71 + 2 * t) j (cutF s v)) 97 (vI t).toNatClampNeg = vI s := by rw [vI_cl (by omega)]; exact q5
      have hin : inb (vI t) (TY 97).2 := by rw [ty_97, inb_n (by omega)]; exact ht
      refine ⟨by simp only [ty_82], 97, pm_30 hpm1, by simp only [ty_97], hin, ?_⟩
      rw [hmI]
      by_cases h0 : s = 0
      · rw [if_pos (show vI s = 0 from (qs 0 (by decide)).mpr h0)]
        exact e33 _ (by rw [cutF, if_pos h0])
      rw [if_neg (show ¬ vI s = 0 from fun h => h0 ((qs 0 (by decide)).mp h))]
      refine ⟨hin, ?_⟩
      by_cases h1 : s = 1
      · rw [if_pos (show vI s = 1 from (qs 1 (by decide)).mpr h1)]
        exact e33 _ (by rw [cutF, if_neg h0, if_pos h1])
      rw [if_neg (show ¬ vI s = 1 from fun h => h1 ((qs 1 (by decide)).mp h))]
      refine ⟨hin, ?_⟩
      by_cases h2 : s = 2
      · rw [if_pos (show vI s = 2 from (qs 2 (by decide)).mpr h2)]
        exact e33 _ (by rw [cutF, if_neg h0, if_neg h1, if_pos h2])
      rw [if_neg (show ¬ vI s = 2 from fun h => h2 ((qs 2 (by decide)).mp h))]
      refine ⟨hin, ?_⟩
      by_cases h3 : s = 3
      · rw [if_pos (show vI s = 3 from (qs 3 (by decide)).mpr h3)]
        exact e33 _ (by rw [cutF, if_neg h0, if_neg h1, if_neg h2, if_pos h3])
      rw [if_neg (show ¬ vI s = 3 from fun h => h3 ((qs 3 (by decide)).mp h))]
      by_cases h5 : v = 0
      · rw [if_pos (by rw [lg_0]; exact h5)]
        exact e33 _ (by rw [cutF, if_neg h0, if_neg h1, if_neg h2, if_neg h3, if_pos h5])
      · rw [if_neg (by rw [lg_0]; exact h5)]
        exact e33 _ (by rw [cutF, if_neg h0, if_neg h1, if_neg h2, if_neg h3, if_neg h5])
/- shift -/
theorem m_shift_loop (hp0 : PM M) {t o i j N : Nat} (ht : t < 6) (ho : o < 6) (hi : i + N ≤ 60) (hj : j + N ≤ 60) : ∀ m k : Nat, k + m = N → ∀ (M1 : MM) (l7 : Value) (lo hi : Nat), (j < i → lo = 0 ∧ hi = k) → (¬ j < i → lo = N - k ∧ hi = N) → FM (fun a => a = 100) M M1 → M1.1 = M.1 → mR M1 = mR M →
    (∀ x : Nat, mL M1 100 x = if 60 * o + j + lo ≤ x ∧ x < 60 * o + j + hi then mL M 100 (60 * t + i + (x - (60 * o + j))) else mL M 100 x) →
    (∀ M' : MM, FM (fun a => a = 100) M M' → M'.1 = M.1 → mR M' = mR M → (∀ x : Nat, mL M' 100 x = if 60 * o + j ≤ x ∧ x < 60 * o + j + N then mL M 100 (60 * t + i + (x - (60 * o + j))) else mL M 100 x) → Q (some (.int (vI N))) M') →
    WP (d + 1) kX11_shift (106, [.ref 82, .int (vI t), .int (vI i), .int (vI o), .int (vI j), .int (vI N), .int (vI k), l7], [], M1) Q := by
  intro m
  induction m with
  | zero =>
    intro k hk M1 l7 lo hi2 hlo1 hlo2 hF h1 hR hx h
    obtain rfl : k = N := by omega
    rw [gX11_shift_106, if_neg (by rw [vI_lt (by omega) (by omega)]; omega)]
    refine h M1 hF h1 hR (fun x => ?_)
    have e1 : lo = 0 ∧ hi2 = k := by
      by_cases hij : j < i
      · exact hlo1 hij
      · have := hlo2 hij; omega
    rw [hx x, e1.1, e1.2, Nat.add_zero]
  | succ m ih =>
    intro k hk M1 l7 lo hi2 hlo1 hlo2 hF h1 hR hx h
    have hp1 : PM M1 := fun t ht => by rw [hR]; exact hp0 t ht
    rw [gX11_shift_106, if_pos (by rw [vI_lt (by omega) (by omega)]; omega)]
    by_cases hij : j < i
    · rw [if_pos (by rw [vI_lt (by omega) (by omega)]; exact hij)]
      simp (disch := omega) only [ty_82, pm_33 hp1, ty_100, mul_ln, vI_add, inb_n, vI_cl, add_nl, true_and, and_true, Option.some.injEq, exists_eq_left']
      refine ⟨by omega, by omega, ?_⟩
      have hF1 : FM (fun a => a = 100) M1 (sL M1 100 (60 * o + j + k) (mL M1 100 (60 * t + i + k))) := fr_sL rfl
      obtain ⟨rfl, rfl⟩ := hlo1 hij
      refine ih (hi2 + 1) (by omega) _ _ 0 (hi2 + 1) (fun _ => ⟨rfl, rfl⟩) (fun h => absurd hij h) (hF.trans hF1) h1 hR (fun x => ?_) h
      by_cases e : x = 60 * o + j + hi2
      · subst e
        rw [aL_sL, hx, if_neg (by omega), if_pos (by omega)]
        rw [show 60 * t + i + (60 * o + j + hi2 - (60 * o + j)) = 60 * t + i + hi2 by omega]
      · rw [bL_sL e, hx]
        by_cases hr : 60 * o + j + 0 ≤ x ∧ x < 60 * o + j + hi2
        · rw [if_pos hr, if_pos (by omega)]
        · rw [if_neg hr, if_neg (by omega)]
    · rw [if_neg (by rw [vI_lt (by omega) (by omega)]; exact hij)]
      rw [show (vI N - 1) - vI k = vI (N - 1 - k) by rw [show (1 : Int32) = vI 1 from rfl, vI_sub (by omega), vI_sub (by omega)]]
      simp (disch := omega) only [ty_82, pm_33 hp1, ty_100, mul_ln, vI_add, inb_n, vI_cl, add_nl, true_and, and_true, Option.some.injEq, exists_eq_left']
      refine ⟨by omega, by omega, ?_⟩
      have hF1 : FM (fun a => a = 100) M1 (sL M1 100 (60 * o + j + (N - 1 - k)) (mL M1 100 (60 * t + i + (N - 1 - k)))) := fr_sL rfl
      have hl := hlo2 hij
      refine ih (k + 1) (by omega) _ _ (N - (k + 1)) N (fun h => absurd h hij) (fun _ => ⟨rfl, rfl⟩) (hF.trans hF1) h1 hR (fun x => ?_) h
      by_cases e : x = 60 * o + j + (N - 1 - k)
      · subst e
        rw [aL_sL, hx, if_neg (by omega), if_pos (by omega)]
        rw [show 60 * t + i + (60 * o + j + (N - 1 - k) - (60 * o + j)) = 60 * t + i + (N - 1 - k) by omega]
      · rw [bL_sL e, hx]
        by_cases hr : 60 * o + j + lo ≤ x ∧ x < 60 * o + j + hi2
        · rw [if_pos hr, if_pos (by omega)]
        · rw [if_neg hr, if_neg (by omega)]
theorem s_reaches {a z : Nat} (hT : (TY a).1 = 6) (h2 : mI M a 2 = vI z) (hz : z ≤ 60) (i N : Int32) : CL d kX6_reaches [.ref a, .int i, .int N] M Q = Q (some (.int (b2i (decide (¬ i < 0 ∧ ¬ N < 0 ∧ i.toNatClampNeg + N.toNatClampNeg ≤ z))))) M := by
  rw [eX6_reaches]
  by_cases hi : i < 0
  · rw [if_pos hi, decide_eq_false (fun h => h.1 hi)]; rfl
  · rw [if_neg hi]
    by_cases hN : N < 0
    · rw [if_pos hN, decide_eq_false (fun h => h.2.1 hN)]; rfl
    · obtain ⟨i2, hi2, rfl⟩ := inR_pos hi
      obtain ⟨N2, hN2, rfl⟩ := inR_pos hN
      rw [if_neg hN, h2, toL_vI hi2, toL_vI hN2, toL_vI (by omega), vL_add, vI_cl hi2, vI_cl hN2]
      simp only [hT, true_and]
      by_cases h : z < i2 + N2
      · rw [if_pos (by rw [lgc_gt, vL_lt (by omega) (by omega)]; exact h), decide_eq_false (fun h3 => by omega)]; rfl
      · rw [if_neg (by rw [lgc_gt, vL_lt (by omega) (by omega)]; exact h), decide_eq_true ⟨hi, hN, by omega⟩]; rfl
theorem sub_lt_dec {z i N : Nat} (hz : z ≤ 60) (hi : i < 2147483648) (hN : N < 2147483648) : ((vI z - vI i) < vI N) = ¬ (i + N ≤ z) := by
  have e1 : (vI z).toInt = z := Int32.toInt_ofNat_of_lt (by omega)
  have e2 : (vI i).toInt = i := Int32.toInt_ofNat_of_lt hi
  have e3 : (vI N).toInt = N := Int32.toInt_ofNat_of_lt hN
  have e4 : (vI z - vI i).toInt = (z : Int) - i := by
    rw [Int32.toInt_sub, e1, e2]
    rw [Int.bmod_eq_of_le (by omega) (by omega)]
  rw [Int32.lt_iff_toInt_lt, e4, e3]
  exact propext ⟨fun h => by omega, fun h => by omega⟩
theorem p_shift (hI : INV MZ n M) (a b c e f : Int32) : PRI MZ (d + 12) n kX10_shift kX11_shift [.int a, .int b, .int c, .int e, .int f] M := by
  have hp := hI.1
  have hpm := hI.2.1
  have hI1 := INV_mono hI
  have hT := hI.2.2.2.2.2.2.2
  unfold PRI
  rw [eX10_shift]
  simp only [ty_21, true_and]
  cases hA : inR a 6 with
  | false =>
    rw [s_tape_f hp hA]
    simp only [Option.toList_some, Option.toList_none, List.cons_append, List.nil_append]
    rw [gX10_shift_5]
    have ref : CL (d + 12) kX11_shift [.ref 82, .int a, .int b, .int c, .int e, .int f] M (fun r2 M2 => r2 = some (.int (-1)) ∧ INV MZ (n + 1) M2) := by
      rw [eX11_shift, show (6 : Int32) = vI 6 from rfl, m_isIn (by decide), hA]
      simp only [Option.toList_some, Option.toList_none, List.cons_append, List.nil_append]
      rw [gX11_shift_6, if_pos (by decide)]
      exact ⟨rfl, hI1⟩
    simp only [ty_21, true_and]
    cases hA2 : inR c 6 with
    | false =>
      rw [s_tape_f hp hA2]
      simp only [Option.toList_some, Option.toList_none, List.cons_append, List.nil_append]
      rw [gX10_shift_12]
      simp only [Option.elim_none]
      exact ⟨_, rfl, ref⟩
    | true =>
      obtain ⟨o, ho, rfl⟩ := inR_get hA2
      rw [s_tape_t hp ho]
      simp only [Option.toList_some, Option.toList_none, List.cons_append, List.nil_append]
      rw [gX10_shift_12]
      simp only [Option.elim_none]
      exact ⟨_, rfl, ref⟩
  | true =>
  obtain ⟨t, ht, rfl⟩ := inR_get hA
  rw [s_tape_t hp ht]
  simp only [Option.toList_some, Option.toList_none, List.cons_append, List.nil_append]
  rw [gX10_shift_5]
  simp only [ty_21, true_and]
  cases hA2 : inR c 6 with
  | false =>
    rw [s_tape_f hp hA2]
    simp only [Option.toList_some, Option.toList_none, List.cons_append, List.nil_append]
    rw [gX10_shift_12]
    simp only [Option.elim_none, Option.elim_some]
    refine ⟨_, rfl, ?_⟩
    rw [eX11_shift, show (6 : Int32) = vI 6 from rfl, m_isIn (by decide), hA]
    simp only [Option.toList_some, Option.toList_none, List.cons_append, List.nil_append]
    rw [gX11_shift_6, if_neg (by decide), show (6 : Int32) = vI 6 from rfl, m_isIn (by decide), hA2]
    simp only [Option.toList_some, Option.toList_none, List.cons_append, List.nil_append]
    rw [gX11_shift_15, if_pos (by decide)]
    exact ⟨rfl, hI1⟩
  | true =>
  obtain ⟨o, ho, rfl⟩ := inR_get hA2
  rw [s_tape_t hp ho]
  simp only [Option.toList_some, Option.toList_none, List.cons_append, List.nil_append]
  rw [gX10_shift_12]
  simp only [Option.elim_some, ty_t t ht, ty_t o ho, true_and, rf_some]
  rcases hT t ht with ⟨q1, q2, q3⟩ | ⟨s, z, q1, q2, q3, q4, q5, q6, q7, q8⟩
  · rw [q2, if_pos rfl]
    refine ⟨_, rfl, ?_⟩
    rw [eX11_shift, show (6 : Int32) = vI 6 from rfl, m_isIn (by decide), hA]
    simp only [Option.toList_some, Option.toList_none, List.cons_append, List.nil_append]
    rw [gX11_shift_6, if_neg (by decide), show (6 : Int32) = vI 6 from rfl, m_isIn (by decide), hA2]
    simp only [Option.toList_some, Option.toList_none, List.cons_append, List.nil_append]
    rw [gX11_shift_15, if_neg (by decide)]
    simp (maxSteps := 2000000) (disch := omega) only [ty_82, pm_32 hpm, ty_99, isB23, inb_n, vI_cl, ht, q1, true_and, and_true, Option.some.injEq, exists_eq_left']
    rw [if_pos trivial]
    exact hI1
  · rw [q4, if_neg (vI_ne s (by omega))]
    rcases hT o ho with ⟨r1, r2, r3⟩ | ⟨s2, z2, r1, r2, r3, r4, r5, r6, r7, r8⟩
    · rw [r2, if_pos rfl]
      refine ⟨_, rfl, ?_⟩
      rw [eX11_shift, show (6 : Int32) = vI 6 from rfl, m_isIn (by decide), hA]
      simp only [Option.toList_some, Option.toList_none, List.cons_append, List.nil_append]
      rw [gX11_shift_6, if_neg (by decide), show (6 : Int32) = vI 6 from rfl, m_isIn (by decide), hA2]
      simp only [Option.toList_some, Option.toList_none, List.cons_append, List.nil_append]
      rw [gX11_shift_15, if_neg (by decide)]
      simp (maxSteps := 2000000) (disch := omega) only [ty_82, pm_32 hpm, ty_99, isB23, inb_n, vI_cl, ht, ho, q3, r1, true_and, and_true, Option.some.injEq, exists_eq_left']
      rw [if_neg (by decide), if_pos trivial]
      exact hI1
    · rw [r4, if_neg (vI_ne s2 (by omega))]
      have qss : (vI s = vI s2) = (s = s2) := vI_inj (by omega) (by omega)
      -- the reference up to the comparison of the sorts
      have pre : ∀ (M1 : MM) (Q1 : Option Value → MM → Prop), PM M1 → M1.1 = M.1 → CL (d + 12) kX11_shift [.ref 82, .int (vI t), .int b, .int (vI o), .int e, .int f] M1 Q1 = (if vI s = vI s2 then (if f < 0 then Q1 (some (.int (-13))) M1 else (if b < 0 then Q1 (some (.int (-13))) M1 else (if e < 0 then Q1 (some (.int (-13))) M1 else (if (vI z - b) < f then Q1 (some (.int (-13))) M1 else (if (vI z2 - e) < f then Q1 (some (.int (-13))) M1 else WP (d + 12) kX11_shift (106, [.ref 82, .int (vI t), .int b, .int (vI o), .int e, .int f, .int 0, dm], [], M1) Q1))))) else Q1 (some (.int (-12))) M1) := by
        intro M1 Q1 hp1 hM1
        have g : mI M1 = mI M := by unfold mI; rw [hM1]
        rw [eX11_shift, show (6 : Int32) = vI 6 from rfl, m_isIn (by decide), hA]
        simp only [Option.toList_some, Option.toList_none, List.cons_append, List.nil_append]
        rw [gX11_shift_6, if_neg (by decide), show (6 : Int32) = vI 6 from rfl, m_isIn (by decide), hA2]
        simp only [Option.toList_some, Option.toList_none, List.cons_append, List.nil_append]
        rw [gX11_shift_15, if_neg (by decide)]
        simp (maxSteps := 2000000) (disch := omega) only [g, ty_82, pm_32 hp1, pm_30 hp1, pm_31 hp1, ty_99, ty_97, ty_98, isB23, inb_n, vI_cl, ht, ho, q3, r3, q5, r5, q7, r7, true_and, and_true, Option.some.injEq, exists_eq_left']
        rw [if_neg (by decide), if_neg (by decide)]
      by_cases hss : s = s2
      · rw [if_pos (by rw [qss]; exact hss), s_reaches (by rw [ty_t t ht]) q6 q2]
        simp only [Option.toList_some, Option.toList_none, List.cons_append, List.nil_append]
        rw [show Value.ref (70 + 2 * t) = rf (some (70 + 2 * t)) from rfl, gX10_shift_71]
        have bad : ¬ ((¬ b < 0 ∧ ¬ f < 0 ∧ b.toNatClampNeg + f.toNatClampNeg ≤ z) ∧ (¬ e < 0 ∧ ¬ f < 0 ∧ e.toNatClampNeg + f.toNatClampNeg ≤ z2)) → CL (d + 12) kX11_shift [.ref 82, .int (vI t), .int b, .int (vI o), .int e, .int f] M (fun r2 M2 => r2 = some (.int (-13)) ∧ INV MZ (n + 1) M2) := by
          intro hbad
          rw [pre M _ hpm rfl, if_pos (by rw [qss]; exact hss)]
          by_cases h1 : f < 0
          · rw [if_pos h1]; exact ⟨rfl, hI1⟩
          rw [if_neg h1]
          by_cases h2 : b < 0
          · rw [if_pos h2]; exact ⟨rfl, hI1⟩
          rw [if_neg h2]
          by_cases h3 : e < 0
          · rw [if_pos h3]; exact ⟨rfl, hI1⟩
          rw [if_neg h3]
          obtain ⟨N, hN, rfl⟩ := inR_pos h1
          obtain ⟨i, hi, rfl⟩ := inR_pos h2
          obtain ⟨j, hj, rfl⟩ := inR_pos h3
          rw [vI_cl hN, vI_cl hi, vI_cl hj] at hbad
          by_cases h4 : i + N ≤ z
          · rw [if_neg (by rw [sub_lt_dec q2 hi hN]; exact not_not_intro h4)]
            rw [if_pos (by rw [sub_lt_dec r2 hj hN]; exact fun h5 => hbad ⟨⟨h2, h1, h4⟩, h3, h1, h5⟩)]
            exact ⟨rfl, hI1⟩
          · rw [if_pos (by rw [sub_lt_dec q2 hi hN]; exact h4)]
            exact ⟨rfl, hI1⟩
        by_cases g1 : ¬ b < 0 ∧ ¬ f < 0 ∧ b.toNatClampNeg + f.toNatClampNeg ≤ z
        · rw [decide_eq_true g1, if_neg (by decide), s_reaches (by rw [ty_t o ho]) r6 r2]
          simp only [ty_t o ho, true_and, Option.toList_some, Option.toList_none, List.cons_append, List.nil_append]
          rw [gX10_shift_83]
          · by_cases g2 : ¬ e < 0 ∧ ¬ f < 0 ∧ e.toNatClampNeg + f.toNatClampNeg ≤ z2
            · rw [decide_eq_true g2, if_neg (by decide)]
              obtain ⟨N, hN, rfl⟩ := inR_pos g1.2.1
              obtain ⟨i, hi, rfl⟩ := inR_pos g1.1
              obtain ⟨j, hj, rfl⟩ := inR_pos g2.1
              rw [vI_cl hN, vI_cl hi] at g1
              rw [vI_cl hN, vI_cl hj] at g2
              simp only [ty_t t ht, ty_t o ho, pc_70 hp ht, pc_70 hp ho, ty_ti t ht, ty_ti o ho, vI_cl hN, vI_cl hi, vI_cl hj, true_and, and_true, Option.some.injEq, exists_eq_left']
              refine ⟨⟨⟨g1.1, g2.1, g1.2.1⟩, by omega, by omega⟩, ?_⟩
              refine ⟨_, rfl, ?_⟩
              rw [pre _ _ (show PM (cL M (71 + 2 * t) i (71 + 2 * o) j N) from hpm) rfl, if_pos (by rw [qss]; exact hss), if_neg g1.2.1, if_neg g1.1, if_neg g2.1, if_neg (by rw [sub_lt_dec q2 hi hN]; exact not_not_intro g1.2.2), if_neg (by rw [sub_lt_dec r2 hj hN]; exact not_not_intro g2.2.2)]
              refine m_shift_loop (M := cL M (71 + 2 * t) i (71 + 2 * o) j N) hpm ht ho (by omega) (by omega) N 0 (by omega) _ _ (if j < i then 0 else N) (if j < i then 0 else N) (fun hij => by rw [if_pos hij]; exact ⟨rfl, rfl⟩) (fun hij => by rw [if_neg hij]; exact ⟨rfl, rfl⟩) (FM.refl _ _) rfl rfl (fun x => by rw [if_neg (by omega)]) (fun M' hF' hM' hR' hx' => ⟨rfl, ?_⟩)
              · have g : mI M' = mI M := by unfold mI; rw [hM']; rfl
                have hl100 : ∀ x : Nat, mL (cL M (71 + 2 * t) i (71 + 2 * o) j N) 100 x = mL M 100 x := fun x => by rw [mL_cL, if_neg (by omega)]
                have hlr : ∀ a : Nat, ¬ a = 100 → mL M' a = mL (cL M (71 + 2 * t) i (71 + 2 * o) j N) a := fun a ha => hF'.l ha
                refine INV_tp (M := M) hF'.1 hR' (fun a ha => ⟨by rw [g], ?_⟩) (Tap_upd (t0 := o) hT (fun t2 ht2 hne => ⟨by rw [g], by rw [g], by rw [g], by rw [g], ?_, fun j2 hj2 => ?_⟩) (Or.inr ⟨s2, z2, r1, r2, by rw [g]; exact r3, by rw [g]; exact r4, by rw [g]; exact r5, by rw [g]; exact r6, by rw [g]; exact r7, fun j2 hj2 => ?_⟩)) hI1
                · rw [hlr a (fun h => ha (by unfold Tp; omega))]
                  exact funext fun x => by rw [mL_cL, if_neg (fun h => ha (by unfold Tp; omega))]
                · rw [hlr _ (by omega)]
                  exact funext fun x => by rw [mL_cL, if_neg (by omega)]
                · rw [hx', if_neg (by omega), hl100]
                · rw [hlr _ (by omega), hx', mL_cL]
                  by_cases hr : j ≤ j2 ∧ j2 < j + N
                  · rw [if_pos ⟨rfl, hr.1, hr.2⟩, if_pos (by omega), hl100, q8 _ (by omega)]
                    rw [show 60 * t + i + (60 * o + j2 - (60 * o + j)) = 60 * t + (i + (j2 - j)) by omega]
                  · rw [if_neg (fun h => hr h.2), if_neg (by omega), hl100]
                    exact r8 j2 hj2
            · rw [decide_eq_false g2, if_pos (by decide)]
              exact ⟨_, rfl, bad (fun h => g2 h.2)⟩
          · intro q1 q h1 h2
            cases h1
            rw [pc_70 hp ht] at h2
            cases h2
            rw [ty_ti t ht]
          · intro q h2
            rw [pc_70 hp ho] at h2
            cases h2
            rw [ty_ti o ho]
        · rw [decide_eq_false g1, if_pos (by decide)]
          exact ⟨_, rfl, bad (fun h => g1 h.1)⟩
      · rw [if_neg (by rw [qss]; exact hss)]
        refine ⟨_, rfl, ?_⟩
        rw [pre M _ hpm rfl, if_neg (by rw [qss]; exact hss)]
        exact ⟨rfl, hI1⟩
end Item
