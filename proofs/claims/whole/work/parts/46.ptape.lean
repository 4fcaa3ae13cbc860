/-! ===== 46: tapes on both sides ===== -/
theorem Lnd_of {L : Nat} {M M' : MM} (h1 : mN M' = mN M) (h2 : mI M' 21 10 = mI M 21 10) (h3 : mI M' 82 6 = mI M 82 6) (h4 : ∀ a : Nat, (29 ≤ a ∧ a ≤ 32) ∨ 101 ≤ a → mI M' a = mI M a ∧ mL M' a = mL M a ∧ mR M' a = mR M a) (h5 : ∀ a : Nat, 85 ≤ a ∧ a ≤ 87 → mI M' a = mI M a) (hL : Lnd L M) : Lnd L M' := by
  obtain ⟨q1, q2, q3, q4, q5, q6⟩ := hL
  refine ⟨q1, h2.trans q2, h3.trans q3, h1.trans q4, LandC_ag h4 q5, fun i hi => ?_⟩
  obtain ⟨onN, bk, mk, g1, g2, g3⟩ := q6 i hi
  refine ⟨onN, bk, mk, g1, LandC_ag h4 g2, ?_⟩
  unfold MEi at g3 ⊢
  rw [h5 85 (by decide), h5 86 (by decide), h5 87 (by decide)]
  exact g3
theorem SOK_r {M M' : MM} (h : ∀ a : Nat, a = 58 ∨ a = 62 ∨ a = 66 → mR M' a = mR M a) (hS : SOK M) : SOK M' := by
  obtain ⟨⟨qh, qt, h1⟩, ⟨qh2, qt2, h2⟩, h3⟩ := hS
  refine ⟨⟨qh, qt, ?_⟩, ⟨qh2, qt2, ?_⟩, ?_⟩
  · unfold CrP at h1 ⊢; rw [h 58 (by omega)]; exact h1
  · unfold CrP at h2 ⊢; rw [h 62 (by omega)]; exact h2
  · unfold LtQ at h3 ⊢; rw [h 66 (by omega)]; exact h3
def Tp (a : Nat) : Prop := (70 ≤ a ∧ a ≤ 81) ∨ (97 ≤ a ∧ a ≤ 100)
theorem INV_tp {MZ : MM} {n : Nat} {M M' : MM} (hn : mN M' = mN M) (hr : mR M' = mR M) (h : ∀ a : Nat, ¬ Tp a → mI M' a = mI M a ∧ mL M' a = mL M a) (hT : Tap M') (hI : INV MZ n M) : INV MZ n M' := by
  obtain ⟨i1, i2, i3, i4, ⟨L, i5, i6, i7⟩, i8, i9, i10⟩ := hI
  have r : ∀ a : Nat, ¬ Tp a → mI M' a = mI M a := fun a ha => (h a ha).1
  have rr : ∀ a : Nat, mR M' a = mR M a := fun a => by rw [hr]
  refine ⟨fun t ht => by rw [hr]; exact i1 t ht, fun t ht => by rw [hr]; exact i2 t ht, SOK_r (fun a _ => rr a) i3, fun a ha => ⟨by rw [r a (by unfold Tp; omega)]; exact (i4 a ha).1, by rw [rr]; exact (i4 a ha).2⟩, ⟨L, Lnd_of hn (by rw [r 21 (by unfold Tp; omega)]) (by rw [r 82 (by unfold Tp; omega)]) (fun a ha => ⟨(h a (by unfold Tp; omega)).1, (h a (by unfold Tp; omega)).2, rr a⟩) (fun a ha => r a (by unfold Tp; omega)) i5, Scn_ag (fun a h1 h2 => ⟨r a (by unfold Tp; omega), rr a⟩) (r 83 (by unfold Tp; omega)) i6, Img_ag (by rw [r 21 (by unfold Tp; omega)]) (by rw [r 82 (by unfold Tp; omega)]) (fun q => Scn_ag (fun a h1 h2 => ⟨r a (by unfold Tp; omega), rr a⟩) (r 84 (by unfold Tp; omega)) q) i7⟩, Txt_ag (by rw [r 22 (by unfold Tp; omega)]) (by rw [r 82 (by unfold Tp; omega)]) (r 23 (by unfold Tp; omega)) (r 88 (by unfold Tp; omega)) i8, Bod_ag (r 26 (by unfold Tp; omega)) (by rw [r 82 (by unfold Tp; omega)]) (r 27 (by unfold Tp; omega)) (r 96 (by unfold Tp; omega)) i9, hT⟩
theorem Tap_upd {M M' : MM} {t0 : Nat} (hT : Tap M) (h : ∀ t : Nat, t < 6 → ¬ t = t0 → mI M' 99 t = mI M 99 t ∧ mI M' 97 t = mI M 97 t ∧ mI M' 98 t = mI M 98 t ∧ mI M' (70 + 2 * t) = mI M (70 + 2 * t) ∧ mL M' (71 + 2 * t) = mL M (71 + 2 * t) ∧ ∀ j : Nat, j < 60 → mL M' 100 (60 * t + j) = mL M 100 (60 * t + j)) (h0 : TapE M' t0 ∨ ∃ s z : Nat, TapF M' t0 s z) : Tap M' := by
  intro t ht
  by_cases e : t = t0
  · rw [e]; exact h0
  · obtain ⟨e1, e2, e3, e4, e5, e6⟩ := h t ht e
    rcases hT t ht with ⟨q1, q2, q3⟩ | ⟨s, z, q1, q2, q3, q4, q5, q6, q7, q8⟩
    · refine Or.inl ⟨e1.trans q1, ?_, ?_⟩
      · rw [e4]; exact q2
      · rw [e4]; exact q3
    · refine Or.inr ⟨s, z, q1, q2, e1.trans q3, ?_, e2.trans q5, ?_, e3.trans q7, fun j hj => ?_⟩
      · rw [e4]; exact q4
      · rw [e4]; exact q6
      · rw [e5, e6 j hj]; exact q8 j hj
section Tapes
variable {MZ M : MM} {n d : Nat} {Q : Option Value → MM → Prop}
theorem s_tape_t (hp : PC M) {t : Nat} (ht : t < 6) : CL d kX10_tapeAt [.ref 21, .int (vI t)] M Q = Q (some (rf (some (70 + 2 * t)))) M := by
  rw [eX10_tapeAt, if_neg (by rw [vI_neg (by omega)]; exact id), if_pos (by rw [lt_nl (by omega) (by decide)]; exact ht)]
  simp (disch := omega) only [ty_21, pc_21_9 hp, ty_28, inb_n, vI_cl, pc_28 hp, ht, or_true, true_and, and_true, Option.some.injEq, exists_eq_left']
theorem s_tape_f (hp : PC M) {a : Int32} (h : inR a 6 = false) : CL d kX10_tapeAt [.ref 21, .int a] M Q = Q (some (rf none)) M := by
  rw [eX10_tapeAt]
  by_cases ha : a < 0
  · rw [if_pos ha]
  · obtain ⟨t, ht, rfl⟩ := inR_pos ha
    rw [inR_vI ht] at h
    have := of_decide_eq_false h
    rw [if_neg ha, if_neg (by rw [lt_nl ht (by decide)]; exact this)]
theorem s_has {a z : Nat} (hT : (TY a).1 = 6) (h2 : mI M a 2 = vI z) (hz : z ≤ 60) (i : Int32) : CL d kX6_has [.ref a, .long i.toInt64] M Q = Q (some (.int (b2i (inR i z)))) M := by
  rw [eX6_has]
  by_cases hi : i < 0
  · rw [if_pos (by rw [lgc_lt, lt_toL]; exact hi), inR_neg hi]; rfl
  · obtain ⟨j, hj, rfl⟩ := inR_pos hi
    rw [if_neg (by rw [lgc_lt, lt_toL]; exact hi), h2, toL_vI hj, toL_vI (by omega), inR_vI hj]
    by_cases h : j < z
    · rw [if_pos (by rw [lgc_lt, vL_lt (by omega) (by omega)]; exact h), decide_eq_true h]
      simp only [hT, true_and]; rfl
    · rw [if_neg (by rw [lgc_lt, vL_lt (by omega) (by omega)]; exact h), decide_eq_false h]
      simp only [hT, true_and]; rfl
theorem s_value (hp : PC M) {t j : Nat} (ht : t < 6) (hj : j < 60) : CL d kX6_value [.ref (70 + 2 * t), .int (vI j)] M Q = Q (some (.long (mL M (71 + 2 * t) j))) M := by
  rw [eX6_value, if_neg (by rw [vI_neg (by omega)]; exact id), if_pos (by rw [lt_nl (by omega) (by decide)]; exact hj)]
  simp (disch := omega) only [ty_t t ht, pc_70 hp ht, ty_ti t ht, inb_n, vI_cl, hj, true_and, and_true, Option.some.injEq, exists_eq_left']
theorem isB23 : isB 23 = true := rfl
theorem p_read (hI : INV MZ n M) (a b : Int32) : PRL MZ (d + 12) n kX10_read kX11_read [.int a, .int b] M := by
  have hp := hI.1
  have hpm := hI.2.1
  have hI1 := INV_mono hI
  have hT := hI.2.2.2.2.2.2.2
  unfold PRL
  rw [eX10_read]
  simp only [ty_21, true_and]
  cases hA : inR a 6 with
  | false =>
    rw [s_tape_f hp hA]
    simp only [Option.toList_some, Option.toList_none, List.cons_append, List.nil_append]
    rw [gX10_read_5]
    simp only [Option.elim_none]
    refine ⟨_, rfl, ?_⟩
    rw [eX11_read, show (6 : Int32) = vI 6 from rfl, m_isIn (by decide), hA]
    simp only [Option.toList_some, Option.toList_none, List.cons_append, List.nil_append]
    rw [gX11_read_6, if_pos (by decide)]
    exact ⟨rfl, hI1⟩
  | true =>
  obtain ⟨t, ht, rfl⟩ := inR_get hA
  rw [s_tape_t hp ht]
  simp only [Option.toList_some, Option.toList_none, List.cons_append, List.nil_append]
  rw [gX10_read_5]
  simp only [Option.elim_some, rf_some, ty_t t ht, true_and]
  rcases hT t ht with ⟨q1, q2, q3⟩ | ⟨s, z, q1, q2, q3, q4, q5, q6, q7, q8⟩
  · rw [s_has (z := 0) (by rw [ty_t t ht]) q3 (by decide), show inR b 0 = false by
      cases h : inR b 0 with
      | false => rfl
      | true => obtain ⟨c, hc, -⟩ := inR_get h; exact absurd hc (Nat.not_lt_zero c)]
    simp only [Option.toList_some, Option.toList_none, List.cons_append, List.nil_append]
    rw [gX10_read_16, if_pos (by decide)]
    refine ⟨_, rfl, ?_⟩
    rw [eX11_read, show (6 : Int32) = vI 6 from rfl, m_isIn (by decide), hA]
    simp only [Option.toList_some, Option.toList_none, List.cons_append, List.nil_append]
    rw [gX11_read_6, if_neg (by decide)]
    simp (disch := omega) only [ty_82, pm_32 hpm, ty_99, isB23, inb_n, vI_cl, ht, q1, true_and, and_true, Option.some.injEq, exists_eq_left']
    rw [if_pos trivial]
    exact hI1
  · rw [s_has (by rw [ty_t t ht]) q6 q2]
    simp only [Option.toList_some, Option.toList_none, List.cons_append, List.nil_append]
    rw [gX10_read_16]
    have ref : ∀ x : Int64, x = (if b2i (inR b z) = 0 then -9223372036854775808 else mL M (71 + 2 * t) b.toNatClampNeg) → CL (d + 12) kX11_read [.ref 82, .int (vI t), .int b] M (fun r2 M2 => r2 = some (.long x) ∧ INV MZ (n + 1) M2) := by
      intro x hx
      rw [eX11_read, show (6 : Int32) = vI 6 from rfl, m_isIn (by decide), hA]
      simp only [Option.toList_some, Option.toList_none, List.cons_append, List.nil_append]
      rw [gX11_read_6, if_neg (by decide)]
      simp (disch := omega) only [ty_82, pm_32 hpm, pm_31 hpm, ty_99, ty_98, isB23, inb_n, vI_cl, ht, q3, q7, true_and, and_true, Option.some.injEq, exists_eq_left']
      rw [if_neg (by decide), m_isIn (by omega)]
      simp only [Option.toList_some, Option.toList_none, List.cons_append, List.nil_append]
      rw [gX11_read_28]
      by_cases h : b2i (inR b z) = 0
      · rw [if_pos h] at hx ⊢; rw [hx]; exact ⟨rfl, hI1⟩
      · rw [if_neg h] at hx ⊢
        have hb : inR b z = true := by
          rw [b2i_0] at h
          cases hh : inR b z with
          | true => rfl
          | false => exact absurd hh h
        obtain ⟨j, hj, rfl⟩ := inR_get hb
        simp (disch := omega) only [ty_82, pm_33 hpm, ty_100, mul_ln, vI_add, inb_n, vI_cl, true_and, and_true, Option.some.injEq, exists_eq_left']
        refine ⟨by omega, ?_⟩
        rw [hx, vI_cl (by omega), q8 j (by omega)]
        exact ⟨rfl, hI1⟩
    cases hb : inR b z with
    | false =>
      rw [if_pos (by decide)]
      exact ⟨_, rfl, ref _ (by rw [hb, if_pos (by decide)])⟩
    | true =>
      obtain ⟨j, hj, rfl⟩ := inR_get hb
      rw [if_neg (by decide), s_value hp ht (by omega)]
      simp only [ty_t t ht, true_and, Option.toList_some, Option.toList_none, List.cons_append, List.nil_append]
      rw [gX10_read_30]
      exact ⟨_, rfl, ref _ (by rw [hb, if_neg (by decide), vI_cl (by omega)])⟩
theorem neg_dec : ∀ z : Nat, z < 6 → ∀ k : Nat, k < 6 → (!(decide (z < k + 1)) || decide (vI z - 1 - vI k < 0)) = true := by decide +kernel
theorem jdg_lt {z k j : Nat} (hz : z ≤ 60) (hk : k < 6) (hj : j < 2147483000) : ((vI z - 1) - vI k < vI j) = ¬ (j + k < z) := by
  by_cases h : k + 1 ≤ z
  · rw [show (1 : Int32) = vI 1 from rfl, vI_sub (by omega), vI_sub (by omega), vI_lt (by omega) (by omega)]
    exact propext ⟨fun h => by omega, fun h => by omega⟩
  · have h1 := neg_dec z (by omega) k hk
    rw [decide_eq_true (show z < k + 1 by omega)] at h1
    have h2 : vI z - 1 - vI k < 0 := by simpa using h1
    have h3 : (0 : Int32) ≤ vI j := by
      rw [show (0 : Int32) = vI 0 from rfl, vI_le (by decide) (by omega)]; exact Nat.zero_le _
    refine propext ⟨fun _ => by omega, fun _ => ?_⟩
    rw [Int32.lt_iff_toInt_lt] at h2 ⊢
    rw [Int32.le_iff_toInt_le] at h3
    omega
/-- how judging goes on from WALKER k -/
noncomputable def jgF (z j : Nat) (it cl : Nat → Int64) : Nat → Nat → Int32
  | 0, _ => -5
  | m + 1, k => if j + k < z then (if it k = cl k then jgF z j it cl m (k + 1) else vI k) else vI (100 + k)
theorem s_judge_loop (hp : PC M) {t z j nw : Nat} (ht : t < 6) (hn6 : nw ≤ 6) (hc0 : mI M 33 1 = vI nw) (hz : z ≤ 60) (h2 : mI M (70 + 2 * t) 2 = vI z) (hj : j < 2147483000) (l1 : Int32) : ∀ m k : Nat, k + m = nw → ∀ l5 : Value, WP (d + 1) kX10_judge (34, [.ref 21, .int l1, .int (vI j), .ref (70 + 2 * t), .int (vI k), l5], [], M) Q = Q (some (.int (jgF z j (fun k => mL M (71 + 2 * t) (j + k)) (fun k => (mI M (39 + k) 2).toInt64) m k))) M := by
  intro m
  induction m with
  | zero =>
    intro k hk l5
    obtain rfl : k = nw := by omega
    rw [gX10_judge_34]
    simp only [ty_21, pc_21_1 hp, ty_33, hc0, true_and, and_true, Option.some.injEq, exists_eq_left']
    rw [if_neg (by rw [vI_lt (by omega) (by omega)]; omega)]; rfl
  | succ m ih =>
    intro k hk l5
    rw [gX10_judge_34]
    simp only [ty_21, pc_21_1 hp, ty_33, hc0, true_and, and_true, Option.some.injEq, exists_eq_left']
    rw [if_pos (by rw [vI_lt (by omega) (by omega)]; omega), s_who_t hp hc0 hn6 (by omega)]
    simp only [Option.toList_some, Option.toList_none, List.cons_append, List.nil_append]
    rw [gX10_judge_55]
    have e : (vI j).toInt64 + (vI k).toInt64 = (vI (j + k)).toInt64 := by rw [toL_vI (by omega), toL_vI (by omega), toL_vI (by omega), vL_add]
    rw [e, s_has (by rw [ty_t t ht]) h2 hz, inR_vI (by omega)]
    simp only [ty_t t ht, true_and, Option.toList_some, Option.toList_none, List.cons_append, List.nil_append]
    rw [gX10_judge_67, jgF]
    by_cases h : j + k < z
    · rw [if_pos h, decide_eq_true h, if_neg (by decide)]
      simp only [Option.elim_some, ty_t t ht, true_and]
      rw [vI_add, s_value hp ht (by omega)]
      simp only [Option.toList_some, Option.toList_none, List.cons_append, List.nil_append]
      rw [gX10_judge_89]
      simp only [ty_w k (show k < 6 by omega), true_and, and_true, Option.some.injEq, exists_eq_left']
      by_cases h3 : mL M (71 + 2 * t) (j + k) = (mI M (39 + k) 2).toInt64
      · rw [if_pos (by rw [lg_0]; exact h3), if_pos h3, add_nl]
        exact ih (k + 1) (by omega) _
      · rw [if_neg (by rw [lg_0]; exact h3), if_neg h3]
    · rw [if_neg h, decide_eq_false h, if_pos (by decide), add_ln]
theorem m_judge_loop (hp : PM M) {t z j nw : Nat} (ht : t < 6) (hn6 : nw ≤ 6) (hc0 : mI M 83 0 = vI nw) (hz : z ≤ 60) (h2 : mI M 98 t = vI z) (hj : j < 2147483000) : ∀ m k : Nat, k + m = nw → WP (d + 1) kX11_judge (63, [.ref 82, .int (vI t), .int (vI j), .int (vI k)], [], M) Q = Q (some (.int (jgF z j (fun k => mL M 100 (60 * t + (j + k))) (fun k => (mI M 83 (4 + 7 * k + 2)).toInt64) m k))) M := by
  intro m
  induction m with
  | zero =>
    intro k hk
    obtain rfl : k = nw := by omega
    rw [gX11_judge_63]
    simp (disch := omega) only [ty_82, pm_0 hp, ty_83, inb_l, cl_l, Nat.reduceLT, hc0, true_and, and_true, Option.some.injEq, exists_eq_left']
    rw [if_neg (by rw [vI_lt (by omega) (by omega)]; omega)]; rfl
  | succ m ih =>
    intro k hk
    rw [gX11_judge_63]
    simp (disch := omega) only [ty_82, pm_0 hp, ty_83, inb_l, cl_l, Nat.reduceLT, hc0, true_and, and_true, Option.some.injEq, exists_eq_left']
    rw [if_pos (by rw [vI_lt (by omega) (by omega)]; omega)]
    simp (disch := omega) only [pm_31 hp, pm_33 hp, ty_98, ty_100, inb_n, vI_cl, ht, h2, mul_ln, vI_add, true_and, and_true, Option.some.injEq, exists_eq_left']
    rw [jgF]
    by_cases h : j + k < z
    · rw [if_neg (by rw [jdg_lt hz (by omega) hj]; exact not_not_intro h), if_pos h, show (2 : Int32) = vI 2 from rfl, m_get hp (by omega) (by decide)]
      simp only [Option.toList_some, Option.toList_none, List.cons_append, List.nil_append]
      rw [gX11_judge_111, show 60 * t + j + k = 60 * t + (j + k) by omega]
      simp only [show 60 * t + (j + k) < 360 by omega, true_and]
      by_cases h3 : mL M 100 (60 * t + (j + k)) = (mI M 83 (4 + 7 * k + 2)).toInt64
      · rw [if_pos (by rw [lg_0]; exact h3), if_pos h3, add_nl]
        exact ih (k + 1) (by omega)
      · rw [if_neg (by rw [lg_0]; exact h3), if_neg h3]
    · rw [if_pos (by rw [jdg_lt hz (by omega) hj]; exact h), if_neg h, add_ln]
theorem jgF_congr {z j : Nat} {it cl it2 cl2 : Nat → Int64} : ∀ m k : Nat, (∀ i : Nat, k ≤ i → i < k + m → (j + i < z → it i = it2 i) ∧ cl i = cl2 i) → jgF z j it cl m k = jgF z j it2 cl2 m k
  | 0, _, _ => rfl
  | m + 1, k, h => by
    rw [jgF, jgF, jgF_congr m (k + 1) (fun i h1 h2 => h i (by omega) (by omega))]
    have h0 := h k (by omega) (by omega)
    by_cases e : j + k < z
    · rw [if_pos e, if_pos e, h0.1 e, h0.2]
    · rw [if_neg e, if_neg e]
theorem p_judge (hI : INV MZ n M) (a b : Int32) : PRI MZ (d + 12) n kX10_judge kX11_judge [.int a, .int b] M := by
  have hp := hI.1
  have hpm := hI.2.1
  have hI1 := INV_mono hI
  have hT := hI.2.2.2.2.2.2.2
  obtain ⟨nw, hn6, hc0, hm0, hW⟩ := INV_nw hI
  unfold PRI
  rw [eX10_judge]
  simp only [ty_21, true_and]
  cases hA : inR a 6 with
  | false =>
    rw [s_tape_f hp hA]
    simp only [Option.toList_some, Option.toList_none, List.cons_append, List.nil_append]
    rw [gX10_judge_5]
    simp only [Option.elim_none]
    refine ⟨_, rfl, ?_⟩
    rw [eX11_judge, show (6 : Int32) = vI 6 from rfl, m_isIn (by decide), hA]
    simp only [Option.toList_some, Option.toList_none, List.cons_append, List.nil_append]
    rw [gX11_judge_6, if_pos (by decide)]
    exact ⟨rfl, hI1⟩
  | true =>
  obtain ⟨t, ht, rfl⟩ := inR_get hA
  rw [s_tape_t hp ht]
  simp only [Option.toList_some, Option.toList_none, List.cons_append, List.nil_append]
  rw [gX10_judge_5]
  simp only [Option.elim_some, rf_some, ty_t t ht, true_and]
  -- the class, from its loop on
  have qn : (vI nw = 0) = (nw = 0) := eq_nl (by omega) (by decide)
  have cls : ∀ z : Nat, z ≤ 60 → mI M (70 + 2 * t) 2 = vI z → ∀ Q : Option Value → MM → Prop, (nw = 0 → Q (some (.int (-5))) M) → (0 < nw → b < 0 → Q (some (.int 100)) M) → (0 < nw → ∀ j : Nat, j < 2147483648 → b = vI j → (z = 0 ∨ 2147483000 ≤ j → Q (some (.int 100)) M) ∧ (j < 2147483000 → Q (some (.int (jgF z j (fun k => mL M (71 + 2 * t) (j + k)) (fun k => (mI M (39 + k) 2).toInt64) nw 0))) M)) →
      WP (d + 12) kX10_judge (34, [.ref 21, .int (vI t), .int b, .ref (70 + 2 * t), .int 0, dm], [], M) Q := by
    intro z hz h2 Q c1 c2 c3
    by_cases h0 : nw = 0
    · rw [gX10_judge_34]
      simp only [ty_21, pc_21_1 hp, ty_33, hc0, true_and, and_true, Option.some.injEq, exists_eq_left']
      rw [if_neg (by rw [h0]; decide)]
      exact c1 h0
    · have first : ∀ x : Int32, inR b z = false → b = x → Q (some (.int 100)) M → WP (d + 12) kX10_judge (34, [.ref 21, .int (vI t), .int x, .ref (70 + 2 * t), .int 0, dm], [], M) Q := by
        intro x hb hx hq
        subst hx
        rw [gX10_judge_34]
        simp only [ty_21, pc_21_1 hp, ty_33, hc0, true_and, and_true, Option.some.injEq, exists_eq_left']
        rw [if_pos (by rw [lt_ln (by omega) (by decide)]; omega), show (0 : Int32) = vI 0 from rfl, s_who_t hp hc0 hn6 (by omega)]
        simp only [Option.toList_some, Option.toList_none, List.cons_append, List.nil_append]
        rw [gX10_judge_55]
        have e : b.toInt64 + (vI 0).toInt64 = b.toInt64 := by
          rw [show (vI 0).toInt64 = 0 from rfl, Int64.add_zero]
        rw [e, s_has (by rw [ty_t t ht]) h2 hz, hb]
        simp only [ty_t t ht, true_and, Option.toList_some, Option.toList_none, List.cons_append, List.nil_append]
        rw [gX10_judge_67, if_pos (by decide)]
        exact hq
      by_cases hb : b < 0
      · exact first b (inR_neg hb) rfl (c2 (by omega) hb)
      · obtain ⟨j, hj, rfl⟩ := inR_pos hb
        have c4 := c3 (by omega) j hj rfl
        by_cases hj2 : j < 2147483000
        · have h := s_judge_loop (d := d + 11) (Q := Q) hp ht hn6 hc0 hz h2 hj2 (vI t) nw 0 (by omega) dm
          exact h.mpr (c4.2 hj2)
        · exact first _ (by rw [inR_vI hj]; exact decide_eq_false (by omega)) rfl (c4.1 (Or.inr (by omega)))
  rcases hT t ht with ⟨q1, q2, q3⟩ | ⟨s, z, q1, q2, q3, q4, q5, q6, q7, q8⟩
  · rw [q2, if_pos rfl]
    have ref : ∀ x : Int32, (nw = 0 → x = -5) → (0 < nw → x = 100) → CL (d + 12) kX11_judge [.ref 82, .int (vI t), .int b] M (fun r2 M2 => r2 = some (.int x) ∧ INV MZ (n + 1) M2) := by
      intro x h0 h1
      rw [eX11_judge, show (6 : Int32) = vI 6 from rfl, m_isIn (by decide), hA]
      simp only [Option.toList_some, Option.toList_none, List.cons_append, List.nil_append]
      rw [gX11_judge_6, if_neg (by decide)]
      simp (disch := omega) only [ty_82, pm_32 hpm, ty_99, isB23, inb_n, vI_cl, ht, q1, true_and, and_true, Option.some.injEq, exists_eq_left']
      rw [if_pos trivial]
      simp (disch := omega) only [pm_0 hpm, ty_83, inb_l, cl_l, Nat.reduceLT, hm0, true_and, and_true, Option.some.injEq, exists_eq_left']
      by_cases hz : nw = 0
      · rw [if_pos (by rw [qn]; exact hz)]
        exact ⟨by rw [h0 hz], hI1⟩
      · rw [if_neg (by rw [qn]; exact hz), if_pos trivial]
        exact ⟨by rw [h1 (by omega)], hI1⟩
    refine cls 0 (by decide) q3 _ (fun h => ⟨_, rfl, ref _ (fun _ => rfl) (fun h1 => by omega)⟩) (fun h hb => ⟨_, rfl, ref _ (fun h1 => by omega) (fun _ => rfl)⟩) (fun h j hj hb => ⟨fun _ => ⟨_, rfl, ref _ (fun h1 => by omega) (fun _ => rfl)⟩, fun hj2 => ?_⟩)
    obtain ⟨m, rfl⟩ : ∃ m : Nat, nw = m + 1 := ⟨nw - 1, by omega⟩
    rw [jgF, if_neg (Nat.not_lt_zero _)]
    exact ⟨_, rfl, ref _ (fun h1 => by omega) (fun _ => rfl)⟩
  · have qs : (vI s = 3) = (s = 3) := eq_nl (by omega) (by decide)
    rw [q4, if_neg (vI_ne s (by omega))]
    by_cases hs : s = 3
    · rw [if_pos (by rw [qs]; exact hs)]
      have ref : ∀ x : Int32, (nw = 0 → x = -5) → (0 < nw → b < 0 → x = 100) → (∀ j : Nat, 0 < nw → j < 2147483648 → b = vI j → (2147483000 ≤ j → x = 100) ∧ (j < 2147483000 → x = jgF z j (fun k => mL M 100 (60 * t + (j + k))) (fun k => (mI M 83 (4 + 7 * k + 2)).toInt64) nw 0)) → CL (d + 12) kX11_judge [.ref 82, .int (vI t), .int b] M (fun r2 M2 => r2 = some (.int x) ∧ INV MZ (n + 1) M2) := by
        intro x h0 h1 h2
        rw [eX11_judge, show (6 : Int32) = vI 6 from rfl, m_isIn (by decide), hA]
        simp only [Option.toList_some, Option.toList_none, List.cons_append, List.nil_append]
        rw [gX11_judge_6, if_neg (by decide)]
        simp (disch := omega) only [ty_82, pm_32 hpm, ty_99, isB23, inb_n, vI_cl, ht, q3, true_and, and_true, Option.some.injEq, exists_eq_left']
        rw [if_neg (by decide)]
        simp (disch := omega) only [pm_30 hpm, ty_97, inb_n, vI_cl, ht, q5, true_and, and_true, Option.some.injEq, exists_eq_left']
        rw [if_pos (by rw [qs]; exact hs)]
        simp (disch := omega) only [pm_0 hpm, ty_83, inb_l, cl_l, Nat.reduceLT, hm0, true_and, and_true, Option.some.injEq, exists_eq_left']
        by_cases hz : nw = 0
        · rw [if_pos (by rw [qn]; exact hz)]
          exact ⟨by rw [h0 hz], hI1⟩
        · rw [if_neg (by rw [qn]; exact hz), if_neg (by decide)]
          by_cases hb : b < 0
          · rw [if_pos hb]
            exact ⟨by rw [h1 (by omega) hb], hI1⟩
          · rw [if_neg hb]
            obtain ⟨j, hj, rfl⟩ := inR_pos hb
            have h3 := h2 j (by omega) hj rfl
            by_cases hj2 : j < 2147483000
            · have h := m_judge_loop (d := d + 11) (Q := fun r2 M2 => r2 = some (.int x) ∧ INV MZ (n + 1) M2) hpm ht hn6 hm0 q2 q7 hj2 nw 0 (by omega)
              exact h.mpr ⟨by rw [← h3.2 hj2], hI1⟩
            · rw [gX11_judge_63]
              simp (disch := omega) only [ty_82, pm_0 hpm, ty_83, inb_l, cl_l, Nat.reduceLT, hm0, true_and, and_true, Option.some.injEq, exists_eq_left']
              rw [if_pos (by rw [lt_ln (by omega) (by decide)]; omega)]
              simp (disch := omega) only [pm_31 hpm, ty_98, inb_n, vI_cl, ht, q7, true_and, and_true, Option.some.injEq, exists_eq_left']
              have hd : ∀ z : Nat, z < 61 → ((vI z - 1) - 0) ≤ 60 := by decide +kernel
              have hz60 := hd z (by omega)
              rw [if_pos (by
                rw [Int32.lt_iff_toInt_lt]
                rw [Int32.le_iff_toInt_le] at hz60
                have e1 : (vI j).toInt = j := Int32.toInt_ofNat_of_lt hj
                have e2 : (60 : Int32).toInt = 60 := rfl
                omega)]
              exact ⟨by rw [h3.1 (by omega)]; rfl, hI1⟩
      refine cls z q2 q6 _ (fun h => ⟨_, rfl, ref _ (fun _ => rfl) (fun h1 => by omega) (fun j h1 => by omega)⟩) (fun h hb => ⟨_, rfl, ref _ (fun h1 => by omega) (fun _ _ => rfl) (fun j h1 hj hb2 => by
        rw [hb2, vI_neg (by omega)] at hb; exact hb.elim)⟩) (fun h j hj hb => ⟨fun hor => ⟨_, rfl, ref _ (fun h1 => by omega) (fun _ _ => rfl) (fun j2 h1 hj2 hb2 => ⟨fun _ => rfl, fun hj3 => ?_⟩)⟩, fun hj2 => ⟨_, rfl, ref _ (fun h1 => by omega) (fun _ hb2 => by
          rw [hb, vI_neg (by omega)] at hb2; exact hb2.elim) (fun j2 h1 hj3 hb2 => ⟨fun h4 => ?_, fun hj4 => ?_⟩)⟩⟩)
      · have ej : j = j2 := by
          rw [hb, vI_inj hj hj2] at hb2; exact hb2
        subst ej
        have hz0 : z = 0 := by omega
        obtain ⟨m, rfl⟩ : ∃ m : Nat, nw = m + 1 := ⟨nw - 1, by omega⟩
        rw [jgF, if_neg (by omega)]; rfl
      · have ej : j = j2 := by
          rw [hb, vI_inj hj hj3] at hb2; exact hb2
        omega
      · have ej : j = j2 := by
          rw [hb, vI_inj hj hj3] at hb2; exact hb2
        subst ej
        refine jgF_congr nw 0 (fun i _ hi => ⟨fun h5 => q8 (j + i) (by omega), ?_⟩)
        obtain ⟨kd, v, cc, f, bt, gn, cm, k1, k2, k3, k4, hvl, hWK, hMW⟩ := hW i (by omega)
        show (mI M (39 + i) 2).toInt64 = (mI M 83 (4 + 7 * i + 2)).toInt64
        rw [hWK.2.2.2.1, hMW.2.2.1]
    · rw [if_neg (by rw [qs]; exact hs)]
      refine ⟨_, rfl, ?_⟩
      rw [eX11_judge, show (6 : Int32) = vI 6 from rfl, m_isIn (by decide), hA]
      simp only [Option.toList_some, Option.toList_none, List.cons_append, List.nil_append]
      rw [gX11_judge_6, if_neg (by decide)]
      simp (disch := omega) only [ty_82, pm_32 hpm, ty_99, isB23, inb_n, vI_cl, ht, q3, true_and, and_true, Option.some.injEq, exists_eq_left']
      rw [if_neg (by decide)]
      simp (disch := omega) only [pm_30 hpm, ty_97, inb_n, vI_cl, ht, q5, true_and, and_true, Option.some.injEq, exists_eq_left']
      rw [if_neg (by rw [qs]; exact hs)]
      exact hI1
end Tapes
