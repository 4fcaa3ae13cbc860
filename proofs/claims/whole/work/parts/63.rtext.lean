/-! ===== 63: the reference's parser ===== -/
def RK (M : MM) (T : Nat) (tx : Nat → Nat) : Prop := PM M ∧ mI M 82 8 = vI T ∧ T ≤ 100 ∧ ∀ j : Nat, j < T → tx j < 128 ∧ mI M 88 j = vI (tx j)
def RX (M : MM) (a : Nat) (w : Bool) (dp : Nat) : Prop := mI M 82 9 = vI a ∧ mI M 82 11 = b2i w ∧ mI M 82 10 = vI dp
def RF (M M' : MM) : Prop := M'.2 = M.2 ∧ (∀ a : Nat, ¬ a = 82 → mI M' a = mI M a) ∧ ∀ k : Nat, ¬ k = 9 → ¬ k = 10 → ¬ k = 11 → mI M' 82 k = mI M 82 k
theorem RF.refl (M : MM) : RF M M := ⟨rfl, fun _ _ => rfl, fun _ _ _ _ => rfl⟩
theorem RF.trans {M M1 M2 : MM} (h1 : RF M M1) (h2 : RF M1 M2) : RF M M2 := ⟨h2.1.trans h1.1, fun a ha => (h2.2.1 a ha).trans (h1.2.1 a ha), fun k h4 h5 h6 => (h2.2.2 k h4 h5 h6).trans (h1.2.2 k h4 h5 h6)⟩
theorem RF.s {M : MM} {k : Nat} {z : Int32} (h : k = 9 ∨ k = 10 ∨ k = 11) : RF M (sI M 82 k z) := ⟨rfl, fun a ha => rI_sI ha, fun j h4 h5 h6 => bI_sI (by omega)⟩
theorem RK_rf {M M' : MM} {T : Nat} {tx : Nat → Nat} (h : RF M M') (hK : RK M T tx) : RK M' T tx := by
  obtain ⟨k1, k2, k3, k4⟩ := hK
  have hR : mR M' = mR M := by show M'.2.2.1 = _; rw [h.1]; rfl
  exact ⟨fun t ht => by rw [hR]; exact k1 t ht, by rw [h.2.2 8 (by decide) (by decide) (by decide)]; exact k2, k3, fun j hj => by rw [h.2.1 88 (by decide)]; exact k4 j hj⟩
def hz (T : Nat) (tx : Nat → Nat) (a : Nat) : Int32 := if a < T then vI (tx a) else -1
section RText
variable {M : MM} {d : Nat} {Q : Option Value → MM → Prop} {T a dp : Nat} {tx : Nat → Nat} {w : Bool}
theorem hz_eq (hK : RK M T tx) {c : Nat} (hc : c < 128) : (hz T tx a = vI c) = (hr T tx a = c) := by
  unfold hz hr
  by_cases h : a < T
  · rw [if_pos h, if_pos h, vI_inj (by have := (hK.2.2.2 a h).1; omega) (by omega)]
  · rw [if_neg h, if_neg h]
    refine propext ⟨fun h2 => ?_, fun h2 => by omega⟩
    have hd : ∀ c : Nat, c < 128 → ¬ (-1 : Int32) = vI c := by decide +kernel
    exact absurd h2 (hd c hc)
theorem hr_lt2 (hK : RK M T tx) (a : Nat) : hr T tx a < 1000 := by
  unfold hr
  by_cases h : a < T
  · rw [if_pos h]; have := (hK.2.2.2 a h).1; omega
  · rw [if_neg h]; decide
theorem m_here (hK : RK M T tx) (hS : RX M a w dp) (ha : a ≤ T) : CL d kX11_here [.ref 82] M Q = Q (some (.int (hz T tx a))) M := by
  obtain ⟨k1, k2, k3, k4⟩ := hK
  rw [eX11_here, hS.1, k2]
  unfold hz
  by_cases h : a < T
  · rw [if_pos (by rw [vI_lt (by omega) (by omega)]; exact h), if_pos h]
    simp only [ty_82, pm_7 k1, ty_88, true_and, and_true, Option.some.injEq, exists_eq_left']
    rw [inb_n (by omega), vI_cl (by omega), (k4 a h).2]
    exact propext ⟨fun h => h.2, fun h2 => ⟨by omega, h2⟩⟩
  · rw [if_neg (by rw [vI_lt (by omega) (by omega)]; exact h), if_neg h]
    simp only [ty_82, true_and]
theorem m_takes {c : Nat} (hc : c < 128) (hK : RK M T tx) (hS : RX M a w dp) (ha : a ≤ T)
    (h : ∀ M' : MM, RF M M' → RX M' (if w = false ∧ hr T tx a = c then a + 1 else a) (w || !(decide (hr T tx a = c))) dp → Q none M') : CL (d + 1) kX11_takes [.ref 82, .int (vI c)] M Q := by
  have hT := hK.2.2.1
  rw [eX11_takes, hS.2.1]
  refine ⟨by simp only [ty_82], ?_⟩
  cases w with
  | true =>
    rw [if_neg (by decide)]
    refine h M (RF.refl M) ?_
    rw [if_neg (fun h => by cases h.1)]
    exact hS
  | false =>
    rw [if_pos (show b2i false = 0 from rfl), m_here hK hS ha]
    simp only [Option.toList_some, Option.toList_none, List.cons_append, List.nil_append]
    rw [gX11_takes_12]
    by_cases e : hr T tx a = c
    · rw [if_pos (by rw [hz_eq hK hc]; exact e), hS.1, add_nl]
      refine ⟨by simp only [ty_82], h _ (RF.s (Or.inl rfl)) ?_⟩
      rw [if_pos ⟨rfl, e⟩, decide_eq_true e]
      exact ⟨aI_sI _ _ _ _, by rw [xI_sI (by decide)]; exact hS.2.1, by rw [xI_sI (by decide)]; exact hS.2.2⟩
    · rw [if_neg (by rw [hz_eq hK hc]; exact e)]
      refine ⟨by simp only [ty_82], h _ (RF.s (Or.inr (Or.inr rfl))) ?_⟩
      rw [if_neg (fun h => e h.2), decide_eq_false e]
      exact ⟨by rw [xI_sI (by decide)]; exact hS.1, aI_sI _ _ _ _, by rw [xI_sI (by decide)]; exact hS.2.2⟩
theorem hz_lo (hK : RK M T tx) : (hz T tx a < 48) = ¬ (48 ≤ hr T tx a ∧ hr T tx a < 999) := by
  unfold hz hr
  by_cases h : a < T
  · have := (hK.2.2.2 a h).1
    rw [if_pos h, if_pos h, lt_nl (by omega) (by decide)]
    exact propext ⟨fun h => by omega, fun h => by omega⟩
  · rw [if_neg h, if_neg h]
    exact propext ⟨fun _ => by omega, fun _ => by decide⟩
theorem hz_hi (hK : RK M T tx) (h48 : ¬ hz T tx a < 48) : a < T ∧ hz T tx a = vI (hr T tx a) ∧ hr T tx a < 128 := by
  by_cases h : a < T
  · exact ⟨h, by unfold hz hr; rw [if_pos h, if_pos h], by rw [hr, if_pos h]; exact (hK.2.2.2 a h).1⟩
  · rw [hz, if_neg h] at h48; exact absurd (by decide) h48
theorem m_number (hK : RK M T tx) (hS : RX M a false dp) (ha : a ≤ T)
    (h : ∀ (M' : MM) (v : Int32), RF M M' → RX M' (pNum T tx a).1 ((pNum T tx a).2.isNone) dp → (∀ n : Nat, (pNum T tx a).2 = some n → v = vI n) → Q (some (.int v)) M') : CL (d + 1) kX11_number [.ref 82] M Q := by
  have hT := hK.2.2.1
  -- what a place that is no digit does
  have fin : ∀ (M1 : MM) (a1 i : Nat) (v : Int32), i < 3 → RX M1 a1 false dp → (∀ M' : MM, RF M1 M' → RX M' a1 (decide (i = 0)) dp → Q (some (.int v)) M') →
      ((TY 82).1 = 11 ∧ ((if (mI M1 82 11) = 0 then (if vI i = 0 then Q (some (.int v)) (sI M1 82 11 1) else Q (some (.int v)) (sI M1 82 11 0)) else Q (some (.int v)) (sI M1 82 11 1)))) := by
    intro M1 a1 i v hi hS1 hq
    rw [hS1.2.1, if_pos (show b2i false = 0 from rfl)]
    refine ⟨by simp only [ty_82], ?_⟩
    by_cases e : i = 0
    · rw [if_pos (by rw [e]; rfl)]
      exact hq _ (RF.s (Or.inr (Or.inr rfl))) ⟨by rw [xI_sI (by decide)]; exact hS1.1, by rw [aI_sI, decide_eq_true e]; rfl, by rw [xI_sI (by decide)]; exact hS1.2.2⟩
    · rw [if_neg (by rw [eq_nl (by omega) (by decide)]; exact e)]
      exact hq _ (RF.s (Or.inr (Or.inr rfl))) ⟨by rw [xI_sI (by decide)]; exact hS1.1, by rw [aI_sI, decide_eq_false e]; rfl, by rw [xI_sI (by decide)]; exact hS1.2.2⟩
  have stop : ∀ (M1 : MM) (a1 i : Nat) (v : Int32), i < 2 → a1 ≤ T → RK M1 T tx → RX M1 a1 false dp → ¬ dig (hr T tx a1) → (∀ M' : MM, RF M1 M' → RX M' a1 (decide (i = 0)) dp → Q (some (.int v)) M') → WP (d + 1) kX11_number (4, [.ref 82, .int v, .int (vI i)], [], M1) Q := by
    intro M1 a1 i v hi ha1 hK1 hS1 hd hq
    rw [gX11_number_4, if_pos (by rw [lt_nl (by omega) (by decide)]; omega), m_here hK1 hS1 ha1]
    refine ⟨by simp only [ty_82], ?_⟩
    simp only [Option.toList_some, Option.toList_none, List.cons_append, List.nil_append]
    rw [gX11_number_13]
    by_cases h48 : hz T tx a1 < 48
    · rw [if_pos h48]; exact fin M1 a1 i v (by omega) hS1 hq
    · obtain ⟨z1, z2, z3⟩ := hz_hi hK1 h48
      rw [if_neg h48, m_here hK1 hS1 ha1]
      refine ⟨by simp only [ty_82], ?_⟩
      simp only [Option.toList_some, Option.toList_none, List.cons_append, List.nil_append]
      rw [hz_lo hK1] at h48
      rw [gX11_number_22, if_pos (by rw [z2, lt_ln (by omega) (by decide)]; omega)]
      exact fin M1 a1 i v (by omega) hS1 hq
  have go : ∀ (M1 : MM) (a1 i x : Nat), i < 2 → x < 10 → a1 ≤ T → RK M1 T tx → RX M1 a1 false dp → dig (hr T tx a1) → WP (d + 1) kX11_number (4, [.ref 82, .int (vI (10 * x + (hr T tx a1 - 48))), .int (vI (i + 1))], [], sI M1 82 9 (vI (a1 + 1))) Q → WP (d + 1) kX11_number (4, [.ref 82, .int (vI x), .int (vI i)], [], M1) Q := by
    intro M1 a1 i x hi hx ha1 hK1 hS1 hd hq
    have d1 := hd.1
    have d2 := hd.2
    have h48 : ¬ hz T tx a1 < 48 := by rw [hz_lo hK1]; omega
    obtain ⟨z1, z2, z3⟩ := hz_hi hK1 h48
    rw [gX11_number_4, if_pos (by rw [lt_nl (by omega) (by decide)]; omega), m_here hK1 hS1 ha1]
    refine ⟨by simp only [ty_82], ?_⟩
    simp only [Option.toList_some, Option.toList_none, List.cons_append, List.nil_append]
    rw [gX11_number_13, if_neg h48, m_here hK1 hS1 ha1]
    refine ⟨by simp only [ty_82], ?_⟩
    simp only [Option.toList_some, Option.toList_none, List.cons_append, List.nil_append]
    rw [gX11_number_22, if_neg (by rw [z2, lt_ln (by omega) (by decide)]; omega), m_here hK1 hS1 ha1]
    refine ⟨by simp only [ty_82], ?_⟩
    simp only [Option.toList_some, Option.toList_none, List.cons_append, List.nil_append]
    rw [gX11_number_35, z2, mul_ln, vI_add, sub_nl (by omega), hS1.1, add_nl, add_nl, show 10 * x + hr T tx a1 - 48 = 10 * x + (hr T tx a1 - 48) by omega]
    exact ⟨by simp only [ty_82], hq⟩
  have step : ∀ (M1 : MM) (a1 : Nat), RX M1 a1 false dp → RX (sI M1 82 9 (vI (a1 + 1))) (a1 + 1) false dp := fun M1 a1 hS1 => ⟨aI_sI _ _ _ _, by rw [xI_sI (by decide)]; exact hS1.2.1, by rw [xI_sI (by decide)]; exact hS1.2.2⟩
  have hF : ∀ (M1 : MM) (z : Int32), RF M1 (sI M1 82 9 z) := fun M1 z => RF.s (Or.inl rfl)
  rw [eX11_number, show (0 : Int32) = vI 0 from rfl]
  unfold pNum at h
  by_cases g1 : dig (hr T tx a)
  · rw [if_pos g1] at h
    have a1 := dig_T g1
    have d1 := g1.2
    have d0 := g1.1
    refine go M a 0 0 (by decide) (by decide) ha hK hS g1 ?_
    rw [Nat.mul_zero, Nat.zero_add]
    have hK1 := RK_rf (hF M (vI (a + 1))) hK
    by_cases g2 : dig (hr T tx (a + 1))
    · rw [if_pos g2] at h
      have a2 := dig_T g2
      refine go _ (a + 1) 1 _ (by decide) (by omega) (by omega) hK1 (step M a hS) g2 ?_
      have hS2 := step _ _ (step M a hS)
      rw [gX11_number_4, if_neg (by decide)]
      refine fin _ (a + 1 + 1) 2 _ (by decide) hS2 (fun M' h1 h2 => h M' _ (((hF M _).trans (hF _ _)).trans h1) h2 (fun n hn => by cases hn; rfl))
    · rw [if_neg g2] at h
      exact stop _ (a + 1) 1 _ (by decide) (by omega) hK1 (step M a hS) g2 (fun M' h1 h2 => h M' _ ((hF M _).trans h1) h2 (fun n hn => by cases hn; rfl))
  · rw [if_neg g1] at h
    exact stop M a 0 _ (by decide) ha hK hS g1 (fun M' h1 h2 => h M' _ h1 h2 (fun n hn => by cases hn))
theorem m_valueOf {le c : Nat} (hl : le < 5) (hc : c < 36) : CL (d + 1) kX11_valueOf [.int (vI (wLet.getD le 0)), .int (vI c)] M Q = Q (some (.int (vI (msr le c)))) M := by
  have ham : CL d kX11_amount [.int ((vI c / 6) - (iRem (vI c) 6))] M (fun v_ M_ => WP (d + 1) kX11_valueOf (66, [.int 100, .int (vI c), .int (vI c / 6), .int (iRem (vI c) 6)], v_.toList ++ [], M_) Q) = Q (some (.int (vI (msr 3 c)))) M := by
    rw [eX11_amount]
    have hd : ∀ c : Nat, c < 36 → ((vI c / 6) - (iRem (vI c) 6) < 0 → -((vI c / 6) - (iRem (vI c) 6)) = vI (msr 3 c)) ∧ (¬ (vI c / 6) - (iRem (vI c) 6) < 0 → ((vI c / 6) - (iRem (vI c) 6)) = vI (msr 3 c)) := by decide +kernel
    by_cases h : (vI c / 6) - (iRem (vI c) 6) < 0
    · rw [if_pos h, (hd c hc).1 h]
      simp only [Option.toList_some, Option.toList_none, List.cons_append, List.nil_append]
      rw [gX11_valueOf_66]
    · rw [if_neg h]
      simp only [Option.toList_some, Option.toList_none, List.cons_append, List.nil_append]
      rw [gX11_valueOf_66, (hd c hc).2 h]
  rw [eX11_valueOf]
  have h5 : le = 0 ∨ le = 1 ∨ le = 2 ∨ le = 3 ∨ le = 4 := by omega
  rcases h5 with rfl | rfl | rfl | rfl | rfl
  · rw [if_neg (by decide), if_neg (by decide), if_pos (by decide), div_nl (by omega) (by decide)]; rfl
  · rw [if_pos (by decide), rem_nl (by omega) (by decide)]; rfl
  · rw [if_neg (by decide), if_neg (by decide), if_neg (by decide), if_pos (by decide), div_nl (by omega) (by decide), rem_nl (by omega) (by decide), vI_add]; rfl
  · rw [if_neg (by decide), if_pos (by decide)]; exact ham
  · rw [if_neg (by decide), if_neg (by decide), if_neg (by decide), if_neg (by decide)]; rfl
theorem m_test_loop {le sg n : Nat} (hl : le < 5) (hs : sg < 3) (hn : n < 100) : ∀ m i : Nat, i + m = 36 → ∀ l7 : Value, WP (d + 2) kX11_test (103, [.ref 82, .int (vI (wLet.getD le 0)), .int (vI (wSgn.getD sg 0)), .int (vI n), .long (zb (fun c => c < i ∧ tstP le sg n c)), dm, .int (vI i), l7], [], M) Q = Q (some (.long (zb (tstP le sg n)))) M := by
  intro m
  induction m with
  | zero =>
    intro i hi l7
    obtain rfl : i = 36 := by omega
    rw [gX11_test_103, if_neg (by decide), zb_congr (fun c hc => ⟨fun h => h.2, fun h => ⟨hc, h⟩⟩)]
  | succ m ih =>
    intro i hi l7
    have hi2 : i < 36 := by omega
    have hm := msr_lt le hl i hi2
    have h3 := fun l7 => ih (i + 1) (by omega) l7
    have yes : tstP le sg n i → zb (fun c => c < i ∧ tstP le sg n c) ||| lShl 1 (vI i) = zb (fun c => c < i + 1 ∧ tstP le sg n c) := fun e => by
      rw [zb_one hi2, zb_or]
      exact zb_congr (fun c _ => ⟨fun h => h.elim (fun h => ⟨by omega, h.2⟩) (fun h => ⟨by omega, by rw [h]; exact e⟩), fun h => by
        by_cases e2 : c = i
        · exact Or.inr e2
        · exact Or.inl ⟨by omega, h.2⟩⟩)
    have no : ¬ tstP le sg n i → zb (fun c => c < i ∧ tstP le sg n c) = zb (fun c => c < i + 1 ∧ tstP le sg n c) := fun e => zb_congr (fun c _ => ⟨fun h => ⟨by omega, h.2⟩, fun h => ⟨by
      have : ¬ c = i := fun h2 => e (by rw [← h2]; exact h.2)
      omega, h.2⟩⟩)
    rw [gX11_test_103, if_pos (by rw [lt_nl (by omega) (by decide)]; omega), m_valueOf hl hi2]
    simp only [Option.toList_some, Option.toList_none, List.cons_append, List.nil_append]
    rw [gX11_test_116, add_nl]
    have h33 : sg = 0 ∨ sg = 1 ∨ sg = 2 := by omega
    rcases h33 with rfl | rfl | rfl
    · rw [if_pos (by decide)]
      by_cases e : msr le i < n
      · rw [if_pos (by rw [vI_lt (by omega) (by omega)]; exact e), yes e]; exact h3 _
      · rw [if_neg (by rw [vI_lt (by omega) (by omega)]; exact e), no e]; exact h3 _
    · rw [if_neg (by decide), if_pos (by decide)]
      by_cases e : msr le i = n
      · rw [if_pos (by rw [e]), yes e]; exact h3 _
      · rw [if_neg (by rw [vI_inj (by omega) (by omega)]; exact e), no e]; exact h3 _
    · rw [if_neg (by decide), if_neg (by decide)]
      by_cases e : n < msr le i
      · rw [if_pos (by rw [vI_lt (by omega) (by omega)]; exact e), yes e]; exact h3 _
      · rw [if_neg (by rw [vI_lt (by omega) (by omega)]; exact e), no e]; exact h3 _
end RText
