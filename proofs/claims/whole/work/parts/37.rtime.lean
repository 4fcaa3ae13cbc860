/-! ===== 37: the reference's search, beat by beat ===== -/
theorem mb_z {p : Nat → Prop} : ∀ n : Nat, (∀ a : Nat, a < n → ¬ p a) → mb p n = 0
  | 0, _ => rfl
  | n + 1, h => by rw [mb_no _ (h n (by omega)), mb_z n (fun a ha => h a (by omega))]
theorem mb_n0 {p : Nat → Prop} {n : Nat} : ¬ mb p n = 0 ↔ ∃ a : Nat, a < n ∧ p a := by
  constructor
  · intro h
    exact Classical.byContradiction fun h2 => h (mb_z n (fun a ha hp => h2 ⟨a, ha, hp⟩))
  · induction n with
    | zero => rintro ⟨a, ha, -⟩; exact absurd ha (Nat.not_lt_zero a)
    | succ n ih =>
      rintro ⟨a, ha, hp⟩ h
      rw [mb] at h
      by_cases e : a = n
      · subst e
        rw [eB_t hp, Nat.one_mul] at h
        have : 0 < 2 ^ a := Nat.two_pow_pos a
        omega
      · exact ih ⟨a, by omega, hp⟩ (by omega)
theorem mb_tb (p : Nat → Prop) (i : Nat) : ∀ n : Nat, (mb p n).testBit i = pB (i < n ∧ p i)
  | 0 => by rw [pB_F (fun h => absurd h.1 (Nat.not_lt_zero i))]; exact Nat.zero_testBit i
  | n + 1 => by
    have hl := mb_lt p n
    have ih := mb_tb p i n
    by_cases h : p n
    · rw [mb, eB_t h, Nat.one_mul, Nat.add_comm]
      by_cases e : i = n
      · subst e
        rw [Nat.testBit_two_pow_add_eq, Nat.testBit_lt_two_pow hl, pB_T ⟨by omega, h⟩]; rfl
      · by_cases e2 : i < n
        · rw [Nat.testBit_two_pow_add_gt e2, ih]
          exact pB_congr ⟨fun h => ⟨by omega, h.2⟩, fun h => ⟨e2, h.2⟩⟩
        · rw [pB_F (fun h => by omega)]
          have h2 : 2 ^ (n + 1) ≤ 2 ^ i := Nat.pow_le_pow_right (by decide) (by omega)
          have h3 : 2 ^ (n + 1) = 2 ^ n * 2 := Nat.pow_succ 2 n
          exact Nat.testBit_lt_two_pow (by omega)
    · rw [mb_no _ h, ih]
      exact pB_congr ⟨fun g => ⟨by omega, g.2⟩, fun g => ⟨by
        have : ¬ i = n := fun e => h (e ▸ g.2)
        omega, g.2⟩⟩
theorem vI_or (y z : Nat) : vI y ||| vI z = vI (y ||| z) := Int32.toBitVec_inj.1 (by
  rw [Int32.toBitVec_or]
  exact BitVec.ofNat_or.symm)
theorem mb_orn (p q : Nat → Prop) (n : Nat) : vI (mb p n) ||| vI (mb q n) = vI (mb (fun b => p b ∨ q b) n) := by
  rw [vI_or]
  refine congrArg vI (Nat.eq_of_testBit_eq fun i => ?_)
  rw [Nat.testBit_or, mb_tb, mb_tb, mb_tb]
  by_cases h1 : i < n ∧ p i
  · rw [pB_T h1, Bool.true_or]
    exact (pB_T ⟨h1.1, Or.inl h1.2⟩).symm
  · rw [pB_F h1, Bool.false_or]
    exact pB_congr ⟨fun h => ⟨h.1, Or.inr h.2⟩, fun h => ⟨h.1, h.2.resolve_left (fun h2 => h1 ⟨h.1, h2⟩)⟩⟩
theorem bit7_dec : ∀ a : Nat, a < 6 → ∀ y : Nat, y < 128 → (iShr (vI y) (vI a) &&& 1) = vI (y / 2 ^ a % 2) := by decide +kernel
theorem mb7_bit0 (p : Nat → Prop) {a : Nat} (ha : a < 6) : ((iShr (vI (mb p 7)) (vI a) &&& 1) = 0) = ¬ p a := by
  have h1 := mb_tb p a 7
  have h2 : mb p 7 < 128 := mb_lt p 7
  rw [bit7_dec a ha _ h2, eq_nl (by omega) (by decide)]
  rw [Nat.testBit_eq_decide_div_mod_eq] at h1
  by_cases h : p a
  · rw [pB_T ⟨by omega, h⟩] at h1
    have := of_decide_eq_true h1
    simp [h]; omega
  · rw [pB_F (fun g => h g.2)] at h1
    have := of_decide_eq_false h1
    simp [h]; omega
theorem pw6_dec : ∀ a : Nat, a < 6 → iShl 1 (vI a) = vI (2 ^ a) := by decide +kernel
theorem mb_eq6 {a : Nat} : ∀ n : Nat, a < n → mb (fun b => b = a) n = 2 ^ a
  | 0, h => absurd h (Nat.not_lt_zero a)
  | n + 1, h => by
    rw [mb]
    by_cases e : n = a
    · subst e
      rw [mb_z n (fun x hx => by omega), eB_t rfl, Nat.zero_add, Nat.one_mul]
    · rw [mb_eq6 n (by omega), eB_f e, Nat.zero_mul, Nat.add_zero]
/-- the mask that stands for a state behind t beats -/
def Pt (mk : Nat → Nat → Prop) (kd v onN bk b0 g0 : Nat) (A0 : Nat → Nat → Nat → Prop) (t c f w b : Nat) : Prop :=
  (t = 0 ∧ b = 6 ∧ A0 c f w) ∨ (0 < t ∧ b < 6 ∧ rq (fstS b) mk kd v onN bk b0 g0 A0 t c f w)
noncomputable def Vt (mk : Nat → Nat → Prop) (kd v onN bk b0 g0 : Nat) (A0 : Nat → Nat → Nat → Prop) (t c f w : Nat) : Nat := mb (Pt mk kd v onN bk b0 g0 A0 t c f w) 7
noncomputable def Wt (mk : Nat → Nat → Prop) (kd v onN bk b0 g0 : Nat) (A0 : Nat → Nat → Nat → Prop) : Nat → Nat → Nat → Nat → Nat
  | 0 => fun c f w => eB (A0 c f w)
  | t + 1 => fun c f w => sumN 5184 (wtI mk kd v ((b0 + t) % (onN + bk) < onN) (g0 + t) (Wt mk kd v onN bk b0 g0 A0 t) (phi c f w))
def NowT (M : MM) (mk : Nat → Nat → Prop) (kd v onN bk b0 g0 : Nat) (A0 : Nat → Nat → Nat → Prop) (t : Nat) : Prop := MsF M kd v b0 g0 t ∧ NowC M (Vt mk kd v onN bk b0 g0 A0 t) (Wt mk kd v onN bk b0 g0 A0 t)
theorem NowC_congr {M : MM} {V V2 W : Nat → Nat → Nat → Nat} (h : ∀ c f w : Nat, vld c f w → V c f w = V2 c f w) (hN : NowC M V W) : NowC M V2 W := by
  obtain ⟨N1, N2, N3, N4, N5⟩ := hN
  exact ⟨fun c f w hv => by rw [← h c f w hv]; exact N1 c f w hv, N2, fun c f w hv => by rw [← h c f w hv]; exact N3 c f w hv, fun c f w hv => by rw [← h c f w hv]; exact N4 c f w hv, fun c f w hv => by rw [← h c f w hv]; exact N5 c f w hv⟩
section Time
variable {d : Nat} {M : MM} {Q : Option Value → MM → Prop} {onN bk : Nat} {mk : Nat → Nat → Prop} {kd v b0 g0 t : Nat} {A0 : Nat → Nat → Nat → Prop}
theorem Vt_0 (c f w : Nat) : Vt mk kd v onN bk b0 g0 A0 0 c f w = 64 * eB (A0 c f w) := by
  show mb (Pt mk kd v onN bk b0 g0 A0 0 c f w) 6 + eB (Pt mk kd v onN bk b0 g0 A0 0 c f w 6) * 64 = _
  rw [mb_z 6 (fun a ha h => ?_)]
  · have : Pt mk kd v onN bk b0 g0 A0 0 c f w 6 ↔ A0 c f w := ⟨fun h => h.elim (fun h => h.2.2) (fun h => absurd h.1 (by decide)), fun h => Or.inl ⟨rfl, rfl, h⟩⟩
    rw [propext this]; omega
  · rcases h with h | h
    · omega
    · exact absurd h.1 (by decide)
theorem Vt_s (c f w : Nat) (ht : 0 < t) : Vt mk kd v onN bk b0 g0 A0 t c f w = mb (fun b => rq (fstS b) mk kd v onN bk b0 g0 A0 t c f w) 6 := by
  show mb (Pt mk kd v onN bk b0 g0 A0 t c f w) 7 = _
  rw [mb_no _ (n := 6) (fun h => ?_)]
  · exact mb_congr 6 (fun b hb => ⟨fun h => h.elim (fun h => absurd h.1 (by omega)) (fun h => h.2.2), fun h => Or.inr ⟨ht, hb, h⟩⟩)
  · rcases h with h | h
    · omega
    · exact absurd h.2.1 (by decide)
theorem Vt_ne (c f w : Nat) : ¬ Vt mk kd v onN bk b0 g0 A0 t c f w = 0 ↔ rq anyS mk kd v onN bk b0 g0 A0 t c f w := by
  match t with
  | 0 =>
    rw [Vt_0]
    by_cases h : A0 c f w
    · rw [eB_t h]; exact ⟨fun _ => h, fun _ => by decide⟩
    · rw [eB_f h]; exact ⟨fun h2 => absurd rfl h2, fun h2 => absurd h2 h⟩
  | t + 1 => rw [Vt_s c f w (by omega), mb_n0, rq_fst]
theorem m_beatW (hkd : kd < 7) (hv : v < 10) (hB : bnL onN bk) (hb0 : b0 < 1000) (hg : g0 + t < 1000) (ht : t < 1000) (hA : okA A0)
    (hp : PM M) (hE : ME M onN bk mk) (hN : NowT M mk kd v onN bk b0 g0 A0 t)
    (h : ∀ M' : MM, FN M M' → NowT M' mk kd v onN bk b0 g0 A0 (t + 1) → (∀ j : Nat, j < 5184 → mL M' 92 j = vL (sumN 5184 (wtI mk kd v ((b0 + t) % (onN + bk) < onN) (g0 + t) (Wt mk kd v onN bk b0 g0 A0 t) j))) → Q none M') : CL (d + 4) kX11_goesBeat [.ref 82] M Q := by
  refine m_goesBeat (K := fun c f w a b => (t = 0 ∧ b = a) ∨ (0 < t ∧ rq (fstS b) mk kd v onN bk b0 g0 A0 t c f w)) hkd hv hB hb0 hg ht (fun c f w hvl hV a ha => ?_) hp hE hN.1 hN.2 (fun M' hF hS hC hW => h M' hF ⟨hS, NowC_congr (fun c f w hvl => ?_) hC⟩ hW)
  · by_cases h0 : t = 0
    · subst h0
      have hA0 : A0 c f w := (Vt_ne c f w).mp hV
      rw [Vt_0, eB_t hA0, if_pos (by decide), pw6_dec a ha, ← mb_eq6 6 ha]
      exact congrArg vI (mb_congr 6 fun b _ => ⟨fun h => Or.inl ⟨rfl, h⟩, fun h => h.elim (fun h => h.2) (fun h => absurd h.1 (by decide))⟩)
    · rw [Vt_s c f w (by omega)]
      have h64 := mb_lt64 (fun b => rq (fstS b) mk kd v onN bk b0 g0 A0 t c f w)
      rw [if_neg (by rw [eq_nl (by omega) (by decide)]; omega)]
      exact congrArg vI (mb_congr 6 fun b _ => ⟨fun h => Or.inr ⟨by omega, h⟩, fun h => h.elim (fun h => absurd h.1 h0) (fun h => h.2)⟩)
  · rw [Vt_s c f w (by omega)]
    refine mb_congr 6 fun b hb => ?_
    constructor
    · rintro ⟨c1, f1, w1, a, q1, -, q3, q4, q5, q6, q7⟩
      obtain ⟨e1, e2, e3⟩ := phi_inj (tgt_vld q1 q5) hvl q6
      refine ⟨c1, f1, w1, a, ⟨q1.1, q1.2.1, q1.2.2.1, q3⟩, ?_, ?_, q5, e1, e2, e3⟩
      · intro h0
        rcases q7 with q7 | q7
        · exact q7.2.symm
        · omega
      · rcases q7 with ⟨rfl, -⟩ | q7
        · exact (Vt_ne c1 f1 w1).mp q4
        · exact q7.2
    · rintro ⟨c1, f1, w1, a, ⟨q1, q2, q3, q4⟩, q5, q6, q7, q8, q9, q10⟩
      have hv1 : vld c1 f1 w1 := by
        have := okA_rq hA t c1 f1 w1 q6
        exact this
      refine ⟨c1, f1, w1, a, hv1, phi_lt hv1, q4, (Vt_ne c1 f1 w1).mpr ?_, q7, by rw [q8, q9, q10], ?_⟩
      · by_cases h0 : t = 0
        · subst h0; exact q6
        · obtain ⟨t1, rfl⟩ : ∃ t1 : Nat, t = t1 + 1 := ⟨t - 1, by omega⟩
          exact rq_fst t1 c1 f1 w1 |>.mpr ⟨b, hb, q6⟩
      · by_cases h0 : t = 0
        · exact Or.inl ⟨h0, (q5 h0).symm⟩
        · exact Or.inr ⟨by omega, q6⟩
theorem m_beat (hkd : kd < 7) (hv : v < 10) (hB : bnL onN bk) (hb0 : b0 < 1000) (hg : g0 + t < 1000) (ht : t < 1000) (hA : okA A0)
    (hp : PM M) (hE : ME M onN bk mk) (hN : NowT M mk kd v onN bk b0 g0 A0 t)
    (h : ∀ M' : MM, FN M M' → NowT M' mk kd v onN bk b0 g0 A0 (t + 1) → Q none M') : CL (d + 4) kX11_goesBeat [.ref 82] M Q :=
  m_beatW hkd hv hB hb0 hg ht hA hp hE hN (fun M' h1 h2 _ => h M' h1 h2)
theorem m_cells_loop {V W : Nat → Nat → Nat → Nat} (hp : PM M) (hN : NowC M V W) : ∀ n i : Nat, i + n = 5184 → WP d kX11_cellsNow (4, [.ref 82, .long (zb (fun c => ∃ f w : Nat, vld c f w ∧ ¬ V c f w = 0 ∧ phi c f w < i)), dm, .int (vI i)], [], M) Q = Q (some (.long (zb (fun c => ∃ f w : Nat, vld c f w ∧ ¬ V c f w = 0)))) M := by
  intro n
  induction n with
  | zero =>
    intro i hi
    obtain rfl : i = 5184 := by omega
    rw [gX11_cellsNow_4, if_neg (by decide)]
    exact qL (zb_congr fun c _ => ⟨fun ⟨f, w, h1, h2, _⟩ => ⟨f, w, h1, h2⟩, fun ⟨f, w, h1, h2⟩ => ⟨f, w, h1, h2, phi_lt h1⟩⟩)
  | succ n ih =>
    intro i hi
    have hi2 : i < 5184 := by omega
    rw [gX11_cellsNow_4, if_pos (show vI i < 5184 by rw [lt_nl (by omega) (by decide)]; omega)]
    simp (disch := omega) only [ty_82, pm_15 hp, ty_90, inb_n, vI_cl, add_nl, div_nl, true_and, and_true, Option.some.injEq, exists_eq_left']
    simp only [hi2, true_and]
    by_cases hl : ∃ c f w : Nat, vld c f w ∧ i = phi c f w ∧ ¬ V c f w = 0
    · obtain ⟨c, f, w, hvl, rfl, hV0⟩ := hl
      have hV := hN.2.2.2.2 c f w hvl
      rw [hN.1 c f w hvl, if_neg (by rw [eq_nl (by omega) (by decide)]; exact hV0), phi_c hvl, zb_one hvl.1, zb_or, zb_congr (q := fun c2 => ∃ f2 w2 : Nat, vld c2 f2 w2 ∧ ¬ V c2 f2 w2 = 0 ∧ phi c2 f2 w2 < phi c f w + 1) (fun c2 _ => ?_), ih _ (by omega)]
      constructor
      · rintro (⟨f2, w2, h1, h2, h3⟩ | rfl)
        · exact ⟨f2, w2, h1, h2, by omega⟩
        · exact ⟨f, w, hvl, hV0, by omega⟩
      · rintro ⟨f2, w2, h1, h2, h3⟩
        by_cases e : phi c2 f2 w2 = phi c f w
        · exact Or.inr (phi_inj h1 hvl e).1
        · exact Or.inl ⟨f2, w2, h1, h2, by omega⟩
    · have e0 : mI M 90 i = 0 := by
        by_cases him : ∃ c f w : Nat, vld c f w ∧ i = phi c f w
        · obtain ⟨c, f, w, hvl, rfl⟩ := him
          have : V c f w = 0 := Classical.byContradiction fun hne => hl ⟨c, f, w, hvl, rfl, hne⟩
          rw [hN.1 c f w hvl, this]; rfl
        · exact hN.2.1 i hi2 (fun c f w hvl he => him ⟨c, f, w, hvl, he⟩)
      rw [if_pos e0, zb_congr (q := fun c2 => ∃ f2 w2 : Nat, vld c2 f2 w2 ∧ ¬ V c2 f2 w2 = 0 ∧ phi c2 f2 w2 < i + 1) (fun c2 _ => ?_), ih _ (by omega)]
      constructor
      · rintro ⟨f2, w2, h1, h2, h3⟩
        exact ⟨f2, w2, h1, h2, by omega⟩
      · rintro ⟨f2, w2, h1, h2, h3⟩
        refine ⟨f2, w2, h1, h2, ?_⟩
        have : ¬ phi c2 f2 w2 = i := fun e => hl ⟨c2, f2, w2, h1, e.symm, h2⟩
        omega
theorem m_cellsNow (hp : PM M) (hA : okA A0) (hN : NowT M mk kd v onN bk b0 g0 A0 t) : CL d kX11_cellsNow [.ref 82] M Q = Q (some (.long (zb (anyW (rq anyS mk kd v onN bk b0 g0 A0 t))))) M := by
  have h := m_cells_loop (d := d) (Q := Q) hp hN.2 5184 0 rfl
  rw [eX11_cellsNow]
  rw [zb_congr (q := fun _ => False) (fun c _ => ⟨fun ⟨f, w, _, _, h3⟩ => absurd h3 (Nat.not_lt_zero _), fun h => h.elim⟩), ← zb_0] at h
  refine h.trans (qL (zb_congr fun c _ => ?_))
  constructor
  · rintro ⟨f, w, h1, h2⟩
    exact ⟨f, w, h1.2.1, h1.2.2.1, (Vt_ne c f w).mp h2⟩
  · rintro ⟨f, w, h1, h2, h3⟩
    exact ⟨f, w, okA_rq hA t c f w h3, (Vt_ne c f w).mpr h3⟩
theorem m_first_loop {P : Nat → Nat → Nat → Nat → Prop} {W : Nat → Nat → Nat → Nat} (hp : PM M) (hN : NowC M (fun c f w => mb (P c f w) 7) W) {c : Nat} (hc : c < 36) : ∀ n j : Nat, j + n = 144 → WP d kX11_firstTo (4, [.ref 82, .int (vI c), .int (vI (mb (fun b => ∃ f w : Nat, vld c f w ∧ P c f w b ∧ phi c f w < 144 * c + j) 7)), .int (vI j)], [], M) Q = Q (some (.int (vI (mb (fun b => ∃ f w : Nat, vld c f w ∧ P c f w b) 7)))) M := by
  intro n
  induction n with
  | zero =>
    intro j hj
    obtain rfl : j = 144 := by omega
    rw [gX11_firstTo_4, if_neg (by decide)]
    refine qI (congrArg vI (mb_congr 7 fun b _ => ⟨fun ⟨f, w, h1, h2, _⟩ => ⟨f, w, h1, h2⟩, fun ⟨f, w, h1, h2⟩ => ⟨f, w, h1, h2, ?_⟩⟩))
    have h3 := vld_nx h1
    have h4 := h1.2.1
    unfold phi; omega
  | succ n ih =>
    intro j hj
    rw [gX11_firstTo_4, if_pos (show vI j < 144 by rw [lt_nl (by omega) (by decide)]; omega)]
    simp (disch := omega) only [ty_82, pm_15 hp, ty_90, inb_n, vI_cl, add_nl, mul_ln, vI_add, true_and, and_true, Option.some.injEq, exists_eq_left']
    simp only [show 144 * c + j < 5184 by omega, true_and]
    have e : ∃ q : Nat → Prop, mI M 90 (144 * c + j) = vI (mb q 7) ∧ ∀ b : Nat, b < 7 → (q b ↔ ∃ f w : Nat, vld c f w ∧ P c f w b ∧ phi c f w = 144 * c + j) := by
      by_cases him : ∃ c1 f w : Nat, vld c1 f w ∧ 144 * c + j = phi c1 f w
      · obtain ⟨c1, f, w, hvl, he⟩ := him
        have hc1 : c1 = c := by
          have := phi_c hvl
          rw [← he] at this; omega
        subst hc1
        refine ⟨P c1 f w, by rw [he]; exact hN.1 c1 f w hvl, fun b _ => ⟨fun h => ⟨f, w, hvl, h, he.symm⟩, fun ⟨f2, w2, h1, h2, h3⟩ => ?_⟩⟩
        obtain ⟨-, rfl, rfl⟩ := phi_inj h1 hvl (h3.trans he)
        exact h2
      · refine ⟨fun _ => False, ?_, fun b _ => ⟨fun h => h.elim, fun ⟨f2, w2, h1, h2, h3⟩ => him ⟨c, f2, w2, h1, h3.symm⟩⟩⟩
        rw [hN.2.1 _ (by omega) (fun c1 f w hvl he => him ⟨c1, f, w, hvl, he⟩), mb_z 7 (fun _ _ h => h)]; rfl
    obtain ⟨q, e1, e2⟩ := e
    rw [e1, mb_orn]
    rw [mb_congr 7 (q := fun b => ∃ f w : Nat, vld c f w ∧ P c f w b ∧ phi c f w < 144 * c + (j + 1)) (fun b hb => ?_), ih (j + 1) (by omega)]
    rw [e2 b hb]
    constructor
    · rintro (⟨f, w, h1, h2, h3⟩ | ⟨f, w, h1, h2, h3⟩)
      · exact ⟨f, w, h1, h2, by omega⟩
      · exact ⟨f, w, h1, h2, by omega⟩
    · rintro ⟨f, w, h1, h2, h3⟩
      by_cases e3 : phi c f w = 144 * c + j
      · exact Or.inr ⟨f, w, h1, h2, e3⟩
      · exact Or.inl ⟨f, w, h1, h2, by omega⟩
theorem m_firstTo (hp : PM M) (hN : NowT M mk kd v onN bk b0 g0 A0 t) {c : Nat} (hc : c < 36) : CL d kX11_firstTo [.ref 82, .int (vI c)] M Q = Q (some (.int (vI (mb (fun b => ∃ f w : Nat, vld c f w ∧ Pt mk kd v onN bk b0 g0 A0 t c f w b) 7)))) M := by
  have h := m_first_loop (d := d) (Q := Q) (P := Pt mk kd v onN bk b0 g0 A0 t) hp hN.2 hc 144 0 rfl
  rw [eX11_firstTo]
  rw [mb_z (p := fun b => ∃ f w : Nat, vld c f w ∧ Pt mk kd v onN bk b0 g0 A0 t c f w b ∧ phi c f w < 144 * c + 0) 7 (fun b _ ⟨f, w, h1, _, h3⟩ => by
    unfold phi at h3; omega)] at h
  exact h
end Time
