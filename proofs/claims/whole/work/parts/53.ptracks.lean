/-! ===== 53: tracks on both sides ===== -/
/-- where one may stand at the told cells of a track -/
def trk (mk : Nat → Nat → Prop) (kd v onN bk b0 : Nat) (st : Nat → Nat) (A0 : Nat → Nat → Nat → Prop) : Nat → Nat → Nat → Nat → Prop
  | 0 => A0
  | t + 1 => fun c f w => adv (fun _ => True) mk kd v ((b0 + t) % (onN + bk) < onN) (0 + t) (trk mk kd v onN bk b0 st A0 t) c f w ∧ c = st (t + 1)
theorem okA_trk {mk : Nat → Nat → Prop} {kd v onN bk b0 : Nat} {st : Nat → Nat} {A0 : Nat → Nat → Nat → Prop} (h : okA A0) : ∀ t : Nat, okA (trk mk kd v onN bk b0 st A0 t)
  | 0 => h
  | t + 1 => fun c f w hA => okA_adv (okA_trk h t) c f w hA.1
theorem trk_or {mk : Nat → Nat → Prop} {kd v onN bk b0 : Nat} {st : Nat → Nat} {A0 : Nat → Nat → Nat → Prop} {B0 : Nat → Nat → Nat → Nat → Prop} (h : ∀ c f w : Nat, A0 c f w ↔ ∃ g : Nat, g < 4 ∧ B0 g c f w) : ∀ t c f w : Nat, trk mk kd v onN bk b0 st A0 t c f w ↔ ∃ g : Nat, g < 4 ∧ trk mk kd v onN bk b0 st (B0 g) t c f w
  | 0, c, f, w => h c f w
  | t + 1, c, f, w => by
    constructor
    · rintro ⟨⟨c1, f1, w1, a, q1, q2, q3, q4⟩, q5⟩
      obtain ⟨g, g1, g2⟩ := (trk_or h t c1 f1 w1).mp q3
      exact ⟨g, g1, ⟨c1, f1, w1, a, q1, q2, g2, q4⟩, q5⟩
    · rintro ⟨g, g1, ⟨c1, f1, w1, a, q1, q2, q3, q4⟩, q5⟩
      exact ⟨⟨c1, f1, w1, a, q1, q2, (trk_or h t c1 f1 w1).mpr ⟨g, g1, q3⟩, q4⟩, q5⟩
/-- some state is left behind t cells more -/
def lft (mk : Nat → Nat → Prop) (kd v onN bk b0 : Nat) (st : Nat → Nat) (A0 : Nat → Nat → Nat → Prop) (t : Nat) : Prop := ∃ c f w : Nat, trk mk kd v onN bk b0 st A0 t c f w
theorem lft_up {mk : Nat → Nat → Prop} {kd v onN bk b0 : Nat} {st : Nat → Nat} {A0 : Nat → Nat → Nat → Prop} {t : Nat} (h : ¬ lft mk kd v onN bk b0 st A0 t) : ∀ m : Nat, ¬ lft mk kd v onN bk b0 st A0 (t + m)
  | 0 => h
  | m + 1 => by
    rintro ⟨c, f, w, ⟨c1, f1, w1, a, q1, q2, q3, q4⟩, q5⟩
    exact lft_up h m ⟨c1, f1, w1, q3⟩
theorem lft_or {mk : Nat → Nat → Prop} {kd v onN bk b0 : Nat} {st : Nat → Nat} {A0 : Nat → Nat → Nat → Prop} {B0 : Nat → Nat → Nat → Nat → Prop} (h : ∀ c f w : Nat, A0 c f w ↔ ∃ g : Nat, g < 4 ∧ B0 g c f w) (t : Nat) : lft mk kd v onN bk b0 st A0 t ↔ ∃ g : Nat, g < 4 ∧ lft mk kd v onN bk b0 st (B0 g) t := by
  constructor
  · rintro ⟨c, f, w, q⟩
    obtain ⟨g, g1, g2⟩ := (trk_or h t c f w).mp q
    exact ⟨g, g1, c, f, w, g2⟩
  · rintro ⟨g, g1, c, f, w, g2⟩
    exact ⟨c, f, w, (trk_or h t c f w).mpr ⟨g, g1, g2⟩⟩
def Tk0 (c0 : Nat) : Nat → Nat → Nat → Prop := fun c f w => c = c0 ∧ f < 4 ∧ w = 4
theorem Tk0_or {c0 : Nat} (c f w : Nat) : Tk0 c0 c f w ↔ ∃ g : Nat, g < 4 ∧ A0s c0 g 4 c f w :=
  ⟨fun h => ⟨f, h.2.1, h.1, rfl, h.2.2⟩, fun ⟨g, g1, g2, g3, g4⟩ => ⟨g2, by omega, g4⟩⟩
theorem okA_Tk0 {c0 : Nat} (h : c0 < 36) : okA (Tk0 c0) := by rintro c f w ⟨rfl, h1, rfl⟩; exact ⟨h, h1, by decide, ok4 c⟩
section Trk
variable {MZ M : MM} {n d : Nat} {Q : Option Value → MM → Prop} {p onN bk : Nat} {mk : Nat → Nat → Prop} {kd v : Nat} {st : Nat → Nat}
theorem s_left_loop (hkd : kd < 7) (hv : v < 10) {r b0 : Nat} (hr : r ≤ 12) (h0 : st 0 < 36) : ∀ m t : Nat, t + 1 + m = r → ∀ M : MM, QC M p onN bk mk → mI M 37 1 = vI r → (∀ j : Nat, j < r → st j < 36 ∧ mI M 38 j = vI (st j)) → CrS M 58 p kd v ((b0 + t) % (onN + bk)) (0 + t) (trk mk kd v onN bk b0 st (Tk0 (st 0)) t) →
    (∀ M' : MM, FM (inS 58 4) M M' → SOK M' → Q (some (.int (b2i (pB (lft mk kd v onN bk b0 st (Tk0 (st 0)) (r - 1)))))) M') →
    WP (d + 6) kX10_left (31, [.ref 21, .int (vI kd), .int (vI v), .int (vI b0), .int (vI (t + 1))], [], M) Q := by
  intro m
  induction m with
  | zero =>
    intro t ht M hQ h37 h38 hS h
    obtain rfl : t + 1 = r := by omega
    rw [gX10_left_31]
    simp only [ty_21, pc_21_1 hQ.1, pc_33_3 hQ.1, pc_21_5 hQ.1, ty_33, ty_37, ty_58, true_and, and_true, Option.some.injEq, exists_eq_left']
    rw [if_neg (by rw [h37, vI_lt (by omega) (by omega)]; omega), s_cells CrT_58 hS]
    simp only [Option.toList_some, Option.toList_none, List.cons_append, List.nil_append]
    rw [gX10_left_87]
    have h2 := h M (FM.refl _ _) hQ.2.2.2.2
    rw [show t + 1 - 1 = t by omega] at h2
    by_cases e : lft mk kd v onN bk b0 st (Tk0 (st 0)) t
    · rw [pB_T e] at h2
      rw [if_neg (by
        rw [lg_0, zb_eq0]
        obtain ⟨c, f, w, g⟩ := e
        have g2 := okA_trk (okA_Tk0 h0) t c f w g
        exact fun hh => hh c g2.1 ⟨f, w, g2.2.1, g2.2.2.1, g⟩)]
      exact h2
    · rw [pB_F e] at h2
      rw [if_pos (by
        rw [lg_0, zb_eq0]
        rintro c - ⟨f, w, -, -, g⟩
        exact e ⟨c, f, w, g⟩)]
      exact h2
  | succ m ih =>
    intro t ht M hQ h37 h38 hS h
    obtain ⟨s1, s2⟩ := h38 (t + 1) (by omega)
    rw [gX10_left_31]
    simp only [ty_21, pc_21_1 hQ.1, pc_33_3 hQ.1, pc_21_5 hQ.1, ty_33, ty_37, ty_58, true_and, and_true, Option.some.injEq, exists_eq_left']
    rw [if_pos (by rw [h37, vI_lt (by omega) (by omega)]; omega)]
    refine s_advance (ms := fun _ => True) CrT_58 (by have := bndR (t := t) (gn := 0) (bt := b0) hQ.2.2.2.1 hkd hv (by omega); exact this) hQ.2.2.2.1 mask63 hS hQ.2.2.1 (fun M1 hF1 hS1 => ?_)
    have hQ1 := QC_58 hF1 hS1.q hQ
    simp only [Option.toList_some, Option.toList_none, List.cons_append, List.nil_append]
    rw [gX10_left_55]
    simp only [ty_21, pc_21_1 hQ1.1, pc_33_3 hQ1.1, pc_21_5 hQ1.1, ty_33, ty_37, rf_some, true_and, and_true, Option.some.injEq, exists_eq_left']
    rw [s_at8 (by rw [ty_37]) (pc_37_0 hQ1.1) ty_38 (by omega), hF1.i (show ¬ inS 58 4 38 by unfold inS; omega), s2]
    simp only [Option.toList_some, Option.toList_none, List.cons_append, List.nil_append]
    rw [gX10_left_71]
    refine ⟨by simp only [ty_58], ?_⟩
    refine s_keep CrT_58 s1 (CrS_next hS1) (fun M2 hF2 hS2 => ?_)
    have hQ2 := QC_58 hF2 hS2.q hQ1
    simp only [Option.toList_some, Option.toList_none, List.cons_append, List.nil_append]
    rw [gX10_left_74, add_nl]
    have hF := hF1.trans hF2
    exact ih (t + 1) (by omega) M2 hQ2 (by rw [hF.i (by unfold inS; omega)]; exact h37) (fun j hj => by rw [hF.i (by unfold inS; omega)]; exact h38 j hj) hS2 (fun M' h1 h2 => h M' (hF.trans h1) h2)
theorem s_left (hkd : kd < 7) (hv : v < 10) {r b0 : Nat} (hr : r ≤ 12) (hr0 : 0 < r) (hb0 : b0 < onN + bk) (hQ : QC M p onN bk mk) (h37 : mI M 37 1 = vI r) (h38 : ∀ j : Nat, j < r → st j < 36 ∧ mI M 38 j = vI (st j))
    (h : ∀ M' : MM, FM (inS 58 4) M M' → SOK M' → Q (some (.int (b2i (pB (lft mk kd v onN bk b0 st (Tk0 (st 0)) (r - 1)))))) M') :
    CL (d + 6) kX10_left [.ref 21, .int (vI kd), .int (vI v), .int (vI b0)] M Q := by
  obtain ⟨s1, s2⟩ := h38 0 hr0
  have hbb := hQ.2.2.2.1
  unfold bnL at hbb
  rw [eX10_left]
  simp only [ty_21, pc_21_1 hQ.1, pc_33_3 hQ.1, pc_21_5 hQ.1, ty_33, ty_37, hQ.2.1, rf_some, true_and, and_true, Option.some.injEq, exists_eq_left']
  rw [show (0 : Int32) = vI 0 from rfl, s_at8 (by rw [ty_37]) (pc_37_0 hQ.1) ty_38 (by omega), s2]
  simp only [Option.toList_some, Option.toList_none, List.cons_append, List.nil_append]
  rw [gX10_left_22]
  refine ⟨by simp only [ty_58], ?_⟩
  refine s_around CrT_58 hQ.2.2.2.2.1 hQ.2.2.1 hQ.2.2.2.1 (by omega) s1 (fun M1 hF1 hS1 => ?_)
  simp only [Option.toList_some, Option.toList_none, List.cons_append, List.nil_append]
  rw [gX10_left_28]
  refine s_left_loop (b0 := b0) hkd hv hr s1 (r - 1) 0 (by omega) M1 (QC_58 hF1 hS1.q hQ) (by rw [hF1.i (by unfold inS; omega)]; exact h37) (fun j hj => by rw [hF1.i (by unfold inS; omega)]; exact h38 j hj) ?_ (fun M' h1 h2 => h M' (hF1.trans h1) h2)
  exact CrS_congr (fun c f w _ hf _ => ⟨fun h => ⟨h.1, hf, h.2⟩, fun h => ⟨h.1, h.2.2⟩⟩) hS1
/- the reference's -/
def Lv (V : Nat → Nat → Nat → Nat) (A : Nat → Nat → Nat → Prop) : Prop := (∀ c f w : Nat, V c f w = 64 * eB (A c f w)) ∨ ∃ K : Nat → Nat → Nat → Nat → Prop, ∀ c f w : Nat, V c f w = mb (K c f w) 6
def NwX (M : MM) (kd v b0 t : Nat) (A : Nat → Nat → Nat → Prop) : Prop := MsF M kd v b0 0 t ∧ ∃ V W : Nat → Nat → Nat → Nat, NowC M V W ∧ (∀ c f w : Nat, vld c f w → (¬ V c f w = 0 ↔ A c f w)) ∧ Lv V A
theorem m_trkbeat (hkd : kd < 7) (hv : v < 10) (hB : bnL onN bk) {b0 t : Nat} {A : Nat → Nat → Nat → Prop} (hb0 : b0 < 1000) (ht : t < 1000) (hA : okA A) (hp : PM M) (hE : ME M onN bk mk) (hN : NwX M kd v b0 t A)
    (h : ∀ M' : MM, FN M M' → NwX M' kd v b0 (t + 1) (adv (fun _ => True) mk kd v ((b0 + t) % (onN + bk) < onN) (0 + t) A) → Q none M') : CL (d + 4) kX11_goesBeat [.ref 82] M Q := by
  obtain ⟨hS, V, W, hC, hVA, hL⟩ := hN
  have hK : ∃ K : Nat → Nat → Nat → Nat → Nat → Prop, ∀ c f w : Nat, vld c f w → ¬ V c f w = 0 → ∀ a : Nat, a < 6 → (if vI (V c f w) = 64 then iShl 1 (vI a) else vI (V c f w)) = vI (mb (K c f w a) 6) ∧ ∃ b : Nat, b < 6 ∧ K c f w a b := by
    rcases hL with hL | ⟨K0, hL⟩
    · refine ⟨fun _ _ _ a b => b = a, fun c f w hvl hV a ha => ⟨?_, a, ha, rfl⟩⟩
      have hA1 := (hVA c f w hvl).mp hV
      rw [hL, eB_t hA1, if_pos (by decide), pw6_dec a ha, ← mb_eq6 6 ha]
    · refine ⟨fun c f w _ b => K0 c f w b, fun c f w hvl hV a ha => ⟨?_, ?_⟩⟩
      · rw [hL]
        have h64 := mb_lt64 (K0 c f w)
        rw [if_neg (by rw [eq_nl (by omega) (by decide)]; omega)]
      · rw [hL] at hV
        obtain ⟨b, b1, b2⟩ := mb_n0.mp hV
        exact ⟨b, b1, b2⟩
  obtain ⟨K, hK⟩ := hK
  refine m_goesBeat (K := K) hkd hv hB hb0 (by omega) ht (fun c f w hvl hV a ha => (hK c f w hvl hV a ha).1) hp hE hS hC (fun M' hF hS2 hC2 _ => h M' hF ⟨hS2, _, _, hC2, fun c f w hvl => ?_, Or.inr ⟨fun c f w => Fi mk kd v ((b0 + t) % (onN + bk) < onN) (0 + t) V K 5184 (phi c f w), fun c f w => rfl⟩⟩)
  rw [mb_n0]
  constructor
  · rintro ⟨b, b1, c1, f1, w1, a, q1, -, q3, q4, q5, q6, q7⟩
    obtain ⟨e1, e2, e3⟩ := phi_inj (tgt_vld q1 q5) hvl q6
    exact ⟨c1, f1, w1, a, ⟨q1.1, q1.2.1, q1.2.2.1, q3⟩, trivial, (hVA c1 f1 w1 q1).mp q4, q5, e1, e2, e3⟩
  · rintro ⟨c1, f1, w1, a, ⟨q1, q2, q3, q4⟩, -, q6, q7, q8, q9, q10⟩
    have hv1 : vld c1 f1 w1 := hA c1 f1 w1 q6
    have hV1 := (hVA c1 f1 w1 hv1).mpr q6
    obtain ⟨b, b1, b2⟩ := (hK c1 f1 w1 hv1 hV1 a q4).2
    exact ⟨b, b1, c1, f1, w1, a, hv1, phi_lt hv1, q4, hV1, q7, by rw [q8, q9, q10], b2⟩
theorem m_might_zero {l1 l2 l3 l4 l5 : Int32} {t c0 : Nat} (ht : t < 12) (hc0 : c0 < 36) (h58 : mI M 83 (58 + t) = vI c0) : ∀ m i : Nat, i + m = 5184 → ∀ M1 : MM, PM M1 → FM (fun a => a = 90) M M1 → mL M1 = mL M → mR M1 = mR M →
    (∀ k : Nat, k < i → mI M1 90 k = if k / 36 / 4 = c0 then mI M 90 k else 0) → (∀ k : Nat, ¬ k < i → mI M1 90 k = mI M 90 k) →
    (∀ M' : MM, FM (fun a => a = 90) M M' → mL M' = mL M → mR M' = mR M → (∀ k : Nat, k < 5184 → mI M' 90 k = if k / 36 / 4 = c0 then mI M 90 k else 0) →
      (if pB (∃ k : Nat, k < 5184 ∧ k / 36 / 4 = c0 ∧ ¬ mI M 90 k = 0) = true then WP (d + 5) kX11_mightHave (26, [.ref 82, .int l1, .int l2, .int l3, .int l4, .int l5, .int (vI (t + 1)), .int 1, .int 5184], [], M') Q else Q (some (.int 0)) M')) →
    WP (d + 5) kX11_mightHave (47, [.ref 82, .int l1, .int l2, .int l3, .int l4, .int l5, .int (vI t), .int (b2i (pB (∃ k : Nat, k < i ∧ k / 36 / 4 = c0 ∧ ¬ mI M 90 k = 0))), .int (vI i)], [], M1) Q := by
  intro m
  induction m with
  | zero =>
    intro i hi M1 hp hF hL hR hlo hhi h
    obtain rfl : i = 5184 := by omega
    have h2 := h M1 hF hL hR hlo
    rw [gX11_mightHave_47, if_neg (by decide)]
    by_cases e : pB (∃ k : Nat, k < 5184 ∧ k / 36 / 4 = c0 ∧ ¬ mI M 90 k = 0) = true
    · rw [if_pos e] at h2
      rw [e, if_neg (by decide), add_nl]
      exact h2
    · rw [if_neg e] at h2
      rw [Bool.not_eq_true _ |>.mp e, if_pos (by decide)]
      exact h2
  | succ m ih =>
    intro i hi M1 hp hF hL hR hlo hhi h
    have e58 : mI M1 83 (58 + t) = vI c0 := by rw [hF.i (by decide)]; exact h58
    have hia : i / 36 / 4 < 36 := by omega
    have hi2 : i < 5184 := by omega
    rw [gX11_mightHave_47, if_pos (by rw [lt_nl (by omega) (by decide)]; omega)]
    simp (disch := omega) only [ty_82, pm_0 hp, pm_15 hp, ty_83, ty_90, add_ln, inb_n, vI_cl, div_nl, e58, vI_inj, add_nl, true_and, and_true, Option.some.injEq, exists_eq_left']
    refine ⟨by omega, ?_⟩
    by_cases hc : i / 36 / 4 = c0
    · rw [if_pos hc]
      have hn1 : (∀ k : Nat, k < i + 1 → mI M1 90 k = if k / 36 / 4 = c0 then mI M 90 k else 0) := fun k hk => by
        by_cases e : k = i
        · subst e; rw [if_pos hc]; exact hhi k (by omega)
        · exact hlo k (by omega)
      have hn2 : (∀ k : Nat, ¬ k < i + 1 → mI M1 90 k = mI M 90 k) := fun k hk => hhi k (by omega)
      by_cases e : ∃ k : Nat, k < i ∧ k / 36 / 4 = c0 ∧ ¬ mI M 90 k = 0
      · have h3 := ih (i + 1) (by omega) M1 hp hF hL hR hn1 hn2 h
        have e2 : ∃ k : Nat, k < i + 1 ∧ k / 36 / 4 = c0 ∧ ¬ mI M 90 k = 0 := by
          obtain ⟨k, g1, g2⟩ := e; exact ⟨k, by omega, g2⟩
        rw [pB_T e, if_neg (by decide)]
        rw [pB_T e2] at h3
        exact h3
      · rw [pB_F e, if_pos (by decide), hhi i (by omega)]
        refine ⟨by omega, ?_⟩
        have h3 := ih (i + 1) (by omega) M1 hp hF hL hR hn1 hn2 h
        by_cases hz : mI M 90 i = 0
        · rw [if_pos hz]
          rw [pB_F (fun ⟨k, g1, g2, g3⟩ => by
            by_cases e5 : k = i
            · subst e5; exact g3 hz
            · exact e ⟨k, by omega, g2, g3⟩)] at h3
          exact h3
        · rw [if_neg hz]
          rw [pB_T ⟨i, by omega, hc, hz⟩] at h3
          exact h3
    · rw [if_neg hc]
      refine ⟨by omega, ?_⟩
      have hF1 : FM (fun a => a = 90) M (sI M1 90 i 0) := hF.trans (fr_sI rfl)
      have h3 := ih (i + 1) (by omega) (sI M1 90 i 0) hp hF1 hL hR (fun k hk => by
        by_cases e : k = i
        · subst e; rw [aI_sI, if_neg hc]
        · rw [bI_sI e]; exact hlo k (by omega)) (fun k hk => by rw [bI_sI (by omega)]; exact hhi k (by omega)) h
      have e6 : (∃ k : Nat, k < i + 1 ∧ k / 36 / 4 = c0 ∧ ¬ mI M 90 k = 0) ↔ ∃ k : Nat, k < i ∧ k / 36 / 4 = c0 ∧ ¬ mI M 90 k = 0 := by
        constructor
        · rintro ⟨k, g1, g2, g3⟩
          refine ⟨k, ?_, g2, g3⟩
          have : ¬ k = i := fun e5 => hc (by rw [← e5]; exact g2)
          omega
        · rintro ⟨k, g1, g2⟩; exact ⟨k, by omega, g2⟩
      rw [propext e6] at h3
      rw [aI_sI]
      by_cases e : ∃ k : Nat, k < i ∧ k / 36 / 4 = c0 ∧ ¬ mI M 90 k = 0
      · rw [pB_T e, if_neg (by decide)]
        rw [pB_T e] at h3
        exact h3
      · rw [pB_F e, if_pos (by decide), if_pos rfl]
        rw [pB_F e] at h3
        exact ⟨by omega, h3⟩
theorem NwX_keep {M2 : MM} {b0 t c0 : Nat} {A : Nat → Nat → Nat → Prop} (hN : NwX M kd v b0 t A) (hF : FM (fun a => a = 90) M M2) (h90 : ∀ k : Nat, k < 5184 → mI M2 90 k = if k / 36 / 4 = c0 then mI M 90 k else 0) : NwX M2 kd v b0 t (fun c f w => A c f w ∧ c = c0) := by
  obtain ⟨hS, V, W, ⟨n1, n2, n3, n4, n5⟩, hVA, hL⟩ := hN
  refine ⟨MsF_fr hF (by decide) hS, fun c f w => if c = c0 then V c f w else 0, fun c f w => if c = c0 then W c f w else 0, ⟨fun c f w hv => ?_, fun k hk hx => ?_, fun c f w hv hV => ?_, fun c f w hv hV => ?_, fun c f w hv => ?_⟩, fun c f w hv => ?_, ?_⟩
  · rw [h90 _ (phi_lt hv), phi_c hv, n1 c f w hv]
    show _ = vI (if c = c0 then V c f w else 0)
    by_cases e : c = c0
    · rw [if_pos e, if_pos e]
    · rw [if_neg e, if_neg e]; rfl
  · rw [h90 k hk]
    by_cases e : k / 36 / 4 = c0
    · rw [if_pos e]; exact n2 k hk hx
    · rw [if_neg e]
  · rw [hF.l (by decide)]
    by_cases e : c = c0
    · simp only [if_pos e] at hV ⊢; exact n3 c f w hv hV
    · simp only [if_neg e] at hV; exact absurd trivial hV
  · by_cases e : c = c0
    · simp only [if_pos e] at hV ⊢; exact n4 c f w hv hV
    · simp only [if_neg e]
  · by_cases e : c = c0
    · simp only [if_pos e]; exact n5 c f w hv
    · simp only [if_neg e]; decide
  · by_cases e : c = c0
    · simp only [if_pos e]
      rw [hVA c f w hv]
      exact ⟨fun h => ⟨h, e⟩, fun h => h.1⟩
    · simp only [if_neg e]
      exact ⟨fun h => absurd trivial h, fun h => absurd h.2 e⟩
  · rcases hL with hL | ⟨K, hL⟩
    · refine Or.inl fun c f w => ?_
      by_cases e : c = c0
      · simp only [if_pos e]
        rw [hL]
        exact congrArg (fun x => 64 * x) (congrArg eB (propext ⟨fun h => ⟨h, e⟩, fun h => h.1⟩))
      · simp only [if_neg e]
        rw [eB_f (fun h => e h.2)]
    · refine Or.inr ⟨fun c f w b => K c f w b ∧ c = c0, fun c f w => ?_⟩
      by_cases e : c = c0
      · simp only [if_pos e]
        rw [hL]
        exact mb_congr 6 fun b _ => ⟨fun h => ⟨h, e⟩, fun h => h.1⟩
      · simp only [if_neg e]
        rw [mb_z 6 fun b _ h => e h.2]
theorem m_might_loop (hkd : kd < 7) (hv : v < 10) (hB : bnL onN bk) {l3 l4 l5 : Int32} {r b0 : Nat} (hr : r ≤ 12) (hb0 : b0 < 1000) {A0 : Nat → Nat → Nat → Prop} (hA0 : okA A0) : ∀ m t : Nat, t + 1 + m = r → ∀ (M : MM) (l7 l8 : Value), PM M → ME M onN bk mk → mI M 83 3 = vI r → (∀ j : Nat, j < r → st j < 36 ∧ mI M 83 (58 + j) = vI (st j)) → NwX M kd v b0 t (trk mk kd v onN bk b0 st A0 t) → lft mk kd v onN bk b0 st A0 t →
    (∀ M' : MM, FN M M' → Q (some (.int (b2i (pB (lft mk kd v onN bk b0 st A0 (r - 1)))))) M') →
    WP (d + 5) kX11_mightHave (26, [.ref 82, .int (vI kd), .int (vI v), .int l3, .int l4, .int l5, .int (vI (t + 1)), l7, l8], [], M) Q := by
  intro m
  induction m with
  | zero =>
    intro t ht M l7 l8 hp hE h3 h58 hN hl h
    obtain rfl : t + 1 = r := by omega
    have h2 := h M (FN.refl M)
    rw [show t + 1 - 1 = t by omega, pB_T hl] at h2
    rw [gX11_mightHave_26]
    simp only [ty_82, pm_0 hp, ty_83, true_and, and_true, Option.some.injEq, exists_eq_left']
    rw [show (3 : Int32).toNatClampNeg = 3 from rfl, h3, if_neg (by rw [vI_lt (by omega) (by omega)]; omega)]
    exact ⟨by decide, h2⟩
  | succ m ih =>
    intro t ht M l7 l8 hp hE h3 h58 hN hl h
    obtain ⟨s1, s2⟩ := h58 (t + 1) (by omega)
    rw [gX11_mightHave_26]
    simp only [ty_82, pm_0 hp, ty_83, true_and, and_true, Option.some.injEq, exists_eq_left']
    rw [show (3 : Int32).toNatClampNeg = 3 from rfl, h3, if_pos (by rw [vI_lt (by omega) (by omega)]; omega)]
    refine ⟨by decide, ?_⟩
    refine m_trkbeat hkd hv hB hb0 (by omega) (okA_trk hA0 t) hp hE hN (fun M1 hF1 hN1 => ?_)
    have hp1 := PM_fn hF1 hp
    have hE1 := ME_fn hF1 hE
    have e83 : mI M1 83 = mI M 83 := (hF1.2.1 83 (by decide) (by decide)).1
    simp only [Option.toList_some, Option.toList_none, List.cons_append, List.nil_append]
    rw [gX11_mightHave_41]
    have hz := m_might_zero (M := M1) (Q := Q) (d := d) (l1 := vI kd) (l2 := vI v) (l3 := l3) (l4 := l4) (l5 := l5) (t := t + 1) (by omega) s1 (by rw [e83]; exact s2) 5184 0 rfl M1 hp1 (FM.refl _ _) rfl rfl (fun k hk => absurd hk (Nat.not_lt_zero k)) (fun k _ => rfl)
    rw [pB_F (show ¬ ∃ k : Nat, k < 0 ∧ k / 36 / 4 = st (t + 1) ∧ ¬ mI M1 90 k = 0 from fun ⟨k, g1, g2⟩ => absurd g1 (Nat.not_lt_zero k))] at hz
    refine hz (fun M2 hF2 hL2 hR2 h90 => ?_)
    have hF12 : FN M M2 := hF1.trans (FN.of hF2 (fun a ha => by omega))
    have hp2 := PM_fn hF12 hp
    have hE2 := ME_fn hF12 hE
    have e832 : mI M2 83 = mI M 83 := (hF12.2.1 83 (by decide) (by decide)).1
    have hN2 : NwX M2 kd v b0 (t + 1) (trk mk kd v onN bk b0 st A0 (t + 1)) := NwX_keep hN1 hF2 h90
    have hiff : (∃ k : Nat, k < 5184 ∧ k / 36 / 4 = st (t + 1) ∧ ¬ mI M1 90 k = 0) ↔ lft mk kd v onN bk b0 st A0 (t + 1) := by
      obtain ⟨hS, V, W, ⟨n1, n2, n3, n4, n5⟩, hVA, hL⟩ := hN1
      constructor
      · rintro ⟨k, g1, g2, g3⟩
        have hx : ∃ c f w : Nat, vld c f w ∧ k = phi c f w := Classical.byContradiction fun hh => g3 (n2 k g1 (fun c f w hv he => hh ⟨c, f, w, hv, he⟩))
        obtain ⟨c, f, w, hvl, rfl⟩ := hx
        rw [phi_c hvl] at g2
        rw [n1 c f w hvl] at g3
        exact ⟨c, f, w, (hVA c f w hvl).mp (fun h0 => g3 (by rw [h0]; rfl)), g2⟩
      · rintro ⟨c, f, w, g1, g2⟩
        have hvl : vld c f w := okA_adv (okA_trk hA0 t) c f w g1
        have hV := (hVA c f w hvl).mpr g1
        have h128 := n5 c f w hvl
        exact ⟨phi c f w, phi_lt hvl, by rw [phi_c hvl]; exact g2, by rw [n1 c f w hvl, eq_nl (by omega) (by decide)]; exact hV⟩
    rw [propext hiff]
    by_cases e : lft mk kd v onN bk b0 st A0 (t + 1)
    · rw [if_pos (pB_T e)]
      exact ih (t + 1) (by omega) M2 _ _ hp2 hE2 (by rw [e832]; exact h3) (fun j hj => by rw [e832]; exact h58 j hj) hN2 e (fun M' h1 => h M' (hF12.trans h1))
    · rw [if_neg (by rw [pB_F e]; decide)]
      have h2 := h M2 hF12
      have h5 := lft_up e m
      rw [show t + 1 + m = r - 1 by omega] at h5
      rw [pB_F h5] at h2
      exact h2
theorem m_might (hkd : kd < 7) (hv : v < 10) (hB : bnL onN bk) {r b0 f : Nat} (hr : r ≤ 12) (hr0 : 0 < r) (hb0 : b0 < 1000) (hf : f < 4) (hp : PM M) (hE : ME M onN bk mk) (h3 : mI M 83 3 = vI r) (h58 : ∀ j : Nat, j < r → st j < 36 ∧ mI M 83 (58 + j) = vI (st j))
    (h : ∀ M' : MM, FN M M' → Q (some (.int (b2i (pB (lft mk kd v onN bk b0 st (A0s (st 0) f 4) (r - 1)))))) M') : CL (d + 5) kX11_mightHave [.ref 82, .int (vI kd), .int (vI v), .int (vI f), .int (vI b0)] M Q := by
  obtain ⟨s1, s2⟩ := h58 0 hr0
  have hvl : vld (st 0) f 4 := ⟨s1, hf, by decide, ok4 _⟩
  rw [eX11_mightHave]
  simp only [ty_82, pm_0 hp, ty_83, true_and, and_true, Option.some.injEq, exists_eq_left']
  rw [show (58 : Int32).toNatClampNeg = 58 from rfl, show mI M 83 58 = vI (st 0) from s2]
  refine ⟨by decide, ?_⟩
  refine m_begins (mk := mk) (onN := onN) (bk := bk) (g0 := 0) hvl hp (fun M1 hF1 hN1 => ?_)
  simp only [Option.toList_some, Option.toList_none, List.cons_append, List.nil_append]
  rw [gX11_mightHave_23]
  have e83 : mI M1 83 = mI M 83 := (hF1.2.1 83 (by decide) (by decide)).1
  refine m_might_loop hkd hv hB hr hb0 (okA_0 hvl) (r - 1) 0 (by omega) M1 _ _ (PM_fn hF1 hp) (ME_fn hF1 hE) (by rw [e83]; exact h3) (fun j hj => by rw [e83]; exact h58 j hj) ⟨hN1.1, _, _, hN1.2, fun c f2 w hv2 => Vt_ne c f2 w, Or.inl fun c f2 w => Vt_0 c f2 w⟩ ⟨st 0, f, 4, rfl, rfl, rfl⟩ (fun M' h1 => h M' (hF1.trans h1))
theorem mb_or8 (P : Nat → Prop) {n : Nat} (hn : n < 8) (h : P n) : vI (mb P n) ||| iShl 1 (vI n) = vI (mb P (n + 1)) := by
  have e : iShl 1 (vI n) = vI (2 ^ n) := by
    have hd : ∀ a : Nat, a < 8 → iShl 1 (vI a) = vI (2 ^ a) := by decide +kernel
    exact hd n hn
  rw [e, ← mb_eq6 (n + 1) (Nat.lt_succ_self n), show vI (mb P n) = vI (mb (fun b => P b ∧ b < n) (n + 1)) from ?_, mb_orn]
  · refine congrArg vI (mb_congr (n + 1) fun a ha => ⟨?_, fun hp => ?_⟩)
    · rintro (h1 | h1)
      · exact h1.1
      · rw [h1]; exact h
    · by_cases e2 : a = n
      · exact Or.inr e2
      · exact Or.inl ⟨hp, by omega⟩
  · rw [mb_no (fun b => P b ∧ b < n) (fun h2 => absurd h2.2 (Nat.lt_irrefl n))]
    exact congrArg vI (mb_congr n fun a ha => ⟨fun h2 => ⟨h2, ha⟩, fun h2 => h2.1⟩)
/-- whether a track that starts at a beat may be one's -/
def tkP (mk : Nat → Nat → Prop) (kd v onN bk : Nat) (st : Nat → Nat) (r b : Nat) : Prop := r = 0 ∨ lft mk kd v onN bk b st (Tk0 (st 0)) (r - 1)
theorem s_tracks_loop (hkd : kd < 7) (hv : v < 10) {r : Nat} (hr : r ≤ 12) : ∀ m b : Nat, b + m = onN + bk → ∀ M : MM, QC M p onN bk mk → mI M 37 1 = vI r → (∀ j : Nat, j < r → st j < 36 ∧ mI M 38 j = vI (st j)) →
    (∀ M' : MM, FM (inS 58 4) M M' → SOK M' → Q (some (.int (vI (mb (tkP mk kd v onN bk st r) (onN + bk))))) M') →
    WP (d + 7) kX10_tracks (24, [.ref 21, .int (vI kd), .int (vI v), .int (vI (mb (tkP mk kd v onN bk st r) b)), .int (vI b)], [], M) Q := by
  intro m
  induction m with
  | zero =>
    intro b hb M hQ h37 h38 h
    obtain rfl : b = onN + bk := by omega
    have hbb := hQ.2.2.2.1
    unfold bnL at hbb
    rw [gX10_tracks_24]
    simp only [ty_21, pc_21_1 hQ.1, ty_33, hQ.2.1, hQ.2.2.1.1, true_and, and_true, Option.some.injEq, exists_eq_left']
    rw [s_rhythm hQ.2.2.1]
    simp only [Option.toList_some, Option.toList_none, List.cons_append, List.nil_append]
    rw [gX10_tracks_36, if_neg (by rw [vI_lt (by omega) (by omega)]; omega)]
    exact h M (FM.refl _ _) hQ.2.2.2.2
  | succ m ih =>
    intro b hb M hQ h37 h38 h
    have hbb := hQ.2.2.2.1
    unfold bnL at hbb
    rw [gX10_tracks_24]
    simp only [ty_21, pc_21_1 hQ.1, ty_33, hQ.2.1, hQ.2.2.1.1, true_and, and_true, Option.some.injEq, exists_eq_left']
    rw [s_rhythm hQ.2.2.1]
    simp only [Option.toList_some, Option.toList_none, List.cons_append, List.nil_append]
    rw [gX10_tracks_36, if_pos (by rw [vI_lt (by omega) (by omega)]; omega)]
    simp only [ty_21, pc_21_1 hQ.1, ty_33, pc_33_3 hQ.1, ty_37, true_and, and_true, Option.some.injEq, exists_eq_left']
    by_cases hr0 : r = 0
    · rw [if_pos (by rw [h37, eq_nl (by omega) (by decide)]; exact hr0), mb_or8 _ (by omega) (Or.inl hr0), add_nl]
      exact ih (b + 1) (by omega) M hQ h37 h38 h
    · rw [if_neg (by rw [h37, eq_nl (by omega) (by decide)]; exact hr0)]
      refine s_left hkd hv hr (by omega) (by omega) hQ h37 h38 (fun M1 hF1 hS1 => ?_)
      have hQ1 := QC_fm hF1 Sq_58 hS1 hQ
      simp only [Option.toList_some, Option.toList_none, List.cons_append, List.nil_append]
      rw [gX10_tracks_60]
      have g1 : mI M1 37 1 = vI r := by rw [hF1.i (by unfold inS; omega)]; exact h37
      have g2 : ∀ j : Nat, j < r → st j < 36 ∧ mI M1 38 j = vI (st j) := fun j hj => by rw [hF1.i (by unfold inS; omega)]; exact h38 j hj
      by_cases e : lft mk kd v onN bk b st (Tk0 (st 0)) (r - 1)
      · rw [pB_T e, if_neg (by decide), mb_or8 _ (by omega) (Or.inr e), add_nl]
        exact ih (b + 1) (by omega) M1 hQ1 g1 g2 (fun M' h1 h2 => h M' (hF1.trans h1) h2)
      · rw [pB_F e, if_pos (by decide), add_nl]
        have h5 := ih (b + 1) (by omega) M1 hQ1 g1 g2 (fun M' h1 h2 => h M' (hF1.trans h1) h2)
        rw [mb_no (tkP mk kd v onN bk st r) (n := b) (fun h => h.elim hr0 e)] at h5
        exact h5
theorem m_tracks_in (hkd : kd < 7) (hv : v < 10) (hB : bnL onN bk) {l3 : Int32} {r b0 : Nat} (hr : r ≤ 12) (hr0 : 0 < r) (hb0 : b0 < 1000) : ∀ m f : Nat, f + m = 4 → ∀ M : MM, PM M → ME M onN bk mk → mI M 83 3 = vI r → (∀ j : Nat, j < r → st j < 36 ∧ mI M 83 (58 + j) = vI (st j)) →
    (∀ (M' : MM) (l6 : Int32), FN M M' → WP (d + 6) kX11_tracks (28, [.ref 82, .int (vI kd), .int (vI v), .int (if pB (∃ g : Nat, g < 4 ∧ lft mk kd v onN bk b0 st (A0s (st 0) g 4) (r - 1)) = true then l3 ||| iShl 1 (vI b0) else l3 ||| 0), .int (vI (b0 + 1)), .int (b2i (pB (∃ g : Nat, g < 4 ∧ lft mk kd v onN bk b0 st (A0s (st 0) g 4) (r - 1)))), .int l6], [], M') Q) →
    WP (d + 6) kX11_tracks (56, [.ref 82, .int (vI kd), .int (vI v), .int l3, .int (vI b0), .int (b2i (pB (∃ g : Nat, g < f ∧ lft mk kd v onN bk b0 st (A0s (st 0) g 4) (r - 1)))), .int (vI f)], [], M) Q := by
  intro m
  induction m with
  | zero =>
    intro f hf M hp hE h3 h58 h
    obtain rfl : f = 4 := by omega
    have h2 := h M (vI 4) (FN.refl M)
    rw [gX11_tracks_56, if_neg (by decide), add_nl]
    by_cases e : pB (∃ g : Nat, g < 4 ∧ lft mk kd v onN bk b0 st (A0s (st 0) g 4) (r - 1)) = true
    · rw [if_pos e] at h2
      rw [e] at h2 ⊢
      rw [if_neg (by decide)]; exact h2
    · rw [if_neg e] at h2
      rw [Bool.not_eq_true _ |>.mp e] at h2 ⊢
      rw [if_pos (by decide)]; exact h2
  | succ m ih =>
    intro f hf M hp hE h3 h58 h
    rw [gX11_tracks_56, if_pos (by rw [lt_nl (by omega) (by decide)]; omega), add_nl]
    by_cases e : ∃ g : Nat, g < f ∧ lft mk kd v onN bk b0 st (A0s (st 0) g 4) (r - 1)
    · have e4 : ∃ g : Nat, g < 4 ∧ lft mk kd v onN bk b0 st (A0s (st 0) g 4) (r - 1) := by
        obtain ⟨g, g1, g2⟩ := e; exact ⟨g, by omega, g2⟩
      have h2 := h M (vI f) (FN.refl M)
      rw [pB_T e4, if_pos rfl] at h2
      rw [pB_T e, if_neg (by decide), if_neg (by decide)]
      exact h2
    · rw [pB_F e, if_pos (by decide)]
      refine ⟨by simp only [ty_82], ?_⟩
      refine m_might hkd hv hB hr hr0 hb0 (by omega) hp hE h3 h58 (fun M1 hF1 => ?_)
      have e83 : mI M1 83 = mI M 83 := (hF1.2.1 83 (by decide) (by decide)).1
      simp only [Option.toList_some, Option.toList_none, List.cons_append, List.nil_append]
      rw [gX11_tracks_77, add_nl]
      have h5 := ih (f + 1) (by omega) M1 (PM_fn hF1 hp) (ME_fn hF1 hE) (by rw [e83]; exact h3) (fun j hj => by rw [e83]; exact h58 j hj) (fun M' l6 h1 => h M' l6 (hF1.trans h1))
      rw [show (∃ g : Nat, g < f + 1 ∧ lft mk kd v onN bk b0 st (A0s (st 0) g 4) (r - 1)) = lft mk kd v onN bk b0 st (A0s (st 0) f 4) (r - 1) from propext ⟨fun ⟨g, g1, g2⟩ => by
        by_cases e5 : g = f
        · rw [← e5]; exact g2
        · exact absurd ⟨g, by omega, g2⟩ e, fun g2 => ⟨f, by omega, g2⟩⟩] at h5
      exact h5
theorem m_tracks_loop (hkd : kd < 7) (hv : v < 10) (hB : bnL onN bk) {r : Nat} (hr : r ≤ 12) : ∀ m b : Nat, b + m = onN + bk → ∀ (M : MM) (l5 l6 : Value), PM M → ME M onN bk mk → mI M 83 3 = vI r → (∀ j : Nat, j < r → st j < 36 ∧ mI M 83 (58 + j) = vI (st j)) →
    (∀ M' : MM, FN M M' → Q (some (.int (vI (mb (tkP mk kd v onN bk st r) (onN + bk))))) M') →
    WP (d + 6) kX11_tracks (28, [.ref 82, .int (vI kd), .int (vI v), .int (vI (mb (tkP mk kd v onN bk st r) b)), .int (vI b), l5, l6], [], M) Q := by
  have hbb := hB
  unfold bnL at hbb
  intro m
  induction m with
  | zero =>
    intro b hb M l5 l6 hp hE h3 h58 h
    obtain rfl : b = onN + bk := by omega
    rw [gX11_tracks_28, m_beats hp hE]
    simp only [ty_82, true_and, Option.toList_some, Option.toList_none, List.cons_append, List.nil_append]
    rw [gX11_tracks_34, if_neg (by rw [vI_lt (by omega) (by omega)]; omega)]
    exact h M (FN.refl M)
  | succ m ih =>
    intro b hb M l5 l6 hp hE h3 h58 h
    rw [gX11_tracks_28, m_beats hp hE]
    simp only [ty_82, true_and, Option.toList_some, Option.toList_none, List.cons_append, List.nil_append]
    rw [gX11_tracks_34, if_pos (by rw [vI_lt (by omega) (by omega)]; omega)]
    simp only [ty_82, pm_0 hp, ty_83, true_and, and_true, Option.some.injEq, exists_eq_left']
    rw [show (3 : Int32).toNatClampNeg = 3 from rfl, h3]
    refine ⟨by decide, ?_⟩
    by_cases hr0 : r = 0
    · rw [if_pos (by rw [eq_nl (by omega) (by decide)]; exact hr0), gX11_tracks_56, if_pos (by decide), if_neg (by decide), if_neg (by decide), mb_or8 _ (by omega) (Or.inl hr0), add_nl]
      exact ih (b + 1) (by omega) M _ _ hp hE h3 h58 h
    · rw [if_neg (by rw [eq_nl (by omega) (by decide)]; exact hr0)]
      have h6 := m_tracks_in (d := d) (Q := Q) (mk := mk) (st := st) (l3 := vI (mb (tkP mk kd v onN bk st r) b)) (b0 := b) hkd hv hB hr (by omega) (by omega) 4 0 rfl M hp hE h3 h58
      rw [pB_F (show ¬ ∃ g : Nat, g < 0 ∧ lft mk kd v onN bk b st (A0s (st 0) g 4) (r - 1) from fun ⟨g, g1, g2⟩ => absurd g1 (Nat.not_lt_zero g))] at h6
      refine h6 (fun M1 l6 hF1 => ?_)
      have e83 : mI M1 83 = mI M 83 := (hF1.2.1 83 (by decide) (by decide)).1
      have h7 := ih (b + 1) (by omega) M1 (.int (b2i (pB (∃ g : Nat, g < 4 ∧ lft mk kd v onN bk b st (A0s (st 0) g 4) (r - 1))))) (.int l6) (PM_fn hF1 hp) (ME_fn hF1 hE) (by rw [e83]; exact h3) (fun j hj => by rw [e83]; exact h58 j hj) (fun M' h1 => h M' (hF1.trans h1))
      by_cases e : ∃ g : Nat, g < 4 ∧ lft mk kd v onN bk b st (A0s (st 0) g 4) (r - 1)
      · rw [if_pos (pB_T e), mb_or8 _ (by omega) (Or.inr ((lft_or Tk0_or _).mpr e))]
        exact h7
      · rw [if_neg (by rw [pB_F e]; decide), show (0 : Int32) = vI 0 from rfl, vI_or, Nat.or_zero]
        rw [mb_no (tkP mk kd v onN bk st r) (n := b) (fun h => h.elim hr0 (fun h => e ((lft_or Tk0_or _).mp h)))] at h7
        exact h7
theorem p_tracks (hI : INV MZ n M) (a b : Int32) : PRI MZ (d + 12) n kX10_tracks kX11_tracks [.int a, .int b] M := by
  have hp := hI.1
  have hpm := hI.2.1
  obtain ⟨p, onN, bk, mk, hld, hL, hE, hB⟩ := INV_land hI
  have hI1 := INV_mono hI
  unfold PRI
  rw [eX10_tracks, s_isKind]
  simp only [Option.toList_some, Option.toList_none, List.cons_append, List.nil_append]
  rw [gX10_tracks_4]
  cases hA : inR a 7 with
  | false =>
    rw [if_pos (by decide)]
    refine ⟨_, rfl, ?_⟩
    rw [eX11_tracks, show (7 : Int32) = vI 7 from rfl, m_isIn (by decide), hA]
    simp only [Option.toList_some, Option.toList_none, List.cons_append, List.nil_append]
    rw [gX11_tracks_6, if_pos (by decide)]
    exact ⟨rfl, hI1⟩
  | true =>
  rw [if_neg (by decide), s_isNumber]
  simp only [Option.toList_some, Option.toList_none, List.cons_append, List.nil_append]
  rw [gX10_tracks_13]
  cases hA2 : inR b 10 with
  | false =>
    rw [if_pos (by decide)]
    refine ⟨_, rfl, ?_⟩
    rw [eX11_tracks, show (7 : Int32) = vI 7 from rfl, m_isIn (by decide), hA]
    simp only [Option.toList_some, Option.toList_none, List.cons_append, List.nil_append]
    rw [gX11_tracks_6, if_neg (by decide), show (10 : Int32) = vI 10 from rfl, m_isIn (by decide), hA2]
    simp only [Option.toList_some, Option.toList_none, List.cons_append, List.nil_append]
    rw [gX11_tracks_17, if_pos (by decide)]
    exact ⟨rfl, hI1⟩
  | true =>
  obtain ⟨kd, hkd, rfl⟩ := inR_get hA
  obtain ⟨v, hv, rfl⟩ := inR_get hA2
  rw [if_neg (by decide), show (0 : Int32) = vI 0 from rfl]
  have hT : ScnT M 33 83 := by
    obtain ⟨L, i5, i6, i7⟩ := hI.2.2.2.2.1
    exact i6.2.2.2
  obtain ⟨r, r1, r2, r3, r4⟩ := hT
  obtain ⟨st, hst⟩ : ∃ st : Nat → Nat, ∀ j : Nat, j < r → st j < 36 ∧ mI M 38 j = vI (st j) ∧ mI M 83 (58 + j) = vI (st j) := by
    classical
    refine ⟨fun j => if h : j < r then Classical.choose (r4 j h) else 0, fun j hj => ?_⟩
    simp only [dif_pos hj]
    exact Classical.choose_spec (r4 j hj)
  refine s_tracks_loop (d := d + 5) (mk := mk) (st := st) hkd hv r1 (onN + bk) 0 (by omega) M ⟨hp, hld, hL, hB, hI.2.2.1⟩ r2 (fun j hj => ⟨(hst j hj).1, (hst j hj).2.1⟩) (fun M1 hF1 hS1 => ?_)
  have hI2 : INV MZ n M1 := INV_fm hF1 Sq_58 hS1 hI
  have e83 : mI M1 83 = mI M 83 := hF1.i (by unfold inS; omega)
  refine ⟨_, rfl, ?_⟩
  rw [eX11_tracks, show (7 : Int32) = vI 7 from rfl, m_isIn (by decide), hA]
  simp only [Option.toList_some, Option.toList_none, List.cons_append, List.nil_append]
  rw [gX11_tracks_6, if_neg (by decide), show (10 : Int32) = vI 10 from rfl, m_isIn (by decide), hA2]
  simp only [Option.toList_some, Option.toList_none, List.cons_append, List.nil_append]
  rw [gX11_tracks_17, if_neg (by decide), show (0 : Int32) = vI 0 from rfl]
  refine m_tracks_loop (d := d + 6) (mk := mk) (st := st) hkd hv hB r1 (onN + bk) 0 (by omega) M1 _ _ hI2.2.1 (ME_fr hF1 (fun a h1 h2 => by unfold inS; omega) hE) (by rw [e83]; exact r3) (fun j hj => ⟨(hst j hj).1, by rw [e83]; exact (hst j hj).2.2⟩) (fun M2 hF2 => ⟨rfl, INV_mono (INV_fn hF2 hI2)⟩)
end Trk
