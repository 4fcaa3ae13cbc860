/-! ===== 36: the reference goes a beat: the whole of it ===== -/
def FN (M M' : MM) : Prop := mN M' = mN M ∧ (∀ a : Nat, ¬ a = 82 → ¬ (90 ≤ a ∧ a ≤ 93) → mI M' a = mI M a ∧ mL M' a = mL M a ∧ mR M' a = mR M a) ∧ mR M' 82 = mR M 82 ∧ ∀ k : Nat, ¬ (19 ≤ k ∧ k ≤ 24) → mI M' 82 k = mI M 82 k
theorem FN.refl (M : MM) : FN M M := ⟨rfl, fun _ _ _ => ⟨rfl, rfl, rfl⟩, rfl, fun _ _ => rfl⟩
theorem FN.trans {M M1 M2 : MM} (h1 : FN M M1) (h2 : FN M1 M2) : FN M M2 := ⟨h2.1.trans h1.1, fun a h8 h9 => ⟨(h2.2.1 a h8 h9).1.trans (h1.2.1 a h8 h9).1, (h2.2.1 a h8 h9).2.1.trans (h1.2.1 a h8 h9).2.1, (h2.2.1 a h8 h9).2.2.trans (h1.2.1 a h8 h9).2.2⟩, h2.2.2.1.trans h1.2.2.1, fun k hk => (h2.2.2.2 k hk).trans (h1.2.2.2 k hk)⟩
theorem FN.of {S : Nat → Prop} {M M' : MM} (h : FM S M M') (hs : ∀ a : Nat, S a → 90 ≤ a ∧ a ≤ 93) : FN M M' :=
  ⟨h.1, fun a _ h9 => h.2 a (fun h2 => h9 (hs a h2)), h.r (fun h2 => by have := hs _ h2; omega), fun k _ => by rw [h.i (fun h2 => by have := hs _ h2; omega)]⟩
theorem FN.s82 {M : MM} {k : Nat} {v : Int32} (h : 19 ≤ k ∧ k ≤ 24) : FN M (sI M 82 k v) := ⟨rfl, fun a h8 _ => ⟨rI_sI h8, rfl, rfl⟩, rfl, fun j hj => bI_sI (fun h2 => hj (h2 ▸ h))⟩
theorem PM_fn {M M' : MM} (h : FN M M') (hp : PM M) : PM M' := fun t ht => by rw [h.2.2.1]; exact hp t ht
theorem ME_fn {M M' : MM} {onN bk : Nat} {mk : Nat → Nat → Prop} (h : FN M M') (hE : ME M onN bk mk) : ME M' onN bk mk := by
  unfold ME at hE ⊢
  rw [(h.2.1 83 (by decide) (by decide)).1, (h.2.1 85 (by decide) (by decide)).1, (h.2.1 86 (by decide) (by decide)).1, (h.2.1 87 (by decide) (by decide)).1]
  exact hE
def MsF (M : MM) (kd v b0 g0 t : Nat) : Prop := mI M 82 19 = vI kd ∧ mI M 82 20 = vI v ∧ mI M 82 21 = vI b0 ∧ mI M 82 22 = vI g0 ∧ mI M 82 23 = vI t
theorem MsF_fr {S : Nat → Prop} {M M' : MM} {kd v b0 g0 t : Nat} (h : FM S M M') (h82 : ¬ S 82) (hS : MsF M kd v b0 g0 t) : MsF M' kd v b0 g0 t := by
  unfold MsF at hS ⊢
  rw [h.i h82]; exact hS
def NowC (M : MM) (V W : Nat → Nat → Nat → Nat) : Prop :=
  (∀ c f w : Nat, vld c f w → mI M 90 (phi c f w) = vI (V c f w)) ∧ (∀ k : Nat, k < 5184 → (∀ c f w : Nat, vld c f w → ¬ k = phi c f w) → mI M 90 k = 0) ∧
  (∀ c f w : Nat, vld c f w → ¬ V c f w = 0 → mL M 92 (phi c f w) = vL (W c f w)) ∧ (∀ c f w : Nat, vld c f w → V c f w = 0 → W c f w = 0) ∧ (∀ c f w : Nat, vld c f w → V c f w < 128)
theorem NowC_fr {S : Nat → Prop} {M M' : MM} {V W : Nat → Nat → Nat → Nat} (h : FM S M M') (h90 : ¬ S 90) (h92 : ¬ S 92) (hN : NowC M V W) : NowC M' V W := by
  unfold NowC at hN ⊢
  rw [h.i h90, h.l h92]; exact hN
section Goes
variable {d : Nat} {M : MM} {Q : Option Value → MM → Prop} {onN bk : Nat} {mk : Nat → Nat → Prop} {kd v b0 g0 t : Nat}
theorem m_gb17 (bt : Int32) : ∀ n i : Nat, i + n = 5184 → ∀ M : MM, PM M → (∀ j : Nat, j < i → mI M 91 j = 0 ∧ mL M 93 j = 0) →
    (∀ M' : MM, FM S93 M M' → (∀ j : Nat, j < 5184 → mI M' 91 j = 0 ∧ mL M' 93 j = 0) → WP (d + 1) kX11_goesBeat (46, [.ref 82, .int bt, .int 0, dm, dm, dm, dm, dm, dm, dm], [], M') Q) →
    WP (d + 1) kX11_goesBeat (17, [.ref 82, .int bt, .int (vI i), dm, dm, dm, dm, dm, dm, dm], [], M) Q := by
  intro n
  induction n with
  | zero =>
    intro i hi M hp h0 h
    obtain rfl : i = 5184 := by omega
    rw [gX11_goesBeat_17, if_neg (by decide)]
    exact h M (FM.refl _ _) h0
  | succ n ih =>
    intro i hi M hp h0 h
    rw [gX11_goesBeat_17, if_pos (show vI i < 5184 by rw [lt_nl (by omega) (by decide)]; omega)]
    simp (disch := omega) only [ty_82, pm_16 hp, pm_18 hp, ty_91, ty_93, inb_n, vI_cl, add_nl, true_and, and_true, Option.some.injEq, exists_eq_left']
    refine ⟨by omega, by omega, ?_⟩
    have hF : FM S93 M (sL (sI M 91 i 0) 93 i 0) := FM.trans (fr_sI (Or.inl rfl)) (fr_sL (Or.inr rfl))
    refine ih (i + 1) (by omega) _ (PM_fr hF (by unfold S93; omega) hp) (fun j hj => ?_) (fun M' h1 h2 => h M' (hF.trans h1) h2)
    by_cases e : j = i
    · subst e
      exact ⟨aI_sI _ _ _ _, aL_sL _ _ _ _⟩
    · refine ⟨?_, ?_⟩
      · show mI (sI M 91 i 0) 91 j = 0
        rw [bI_sI e]; exact (h0 j (by omega)).1
      · rw [bL_sL e]; exact (h0 j (by omega)).2
def S92 (a : Nat) : Prop := a = 90 ∨ a = 92
theorem m_gb266 (bt : Int32) (l3 l4 l5 l6 l7 l8 l9 : Value) (X : Nat → Int32) (Y : Nat → Int64) : ∀ n i : Nat, i + n = 5184 → ∀ M : MM, PM M → (∀ j : Nat, j < 5184 → mI M 91 j = X j ∧ mL M 93 j = Y j) → (∀ j : Nat, j < i → mI M 90 j = X j ∧ mL M 92 j = Y j) →
    (∀ M' : MM, FM S92 M M' → (∀ j : Nat, j < 5184 → mI M' 90 j = X j ∧ mL M' 92 j = Y j) → Q none (sI M' 82 23 ((mI M' 82 23) + 1))) →
    WP (d + 1) kX11_goesBeat (266, [.ref 82, .int bt, .int (vI i), l3, l4, l5, l6, l7, l8, l9], [], M) Q := by
  intro n
  induction n with
  | zero =>
    intro i hi M hp h1 h0 h
    obtain rfl : i = 5184 := by omega
    rw [gX11_goesBeat_266, if_neg (by decide)]
    exact ⟨by simp only [ty_82], h M (FM.refl _ _) h0⟩
  | succ n ih =>
    intro i hi M hp h1 h0 h
    have hi2 : i < 5184 := by omega
    rw [gX11_goesBeat_266, if_pos (show vI i < 5184 by rw [lt_nl (by omega) (by decide)]; omega)]
    simp (disch := omega) only [ty_82, pm_15 hp, pm_16 hp, pm_17 hp, pm_18 hp, ty_90, ty_91, ty_92, ty_93, inb_n, vI_cl, add_nl, true_and, and_true, Option.some.injEq, exists_eq_left']
    refine ⟨hi2, hi2, hi2, hi2, ?_⟩
    have hF : FM S92 M (sL (sI M 90 i (mI M 91 i)) 92 i (mL (sI M 90 i (mI M 91 i)) 93 i)) := FM.trans (fr_sI (Or.inl rfl)) (fr_sL (Or.inr rfl))
    refine ih (i + 1) (by omega) _ (PM_fr hF (by unfold S92; omega) hp) (fun j hj => ?_) (fun j hj => ?_) (fun M' g1 g2 => h M' (hF.trans g1) g2)
    · rw [hF.i (by unfold S92; omega), hF.l (by unfold S92; omega)]; exact h1 j hj
    · by_cases e : j = i
      · subst e
        refine ⟨?_, ?_⟩
        · show mI (sI M 90 j (mI M 91 j)) 90 j = X j
          rw [aI_sI]; exact (h1 j hi2).1
        · rw [aL_sL]; exact (h1 j hi2).2
      · refine ⟨?_, ?_⟩
        · show mI (sI M 90 i (mI M 91 i)) 90 j = X j
          rw [bI_sI e]; exact (h0 j (by omega)).1
        · rw [bL_sL e]; exact (h0 j (by omega)).2
/-- what stands at place j, once the states below place i have gone -/
def Fi (mk : Nat → Nat → Prop) (kd v : Nat) (on : Prop) (gn : Nat) (V : Nat → Nat → Nat → Nat) (K : Nat → Nat → Nat → Nat → Nat → Prop) (i j b : Nat) : Prop :=
  ∃ c f w a : Nat, vld c f w ∧ phi c f w < i ∧ a < 6 ∧ ¬ V c f w = 0 ∧ may mk kd v on gn c f w a ∧ phi (tc kd c f w a) (tf f a) (tw kd f w a) = j ∧ K c f w a b
theorem m_gb46 (hkd : kd < 7) (hv : v < 10) (hB : bnL onN bk) {b : Nat} (hb : b < 8) (hg : g0 + t < 1000) {V W : Nat → Nat → Nat → Nat} {K : Nat → Nat → Nat → Nat → Nat → Prop}
    (hk : ∀ c f w : Nat, vld c f w → ¬ V c f w = 0 → ∀ a : Nat, a < 6 → (if vI (V c f w) = 64 then iShl 1 (vI a) else vI (V c f w)) = vI (mb (K c f w a) 6)) :
    ∀ n i : Nat, i + n = 5184 → ∀ (M : MM) (l3 l4 l5 l6 l7 l8 l9 : Value), PM M → ME M onN bk mk → MsF M kd v b0 g0 t → NowC M V W →
    (∀ j : Nat, j < 5184 → mI M 91 j = vI (mb (Fi mk kd v (b < onN) (g0 + t) V K i j) 6) ∧ mL M 93 j = vL (sumN i (wtI mk kd v (b < onN) (g0 + t) W j))) →
    (∀ (M' : MM) (l3 l4 l5 l6 l7 l8 l9 : Value), FM S93 M M' → (∀ j : Nat, j < 5184 → mI M' 91 j = vI (mb (Fi mk kd v (b < onN) (g0 + t) V K 5184 j) 6) ∧ mL M' 93 j = vL (sumN 5184 (wtI mk kd v (b < onN) (g0 + t) W j))) → WP (d + 4) kX11_goesBeat (266, [.ref 82, .int (vI b), .int 0, l3, l4, l5, l6, l7, l8, l9], [], M') Q) →
    WP (d + 4) kX11_goesBeat (46, [.ref 82, .int (vI b), .int (vI i), l3, l4, l5, l6, l7, l8, l9], [], M) Q := by
  intro n
  induction n with
  | zero =>
    intro i hi M l3 l4 l5 l6 l7 l8 l9 hp hE hS hN hC h
    obtain rfl : i = 5184 := by omega
    rw [gX11_goesBeat_46, if_neg (by decide)]
    exact h M _ _ _ _ _ _ _ (FM.refl _ _) hC
  | succ n ih =>
    intro i hi M l3 l4 l5 l6 l7 l8 l9 hp hE hS hN hC h
    have hi2 : i < 5184 := by omega
    obtain ⟨N1, N2, N3, N4, N5⟩ := id hN
    obtain ⟨h19, h20, h21, h22, h23⟩ := id hS
    rw [gX11_goesBeat_46, if_pos (show vI i < 5184 by rw [lt_nl (by omega) (by decide)]; omega)]
    simp (disch := omega) only [ty_82, pm_15 hp, ty_90, inb_n, vI_cl, true_and, and_true, Option.some.injEq, exists_eq_left']
    refine ⟨hi2, ?_⟩
    by_cases hl : ∃ c f w : Nat, vld c f w ∧ i = phi c f w ∧ ¬ V c f w = 0
    · obtain ⟨c, f, w, hvl, rfl, hV0⟩ := hl
      have hV := N5 c f w hvl
      rw [N1 c f w hvl, if_neg (by rw [eq_nl (by omega) (by decide)]; exact hV0), h19, h20, h22, h23, vI_add, div_nl (by omega) (by decide), div_nl (by omega) (by decide), rem_nl (by omega) (by decide), rem_nl (by omega) (by decide), phi_c hvl, phi_f hvl, phi_w hvl]
      rw [m_mayBy hp hE ⟨hkd, hv, hb, hg⟩ hB hvl.1 hvl.2.1 hvl.2.2.1 hvl.2.2.2]
      simp only [Option.toList_some, Option.toList_none, List.cons_append, List.nil_append]
      rw [gX11_goesBeat_113]
      refine m_gb118 hkd hvl hV (hk c f w hvl hV0) (Fi mk kd v (b < onN) (g0 + t) V K (phi c f w)) (fun j => sumN (phi c f w) (wtI mk kd v (b < onN) (g0 + t) W j)) (vI b) 6 0 rfl M l8 l9 hp h19 (N1 c f w hvl) (N3 c f w hvl hV0) (fun j hj => ?_) (fun j hj => ?_) (fun M' l7 l8 l9 hF g1 g2 => ?_)
      · rw [(hC j hj).1]
        refine congrArg vI (mb_congr 6 fun y _ => ?_)
        exact ⟨Or.inl, fun g => g.elim id (fun ⟨x, hx, _⟩ => absurd hx (Nat.not_lt_zero x))⟩
      · rw [(hC j hj).2]
        rfl
      · refine ih (phi c f w + 1) (by omega) M' _ _ _ _ _ _ _ (PM_fr hF (by unfold S93; omega) hp) (ME_fr hF (by unfold S93; omega) hE) (MsF_fr hF (by unfold S93; omega) hS) (NowC_fr hF (by unfold S93; omega) (by unfold S93; omega) hN) (fun j hj => ⟨?_, ?_⟩) (fun M2 l3 l4 l5 l6 l7 l8 l9 q1 q2 => h M2 l3 l4 l5 l6 l7 l8 l9 (hF.trans q1) q2)
        · rw [g1 j hj]
          refine congrArg vI (mb_congr 6 fun y _ => ?_)
          constructor
          · rintro (⟨c1, f1, w1, a, q1, q2, q3⟩ | ⟨x, q1, q2, q3, q4⟩)
            · exact ⟨c1, f1, w1, a, q1, by omega, q3⟩
            · exact ⟨c, f, w, x, hvl, by omega, q1, hV0, q2, q3, q4⟩
          · rintro ⟨c1, f1, w1, a, q1, q2, q3, q4, q5, q6, q7⟩
            by_cases e : phi c1 f1 w1 = phi c f w
            · obtain ⟨rfl, rfl, rfl⟩ := phi_inj q1 hvl e
              exact Or.inr ⟨a, q3, q5, q6, q7⟩
            · exact Or.inl ⟨c1, f1, w1, a, q1, by omega, q3, q4, q5, q6, q7⟩
        · rw [g2 j hj, sumN, wtI_phi hvl]
    · have e0 : mI M 90 i = 0 := by
        by_cases him : ∃ c f w : Nat, vld c f w ∧ i = phi c f w
        · obtain ⟨c, f, w, hvl, rfl⟩ := him
          have : V c f w = 0 := Classical.byContradiction fun hne => hl ⟨c, f, w, hvl, rfl, hne⟩
          rw [N1 c f w hvl, this]; rfl
        · exact N2 i hi2 (fun c f w hvl he => him ⟨c, f, w, hvl, he⟩)
      rw [if_pos e0, add_nl]
      refine ih (i + 1) (by omega) M _ _ _ _ _ _ _ hp hE hS hN (fun j hj => ⟨?_, ?_⟩) h
      · rw [(hC j hj).1]
        refine congrArg vI (mb_congr 6 fun y _ => ?_)
        constructor
        · rintro ⟨c1, f1, w1, a, q1, q2, q3⟩
          exact ⟨c1, f1, w1, a, q1, by omega, q3⟩
        · rintro ⟨c1, f1, w1, a, q1, q2, q3, q4, q5⟩
          refine ⟨c1, f1, w1, a, q1, ?_, q3, q4, q5⟩
          have : ¬ phi c1 f1 w1 = i := fun he => hl ⟨c1, f1, w1, q1, he.symm, q4⟩
          omega
      · rw [(hC j hj).2, sumN, wtI_0 hi2 (fun c f w hvl he => N4 c f w hvl (Classical.byContradiction fun hne => hl ⟨c, f, w, hvl, he, hne⟩)), Nat.add_zero]
theorem m_goesBeat (hkd : kd < 7) (hv : v < 10) (hB : bnL onN bk) (hb0 : b0 < 1000) (hg : g0 + t < 1000) (ht : t < 1000) {V W : Nat → Nat → Nat → Nat} {K : Nat → Nat → Nat → Nat → Nat → Prop}
    (hk : ∀ c f w : Nat, vld c f w → ¬ V c f w = 0 → ∀ a : Nat, a < 6 → (if vI (V c f w) = 64 then iShl 1 (vI a) else vI (V c f w)) = vI (mb (K c f w a) 6))
    (hp : PM M) (hE : ME M onN bk mk) (hS : MsF M kd v b0 g0 t) (hN : NowC M V W)
    (h : ∀ M' : MM, FN M M' → MsF M' kd v b0 g0 (t + 1) → NowC M' (fun c f w => mb (Fi mk kd v ((b0 + t) % (onN + bk) < onN) (g0 + t) V K 5184 (phi c f w)) 6) (fun c f w => sumN 5184 (wtI mk kd v ((b0 + t) % (onN + bk) < onN) (g0 + t) W (phi c f w))) → (∀ j : Nat, j < 5184 → mL M' 92 j = vL (sumN 5184 (wtI mk kd v ((b0 + t) % (onN + bk) < onN) (g0 + t) W j))) → Q none M') :
    CL (d + 4) kX11_goesBeat [.ref 82] M Q := by
  obtain ⟨h19, h20, h21, h22, h23⟩ := id hS
  obtain ⟨b1, b2, b3, b4⟩ := id hB
  have hb : (b0 + t) % (onN + bk) < 8 := Nat.lt_of_lt_of_le (Nat.mod_lt _ (by omega)) (by omega)
  rw [eX11_goesBeat, m_beats hp hE, h21, h23, vI_add]
  simp only [ty_82, true_and, Option.toList_some, Option.toList_none, List.cons_append, List.nil_append]
  rw [gX11_goesBeat_13, vI_rem (by omega) (by omega)]
  refine ⟨by rw [eq_nl (by omega) (by decide)]; omega, ?_⟩
  refine m_gb17 (vI ((b0 + t) % (onN + bk))) 5184 0 rfl M hp (fun j hj => absurd hj (Nat.not_lt_zero j)) (fun M1 hF1 h01 => ?_)
  have hp1 := PM_fr hF1 (by unfold S93; omega) hp
  have hS1 := MsF_fr hF1 (by unfold S93; omega) hS
  refine m_gb46 hkd hv hB hb hg hk 5184 0 rfl M1 _ _ _ _ _ _ _ hp1 (ME_fr hF1 (by unfold S93; omega) hE) hS1 (NowC_fr hF1 (by unfold S93; omega) (by unfold S93; omega) hN) (fun j hj => ?_) (fun M2 l3 l4 l5 l6 l7 l8 l9 hF2 h12 => ?_)
  · rw [(h01 j hj).1, (h01 j hj).2]
    refine ⟨?_, rfl⟩
    have e : mb (Fi mk kd v ((b0 + t) % (onN + bk) < onN) (g0 + t) V K 0 j) 6 = 0 := by
      have hz : ∀ n : Nat, mb (Fi mk kd v ((b0 + t) % (onN + bk) < onN) (g0 + t) V K 0 j) n = 0 := by
        intro n
        induction n with
        | zero => rfl
        | succ n ih =>
          rw [mb_no _ (fun hf => ?_), ih]
          obtain ⟨c, f, w, a, -, q, -⟩ := hf
          exact absurd q (Nat.not_lt_zero _)
      exact hz 6
    rw [e]; rfl
  have hp2 := PM_fr hF2 (by unfold S93; omega) hp1
  have hS2 := MsF_fr hF2 (by unfold S93; omega) hS1
  refine m_gb266 _ l3 l4 l5 l6 l7 l8 l9 _ _ 5184 0 rfl M2 hp2 h12 (fun j hj => absurd hj (Nat.not_lt_zero j)) (fun M3 hF3 h3 => ?_)
  have hS3 := MsF_fr hF3 (by unfold S92; omega) hS2
  rw [hS3.2.2.2.2, add_nl]
  have hF4 : FN M3 (sI M3 82 23 (vI (t + 1))) := FN.s82 (by decide)
  have hFN : FN M (sI M3 82 23 (vI (t + 1))) := ((FN.of hF1 (by unfold S93; omega)).trans (FN.of hF2 (by unfold S93; omega))).trans ((FN.of hF3 (by unfold S92; omega)).trans hF4)
  refine h _ hFN ?_ ⟨?_, ?_, ?_, ?_, ?_⟩ (fun j hj => (h3 j hj).2)
  · obtain ⟨u1, u2, u3, u4, u5⟩ := hS3
    refine ⟨?_, ?_, ?_, ?_, aI_sI _ _ _ _⟩
    · rw [bI_sI (by decide)]; exact u1
    · rw [bI_sI (by decide)]; exact u2
    · rw [bI_sI (by decide)]; exact u3
    · rw [bI_sI (by decide)]; exact u4
  · intro c f w hvl
    rw [rI_sI (by decide)]
    exact (h3 _ (phi_lt hvl)).1
  · intro k hk5 hno
    rw [rI_sI (by decide), (h3 k hk5).1]
    have e : mb (Fi mk kd v ((b0 + t) % (onN + bk) < onN) (g0 + t) V K 5184 k) 6 = 0 := by
      have hz : ∀ n : Nat, mb (Fi mk kd v ((b0 + t) % (onN + bk) < onN) (g0 + t) V K 5184 k) n = 0 := by
        intro n
        induction n with
        | zero => rfl
        | succ n ih =>
          rw [mb_no _ (fun hf => ?_), ih]
          obtain ⟨c, f, w, a, q1, q2, q3, q4, q5, q6, q7⟩ := hf
          exact hno _ _ _ (tgt_vld q1 q5) q6.symm
      exact hz 6
    rw [e]; rfl
  · intro c f w hvl _
    exact (h3 _ (phi_lt hvl)).2
  · intro c f w hvl h0
    replace h0 : mb (Fi mk kd v ((b0 + t) % (onN + bk) < onN) (g0 + t) V K 5184 (phi c f w)) 6 = 0 := h0
    refine sumN_0 5184 (fun i hi => ?_)
    by_cases hl : ∃ c1 f1 w1 : Nat, vld c1 f1 w1 ∧ i = phi c1 f1 w1 ∧ ¬ V c1 f1 w1 = 0
    · obtain ⟨c1, f1, w1, hv1, rfl, hV1⟩ := hl
      rw [wtI_phi hv1]
      refine sumN_0 6 (fun a ha => ?_)
      rw [eB_f (fun hq => ?_), Nat.zero_mul]
      have hK1 : ∃ y : Nat, y < 6 ∧ K c1 f1 w1 a y := by
        refine Classical.byContradiction fun hne => ?_
        have hz : ∀ n : Nat, n ≤ 6 → mb (K c1 f1 w1 a) n = 0 := by
          intro n
          induction n with
          | zero => intro _; rfl
          | succ n ih => intro hn; rw [mb_no _ (fun hf => hne ⟨n, by omega, hf⟩), ih (by omega)]
        have hk1 := hk c1 f1 w1 hv1 hV1 a ha
        rw [hz 6 (by decide)] at hk1
        have h128 := hN.2.2.2.2 c1 f1 w1 hv1
        by_cases h64 : vI (V c1 f1 w1) = 64
        · rw [if_pos h64] at hk1
          have hd : ∀ a : Nat, a < 6 → ¬ iShl 1 (vI a) = vI 0 := by decide +kernel
          exact hd a ha hk1
        · rw [if_neg h64, vI_inj (by omega) (by decide)] at hk1
          exact hV1 hk1
      obtain ⟨y, hy, hKy⟩ := hK1
      have hb1 := mb6_bit (Fi mk kd v ((b0 + t) % (onN + bk) < onN) (g0 + t) V K 5184 (phi c f w)) hy
      rw [h0, eB_t (show Fi mk kd v ((b0 + t) % (onN + bk) < onN) (g0 + t) V K 5184 (phi c f w) y from ⟨c1, f1, w1, a, hv1, phi_lt hv1, ha, hV1, hq.1, hq.2, hKy⟩), Nat.zero_div] at hb1
      exact absurd hb1 (by decide)
    · exact wtI_0 hi (fun c1 f1 w1 hv1 he => hN.2.2.2.1 c1 f1 w1 hv1 (Classical.byContradiction fun hne => hl ⟨c1, f1, w1, hv1, he, hne⟩))
  · intro c f w _
    have := mb_lt64 (Fi mk kd v ((b0 + t) % (onN + bk) < onN) (g0 + t) V K 5184 (phi c f w))
    show mb _ 6 < 128
    omega
end Goes
