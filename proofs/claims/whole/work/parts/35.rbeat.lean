/-! ===== 35: the reference goes a beat ===== -/
def phi (c f w : Nat) : Nat := (c * 4 + f) * 36 + nxc c w
def vld (c f w : Nat) : Prop := c < 36 ∧ f < 4 ∧ w < 5 ∧ ok c w
theorem vld_nx {c f w : Nat} (h : vld c f w) : nxc c w < 36 := nx_lt h.1 h.2.2.1 h.2.2.2
theorem phi_lt {c f w : Nat} (h : vld c f w) : phi c f w < 5184 := by
  have h1 := vld_nx h
  obtain ⟨h2, h3, -⟩ := h
  unfold phi; omega
theorem phi_c {c f w : Nat} (h : vld c f w) : phi c f w / 36 / 4 = c := by
  have h1 := vld_nx h
  obtain ⟨h2, h3, -⟩ := h
  unfold phi; omega
theorem phi_f {c f w : Nat} (h : vld c f w) : phi c f w / 36 % 4 = f := by
  have h1 := vld_nx h
  obtain ⟨h2, h3, -⟩ := h
  unfold phi; omega
theorem phi_w {c f w : Nat} (h : vld c f w) : phi c f w % 36 = nxc c w := by
  have h1 := vld_nx h
  obtain ⟨h2, h3, -⟩ := h
  unfold phi; omega
theorem phi_inj {c f w c2 f2 w2 : Nat} (h : vld c f w) (h2 : vld c2 f2 w2) (e : phi c f w = phi c2 f2 w2) : c = c2 ∧ f = f2 ∧ w = w2 := by
  have e1 := phi_c h
  have e2 := phi_f h
  have e3 := phi_w h
  rw [e] at e1 e2 e3
  rw [phi_c h2] at e1
  rw [phi_f h2] at e2
  rw [phi_w h2] at e3
  subst e1
  exact ⟨rfl, e2.symm, (nx_inj h.1 h2.2.2.1 h.2.2.1 h2.2.2.2 h.2.2.2 e3).symm⟩
theorem tgt_vld {mk : Nat → Nat → Prop} {kd v gn c f w a : Nat} {on : Prop} (h : vld c f w) (hm : may mk kd v on gn c f w a) : vld (tc kd c f w a) (tf f a) (tw kd f w a) :=
  ⟨tc_lt h.1 h.2.1 h.2.2.1 hm, tf_lt h.2.1, tw_lt h.2.1 h.2.2.1, tgt_ok h.1 h.2.1 h.2.2.1 h.2.2.2 hm⟩
def sumN : Nat → (Nat → Nat) → Nat
  | 0, _ => 0
  | n + 1, g => sumN n g + g n
theorem sumN_congr {g g2 : Nat → Nat} : ∀ n : Nat, (∀ i : Nat, i < n → g i = g2 i) → sumN n g = sumN n g2
  | 0, _ => rfl
  | n + 1, h => by rw [sumN, sumN, sumN_congr n (fun i hi => h i (by omega)), h n (by omega)]
theorem sumN_0 {g : Nat → Nat} : ∀ n : Nat, (∀ i : Nat, i < n → g i = 0) → sumN n g = 0
  | 0, _ => rfl
  | n + 1, h => by rw [sumN, sumN_0 n (fun i hi => h i (by omega)), h n (by omega)]
/-- one number alone counts -/
theorem sumN_one {g : Nat → Nat} : ∀ n k : Nat, k < n → (∀ i : Nat, i < n → ¬ i = k → g i = 0) → sumN n g = g k
  | 0, k, h, _ => absurd h (Nat.not_lt_zero k)
  | n + 1, k, hk, h => by
    rw [sumN]
    by_cases e : k = n
    · subst e
      rw [sumN_0 k (fun i hi => h i (by omega) (by omega)), Nat.zero_add]
    · rw [sumN_one n k (by omega) (fun i hi => h i (by omega)), h n (by omega) (fun h2 => e h2.symm), Nat.add_zero]
noncomputable def wys (mk : Nat → Nat → Prop) (kd v : Nat) (on : Prop) (gn c f w : Nat) : Nat := sumN 6 (fun a => eB (may mk kd v on gn c f w a))
/-- what goes from a state to place j -/
noncomputable def wtS (mk : Nat → Nat → Prop) (kd v : Nat) (on : Prop) (gn : Nat) (W : Nat → Nat → Nat → Nat) (j c f w n : Nat) : Nat :=
  sumN n (fun a => eB (may mk kd v on gn c f w a ∧ phi (tc kd c f w a) (tf f a) (tw kd f w a) = j) * (W c f w * (60 / wys mk kd v on gn c f w)))
/-- what goes from place i to place j -/
noncomputable def wtI (mk : Nat → Nat → Prop) (kd v : Nat) (on : Prop) (gn : Nat) (W : Nat → Nat → Nat → Nat) (j i : Nat) : Nat :=
  sumN 5 (fun w => eB (ok (i / 36 / 4) w ∧ nxc (i / 36 / 4) w = i % 36) * wtS mk kd v on gn W j (i / 36 / 4) (i / 36 % 4) w 6)
theorem wtI_phi {mk : Nat → Nat → Prop} {kd v gn j c f w : Nat} {on : Prop} {W : Nat → Nat → Nat → Nat} (h : vld c f w) : wtI mk kd v on gn W j (phi c f w) = wtS mk kd v on gn W j c f w 6 := by
  unfold wtI
  rw [phi_c h, phi_f h, phi_w h, sumN_one 5 w h.2.2.1 (fun i hi hne => ?_)]
  · rw [eB_t ⟨h.2.2.2, rfl⟩, Nat.one_mul]
  · rw [eB_f (fun h2 => hne (nx_inj h.1 hi h.2.2.1 h2.1 h.2.2.2 h2.2)), Nat.zero_mul]
theorem wtS_0 {mk : Nat → Nat → Prop} {kd v gn j c f w : Nat} {on : Prop} {W : Nat → Nat → Nat → Nat} (h : W c f w = 0) : wtS mk kd v on gn W j c f w 6 = 0 := by
  unfold wtS
  exact sumN_0 6 (fun a _ => by rw [h, Nat.zero_mul, Nat.mul_zero])
theorem wtI_0 {mk : Nat → Nat → Prop} {kd v gn j i : Nat} {on : Prop} {W : Nat → Nat → Nat → Nat} (hi : i < 5184) (h : ∀ c f w : Nat, vld c f w → i = phi c f w → W c f w = 0) : wtI mk kd v on gn W j i = 0 := by
  unfold wtI
  refine sumN_0 5 (fun w hw => ?_)
  by_cases e : ok (i / 36 / 4) w ∧ nxc (i / 36 / 4) w = i % 36
  · rw [wtS_0 (h _ _ w ⟨by omega, by omega, hw, e.1⟩ (by unfold phi; omega)), Nat.mul_zero]
  · rw [eB_f e, Nat.zero_mul]
/- the number of bits -/
def pop : Nat → Nat → Nat
  | 0, _ => 0
  | n + 1, y => y % 2 + pop n (y / 2)
theorem bits_dec : ∀ y : Nat, y < 64 → (vI y &&& 1) = vI (y % 2) ∧ iShr (vI y) 1 = vI (y / 2) := by decide +kernel
theorem pop_0 : ∀ n : Nat, pop n 0 = 0
  | 0 => rfl
  | n + 1 => by rw [pop]; show 0 % 2 + pop n (0 / 2) = 0; rw [Nat.zero_mod, Nat.zero_div, pop_0 n]
theorem orr_dec : ∀ y : Nat, y < 64 → ∀ z : Nat, z < 64 → vI y ||| vI z = vI (y ||| z) := by decide +kernel
theorem mb6_tb (p : Nat → Prop) (i : Nat) : (mb p 6).testBit i = pB (i < 6 ∧ p i) := by
  rw [Nat.testBit_eq_decide_div_mod_eq]
  by_cases hi : i < 6
  · rw [mb6_bit p hi]
    by_cases h : p i
    · rw [eB_t h, pB_T ⟨hi, h⟩]; rfl
    · rw [eB_f h, pB_F (fun h2 => h h2.2)]; rfl
  · have h1 := mb_lt64 p
    have h2 : 2 ^ 6 ≤ 2 ^ i := Nat.pow_le_pow_right (by decide) (by omega)
    rw [Nat.div_eq_of_lt (by omega), pB_F (fun h2 => hi h2.1)]; rfl
theorem mb_orr (p q : Nat → Prop) : vI (mb p 6) ||| vI (mb q 6) = vI (mb (fun b => p b ∨ q b) 6) := by
  rw [orr_dec _ (mb_lt64 p) _ (mb_lt64 q)]
  refine congrArg vI (Nat.eq_of_testBit_eq fun i => ?_)
  rw [Nat.testBit_or, mb6_tb, mb6_tb, mb6_tb]
  by_cases hi : i < 6
  · by_cases h1 : p i
    · have e1 : pB (i < 6 ∧ p i) = true := pB_T ⟨hi, h1⟩
      rw [e1, Bool.true_or]
      exact (pB_T ⟨hi, Or.inl h1⟩).symm
    · have e1 : pB (i < 6 ∧ p i) = false := pB_F (fun h => h1 h.2)
      rw [e1, Bool.false_or]
      exact pB_congr ⟨fun h => ⟨hi, Or.inr h.2⟩, fun h => ⟨hi, h.2.resolve_left h1⟩⟩
  · rw [pB_F (fun h => hi h.1), pB_F (fun h => hi h.1), pB_F (fun h => hi h.1)]; rfl
section Beat
variable {d : Nat} {M : MM} {Q : Option Value → MM → Prop} {onN bk : Nat} {mk : Nat → Nat → Prop} {kd v gn : Nat}
theorem m_bits_loop (z : Int32) : ∀ n y acc : Nat, y < 2 ^ n → n ≤ 6 → WP d kX11_bits (4, [.int z, .int (vI acc), .int (vI y)], [], M) Q = Q (some (.int (vI (acc + pop n y)))) M := by
  intro n
  induction n with
  | zero =>
    intro y acc hy hn
    obtain rfl : y = 0 := by
      have : 2 ^ 0 = 1 := rfl
      omega
    rw [gX11_bits_4, if_neg (by decide)]; rfl
  | succ n ih =>
    intro y acc hy hn
    have h64 : 2 ^ (n + 1) ≤ 2 ^ 6 := Nat.pow_le_pow_right (by decide) (by omega)
    have hp2 : 2 ^ (n + 1) = 2 ^ n * 2 := Nat.pow_succ 2 n
    have hb := bits_dec y (by omega)
    rw [gX11_bits_4]
    by_cases h : 0 < y
    · rw [if_pos (show (0 : Int32) < vI y by rw [lt_ln (by omega) (by decide)]; exact h), hb.1, hb.2, vI_add, ih (y / 2) _ (by omega) (by omega), pop, Nat.add_assoc]
    · obtain rfl : y = 0 := by omega
      rw [if_neg (by decide), pop_0, Nat.add_zero]
theorem m_bits (p : Nat → Prop) : CL d kX11_bits [.int (vI (mb p 6))] M Q = Q (some (.int (vI (sumN 6 (fun a => eB (p a)))))) M := by
  have h := m_bits_loop (d := d) (M := M) (Q := Q) (vI (mb p 6)) 6 (mb p 6) 0 (mb_lt64 p) (by decide)
  rw [eX11_bits]
  refine h.trans (qI (congrArg vI ?_))
  have h0 := eB_le (p 0)
  have h1 := eB_le (p 1)
  have h2 := eB_le (p 2)
  have h3 := eB_le (p 3)
  have h4 := eB_le (p 4)
  have h5 := eB_le (p 5)
  simp only [pop, sumN]
  rw [mb6]
  omega
theorem m_comesTo {on : Prop} {c f w a : Nat} (z : Int32) (h : vld c f w) (ha : a < 6) (hm : may mk kd v on gn c f w a) : CL (d + 1) kX11_comesTo [.int (vI (phi c f w)), .int z, .int (vI a), .int (vI (tc kd c f w a))] M Q = Q (some (.int (vI (phi (tc kd c f w a) (tf f a) (tw kd f w a))))) M := by
  have h1 := phi_lt h
  have hy := wy_lt (kd := kd) (a := a) h.2.1 h.2.2.1
  have e : ¬ a = 5 → nxc (tc kd c f w a) (tw kd f w a) = c := fun h5 => by
    unfold tc tw
    rw [if_neg h5, nx_rv h.1 hy (may_ok hm)]
  rw [eX11_comesTo]
  simp only [eX11_stateOf]
  rw [div_nl (by omega) (by decide), div_nl (by omega) (by decide), rem_nl (by omega) (by decide), phi_c h, phi_f h]
  by_cases h4 : a < 4
  · rw [if_pos (show vI a < 4 by rw [lt_nl (by omega) (by decide)]; exact h4)]
    simp only [Option.toList_some, Option.toList_none, List.cons_append, List.nil_append]
    rw [gX11_comesTo_28, mul_nl, vI_add, mul_nl, vI_add]
    unfold phi
    rw [e (by omega), show tf f a = a from if_pos h4]
  · rw [if_neg (show ¬ vI a < 4 by rw [lt_nl (by omega) (by decide)]; exact h4)]
    by_cases h5 : a = 4
    · subst h5
      rw [if_pos (by decide)]
      simp only [Option.toList_some, Option.toList_none, List.cons_append, List.nil_append]
      rw [gX11_comesTo_44, mul_nl, vI_add, mul_nl, vI_add]
      unfold phi
      rw [e (by decide)]; rfl
    · obtain rfl : a = 5 := by omega
      rw [if_neg (by decide)]; rfl
theorem PM_fr {S : Nat → Prop} {M' : MM} (h : FM S M M') (h82 : ¬ S 82) (hp : PM M) : PM M' := fun t ht => by rw [h.r h82]; exact hp t ht
theorem ME_fr {S : Nat → Prop} {M' : MM} (h : FM S M M') (hs : ∀ a : Nat, 83 ≤ a → a ≤ 87 → ¬ S a) (hE : ME M onN bk mk) : ME M' onN bk mk := by
  unfold ME at hE ⊢
  rw [h.i (hs 83 (by decide) (by decide)), h.i (hs 85 (by decide) (by decide)), h.i (hs 86 (by decide) (by decide)), h.i (hs 87 (by decide) (by decide))]
  exact hE
def S93 (a : Nat) : Prop := a = 91 ∨ a = 93
/-- the step loop of one state -/
theorem m_gb118 (hkd : kd < 7) {on : Prop} {V W : Nat → Nat → Nat → Nat} {K : Nat → Nat → Nat → Nat → Nat → Prop} {c f w : Nat} (h : vld c f w) (hV : V c f w < 128) (hk : ∀ a : Nat, a < 6 → (if vI (V c f w) = 64 then iShl 1 (vI a) else vI (V c f w)) = vI (mb (K c f w a) 6))
    (F0 : Nat → Nat → Prop) (S0 : Nat → Nat) (bt : Int32) :
    ∀ n a : Nat, a + n = 6 → ∀ (M : MM) (l8 l9 : Value), PM M → mI M 82 19 = vI kd → mI M 90 (phi c f w) = vI (V c f w) → mL M 92 (phi c f w) = vL (W c f w) →
    (∀ j : Nat, j < 5184 → mI M 91 j = vI (mb (fun b => F0 j b ∨ ∃ x : Nat, x < a ∧ may mk kd v on gn c f w x ∧ phi (tc kd c f w x) (tf f x) (tw kd f w x) = j ∧ K c f w x b) 6)) →
    (∀ j : Nat, j < 5184 → mL M 93 j = vL (S0 j + wtS mk kd v on gn W j c f w a)) →
    (∀ (M' : MM) (l7 l8 l9 : Value), FM S93 M M' →
      (∀ j : Nat, j < 5184 → mI M' 91 j = vI (mb (fun b => F0 j b ∨ ∃ x : Nat, x < 6 ∧ may mk kd v on gn c f w x ∧ phi (tc kd c f w x) (tf f x) (tw kd f w x) = j ∧ K c f w x b) 6)) →
      (∀ j : Nat, j < 5184 → mL M' 93 j = vL (S0 j + wtS mk kd v on gn W j c f w 6)) →
      WP (d + 4) kX11_goesBeat (46, [.ref 82, .int bt, .int (vI (phi c f w + 1)), .int (vI c), .int (vI f), .int (vI (nxc c w)), .int (vI (mb (may mk kd v on gn c f w) 6)), l7, l8, l9], [], M') Q) →
    WP (d + 4) kX11_goesBeat (118, [.ref 82, .int bt, .int (vI (phi c f w)), .int (vI c), .int (vI f), .int (vI (nxc c w)), .int (vI (mb (may mk kd v on gn c f w) 6)), .int (vI a), l8, l9], [], M) Q := by
  have hi := phi_lt h
  intro n
  induction n with
  | zero =>
    intro a ha M l8 l9 hp h19 h90 h92 h91 h93 hQ
    obtain rfl : a = 6 := by omega
    rw [gX11_goesBeat_118, if_neg (by decide), add_nl]
    exact hQ M _ _ _ (FM.refl _ _) h91 h93
  | succ n ih =>
    intro a ha M l8 l9 hp h19 h90 h92 h91 h93 hQ
    have ha6 : a < 6 := by omega
    rw [gX11_goesBeat_118, if_pos (show vI a < 6 by rw [lt_nl (by omega) (by decide)]; exact ha6)]
    by_cases hm : may mk kd v on gn c f w a
    · rw [if_neg (by rw [mb_bit0 _ ha6]; exact not_not_intro hm)]
      have hto : tc kd c f w a < 36 := tc_lt h.1 h.2.1 h.2.2.1 hm
      have htv := tgt_vld h hm
      have hr := phi_lt htv
      have key : ∀ l8 : Value, WP (d + 4) kX11_goesBeat (190, [.ref 82, .int bt, .int (vI (phi c f w)), .int (vI c), .int (vI f), .int (vI (nxc c w)), .int (vI (mb (may mk kd v on gn c f w) 6)), .int (vI a), .int (vI (tc kd c f w a)), l9], [.int (vI (phi (tc kd c f w a) (tf f a) (tw kd f w a)))], M) Q := by
        intro _
        have fin : ∀ z : Int32, z = vI (mb (K c f w a) 6) → CL (d + 3) kX11_bits [.int (vI (mb (may mk kd v on gn c f w) 6))] (sI M 91 (phi (tc kd c f w a) (tf f a) (tw kd f w a)) ((mI M 91 (phi (tc kd c f w a) (tf f a) (tw kd f w a))) ||| z)) (fun v_ M_ => WP (d + 4) kX11_goesBeat (247, [.ref 82, .int bt, .int (vI (phi c f w)), .int (vI c), .int (vI f), .int (vI (nxc c w)), .int (vI (mb (may mk kd v on gn c f w) 6)), .int (vI a), .int (vI (tc kd c f w a)), .int (vI (phi (tc kd c f w a) (tf f a) (tw kd f w a)))], v_.toList ++ [.int 60, .long (mL M 92 (phi c f w)), .long (mL M 93 (phi (tc kd c f w a) (tf f a) (tw kd f w a))), .int (vI (phi (tc kd c f w a) (tf f a) (tw kd f w a))), .ref 93], M_) Q) := by
          intro z hz
          have hwp : 0 < wys mk kd v on gn c f w := by
            have h1 : eB (may mk kd v on gn c f w a) = 1 := eB_t hm
            unfold wys
            simp only [sumN]
            have h6 : a = 0 ∨ a = 1 ∨ a = 2 ∨ a = 3 ∨ a = 4 ∨ a = 5 := by omega
            rcases h6 with rfl | rfl | rfl | rfl | rfl | rfl <;> omega
          have hwl : wys mk kd v on gn c f w ≤ 6 := by
            unfold wys
            simp only [sumN]
            have h0 := eB_le (may mk kd v on gn c f w 0)
            have h1 := eB_le (may mk kd v on gn c f w 1)
            have h2 := eB_le (may mk kd v on gn c f w 2)
            have h3 := eB_le (may mk kd v on gn c f w 3)
            have h4 := eB_le (may mk kd v on gn c f w 4)
            have h5 := eB_le (may mk kd v on gn c f w 5)
            omega
          rw [m_bits]
          simp only [Option.toList_some, Option.toList_none, List.cons_append, List.nil_append]
          rw [gX11_goesBeat_247, show sumN 6 (fun a => eB (may mk kd v on gn c f w a)) = wys mk kd v on gn c f w from rfl]
          have e60 : ((60 : Int32) / vI (wys mk kd v on gn c f w)).toInt64 = vL (60 / wys mk kd v on gn c f w) := by
            have h1 : 60 / wys mk kd v on gn c f w ≤ 60 := Nat.div_le_self _ _
            rw [show (60 : Int32) = vI 60 from rfl, vI_div (by decide) (by omega), toL_vI (by omega)]
          refine ⟨by rw [eq_nl (by omega) (by decide)]; omega, by simp only [ty_93], by rw [ty_93, inb_n (by omega)]; exact hr, ?_⟩
          rw [e60, vI_cl (by omega), add_nl, h92, h93 _ hr, vL_mul, vL_add]
          have hF : FM S93 M (sL (sI M 91 (phi (tc kd c f w a) (tf f a) (tw kd f w a)) ((mI M 91 (phi (tc kd c f w a) (tf f a) (tw kd f w a))) ||| z)) 93 (phi (tc kd c f w a) (tf f a) (tw kd f w a)) (vL (S0 (phi (tc kd c f w a) (tf f a) (tw kd f w a)) + wtS mk kd v on gn W (phi (tc kd c f w a) (tf f a) (tw kd f w a)) c f w a + W c f w * (60 / wys mk kd v on gn c f w)))) := FM.trans (fr_sI (Or.inl rfl)) (fr_sL (Or.inr rfl))
          refine ih (a + 1) (by omega) _ _ _ (PM_fr hF (by unfold S93; omega) hp) (by rw [hF.i (by unfold S93; omega)]; exact h19) (by rw [hF.i (by unfold S93; omega)]; exact h90) (by rw [hF.l (by unfold S93; omega)]; exact h92) (fun j hj => ?_) (fun j hj => ?_) (fun M' l7 l8 l9 g1 g2 g3 => hQ M' l7 l8 l9 (hF.trans g1) g2 g3)
          · show mI (sI M 91 (phi (tc kd c f w a) (tf f a) (tw kd f w a)) ((mI M 91 (phi (tc kd c f w a) (tf f a) (tw kd f w a))) ||| z)) 91 j = _
            by_cases hjr : j = phi (tc kd c f w a) (tf f a) (tw kd f w a)
            · subst hjr
              rw [aI_sI, h91 _ hj, hz, mb_orr]
              refine congrArg vI (mb_congr 6 fun b hb => ?_)
              constructor
              · rintro ((g | ⟨x, g1, g2, g3, g4⟩) | g)
                · exact Or.inl g
                · exact Or.inr ⟨x, by omega, g2, g3, g4⟩
                · exact Or.inr ⟨a, by omega, hm, rfl, g⟩
              · rintro (g | ⟨x, g1, g2, g3, g4⟩)
                · exact Or.inl (Or.inl g)
                · by_cases hxa : x = a
                  · subst hxa; exact Or.inr g4
                  · exact Or.inl (Or.inr ⟨x, by omega, g2, g3, g4⟩)
            · rw [bI_sI hjr, h91 _ hj]
              refine congrArg vI (mb_congr 6 fun b hb => ?_)
              constructor
              · rintro (g | ⟨x, g1, g2, g3, g4⟩)
                · exact Or.inl g
                · exact Or.inr ⟨x, by omega, g2, g3, g4⟩
              · rintro (g | ⟨x, g1, g2, g3, g4⟩)
                · exact Or.inl g
                · refine Or.inr ⟨x, ?_, g2, g3, g4⟩
                  by_cases hxa : x = a
                  · subst hxa; exact absurd g3.symm hjr
                  · omega
          · by_cases hjr : j = phi (tc kd c f w a) (tf f a) (tw kd f w a)
            · subst hjr
              rw [aL_sL]
              refine congrArg vL ?_
              rw [show wtS mk kd v on gn W (phi (tc kd c f w a) (tf f a) (tw kd f w a)) c f w (a + 1) = wtS mk kd v on gn W (phi (tc kd c f w a) (tf f a) (tw kd f w a)) c f w a + eB (may mk kd v on gn c f w a ∧ phi (tc kd c f w a) (tf f a) (tw kd f w a) = phi (tc kd c f w a) (tf f a) (tw kd f w a)) * (W c f w * (60 / wys mk kd v on gn c f w)) from rfl, eB_t ⟨hm, rfl⟩, Nat.one_mul, Nat.add_assoc]
            · rw [bL_sL hjr]
              show mL M 93 j = _
              rw [h93 _ hj]
              refine congrArg vL ?_
              rw [show wtS mk kd v on gn W j c f w (a + 1) = wtS mk kd v on gn W j c f w a + eB (may mk kd v on gn c f w a ∧ phi (tc kd c f w a) (tf f a) (tw kd f w a) = j) * (W c f w * (60 / wys mk kd v on gn c f w)) from rfl, eB_f (fun g => hjr g.2.symm), Nat.zero_mul, Nat.add_zero]
        have hz := hk a ha6
        rw [gX11_goesBeat_190]
        simp (disch := omega) only [ty_82, pm_16 hp, pm_15 hp, ty_91, ty_90, inb_n, vI_cl, true_and, and_true, Option.some.injEq, exists_eq_left']
        refine ⟨hr, hi, ?_⟩
        rw [h90]
        by_cases h64 : vI (V c f w) = 64
        · rw [if_pos h64] at hz ⊢
          simp (disch := omega) only [pm_17 hp, pm_18 hp, ty_92, ty_93, inb_n, vI_cl, true_and, and_true, Option.some.injEq, exists_eq_left', rf_some]
          exact ⟨hr, hr, hi, fin _ hz⟩
        · rw [if_neg h64] at hz ⊢
          simp (disch := omega) only [pm_17 hp, pm_18 hp, ty_92, ty_93, inb_n, vI_cl, true_and, and_true, Option.some.injEq, exists_eq_left', rf_some]
          exact ⟨hi, hr, hr, hi, fin _ hz⟩
      by_cases h4 : a < 4
      · have hok : ok c a := by
          have h1 := may_ok hm
          rw [wy, if_pos h4] at h1; exact h1
        have etc : tc kd c f w a = nxc c a := by rw [tc, wy, if_pos h4]
        rw [if_pos (show vI a < 4 by rw [lt_nl (by omega) (by decide)]; exact h4), m_beside h.1 h4, bsd_t hok, ← etc]
        simp only [Option.toList_some, Option.toList_none, List.cons_append, List.nil_append]
        rw [gX11_goesBeat_150, m_comesTo _ h ha6 hm]
        simp only [ty_82, true_and, Option.toList_some, Option.toList_none, List.cons_append, List.nil_append]
        exact key l8
      · rw [if_neg (show ¬ vI a < 4 by rw [lt_nl (by omega) (by decide)]; exact h4)]
        by_cases h5 : a = 4
        · subst h5
          have etc : bkt kd c f w = vI (tc kd c f w 4) := bkt_t (may_ok hm)
          rw [if_pos (by decide), h19, m_backTo hkd h.1 h.2.1, etc]
          simp only [ty_82, true_and, Option.toList_some, Option.toList_none, List.cons_append, List.nil_append]
          rw [gX11_goesBeat_172, m_comesTo _ h ha6 hm]
          simp only [ty_82, true_and, Option.toList_some, Option.toList_none, List.cons_append, List.nil_append]
          exact key l8
        · obtain rfl : a = 5 := by omega
          rw [if_neg (by decide)]
          have ecm := m_comesTo (d := d + 2) (M := M) (Q := fun v_ M_ => WP (d + 4) kX11_goesBeat (190, [.ref 82, .int bt, .int (vI (phi c f w)), .int (vI c), .int (vI f), .int (vI (nxc c w)), .int (vI (mb (may mk kd v on gn c f w) 6)), .int (vI 5), .int (vI c), l9], v_.toList ++ [], M_) Q) (mI M 82 19) h ha6 hm
          rw [show tc kd c f w 5 = c from rfl] at ecm key
          refine ⟨by simp only [ty_82], ?_⟩
          rw [ecm]
          simp only [Option.toList_some, Option.toList_none, List.cons_append, List.nil_append]
          exact key l8
    · rw [if_pos (by rw [mb_bit0 _ ha6]; exact hm), add_nl]
      refine ih (a + 1) (by omega) M l8 l9 hp h19 h90 h92 (fun j hj => ?_) (fun j hj => ?_) hQ
      · rw [h91 j hj]
        refine congrArg vI (mb_congr 6 fun b hb => ?_)
        constructor
        · rintro (g | ⟨x, g1, g2, g3, g4⟩)
          · exact Or.inl g
          · exact Or.inr ⟨x, by omega, g2, g3, g4⟩
        · rintro (g | ⟨x, g1, g2, g3, g4⟩)
          · exact Or.inl g
          · refine Or.inr ⟨x, ?_, g2, g3, g4⟩
            by_cases hxa : x = a
            · subst hxa; exact absurd g2 hm
            · omega
      · rw [h93 j hj]
        refine congrArg vL ?_
        rw [show wtS mk kd v on gn W j c f w (a + 1) = wtS mk kd v on gn W j c f w a + eB (may mk kd v on gn c f w a ∧ phi (tc kd c f w a) (tf f a) (tw kd f w a) = j) * (W c f w * (60 / wys mk kd v on gn c f w)) from rfl, eB_f (fun g => hm g.1), Nat.zero_mul, Nat.add_zero]
end Beat
