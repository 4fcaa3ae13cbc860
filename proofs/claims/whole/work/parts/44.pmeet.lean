/-! ===== 44: meet on both sides ===== -/
def ntF (y : Int32) : Int32 := (if (0 : Int32) < y then (if (65536 : Int32) < y then (if (256 : Int32) < (iUshr y 16) then (if (16 : Int32) < (iUshr (iUshr y 16) 8) then (if (4 : Int32) < (iUshr (iUshr (iUshr y 16) 8) 4) then ((((((1 + 16) + 8) + 4) + 2) + (iUshr (iUshr (iUshr (iUshr (iUshr y 16) 8) 4) 2) 1))) else (((((1 + 16) + 8) + 4) + (iUshr (iUshr (iUshr (iUshr y 16) 8) 4) 1)))) else (if (4 : Int32) < (iUshr (iUshr y 16) 8) then (((((1 + 16) + 8) + 2) + (iUshr (iUshr (iUshr (iUshr y 16) 8) 2) 1))) else ((((1 + 16) + 8) + (iUshr (iUshr (iUshr y 16) 8) 1))))) else (if (16 : Int32) < (iUshr y 16) then (if (4 : Int32) < (iUshr (iUshr y 16) 4) then (((((1 + 16) + 4) + 2) + (iUshr (iUshr (iUshr (iUshr y 16) 4) 2) 1))) else ((((1 + 16) + 4) + (iUshr (iUshr (iUshr y 16) 4) 1)))) else (if (4 : Int32) < (iUshr y 16) then ((((1 + 16) + 2) + (iUshr (iUshr (iUshr y 16) 2) 1))) else (((1 + 16) + (iUshr (iUshr y 16) 1)))))) else (if (256 : Int32) < y then (if (16 : Int32) < (iUshr y 8) then (if (4 : Int32) < (iUshr (iUshr y 8) 4) then (((((1 + 8) + 4) + 2) + (iUshr (iUshr (iUshr (iUshr y 8) 4) 2) 1))) else ((((1 + 8) + 4) + (iUshr (iUshr (iUshr y 8) 4) 1)))) else (if (4 : Int32) < (iUshr y 8) then ((((1 + 8) + 2) + (iUshr (iUshr (iUshr y 8) 2) 1))) else (((1 + 8) + (iUshr (iUshr y 8) 1))))) else (if (16 : Int32) < y then (if (4 : Int32) < (iUshr y 4) then ((((1 + 4) + 2) + (iUshr (iUshr (iUshr y 4) 2) 1))) else (((1 + 4) + (iUshr (iUshr y 4) 1)))) else (if (4 : Int32) < y then (((1 + 2) + (iUshr (iUshr y 2) 1))) else ((1 + (iUshr y 1))))))) else ((y &&& 32)))
theorem ntF_dec : ∀ c : Nat, c < 32 → ntF (vI (2 ^ c - 1)) = vI c := by decide +kernel
theorem ntz_and {i : Int32} {c : Nat} (hc : c < 32) (h1 : i.toBitVec.getLsbD c = true) (h0 : ∀ j : Nat, j < c → i.toBitVec.getLsbD j = false) : (i ^^^ (-1)) &&& (i - 1) = vI (2 ^ c - 1) := by
  have hm1 : i.toBitVec.toNat.testBit c = true := h1
  have hm0 : ∀ j : Nat, j < c → i.toBitVec.toNat.testBit j = false := h0
  have hlt : i.toBitVec.toNat < 2 ^ 32 := i.toBitVec.isLt
  have hp : 0 < 2 ^ c := Nat.two_pow_pos c
  have hz : i.toBitVec.toNat % 2 ^ c = 0 := by
    refine Nat.eq_of_testBit_eq fun j => ?_
    rw [Nat.testBit_mod_two_pow, Nat.zero_testBit]
    by_cases hj : j < c
    · rw [hm0 j hj]; simp
    · simp [hj]
  rw [Nat.testBit_eq_decide_div_mod_eq] at hm1
  have hodd : i.toBitVec.toNat / 2 ^ c % 2 = 1 := of_decide_eq_true hm1
  obtain ⟨k, hk⟩ : ∃ k : Nat, i.toBitVec.toNat / 2 ^ c = 2 * k + 1 := ⟨i.toBitVec.toNat / 2 ^ c / 2, by omega⟩
  have hm : i.toBitVec.toNat = 2 ^ c * (2 * k + 1) + 0 := by
    have := Nat.div_add_mod i.toBitVec.toNat (2 ^ c)
    rw [hz, hk] at this; exact this.symm
  have hm1' : i.toBitVec.toNat - 1 = 2 ^ c * (2 * k) + (2 ^ c - 1) := by
    rw [hm, Nat.mul_add]; omega
  have hpos : 1 ≤ i.toBitVec.toNat := by rw [hm, Nat.mul_add]; omega
  refine Int32.toBitVec_inj.1 (BitVec.eq_of_getLsbD_eq fun j hj => ?_)
  have hsub : (i - 1).toBitVec.toNat = i.toBitVec.toNat - 1 := by
    rw [Int32.toBitVec_sub, BitVec.toNat_sub]
    show (2 ^ 32 - 1 + i.toBitVec.toNat) % 2 ^ 32 = _
    rw [show 2 ^ 32 - 1 + i.toBitVec.toNat = (i.toBitVec.toNat - 1) + 2 ^ 32 by omega, Nat.add_mod_right, Nat.mod_eq_of_lt (by omega)]
  have e1 : (i - 1).toBitVec.getLsbD j = (i.toBitVec.toNat - 1).testBit j := by
    show (i - 1).toBitVec.toNat.testBit j = _
    rw [hsub]
  have e2 : i.toBitVec.getLsbD j = i.toBitVec.toNat.testBit j := rfl
  have em : (-1 : Int32).toBitVec.getLsbD j = true := by
    have hd : ∀ j : Nat, j < 32 → (-1 : Int32).toBitVec.getLsbD j = true := by decide +kernel
    exact hd j hj
  have er : (vI (2 ^ c - 1)).toBitVec.getLsbD j = decide (j < c) := by
    show (BitVec.ofNat 32 (2 ^ c - 1)).getLsbD j = _
    rw [BitVec.getLsbD_ofNat, Nat.testBit_two_pow_sub_one]
    simp [hj]
  rw [Int32.toBitVec_and, BitVec.getLsbD_and, Int32.toBitVec_xor, BitVec.getLsbD_xor, e1, e2, em, er, hm1', hm, Nat.testBit_two_pow_mul_add _ hp, Nat.testBit_two_pow_mul_add _ (show 2 ^ c - 1 < 2 ^ c by omega)]
  by_cases hjc : j < c
  · rw [if_pos hjc, if_pos hjc, Nat.testBit_two_pow_sub_one, Nat.zero_testBit]; simp
  · rw [if_neg hjc, if_neg hjc]
    by_cases he : j - c = 0
    · rw [he]; simp [Nat.testBit_eq_decide_div_mod_eq, hjc]
    · obtain ⟨q, hq⟩ : ∃ q : Nat, j - c = q + 1 := ⟨j - c - 1, by omega⟩
      rw [hq, Nat.testBit_succ, Nat.testBit_succ, show (2 * k + 1) / 2 = k by omega, show 2 * k / 2 = k by omega]
      simp [hjc]
section Meet
variable {MZ M : MM} {n d : Nat} {Q : Option Value → MM → Prop} {p onN bk : Nat} {mk : Nat → Nat → Prop}
theorem s_ntzI (i : Int32) : CL d kJ6_numberOfTrailingZeros_0f7a4 [.int i] M Q = Q (some (.int (ntF ((i ^^^ (-1)) &&& (i - 1))))) M := by
  rw [eJ6_numberOfTrailingZeros_0f7a4]
  have qIte : ∀ (c : Prop) [Decidable c] (a b : Int32), (if c then Q (some (.int a)) M else Q (some (.int b)) M) = Q (some (.int (if c then a else b))) M := by
    intro c _ a b
    by_cases h : c
    · rw [if_pos h, if_pos h]
    · rw [if_neg h, if_neg h]
  generalize (i ^^^ (-1)) &&& (i - 1) = y
  simp only [qIte]
  rfl
theorem bt_i32 (a : Int64) {j : Nat} (hj : j < 32) : a.toInt32.toBitVec.getLsbD j = a.toBitVec.getLsbD j := by
  rw [Int64.toBitVec_toInt32, BitVec.signExtend_eq_setWidth_of_le _ (by decide), BitVec.getLsbD_setWidth]
  simp [hj]
theorem i32_0 (a : Int64) : (a.toInt32 = 0) ↔ ∀ j : Nat, j < 32 → ¬ bt a j := by
  constructor
  · intro h j hj h2
    have h3 := bt_i32 a hj
    rw [h] at h3
    unfold bt at h2
    rw [h2] at h3
    have : (0 : Int32).toBitVec.getLsbD j = false := BitVec.getLsbD_zero
    rw [this] at h3
    exact absurd h3 (by decide)
  · intro h
    refine Int32.toBitVec_inj.1 (BitVec.eq_of_getLsbD_eq fun j hj => ?_)
    rw [bt_i32 a hj, show (0 : Int32).toBitVec.getLsbD j = false from BitVec.getLsbD_zero]
    have := h j hj
    unfold bt at this
    cases hb : a.toBitVec.getLsbD j
    · rfl
    · exact absurd hb this
theorem s_ntz {P : Nat → Prop} {c : Nat} (hc : c < 36) (h1 : P c) (h0 : ∀ j : Nat, j < c → ¬ P j) : CL (d + 1) kJ13_numberOfTrailingZeros_95d88 [.long (zb P)] M Q = Q (some (.int (vI c))) M := by
  have hb1 : bt (zb P) c := (bt_zb P c).mpr ⟨hc, h1⟩
  have hb0 : ∀ j : Nat, j < c → ¬ bt (zb P) j := fun j hj h => h0 j hj ((bt_zb P j).mp h).2
  rw [eJ13_numberOfTrailingZeros_95d88]
  by_cases h32 : c < 32
  · rw [if_neg (fun h => (i32_0 _).mp h c h32 hb1), s_ntzI, ntz_and h32 (by rw [bt_i32 _ h32]; exact hb1) (fun j hj => by
      rw [bt_i32 _ (by omega)]
      have := hb0 j hj
      unfold bt at this
      cases hb : (zb P).toBitVec.getLsbD j
      · rfl
      · exact absurd hb this), ntF_dec c h32]
    simp only [Option.toList_some, Option.toList_none, List.cons_append, List.nil_append]
    rw [gJ13_numberOfTrailingZeros_95d88_25]
  · rw [if_pos ((i32_0 _).mpr (fun j hj => hb0 j (by omega))), s_ntzI]
    have hup : ∀ j : Nat, j < 32 → (lUshr (zb P) 32).toInt32.toBitVec.getLsbD j = (zb P).toBitVec.getLsbD (32 + j) := by
      intro j hj
      rw [bt_i32 _ hj, show (32 : Int32) = vI 32 from rfl, lUshr_bv _ (by decide), BitVec.getLsbD_ushiftRight]
    rw [ntz_and (c := c - 32) (by omega) (by rw [hup _ (by omega), show 32 + (c - 32) = c by omega]; exact hb1) (fun j hj => by
      rw [hup _ (by omega)]
      have := hb0 (32 + j) (by omega)
      unfold bt at this
      cases hb : (zb P).toBitVec.getLsbD (32 + j)
      · rfl
      · exact absurd hb this), ntF_dec _ (by omega)]
    simp only [Option.toList_some, Option.toList_none, List.cons_append, List.nil_append]
    rw [gJ13_numberOfTrailingZeros_95d88_17, show (32 : Int32) = vI 32 from rfl, vI_add, show 32 + (c - 32) = c by omega]
/-- the least for which it is so -/
theorem sn_least {P : Nat → Prop} : ∀ m i : Nat, (∃ c : Nat, i ≤ c ∧ c < i + m ∧ P c) → ∃ c : Nat, i ≤ c ∧ c < i + m ∧ P c ∧ (∀ j : Nat, i ≤ j → j < c → ¬ P j) ∧ sn P m i = vI c
  | 0, i, h => by obtain ⟨c, h1, h2, -⟩ := h; omega
  | m + 1, i, h => by
    by_cases hi : P i
    · exact ⟨i, by omega, by omega, hi, fun j h1 h2 => by omega, sn_t hi⟩
    · obtain ⟨c, h1, h2, h3⟩ := h
      have hne : ¬ c = i := fun e => hi (e ▸ h3)
      obtain ⟨c2, g1, g2, g3, g4, g5⟩ := sn_least m (i + 1) ⟨c, by omega, by omega, h3⟩
      refine ⟨c2, by omega, by omega, g3, fun j j1 j2 => ?_, by rw [sn_f hi]; exact g5⟩
      by_cases e : j = i
      · rw [e]; exact hi
      · exact g4 j (by omega) j2
def mtP (A B : Nat → Nat → Nat → Nat → Prop) (t c : Nat) : Prop := anyW (A t) c ∧ anyW (B t) c
noncomputable def mtG (A B : Nat → Nat → Nat → Nat → Prop) (l3 : Int32) (t : Nat) : Int32 := if l3 = 0 then vI t else sn (mtP A B t) 36 0
def exC (P : Nat → Nat → Prop) (t : Nat) : Prop := ∃ c : Nat, c < 36 ∧ P t c
variable {kd v c f bt gn cm kd2 v2 c2 f2 bt2 gn2 cm2 : Nat}
theorem QC_62 {M M' : MM} (h : FM (inS 62 4) M M') (hq : CrQ M' 62) (hQ : QC M p onN bk mk) : QC M' p onN bk mk := QC_fm h Sq_62 (SOK_62 h hq hQ.2.2.2.2) hQ
theorem S58_62 {S : Nat → Prop} {M M' : MM} {k p kd v b gn : Nat} {A : Nat → Nat → Nat → Prop} (h : FM (inS 62 4) M M') (hk : k = 58) (hS : CrS M k p kd v b gn A) : CrS M' k p kd v b gn A := CrS_fr h (fun a h1 h2 => by unfold inS; omega) hS
theorem S62_58 {M M' : MM} {k p kd v b gn : Nat} {A : Nat → Nat → Nat → Prop} (h : FM (inS 58 4) M M') (hk : k = 62) (hS : CrS M k p kd v b gn A) : CrS M' k p kd v b gn A := CrS_fr h (fun a h1 h2 => by unfold inS; omega) hS
theorem s_go62 {b0 t : Nat} {A0 : Nat → Nat → Nat → Prop} (hk : kd < 7) (hv : v < 10) (hg : gn + t < 1000) (hQ : QC M p onN bk mk) (hS : CrS M 62 p kd v ((b0 + t) % (onN + bk)) (gn + t) (rq anyS mk kd v onN bk b0 gn A0 t))
    (h : ∀ M' : MM, FM (inS 62 4) M M' → CrS M' 62 p kd v ((b0 + (t + 1)) % (onN + bk)) (gn + (t + 1)) (rq anyS mk kd v onN bk b0 gn A0 (t + 1)) → Q none M') :
    CL (d + 5) kX1_advance [.ref 62, .int 63] M Q := by
  refine s_advance (ms := fun _ => True) CrT_62 (bndR hQ.2.2.2.1 hk hv hg) hQ.2.2.2.1 mask63 hS hQ.2.2.1 (fun M' h1 h2 => h M' h1 (CrS_next h2))
def S66 (a : Nat) : Prop := 58 ≤ a ∧ a < 66
theorem Sq_66 : ∀ a : Nat, S66 a → Sq a := fun a h => by unfold S66 at h; unfold Sq; omega
theorem s_meet_loop (hk : kd < 7) (hv : v < 10) (hg : gn + 61 < 1000) (hk2 : kd2 < 7) (hv2 : v2 < 10) (hg2 : gn2 + 61 < 1000) {b0 b02 : Nat} (l1 l2 l3 : Int32) (l4 : Option Nat) (l5 : Nat) {A B : Nat → Nat → Nat → Prop} :
    ∀ m t : Nat, t + m = 41 → ∀ (M : MM) (l7 : Value), QC M p onN bk mk → CrS M 58 p kd v ((b0 + t) % (onN + bk)) (gn + t) (rq anyS mk kd v onN bk b0 gn A t) → CrS M 62 p kd2 v2 ((b02 + t) % (onN + bk)) (gn2 + t) (rq anyS mk kd2 v2 onN bk b02 gn2 B t) →
    (∀ M' : MM, FM S66 M M' → SOK M' → Q (some (.int (sf (exC (mtP (rq anyS mk kd v onN bk b0 gn A) (rq anyS mk kd2 v2 onN bk b02 gn2 B))) (mtG (rq anyS mk kd v onN bk b0 gn A) (rq anyS mk kd2 v2 onN bk b02 gn2 B) l3) m t))) M') →
    WP (d + 6) kX10_meet (82, [.ref 21, .int l1, .int l2, .int l3, rf l4, .ref l5, .int (vI t), l7, dm], [], M) Q := by
  intro m
  induction m with
  | zero =>
    intro t ht M l7 hQ hS hS2 h
    obtain rfl : t = 41 := by omega
    rw [gX10_meet_82, if_pos (by decide)]
    exact h M (FM.refl _ _) hQ.2.2.2.2
  | succ m ih =>
    intro t ht M l7 hQ hS hS2 h
    rw [gX10_meet_82, if_neg (by rw [lt_ln (by omega) (by decide)]; omega)]
    simp only [ty_21, pc_21_5 hQ.1, ty_58, true_and, and_true, Option.some.injEq, exists_eq_left']
    rw [s_cells CrT_58 hS]
    simp only [Option.toList_some, Option.toList_none, List.cons_append, List.nil_append]
    rw [gX10_meet_96]
    simp only [ty_21, pc_21_6 hQ.1, ty_62, true_and, and_true, Option.some.injEq, exists_eq_left']
    rw [s_cells CrT_62 hS2]
    simp only [Option.toList_some, Option.toList_none, List.cons_append, List.nil_append]
    rw [gX10_meet_103, zb_and]
    by_cases e : exC (mtP (rq anyS mk kd v onN bk b0 gn A) (rq anyS mk kd2 v2 onN bk b02 gn2 B)) t
    · rw [if_neg (by rw [lg_0, zb_eq0]; exact fun h => by obtain ⟨c, hc, h2⟩ := e; exact h c hc h2)]
      have h2 := h M (FM.refl _ _) hQ.2.2.2.2
      rw [sf_t e, mtG] at h2
      by_cases hl : l3 = 0
      · rw [if_pos hl] at h2 ⊢; exact h2
      · rw [if_neg hl] at h2 ⊢
        obtain ⟨c, hc, hcP⟩ := e
        obtain ⟨c3, -, g2, g3, g4, g5⟩ := sn_least (P := mtP (rq anyS mk kd v onN bk b0 gn A) (rq anyS mk kd2 v2 onN bk b02 gn2 B) t) 36 0 ⟨c, by omega, by omega, hcP⟩
        rw [s_ntz (P := fun i => anyW (rq anyS mk kd v onN bk b0 gn A t) i ∧ anyW (rq anyS mk kd2 v2 onN bk b02 gn2 B t) i) (c := c3) (by omega) g3 (fun j hj => g4 j (by omega) hj)]
        simp only [Option.toList_some, Option.toList_none, List.cons_append, List.nil_append]
        rw [gX10_meet_127, ← g5]
        exact h2
    · rw [if_pos (by rw [lg_0, zb_eq0]; exact fun c hc h2 => e ⟨c, hc, h2⟩)]
      simp only [ty_21, pc_21_5 hQ.1, ty_58, true_and, and_true, Option.some.injEq, exists_eq_left']
      refine s_go (ms := anyS) hk hv (by omega) (fun _ => trivial) hQ hS (fun M1 hF1 hS1 => ?_)
      have hQ1 := QC_58 hF1 hS1.q hQ
      simp only [Option.toList_some, Option.toList_none, List.cons_append, List.nil_append]
      rw [gX10_meet_137]
      simp only [ty_21, pc_21_6 hQ1.1, ty_62, true_and, and_true, Option.some.injEq, exists_eq_left']
      refine s_go62 hk2 hv2 (by omega) hQ1 (S62_58 hF1 rfl hS2) (fun M2 hF2 hS22 => ?_)
      have hQ2 := QC_62 hF2 hS22.q hQ1
      simp only [Option.toList_some, Option.toList_none, List.cons_append, List.nil_append]
      rw [gX10_meet_146, add_nl]
      refine ih (t + 1) (by omega) M2 _ hQ2 (CrS_fr hF2 (fun a h1 h2 => by unfold inS; omega) hS1) hS22 (fun M' g1 g2 => ?_)
      have h3 := h M' ((hF1.mono (fun a ha => by unfold inS at ha; unfold S66; omega)).trans ((hF2.mono (fun a ha => by unfold inS at ha; unfold S66; omega)).trans g1)) g2
      rw [sf_f e] at h3
      exact h3
/- the reference -/
def FP (M M' : MM) : Prop := mN M' = mN M ∧ (∀ a : Nat, ¬ a = 82 → ¬ (90 ≤ a ∧ a ≤ 94) → mI M' a = mI M a ∧ mL M' a = mL M a ∧ mR M' a = mR M a) ∧ mR M' 82 = mR M 82 ∧ ∀ k : Nat, ¬ (19 ≤ k ∧ k ≤ 24) → mI M' 82 k = mI M 82 k
theorem FP.of {M M' : MM} (h : FN M M') : FP M M' := ⟨h.1, fun a h1 h2 => h.2.1 a h1 (fun h3 => h2 ⟨h3.1, by omega⟩), h.2.2⟩
theorem FP.refl (M : MM) : FP M M := FP.of (FN.refl M)
theorem FP.trans {M M1 M2 : MM} (h1 : FP M M1) (h2 : FP M1 M2) : FP M M2 := ⟨h2.1.trans h1.1, fun a h8 h9 => ⟨(h2.2.1 a h8 h9).1.trans (h1.2.1 a h8 h9).1, (h2.2.1 a h8 h9).2.1.trans (h1.2.1 a h8 h9).2.1, (h2.2.1 a h8 h9).2.2.trans (h1.2.1 a h8 h9).2.2⟩, h2.2.2.1.trans h1.2.2.1, fun k hk => (h2.2.2.2 k hk).trans (h1.2.2.2 k hk)⟩
theorem FP.s94 {M : MM} {k : Nat} {z : Int64} : FP M (sL M 94 k z) := ⟨rfl, fun a _ h9 => ⟨rfl, rL_sL (fun h => h9 (by omega)), rfl⟩, rfl, fun _ _ => rfl⟩
theorem PM_fp {M M' : MM} (h : FP M M') (hp : PM M) : PM M' := fun t ht => by rw [h.2.2.1]; exact hp t ht
theorem r_fp {M M' : MM} (h : FP M M') {a : Nat} (ha : 83 ≤ a ∧ a ≤ 87) : mI M' a = mI M a := (h.2.1 a (by omega) (by omega)).1
theorem ME_fp {M M' : MM} {onN bk : Nat} {mk : Nat → Nat → Prop} (h : FP M M') (hE : ME M onN bk mk) : ME M' onN bk mk := by
  unfold ME at hE ⊢
  rw [r_fp h (a := 83) (by decide), r_fp h (a := 85) (by decide), r_fp h (a := 86) (by decide), r_fp h (a := 87) (by decide)]
  exact hE
theorem MW_fp {M M' : MM} {w kd v c f bt gn cm : Nat} (h : FP M M') (hW : MW M w kd v c f bt gn cm) : MW M' w kd v c f bt gn cm := MWs_ag (r_fp h (by decide)) hW
theorem INV_fp {MZ : MM} {n : Nat} {M M' : MM} (h : FP M M') (hI : INV MZ n M) : INV MZ n M' := by
  have e : ∀ a : Nat, a = 58 ∨ a = 62 ∨ a = 66 → mR M' a = mR M a := fun a ha => (h.2.1 a (by omega) (by omega)).2.2
  refine INV_ag ⟨h.1, fun a ha => h.2.1 a (fun h2 => ha (by unfold Sg; omega)) (fun h2 => ha (by unfold Sg; omega)), h.2.2.1, fun k hk => h.2.2.2 k (by omega)⟩ ?_ hI
  obtain ⟨⟨qh, qt, h1⟩, ⟨qh2, qt2, h2⟩, h3⟩ := hI.2.2.1
  refine ⟨⟨qh, qt, ?_⟩, ⟨qh2, qt2, ?_⟩, ?_⟩
  · unfold CrP at h1 ⊢; rw [e 58 (by omega)]; exact h1
  · unfold CrP at h2 ⊢; rw [e 62 (by omega)]; exact h2
  · unfold LtQ at h3 ⊢; rw [e 66 (by omega)]; exact h3
theorem NowT_94 {b0 g0 t k : Nat} {z : Int64} {A0 : Nat → Nat → Nat → Prop} (hN : NowT M mk kd v onN bk b0 g0 A0 t) : NowT (sL M 94 k z) mk kd v onN bk b0 g0 A0 t := by
  have hF : FM (fun a => a = 94) M (sL M 94 k z) := fr_sL rfl
  exact ⟨MsF_fr hF (by decide) hN.1, NowC_fr hF (by decide) (by decide) hN.2⟩
theorem m_meet47 (hk : kd < 7) (hv : v < 10) (hB : bnL onN bk) {b0 : Nat} (hb0 : b0 < 1000) (hg : gn + 61 < 1000) {A : Nat → Nat → Nat → Prop} (hA : okA A) (l1 l2 l3 : Int32) :
    ∀ m t : Nat, t + m = 41 → ∀ M : MM, PM M → ME M onN bk mk → (0 < t → NowT M mk kd v onN bk b0 gn A (t - 1)) → (t = 0 → NowT M mk kd v onN bk b0 gn A 0) → (∀ u : Nat, u < t → mL M 94 u = zb (anyW (rq anyS mk kd v onN bk b0 gn A u))) →
    (∀ M' : MM, FP M M' → (∀ u : Nat, u < 41 → mL M' 94 u = zb (anyW (rq anyS mk kd v onN bk b0 gn A u))) → WP (d + 5) kX11_meet (47, [.ref 82, .int l1, .int l2, .int l3, .int 41, dm, dm, dm], [], M') Q) →
    WP (d + 5) kX11_meet (47, [.ref 82, .int l1, .int l2, .int l3, .int (vI t), dm, dm, dm], [], M) Q := by
  intro m
  induction m with
  | zero =>
    intro t ht M hp hE hN hN0 h94 h
    obtain rfl : t = 41 := by omega
    exact h M (FP.refl _) h94
  | succ m ih =>
    intro t ht M hp hE hN hN0 h94 h
    have step : ∀ M1 : MM, FN M M1 → mL M1 94 = mL M 94 → NowT M1 mk kd v onN bk b0 gn A t → CL (d + 4) kX11_cellsNow [.ref 82] M1 (fun v_ M_ => WP (d + 5) kX11_meet (73, [.ref 82, .int l1, .int l2, .int l3, .int (vI t), dm, dm, dm], v_.toList ++ [.int (vI t), rf (mR M1 82 25)], M_) Q) := by
      intro M1 hF1 hl hN1
      have hp1 := PM_fn hF1 hp
      rw [m_cellsNow hp1 hA hN1]
      simp only [Option.toList_some, Option.toList_none, List.cons_append, List.nil_append, pm_25 hp1, rf_some]
      rw [gX11_meet_73]
      simp (disch := omega) only [ty_94, inb_n, vI_cl, add_nl, true_and]
      refine ⟨by omega, ?_⟩
      refine ih (t + 1) (by omega) _ (PM_fp FP.s94 hp1) (ME_fp ((FP.of hF1).trans FP.s94) hE) (fun _ => NowT_94 hN1) (fun h => by omega) (fun u hu => ?_) (fun M' g1 g2 => h M' (((FP.of hF1).trans FP.s94).trans g1) g2)
      by_cases e : u = t
      · subst e; exact aL_sL _ _ _ _
      · rw [bL_sL e, hl]; exact h94 u (by omega)
    rw [gX11_meet_47, if_neg (by rw [lt_ln (by omega) (by decide)]; omega)]
    by_cases h0 : t = 0
    · rw [if_neg (by rw [lt_ln (by omega) (by decide)]; omega)]
      refine ⟨by simp only [ty_82], ?_⟩
      exact step M (FN.refl _) rfl (by rw [h0]; exact hN0 h0)
    · rw [if_pos (by rw [lt_ln (by omega) (by decide)]; omega)]
      refine ⟨by simp only [ty_82], ?_⟩
      refine m_beat hk hv hB hb0 (by omega) (by omega) hA hp hE (hN (by omega)) (fun M1 hF1 hN1 => ?_)
      simp only [Option.toList_some, Option.toList_none, List.cons_append, List.nil_append]
      rw [gX11_meet_63]
      refine ⟨by simp only [ty_82], ?_⟩
      rw [show t - 1 + 1 = t by omega] at hN1
      exact step M1 hF1 (hF1.2.1 94 (by decide) (by decide)).2.1 hN1
theorem m_mt143 {P : Nat → Prop} (l1 l2 l3 l4 : Value) (M : MM) (Q : Option Value → MM → Prop)
    (e : ∀ (l7 : Int32), WP (d + 5) kX11_meet (143, [.ref 82, l1, l2, l3, l4, .long (zb P), dm, .int l7], [], M) Q = (if (lg_cmp ((lShr (zb P) l7) &&& 1) 0) = 0 then WP (d + 5) kX11_meet (143, [.ref 82, l1, l2, l3, l4, .long (zb P), dm, .int (l7 + 1)], [], M) Q else Q (some (.int l7)) M)) :
    ∀ m i : Nat, i + m = 36 → (∃ c : Nat, i ≤ c ∧ c < i + m ∧ P c) → WP (d + 5) kX11_meet (143, [.ref 82, l1, l2, l3, l4, .long (zb P), dm, .int (vI i)], [], M) Q = Q (some (.int (sn P m i))) M := by
  intro m
  induction m with
  | zero => intro i _ h; obtain ⟨c, h1, h2, -⟩ := h; omega
  | succ m ih =>
    intro i hi h
    rw [e]
    by_cases hP : P i
    · rw [if_neg (by rw [lg_0, zb_shr0 P (by omega)]; exact not_not_intro hP), sn_t hP]
    · rw [if_pos (by rw [lg_0, zb_shr0 P (by omega)]; exact hP), sn_f hP, add_nl]
      obtain ⟨c, h1, h2, h3⟩ := h
      have : ¬ c = i := fun e => hP (e ▸ h3)
      exact ih (i + 1) (by omega) ⟨c, by omega, by omega, h3⟩
theorem m_meet93 (hk : kd < 7) (hv : v < 10) (hB : bnL onN bk) {b0 : Nat} (hb0 : b0 < 1000) (hg : gn + 61 < 1000) {A A1 : Nat → Nat → Nat → Prop} {B1 : Nat → Nat → Nat → Nat → Prop} (hA : okA A) (l1 l2 l3 : Int32) :
    ∀ m t : Nat, t + m = 41 → ∀ (M : MM) (l5 : Value), PM M → ME M onN bk mk → (0 < t → NowT M mk kd v onN bk b0 gn A (t - 1)) → (t = 0 → NowT M mk kd v onN bk b0 gn A 0) → (∀ u : Nat, u < 41 → mL M 94 u = zb (anyW (B1 u))) →
    (∀ M' : MM, FN M M' → Q (some (.int (sf (exC (mtP B1 (rq anyS mk kd v onN bk b0 gn A))) (mtG B1 (rq anyS mk kd v onN bk b0 gn A) l3) m t))) M') →
    WP (d + 5) kX11_meet (93, [.ref 82, .int l1, .int l2, .int l3, .int (vI t), l5, dm, dm], [], M) Q := by
  intro m
  induction m with
  | zero =>
    intro t ht M l5 hp hE hN hN0 h94 h
    obtain rfl : t = 41 := by omega
    rw [gX11_meet_93, if_pos (by decide)]
    exact h M (FN.refl _)
  | succ m ih =>
    intro t ht M l5 hp hE hN hN0 h94 h
    have step : ∀ M1 : MM, FN M M1 → NowT M1 mk kd v onN bk b0 gn A t → CL (d + 4) kX11_cellsNow [.ref 82] M1 (fun v_ M_ => WP (d + 5) kX11_meet (120, [.ref 82, .int l1, .int l2, .int l3, .int (vI t), l5, dm, dm], v_.toList ++ [.long (mL M1 94 t)], M_) Q) := by
      intro M1 hF1 hN1
      have hp1 := PM_fn hF1 hp
      have hl : mL M1 94 = mL M 94 := (hF1.2.1 94 (by decide) (by decide)).2.1
      rw [m_cellsNow hp1 hA hN1, hl, h94 t (by omega)]
      simp only [Option.toList_some, Option.toList_none, List.cons_append, List.nil_append]
      rw [gX11_meet_120, zb_and]
      by_cases e : exC (mtP B1 (rq anyS mk kd v onN bk b0 gn A)) t
      · rw [if_neg (by rw [lg_0, zb_eq0]; exact fun h => by obtain ⟨c, hc, h2⟩ := e; exact h c hc h2)]
        have h2 := h M1 hF1
        rw [sf_t e, mtG] at h2
        by_cases hl3 : l3 = 0
        · rw [if_pos hl3] at h2 ⊢; exact h2
        · rw [if_neg hl3] at h2 ⊢
          obtain ⟨c, hc, hcP⟩ := e
          exact (m_mt143 (d := d) (P := fun i => anyW (B1 t) i ∧ anyW (rq anyS mk kd v onN bk b0 gn A t) i) _ _ _ _ M1 Q (fun l7 => gX11_meet_143 _ _ _ _ _ _ _ _ _ _) 36 0 rfl ⟨c, by omega, by omega, hcP⟩).mpr h2
      · rw [if_pos (by rw [lg_0, zb_eq0]; exact fun c hc h2 => e ⟨c, hc, h2⟩), add_nl]
        refine ih (t + 1) (by omega) M1 _ hp1 (ME_fn hF1 hE) (fun _ => hN1) (fun h => by omega) (fun u hu => by rw [hl]; exact h94 u hu) (fun M' g1 => ?_)
        have h3 := h M' (hF1.trans g1)
        rw [sf_f e] at h3
        exact h3
    rw [gX11_meet_93, if_neg (by rw [lt_ln (by omega) (by decide)]; omega)]
    by_cases h0 : t = 0
    · rw [if_neg (by rw [lt_ln (by omega) (by decide)]; omega)]
      simp (disch := omega) only [ty_82, pm_25 hp, ty_94, inb_n, vI_cl, true_and, and_true, Option.some.injEq, exists_eq_left']
      exact ⟨by omega, step M (FN.refl _) (by rw [h0]; exact hN0 h0)⟩
    · rw [if_pos (by rw [lt_ln (by omega) (by decide)]; omega)]
      refine ⟨by simp only [ty_82], ?_⟩
      refine m_beat hk hv hB hb0 (by omega) (by omega) hA hp hE (hN (by omega)) (fun M1 hF1 hN1 => ?_)
      rw [show t - 1 + 1 = t by omega] at hN1
      simp only [Option.toList_some, Option.toList_none, List.cons_append, List.nil_append]
      rw [gX11_meet_109]
      simp (disch := omega) only [ty_82, pm_25 (PM_fn hF1 hp), ty_94, inb_n, vI_cl, true_and, and_true, Option.some.injEq, exists_eq_left']
      exact ⟨by omega, step M1 hF1 hN1⟩
theorem p_meet (hI : INV MZ n M) (hn : n ≤ 512) (a b l3 : Int32) : PRI MZ (d + 12) n kX10_meet kX11_meet [.int a, .int b, .int l3] M := by
  have hp := hI.1
  have hpm := hI.2.1
  obtain ⟨nw, hn6, hc0, hm0, hW⟩ := INV_nw hI
  obtain ⟨p, onN, bk, mk, hld, hL, hE, hB⟩ := INV_land hI
  have hI1 := INV_mono hI
  unfold PRI
  rw [eX10_meet]
  simp only [ty_21, pc_21_1 hp, ty_33, true_and, and_true, Option.some.injEq, exists_eq_left']
  -- what the reference says when a number is none
  have ra : inR a nw = false → CL (d + 12) kX11_meet [.ref 82, .int a, .int b, .int l3] M (fun r2 M2 => r2 = some (.int (-1)) ∧ INV MZ (n + 1) M2) := by
    intro hA
    rw [eX11_meet, m_isWalker hpm (by omega) hm0, hA]
    simp only [ty_82, true_and, Option.toList_some, Option.toList_none, List.cons_append, List.nil_append]
    rw [gX11_meet_5, if_pos (by decide)]
    exact ⟨rfl, hI1⟩
  have rb : inR a nw = true → inR b nw = false → CL (d + 12) kX11_meet [.ref 82, .int a, .int b, .int l3] M (fun r2 M2 => r2 = some (.int (-1)) ∧ INV MZ (n + 1) M2) := by
    intro hA hA2
    rw [eX11_meet, m_isWalker hpm (by omega) hm0, hA]
    simp only [ty_82, true_and, Option.toList_some, Option.toList_none, List.cons_append, List.nil_append]
    rw [gX11_meet_5, if_neg (by decide), m_isWalker hpm (by omega) hm0, hA2]
    simp only [ty_82, true_and, Option.toList_some, Option.toList_none, List.cons_append, List.nil_append]
    rw [gX11_meet_13, if_pos (by decide)]
    exact ⟨rfl, hI1⟩
  cases hA : inR a nw with
  | false =>
    rw [s_who_f hp hc0 hn6 hA]
    simp only [Option.toList_some, Option.toList_none, List.cons_append, List.nil_append]
    rw [gX10_meet_8]
    simp only [ty_21, pc_21_1 hp, ty_33, true_and, and_true, Option.some.injEq, exists_eq_left']
    rw [s_who hp hc0 hn6]
    simp only [Option.toList_some, Option.toList_none, List.cons_append, List.nil_append]
    rw [show (Value.ref 21) = .ref 21 from rfl, gX10_meet_18]
    simp only [Option.elim_none]
    exact ⟨_, rfl, ra hA⟩
  | true =>
  obtain ⟨w, hw, rfl⟩ := inR_get hA
  rw [s_who_t hp hc0 hn6 hw]
  simp only [Option.toList_some, Option.toList_none, List.cons_append, List.nil_append]
  rw [gX10_meet_8]
  simp only [ty_21, pc_21_1 hp, ty_33, true_and, and_true, Option.some.injEq, exists_eq_left']
  cases hA2 : inR b nw with
  | false =>
    rw [s_who_f hp hc0 hn6 hA2]
    simp only [Option.toList_some, Option.toList_none, List.cons_append, List.nil_append]
    rw [gX10_meet_18]
    simp only [Option.elim_none, Option.elim_some]
    exact ⟨_, rfl, rb hA hA2⟩
  | true =>
  obtain ⟨w2, hw2, rfl⟩ := inR_get hA2
  rw [s_who_t hp hc0 hn6 hw2]
  simp only [Option.toList_some, Option.toList_none, List.cons_append, List.nil_append]
  rw [gX10_meet_18]
  simp only [Option.elim_some]
  rw [s_isPart]
  simp only [Option.toList_some, Option.toList_none, List.cons_append, List.nil_append, rf_some]
  rw [show Value.ref (39 + w) = rf (some (39 + w)) from rfl, gX10_meet_34]
  cases hA3 : inR l3 2 with
  | false =>
    rw [if_pos (by decide)]
    refine ⟨_, rfl, ?_⟩
    rw [eX11_meet, m_isWalker hpm (by omega) hm0, hA]
    simp only [ty_82, true_and, Option.toList_some, Option.toList_none, List.cons_append, List.nil_append]
    rw [gX11_meet_5, if_neg (by decide), m_isWalker hpm (by omega) hm0, hA2]
    simp only [ty_82, true_and, Option.toList_some, Option.toList_none, List.cons_append, List.nil_append]
    rw [gX11_meet_13, if_neg (by decide), show (2 : Int32) = vI 2 from rfl, m_isIn (by decide), hA3]
    simp only [Option.toList_some, Option.toList_none, List.cons_append, List.nil_append]
    rw [gX11_meet_21, if_pos (by decide)]
    exact ⟨rfl, hI1⟩
  | true =>
  rw [if_neg (by decide)]
  have qab : (vI w = vI w2) = (w = w2) := vI_inj (by omega) (by omega)
  by_cases hab : w = w2
  · rw [if_pos (by rw [qab]; exact hab)]
    refine ⟨_, rfl, ?_⟩
    rw [eX11_meet, m_isWalker hpm (by omega) hm0, hA]
    simp only [ty_82, true_and, Option.toList_some, Option.toList_none, List.cons_append, List.nil_append]
    rw [gX11_meet_5, if_neg (by decide), m_isWalker hpm (by omega) hm0, hA2]
    simp only [ty_82, true_and, Option.toList_some, Option.toList_none, List.cons_append, List.nil_append]
    rw [gX11_meet_13, if_neg (by decide), show (2 : Int32) = vI 2 from rfl, m_isIn (by decide), hA3]
    simp only [Option.toList_some, Option.toList_none, List.cons_append, List.nil_append]
    rw [gX11_meet_21, if_neg (by decide), if_pos (by rw [qab]; exact hab)]
    exact ⟨rfl, hI1⟩
  rw [if_neg (by rw [qab]; exact hab)]
  obtain ⟨kd, v, c, f, bt, gn, cm, k1, k2, k3, k4, hvl, hWK, hMW⟩ := hW w hw
  obtain ⟨kd2, v2, c2, f2, bt2, gn2, cm2, j1, j2, j3, j4, hvl2, hWK2, hMW2⟩ := hW w2 hw2
  have hQ := QC_inv hI hld hL hB
  have hb8 := modR (bt := bt) hB
  have hb82 := modR (bt := bt2) hB
  have hbb := hB
  unfold bnL at hbb
  simp only [ty_21, pc_21_1 hp, pc_21_5 hp, ty_33, ty_58, hld, rf_some, true_and, and_true, Option.some.injEq, exists_eq_left']
  refine s_alone CrT_58 hQ.2.2.2.2.1 hL hB (by omega) hWK (by omega) hvl.1 hvl.2.1 hvl.2.2.1 (fun M1 hF1 hS1 => ?_)
  have hQ1 := QC_58 hF1 hS1.q hQ
  simp only [Option.toList_some, Option.toList_none, List.cons_append, List.nil_append]
  rw [show Value.ref (39 + w) = rf (some (39 + w)) from rfl, gX10_meet_63]
  simp only [ty_21, pc_21_1 hQ1.1, pc_21_6 hQ1.1, ty_33, ty_62, hQ1.2.1, rf_some, true_and, and_true, Option.some.injEq, exists_eq_left']
  refine s_alone CrT_62 hQ1.2.2.2.2.2.1 hQ1.2.2.1 hB (by omega) (WK_58 hF1 (by omega) hWK2) (by omega) hvl2.1 hvl2.2.1 hvl2.2.2.1 (fun M2 hF2 hS2 => ?_)
  have hQ2 := QC_62 hF2 hS2.q hQ1
  simp only [Option.toList_some, Option.toList_none, List.cons_append, List.nil_append]
  rw [show Value.ref (39 + w) = rf (some (39 + w)) from rfl, gX10_meet_79]
  refine s_meet_loop (gn := gn) (gn2 := gn2) k1 k2 (by omega) j1 j2 (by omega) (b0 := bt % (onN + bk)) (b02 := bt2 % (onN + bk)) (A := A0s c f cm) (B := A0s c2 f2 cm2) (vI w) (vI w2) l3 _ _ 41 0 rfl M2 _ hQ2 (by
    rw [Nat.add_zero, Nat.add_zero, Nat.mod_mod]; exact CrS_fr hF2 (fun a h1 h2 => by unfold inS; omega) hS1) (by
    rw [Nat.add_zero, Nat.add_zero, Nat.mod_mod]; exact hS2) (fun M3 hF23 hO3 => ?_)
  have hF3 : FM S66 M M3 := ((hF1.mono (fun a ha => by unfold inS at ha; unfold S66; omega)).trans (hF2.mono (fun a ha => by unfold inS at ha; unfold S66; omega))).trans hF23
  refine ⟨_, rfl, ?_⟩
  have hI3 := INV_fm hF3 Sq_66 hO3 hI1
  have hpm3 := PM_58 hF3 Sq_66 hpm
  have hE3 := ME_58 hF3 Sq_66 hE
  have hMW3 := MW_58 hF3 Sq_66 hMW
  have hMW32 := MW_58 hF3 Sq_66 hMW2
  have hm03 : mI M3 83 0 = vI nw := by rw [r83_58 hF3 Sq_66]; exact hm0
  rw [eX11_meet, m_isWalker hpm3 (by omega) hm03, hA]
  simp only [ty_82, true_and, Option.toList_some, Option.toList_none, List.cons_append, List.nil_append]
  rw [gX11_meet_5, if_neg (by decide), m_isWalker hpm3 (by omega) hm03, hA2]
  simp only [ty_82, true_and, Option.toList_some, Option.toList_none, List.cons_append, List.nil_append]
  rw [gX11_meet_13, if_neg (by decide), show (2 : Int32) = vI 2 from rfl, m_isIn (by decide), hA3]
  simp only [Option.toList_some, Option.toList_none, List.cons_append, List.nil_append]
  rw [gX11_meet_21, if_neg (by decide), if_neg (by rw [qab]; exact hab), m_beatOf hpm3 hE3 hB (by omega) hMW3.2.2.2.2.1 (by omega)]
  simp only [ty_82, true_and, Option.toList_some, Option.toList_none, List.cons_append, List.nil_append]
  rw [gX11_meet_41]
  refine ⟨by simp only [ty_82], ?_⟩
  refine m_beginsAs (mk := mk) (onN := onN) (bk := bk) hvl hpm3 (by omega) hMW3 (fun M4 hF4 hN4 => ?_)
  simp only [Option.toList_some, Option.toList_none, List.cons_append, List.nil_append]
  rw [gX11_meet_44]
  refine m_meet47 k1 k2 hB (by omega) (by omega) (okA_0 hvl) (vI w) (vI w2) l3 41 0 rfl M4 (PM_fn hF4 hpm3) (ME_fn hF4 hE3) (fun h => absurd h (by decide)) (fun _ => hN4) (fun u hu => absurd hu (Nat.not_lt_zero u)) (fun M5 hF5 h94 => ?_)
  have hF35 := (FP.of hF4).trans hF5
  have hpm5 := PM_fp hF35 hpm3
  have hE5 := ME_fp hF35 hE3
  have hMW5 := MW_fp hF35 hMW32
  rw [gX11_meet_47, if_pos (by decide), m_beatOf hpm5 hE5 hB (by omega) hMW5.2.2.2.2.1 (by omega)]
  simp only [ty_82, true_and, Option.toList_some, Option.toList_none, List.cons_append, List.nil_append]
  rw [gX11_meet_87]
  refine ⟨by simp only [ty_82], ?_⟩
  refine m_beginsAs (mk := mk) (onN := onN) (bk := bk) hvl2 hpm5 (by omega) hMW5 (fun M6 hF6 hN6 => ?_)
  simp only [Option.toList_some, Option.toList_none, List.cons_append, List.nil_append]
  rw [gX11_meet_90]
  have hl6 : mL M6 94 = mL M5 94 := (hF6.2.1 94 (by decide) (by decide)).2.1
  exact m_meet93 j1 j2 hB (by omega) (by omega) (A1 := A0s c f cm) (B1 := rq anyS mk kd v onN bk (bt % (onN + bk)) gn (A0s c f cm)) (okA_0 hvl2) (vI w) (vI w2) l3 41 0 rfl M6 _ (PM_fn hF6 hpm5) (ME_fn hF6 hE5) (fun h => absurd h (by decide)) (fun _ => hN6) (fun u hu => by rw [hl6]; exact h94 u hu) (fun M7 hF7 => ⟨rfl, INV_fn (hF6.trans hF7) (INV_fp hF35 hI3)⟩)
end Meet
