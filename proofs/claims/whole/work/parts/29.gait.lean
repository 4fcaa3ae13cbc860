/-! ===== 29: the class's LANDS and gait ===== -/
noncomputable def pB (P : Prop) : Bool := @decide P (Classical.propDecidable P)
theorem pB_t (P : Prop) : (pB P = true) = P := by unfold pB; simp
theorem pB_f (P : Prop) : (pB P = false) = ¬ P := by unfold pB; simp
theorem pB_congr {P P2 : Prop} (h : P ↔ P2) : pB P = pB P2 := by rw [propext h]
theorem pB_T {P : Prop} (h : P) : pB P = true := by rw [pB_t]; exact h
theorem pB_F {P : Prop} (h : ¬ P) : pB P = false := by rw [pB_f]; exact h
theorem qL {Q : Option Value → MM → Prop} {M : MM} {a b : Int64} (h : a = b) : Q (some (.long a)) M = Q (some (.long b)) M := by rw [h]
theorem qI {Q : Option Value → MM → Prop} {M : MM} {a b : Int32} (h : a = b) : Q (some (.int a)) M = Q (some (.int b)) M := by rw [h]
/- masks of six steps -/
noncomputable def eB (P : Prop) : Nat := @ite _ P (Classical.propDecidable P) 1 0
theorem eB_t {P : Prop} (h : P) : eB P = 1 := if_pos h
theorem eB_f {P : Prop} (h : ¬ P) : eB P = 0 := if_neg h
theorem eB_le (P : Prop) : eB P ≤ 1 := by
  by_cases h : P
  · rw [eB_t h]; decide
  · rw [eB_f h]; decide
theorem eB_1 (P : Prop) : (eB P = 1) = P := by
  by_cases h : P
  · rw [eB_t h]; simp [h]
  · rw [eB_f h]; simp [h]
noncomputable def mb (p : Nat → Prop) : Nat → Nat
  | 0 => 0
  | n + 1 => mb p n + eB (p n) * 2 ^ n
theorem mb_lt (p : Nat → Prop) : ∀ n : Nat, mb p n < 2 ^ n
  | 0 => by show 0 < 1; decide
  | n + 1 => by
    have h1 := mb_lt p n
    have h2 := eB_le (p n)
    have h3 : eB (p n) * 2 ^ n ≤ 1 * 2 ^ n := Nat.mul_le_mul_right _ h2
    rw [mb, Nat.pow_succ]; omega
theorem mb6 (p : Nat → Prop) : mb p 6 = eB (p 0) + 2 * eB (p 1) + 4 * eB (p 2) + 8 * eB (p 3) + 16 * eB (p 4) + 32 * eB (p 5) := by
  simp only [mb]; omega
theorem mb6_bit (p : Nat → Prop) {a : Nat} (ha : a < 6) : mb p 6 / 2 ^ a % 2 = eB (p a) := by
  rw [mb6]
  have h0 := eB_le (p 0)
  have h1 := eB_le (p 1)
  have h2 := eB_le (p 2)
  have h3 := eB_le (p 3)
  have h4 := eB_le (p 4)
  have h5 := eB_le (p 5)
  match a, ha with
  | 0, _ => show _ / 1 % 2 = _; omega
  | 1, _ => show _ / 2 % 2 = _; omega
  | 2, _ => show _ / 4 % 2 = _; omega
  | 3, _ => show _ / 8 % 2 = _; omega
  | 4, _ => show _ / 16 % 2 = _; omega
  | 5, _ => show _ / 32 % 2 = _; omega
theorem mask_or_dec : ∀ n : Nat, n < 6 → ∀ y : Nat, y < 64 → y < 2 ^ n → vI y ||| iShl 1 (vI n) = vI (y + 2 ^ n) := by decide +kernel
theorem mask_bit_dec : ∀ a : Nat, a < 6 → ∀ y : Nat, y < 64 → (iShr (vI y) (vI a) &&& 1) = vI (y / 2 ^ a % 2) := by decide +kernel
theorem mb_lt64 (p : Nat → Prop) : mb p 6 < 64 := mb_lt p 6
theorem mb_or (p : Nat → Prop) {n : Nat} (hn : n < 6) (h : p n) : vI (mb p n) ||| iShl 1 (vI n) = vI (mb p (n + 1)) := by
  have h1 := mb_lt p n
  have h2 : 2 ^ n ≤ 2 ^ 5 := Nat.pow_le_pow_right (by decide) (by omega)
  rw [mask_or_dec n hn _ (by omega) h1, mb, eB_t h, Nat.one_mul]
theorem mb_no (p : Nat → Prop) {n : Nat} (h : ¬ p n) : mb p (n + 1) = mb p n := by rw [mb, eB_f h, Nat.zero_mul, Nat.add_zero]
theorem mb_bit (p : Nat → Prop) {a : Nat} (ha : a < 6) : (iShr (vI (mb p 6)) (vI a) &&& 1) = vI (eB (p a)) := by
  rw [mask_bit_dec a ha _ (mb_lt64 p), mb6_bit p ha]
theorem mb_bit0 (p : Nat → Prop) {a : Nat} (ha : a < 6) : ((iShr (vI (mb p 6)) (vI a) &&& 1) = 0) = ¬ p a := by
  rw [mb_bit p ha]
  by_cases h : p a
  · rw [eB_t h]; simp [h]; decide
  · rw [eB_f h]; simp [h]; decide
theorem mb_bit1 (p : Nat → Prop) {a : Nat} (ha : a < 6) : ((iShr (vI (mb p 6)) (vI a) &&& 1) = 1) = p a := by
  rw [mb_bit p ha]
  by_cases h : p a
  · rw [eB_t h]; simp [h]; decide
  · rw [eB_f h]; simp [h]; decide
theorem mb_congr {p q : Nat → Prop} : ∀ n : Nat, (∀ a : Nat, a < n → (p a ↔ q a)) → mb p n = mb q n
  | 0, _ => rfl
  | n + 1, h => by rw [mb, mb, mb_congr n (fun a ha => h a (by omega)), propext (h n (by omega))]
/- small helpers of the class -/
section Help
variable {d : Nat} {M : MM} {Q : Option Value → MM → Prop}
theorem s_isCell (c : Int32) : CL d kX10_isCell [.int c] M Q = Q (some (.int (b2i (inR c 36)))) M := by
  rw [eX10_isCell]; exact inR_ck (n := 36) (by decide) c (fun z => Q (some (.int z)) M)
theorem s_isWay (c : Int32) : CL d kX10_isWay [.int c] M Q = Q (some (.int (b2i (inR c 4)))) M := by
  rw [eX10_isWay]; exact inR_ck (n := 4) (by decide) c (fun z => Q (some (.int z)) M)
theorem s_isKind (c : Int32) : CL d kX10_isKind [.int c] M Q = Q (some (.int (b2i (inR c 7)))) M := by
  rw [eX10_isKind]; exact inR_ck (n := 7) (by decide) c (fun z => Q (some (.int z)) M)
theorem s_isNumber (c : Int32) : CL d kX10_isNumber [.int c] M Q = Q (some (.int (b2i (inR c 10)))) M := by
  rw [eX10_isNumber]; exact inR_ck (n := 10) (by decide) c (fun z => Q (some (.int z)) M)
theorem s_isStep (c : Int32) : CL d kX10_isStep [.int c] M Q = Q (some (.int (b2i (inR c 6)))) M := by
  rw [eX10_isStep]; exact inR_ck (n := 6) (by decide) c (fun z => Q (some (.int z)) M)
theorem inR_part (c : Int32) : inR c 2 = (decide (c = 0) || decide (c = 1)) := by
  by_cases h0 : c = 0
  · subst h0; decide
  · by_cases h1 : c = 1
    · subst h1; decide
    · cases h : inR c 2 with
      | false => simp [h0, h1]
      | true =>
        obtain ⟨x, hx, rfl⟩ := inR_get h
        have : x = 0 ∨ x = 1 := by omega
        rcases this with rfl | rfl
        · exact absurd rfl h0
        · exact absurd rfl h1
theorem s_isPart (c : Int32) : CL d kX10_isPart [.int c] M Q = Q (some (.int (b2i (inR c 2)))) M := by
  rw [eX10_isPart, inR_part]
  by_cases h0 : c = 0
  · simp [h0, b2i]
  · by_cases h1 : c = 1
    · simp [h1, b2i]
    · simp [h0, h1, b2i]
theorem s_holds (p : Nat → Prop) {c : Nat} (hc : c < 36) : CL d kX10_holds [.long (zb p), .int (vI c)] M Q = Q (some (.int (b2i (pB (p c))))) M := by
  rw [eX10_holds]
  by_cases h : p c
  · rw [if_neg (by rw [lg_0, zb_hold p hc]; exact not_not_intro h), pB_T h]; rfl
  · rw [if_pos (by rw [lg_0, zb_hold p hc]; exact h), pB_F h]; rfl
theorem across_dec : ∀ f : Nat, f < 4 → (vI f + 2) &&& 3 = vI (rvw f) := by decide +kernel
theorem s_across {f : Nat} (hf : f < 4) : CL d kX10_across [.int (vI f)] M Q = Q (some (.int (vI (rvw f)))) M := by rw [eX10_across, across_dec f hf]
theorem s_next {c w : Nat} (hc : c < 36) (hw : w < 5) (h : ok c w) : CL d kX10_next [.int (vI c), .int (vI w)] M Q = Q (some (.int (vI (nxc c w)))) M := by
  rw [eX10_next]
  have h5 : w = 0 ∨ w = 1 ∨ w = 2 ∨ w = 3 ∨ w = 4 := by omega
  rcases h5 with rfl | rfl | rfl | rfl | rfl
  · have h6 : 6 ≤ c := by omega
    rw [if_pos (by decide)]; exact qI (vI_sub (a := c) (b := 6) h6)
  · rw [if_neg (by decide), if_pos (by decide)]; exact qI (vI_add c 1)
  · rw [if_neg (by decide), if_neg (by decide), if_pos (by decide)]; exact qI (vI_add c 6)
  · have h6 : 1 ≤ c := by omega
    rw [if_neg (by decide), if_neg (by decide), if_neg (by decide), if_pos (by decide)]; exact qI (vI_sub (a := c) (b := 1) h6)
  · rw [if_neg (by decide), if_neg (by decide), if_neg (by decide), if_neg (by decide)]; rfl
theorem s_facingBy {a f : Nat} (ha : a < 6) : CL d kX10_facingBy [.int (vI a), .int (vI f)] M Q = Q (some (.int (vI (tf f a)))) M := by
  rw [eX10_facingBy]
  simp (disch := omega) only [lt_nl]
  rw [tf]
  by_cases h : a < 4
  · rw [if_pos h, if_pos h]
  · rw [if_neg h, if_neg h]
theorem s_cameBy {a f w kd : Nat} (ha : a < 6) (hf : f < 4) (hw : w < 5) : CL (d + 1) kX10_cameBy [.int (vI a), .int (vI (wy kd f w a)), .int (vI w)] M Q = Q (some (.int (vI (tw kd f w a)))) M := by
  have hy := wy_lt (kd := kd) (a := a) hf hw
  rw [eX10_cameBy]
  simp (disch := omega) only [eq_nl]
  rw [tw]
  by_cases h : a = 5
  · rw [if_pos h, if_pos h]
  · rw [if_neg h, if_neg h]
    by_cases h4 : wy kd f w a = 4
    · rw [if_pos h4, h4]; rfl
    · rw [if_neg h4, s_across (by omega)]
      simp only [Option.toList_some, Option.toList_none, List.cons_append, List.nil_append]
      rw [gX10_cameBy_20]
theorem s_moved (p : Nat → Prop) {w : Nat} (hw : w < 5) : CL d kX10_moved [.long (zb p), .int (vI w)] M Q = Q (some (.long (zb (fun i => ok i (rvw w) ∧ p (nxc i (rvw w)))))) M := by
  rw [eX10_moved]
  have h5 : w = 0 ∨ w = 1 ∨ w = 2 ∨ w = 3 ∨ w = 4 := by omega
  rcases h5 with rfl | rfl | rfl | rfl | rfl
  · rw [if_pos (by decide)]
    refine qL (bt_ext fun i hi => ?_)
    rw [show (6 : Int32) = vI 6 from rfl, bt_ushr _ (by decide), bt_zb, bt_zb]
    show _ ↔ i < 36 ∧ ok i 2 ∧ p (i + 6)
    rw [Nat.add_comm 6 i]
    constructor
    · rintro ⟨h1, h2⟩; exact ⟨by omega, by omega, h2⟩
    · rintro ⟨h1, h2, h3⟩; exact ⟨by omega, h3⟩
  · rw [if_neg (by decide), if_pos (by decide)]
    refine qL (bt_ext fun i hi => ?_)
    rw [show (1 : Int32) = vI 1 from rfl, bt_shl _ (by decide) hi, bt_and, bt_zb, bt_zb]
    show _ ↔ i < 36 ∧ ok i 3 ∧ p (i - 1)
    constructor
    · rintro ⟨h1, ⟨h2, h3⟩, h4⟩
      have h5 := (bt_rt (i - 1) h2).mp h4
      exact ⟨by omega, by omega, h3⟩
    · rintro ⟨h1, h2, h3⟩; exact ⟨by omega, ⟨by omega, h3⟩, (bt_rt (i - 1) (by omega)).mpr (by omega)⟩
  · rw [if_neg (by decide), if_neg (by decide), if_pos (by decide)]
    refine qL (bt_ext fun i hi => ?_)
    rw [show (6 : Int32) = vI 6 from rfl, bt_and, bt_shl _ (by decide) hi, bt_zb, bt_zb, bt_gr i hi]
    show _ ↔ i < 36 ∧ ok i 0 ∧ p (i - 6)
    constructor
    · rintro ⟨⟨h1, h2, h3⟩, h4⟩; exact ⟨h4, by omega, h3⟩
    · rintro ⟨h1, h2, h3⟩; exact ⟨⟨by omega, by omega, h3⟩, h1⟩
  · rw [if_neg (by decide), if_neg (by decide), if_neg (by decide), if_pos (by decide)]
    refine qL (bt_ext fun i hi => ?_)
    rw [show (1 : Int32) = vI 1 from rfl, bt_ushr _ (by decide), bt_and, bt_zb, bt_zb]
    show _ ↔ i < 36 ∧ ok i 1 ∧ p (i + 1)
    rw [Nat.add_comm 1 i]
    constructor
    · rintro ⟨⟨h2, h3⟩, h4⟩
      have h5 := (bt_lf (i + 1) h2).mp h4
      exact ⟨by omega, by omega, h3⟩
    · rintro ⟨h1, h2, h3⟩; exact ⟨⟨by omega, h3⟩, (bt_lf (i + 1) (by omega)).mpr (by omega)⟩
  · rw [if_neg (by decide), if_neg (by decide), if_neg (by decide), if_neg (by decide)]
    exact qL (zb_congr fun i _ => ⟨fun h => ⟨ok4 i, h⟩, fun h => h.2⟩)
end Help
/- LANDS and gait as cells -/
def lq (p qo qf : Nat) : Prop := (p = 29 ∧ qo = 31 ∧ qf = 32) ∨ (101 ≤ p ∧ qo = p + 1 ∧ qf = p + 2)
def LandC (M : MM) (p onN bk : Nat) (mk : Nat → Nat → Prop) : Prop :=
  (TY p).1 = 3 ∧ mI M p 0 = vI onN ∧ mI M p 1 = vI bk ∧ (∀ k : Nat, k < 4 → mL M p (2 + k) = zb (mk k)) ∧ mL M p 8 = zb (fun c => ¬ mk 2 c ∧ ¬ mk 3 c) ∧ mL M p 9 = zb (fun c => ¬ mk 2 c ∧ ¬ mk 3 c ∧ ¬ mk 0 c ∧ ¬ mk 1 c) ∧
  ∃ qo qf : Nat, lq p qo qf ∧ mR M p 6 = some qo ∧ TY qo = (21, 4) ∧ mR M p 7 = some qf ∧ TY qf = (21, 4) ∧ (∀ w : Nat, w < 4 → mL M qo w = zb (fun c => ok c w ∧ ¬ mk 0 (nxc c w))) ∧ (∀ w : Nat, w < 4 → mL M qf w = zb (fun c => ok c w ∧ ¬ mk 0 (nxc c w) ∧ ¬ mk 1 (nxc c w)))
def GA (M : MM) (g p kd v b gn : Nat) : Prop := (TY g).1 = 2 ∧ mR M g 0 = some p ∧ mI M g 1 = vI kd ∧ mI M g 2 = vI v ∧ mI M g 3 = vI b ∧ mI M g 4 = vI gn
def bnd (kd v b gn : Nat) : Prop := kd < 7 ∧ v < 10 ∧ b < 8 ∧ gn < 1000
def bnL (onN bk : Nat) : Prop := 0 < onN ∧ onN < 5 ∧ 0 < bk ∧ bk < 5
theorem and3 : ∀ w : Nat, w < 4 → vI w &&& 3 = vI w := by decide +kernel
section Gait
variable {d : Nat} {M : MM} {Q : Option Value → MM → Prop} {p onN bk : Nat} {mk : Nat → Nat → Prop} {g kd v b gn : Nat}
theorem s_rhythm (hL : LandC M p onN bk mk) : CL d kX3_rhythm [.ref p] M Q = Q (some (.int (vI (onN + bk)))) M := by
  obtain ⟨hT, h0, h1, -⟩ := hL
  rw [eX3_rhythm, h0, h1, vI_add]; simp only [hT, true_and]
theorem s_beat (hL : LandC M p onN bk mk) (hB : bnL onN bk) {x : Nat} (hx : x < 2147483648) : CL (d + 1) kX3_beat [.ref p, .int (vI x)] M Q = Q (some (.int (vI (x % (onN + bk))))) M := by
  have hT := hL.1
  obtain ⟨h1, h2, h3, h4⟩ := hB
  rw [eX3_beat, s_rhythm hL]
  simp only [hT, true_and, Option.toList_some, Option.toList_none, List.cons_append, List.nil_append]
  rw [gX3_beat_4]
  simp (disch := omega) only [lt_ln, eq_nl]
  rw [vI_rem hx (by omega), if_pos (by omega)]
  simp only [show ¬ onN + bk = 0 by omega, not_false_eq_true, true_and]
theorem s_marked (hL : LandC M p onN bk mk) {k : Nat} (hk : k < 4) : CL d kX3_marked [.ref p, .int (vI k)] M Q = Q (some (.long (zb (mk k)))) M := by
  obtain ⟨hT, -, -, hm, -⟩ := hL
  rw [eX3_marked]
  have h4 : k = 0 ∨ k = 1 ∨ k = 2 ∨ k = 3 := by omega
  rcases h4 with rfl | rfl | rfl | rfl
  · rw [if_pos (by decide), ← hm 0 (by decide)]; simp only [hT, true_and]
  · rw [if_neg (by decide), if_pos (by decide), ← hm 1 (by decide)]; simp only [hT, true_and]
  · rw [if_neg (by decide), if_neg (by decide), if_pos (by decide), ← hm 2 (by decide)]; simp only [hT, true_and]
  · rw [if_neg (by decide), if_neg (by decide), if_neg (by decide), ← hm 3 (by decide)]; simp only [hT, true_and]
theorem s_onward (hL : LandC M p onN bk mk) {x f : Nat} (hx : x < 4) (hf : f < 4) : CL d kX3_onward [.ref p, .int (vI x), .int (vI f)] M Q = Q (some (.long (zb (fun c => onw mk c x f)))) M := by
  obtain ⟨hT, -, -, -, -, -, qo, qf, -, h6, hTo, h7, hTf, ho, hff⟩ := hL
  rw [eX3_onward]
  simp (disch := omega) only [vI_inj]
  rw [and3 x hx]
  by_cases h : x = f
  · subst h
    rw [if_pos rfl]
    simp (disch := omega) only [hT, h6, hTo, inb_n, vI_cl, hx, ho x hx, true_and, and_true, Option.some.injEq, exists_eq_left']
    exact qL (zb_congr fun c _ => ⟨fun h => ⟨h.1, h.2, Or.inl rfl⟩, fun h => ⟨h.1, h.2.1⟩⟩)
  · rw [if_neg h]
    simp (disch := omega) only [hT, h7, hTf, inb_n, vI_cl, hx, hff x hx, true_and, and_true, Option.some.injEq, exists_eq_left']
    exact qL (zb_congr fun c _ => ⟨fun h2 => ⟨h2.1, h2.2.1, Or.inr h2.2.2⟩, fun h2 => ⟨h2.1, h2.2.1, h2.2.2.elim (fun h3 => absurd h3 h) id⟩⟩)
theorem s_backward (hL : LandC M p onN bk mk) {w : Nat} (hw : w < 5) : CL d kX3_backward [.ref p, .int (vI w)] M Q = Q (some (.long (zb (fun c => bkw mk c w)))) M := by
  obtain ⟨hT, -, -, -, h8, h9, qo, qf, -, h6, hTo, h7, hTf, ho, hff⟩ := hL
  rw [eX3_backward]
  simp (disch := omega) only [eq_nl]
  by_cases h : w = 4
  · subst h
    rw [if_pos (by decide)]
    simp only [hT, h9, true_and]
    exact qL (zb_congr fun c _ => ⟨fun h => ⟨ok4 c, h.2.2.1, h.2.2.2, h.1, h.2.1⟩, fun h => ⟨h.2.2.2.1, h.2.2.2.2, h.2.1, h.2.2.1⟩⟩)
  · have hw4 : w < 4 := by omega
    rw [if_neg h, and3 w hw4]
    simp (disch := omega) only [hT, h7, hTf, inb_n, vI_cl, hw4, hff w hw4, h8, zb_and, true_and, and_true, Option.some.injEq, exists_eq_left']
    exact qL (zb_congr fun c _ => ⟨fun h => ⟨h.1.1, h.1.2.1, h.1.2.2, h.2.1, h.2.2⟩, fun h => ⟨⟨h.1, h.2.1, h.2.2.1⟩, h.2.2.2.1, h.2.2.2.2⟩⟩)
theorem s_isOn (hG : GA M g p kd v b gn) (hL : LandC M p onN bk mk) (hn : bnd kd v b gn) (hB : bnL onN bk) : CL d kX2_isOn [.ref g] M Q = Q (some (.int (b2i (pB (b < onN))))) M := by
  obtain ⟨hg, hr, hk, hv, hb, hgn⟩ := hG
  obtain ⟨n1, n2, n3, n4⟩ := hn
  obtain ⟨b1, b2, b3, b4⟩ := hB
  rw [eX2_isOn]
  simp (disch := omega) only [hg, hr, hL.1, hb, hL.2.1, vI_lt, true_and, and_true, Option.some.injEq, exists_eq_left']
  by_cases h : b < onN
  · rw [if_pos h, pB_T h]; rfl
  · rw [if_neg h, pB_F h]; rfl
theorem s_rests (hG : GA M g p kd v b gn) (hL : LandC M p onN bk mk) (hn : bnd kd v b gn) (hB : bnL onN bk) : CL (d + 1) kX2_rests [.ref g] M Q = Q (some (.int (b2i (pB (b < onN ∧ kd = 6 ∧ 0 < v ∧ gn % v = 0))))) M := by
  obtain ⟨hg, hr, hk, hv, hb, hgn⟩ := id hG
  obtain ⟨n1, n2, n3, n4⟩ := id hn
  have hz0 : gn % v < 2147483648 := Nat.lt_of_le_of_lt (Nat.mod_le _ _) (by omega)
  rw [eX2_rests]
  simp (disch := omega) only [hg, hk, eq_nl, true_and, s_isOn hG hL hn hB, Option.toList_some, Option.toList_none, List.cons_append, List.nil_append]
  by_cases h6 : kd = 6
  · rw [if_pos h6, gX2_rests_13]
    simp (disch := omega) only [hg, hv, hgn, b2i_0, pB_f, lt_ln, eq_nl, vI_rem, true_and]
    by_cases ho : b < onN
    · rw [if_neg (not_not_intro ho)]
      by_cases h0 : 0 < v
      · rw [if_pos h0]
        simp only [show ¬ v = 0 by omega, not_false_eq_true, true_and]
        by_cases hz : gn % v = 0
        · rw [if_pos hz, pB_T ⟨ho, h6, h0, hz⟩]; rfl
        · rw [if_neg hz, pB_F (fun h => hz h.2.2.2)]; rfl
      · rw [if_neg h0, pB_F (fun h => h0 h.2.2.1)]; rfl
    · rw [if_pos ho, pB_F (fun h => ho h.1)]; rfl
  · rw [if_neg h6, pB_F (fun h => h6 h.2.1)]; rfl
theorem s_isRound (hG : GA M g p kd v b gn) (hn : bnd kd v b gn) : CL d kX2_isRound [.ref g] M Q = Q (some (.int (b2i (pB (kd = 2 ∨ kd = 5))))) M := by
  obtain ⟨hg, hr, hk, hv, hb, hgn⟩ := id hG
  obtain ⟨n1, n2, n3, n4⟩ := id hn
  rw [eX2_isRound]
  simp (disch := omega) only [hg, hk, eq_nl, true_and]
  by_cases h2 : kd = 2
  · rw [if_pos h2, pB_T (Or.inl h2)]; rfl
  · rw [if_neg h2]
    by_cases h5 : kd = 5
    · rw [if_pos h5, pB_T (Or.inr h5)]; rfl
    · rw [if_neg h5, pB_F (fun h => h.elim h2 h5)]; rfl
theorem s_way (hG : GA M g p kd v b gn) (hn : bnd kd v b gn) {a f w : Nat} (ha : a < 6) (hf : f < 4) (hw : w < 5) : CL (d + 1) kX2_way [.ref g, .int (vI a), .int (vI f), .int (vI w)] M Q = Q (some (.int (vI (wy kd f w a)))) M := by
  have hg := hG.1
  rw [eX2_way]
  simp (disch := omega) only [eq_nl]
  rw [wy]
  by_cases h4 : a = 4
  · subst h4
    rw [if_pos (by decide), if_neg (by decide), if_pos (by decide), s_isRound hG hn]
    simp only [hg, true_and, Option.toList_some, Option.toList_none, List.cons_append, List.nil_append]
    rw [gX2_way_34]
    simp (disch := omega) only [b2i_0, pB_f]
    rw [s_across hf]
    simp only [Option.toList_some, Option.toList_none, List.cons_append, List.nil_append]
    rw [gX2_way_45, bwy]
    by_cases h : kd = 2 ∨ kd = 5
    · rw [if_neg (not_not_intro h), if_pos h]
    · rw [if_pos h, if_neg h]
  · rw [if_neg h4]
    by_cases h5 : a = 5
    · subst h5; rw [if_pos (by decide), if_neg (by decide), if_neg (by decide)]; rfl
    · rw [if_neg h5, if_pos (by omega)]
theorem s_ons (hG : GA M g p kd v b gn) (hL : LandC M p onN bk mk) (hn : bnd kd v b gn) {f x : Nat} (hf : f < 4) (hx : x < 4) : CL (d + 1) kX2_ons [.ref g, .int (vI x), .int (vI f)] M Q = Q (some (.long (zb (fun c => ons mk kd v gn c f x)))) M := by
  obtain ⟨hg, hr, hk, hv, hb, hgn⟩ := id hG
  obtain ⟨n1, n2, n3, n4⟩ := id hn
  have hrf := rv_lt4 hf
  rw [eX2_ons]
  simp only [hg, hr, hL.1, s_onward hL hx hf, true_and, and_true, Option.some.injEq, exists_eq_left', Option.toList_some, Option.toList_none, List.cons_append, List.nil_append]
  rw [gX2_ons_9, s_across hf]
  simp only [Option.toList_some, Option.toList_none, List.cons_append, List.nil_append]
  rw [gX2_ons_56]
  simp (disch := omega) only [hg, hr, hL.1, hk, hv, hgn, s_onward hL hf hf, eq_nl, vI_inj, vI_add, rem_nl, true_and, and_true, Option.some.injEq, exists_eq_left', Option.toList_some, Option.toList_none, List.cons_append, List.nil_append]
  rw [gX2_ons_126]
  by_cases h1 : kd = 1
  · rw [if_pos h1]
    exact qL (zb_congr fun c _ => ⟨fun h => ⟨h, Or.inl h1⟩, fun h => h.1⟩)
  rw [if_neg h1]
  by_cases h4 : kd = 4
  · rw [if_pos h4]
    by_cases hv4 : x = v % 4
    · rw [if_pos hv4, zb_0]
      refine qL (zb_congr fun c _ => ⟨fun h => h.elim, fun h => ?_⟩)
      rcases h.2 with h | h | h
      · exact h1 h
      · exact h.2 hv4
      · exact h.2.1 h4
    · rw [if_neg hv4]
      exact qL (zb_congr fun c _ => ⟨fun h => ⟨h, Or.inr (Or.inl ⟨h4, hv4⟩)⟩, fun h => h.1⟩)
  rw [if_neg h4]
  by_cases hxf : x = f
  · rw [if_pos hxf]
    exact qL (zb_congr fun c _ => ⟨fun h => ⟨h, Or.inr (Or.inr ⟨h1, h4, Or.inl hxf⟩)⟩, fun h => h.1⟩)
  rw [if_neg hxf]
  by_cases hxr : x = rvw f
  · rw [if_pos hxr, zb_0]
    refine qL (zb_congr fun c _ => ⟨fun h => h.elim, fun h => ?_⟩)
    rcases h.2 with h | h | h
    · exact h1 h
    · exact h4 h.1
    · exact h.2.2.elim hxf (fun h => h.1 hxr)
  rw [if_neg hxr]
  have key : ∀ c : Nat, ons mk kd v gn c f x ↔ (onw mk c x f ∧ (kd = 3 ∨ kd = 6 → (gn + v) % 2 = 0) ∧ (kd = 5 → ¬ onw mk c f f)) := by
    intro c
    constructor
    · rintro ⟨h0, h | h | h⟩
      · exact absurd h h1
      · exact absurd h.1 h4
      · exact ⟨h0, (h.2.2.resolve_left hxf).2⟩
    · rintro ⟨h, h2⟩
      exact ⟨h, Or.inr (Or.inr ⟨h1, h4, Or.inr ⟨hxr, h2⟩⟩)⟩
  by_cases h3 : kd = 3
  · rw [if_pos h3]
    by_cases hz : (gn + v) % 2 = 0
    · rw [if_pos hz]
      exact qL (zb_congr fun c _ => by rw [key]; exact ⟨fun h => ⟨h, fun _ => hz, fun h5 => by omega⟩, fun h => h.1⟩)
    · rw [if_neg hz, zb_0]
      exact qL (zb_congr fun c _ => by rw [key]; exact ⟨fun h => h.elim, fun h => hz (h.2.1 (Or.inl h3))⟩)
  rw [if_neg h3, if_neg h4]
  by_cases h5 : kd = 5
  · rw [if_pos h5, zb_diff]
    exact qL (zb_congr fun c _ => by rw [key]; exact ⟨fun h => ⟨h.1, fun h6 => by omega, fun _ => h.2⟩, fun h => ⟨h.1, h.2.2 h5⟩⟩)
  rw [if_neg h5]
  by_cases h6 : kd = 6
  · rw [if_pos h6]
    by_cases hz : (gn + v) % 2 = 0
    · rw [if_pos hz]
      exact qL (zb_congr fun c _ => by rw [key]; exact ⟨fun h => ⟨h, fun _ => hz, fun h5 => by omega⟩, fun h => h.1⟩)
    · rw [if_neg hz, zb_0]
      exact qL (zb_congr fun c _ => by rw [key]; exact ⟨fun h => h.elim, fun h => hz (h.2.1 (Or.inr h6))⟩)
  rw [if_neg h6]
  exact qL (zb_congr fun c _ => by rw [key]; exact ⟨fun h => ⟨h, fun h7 => by omega, fun h7 => by omega⟩, fun h => h.1⟩)
theorem s_leaves (hG : GA M g p kd v b gn) (hL : LandC M p onN bk mk) (hn : bnd kd v b gn) (hB : bnL onN bk) {f w : Nat} (hf : f < 4) (hw : w < 5) : CL (d + 2) kX2_leaves [.ref g, .int (vI f), .int (vI w)] M Q = Q (some (.long (zb (fun c => (b < onN ∧ ∃ x : Nat, x < 4 ∧ ons mk kd v gn c f x) ∨ (¬ b < onN ∧ bkw mk c (bwy kd f w)))))) M := by
  obtain ⟨hg, hr, hk, hv, hb, hgn⟩ := id hG
  have hy := bwy_lt (kd := kd) hf hw
  have hT := hL.1
  rw [eX2_leaves]
  simp only [hg, s_isOn hG hL hn hB, true_and, Option.toList_some, Option.toList_none, List.cons_append, List.nil_append]
  rw [gX2_leaves_4]
  simp only [b2i_0, pB_f, hg, hr, rf_some, true_and]
  by_cases ho : b < onN
  · rw [if_neg (not_not_intro ho)]
    rw [show (0 : Int32) = vI 0 from rfl, s_ons hG hL hn hf (by decide)]
    simp only [Option.toList_some, Option.toList_none, List.cons_append, List.nil_append]
    rw [gX2_leaves_28]
    simp only [hg, true_and]
    rw [show (1 : Int32) = vI 1 from rfl, s_ons hG hL hn hf (by decide)]
    simp only [Option.toList_some, Option.toList_none, List.cons_append, List.nil_append]
    rw [gX2_leaves_34]
    simp only [hg, true_and]
    rw [show (2 : Int32) = vI 2 from rfl, s_ons hG hL hn hf (by decide)]
    simp only [Option.toList_some, Option.toList_none, List.cons_append, List.nil_append]
    rw [gX2_leaves_41]
    simp only [hg, true_and]
    rw [show (3 : Int32) = vI 3 from rfl, s_ons hG hL hn hf (by decide)]
    simp only [Option.toList_some, Option.toList_none, List.cons_append, List.nil_append]
    rw [gX2_leaves_48, zb_or, zb_or, zb_or]
    refine qL (zb_congr fun c _ => ⟨fun h => Or.inl ⟨ho, ?_⟩, fun h => ?_⟩)
    · rcases h with ((h | h) | h) | h
      · exact ⟨0, by decide, h⟩
      · exact ⟨1, by decide, h⟩
      · exact ⟨2, by decide, h⟩
      · exact ⟨3, by decide, h⟩
    · rcases h with ⟨-, x, hx, h⟩ | ⟨h, -⟩
      · have h4 : x = 0 ∨ x = 1 ∨ x = 2 ∨ x = 3 := by omega
        rcases h4 with rfl | rfl | rfl | rfl
        · exact Or.inl (Or.inl (Or.inl h))
        · exact Or.inl (Or.inl (Or.inr h))
        · exact Or.inl (Or.inr h)
        · exact Or.inr h
      · exact absurd ho h
  · rw [if_pos ho, show (4 : Int32) = vI 4 from rfl, s_way hG hn (by decide) hf hw]
    simp only [Option.toList_some, Option.toList_none, List.cons_append, List.nil_append]
    rw [gX2_leaves_18, show wy kd f w 4 = bwy kd f w from rfl, s_backward hL hy]
    simp only [hT, true_and, Option.toList_some, Option.toList_none, List.cons_append, List.nil_append]
    rw [gX2_leaves_21]
    exact qL (zb_congr fun c _ => ⟨fun h => Or.inr ⟨ho, h⟩, fun h => h.elim (fun h => absurd h.1 ho) (fun h => h.2)⟩)
theorem s_starts (hG : GA M g p kd v b gn) (hL : LandC M p onN bk mk) (hn : bnd kd v b gn) (hB : bnL onN bk) {a f w : Nat} (ha : a < 6) (hf : f < 4) (hw : w < 5) : CL (d + 3) kX2_starts [.ref g, .int (vI a), .int (vI f), .int (vI w)] M Q = Q (some (.long (zb (fun c => may mk kd v (b < onN) gn c f w a)))) M := by
  obtain ⟨hg, hr, hk, hv, hb, hgn⟩ := id hG
  have hy := bwy_lt (kd := kd) hf hw
  have hT := hL.1
  rw [eX2_starts]
  simp (disch := omega) only [eq_nl]
  by_cases h5 : a = 5
  · subst h5
    rw [if_pos (by decide), s_rests hG hL hn hB]
    simp only [hg, true_and, Option.toList_some, Option.toList_none, List.cons_append, List.nil_append]
    rw [gX2_starts_9]
    simp (disch := omega) only [b2i_0, pB_f]
    rw [s_leaves hG hL hn hB hf hw]
    simp only [hg, true_and, Option.toList_some, Option.toList_none, List.cons_append, List.nil_append]
    rw [gX2_starts_27, zb_not]
    by_cases hz : b < onN ∧ kd = 6 ∧ 0 < v ∧ gn % v = 0
    · rw [if_neg (not_not_intro hz), zb_all]
      exact qL (zb_congr fun c _ => ⟨fun _ => Or.inr (Or.inr ⟨rfl, Or.inl ⟨hz.1, Or.inl hz.2⟩⟩), fun _ => trivial⟩)
    · rw [if_pos hz]
      refine qL (zb_congr fun c _ => ⟨fun h => ?_, fun h => ?_⟩)
      · refine Or.inr (Or.inr ⟨rfl, ?_⟩)
        by_cases ho : b < onN
        · exact Or.inl ⟨ho, Or.inr (fun x hx h2 => h (Or.inl ⟨ho, x, hx, h2⟩))⟩
        · exact Or.inr ⟨ho, fun h2 => h (Or.inr ⟨ho, h2⟩)⟩
      · rcases h with h | h | h
        · exact absurd h.1 (by decide)
        · exact absurd h.1 (by decide)
        · rcases h.2 with ⟨ho, h | h⟩ | ⟨ho, h⟩
          · exact absurd ⟨ho, h⟩ hz
          · rintro (⟨-, x, hx, h2⟩ | ⟨h2, -⟩)
            · exact h x hx h2
            · exact h2 ho
          · rintro (⟨h2, -⟩ | ⟨-, h2⟩)
            · exact ho h2
            · exact h h2
  rw [if_neg h5]
  by_cases h4 : a = 4
  · subst h4
    rw [if_pos (by decide), s_isOn hG hL hn hB]
    simp only [hg, true_and, Option.toList_some, Option.toList_none, List.cons_append, List.nil_append]
    rw [gX2_starts_42]
    simp (disch := omega) only [b2i_0, pB_f]
    rw [show (4 : Int32) = vI 4 from rfl, s_way hG hn (by decide) hf hw]
    simp only [hg, hr, rf_some, true_and, Option.toList_some, Option.toList_none, List.cons_append, List.nil_append]
    rw [gX2_starts_60, show wy kd f w 4 = bwy kd f w from rfl, s_backward hL hy]
    simp only [hT, true_and, Option.toList_some, Option.toList_none, List.cons_append, List.nil_append]
    rw [gX2_starts_63]
    by_cases ho : b < onN
    · rw [if_neg (not_not_intro ho), zb_0]
      refine qL (zb_congr fun c _ => ⟨fun h => h.elim, fun h => ?_⟩)
      rcases h with h | h | h
      · exact absurd h.1 (by decide)
      · exact h.2.1 ho
      · exact absurd h.1 (by decide)
    · rw [if_pos ho]
      refine qL (zb_congr fun c _ => ⟨fun h => Or.inr (Or.inl ⟨rfl, ho, h⟩), fun h => ?_⟩)
      rcases h with h | h | h
      · exact absurd h.1 (by decide)
      · exact h.2.2
      · exact absurd h.1 (by decide)
  have ha4 : a < 4 := by omega
  rw [if_neg h4, s_isOn hG hL hn hB]
  simp only [hg, true_and, Option.toList_some, Option.toList_none, List.cons_append, List.nil_append]
  rw [gX2_starts_68]
  simp (disch := omega) only [b2i_0, pB_f]
  rw [s_ons hG hL hn hf ha4]
  simp only [hg, true_and, Option.toList_some, Option.toList_none, List.cons_append, List.nil_append]
  rw [gX2_starts_77]
  by_cases ho : b < onN
  · rw [if_neg (not_not_intro ho)]
    refine qL (zb_congr fun c _ => ⟨fun h => Or.inl ⟨ha4, ho, h⟩, fun h => ?_⟩)
    rcases h with h | h | h
    · exact h.2.2
    · exact absurd h.1 h4
    · exact absurd h.1 h5
  · rw [if_pos ho, zb_0]
    refine qL (zb_congr fun c _ => ⟨fun h => h.elim, fun h => ?_⟩)
    rcases h with h | h | h
    · exact ho h.2.1
    · exact h4 h.1
    · exact h5 h.1
theorem s_steps_loop (hG : GA M g p kd v b gn) (hL : LandC M p onN bk mk) (hn : bnd kd v b gn) (hB : bnL onN bk) {c f w : Nat} (hc : c < 36) (hf : f < 4) (hw : w < 5) : ∀ n i : Nat, i + n = 6 → WP (d + 4) kX2_steps (6, [.ref g, .int (vI c), .int (vI f), .int (vI w), .int (vI (mb (may mk kd v (b < onN) gn c f w) i)), .int (vI i)], [], M) Q = Q (some (.int (vI (mb (may mk kd v (b < onN) gn c f w) 6)))) M := by
  have hg := hG.1
  intro n
  induction n with
  | zero =>
    intro i hi
    obtain rfl : i = 6 := by omega
    rw [gX2_steps_6]
    simp (disch := omega) only [lt_nl]
    rw [if_neg (by decide)]
  | succ n ih =>
    intro i hi
    rw [gX2_steps_6]
    simp (disch := omega) only [lt_nl]
    rw [if_pos (by omega), s_starts hG hL hn hB (by omega) hf hw]
    simp only [hg, true_and, Option.toList_some, Option.toList_none, List.cons_append, List.nil_append]
    rw [gX2_steps_21, s_holds _ hc]
    simp only [Option.toList_some, Option.toList_none, List.cons_append, List.nil_append]
    rw [gX2_steps_25, add_nl]
    by_cases h : may mk kd v (b < onN) gn c f w i
    · rw [pB_T h, if_neg (by decide), mb_or _ (by omega) h]
      exact ih (i + 1) (by omega)
    · rw [pB_F h, if_pos (by decide), ← mb_no _ h]
      exact ih (i + 1) (by omega)
theorem s_steps (hG : GA M g p kd v b gn) (hL : LandC M p onN bk mk) (hn : bnd kd v b gn) (hB : bnL onN bk) {c f w : Nat} (hc : c < 36) (hf : f < 4) (hw : w < 5) : CL (d + 4) kX2_steps [.ref g, .int (vI c), .int (vI f), .int (vI w)] M Q = Q (some (.int (vI (mb (may mk kd v (b < onN) gn c f w) 6)))) M := by
  rw [eX2_steps]
  exact s_steps_loop hG hL hn hB hc hf hw 6 0 rfl
end Gait
