/-! ===== 27: sets of CELLS as bits ===== -/
noncomputable def zbB (p : Nat → Prop) : Nat → BitVec 64
  | 0 => 0#64
  | n + 1 => zbB p n ||| @ite _ (p n) (Classical.propDecidable _) (BitVec.twoPow 64 n) 0#64
noncomputable def zb (p : Nat → Prop) : Int64 := Int64.ofBitVec (zbB p 36)
def bt (a : Int64) (i : Nat) : Prop := a.toBitVec.getLsbD i = true
theorem zbB_bit (p : Nat → Prop) (i : Nat) : ∀ n : Nat, n ≤ 64 → ((zbB p n).getLsbD i = true ↔ i < n ∧ p i) := by
  intro n
  induction n with
  | zero => intro _; simp [zbB]
  | succ n ih =>
    intro hn
    have h1 := ih (by omega)
    rw [zbB, BitVec.getLsbD_or, Bool.or_eq_true, h1]
    by_cases h : p n
    · rw [if_pos h, BitVec.getLsbD_twoPow]
      simp only [Bool.and_eq_true, decide_eq_true_eq]
      constructor
      · rintro (⟨h2, h3⟩ | ⟨h2, h3⟩)
        · exact ⟨by omega, h3⟩
        · subst h3; exact ⟨by omega, h⟩
      · rintro ⟨h2, h3⟩
        by_cases h4 : i = n
        · exact Or.inr ⟨by omega, by omega⟩
        · exact Or.inl ⟨by omega, h3⟩
    · rw [if_neg h, BitVec.getLsbD_zero]
      constructor
      · rintro (⟨h2, h3⟩ | h2)
        · exact ⟨by omega, h3⟩
        · exact absurd h2 (by decide)
      · rintro ⟨h2, h3⟩
        by_cases h4 : i = n
        · subst h4; exact absurd h3 h
        · exact Or.inl ⟨by omega, h3⟩
theorem bt_zb (p : Nat → Prop) (i : Nat) : bt (zb p) i ↔ i < 36 ∧ p i := zbB_bit p i 36 (by decide)
theorem bt_lt {a : Int64} {i : Nat} (h : bt a i) : i < 64 := BitVec.lt_of_getLsbD h
theorem bt_ext {a b : Int64} (h : ∀ i : Nat, i < 64 → (bt a i ↔ bt b i)) : a = b := Int64.toBitVec_inj.1 (BitVec.eq_of_getLsbD_eq (fun i hi => Bool.eq_iff_iff.mpr (h i hi)))
theorem bt_or (a b : Int64) (i : Nat) : bt (a ||| b) i ↔ bt a i ∨ bt b i := by unfold bt; rw [Int64.toBitVec_or, BitVec.getLsbD_or, Bool.or_eq_true]
theorem bt_and (a b : Int64) (i : Nat) : bt (a &&& b) i ↔ bt a i ∧ bt b i := by unfold bt; rw [Int64.toBitVec_and, BitVec.getLsbD_and, Bool.and_eq_true]
theorem bt_m1 : ∀ i : Nat, i < 64 → bt (-1) i := by unfold bt; decide +kernel
theorem bt_not (a : Int64) {i : Nat} (hi : i < 64) : bt (a ^^^ (-1)) i ↔ ¬ bt a i := by
  have h := bt_m1 i hi
  unfold bt at h ⊢
  rw [Int64.toBitVec_xor, BitVec.getLsbD_xor, h]
  cases a.toBitVec.getLsbD i <;> simp
theorem bt_shl (a : Int64) {c i : Nat} (hc : c < 64) (hi : i < 64) : bt (lShl a (vI c)) i ↔ c ≤ i ∧ bt a (i - c) := by
  unfold bt
  rw [lShl_bv a hc, BitVec.getLsbD_shiftLeft]
  simp only [Bool.and_eq_true, decide_eq_true_eq, Bool.not_eq_true', decide_eq_false_iff_not, Nat.not_lt]
  exact ⟨fun h => ⟨h.1.2, h.2⟩, fun h => ⟨⟨hi, h.1⟩, h.2⟩⟩
theorem bt_ushr (a : Int64) {c i : Nat} (hc : c < 64) : bt (lUshr a (vI c)) i ↔ bt a (c + i) := by
  unfold bt
  rw [lUshr_bv a hc, BitVec.getLsbD_ushiftRight]
theorem bt_one (i : Nat) : bt 1 i ↔ i = 0 := by
  show (1#64).getLsbD i = true ↔ _
  rw [BitVec.getLsbD_one]; simp
theorem bt_zero (i : Nat) : ¬ bt 0 i := by
  show ¬ (0#64).getLsbD i = true
  rw [BitVec.getLsbD_zero]; decide
theorem bt_gr : ∀ i : Nat, i < 64 → (bt 68719476735 i ↔ i < 36) := by
  have h : ∀ i : Nat, i < 64 → ((68719476735 : Int64).toBitVec.getLsbD i = decide (i < 36)) := by decide +kernel
  intro i hi
  unfold bt
  rw [h i hi]; simp
theorem bt_rt : ∀ i : Nat, i < 36 → (bt (-34905131041) i ↔ i % 6 < 5) := by
  have h : ∀ i : Nat, i < 36 → ((-34905131041 : Int64).toBitVec.getLsbD i = decide (i % 6 < 5)) := by decide +kernel
  intro i hi
  unfold bt
  rw [h i hi]; simp
theorem bt_lf : ∀ i : Nat, i < 36 → (bt (-1090785346) i ↔ 0 < i % 6) := by
  have h : ∀ i : Nat, i < 36 → ((-1090785346 : Int64).toBitVec.getLsbD i = decide (0 < i % 6)) := by decide +kernel
  intro i hi
  unfold bt
  rw [h i hi]; simp
theorem zb_congr {p q : Nat → Prop} (h : ∀ i : Nat, i < 36 → (p i ↔ q i)) : zb p = zb q := bt_ext (fun i _ => by rw [bt_zb, bt_zb]; exact and_congr_right (fun h2 => h i h2))
theorem zb_iff {p q : Nat → Prop} (h : zb p = zb q) {i : Nat} (hi : i < 36) : p i ↔ q i := by
  have h1 := bt_zb p i
  rw [h, bt_zb] at h1
  exact ⟨fun h2 => (h1.mpr ⟨hi, h2⟩).2, fun h2 => (h1.mp ⟨hi, h2⟩).2⟩
theorem zb_or (p q : Nat → Prop) : zb p ||| zb q = zb (fun i => p i ∨ q i) := bt_ext (fun i _ => by
  rw [bt_or, bt_zb, bt_zb, bt_zb]; exact ⟨fun h => h.elim (fun h => ⟨h.1, Or.inl h.2⟩) (fun h => ⟨h.1, Or.inr h.2⟩), fun h => h.2.elim (fun h2 => Or.inl ⟨h.1, h2⟩) (fun h2 => Or.inr ⟨h.1, h2⟩)⟩)
theorem zb_and (p q : Nat → Prop) : zb p &&& zb q = zb (fun i => p i ∧ q i) := bt_ext (fun i _ => by
  rw [bt_and, bt_zb, bt_zb, bt_zb]; exact ⟨fun h => ⟨h.1.1, h.1.2, h.2.2⟩, fun h => ⟨⟨h.1, h.2.1⟩, h.1, h.2.2⟩⟩)
theorem zb_diff (p q : Nat → Prop) : zb p &&& (zb q ^^^ (-1)) = zb (fun i => p i ∧ ¬ q i) := bt_ext (fun i hi => by
  rw [bt_and, bt_not _ hi, bt_zb, bt_zb, bt_zb]; exact ⟨fun h => ⟨h.1.1, h.1.2, fun h2 => h.2 ⟨h.1.1, h2⟩⟩, fun h => ⟨⟨h.1, h.2.1⟩, fun h2 => h.2.2 h2.2⟩⟩)
theorem zb_all : (68719476735 : Int64) = zb (fun _ => True) := bt_ext (fun i hi => by rw [bt_gr i hi, bt_zb]; exact ⟨fun h => ⟨h, trivial⟩, fun h => h.1⟩)
theorem zb_0 : (0 : Int64) = zb (fun _ => False) := bt_ext (fun i _ => by rw [bt_zb]; exact ⟨fun h => absurd h (bt_zero i), fun h => h.2.elim⟩)
theorem zb_not (p : Nat → Prop) : 68719476735 &&& (zb p ^^^ (-1)) = zb (fun i => ¬ p i) := by rw [zb_all, zb_diff]; exact zb_congr (fun i _ => by simp)
theorem zb_one {c : Nat} (hc : c < 36) : lShl 1 (vI c) = zb (fun i => i = c) := bt_ext (fun i hi => by
  rw [bt_shl _ (by omega) hi, bt_one, bt_zb]; omega)
theorem zb_eq0 (p : Nat → Prop) : (zb p = 0) = ∀ i : Nat, i < 36 → ¬ p i := propext ⟨fun h i hi h2 => bt_zero i (by rw [← h, bt_zb]; exact ⟨hi, h2⟩), fun h => bt_ext (fun i _ => by
  rw [bt_zb]; exact ⟨fun h2 => absurd h2.2 (h i h2.1), fun h2 => absurd h2 (bt_zero i)⟩)⟩
theorem and1_0 (a : Int64) : (a &&& 1 = 0) = ¬ bt a 0 := propext ⟨fun h h2 => bt_zero 0 (by rw [← h, bt_and]; exact ⟨h2, (bt_one 0).mpr rfl⟩), fun h => bt_ext (fun i _ => by
  rw [bt_and, bt_one]; exact ⟨fun h2 => absurd (h2.2 ▸ h2.1) h, fun h2 => absurd h2 (bt_zero i)⟩)⟩
theorem and1_1 (a : Int64) : (a &&& 1 = 1) = bt a 0 := propext ⟨fun h => by
    have h2 := (bt_one 0).mpr rfl
    rw [← h, bt_and] at h2; exact h2.1, fun h => bt_ext (fun i _ => by
  rw [bt_and, bt_one]; exact ⟨fun h2 => h2.2, fun h2 => ⟨by rw [h2]; exact h, h2⟩⟩)⟩
theorem zb_hold (p : Nat → Prop) {c : Nat} (hc : c < 36) : (lUshr (zb p) (vI c) &&& 1 = 0) = ¬ p c := by
  rw [and1_0, bt_ushr _ (by omega), bt_zb]
  exact propext ⟨fun h h2 => h ⟨by omega, by simpa using h2⟩, fun h h2 => h (by simpa using h2.2)⟩
/- the signed shift of what the reference asks of its sets -/
theorem bt_sshr (a : Int64) {c : Nat} (hc : c < 64) : bt (lShr a (vI c)) 0 ↔ bt a c := by
  unfold bt
  rw [lShr_bv a hc, BitVec.getLsbD_sshiftRight]
  simp [hc]
theorem zb_shr1 (p : Nat → Prop) {c : Nat} (hc : c < 36) : (lShr (zb p) (vI c) &&& 1 = 1) = p c := by
  rw [and1_1, bt_sshr _ (by omega), bt_zb]
  exact propext ⟨fun h => h.2, fun h => ⟨hc, h⟩⟩
theorem zb_shr0 (p : Nat → Prop) {c : Nat} (hc : c < 36) : (lShr (zb p) (vI c) &&& 1 = 0) = ¬ p c := by
  rw [and1_0, bt_sshr _ (by omega), bt_zb]
  exact propext ⟨fun h h2 => h ⟨hc, h2⟩, fun h h2 => h h2.2⟩
