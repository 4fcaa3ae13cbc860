/-! ===== 26: numbers ===== -/
def vI (n : Nat) : Int32 := Int32.ofNat n
def vL (n : Nat) : Int64 := Int64.ofNat n
def b2i (b : Bool) : Int32 := if b then 1 else 0
theorem b2i_t : b2i true = 1 := rfl
theorem b2i_f : b2i false = 0 := rfl
theorem b2i_0 (b : Bool) : (b2i b = 0) = (b = false) := by cases b <;> simp [b2i]
theorem b2i_1 (b : Bool) : (b2i b = 1) = (b = true) := by cases b <;> simp [b2i]
theorem b2i_z (b : Bool) : narB (some .boolean) (b2i b) = true := by cases b <;> decide
theorem b2i_ite (c : Prop) [Decidable c] : (if c then (1 : Int32) else 0) = b2i (decide c) := by by_cases h : c <;> simp [b2i, h]
theorem vI_lt {a b : Nat} (ha : a < 2147483648) (hb : b < 2147483648) : (vI a < vI b) = (a < b) := propext (Int32.ofNat_lt_iff_lt ha hb)
theorem vI_le {a b : Nat} (ha : a < 2147483648) (hb : b < 2147483648) : (vI a ≤ vI b) = (a ≤ b) := propext (Int32.ofNat_le_iff_le ha hb)
theorem vI_cl {a : Nat} (ha : a < 2147483648) : (vI a).toNatClampNeg = a := Int32.toNatClampNeg_ofNat_of_lt ha
theorem vI_inj {a b : Nat} (ha : a < 2147483648) (hb : b < 2147483648) : (vI a = vI b) = (a = b) := propext ⟨fun h => by rw [← vI_cl ha, ← vI_cl hb, h], fun h => by rw [h]⟩
theorem vI_add (a b : Nat) : vI a + vI b = vI (a + b) := (Int32.ofNat_add a b).symm
theorem vI_mul (a b : Nat) : vI a * vI b = vI (a * b) := (Int32.ofNat_mul a b).symm
theorem vI_sub {a b : Nat} (h : b ≤ a) : vI a - vI b = vI (a - b) := (Int32.ofNat_sub a b h).symm
theorem vI_div {a b : Nat} (ha : a < 2147483648) (hb : b < 2147483648) : vI a / vI b = vI (a / b) := (Int32.ofNat_div ha hb).symm
theorem vI_rem {a b : Nat} (ha : a < 2147483648) (hb : b < 2147483648) : iRem (vI a) (vI b) = vI (a % b) := by
  have h1 := Nat.div_add_mod a b
  have h2 : a / b * b ≤ a := Nat.div_mul_le_self a b
  have h3 : b * (a / b) = a / b * b := Nat.mul_comm _ _
  have h4 : a - a / b * b = a % b := by omega
  simp only [iRem]
  rw [vI_div ha hb, vI_mul, vI_sub h2, h4]
theorem vI_neg {a : Nat} (ha : a < 2147483648) : (vI a < 0) = False := by
  have : (0 : Int32) = vI 0 := rfl
  rw [this, vI_lt ha (by decide)]; simp
theorem vI_ne (a : Nat) (ha : a < 2147483648) : ¬ vI a = -1 := by
  intro h
  have := vI_neg ha
  rw [h] at this
  exact absurd (show (-1 : Int32) < 0 by decide) (by rw [this]; exact id)
/- with a written number -/
theorem lt_nl {a n : Nat} (ha : a < 2147483648) (hn : (OfNat.ofNat n : Nat) < 2147483648) : (vI a < (no_index (OfNat.ofNat n) : Int32)) = (a < (OfNat.ofNat n : Nat)) := vI_lt ha hn
theorem lt_ln {a n : Nat} (ha : a < 2147483648) (hn : (OfNat.ofNat n : Nat) < 2147483648) : ((no_index (OfNat.ofNat n) : Int32) < vI a) = ((OfNat.ofNat n : Nat) < a) := vI_lt hn ha
theorem le_nl {a n : Nat} (ha : a < 2147483648) (hn : (OfNat.ofNat n : Nat) < 2147483648) : (vI a ≤ (no_index (OfNat.ofNat n) : Int32)) = (a ≤ (OfNat.ofNat n : Nat)) := vI_le ha hn
theorem le_ln {a n : Nat} (ha : a < 2147483648) (hn : (OfNat.ofNat n : Nat) < 2147483648) : ((no_index (OfNat.ofNat n) : Int32) ≤ vI a) = ((OfNat.ofNat n : Nat) ≤ a) := vI_le hn ha
theorem eq_nl {a n : Nat} (ha : a < 2147483648) (hn : (OfNat.ofNat n : Nat) < 2147483648) : (vI a = (no_index (OfNat.ofNat n) : Int32)) = (a = (OfNat.ofNat n : Nat)) := vI_inj ha hn
theorem eq_ln {a n : Nat} (ha : a < 2147483648) (hn : (OfNat.ofNat n : Nat) < 2147483648) : ((no_index (OfNat.ofNat n) : Int32) = vI a) = ((OfNat.ofNat n : Nat) = a) := vI_inj hn ha
theorem add_nl (a n : Nat) : vI a + (no_index (OfNat.ofNat n) : Int32) = vI (a + (OfNat.ofNat n : Nat)) := vI_add a n
theorem add_ln (a n : Nat) : (no_index (OfNat.ofNat n) : Int32) + vI a = vI ((OfNat.ofNat n : Nat) + a) := vI_add n a
theorem mul_nl (a n : Nat) : vI a * (no_index (OfNat.ofNat n) : Int32) = vI (a * (OfNat.ofNat n : Nat)) := vI_mul a n
theorem mul_ln (a n : Nat) : (no_index (OfNat.ofNat n) : Int32) * vI a = vI ((OfNat.ofNat n : Nat) * a) := vI_mul n a
theorem sub_nl {a n : Nat} (h : (OfNat.ofNat n : Nat) ≤ a) : vI a - (no_index (OfNat.ofNat n) : Int32) = vI (a - (OfNat.ofNat n : Nat)) := vI_sub h
theorem sub_ln {a n : Nat} (h : a ≤ (OfNat.ofNat n : Nat)) : (no_index (OfNat.ofNat n) : Int32) - vI a = vI ((OfNat.ofNat n : Nat) - a) := vI_sub h
theorem rem_nl {a n : Nat} (ha : a < 2147483648) (hn : (OfNat.ofNat n : Nat) < 2147483648) : iRem (vI a) (no_index (OfNat.ofNat n) : Int32) = vI (a % (OfNat.ofNat n : Nat)) := vI_rem ha hn
theorem div_nl {a n : Nat} (ha : a < 2147483648) (hn : (OfNat.ofNat n : Nat) < 2147483648) : vI a / (no_index (OfNat.ofNat n) : Int32) = vI (a / (OfNat.ofNat n : Nat)) := vI_div ha hn
theorem cl_l {n : Nat} (hn : (OfNat.ofNat n : Nat) < 2147483648) : (no_index (OfNat.ofNat n) : Int32).toNatClampNeg = (OfNat.ofNat n : Nat) := vI_cl hn
theorem inb_n {a n : Nat} (ha : a < 2147483648) : inb (vI a) n = (a < n) := by
  unfold inb
  rw [vI_neg ha, vI_cl ha]
  exact propext ⟨fun h => Nat.lt_of_not_le (fun h2 => h (Or.inr h2)), fun h h2 => h2.elim id (fun h3 => Nat.not_le.mpr h h3)⟩
theorem inb_l {a n : Nat} (ha : (OfNat.ofNat a : Nat) < 2147483648) : inb (no_index (OfNat.ofNat a) : Int32) n = ((OfNat.ofNat a : Nat) < n) := inb_n ha
/- which Int32 is a number below n -/
def inR (a : Int32) (n : Nat) : Bool := decide (0 ≤ a) && decide (a.toNatClampNeg < n)
theorem inR_vI {a n : Nat} (ha : a < 2147483648) : inR (vI a) n = decide (a < n) := by
  have h : (0 : Int32) ≤ vI a := by
    have : (0 : Int32) = vI 0 := rfl
    rw [this, vI_le (by decide) ha]; exact Nat.zero_le _
  simp [inR, h, vI_cl ha]
theorem inR_get {a : Int32} {n : Nat} (h : inR a n = true) : ∃ c : Nat, c < n ∧ a = vI c := by
  simp only [inR, Bool.and_eq_true, decide_eq_true_eq] at h
  exact ⟨a.toNatClampNeg, h.2, (Int32.ofNat_toNatClampNeg a h.1).symm⟩
theorem inR_neg {a : Int32} {n : Nat} (h : a < 0) : inR a n = false := by
  have h2 : ¬ (0 : Int32) ≤ a := by
    rw [Int32.le_iff_toInt_le]; rw [Int32.lt_iff_toInt_lt] at h; omega
  simp [inR, h2]
theorem inR_pos {a : Int32} (h : ¬ a < 0) : ∃ c : Nat, c < 2147483648 ∧ a = vI c := by
  have h2 : (0 : Int32) ≤ a := by
    rw [Int32.le_iff_toInt_le]; rw [Int32.lt_iff_toInt_lt] at h; omega
  exact ⟨a.toNatClampNeg, Int32.toNatClampNeg_lt a, (Int32.ofNat_toNatClampNeg a h2).symm⟩
/-- the shape that a range check has -/
theorem inR_ck {n : Nat} (hn : n < 2147483648) (a : Int32) (P : Int32 → Prop) : (if a < 0 then P 0 else (if a < vI n then P 1 else P 0)) = P (b2i (inR a n)) := by
  by_cases h : a < 0
  · rw [if_pos h, inR_neg h]; rfl
  · obtain ⟨c, hc, rfl⟩ := inR_pos h
    simp only [if_neg h, vI_lt hc hn, inR_vI hc]
    by_cases h2 : c < n
    · simp [h2, b2i]
    · simp [h2, b2i]
/- Int64 -/
theorem lg_0 (a b : Int64) : (lg_cmp a b = 0) = (a = b) := propext (lg_cmp_eq a b)
theorem vL_add (a b : Nat) : vL a + vL b = vL (a + b) := (Int64.ofNat_add a b).symm
theorem vL_mul (a b : Nat) : vL a * vL b = vL (a * b) := (Int64.ofNat_mul a b).symm
theorem vL_lt {a b : Nat} (ha : a < 9223372036854775808) (hb : b < 9223372036854775808) : (vL a < vL b) = (a < b) := propext (Int64.ofNat_lt_iff_lt ha hb)
theorem vL_cl {a : Nat} (ha : a < 9223372036854775808) : (vL a).toNatClampNeg = a := Int64.toNatClampNeg_ofNat_of_lt ha
theorem vL_inj {a b : Nat} (ha : a < 9223372036854775808) (hb : b < 9223372036854775808) : (vL a = vL b) = (a = b) := propext ⟨fun h => by rw [← vL_cl ha, ← vL_cl hb, h], fun h => by rw [h]⟩
theorem vL_div {a b : Nat} (ha : a < 9223372036854775808) (hb : b < 9223372036854775808) : vL a / vL b = vL (a / b) := (Int64.ofNat_div ha hb).symm
theorem vL_sub {a b : Nat} (h : b ≤ a) : vL a - vL b = vL (a - b) := (Int64.ofNat_sub a b h).symm
theorem vL_rem {a b : Nat} (ha : a < 9223372036854775808) (hb : b < 9223372036854775808) : lRem (vL a) (vL b) = vL (a % b) := by
  have h1 := Nat.div_add_mod a b
  have h2 : a / b * b ≤ a := Nat.div_mul_le_self a b
  have h3 : b * (a / b) = a / b * b := Nat.mul_comm _ _
  have h4 : a - a / b * b = a % b := by omega
  simp only [lRem]
  rw [vL_div ha hb, vL_mul, vL_sub h2, h4]
theorem toL_vI {a : Nat} (ha : a < 2147483648) : (vI a).toInt64 = vL a := Int64.toInt_inj.1 (by
  rw [Int32.toInt_toInt64]
  show (Int32.ofNat a).toInt = (Int64.ofNat a).toInt
  rw [Int32.toInt_ofNat_of_lt ha, Int64.toInt_ofNat_of_lt (by omega)])
theorem sh64 : ∀ c : Nat, c < 64 → ((vI c).toInt64 &&& 63).toBitVec.smod 64 = BitVec.ofNat 64 c := by decide +kernel
theorem shu64 : ∀ c : Nat, c < 64 → ((vI c).toInt64.toUInt64 &&& Int64.toUInt64 63).toBitVec % 64 = BitVec.ofNat 64 c := by decide +kernel
theorem lShl_bv (a : Int64) {c : Nat} (h : c < 64) : (lShl a (vI c)).toBitVec = a.toBitVec <<< c := by
  unfold lShl
  rw [Int64.toBitVec_shiftLeft]
  have h1 := sh64 c h
  rw [show (((vI c).toInt64 &&& 63).toBitVec.smod 64) = BitVec.ofNat 64 c from h1, BitVec.shiftLeft_eq', BitVec.toNat_ofNat, Nat.mod_eq_of_lt (by omega)]
theorem lShr_bv (a : Int64) {c : Nat} (h : c < 64) : (lShr a (vI c)).toBitVec = a.toBitVec.sshiftRight c := by
  unfold lShr
  rw [Int64.toBitVec_shiftRight]
  have h1 := sh64 c h
  rw [show (((vI c).toInt64 &&& 63).toBitVec.smod 64) = BitVec.ofNat 64 c from h1, BitVec.sshiftRight', BitVec.toNat_ofNat, Nat.mod_eq_of_lt (by omega)]
theorem lUshr_bv (a : Int64) {c : Nat} (h : c < 64) : (lUshr a (vI c)).toBitVec = a.toBitVec >>> c := by
  unfold lUshr
  have h1 := shu64 c h
  show (a.toUInt64 >>> ((vI c).toInt64.toUInt64 &&& Int64.toUInt64 63)).toBitVec = _
  rw [UInt64.toBitVec_shiftRight]
  rw [show (((vI c).toInt64.toUInt64 &&& Int64.toUInt64 63).toBitVec % 64) = BitVec.ofNat 64 c from h1, BitVec.ushiftRight_eq', BitVec.toNat_ofNat, Nat.mod_eq_of_lt (by omega)]
  rfl
