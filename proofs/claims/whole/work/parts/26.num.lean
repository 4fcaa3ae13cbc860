/-! ===== 26: numbers ===== -/
def nI (n : Nat) : Int32 := Int32.ofNat n
def nL (n : Nat) : Int64 := Int64.ofNat n
def b2i (b : Bool) : Int32 := if b then 1 else 0
theorem b2i_t : b2i true = 1 := rfl
theorem b2i_f : b2i false = 0 := rfl
theorem b2i_0 (b : Bool) : (b2i b = 0) = (b = false) := by cases b <;> simp [b2i]
theorem b2i_1 (b : Bool) : (b2i b = 1) = (b = true) := by cases b <;> simp [b2i]
theorem b2i_z (b : Bool) : narB (some .boolean) (b2i b) = true := by cases b <;> decide
theorem b2i_ite (c : Prop) [Decidable c] : (if c then (1 : Int32) else 0) = b2i (decide c) := by by_cases h : c <;> simp [b2i, h]
theorem nI_lt {a b : Nat} (ha : a < 2147483648) (hb : b < 2147483648) : (nI a < nI b) = (a < b) := propext (Int32.ofNat_lt_iff_lt ha hb)
theorem nI_le {a b : Nat} (ha : a < 2147483648) (hb : b < 2147483648) : (nI a ≤ nI b) = (a ≤ b) := propext (Int32.ofNat_le_iff_le ha hb)
theorem nI_cl {a : Nat} (ha : a < 2147483648) : (nI a).toNatClampNeg = a := Int32.toNatClampNeg_ofNat_of_lt ha
theorem nI_inj {a b : Nat} (ha : a < 2147483648) (hb : b < 2147483648) : (nI a = nI b) = (a = b) := propext ⟨fun h => by rw [← nI_cl ha, ← nI_cl hb, h], fun h => by rw [h]⟩
theorem nI_add (a b : Nat) : nI a + nI b = nI (a + b) := (Int32.ofNat_add a b).symm
theorem nI_mul (a b : Nat) : nI a * nI b = nI (a * b) := (Int32.ofNat_mul a b).symm
theorem nI_sub {a b : Nat} (h : b ≤ a) : nI a - nI b = nI (a - b) := (Int32.ofNat_sub a b h).symm
theorem nI_div {a b : Nat} (ha : a < 2147483648) (hb : b < 2147483648) : nI a / nI b = nI (a / b) := (Int32.ofNat_div ha hb).symm
theorem nI_rem {a b : Nat} (ha : a < 2147483648) (hb : b < 2147483648) : iRem (nI a) (nI b) = nI (a % b) := by
  have h1 := Nat.div_add_mod a b
  have h2 : a / b * b ≤ a := Nat.div_mul_le_self a b
  have h3 : b * (a / b) = a / b * b := Nat.mul_comm _ _
  have h4 : a - a / b * b = a % b := by omega
  simp only [iRem]
  rw [nI_div ha hb, nI_mul, nI_sub h2, h4]
theorem nI_neg {a : Nat} (ha : a < 2147483648) : (nI a < 0) = False := by
  have : (0 : Int32) = nI 0 := rfl
  rw [this, nI_lt ha (by decide)]; simp
theorem nI_ne (a : Nat) (ha : a < 2147483648) : ¬ nI a = -1 := by
  intro h
  have := nI_neg ha
  rw [h] at this
  exact absurd (show (-1 : Int32) < 0 by decide) (by rw [this]; exact id)
/- with a written number -/
theorem lt_nl {a n : Nat} (ha : a < 2147483648) (hn : (OfNat.ofNat n : Nat) < 2147483648) : (nI a < (no_index (OfNat.ofNat n) : Int32)) = (a < (OfNat.ofNat n : Nat)) := nI_lt ha hn
theorem lt_ln {a n : Nat} (ha : a < 2147483648) (hn : (OfNat.ofNat n : Nat) < 2147483648) : ((no_index (OfNat.ofNat n) : Int32) < nI a) = ((OfNat.ofNat n : Nat) < a) := nI_lt hn ha
theorem le_nl {a n : Nat} (ha : a < 2147483648) (hn : (OfNat.ofNat n : Nat) < 2147483648) : (nI a ≤ (no_index (OfNat.ofNat n) : Int32)) = (a ≤ (OfNat.ofNat n : Nat)) := nI_le ha hn
theorem le_ln {a n : Nat} (ha : a < 2147483648) (hn : (OfNat.ofNat n : Nat) < 2147483648) : ((no_index (OfNat.ofNat n) : Int32) ≤ nI a) = ((OfNat.ofNat n : Nat) ≤ a) := nI_le hn ha
theorem eq_nl {a n : Nat} (ha : a < 2147483648) (hn : (OfNat.ofNat n : Nat) < 2147483648) : (nI a = (no_index (OfNat.ofNat n) : Int32)) = (a = (OfNat.ofNat n : Nat)) := nI_inj ha hn
theorem eq_ln {a n : Nat} (ha : a < 2147483648) (hn : (OfNat.ofNat n : Nat) < 2147483648) : ((no_index (OfNat.ofNat n) : Int32) = nI a) = ((OfNat.ofNat n : Nat) = a) := nI_inj hn ha
theorem add_nl (a n : Nat) : nI a + (no_index (OfNat.ofNat n) : Int32) = nI (a + (OfNat.ofNat n : Nat)) := nI_add a n
theorem add_ln (a n : Nat) : (no_index (OfNat.ofNat n) : Int32) + nI a = nI ((OfNat.ofNat n : Nat) + a) := nI_add n a
theorem mul_nl (a n : Nat) : nI a * (no_index (OfNat.ofNat n) : Int32) = nI (a * (OfNat.ofNat n : Nat)) := nI_mul a n
theorem mul_ln (a n : Nat) : (no_index (OfNat.ofNat n) : Int32) * nI a = nI ((OfNat.ofNat n : Nat) * a) := nI_mul n a
theorem sub_nl {a n : Nat} (h : (OfNat.ofNat n : Nat) ≤ a) : nI a - (no_index (OfNat.ofNat n) : Int32) = nI (a - (OfNat.ofNat n : Nat)) := nI_sub h
theorem sub_ln {a n : Nat} (h : a ≤ (OfNat.ofNat n : Nat)) : (no_index (OfNat.ofNat n) : Int32) - nI a = nI ((OfNat.ofNat n : Nat) - a) := nI_sub h
theorem rem_nl {a n : Nat} (ha : a < 2147483648) (hn : (OfNat.ofNat n : Nat) < 2147483648) : iRem (nI a) (no_index (OfNat.ofNat n) : Int32) = nI (a % (OfNat.ofNat n : Nat)) := nI_rem ha hn
theorem div_nl {a n : Nat} (ha : a < 2147483648) (hn : (OfNat.ofNat n : Nat) < 2147483648) : nI a / (no_index (OfNat.ofNat n) : Int32) = nI (a / (OfNat.ofNat n : Nat)) := nI_div ha hn
theorem cl_l {n : Nat} (hn : (OfNat.ofNat n : Nat) < 2147483648) : (no_index (OfNat.ofNat n) : Int32).toNatClampNeg = (OfNat.ofNat n : Nat) := nI_cl hn
theorem inb_n {a n : Nat} (ha : a < 2147483648) : inb (nI a) n = (a < n) := by
  unfold inb
  rw [nI_neg ha, nI_cl ha]
  exact propext ⟨fun h => Nat.lt_of_not_le (fun h2 => h (Or.inr h2)), fun h h2 => h2.elim id (fun h3 => Nat.not_le.mpr h h3)⟩
theorem inb_l {a n : Nat} (ha : (OfNat.ofNat a : Nat) < 2147483648) : inb (no_index (OfNat.ofNat a) : Int32) n = ((OfNat.ofNat a : Nat) < n) := inb_n ha
/- which Int32 is a number below n -/
def inR (a : Int32) (n : Nat) : Bool := decide (0 ≤ a) && decide (a.toNatClampNeg < n)
theorem inR_nI {a n : Nat} (ha : a < 2147483648) : inR (nI a) n = decide (a < n) := by
  have h : (0 : Int32) ≤ nI a := by
    have : (0 : Int32) = nI 0 := rfl
    rw [this, nI_le (by decide) ha]; exact Nat.zero_le _
  simp [inR, h, nI_cl ha]
theorem inR_get {a : Int32} {n : Nat} (h : inR a n = true) : ∃ c : Nat, c < n ∧ a = nI c := by
  simp only [inR, Bool.and_eq_true, decide_eq_true_eq] at h
  exact ⟨a.toNatClampNeg, h.2, (Int32.ofNat_toNatClampNeg a h.1).symm⟩
theorem inR_neg {a : Int32} {n : Nat} (h : a < 0) : inR a n = false := by
  have h2 : ¬ (0 : Int32) ≤ a := by
    rw [Int32.le_iff_toInt_le]; rw [Int32.lt_iff_toInt_lt] at h; omega
  simp [inR, h2]
theorem inR_pos {a : Int32} (h : ¬ a < 0) : ∃ c : Nat, c < 2147483648 ∧ a = nI c := by
  have h2 : (0 : Int32) ≤ a := by
    rw [Int32.le_iff_toInt_le]; rw [Int32.lt_iff_toInt_lt] at h; omega
  exact ⟨a.toNatClampNeg, Int32.toNatClampNeg_lt a, (Int32.ofNat_toNatClampNeg a h2).symm⟩
/-- the shape that a range check has -/
theorem inR_ck {n : Nat} (hn : n < 2147483648) (a : Int32) (P : Int32 → Prop) : (if a < 0 then P 0 else (if a < nI n then P 1 else P 0)) = P (b2i (inR a n)) := by
  by_cases h : a < 0
  · rw [if_pos h, inR_neg h]; rfl
  · obtain ⟨c, hc, rfl⟩ := inR_pos h
    rw [if_neg h, nI_lt hc hn, inR_nI hc]
    by_cases h2 : c < n
    · simp [h2, b2i]
    · simp [h2, b2i]
/- Int64 -/
theorem lg_0 (a b : Int64) : (lg_cmp a b = 0) = (a = b) := propext (lg_cmp_eq a b)
theorem nL_add (a b : Nat) : nL a + nL b = nL (a + b) := (Int64.ofNat_add a b).symm
theorem nL_mul (a b : Nat) : nL a * nL b = nL (a * b) := (Int64.ofNat_mul a b).symm
theorem nL_lt {a b : Nat} (ha : a < 9223372036854775808) (hb : b < 9223372036854775808) : (nL a < nL b) = (a < b) := propext (Int64.ofNat_lt_iff_lt ha hb)
theorem nL_cl {a : Nat} (ha : a < 9223372036854775808) : (nL a).toNatClampNeg = a := Int64.toNatClampNeg_ofNat_of_lt ha
theorem nL_inj {a b : Nat} (ha : a < 9223372036854775808) (hb : b < 9223372036854775808) : (nL a = nL b) = (a = b) := propext ⟨fun h => by rw [← nL_cl ha, ← nL_cl hb, h], fun h => by rw [h]⟩
theorem nL_div {a b : Nat} (ha : a < 9223372036854775808) (hb : b < 9223372036854775808) : nL a / nL b = nL (a / b) := (Int64.ofNat_div ha hb).symm
theorem nL_sub {a b : Nat} (h : b ≤ a) : nL a - nL b = nL (a - b) := (Int64.ofNat_sub a b h).symm
theorem nL_rem {a b : Nat} (ha : a < 9223372036854775808) (hb : b < 9223372036854775808) : lRem (nL a) (nL b) = nL (a % b) := by
  have h1 := Nat.div_add_mod a b
  have h2 : a / b * b ≤ a := Nat.div_mul_le_self a b
  have h3 : b * (a / b) = a / b * b := Nat.mul_comm _ _
  have h4 : a - a / b * b = a % b := by omega
  simp only [lRem]
  rw [nL_div ha hb, nL_mul, nL_sub h2, h4]
theorem toL_nI {a : Nat} (ha : a < 2147483648) : (nI a).toInt64 = nL a := Int64.toInt_inj.1 (by
  rw [Int32.toInt_toInt64]
  show (Int32.ofNat a).toInt = (Int64.ofNat a).toInt
  rw [Int32.toInt_ofNat_of_lt ha, Int64.toInt_ofNat_of_lt (by omega)])
theorem sh64 : ∀ c : Nat, c < 64 → ((nI c).toInt64 &&& 63).toBitVec.smod 64 = BitVec.ofNat 64 c := by decide +kernel
theorem shu64 : ∀ c : Nat, c < 64 → ((nI c).toInt64.toUInt64 &&& Int64.toUInt64 63).toBitVec % 64 = BitVec.ofNat 64 c := by decide +kernel
theorem lShl_bv (a : Int64) {c : Nat} (h : c < 64) : (lShl a (nI c)).toBitVec = a.toBitVec <<< c := by
  unfold lShl
  rw [Int64.toBitVec_shiftLeft]
  have h1 := sh64 c h
  rw [show (((nI c).toInt64 &&& 63).toBitVec.smod 64) = BitVec.ofNat 64 c from h1, BitVec.shiftLeft_eq', BitVec.toNat_ofNat, Nat.mod_eq_of_lt (by omega)]
theorem lShr_bv (a : Int64) {c : Nat} (h : c < 64) : (lShr a (nI c)).toBitVec = a.toBitVec.sshiftRight c := by
  unfold lShr
  rw [Int64.toBitVec_shiftRight]
  have h1 := sh64 c h
  rw [show (((nI c).toInt64 &&& 63).toBitVec.smod 64) = BitVec.ofNat 64 c from h1, BitVec.sshiftRight', BitVec.toNat_ofNat, Nat.mod_eq_of_lt (by omega)]
theorem lUshr_bv (a : Int64) {c : Nat} (h : c < 64) : (lUshr a (nI c)).toBitVec = a.toBitVec >>> c := by
  unfold lUshr
  have h1 := shu64 c h
  show (a.toUInt64 >>> ((nI c).toInt64.toUInt64 &&& Int64.toUInt64 63)).toBitVec = _
  rw [UInt64.toBitVec_shiftRight]
  rw [show (((nI c).toInt64.toUInt64 &&& Int64.toUInt64 63).toBitVec % 64) = BitVec.ofNat 64 c from h1, BitVec.ushiftRight_eq', BitVec.toNat_ofNat, Nat.mod_eq_of_lt (by omega)]
  rfl
