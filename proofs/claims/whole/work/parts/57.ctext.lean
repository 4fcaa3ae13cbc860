/-! ===== 57: the text: what a parser answers; the class's small readers ===== -/
/-- the sign at a place; none past the end -/
def hr (T : Nat) (tx : Nat → Nat) (a : Nat) : Nat := if a < T then tx a else 999
abbrev Res := Nat × Option (Nat → Prop)
def rb (r : Res) (k : Nat → (Nat → Prop) → Res) : Res := match r.2 with
  | none => (r.1, none)
  | some s => k r.1 s
abbrev dig (c : Nat) : Prop := 48 ≤ c ∧ c ≤ 57
section Pure
variable (T : Nat) (tx : Nat → Nat)
def pNum (a : Nat) : Nat × Option Nat :=
  if dig (hr T tx a) then (if dig (hr T tx (a + 1)) then (a + 1 + 1, some (10 * (hr T tx a - 48) + (hr T tx (a + 1) - 48))) else (a + 1, some (hr T tx a - 48))) else (a, none)
/-- the place of a sign in a word -/
def idx : List Nat → Nat → Option Nat
  | [], _ => none
  | x :: l, c => if c = x then some 0 else (idx l c).map (· + 1)
def msr (le c : Nat) : Nat := if le = 0 then c / 6 else if le = 1 then c % 6 else if le = 2 then c / 6 + c % 6 else if le = 3 then (if c % 6 ≤ c / 6 then c / 6 - c % 6 else c % 6 - c / 6) else c
def tstP (le sg n c : Nat) : Prop := if sg = 0 then msr le c < n else if sg = 1 then msr le c = n else n < msr le c
def wLet : List Nat := [114, 99, 115, 100, 105]
def wSgn : List Nat := [60, 61, 62]
def pTest (a : Nat) : Res := match idx wLet (hr T tx a) with
  | none => (a, none)
  | some le => match idx wSgn (hr T tx (a + 1)) with
    | none => (a + 1, none)
    | some sg => match (pNum T tx (a + 1 + 1)).2 with
      | none => ((pNum T tx (a + 1 + 1)).1, none)
      | some n => ((pNum T tx (a + 1 + 1)).1, some (tstP le sg n))
def loopR (c : Nat) (op : (Nat → Prop) → (Nat → Prop) → Nat → Prop) (f : Nat → Res) : Nat → Nat → (Nat → Prop) → Res
  | 0, a, s => (a, some s)
  | n + 1, a, s => if hr T tx a = c then rb (f (a + 1)) (fun a2 s2 => loopR c op f n a2 (op s s2)) else (a, some s)
def chain (c : Nat) (op : (Nat → Prop) → (Nat → Prop) → Nat → Prop) (f : Nat → Res) (a : Nat) : Res := rb (f a) (fun a2 s => loopR T tx c op f 100 a2 s)
def opA (p q : Nat → Prop) : Nat → Prop := fun i => p i ∧ q i
def opO (p q : Nat → Prop) : Nat → Prop := fun i => p i ∨ q i
def pFac : Nat → Nat → Res
  | 0, a => pTest T tx a
  | l + 1, a => if hr T tx a = 33 then rb (pFac l (a + 1)) (fun a2 s => (a2, some (fun i => ¬ s i))) else if hr T tx a = 40 then rb (chain T tx 124 opO (chain T tx 38 opA (pFac l)) (a + 1)) (fun a2 s => if hr T tx a2 = 41 then (a2 + 1, some s) else (a2, none)) else pTest T tx a
def pTrm (l : Nat) : Nat → Res := chain T tx 38 opA (pFac T tx l)
def pEit (l : Nat) : Nat → Res := chain T tx 124 opO (pTrm T tx l)
end Pure
/-- what the class's text needs and keeps -/
def StrZ (MZ : MM) : Prop := ∀ s : Nat, s < 10 → mR MZ (s + 1) 0 = some (s + 11) ∧ mI MZ (s + 1) 1 = 0 ∧ ∀ k : Nat, mI MZ (s + 11) k = (strB.getD s []).getD k 0
def TK (MZ M : MM) (T : Nat) (tx : Nat → Nat) : Prop := StrZ MZ ∧ Fix MZ M ∧ mR M 22 0 = some 23 ∧ mR M 22 1 = some 24 ∧ mI M 22 5 = vI T ∧ T ≤ 100 ∧ ∀ j : Nat, j < T → tx j < 128 ∧ mI M 23 j = vI (tx j)
def SX (M : MM) (a : Nat) (w : Bool) : Prop := mI M 22 6 = vI a ∧ mI M 22 4 = b2i w
def TF (M M' : MM) : Prop := M'.2 = M.2 ∧ (∀ a : Nat, ¬ a = 22 → mI M' a = mI M a) ∧ ∀ k : Nat, ¬ k = 4 → ¬ k = 6 → mI M' 22 k = mI M 22 k
theorem TF.refl (M : MM) : TF M M := ⟨rfl, fun _ _ => rfl, fun _ _ _ => rfl⟩
theorem TF.trans {M M1 M2 : MM} (h1 : TF M M1) (h2 : TF M1 M2) : TF M M2 := ⟨h2.1.trans h1.1, fun a ha => (h2.2.1 a ha).trans (h1.2.1 a ha), fun k h4 h6 => (h2.2.2 k h4 h6).trans (h1.2.2 k h4 h6)⟩
theorem TF.s {M : MM} {k : Nat} {z : Int32} (h : k = 4 ∨ k = 6) : TF M (sI M 22 k z) := ⟨rfl, fun a ha => rI_sI ha, fun j h4 h6 => bI_sI (by omega)⟩
theorem TK_tf {MZ M M' : MM} {T : Nat} {tx : Nat → Nat} (h : TF M M') (hK : TK MZ M T tx) : TK MZ M' T tx := by
  obtain ⟨k1, k2, k3, k4, k5, k6, k7⟩ := hK
  have hR : mR M' = mR M := by show M'.2.2.1 = _; rw [h.1]; rfl
  exact ⟨k1, fun a ha => ⟨by rw [h.2.1 a (by omega)]; exact (k2 a ha).1, by rw [hR]; exact (k2 a ha).2⟩, by rw [hR]; exact k3, by rw [hR]; exact k4, by rw [h.2.2 5 (by decide) (by decide)]; exact k5, k6, fun j hj => by rw [h.2.1 23 (by decide)]; exact k7 j hj⟩
section CText
variable {MZ M : MM} {d : Nat} {Q : Option Value → MM → Prop} {T a : Nat} {tx : Nat → Nat}
theorem s_takes_t {z : Nat} (hK : TK MZ M T tx) (hS : SX M a false) (ha : hr T tx a = z) (hz : z < 128) : CL d kX7_takes [.ref 22, .int (vI z)] M Q = Q (some (.int 1)) (sI M 22 6 (vI (a + 1))) := by
  obtain ⟨k1, k2, k3, k4, k5, k6, k7⟩ := hK
  have haT : a < T := Classical.byContradiction fun h => by rw [hr, if_neg h] at ha; omega
  rw [hr, if_pos haT] at ha
  rw [eX7_takes, hS.1, hS.2, k5, if_pos (show b2i false = 0 from rfl), if_neg (by rw [vI_neg (by omega)]; exact id), if_pos (by rw [vI_lt (by omega) (by omega)]; exact haT), if_pos (by rw [lt_nl (by omega) (by decide)]; omega)]
  simp only [ty_22, k3, ty_23, true_and, and_true, Option.some.injEq, exists_eq_left']
  rw [inb_n (by omega), vI_cl (by omega), (k7 a haT).2, ha, if_pos rfl, add_nl]
  exact propext ⟨fun h => h.2.2, fun h => ⟨rfl, by omega, h⟩⟩
theorem s_takes_f {z : Nat} (hK : TK MZ M T tx) {w : Bool} (hS : SX M a w) (ha : w = true ∨ ¬ hr T tx a = z) (hz : z < 128) (ha2 : a < 2000) : CL d kX7_takes [.ref 22, .int (vI z)] M Q = Q (some (.int 0)) M := by
  obtain ⟨k1, k2, k3, k4, k5, k6, k7⟩ := hK
  rw [eX7_takes, hS.1, hS.2, k5]
  cases w with
  | true => rw [if_neg (by decide)]; simp only [ty_22, true_and]
  | false =>
    have hne := ha.resolve_left (by decide)
    rw [if_pos (show b2i false = 0 from rfl), if_neg (by rw [vI_neg (by omega)]; exact id)]
    by_cases haT : a < T
    · rw [hr, if_pos haT] at hne
      rw [if_pos (by rw [vI_lt (by omega) (by omega)]; exact haT), if_pos (by rw [lt_nl (by omega) (by decide)]; omega)]
      simp only [ty_22, k3, ty_23, true_and, and_true, Option.some.injEq, exists_eq_left']
      rw [inb_n (by omega), vI_cl (by omega), (k7 a haT).2, if_neg (by rw [vI_inj (by have := (k7 a haT).1; omega) (by omega)]; exact hne)]
      exact propext ⟨fun h => h.2.2, fun h => ⟨rfl, by omega, h⟩⟩
    · rw [if_neg (by rw [vI_lt (by omega) (by omega)]; exact haT)]
      simp only [ty_22, true_and]
set_option maxRecDepth 20000 in
theorem ent_ck (l0 : Int32) (l1 : Int32)  : ent kJ3_checkIndex_8e157 [.int l0, .int l1, .retAddr 1] = [.int l0, .int l1, .retAddr 1] := by
  rw [ent, mf_J3_checkIndex_8e157.2.2.2]
  rfl
set_option maxRecDepth 20000 in
theorem eck (d : Nat) (l0 : Int32) (l1 : Int32) (M : MM) (Q : Option Value → MM → Prop) (h0 : ¬ l0 < 0) (h1 : l0 < l1) : CL (d) kJ3_checkIndex_8e157 [.int l0, .int l1, .retAddr 1] M Q = Q (some (.int l0)) M := by
  unfold CL
  rw [ent_ck]
  refine (wn cod_J3_checkIndex_8e157 dJ3_checkIndex_8e157_0 rfl (x_ic0 (t := 9) cod_J3_checkIndex_8e157 dJ3_checkIndex_8e157_1 (by decide) rfl (wn cod_J3_checkIndex_8e157 dJ3_checkIndex_8e157_4 rfl (wn cod_J3_checkIndex_8e157 dJ3_checkIndex_8e157_5 rfl (x_icm (t := 16) cod_J3_checkIndex_8e157 dJ3_checkIndex_8e157_6 (by decide) (wn cod_J3_checkIndex_8e157 dJ3_checkIndex_8e157_16 rfl (x_retI cod_J3_checkIndex_8e157 dJ3_checkIndex_8e157_17 ret_J3_checkIndex_8e157)) rfl))))).trans ?_
  exact (if_neg h0).trans (if_pos h1)
/- the words -/
def wds : List (List Nat) := [[110, 32], [48, 49, 50, 51, 52, 53, 54, 55, 56, 57], [97, 99, 107, 32], [97, 108, 108, 32], [41], [114, 99, 115, 100, 105], [60, 61, 62], [101, 100, 103, 101, 32], [111, 111, 114, 32], [115, 116, 97, 105, 114, 32]]
def wd (s : Nat) : List Nat := wds.getD s []
theorem ty_str : ∀ s : Nat, s < 10 → TY (s + 1) = (13, 0) ∧ TY (s + 11) = (31, (wd s).length) ∧ (wd s).length < 11 := by decide +kernel
theorem wd_B : ∀ s : Nat, s < 10 → ∀ k : Nat, k < 11 → (strB.getD s []).getD k 0 = vI ((wd s).getD k 0) ∧ (wd s).getD k 0 < 128 := by decide +kernel
theorem char_dec : ∀ c : Nat, c < 128 → ((((vI c &&& 255)).toUInt32 % 65536).toInt32) = vI c ∧ narB (some .char) (vI c) = true := by decide +kernel
theorem s_len {s : Nat} (hK : TK MZ M T tx) (hs : s < 10) : CL (d + 1) kJ0_length_8abf5 [.ref (s + 1)] M Q = Q (some (.int (vI (wd s).length))) M := by
  obtain ⟨k1, k2, k3⟩ := hK
  obtain ⟨z1, z2, z3⟩ := k1 s hs
  obtain ⟨t1, t2, t3⟩ := ty_str s hs
  have e1 : mR M (s + 1) 0 = some (s + 11) := by rw [(k2 (s + 1) (by omega)).2]; exact z1
  have e2 : mI M (s + 1) 1 = 0 := by rw [(k2 (s + 1) (by omega)).1]; exact z2
  rw [eJ0_length_8abf5]
  simp only [t1, e1, t2, eJ0_coder_7d493, e2, true_and, and_true, Option.some.injEq, exists_eq_left']
  rw [if_neg (by decide)]
  simp only [Option.toList_some, Option.toList_none, List.cons_append, List.nil_append]
  rw [gJ0_length_8abf5_9]
  have hd : ∀ n : Nat, n < 11 → iShr (Int32.ofNat n) 0 = vI n := by decide +kernel
  rw [hd _ t3]
  exact propext ⟨fun h => h.2.2, fun h => ⟨rfl, rfl, h⟩⟩
theorem s_char {s k : Nat} (hK : TK MZ M T tx) (hs : s < 10) (hk : k < (wd s).length) : CL (d + 4) kJ0_charAt_5068e [.ref (s + 1), .int (vI k)] M Q = Q (some (.int (vI ((wd s).getD k 0)))) M := by
  obtain ⟨k1, k2, k3⟩ := hK
  obtain ⟨z1, z2, z3⟩ := k1 s hs
  obtain ⟨t1, t2, t3⟩ := ty_str s hs
  obtain ⟨b1, b2⟩ := wd_B s hs k (by omega)
  obtain ⟨c1, c2⟩ := char_dec _ b2
  have e1 : mR M (s + 1) 0 = some (s + 11) := by rw [(k2 (s + 1) (by omega)).2]; exact z1
  have e2 : mI M (s + 1) 1 = 0 := by rw [(k2 (s + 1) (by omega)).1]; exact z2
  have e3 : mI M (s + 11) k = vI ((wd s).getD k 0) := by
    rw [← b1, ← z3 k]
    by_cases h : s + 11 ≤ 20
    · rw [(k2 (s + 11) h).1]
    · omega
  rw [eJ0_charAt_5068e, eJ0_isLatin1_aae02, e2, if_neg (by decide), if_pos rfl, t1]
  simp only [true_and, Option.toList_some, Option.toList_none, List.cons_append, List.nil_append]
  rw [gJ0_charAt_5068e_4, if_neg (by decide), t1, e1, rf_some, eJ1_charAt_3b067, t2, eJ0_checkIndex_df160, eck _ _ _ _ _ (by rw [vI_neg (by omega)]; exact id) (show vI k < Int32.ofNat (wd s).length by rw [show Int32.ofNat (wd s).length = vI (wd s).length from rfl, vI_lt (by omega) (by omega)]; exact hk)]
  simp only [true_and, Option.toList_some, Option.toList_none, List.cons_append, List.nil_append]
  rw [gJ0_checkIndex_df160_8]
  simp only [true_and, Option.toList_some, Option.toList_none, List.cons_append, List.nil_append]
  rw [gJ1_charAt_3b067_6, t2, inb_n (by omega), vI_cl (by omega), e3, c1]
  simp only [true_and, Option.toList_some, Option.toList_none, List.cons_append, List.nil_append]
  rw [gJ0_charAt_5068e_15, c2]
  simp only [true_and, Option.toList_some, Option.toList_none, List.cons_append, List.nil_append]
  exact propext ⟨fun h => h.2.2.2, fun h => ⟨rfl, rfl, hk, h⟩⟩
/-- a word read sign by sign -/
def wrd (T : Nat) (tx : Nat → Nat) : List Nat → Nat → Nat × Bool
  | [], a => (a, false)
  | c :: l, a => if hr T tx a = c then wrd T tx l (a + 1) else (a, true)
theorem s_needs_loop {s : Nat} (hs : s < 10) : ∀ m k : Nat, k + m = (wd s).length → ∀ (M : MM) (a : Nat) (w : Bool), TK MZ M T tx → a ≤ T → SX M a w →
    (∀ M' : MM, TF M M' → SX M' (if w = true then a else (wrd T tx ((wd s).drop k) a).1) (w || (wrd T tx ((wd s).drop k) a).2) → Q none M') →
    WP (d + 5) kX7_needs (2, [.ref 22, .ref (s + 1), .int (vI k)], [], M) Q := by
  obtain ⟨t1, t2, t3⟩ := ty_str s hs
  intro m
  induction m with
  | zero =>
    intro k hk M a w hK haT hS h
    have hd : (wd s).drop k = [] := List.drop_eq_nil_of_le (by omega)
    rw [gX7_needs_2, t1, s_len hK hs]
    simp only [true_and, Option.toList_some, Option.toList_none, List.cons_append, List.nil_append]
    rw [gX7_needs_7, if_neg (by rw [vI_lt (by omega) (by omega)]; omega)]
    refine h M (TF.refl M) ?_
    rw [hd]
    cases w with
    | true => exact hS
    | false => exact hS
  | succ m ih =>
    intro k hk M a w hK haT hS h
    have hkl : k < (wd s).length := by omega
    have hd : (wd s).drop k = (wd s).getD k 0 :: (wd s).drop (k + 1) := by
      rw [List.drop_eq_getElem_cons hkl, List.getD_eq_getElem?_getD, List.getElem?_eq_getElem hkl]; rfl
    have hz := (wd_B s hs k (by omega)).2
    have hT := hK.2.2.2.2.2.1
    rw [gX7_needs_2, t1, s_len hK hs]
    simp only [true_and, Option.toList_some, Option.toList_none, List.cons_append, List.nil_append]
    rw [gX7_needs_7, if_pos (by rw [vI_lt (by omega) (by omega)]; omega), t1, s_char hK hs hkl]
    simp only [true_and, Option.toList_some, Option.toList_none, List.cons_append, List.nil_append]
    rw [gX7_needs_17, ty_22]
    rw [hd] at h
    refine ⟨rfl, ?_⟩
    by_cases ht : w = false ∧ hr T tx a = (wd s).getD k 0
    · obtain ⟨rfl, ht⟩ := ht
      have haT2 : a < T := Classical.byContradiction fun h => by rw [hr, if_neg h] at ht; omega
      rw [s_takes_t hK hS ht hz]
      simp only [Option.toList_some, Option.toList_none, List.cons_append, List.nil_append]
      rw [gX7_needs_20, if_neg (by decide), ty_22, xI_sI (by decide), hS.2, if_pos (show b2i false = 0 from rfl), add_nl]
      have hF : TF M (sI (sI M 22 6 (vI (a + 1))) 22 4 0) := (TF.s (Or.inr rfl)).trans (TF.s (Or.inl rfl))
      refine ⟨rfl, rfl, ih (k + 1) (by omega) _ (a + 1) false (TK_tf hF hK) (by omega) ⟨by rw [xI_sI (by decide), aI_sI], aI_sI _ _ _ _⟩ (fun M' h1 h2 => h M' (hF.trans h1) ?_)⟩
      rw [wrd, if_pos ht]
      exact h2
    · rw [s_takes_f hK hS (by
        cases w with
        | true => exact Or.inl rfl
        | false => exact Or.inr (fun h2 => ht ⟨rfl, h2⟩)) hz (by omega)]
      simp only [Option.toList_some, Option.toList_none, List.cons_append, List.nil_append]
      rw [gX7_needs_20, if_pos rfl, ty_22, add_nl]
      have hF : TF M (sI M 22 4 1) := TF.s (Or.inl rfl)
      refine ⟨rfl, ih (k + 1) (by omega) _ a true (TK_tf hF hK) haT ⟨by rw [xI_sI (by decide)]; exact hS.1, aI_sI _ _ _ _⟩ (fun M' h1 h2 => h M' (hF.trans h1) ?_)⟩
      cases w with
      | true => exact h2
      | false =>
        rw [wrd, if_neg (fun h3 => ht ⟨rfl, h3⟩)]
        exact h2
theorem s_needs {s : Nat} (hs : s < 10) {w : Bool} (hK : TK MZ M T tx) (haT : a ≤ T) (hS : SX M a w)
    (h : ∀ M' : MM, TF M M' → SX M' (if w = true then a else (wrd T tx (wd s) a).1) (w || (wrd T tx (wd s) a).2) → Q none M') : CL (d + 5) kX7_needs [.ref 22, .ref (s + 1)] M Q := by
  rw [eX7_needs]
  exact s_needs_loop hs (wd s).length 0 (by omega) M a w hK haT hS h
end CText
