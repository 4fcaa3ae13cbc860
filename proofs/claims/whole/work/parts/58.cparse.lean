/-! ===== 58: the class's parser of an expression ===== -/
theorem rb_n {r : Res} {k : Nat → (Nat → Prop) → Res} (h : r.2 = none) : rb r k = (r.1, none) := by unfold rb; rw [h]
theorem rb_s {r : Res} {s : Nat → Prop} {k : Nat → (Nat → Prop) → Res} (h : r.2 = some s) : rb r k = k r.1 s := by unfold rb; rw [h]
/-- nothing is read once it is wrong -/
def gw {α : Type} (w : Bool) (a : Nat) (r : Nat × Option α) : Nat × Option α := if w = true then (a, none) else r
theorem gw_t {α : Type} {a : Nat} {r : Nat × Option α} : gw true a r = (a, none) := rfl
theorem gw_f {α : Type} {a : Nat} {r : Nat × Option α} : gw false a r = r := rfl
theorem hr_T {T a c : Nat} {tx : Nat → Nat} (h : hr T tx a = c) (hc : c < 999) : a < T := Classical.byContradiction fun h2 => by rw [hr, if_neg h2] at h; omega
def bnd2 (T : Nat) (f : Nat → Res) : Prop := ∀ a : Nat, a ≤ T → a ≤ (f a).1 ∧ (f a).1 ≤ T
section Bnd
variable {T : Nat} {tx : Nat → Nat}
theorem dig_T {a : Nat} (h : dig (hr T tx a)) : a < T := hr_T (tx := tx) (c := hr T tx a) rfl (by have := h.2; omega)
theorem pNum_b {a : Nat} (ha : a ≤ T) : a ≤ (pNum T tx a).1 ∧ (pNum T tx a).1 ≤ T := by
  unfold pNum
  by_cases h : dig (hr T tx a)
  · rw [if_pos h]
    have h1 := dig_T h
    by_cases h2 : dig (hr T tx (a + 1))
    · rw [if_pos h2]; have h3 := dig_T h2; exact ⟨by show a ≤ a + 1 + 1; omega, by show a + 1 + 1 ≤ T; omega⟩
    · rw [if_neg h2]; exact ⟨by show a ≤ a + 1; omega, by show a + 1 ≤ T; omega⟩
  · rw [if_neg h]; exact ⟨Nat.le_refl a, ha⟩
theorem idx_T {s a k : Nat} (hs : s < 10) (h : idx (wd s) (hr T tx a) = some k) : a < T := Classical.byContradiction fun h2 => by
  rw [hr, if_neg h2] at h
  have hd : ∀ s : Nat, s < 10 → idx (wd s) 999 = none := by decide +kernel
  rw [hd s hs] at h; cases h
theorem pTest_b : bnd2 T (pTest T tx) := by
  intro a ha
  unfold pTest
  cases h1 : idx wLet (hr T tx a) with
  | none => exact ⟨Nat.le_refl a, ha⟩
  | some le =>
    have a1 : a < T := idx_T (s := 5) (by decide) h1
    cases h2 : idx wSgn (hr T tx (a + 1)) with
    | none => exact ⟨by show a ≤ a + 1; omega, by show a + 1 ≤ T; omega⟩
    | some sg =>
      have a2 : a + 1 < T := idx_T (s := 6) (by decide) h2
      have h3 := pNum_b (T := T) (tx := tx) (a := a + 1 + 1) (by omega)
      cases h4 : (pNum T tx (a + 1 + 1)).2 with
      | none => exact ⟨by show a ≤ (pNum T tx (a + 1 + 1)).1; omega, h3.2⟩
      | some n => exact ⟨by show a ≤ (pNum T tx (a + 1 + 1)).1; omega, h3.2⟩
theorem rb_b {a : Nat} {r : Res} {k : Nat → (Nat → Prop) → Res} (h : a ≤ r.1 ∧ r.1 ≤ T) (hk : ∀ s : Nat → Prop, r.1 ≤ (k r.1 s).1 ∧ (k r.1 s).1 ≤ T) : a ≤ (rb r k).1 ∧ (rb r k).1 ≤ T := by
  cases h2 : r.2 with
  | none => rw [rb_n h2]; exact h
  | some s =>
    rw [rb_s h2]
    have := hk s
    exact ⟨by omega, this.2⟩
theorem loopR_b {c : Nat} (hc : c < 999) {op : (Nat → Prop) → (Nat → Prop) → Nat → Prop} {f : Nat → Res} (hf : bnd2 T f) : ∀ (n a : Nat) (s : Nat → Prop), a ≤ T → a ≤ (loopR T tx c op f n a s).1 ∧ (loopR T tx c op f n a s).1 ≤ T
  | 0, a, s, ha => ⟨Nat.le_refl a, ha⟩
  | n + 1, a, s, ha => by
    rw [loopR]
    by_cases h : hr T tx a = c
    · rw [if_pos h]
      have a1 := hr_T h hc
      have h1 := hf (a + 1) (by omega)
      exact rb_b ⟨by omega, h1.2⟩ (fun s2 => loopR_b hc hf n _ _ h1.2)
    · rw [if_neg h]; exact ⟨Nat.le_refl a, ha⟩
theorem chain_b {c : Nat} (hc : c < 999) {op : (Nat → Prop) → (Nat → Prop) → Nat → Prop} {f : Nat → Res} (hf : bnd2 T f) : bnd2 T (chain T tx c op f) := fun a ha => rb_b (hf a ha) (fun s => loopR_b hc hf 100 _ _ (hf a ha).2)
theorem pFac_b : ∀ l : Nat, bnd2 T (pFac T tx l)
  | 0 => pTest_b
  | l + 1 => fun a ha => by
    rw [pFac]
    by_cases h1 : hr T tx a = 33
    · rw [if_pos h1]
      have a1 := hr_T h1 (by decide)
      have h2 := pFac_b l (a + 1) (by omega)
      exact rb_b ⟨by omega, h2.2⟩ (fun s => ⟨Nat.le_refl _, h2.2⟩)
    · rw [if_neg h1]
      by_cases h3 : hr T tx a = 40
      · rw [if_pos h3]
        have a1 := hr_T h3 (by decide)
        have h2 := chain_b (tx := tx) (op := opO) (show 124 < 999 by decide) (chain_b (tx := tx) (op := opA) (show 38 < 999 by decide) (pFac_b l)) (a + 1) (by omega)
        refine rb_b ⟨by omega, h2.2⟩ (fun s => ?_)
        by_cases h4 : hr T tx (chain T tx 124 opO (chain T tx 38 opA (pFac T tx l)) (a + 1)).1 = 41
        · rw [if_pos h4]
          have a2 := hr_T h4 (by decide)
          exact ⟨by show _ ≤ _ + 1; omega, by show _ + 1 ≤ T; omega⟩
        · rw [if_neg h4]; exact ⟨Nat.le_refl _, h2.2⟩
      · rw [if_neg h3]; exact pTest_b a ha
end Bnd
section CParse
variable {MZ M : MM} {d : Nat} {Q : Option Value → MM → Prop} {T a : Nat} {tx : Nat → Nat}
theorem s_oneIf_loop {s : Nat} (hs : s < 10) (hK : TK MZ M T tx) (hS : SX M a false) (haT : a < T) : ∀ m k : Nat, k + m = (wd s).length → WP (d + 5) kX7_oneIf (38, [.ref 22, .ref (s + 1), .int (vI k)], [], M) Q = (idx ((wd s).drop k) (tx a)).elim (Q (some (.int (-1))) M) (fun j => Q (some (.int (vI (k + j)))) (sI M 22 6 (vI (a + 1)))) := by
  obtain ⟨t1, t2, t3⟩ := ty_str s hs
  have hT := hK.2.2.2.2.2.1
  have hK7 := hK.2.2.2.2.2.2 a haT
  intro m
  induction m with
  | zero =>
    intro k hk
    rw [gX7_oneIf_38, t1, s_len hK hs, List.drop_eq_nil_of_le (by omega)]
    simp only [true_and, Option.toList_some, Option.toList_none, List.cons_append, List.nil_append]
    rw [gX7_oneIf_43, if_neg (by rw [vI_lt (by omega) (by omega)]; omega)]
    rfl
  | succ m ih =>
    intro k hk
    have hkl : k < (wd s).length := by omega
    have hd : (wd s).drop k = (wd s).getD k 0 :: (wd s).drop (k + 1) := by
      rw [List.drop_eq_getElem_cons hkl, List.getD_eq_getElem?_getD, List.getElem?_eq_getElem hkl]; rfl
    have hz := (wd_B s hs k (by omega)).2
    rw [gX7_oneIf_38, t1, s_len hK hs]
    simp only [true_and, Option.toList_some, Option.toList_none, List.cons_append, List.nil_append]
    rw [gX7_oneIf_43, if_pos (by rw [vI_lt (by omega) (by omega)]; omega), hS.1, t1]
    simp only [ty_22, hK.2.2.1, ty_23, true_and, and_true, Option.some.injEq, exists_eq_left']
    rw [s_char hK hs hkl]
    simp only [Option.toList_some, Option.toList_none, List.cons_append, List.nil_append]
    rw [inb_n (by omega), vI_cl (by omega), hK7.2, gX7_oneIf_60, hS.1, add_nl, add_nl, hd, idx]
    by_cases e : tx a = (wd s).getD k 0
    · rw [if_pos e, if_pos (by rw [e])]
      simp only [ty_22, true_and, Option.elim_some, Nat.add_zero]
      exact propext ⟨fun h => h.2.2, fun h => ⟨rfl, by omega, h⟩⟩
    · rw [if_neg e, if_neg (by rw [vI_inj (by omega) (by omega)]; exact e), ih (k + 1) (by omega)]
      cases hx : idx ((wd s).drop (k + 1)) (tx a) with
      | none => exact propext ⟨fun h => h.2.2, fun h => ⟨rfl, by omega, h⟩⟩
      | some j =>
        simp only [Option.map_some, Option.elim_some]
        rw [show k + 1 + j = k + (j + 1) by omega]
        exact propext ⟨fun h => h.2.2, fun h => ⟨rfl, by omega, h⟩⟩
theorem s_oneIf {s : Nat} (hs : s < 10) {w : Bool} (hK : TK MZ M T tx) (haT : a ≤ T) (hS : SX M a w) : CL (d + 5) kX7_oneIf [.ref 22, .ref (s + 1)] M Q = (gw w a (a, idx (wd s) (hr T tx a))).2.elim (Q (some (.int (-1))) M) (fun j => Q (some (.int (vI j))) (sI M 22 6 (vI (a + 1)))) := by
  have hT := hK.2.2.2.2.2.1
  rw [eX7_oneIf, hS.1, hS.2, hK.2.2.2.2.1]
  simp only [ty_22, true_and]
  cases w with
  | true => rw [if_neg (by decide)]; rfl
  | false =>
    rw [if_pos (show b2i false = 0 from rfl), if_neg (by rw [vI_neg (by omega)]; exact id), gw_f]
    by_cases h : a < T
    · rw [if_pos (by rw [vI_lt (by omega) (by omega)]; exact h), if_pos (by rw [lt_nl (by omega) (by decide)]; omega), show (0 : Int32) = vI 0 from rfl, s_oneIf_loop hs hK hS h (wd s).length 0 (by omega), hr, if_pos h, List.drop_zero]
      simp only [Nat.zero_add]
    · rw [if_neg (by rw [vI_lt (by omega) (by omega)]; exact h), hr, if_neg h]
      have hd : ∀ s : Nat, s < 10 → idx (wd s) 999 = none := by decide +kernel
      rw [hd s hs]; rfl
theorem idx_lt : ∀ s : Nat, s < 10 → ∀ c : Nat, c < 1000 → ∀ j ∈ idx (wd s) c, j < 11 := by decide +kernel
theorem hr_lt (hK : TK MZ M T tx) (a : Nat) : hr T tx a < 1000 := by
  unfold hr
  by_cases h : a < T
  · rw [if_pos h]; have := (hK.2.2.2.2.2.2 a h).1; omega
  · rw [if_neg h]; decide
/-- a sign of a choice that must be there -/
theorem s_oneOf {s : Nat} (hs : s < 10) {w : Bool} (hK : TK MZ M T tx) (haT : a ≤ T) (hS : SX M a w)
    (hn : (gw w a (a, idx (wd s) (hr T tx a))).2 = none → ∀ (M' : MM) (v : Int32), TF M M' → SX M' a true → Q (some (.int v)) M')
    (hy : ∀ j : Nat, w = false → idx (wd s) (hr T tx a) = some j → ∀ M' : MM, TF M M' → SX M' (a + 1) false → Q (some (.int (vI j))) M') : CL (d + 6) kX7_oneOf [.ref 22, .ref (s + 1)] M Q := by
  rw [eX7_oneOf, s_oneIf hs hK haT hS]
  refine ⟨by simp only [ty_22], ?_⟩
  have hl := hr_lt hK a
  cases w with
  | true =>
    rw [gw_t]
    simp only [Option.elim_none, Option.toList_some, Option.toList_none, List.cons_append, List.nil_append]
    rw [gX7_oneOf_5, hS.2, if_neg (by decide)]
    exact ⟨by simp only [ty_22], hn rfl _ _ (TF.s (Or.inl rfl)) ⟨by rw [xI_sI (by decide)]; exact hS.1, aI_sI _ _ _ _⟩⟩
  | false =>
    rw [gw_f] at *
    cases hx : idx (wd s) (hr T tx a) with
    | none =>
      simp only [Option.elim_none, Option.toList_some, Option.toList_none, List.cons_append, List.nil_append]
      rw [gX7_oneOf_5, hS.2, if_pos (show b2i false = 0 from rfl), if_pos (by decide)]
      exact ⟨by simp only [ty_22], hn hx _ _ (TF.s (Or.inl rfl)) ⟨by rw [xI_sI (by decide)]; exact hS.1, aI_sI _ _ _ _⟩⟩
    | some j =>
      have hj := idx_lt s hs _ hl j hx
      simp only [Option.elim_some, Option.toList_some, Option.toList_none, List.cons_append, List.nil_append]
      rw [gX7_oneOf_5, xI_sI (by decide), hS.2, if_pos (show b2i false = 0 from rfl), if_neg (by rw [vI_neg (by omega)]; exact id)]
      exact ⟨by simp only [ty_22], hy j rfl hx _ ((TF.s (Or.inr rfl)).trans (TF.s (Or.inl rfl))) ⟨by rw [xI_sI (by decide), aI_sI], aI_sI _ _ _ _⟩⟩
theorem idx_dig : ∀ c : Nat, c < 1000 → idx (wd 1) c = if dig c then some (c - 48) else none := by decide +kernel
theorem s_number {w : Bool} (hK : TK MZ M T tx) (haT : a ≤ T) (hS : SX M a w)
    (h : ∀ (M' : MM) (v : Int32), TF M M' → SX M' (gw w a (pNum T tx a)).1 ((gw w a (pNum T tx a)).2.isNone) → (∀ n : Nat, (gw w a (pNum T tx a)).2 = some n → v = vI n ∧ n < 100) → Q (some (.int v)) M') : CL (d + 6) kX7_number [.ref 22] M Q := by
  have h1 := hr_lt hK a
  have h2 := hr_lt hK (a + 1)
  rw [eX7_number, show (2 : Nat) = 1 + 1 from rfl, s_oneIf (by decide) hK haT hS]
  refine ⟨by simp only [ty_22], ?_⟩
  cases w with
  | true =>
    rw [gw_t] at h ⊢
    simp only [Option.elim_none, Option.toList_some, Option.toList_none, List.cons_append, List.nil_append]
    rw [gX7_number_6, if_pos (by decide)]
    exact ⟨by simp only [ty_22], h _ _ (TF.s (Or.inl rfl)) ⟨by rw [xI_sI (by decide)]; exact hS.1, aI_sI _ _ _ _⟩ (fun n hn => by cases hn)⟩
  | false =>
    rw [gw_f] at h ⊢
    rw [idx_dig _ h1]
    unfold pNum at h
    by_cases g1 : dig (hr T tx a)
    · rw [if_pos g1] at h ⊢
      have a1 := dig_T g1
      have hd1 := g1.2
      have hF1 : TF M (sI M 22 6 (vI (a + 1))) := TF.s (Or.inr rfl)
      have hS1 : SX (sI M 22 6 (vI (a + 1))) (a + 1) false := ⟨aI_sI _ _ _ _, by rw [xI_sI (by decide)]; exact hS.2⟩
      simp only [Option.elim_some, Option.toList_some, Option.toList_none, List.cons_append, List.nil_append]
      rw [gX7_number_6, if_neg (by rw [vI_neg (by omega)]; exact id), show (2 : Nat) = 1 + 1 from rfl, s_oneIf (by decide) (TK_tf hF1 hK) (by omega) hS1, gw_f, idx_dig _ h2]
      refine ⟨by simp only [ty_22], ?_⟩
      by_cases g2 : dig (hr T tx (a + 1))
      · rw [if_pos g2] at h ⊢
        have hd2 := g2.2
        simp only [Option.elim_some, Option.toList_some, Option.toList_none, List.cons_append, List.nil_append]
        rw [gX7_number_24, if_neg (by rw [vI_neg (by omega)]; exact id), mul_ln, vI_add]
        exact h _ _ (hF1.trans (TF.s (Or.inr rfl))) ⟨aI_sI _ _ _ _, by rw [xI_sI (by decide)]; exact hS1.2⟩ (fun n hn => by cases hn; exact ⟨rfl, by omega⟩)
      · rw [if_neg g2] at h ⊢
        simp only [Option.elim_none, Option.toList_some, Option.toList_none, List.cons_append, List.nil_append]
        rw [gX7_number_24, if_pos (by decide)]
        exact h _ _ hF1 hS1 (fun n hn => by cases hn; exact ⟨rfl, by omega⟩)
    · rw [if_neg g1] at h ⊢
      simp only [Option.elim_none, Option.toList_some, Option.toList_none, List.cons_append, List.nil_append]
      rw [gX7_number_6, if_pos (by decide)]
      exact ⟨by simp only [ty_22], h _ _ (TF.s (Or.inl rfl)) ⟨by rw [xI_sI (by decide)]; exact hS.1, aI_sI _ _ _ _⟩ (fun n hn => by cases hn)⟩
end CParse
