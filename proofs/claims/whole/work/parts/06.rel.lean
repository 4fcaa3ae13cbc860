/-! ===== the small machine's states and the machine's ===== -/
/-- what is fixed from the law's start on: class numbers; array classes; the first cell of the law's own; the script's cell, its length and ints; the String constants' cells, their bytes'; the static that nobody looks at -/
abbrev CX : Type := va_G × (Nat → ClassId) × Nat × Nat × Nat × (Nat → Int32) × (Nat → Nat) × (Nat → Nat) × Value
def xD (X : CX) : va_G := X.1
def xA (X : CX) : Nat → ClassId := X.2.1
def xB (X : CX) : Nat := X.2.2.1
def xb (X : CX) : Nat := X.2.2.2.1
def xl (X : CX) : Nat := X.2.2.2.2.1
def xs_ (X : CX) : Nat → Int32 := X.2.2.2.2.2.1
def xK (X : CX) : Nat → Nat := X.2.2.2.2.2.2.1
def xV (X : CX) : Nat → Nat := X.2.2.2.2.2.2.2.1
def xO (X : CX) : Value := X.2.2.2.2.2.2.2.2
def AB (X : CX) : Nat → Prop := fun q => xB X ≤ q
def rho (X : CX) (a : Nat) : Nat := if a < 21 then (if a < 11 then (if a = 0 then xb X else xK X (a - 1)) else xV X (a - 11)) else xB X + (a - 21)
def rv (X : CX) : Value → Value
  | .ref a => .ref (rho X a)
  | .retAddr n => if n = 2 then .ref (xb X) else xO X
  | .int x => .int x
  | .long x => .long x
  | .null => .null
  | .float x => .float x
  | .double x => .double x
def VOK (M : MM) : Value → Prop
  | .ref a => a < mN M
  | .retAddr n => n < 3
  | .float _ => False
  | .double _ => False
  | _ => True
def CLO (M : MM) : Prop := ∀ a k q, mR M a k = some q → q < mN M
def asc (X : CX) (ls : List Value) : List (Nat × Value) := (List.range ls.length).filterMap fun i => match ls[i]? with
  | some v => if v = dm then none else some (i, rv X v)
  | none => none
def aT (t : Nat) : FieldType := match t with
  | 20 => .int
  | 21 => .long
  | 22 => .byte
  | 23 => .boolean
  | 24 => .object "TwoOnOneBack$Walker"
  | _ => .object "TwoOnOneBack$Tape"
def tysL (X : CX) : List (ClassId × FieldType) := [(xA X 20, .int), (xA X 21, .long), (xA X 22, .byte), (xA X 23, .boolean), (xA X 24, .object "TwoOnOneBack$Walker"), (xA X 25, .object "TwoOnOneBack$Tape")]
def EW (X : CX) (M : MM) (a : Nat) : va_E := if (TY a).1 < 12 then .inr ((TY a).1, (List.range (NF (TY a).1)).map fun j => rv X (gv (FT (TY a).1 j) M a j))
  else .inl (xA X (TY a).1, (TY a).2, if (TY a).1 = 21 then .inr (.inl (fun j => mL M a j)) else if (TY a).1 = 24 ∨ (TY a).1 = 25 then .inr (.inr (.inr (.inr (fun j => (mR M a j).map (rho X))))) else .inl (fun j => mI M a j))
def wsM (X : CX) (M : MM) : va_W := (List.range (mN M - 21)).map fun i => (xB X + i, EW X M (21 + i))
/-- what nobody may change, as the small machine has it -/
def EXT (X : CX) (M : MM) : Prop := ((∀ i, i < 10 → mI M (1 + i) 1 = 0 ∧ mR M (1 + i) 0 = some (11 + i)) ∧ (∀ i, i < 10 → ∀ j, mI M (11 + i) j = (strB.getD i []).getD j 0)) ∧ (∀ j, j < xl X → mI M 0 j = xs_ X j) ∧ (mI M 1 0 = Int32.ofNat (xl X) ∧ xl X < 2 ^ 31)
def REL (X : CX) (M : MM) (H : Heap) : Prop := (21 ≤ mN M ∧ H.size = xB X + (mN M - 21)) ∧ va_P (xD X) vwCl (wsM X M) H ∧ EXT X M ∧ CLO M ∧ mN M ≤ 119
/-- what the tables, statics and constants say, of a state at a method's start -/
def OKU (X : CX) (U : State) : Prop := (va_K (xD X) vwCl (tysL X) U ∧ (∀ w ∈ nestW, va_Nw w U) ∧ va_AO "TwoOnOneBack$Walker" U ∧ va_AO "TwoOnOneBack$Tape" U) ∧
  (vk_S 10 strL strB (xK X) (xV X) (AB X) U U.heap ∧ ∀ j, j < 10 → vk_R (strQ.getD j ("", 0, "")).1 (strQ.getD j ("", 0, "")).2.1 (strQ.getD j ("", 0, "")).2.2 (xK X j) U) ∧
  (va_Z "java/lang/String" "COMPACT_STRINGS" "Z" (.int 1) (AB X) U U.heap ∧ va_Z "jdk/internal/util/Preconditions" "SIOOBE_FORMATTER" "Ljava/util/function/BiFunction;" (xO X) (AB X) U U.heap) ∧
  (va_X (xb X) (xl X) (xs_ X) U U.heap ∧ xb X < xB X ∧ xB X ≤ U.heap.size ∧ (xO X = .null ∨ ∃ a, xO X = .ref a))
theorem tag_lo {a : Nat} (h : (TY a).1 < 12 ∨ (20 ≤ (TY a).1 ∧ (TY a).1 ≤ 25)) : 21 ≤ a := by
  rcases Nat.lt_or_ge a 21 with q | q
  · exfalso
    have : ∀ b, b < 21 → ¬ ((TY b).1 < 12 ∨ (20 ≤ (TY b).1 ∧ (TY b).1 ≤ 25)) := by decide +kernel
    exact this a q h
  · exact q
theorem tag_all {a : Nat} (h : 21 ≤ a) (h2 : a < 119) : (TY a).1 < 12 ∨ (20 ≤ (TY a).1 ∧ (TY a).1 ≤ 25) := by
  have : ∀ b, b < 119 → 21 ≤ b → ((TY b).1 < 12 ∨ (20 ≤ (TY b).1 ∧ (TY b).1 ≤ 25)) := by decide +kernel
  exact this a h2 h
theorem rho_own {X : CX} {a : Nat} (h : 21 ≤ a) : rho X a = xB X + (a - 21) := by unfold rho; rw [if_neg (by omega)]
theorem ws_get {X : CX} {M : MM} {a : Nat} (h : 21 ≤ a) (h2 : a < mN M) : (wsM X M)[a - 21]? = some (rho X a, EW X M a) := by
  rw [rho_own h]
  have : 21 + (a - 21) = a := by omega
  unfold wsM
  rw [List.getElem?_map, List.getElem?_range (by omega)]
  simp only [Option.map_some, this]
theorem ws_ext {X : CX} {M M' : MM} (hn : mN M' = mN M) {a : Nat} (h : 21 ≤ a) (h2 : a < mN M) {e : va_E} (he : e = EW X M' a) (ho : ∀ b, b ≠ a → 21 ≤ b → EW X M' b = EW X M b) : (wsM X M).set (a - 21) (rho X a, e) = wsM X M' := by
  subst he
  apply List.ext_getElem?
  intro i
  by_cases hi : i = a - 21
  · subst hi
    rw [List.getElem?_set_self (by simp [wsM]; omega), ← hn] at *
    rw [ws_get h (by omega)]
  · rw [List.getElem?_set_ne (Ne.symm hi)]
    simp only [wsM, List.getElem?_map, hn]
    by_cases hl : i < mN M - 21
    · rw [List.getElem?_range hl]
      simp only [Option.map_some]
      rw [ho (21 + i) (by omega) (by omega)]
    · rw [List.getElem?_eq_none (by simpa using hl)]
      rfl
theorem ws_D {X : CX} {M : MM} : va_D (AB X) (wsM X M) := by
  have key : ∀ (k : Nat) (q : Nat × va_E), (wsM X M)[k]? = some q → q.1 = xB X + k := by
    intro k q h
    have hk : k < mN M - 21 := by
      have := (List.getElem?_eq_some_iff.mp h).1
      simpa [wsM] using this
    simp only [wsM, List.getElem?_map, List.getElem?_range hk, Option.map_some] at h
    cases h
    rfl
  refine ⟨fun i j p q hi hj e => ?_, fun k q h => ?_⟩
  · have h1 := key i p hi
    have h2 := key j q hj
    omega
  · have h1 := key k q h
    show xB X ≤ q.1
    omega
theorem rf_rv {X : CX} (o : Option Nat) : rv X (rf o) = va_rf (o.map (rho X)) := by cases o <;> rfl
theorem rv_cat {X : CX} (hO : xO X = .null ∨ ∃ a, xO X = .ref a) (v : Value) : (rv X v).category = v.category := by
  cases v <;> try rfl
  rename_i n
  show (if n = 2 then Value.ref (xb X) else xO X).category = 1
  split
  · rfl
  · rcases hO with h | ⟨a, h⟩ <;> rw [h] <;> rfl
theorem cat_map {X : CX} (hO : xO X = .null ∨ ∃ a, xO X = .ref a) (st : List Value) : ((st.map (rv X)).map fun v => v.category).sum = catS st := by
  induction st with
  | nil => rfl
  | cons v r ih => simp only [List.map_cons, List.sum_cons, rv_cat hO, catS, ih]
theorem asc_mem {X : CX} {ls : List Value} {q : Nat × Value} : q ∈ asc X ls ↔ ∃ v, ls[q.1]? = some v ∧ v ≠ dm ∧ q.2 = rv X v := by
  obtain ⟨i, w⟩ := q
  simp only [asc, List.mem_filterMap, List.mem_range]
  constructor
  · rintro ⟨j, hj, h⟩
    rw [List.getElem?_eq_getElem hj] at h
    dsimp only at h
    split at h
    · cases h
    · cases h
      exact ⟨ls[i], by rw [List.getElem?_eq_getElem hj], by assumption, rfl⟩
  · rintro ⟨v, h1, h2, h3⟩
    refine ⟨i, (List.getElem?_eq_some_iff.mp h1).1, ?_⟩
    have h1' : ls[i]? = some v := h1
    have h3' : w = rv X v := h3
    rw [h1']
    dsimp only
    rw [if_neg h2, h3']
theorem asc_at {X : CX} {sl : Array Slot} {n i : Nat} {ls : List Value} {v : Value} (h : lv_has sl n (asc X ls)) (hv : ls[i]? = some v) (hd : v ≠ dm) : sl[i]? = some (.val (rv X v)) := h.2.2 (i, rv X v) (asc_mem.mpr ⟨v, hv, hd, rfl⟩)
theorem lv_weak {sl : Array Slot} {n : Nat} {l l' : List (Nat × Value)} (h : lv_has sl n l) (hs : ∀ q ∈ l', q ∈ l) : lv_has sl n l' := ⟨h.1, h.2.1, fun q hq => h.2.2 q (hs q hq)⟩
theorem cl1_len (ls : List Value) (i : Nat) : (cl1 ls i).length = ls.length := by
  unfold cl1
  split
  · rfl
  · split
    · split <;> simp
    · rfl
theorem st1_len (ls : List Value) (i : Nat) (v : Value) : (st1 ls i v).length = ls.length := by simp [st1, cl1_len]
theorem st2_len (ls : List Value) (i : Nat) (v : Value) : (st2 ls i v).length = ls.length := by simp [st2, cl1_len]
theorem cl1_get {ls : List Value} {i j : Nat} {w : Value} (h : (cl1 ls i)[j]? = some w) (hw : w ≠ dm) : ls[j]? = some w ∧ ¬ (j + 1 = i ∧ w.category = 2) := by
  unfold cl1 at h
  split at h
  · exact ⟨h, fun q => by omega⟩
  · rename_i i j0
    split at h
    · rename_i v hv
      split at h
      · rename_i hc
        by_cases hj : j = j0
        · subst hj
          rw [List.getElem?_set_self ((List.getElem?_eq_some_iff.mp hv).1)] at h
          cases h
          exact absurd rfl hw
        · rw [List.getElem?_set_ne (Ne.symm hj)] at h
          exact ⟨h, fun q => hj (by omega)⟩
      · rename_i hc
        refine ⟨h, fun q => ?_⟩
        have : j = j0 := by omega
        subst this
        rw [hv] at h
        cases h
        exact hc q.2
    · rename_i hn
      refine ⟨h, fun q => ?_⟩
      have : j = j0 := by omega
      subst this
      rw [h] at hn
      cases hn
theorem asc_st1 {X : CX} (hO : xO X = .null ∨ ∃ a, xO X = .ref a) {ls : List Value} {i : Nat} {v : Value} (hi : i < ls.length) : ∀ q ∈ asc X (st1 ls i v), q ∈ (i, rv X v) :: (asc X ls).filter (fun q => !(q.1 == i) && !(q.1 + 1 == i && q.2.category == 2)) := by
  rintro ⟨j, u⟩ hq
  obtain ⟨w, h1, h2, h3⟩ := asc_mem.mp hq
  dsimp only at h1 h3
  unfold st1 at h1
  by_cases hj : j = i
  · subst hj
    rw [List.getElem?_set_self (by rw [cl1_len]; exact hi)] at h1
    cases h1
    rw [h3]
    exact List.mem_cons_self
  · rw [List.getElem?_set_ne (Ne.symm hj)] at h1
    obtain ⟨g1, g2⟩ := cl1_get h1 h2
    refine List.mem_cons_of_mem _ (List.mem_filter.mpr ⟨asc_mem.mpr ⟨w, g1, h2, h3⟩, ?_⟩)
    dsimp only
    rw [h3, rv_cat hO]
    have e1 : (j == i) = false := by simpa using hj
    rw [e1]
    by_cases e2 : j + 1 = i
    · have : ¬ w.category = 2 := fun z => g2 ⟨e2, z⟩
      simp [this]
    · simp [e2]
theorem asc_st2 {X : CX} (hO : xO X = .null ∨ ∃ a, xO X = .ref a) {ls : List Value} {i : Nat} {v : Value} (hi : i + 1 < ls.length) : ∀ q ∈ asc X (st2 ls i v), q ∈ (i, rv X v) :: (asc X ls).filter (fun q => !(q.1 == i) && (!(q.1 == i + 1) && !(q.1 + 1 == i && q.2.category == 2))) := by
  rintro ⟨j, u⟩ hq
  obtain ⟨w, h1, h2, h3⟩ := asc_mem.mp hq
  dsimp only at h1 h3
  unfold st2 at h1
  by_cases hk : j = i + 1
  · subst hk
    rw [List.getElem?_set_self (by simp [cl1_len]; exact hi)] at h1
    cases h1
    exact absurd rfl h2
  · rw [List.getElem?_set_ne (Ne.symm hk)] at h1
    by_cases hj : j = i
    · subst hj
      rw [List.getElem?_set_self (by rw [cl1_len]; omega)] at h1
      cases h1
      rw [h3]
      exact List.mem_cons_self
    · rw [List.getElem?_set_ne (Ne.symm hj)] at h1
      obtain ⟨g1, g2⟩ := cl1_get h1 h2
      refine List.mem_cons_of_mem _ (List.mem_filter.mpr ⟨asc_mem.mpr ⟨w, g1, h2, h3⟩, ?_⟩)
      dsimp only
      rw [h3, rv_cat hO]
      have e1 : (j == i) = false := by simpa using hj
      have e3 : (j == i + 1) = false := by simpa using hk
      rw [e1, e3]
      by_cases e2 : j + 1 = i
      · have : ¬ w.category = 2 := fun z => g2 ⟨e2, z⟩
        simp [this]
      · simp [e2]
theorem vok_set {M : MM} {ls : List Value} {i : Nat} {v : Value} (h : ∀ w ∈ ls, VOK M w) (hv : VOK M v) : ∀ w ∈ ls.set i v, VOK M w := fun w hw => (List.mem_or_eq_of_mem_set hw).elim (h w) (fun e => e ▸ hv)
theorem vok_cl1 {M : MM} {ls : List Value} {i : Nat} (h : ∀ w ∈ ls, VOK M w) : ∀ w ∈ cl1 ls i, VOK M w := by
  unfold cl1
  split
  · exact h
  · split
    · split
      · exact vok_set h (by show 0 < 3; decide)
      · exact h
    · exact h
theorem vok_st1 {M : MM} {ls : List Value} {i : Nat} {v : Value} (h : ∀ w ∈ ls, VOK M w) (hv : VOK M v) : ∀ w ∈ st1 ls i v, VOK M w := vok_set (vok_cl1 h) hv
theorem vok_st2 {M : MM} {ls : List Value} {i : Nat} {v : Value} (h : ∀ w ∈ ls, VOK M w) (hv : VOK M v) : ∀ w ∈ st2 ls i v, VOK M w := vok_set (vok_set (vok_cl1 h) hv) (by show 0 < 3; decide)
theorem vok_mono {M M' : MM} (h : mN M ≤ mN M') {v : Value} (hv : VOK M v) : VOK M' v := by
  cases v <;> first | exact hv | (exact Nat.lt_of_lt_of_le hv h)
def szA (a : Nat) : Nat := if a < 21 then 0 else if (TY a).1 < 12 then NF (TY a).1 else (TY a).2
def slN : Nat → Nat
  | 0 => 0
  | n + 1 => slN n + szA n
theorem slN_mono {a b : Nat} (h : a ≤ b) : slN a ≤ slN b := by
  induction h with
  | refl => exact Nat.le_refl _
  | step _ ih => exact Nat.le_trans ih (Nat.le_add_right _ _)
