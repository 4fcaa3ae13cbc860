/-! ===== 61: the class's clauses and lands ===== -/
def rc {α β : Type} (r : Nat × Option α) (k : Nat → α → Nat × Option β) : Nat × Option β := match r.2 with
  | none => (r.1, none)
  | some s => k r.1 s
theorem rc_n {α β : Type} {r : Nat × Option α} {k : Nat → α → Nat × Option β} (h : r.2 = none) : rc r k = (r.1, none) := by unfold rc; rw [h]
theorem rc_s {α β : Type} {r : Nat × Option α} {s : α} {k : Nat → α → Nat × Option β} (h : r.2 = some s) : rc r k = k r.1 s := by unfold rc; rw [h]
/-- a land as far as it is read: beats on, beats back, what is marked -/
abbrev CS := Nat × Nat × (Nat → Nat → Prop)
def cl4 (n : Nat) : Nat := if n < 1 then 1 else if 4 < n then 4 else n
section PureC
variable (T : Nat) (tx : Nat → Nat)
/-- a word, then what follows it -/
def aft {β : Type} (l : List Nat) (a : Nat) (k : Nat → Nat × Option β) : Nat × Option β := if (wrd T tx l a).2 = true then ((wrd T tx l a).1, none) else k (wrd T tx l a).1
def pMk (i : Nat) (σ : CS) (a : Nat) : Nat × Option CS := rc (pEit T tx 4 a) (fun a2 s => (a2, some ⟨σ.1, σ.2.1, fun k c => σ.2.2 k c ∨ (k = i ∧ s c)⟩))
def pClause (σ : CS) (a : Nat) : Nat × Option CS :=
  if hr T tx a = 111 then aft T tx (wd 0) (a + 1) (fun a1 => rc (pNum T tx a1) (fun a2 n => (a2, some ⟨n, σ.2.1, σ.2.2⟩)))
  else if hr T tx a = 98 then aft T tx (wd 2) (a + 1) (fun a1 => rc (pNum T tx a1) (fun a2 n => (a2, some ⟨σ.1, n, σ.2.2⟩)))
  else if hr T tx a = 119 then aft T tx (wd 3) (a + 1) (pMk T tx 0 σ)
  else if hr T tx a = 108 then aft T tx (wd 7) (a + 1) (pMk T tx 1 σ)
  else if hr T tx a = 100 then aft T tx (wd 8) (a + 1) (pMk T tx 2 σ)
  else aft T tx (wd 9) a (pMk T tx 3 σ)
def pLoop : Nat → Nat → CS → Nat × Option CS
  | 0, a, σ => (a, some σ)
  | n + 1, a, σ => if hr T tx a = 59 then rc (pClause T tx σ (a + 1)) (fun a2 σ2 => pLoop n a2 σ2) else (a, some σ)
def σ0 : CS := ⟨2, 1, fun _ _ => False⟩
def pAll : Nat × Option CS := rc (pClause T tx σ0 0) (fun a σ => rc (pLoop T tx 9 a σ) (fun a2 σ2 => if a2 < T then (a2, none) else (a2, some σ2)))
end PureC
section PureB
variable {T : Nat} {tx : Nat → Nat}
theorem wrd_b {l : List Nat} (hl : ∀ c ∈ l, c < 999) : ∀ (a : Nat), a ≤ T → a ≤ (wrd T tx l a).1 ∧ (wrd T tx l a).1 ≤ T := by
  induction l with
  | nil => exact fun a ha => ⟨Nat.le_refl a, ha⟩
  | cons c l ih =>
    intro a ha
    rw [wrd]
    by_cases h : hr T tx a = c
    · rw [if_pos h]
      have h1 := hr_T h (hl c List.mem_cons_self)
      have h2 := ih (fun x hx => hl x (List.mem_cons_of_mem _ hx)) (a + 1) (by omega)
      exact ⟨by omega, h2.2⟩
    · rw [if_neg h]; exact ⟨Nat.le_refl a, ha⟩
theorem wd_999 : ∀ s : Nat, s < 10 → ∀ c ∈ wd s, c < 999 := by decide +kernel
theorem rc_b {α β : Type} {a : Nat} {r : Nat × Option α} {k : Nat → α → Nat × Option β} (h : a ≤ r.1 ∧ r.1 ≤ T) (hk : ∀ s : α, r.1 ≤ (k r.1 s).1 ∧ (k r.1 s).1 ≤ T) : a ≤ (rc r k).1 ∧ (rc r k).1 ≤ T := by
  cases h2 : r.2 with
  | none => rw [rc_n h2]; exact h
  | some s =>
    rw [rc_s h2]
    have := hk s
    exact ⟨by omega, this.2⟩
theorem aft_b {β : Type} {s a : Nat} (hs : s < 10) (ha : a ≤ T) {k : Nat → Nat × Option β} (hk : ∀ a1 : Nat, a1 ≤ T → a1 ≤ (k a1).1 ∧ (k a1).1 ≤ T) : a ≤ (aft T tx (wd s) a k).1 ∧ (aft T tx (wd s) a k).1 ≤ T := by
  have h1 := wrd_b (T := T) (tx := tx) (wd_999 s hs) a ha
  unfold aft
  by_cases h : (wrd T tx (wd s) a).2 = true
  · rw [if_pos h]; exact h1
  · rw [if_neg h]
    have h2 := hk _ h1.2
    exact ⟨by omega, h2.2⟩
theorem pEit_b (l : Nat) : bnd2 T (pEit T tx l) := chain_b (tx := tx) (op := opO) (show 124 < 999 by decide) (chain_b (tx := tx) (op := opA) (show 38 < 999 by decide) (pFac_b l))
theorem pMk_b (i : Nat) (σ : CS) (a : Nat) (ha : a ≤ T) : a ≤ (pMk T tx i σ a).1 ∧ (pMk T tx i σ a).1 ≤ T := rc_b (pEit_b 4 a ha) (fun s => ⟨Nat.le_refl _, (pEit_b 4 a ha).2⟩)
theorem pClause_b (σ : CS) (a : Nat) (ha : a ≤ T) : a ≤ (pClause T tx σ a).1 ∧ (pClause T tx σ a).1 ≤ T := by
  have up : ∀ {c : Nat} {x : Nat}, hr T tx a = c → c < 999 → (a + 1 ≤ T → a + 1 ≤ x ∧ x ≤ T) → a ≤ x ∧ x ≤ T := fun h hc hx => by
    have h1 := hr_T h hc
    have h2 := hx (by omega)
    exact ⟨by omega, h2.2⟩
  have nb : ∀ (g : Nat → CS) (a1 : Nat), a1 ≤ T → a1 ≤ (rc (pNum T tx a1) (fun a2 n => (a2, some (g n)))).1 ∧ (rc (pNum T tx a1) (fun a2 n => (a2, some (g n)))).1 ≤ T := fun g a1 h1 => rc_b (pNum_b h1) (fun s => ⟨Nat.le_refl _, (pNum_b h1).2⟩)
  unfold pClause
  by_cases h1 : hr T tx a = 111
  · rw [if_pos h1]; exact up h1 (by decide) (fun h => aft_b (by decide) h (nb _))
  rw [if_neg h1]
  by_cases h2 : hr T tx a = 98
  · rw [if_pos h2]; exact up h2 (by decide) (fun h => aft_b (by decide) h (nb _))
  rw [if_neg h2]
  by_cases h3 : hr T tx a = 119
  · rw [if_pos h3]; exact up h3 (by decide) (fun h => aft_b (by decide) h (pMk_b _ _))
  rw [if_neg h3]
  by_cases h4 : hr T tx a = 108
  · rw [if_pos h4]; exact up h4 (by decide) (fun h => aft_b (by decide) h (pMk_b _ _))
  rw [if_neg h4]
  by_cases h5 : hr T tx a = 100
  · rw [if_pos h5]; exact up h5 (by decide) (fun h => aft_b (by decide) h (pMk_b _ _))
  rw [if_neg h5]
  exact aft_b (by decide) ha (pMk_b _ _)
theorem pLoop_b : ∀ (n a : Nat) (σ : CS), a ≤ T → a ≤ (pLoop T tx n a σ).1 ∧ (pLoop T tx n a σ).1 ≤ T
  | 0, a, σ, ha => ⟨Nat.le_refl a, ha⟩
  | n + 1, a, σ, ha => by
    rw [pLoop]
    by_cases h : hr T tx a = 59
    · rw [if_pos h]
      have a1 := hr_T h (by decide)
      have h1 := pClause_b (T := T) (tx := tx) σ (a + 1) (by omega)
      exact rc_b ⟨by omega, h1.2⟩ (fun s => pLoop_b n _ _ h1.2)
    · rw [if_neg h]; exact ⟨Nat.le_refl a, ha⟩
theorem pNum_lt {a n : Nat} (h : (pNum T tx a).2 = some n) : n < 100 := by
  unfold pNum at h
  by_cases h1 : dig (hr T tx a)
  · rw [if_pos h1] at h
    have d1 := h1.2
    by_cases h2 : dig (hr T tx (a + 1))
    · rw [if_pos h2] at h
      have d2 := h2.2
      cases h; omega
    · rw [if_neg h2] at h
      cases h; omega
  · rw [if_neg h1] at h; cases h
end PureB
/-- what a clause may change in the class -/
def TG (M M' : MM) : Prop := M'.2.2 = M.2.2 ∧ (∀ a : Nat, ¬ a = 24 → mL M' a = mL M a) ∧ (∀ a : Nat, ¬ a = 22 → mI M' a = mI M a) ∧ ∀ k : Nat, ¬ (k = 2 ∨ k = 3 ∨ k = 4 ∨ k = 6) → mI M' 22 k = mI M 22 k
theorem TG.refl (M : MM) : TG M M := ⟨rfl, fun _ _ => rfl, fun _ _ => rfl, fun _ _ => rfl⟩
theorem TG.trans {M M1 M2 : MM} (h1 : TG M M1) (h2 : TG M1 M2) : TG M M2 := ⟨h2.1.trans h1.1, fun a ha => (h2.2.1 a ha).trans (h1.2.1 a ha), fun a ha => (h2.2.2.1 a ha).trans (h1.2.2.1 a ha), fun k h => (h2.2.2.2 k h).trans (h1.2.2.2 k h)⟩
theorem TG.tf {M M' : MM} (h : TF M M') : TG M M' := ⟨by rw [h.1], fun a _ => by show M'.2.1 a = M.2.1 a; rw [h.1], h.2.1, fun k hk => h.2.2 k (by omega) (by omega)⟩
theorem TG.s {M : MM} {k : Nat} {z : Int32} (h : k = 2 ∨ k = 3 ∨ k = 4 ∨ k = 6) : TG M (sI M 22 k z) := ⟨rfl, fun _ _ => rfl, fun a ha => rI_sI ha, fun j hj => bI_sI (by omega)⟩
theorem TG.l {M : MM} {k : Nat} {z : Int64} : TG M (sL M 24 k z) := ⟨rfl, fun a ha => rL_sL ha, fun _ _ => rfl, fun _ _ => rfl⟩
theorem TK_tg {MZ M M' : MM} {T : Nat} {tx : Nat → Nat} (h : TG M M') (hK : TK MZ M T tx) : TK MZ M' T tx := by
  obtain ⟨k1, k2, k3, k4, k5, k6, k7⟩ := hK
  have hR : mR M' = mR M := by show M'.2.2.1 = _; rw [h.1]; rfl
  exact ⟨k1, fun a ha => ⟨by rw [h.2.2.1 a (by omega)]; exact (k2 a ha).1, by rw [hR]; exact (k2 a ha).2⟩, by rw [hR]; exact k3, by rw [hR]; exact k4, by rw [h.2.2.2 5 (by decide)]; exact k5, k6, fun j hj => by rw [h.2.2.1 23 (by decide)]; exact k7 j hj⟩
/-- what has been read stands in the class -/
def CXs (M : MM) (σ : CS) : Prop := mI M 22 2 = vI (cl4 σ.1) ∧ mI M 22 3 = vI (cl4 σ.2.1) ∧ ∀ k : Nat, k < 4 → mL M 24 k = zb (σ.2.2 k)
theorem CXs_tf {M M' : MM} {σ : CS} (h : TF M M') (hX : CXs M σ) : CXs M' σ := ⟨by rw [h.2.2 2 (by decide) (by decide)]; exact hX.1, by rw [h.2.2 3 (by decide) (by decide)]; exact hX.2.1, fun k hk => by
  show M'.2.1 24 k = _
  rw [h.1]; exact hX.2.2 k hk⟩
theorem clamp_dec : ∀ n : Nat, n < 100 → (if (1 : Int32) < (if vI n < 4 then vI n else 4) then (if vI n < 4 then vI n else 4) else 1) = vI (cl4 n) := by decide +kernel
section CCl
variable {MZ M : MM} {d : Nat} {Q : Option Value → MM → Prop} {T a : Nat} {tx : Nat → Nat}
theorem s_cl_o {σ : CS} (hK : TK MZ M T tx) (haT : a ≤ T) (hS : SX M a false) (hX : CXs M σ)
    (h : ∀ M' : MM, TG M M' → SX M' (aft T tx (wd 0) a (fun a1 => rc (pNum T tx a1) (fun a2 n => (a2, some ⟨n, σ.2.1, σ.2.2⟩))) : Nat × Option CS).1 ((aft T tx (wd 0) a (fun a1 => rc (pNum T tx a1) (fun a2 n => (a2, some ⟨n, σ.2.1, σ.2.2⟩))) : Nat × Option CS).2.isNone) → (∀ σ2 : CS, (aft T tx (wd 0) a (fun a1 => rc (pNum T tx a1) (fun a2 n => (a2, some ⟨n, σ.2.1, σ.2.2⟩))) : Nat × Option CS).2 = some σ2 → CXs M' σ2) → Q none M') :
    CL (d + 21) kX7_needs [.ref 22, .ref 1] M (fun v_ M_ => WP (d + 22) kX7_clause (15, [.ref 22], v_.toList ++ [], M_) Q) := by
  have hb := wrd_b (T := T) (tx := tx) (wd_999 0 (by decide)) a haT
  refine s_needs (d := d + 16) (s := 0) (by decide) hK haT hS (fun M1 hF1 hS1 => ?_)
  simp only [Option.toList_some, Option.toList_none, List.cons_append, List.nil_append]
  rw [gX7_clause_15]
  rw [if_neg (by decide), Bool.false_or] at hS1
  refine ⟨by simp only [ty_22], s_number (d := d + 15) (TK_tf hF1 hK) hb.2 hS1 (fun M2 v hF2 hS2 hv => ?_)⟩
  simp only [Option.toList_some, Option.toList_none, List.cons_append, List.nil_append]
  rw [gX7_clause_22]
  refine ⟨by simp only [ty_22], ?_⟩
  have hF : ∀ z : Int32, TG M (sI M2 22 2 z) := fun z => (TG.tf (hF1.trans hF2)).trans (TG.s (by decide))
  have hS3 : ∀ (x : Nat) (b : Bool) (z : Int32), SX M2 x b → SX (sI M2 22 2 z) x b := fun x b z hs => ⟨by rw [xI_sI (by decide)]; exact hs.1, by rw [xI_sI (by decide)]; exact hs.2⟩
  unfold aft at h
  cases hw : (wrd T tx (wd 0) a).2 with
  | true =>
    rw [hw, if_pos rfl] at h
    rw [hw, gw_t] at hS2
    exact h _ (hF _) (hS3 _ _ _ hS2) (fun σ2 h2 => by cases h2)
  | false =>
    rw [hw, if_neg (by decide)] at h
    dsimp only at h
    rw [hw, gw_f] at hS2 hv
    cases hx : (pNum T tx (wrd T tx (wd 0) a).1).2 with
    | none =>
      rw [rc_n hx] at h
      rw [hx] at hS2
      exact h _ (hF _) (hS3 _ _ _ hS2) (fun σ2 h2 => by cases h2)
    | some n =>
      rw [rc_s hx] at h
      rw [hx] at hS2
      obtain ⟨e1, e2⟩ := hv n hx
      subst e1
      rw [clamp_dec n e2]
      have hX2 := CXs_tf (hF1.trans hF2) hX
      refine h _ (hF _) (hS3 _ _ _ hS2) (fun σ2 h2 => ?_)
      cases h2
      exact ⟨aI_sI _ _ _ _, by rw [xI_sI (by decide)]; exact hX2.2.1, hX2.2.2⟩
theorem s_cl_b {σ : CS} (hK : TK MZ M T tx) (haT : a ≤ T) (hS : SX M a false) (hX : CXs M σ)
    (h : ∀ M' : MM, TG M M' → SX M' (aft T tx (wd 2) a (fun a1 => rc (pNum T tx a1) (fun a2 n => (a2, some ⟨σ.1, n, σ.2.2⟩))) : Nat × Option CS).1 ((aft T tx (wd 2) a (fun a1 => rc (pNum T tx a1) (fun a2 n => (a2, some ⟨σ.1, n, σ.2.2⟩))) : Nat × Option CS).2.isNone) → (∀ σ2 : CS, (aft T tx (wd 2) a (fun a1 => rc (pNum T tx a1) (fun a2 n => (a2, some ⟨σ.1, n, σ.2.2⟩))) : Nat × Option CS).2 = some σ2 → CXs M' σ2) → Q none M') :
    CL (d + 21) kX7_needs [.ref 22, .ref 3] M (fun v_ M_ => WP (d + 22) kX7_clause (49, [.ref 22], v_.toList ++ [], M_) Q) := by
  have hb := wrd_b (T := T) (tx := tx) (wd_999 2 (by decide)) a haT
  refine s_needs (d := d + 16) (s := 2) (by decide) hK haT hS (fun M1 hF1 hS1 => ?_)
  simp only [Option.toList_some, Option.toList_none, List.cons_append, List.nil_append]
  rw [gX7_clause_49]
  rw [if_neg (by decide), Bool.false_or] at hS1
  refine ⟨by simp only [ty_22], s_number (d := d + 15) (TK_tf hF1 hK) hb.2 hS1 (fun M2 v hF2 hS2 hv => ?_)⟩
  simp only [Option.toList_some, Option.toList_none, List.cons_append, List.nil_append]
  rw [gX7_clause_56]
  refine ⟨by simp only [ty_22], ?_⟩
  have hF : ∀ z : Int32, TG M (sI M2 22 3 z) := fun z => (TG.tf (hF1.trans hF2)).trans (TG.s (by decide))
  have hS3 : ∀ (x : Nat) (b : Bool) (z : Int32), SX M2 x b → SX (sI M2 22 3 z) x b := fun x b z hs => ⟨by rw [xI_sI (by decide)]; exact hs.1, by rw [xI_sI (by decide)]; exact hs.2⟩
  unfold aft at h
  cases hw : (wrd T tx (wd 2) a).2 with
  | true =>
    rw [hw, if_pos rfl] at h
    rw [hw, gw_t] at hS2
    exact h _ (hF _) (hS3 _ _ _ hS2) (fun σ2 h2 => by cases h2)
  | false =>
    rw [hw, if_neg (by decide)] at h
    dsimp only at h
    rw [hw, gw_f] at hS2 hv
    cases hx : (pNum T tx (wrd T tx (wd 2) a).1).2 with
    | none =>
      rw [rc_n hx] at h
      rw [hx] at hS2
      exact h _ (hF _) (hS3 _ _ _ hS2) (fun σ2 h2 => by cases h2)
    | some n =>
      rw [rc_s hx] at h
      rw [hx] at hS2
      obtain ⟨e1, e2⟩ := hv n hx
      subst e1
      rw [clamp_dec n e2]
      have hX2 := CXs_tf (hF1.trans hF2) hX
      refine h _ (hF _) (hS3 _ _ _ hS2) (fun σ2 h2 => ?_)
      cases h2
      exact ⟨by rw [xI_sI (by decide)]; exact hX2.1, aI_sI _ _ _ _, hX2.2.2⟩
theorem s_cl_0 {σ : CS} (hK : TK MZ M T tx) (haT : a ≤ T) (hS : SX M a false) (hX : CXs M σ)
    (h : ∀ M' : MM, TG M M' → SX M' (aft T tx (wd 3) a (pMk T tx 0 σ)).1 ((aft T tx (wd 3) a (pMk T tx 0 σ)).2.isNone) → (∀ σ2 : CS, (aft T tx (wd 3) a (pMk T tx 0 σ)).2 = some σ2 → CXs M' σ2) → Q none M') :
    CL (d + 21) kX7_needs [.ref 22, .ref 4] M (fun v_ M_ => WP (d + 22) kX7_clause (83, [.ref 22], v_.toList ++ [], M_) Q) := by
  have hb := wrd_b (T := T) (tx := tx) (wd_999 3 (by decide)) a haT
  refine s_needs (d := d + 16) (s := 3) (by decide) hK haT hS (fun M1 hF1 hS1 => ?_)
  have hK1 := TK_tf hF1 hK
  simp only [Option.toList_some, Option.toList_none, List.cons_append, List.nil_append]
  rw [gX7_clause_83]
  rw [if_neg (by decide), Bool.false_or] at hS1
  simp only [ty_22, hK1.2.2.2.1, ty_24, rf_some, true_and, and_true, Option.some.injEq, exists_eq_left']
  refine ⟨by decide, s_either0 (d := d) _ M1 _ _ hK1 hb.2 hS1 (fun M2 v hF2 hS2 hv => ?_)⟩
  simp only [Option.toList_some, Option.toList_none, List.cons_append, List.nil_append]
  rw [gX7_clause_95]
  refine ⟨by rw [ty_24], by rw [ty_24]; decide, ?_⟩
  rw [show (0 : Int32).toNatClampNeg = 0 from rfl]
  have hF : ∀ z : Int64, TG M (sL M2 24 0 z) := fun z => (TG.tf (hF1.trans hF2)).trans TG.l
  unfold aft at h
  cases hw : (wrd T tx (wd 3) a).2 with
  | true =>
    rw [hw, if_pos rfl] at h
    rw [hw, gw_t] at hS2
    exact h _ (hF _) hS2 (fun σ2 h2 => by cases h2)
  | false =>
    rw [hw, if_neg (by decide)] at h
    rw [hw, gw_f] at hS2 hv
    unfold pMk at h
    cases hx : (pEit T tx 4 (wrd T tx (wd 3) a).1).2 with
    | none =>
      rw [rc_n hx] at h
      rw [hx] at hS2
      exact h _ (hF _) hS2 (fun σ2 h2 => by cases h2)
    | some s =>
      rw [rc_s hx] at h
      rw [hx] at hS2
      have e1 := hv s hx
      have hX2 := CXs_tf (hF1.trans hF2) hX
      have hX1 := CXs_tf hF1 hX
      refine h _ (hF _) hS2 (fun σ2 h2 => ?_)
      cases h2
      refine ⟨hX2.1, hX2.2.1, fun k hk => ?_⟩
      by_cases e : k = 0
      · subst e
        rw [aL_sL, hX1.2.2 0 (by decide), e1, zb_or]
        exact zb_congr (fun c _ => ⟨fun h => h.elim Or.inl (fun h => Or.inr ⟨rfl, h⟩), fun h => h.elim Or.inl (fun h => Or.inr h.2)⟩)
      · rw [bL_sL e, hX2.2.2 k hk]
        exact zb_congr (fun c _ => ⟨Or.inl, fun h => h.elim id (fun h => absurd h.1 e)⟩)
theorem s_cl_1 {σ : CS} (hK : TK MZ M T tx) (haT : a ≤ T) (hS : SX M a false) (hX : CXs M σ)
    (h : ∀ M' : MM, TG M M' → SX M' (aft T tx (wd 7) a (pMk T tx 1 σ)).1 ((aft T tx (wd 7) a (pMk T tx 1 σ)).2.isNone) → (∀ σ2 : CS, (aft T tx (wd 7) a (pMk T tx 1 σ)).2 = some σ2 → CXs M' σ2) → Q none M') :
    CL (d + 21) kX7_needs [.ref 22, .ref 8] M (fun v_ M_ => WP (d + 22) kX7_clause (115, [.ref 22], v_.toList ++ [], M_) Q) := by
  have hb := wrd_b (T := T) (tx := tx) (wd_999 7 (by decide)) a haT
  refine s_needs (d := d + 16) (s := 7) (by decide) hK haT hS (fun M1 hF1 hS1 => ?_)
  have hK1 := TK_tf hF1 hK
  simp only [Option.toList_some, Option.toList_none, List.cons_append, List.nil_append]
  rw [gX7_clause_115]
  rw [if_neg (by decide), Bool.false_or] at hS1
  simp only [ty_22, hK1.2.2.2.1, ty_24, rf_some, true_and, and_true, Option.some.injEq, exists_eq_left']
  refine ⟨by decide, s_either0 (d := d) _ M1 _ _ hK1 hb.2 hS1 (fun M2 v hF2 hS2 hv => ?_)⟩
  simp only [Option.toList_some, Option.toList_none, List.cons_append, List.nil_append]
  rw [gX7_clause_127]
  refine ⟨by rw [ty_24], by rw [ty_24]; decide, ?_⟩
  rw [show (1 : Int32).toNatClampNeg = 1 from rfl]
  have hF : ∀ z : Int64, TG M (sL M2 24 1 z) := fun z => (TG.tf (hF1.trans hF2)).trans TG.l
  unfold aft at h
  cases hw : (wrd T tx (wd 7) a).2 with
  | true =>
    rw [hw, if_pos rfl] at h
    rw [hw, gw_t] at hS2
    exact h _ (hF _) hS2 (fun σ2 h2 => by cases h2)
  | false =>
    rw [hw, if_neg (by decide)] at h
    rw [hw, gw_f] at hS2 hv
    unfold pMk at h
    cases hx : (pEit T tx 4 (wrd T tx (wd 7) a).1).2 with
    | none =>
      rw [rc_n hx] at h
      rw [hx] at hS2
      exact h _ (hF _) hS2 (fun σ2 h2 => by cases h2)
    | some s =>
      rw [rc_s hx] at h
      rw [hx] at hS2
      have e1 := hv s hx
      have hX2 := CXs_tf (hF1.trans hF2) hX
      have hX1 := CXs_tf hF1 hX
      refine h _ (hF _) hS2 (fun σ2 h2 => ?_)
      cases h2
      refine ⟨hX2.1, hX2.2.1, fun k hk => ?_⟩
      by_cases e : k = 1
      · subst e
        rw [aL_sL, hX1.2.2 1 (by decide), e1, zb_or]
        exact zb_congr (fun c _ => ⟨fun h => h.elim Or.inl (fun h => Or.inr ⟨rfl, h⟩), fun h => h.elim Or.inl (fun h => Or.inr h.2)⟩)
      · rw [bL_sL e, hX2.2.2 k hk]
        exact zb_congr (fun c _ => ⟨Or.inl, fun h => h.elim id (fun h => absurd h.1 e)⟩)
theorem s_cl_2 {σ : CS} (hK : TK MZ M T tx) (haT : a ≤ T) (hS : SX M a false) (hX : CXs M σ)
    (h : ∀ M' : MM, TG M M' → SX M' (aft T tx (wd 8) a (pMk T tx 2 σ)).1 ((aft T tx (wd 8) a (pMk T tx 2 σ)).2.isNone) → (∀ σ2 : CS, (aft T tx (wd 8) a (pMk T tx 2 σ)).2 = some σ2 → CXs M' σ2) → Q none M') :
    CL (d + 21) kX7_needs [.ref 22, .ref 9] M (fun v_ M_ => WP (d + 22) kX7_clause (147, [.ref 22], v_.toList ++ [], M_) Q) := by
  have hb := wrd_b (T := T) (tx := tx) (wd_999 8 (by decide)) a haT
  refine s_needs (d := d + 16) (s := 8) (by decide) hK haT hS (fun M1 hF1 hS1 => ?_)
  have hK1 := TK_tf hF1 hK
  simp only [Option.toList_some, Option.toList_none, List.cons_append, List.nil_append]
  rw [gX7_clause_147]
  rw [if_neg (by decide), Bool.false_or] at hS1
  simp only [ty_22, hK1.2.2.2.1, ty_24, rf_some, true_and, and_true, Option.some.injEq, exists_eq_left']
  refine ⟨by decide, s_either0 (d := d) _ M1 _ _ hK1 hb.2 hS1 (fun M2 v hF2 hS2 hv => ?_)⟩
  simp only [Option.toList_some, Option.toList_none, List.cons_append, List.nil_append]
  rw [gX7_clause_159]
  refine ⟨by rw [ty_24], by rw [ty_24]; decide, ?_⟩
  rw [show (2 : Int32).toNatClampNeg = 2 from rfl]
  have hF : ∀ z : Int64, TG M (sL M2 24 2 z) := fun z => (TG.tf (hF1.trans hF2)).trans TG.l
  unfold aft at h
  cases hw : (wrd T tx (wd 8) a).2 with
  | true =>
    rw [hw, if_pos rfl] at h
    rw [hw, gw_t] at hS2
    exact h _ (hF _) hS2 (fun σ2 h2 => by cases h2)
  | false =>
    rw [hw, if_neg (by decide)] at h
    rw [hw, gw_f] at hS2 hv
    unfold pMk at h
    cases hx : (pEit T tx 4 (wrd T tx (wd 8) a).1).2 with
    | none =>
      rw [rc_n hx] at h
      rw [hx] at hS2
      exact h _ (hF _) hS2 (fun σ2 h2 => by cases h2)
    | some s =>
      rw [rc_s hx] at h
      rw [hx] at hS2
      have e1 := hv s hx
      have hX2 := CXs_tf (hF1.trans hF2) hX
      have hX1 := CXs_tf hF1 hX
      refine h _ (hF _) hS2 (fun σ2 h2 => ?_)
      cases h2
      refine ⟨hX2.1, hX2.2.1, fun k hk => ?_⟩
      by_cases e : k = 2
      · subst e
        rw [aL_sL, hX1.2.2 2 (by decide), e1, zb_or]
        exact zb_congr (fun c _ => ⟨fun h => h.elim Or.inl (fun h => Or.inr ⟨rfl, h⟩), fun h => h.elim Or.inl (fun h => Or.inr h.2)⟩)
      · rw [bL_sL e, hX2.2.2 k hk]
        exact zb_congr (fun c _ => ⟨Or.inl, fun h => h.elim id (fun h => absurd h.1 e)⟩)
theorem s_cl_3 {σ : CS} (hK : TK MZ M T tx) (haT : a ≤ T) (hS : SX M a false) (hX : CXs M σ)
    (h : ∀ M' : MM, TG M M' → SX M' (aft T tx (wd 9) a (pMk T tx 3 σ)).1 ((aft T tx (wd 9) a (pMk T tx 3 σ)).2.isNone) → (∀ σ2 : CS, (aft T tx (wd 9) a (pMk T tx 3 σ)).2 = some σ2 → CXs M' σ2) → Q none M') :
    CL (d + 21) kX7_needs [.ref 22, .ref 10] M (fun v_ M_ => WP (d + 22) kX7_clause (170, [.ref 22], v_.toList ++ [], M_) Q) := by
  have hb := wrd_b (T := T) (tx := tx) (wd_999 9 (by decide)) a haT
  refine s_needs (d := d + 16) (s := 9) (by decide) hK haT hS (fun M1 hF1 hS1 => ?_)
  have hK1 := TK_tf hF1 hK
  simp only [Option.toList_some, Option.toList_none, List.cons_append, List.nil_append]
  rw [gX7_clause_170]
  rw [if_neg (by decide), Bool.false_or] at hS1
  simp only [ty_22, hK1.2.2.2.1, ty_24, rf_some, true_and, and_true, Option.some.injEq, exists_eq_left']
  refine ⟨by decide, s_either0 (d := d) _ M1 _ _ hK1 hb.2 hS1 (fun M2 v hF2 hS2 hv => ?_)⟩
  simp only [Option.toList_some, Option.toList_none, List.cons_append, List.nil_append]
  rw [gX7_clause_182]
  refine ⟨by rw [ty_24], by rw [ty_24]; decide, ?_⟩
  rw [show (3 : Int32).toNatClampNeg = 3 from rfl]
  have hF : ∀ z : Int64, TG M (sL M2 24 3 z) := fun z => (TG.tf (hF1.trans hF2)).trans TG.l
  unfold aft at h
  cases hw : (wrd T tx (wd 9) a).2 with
  | true =>
    rw [hw, if_pos rfl] at h
    rw [hw, gw_t] at hS2
    exact h _ (hF _) hS2 (fun σ2 h2 => by cases h2)
  | false =>
    rw [hw, if_neg (by decide)] at h
    rw [hw, gw_f] at hS2 hv
    unfold pMk at h
    cases hx : (pEit T tx 4 (wrd T tx (wd 9) a).1).2 with
    | none =>
      rw [rc_n hx] at h
      rw [hx] at hS2
      exact h _ (hF _) hS2 (fun σ2 h2 => by cases h2)
    | some s =>
      rw [rc_s hx] at h
      rw [hx] at hS2
      have e1 := hv s hx
      have hX2 := CXs_tf (hF1.trans hF2) hX
      have hX1 := CXs_tf hF1 hX
      refine h _ (hF _) hS2 (fun σ2 h2 => ?_)
      cases h2
      refine ⟨hX2.1, hX2.2.1, fun k hk => ?_⟩
      by_cases e : k = 3
      · subst e
        rw [aL_sL, hX1.2.2 3 (by decide), e1, zb_or]
        exact zb_congr (fun c _ => ⟨fun h => h.elim Or.inl (fun h => Or.inr ⟨rfl, h⟩), fun h => h.elim Or.inl (fun h => Or.inr h.2)⟩)
      · rw [bL_sL e, hX2.2.2 k hk]
        exact zb_congr (fun c _ => ⟨Or.inl, fun h => h.elim id (fun h => absurd h.1 e)⟩)
theorem s_clause {σ : CS} (hK : TK MZ M T tx) (haT : a ≤ T) (hS : SX M a false) (hX : CXs M σ)
    (h : ∀ M' : MM, TG M M' → SX M' (pClause T tx σ a).1 ((pClause T tx σ a).2.isNone) → (∀ σ2 : CS, (pClause T tx σ a).2 = some σ2 → CXs M' σ2) → Q none M') : CL (d + 22) kX7_clause [.ref 22] M Q := by
  have hT := hK.2.2.2.2.2.1
  have hF1 : TF M (sI M 22 6 (vI (a + 1))) := TF.s (Or.inr rfl)
  have hK1 := TK_tf hF1 hK
  have hS1 : SX (sI M 22 6 (vI (a + 1))) (a + 1) false := ⟨aI_sI _ _ _ _, by rw [xI_sI (by decide)]; exact hS.2⟩
  have hX1 := CXs_tf hF1 hX
  unfold pClause at h
  rw [eX7_clause, show (111 : Int32) = vI 111 from rfl]
  refine ⟨by simp only [ty_22], ?_⟩
  by_cases h1 : hr T tx a = 111
  · rw [if_pos h1] at h
    have a1 := hr_T h1 (by decide)
    rw [s_takes_t hK hS h1 (by decide)]
    simp only [Option.toList_some, Option.toList_none, List.cons_append, List.nil_append]
    rw [gX7_clause_6, if_neg (by decide)]
    exact ⟨by simp only [ty_22], s_cl_o hK1 (by omega) hS1 hX1 (fun M' g1 g2 g3 => h M' ((TG.tf hF1).trans g1) g2 g3)⟩
  rw [if_neg h1] at h
  rw [s_takes_f hK hS (Or.inr h1) (by decide) (by omega)]
  simp only [Option.toList_some, Option.toList_none, List.cons_append, List.nil_append]
  rw [gX7_clause_6, if_pos rfl, show (98 : Int32) = vI 98 from rfl]
  refine ⟨by simp only [ty_22], ?_⟩
  by_cases h2 : hr T tx a = 98
  · rw [if_pos h2] at h
    have a1 := hr_T h2 (by decide)
    rw [s_takes_t hK hS h2 (by decide)]
    simp only [Option.toList_some, Option.toList_none, List.cons_append, List.nil_append]
    rw [gX7_clause_40, if_neg (by decide)]
    exact ⟨by simp only [ty_22], s_cl_b hK1 (by omega) hS1 hX1 (fun M' g1 g2 g3 => h M' ((TG.tf hF1).trans g1) g2 g3)⟩
  rw [if_neg h2] at h
  rw [s_takes_f hK hS (Or.inr h2) (by decide) (by omega)]
  simp only [Option.toList_some, Option.toList_none, List.cons_append, List.nil_append]
  rw [gX7_clause_40, if_pos rfl, show (119 : Int32) = vI 119 from rfl]
  refine ⟨by simp only [ty_22], ?_⟩
  by_cases h3 : hr T tx a = 119
  · rw [if_pos h3] at h
    have a1 := hr_T h3 (by decide)
    rw [s_takes_t hK hS h3 (by decide)]
    simp only [Option.toList_some, Option.toList_none, List.cons_append, List.nil_append]
    rw [gX7_clause_74, if_neg (by decide)]
    exact ⟨by simp only [ty_22], s_cl_0 hK1 (by omega) hS1 hX1 (fun M' g1 g2 g3 => h M' ((TG.tf hF1).trans g1) g2 g3)⟩
  rw [if_neg h3] at h
  rw [s_takes_f hK hS (Or.inr h3) (by decide) (by omega)]
  simp only [Option.toList_some, Option.toList_none, List.cons_append, List.nil_append]
  rw [gX7_clause_74, if_pos rfl, show (108 : Int32) = vI 108 from rfl]
  refine ⟨by simp only [ty_22], ?_⟩
  by_cases h4 : hr T tx a = 108
  · rw [if_pos h4] at h
    have a1 := hr_T h4 (by decide)
    rw [s_takes_t hK hS h4 (by decide)]
    simp only [Option.toList_some, Option.toList_none, List.cons_append, List.nil_append]
    rw [gX7_clause_106, if_neg (by decide)]
    exact ⟨by simp only [ty_22], s_cl_1 hK1 (by omega) hS1 hX1 (fun M' g1 g2 g3 => h M' ((TG.tf hF1).trans g1) g2 g3)⟩
  rw [if_neg h4] at h
  rw [s_takes_f hK hS (Or.inr h4) (by decide) (by omega)]
  simp only [Option.toList_some, Option.toList_none, List.cons_append, List.nil_append]
  rw [gX7_clause_106, if_pos rfl, show (100 : Int32) = vI 100 from rfl]
  refine ⟨by simp only [ty_22], ?_⟩
  by_cases h5 : hr T tx a = 100
  · rw [if_pos h5] at h
    have a1 := hr_T h5 (by decide)
    rw [s_takes_t hK hS h5 (by decide)]
    simp only [Option.toList_some, Option.toList_none, List.cons_append, List.nil_append]
    rw [gX7_clause_138, if_neg (by decide)]
    exact ⟨by simp only [ty_22], s_cl_2 hK1 (by omega) hS1 hX1 (fun M' g1 g2 g3 => h M' ((TG.tf hF1).trans g1) g2 g3)⟩
  rw [if_neg h5] at h
  rw [s_takes_f hK hS (Or.inr h5) (by decide) (by omega)]
  simp only [Option.toList_some, Option.toList_none, List.cons_append, List.nil_append]
  rw [gX7_clause_138, if_pos rfl]
  exact ⟨by simp only [ty_22], s_cl_3 hK haT hS hX h⟩
/-- the clauses; what is left to do is the land's own row -/
theorem s_parsed (hK : TK MZ M T tx)
    (hno : (pAll T tx).2 = none → ∀ M' : MM, TG M M' → mI M' 22 6 = vI (pAll T tx).1 → Q (some (rf none)) M')
    (hyes : ∀ σ : CS, (pAll T tx).2 = some σ → ∀ (M' : MM) (l1 : Int32), TG M M' → CXs M' σ → TY (mN M') = (3, 0) ∧ WP (d + 23) kX7_parsed (84, [.ref 22, .int l1], [.ref (mN M')], nw M') Q) : CL (d + 23) kX7_parsed [.ref 22] M Q := by
  have hT := hK.2.2.2.2.2.1
  have hFa : TG M (sI (sI (sI (sI M 22 6 0) 22 4 0) 22 2 2) 22 3 1) := (((TG.s (by decide)).trans (TG.s (by decide))).trans (TG.s (by decide))).trans (TG.s (by decide))
  have hFb : TG (sI (sI (sI (sI M 22 6 0) 22 4 0) 22 2 2) 22 3 1) (flL (sI (sI (sI (sI M 22 6 0) 22 4 0) 22 2 2) 22 3 1) 24 4 0) := ⟨rfl, fun a ha => funext fun j => by rw [mL_flL, if_neg (fun h => ha h.1)], fun _ _ => rfl, fun _ _ => rfl⟩
  rw [eX7_parsed, hK.2.2.2.1, rf_some, s_fill ty_24 (by decide)]
  refine ⟨by simp only [ty_22], ?_⟩
  simp only [Option.toList_some, Option.toList_none, List.cons_append, List.nil_append]
  rw [gX7_parsed_28]
  have hS1 : SX (flL (sI (sI (sI (sI M 22 6 0) 22 4 0) 22 2 2) 22 3 1) 24 4 0) 0 false := by
    constructor
    · show mI (sI (sI (sI (sI M 22 6 0) 22 4 0) 22 2 2) 22 3 1) 22 6 = _
      simp (disch := omega) only [aI_sI, xI_sI]; rfl
    · show mI (sI (sI (sI (sI M 22 6 0) 22 4 0) 22 2 2) 22 3 1) 22 4 = _
      simp (disch := omega) only [aI_sI, xI_sI]; rfl
  have hX1 : CXs (flL (sI (sI (sI (sI M 22 6 0) 22 4 0) 22 2 2) 22 3 1) 24 4 0) σ0 := by
    refine ⟨?_, ?_, fun k hk => ?_⟩
    · show mI (sI (sI (sI (sI M 22 6 0) 22 4 0) 22 2 2) 22 3 1) 22 2 = _
      simp (disch := omega) only [aI_sI, xI_sI]; rfl
    · show mI (sI (sI (sI (sI M 22 6 0) 22 4 0) 22 2 2) 22 3 1) 22 3 = _
      simp (disch := omega) only [aI_sI]; rfl
    · rw [mL_flL, if_pos ⟨rfl, hk⟩]; exact zb_0
  have hF1 := hFa.trans hFb
  generalize flL (sI (sI (sI (sI M 22 6 0) 22 4 0) 22 2 2) 22 3 1) 24 4 0 = M1 at *
  -- what stands at the end
  have fin : ∀ (M2 : MM) (a : Nat) (r : Nat × Option CS) (l1 : Int32), a ≤ T → TG M M2 → SX M2 a r.2.isNone → r.1 = a → (∀ σ2 : CS, r.2 = some σ2 → CXs M2 σ2) → pAll T tx = rc r (fun a2 σ2 => if a2 < T then (a2, none) else (a2, some σ2)) →
      ((TY 22).1 = 7 ∧ ((if (mI M2 22 4) = 0 then (if (mI M2 22 6) < (mI M2 22 5) then Q (some (rf none)) M2 else (TY (mN M2) = (3, 0) ∧ (WP (d + 23) kX7_parsed (84, [.ref 22, .int l1], [.ref (mN M2)], (nw M2)) Q))) else Q (some (rf none)) M2))) := by
    intro M2 a r l1 ha hF hS hr1 hX hp
    have hK2 := TK_tg hF hK
    rw [hS.1, hS.2, hK2.2.2.2.2.1]
    refine ⟨by simp only [ty_22], ?_⟩
    cases hx : r.2 with
    | none =>
      rw [rc_n hx] at hp
      rw [if_neg (by decide)]
      exact hno (by rw [hp]) M2 hF (by rw [hp, hS.1, ← hr1])
    | some σ =>
      rw [rc_s hx, hr1] at hp
      rw [if_pos (show b2i (Option.isNone (some σ)) = 0 from rfl)]
      by_cases e : a < T
      · rw [if_pos e] at hp
        rw [if_pos (by rw [vI_lt (by omega) (by omega)]; exact e)]
        exact hno (by rw [hp]) M2 hF (by rw [hp, hS.1])
      · rw [if_neg e] at hp
        rw [if_neg (by rw [vI_lt (by omega) (by omega)]; exact e)]
        exact hyes σ (by rw [hp]) M2 l1 hF (hX σ hx)
  have lp : ∀ n i : Nat, i + n = 10 → ∀ (M2 : MM) (a : Nat) (w : Bool) (σ : CS), a ≤ T → TG M M2 → SX M2 a w → (w = false → CXs M2 σ) → pAll T tx = rc (gw w a (pLoop T tx n a σ)) (fun a2 σ2 => if a2 < T then (a2, none) else (a2, some σ2)) →
      WP (d + 23) kX7_parsed (34, [.ref 22, .int (vI i)], [], M2) Q := by
    intro n
    induction n with
    | zero =>
      intro i hi M2 a w σ ha hF hS hX hp
      obtain rfl : i = 10 := by omega
      rw [gX7_parsed_34, if_neg (by decide)]
      cases w with
      | true => exact fin M2 a (a, none) _ ha hF hS rfl (fun σ2 h2 => by cases h2) hp
      | false => exact fin M2 a (a, some σ) _ ha hF hS rfl (fun σ2 h2 => by cases h2; exact hX rfl) hp
    | succ n ih =>
      intro i hi M2 a w σ ha hF hS hX hp
      have hK2 := TK_tg hF hK
      rw [gX7_parsed_34, if_pos (by rw [lt_nl (by omega) (by decide)]; omega), show (59 : Int32) = vI 59 from rfl]
      refine ⟨by simp only [ty_22], ?_⟩
      by_cases ht : w = false ∧ hr T tx a = 59
      · obtain ⟨rfl, ht⟩ := ht
        have a1 := hr_T ht (by decide)
        have hF1 : TF M2 (sI M2 22 6 (vI (a + 1))) := TF.s (Or.inr rfl)
        have hcb := pClause_b (T := T) (tx := tx) σ (a + 1) (by omega)
        rw [s_takes_t hK2 hS ht (by decide)]
        simp only [Option.toList_some, Option.toList_none, List.cons_append, List.nil_append]
        rw [gX7_parsed_46, if_neg (by decide)]
        refine ⟨by simp only [ty_22], s_clause (TK_tf hF1 hK2) (by omega) ⟨aI_sI _ _ _ _, by rw [xI_sI (by decide)]; exact hS.2⟩ (CXs_tf hF1 (hX rfl)) (fun M3 hF3 hS3 hX3 => ?_)⟩
        simp only [Option.toList_some, Option.toList_none, List.cons_append, List.nil_append]
        rw [gX7_parsed_53, add_nl]
        rw [gw_f, pLoop, if_pos ht] at hp
        have hFF := (hF.trans (TG.tf hF1)).trans hF3
        cases hx : (pClause T tx σ (a + 1)).2 with
        | none =>
          rw [rc_n hx] at hp
          rw [hx] at hS3
          exact ih (i + 1) (by omega) M3 _ true σ0 hcb.2 hFF hS3 (fun e => by cases e) hp
        | some σ2 =>
          rw [rc_s hx] at hp
          rw [hx] at hS3
          exact ih (i + 1) (by omega) M3 _ false σ2 hcb.2 hFF hS3 (fun _ => hX3 σ2 hx) hp
      · rw [s_takes_f hK2 hS (by
          cases w with
          | true => exact Or.inl rfl
          | false => exact Or.inr (fun h2 => ht ⟨rfl, h2⟩)) (by decide) (by omega)]
        simp only [Option.toList_some, Option.toList_none, List.cons_append, List.nil_append]
        rw [gX7_parsed_46, if_pos rfl]
        cases w with
        | true => exact fin M2 a (a, none) _ ha hF hS rfl (fun σ2 h2 => by cases h2) hp
        | false =>
          rw [gw_f, pLoop, if_neg (fun h2 => ht ⟨rfl, h2⟩)] at hp
          exact fin M2 a (a, some σ) _ ha hF hS rfl (fun σ2 h2 => by cases h2; exact hX rfl) hp
  have hcb := pClause_b (T := T) (tx := tx) σ0 0 (by omega)
  refine ⟨by simp only [ty_22], s_clause (TK_tg hF1 hK) (by omega) hS1 hX1 (fun M3 hF3 hS3 hX3 => ?_)⟩
  simp only [Option.toList_some, Option.toList_none, List.cons_append, List.nil_append]
  rw [gX7_parsed_32, show (1 : Int32) = vI 1 from rfl]
  cases hx : (pClause T tx σ0 0).2 with
  | none =>
    rw [hx] at hS3
    refine lp 9 1 rfl M3 _ true σ0 hcb.2 (hF1.trans hF3) hS3 (fun e => by cases e) ?_
    unfold pAll
    rw [rc_n hx]; rfl
  | some σ =>
    rw [hx] at hS3
    refine lp 9 1 rfl M3 _ false σ hcb.2 (hF1.trans hF3) hS3 (fun _ => hX3 σ hx) ?_
    unfold pAll
    rw [rc_s hx]; rfl
end CCl
