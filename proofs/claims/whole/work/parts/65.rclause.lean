/-! ===== 65: the reference's clauses ===== -/
def gwd (T : Nat) (tx : Nat → Nat) (l : List Nat) (w : Bool) (a : Nat) : Nat × Bool := if w = true then (a, true) else wrd T tx l a
theorem gwd_app {T : Nat} {tx : Nat → Nat} : ∀ (l1 l2 : List Nat) (w : Bool) (a : Nat), gwd T tx l2 (gwd T tx l1 w a).2 (gwd T tx l1 w a).1 = gwd T tx (l1 ++ l2) w a
  | l1, l2, true, a => rfl
  | [], l2, false, a => rfl
  | c :: l1, l2, false, a => by
    have ih := gwd_app (T := T) (tx := tx) l1 l2 false (a + 1)
    show gwd T tx l2 (wrd T tx (c :: l1) a).2 (wrd T tx (c :: l1) a).1 = wrd T tx (c :: (l1 ++ l2)) a
    rw [wrd, wrd]
    by_cases h : hr T tx a = c
    · rw [if_pos h, if_pos h]; exact ih
    · rw [if_neg h, if_neg h]; rfl
theorem gwd_b {T : Nat} {tx : Nat → Nat} {l : List Nat} (hl : ∀ c ∈ l, c < 999) {w : Bool} {a : Nat} (ha : a ≤ T) : (gwd T tx l w a).1 ≤ T := by
  cases w with
  | true => exact ha
  | false => exact (wrd_b hl a ha).2
def RG (M M' : MM) : Prop := M'.2 = M.2 ∧ (∀ a : Nat, ¬ a = 82 → ¬ a = 89 → mI M' a = mI M a) ∧ ∀ k : Nat, ¬ (k = 9 ∨ k = 10 ∨ k = 11 ∨ k = 13 ∨ k = 14) → mI M' 82 k = mI M 82 k
theorem RG.refl (M : MM) : RG M M := ⟨rfl, fun _ _ _ => rfl, fun _ _ => rfl⟩
theorem RG.trans {M M1 M2 : MM} (h1 : RG M M1) (h2 : RG M1 M2) : RG M M2 := ⟨h2.1.trans h1.1, fun a ha hb => (h2.2.1 a ha hb).trans (h1.2.1 a ha hb), fun k h => (h2.2.2 k h).trans (h1.2.2 k h)⟩
theorem RG.rf {M M' : MM} (h : RF M M') : RG M M' := ⟨h.1, fun a ha _ => h.2.1 a ha, fun k hk => h.2.2 k (by omega) (by omega) (by omega)⟩
theorem RG.s {M : MM} {k : Nat} {z : Int32} (h : k = 9 ∨ k = 10 ∨ k = 11 ∨ k = 13 ∨ k = 14) : RG M (sI M 82 k z) := ⟨rfl, fun a ha _ => rI_sI ha, fun j hj => bI_sI (by omega)⟩
theorem RG.r {M : MM} {k : Nat} {z : Int32} : RG M (sI M 89 k z) := ⟨rfl, fun a _ hb => rI_sI hb, fun j hj => xI_sI (by omega)⟩
theorem RK_rg {M M' : MM} {T : Nat} {tx : Nat → Nat} (h : RG M M') (hK : RK M T tx) : RK M' T tx := by
  obtain ⟨k1, k2, k3, k4⟩ := hK
  have hR : mR M' = mR M := by show M'.2.2.1 = _; rw [h.1]; rfl
  exact ⟨fun t ht => by rw [hR]; exact k1 t ht, by rw [h.2.2 8 (by decide)]; exact k2, k3, fun j hj => by rw [h.2.1 88 (by decide) (by decide)]; exact k4 j hj⟩
/-- what has been read stands in the reference -/
def CXm (M : MM) (σ : CS) : Prop := mI M 82 13 = vI σ.1 ∧ mI M 82 14 = vI σ.2.1 ∧ σ.1 < 100 ∧ σ.2.1 < 100 ∧ ∀ c : Nat, c < 36 → mI M 89 c = vI (mb (fun k => σ.2.2 k c) 4)
theorem CXm_rf {M M' : MM} {σ : CS} (h : RF M M') (hX : CXm M σ) : CXm M' σ := ⟨by rw [h.2.2 13 (by decide) (by decide) (by decide)]; exact hX.1, by rw [h.2.2 14 (by decide) (by decide) (by decide)]; exact hX.2.1, hX.2.2.1, hX.2.2.2.1, fun c hc => by rw [h.2.1 89 (by decide)]; exact hX.2.2.2.2 c hc⟩
section RCl
variable {M : MM} {d : Nat} {Q : Option Value → MM → Prop} {T a : Nat} {tx : Nat → Nat} {w : Bool}
theorem m_takesG {c dp : Nat} (hc : c < 128) (hK : RK M T tx) (hS : RX M a w dp) (ha : a ≤ T)
    (h : ∀ M' : MM, RF M M' → RX M' (gwd T tx [c] w a).1 (gwd T tx [c] w a).2 dp → Q none M') : CL (d + 1) kX11_takes [.ref 82, .int (vI c)] M Q := by
  refine m_takes hc hK hS ha (fun M' h1 h2 => h M' h1 ?_)
  cases w with
  | true => exact h2
  | false =>
    show RX M' (wrd T tx [c] a).1 (wrd T tx [c] a).2 dp
    rw [wrd]
    by_cases e : hr T tx a = c
    · rw [if_pos ⟨rfl, e⟩, decide_eq_true e] at h2
      rw [if_pos e]; exact h2
    · rw [if_neg (fun h => e h.2), decide_eq_false e] at h2
      rw [if_neg e]; exact h2
theorem m_word2 {c1 c2 : Nat} (hc1 : 0 < c1 ∧ c1 < 128) (hc2 : 0 < c2 ∧ c2 < 128) (hK : RK M T tx) (hS : RX M a w 0) (ha : a ≤ T)
    (h : ∀ M' : MM, RF M M' → RX M' (gwd T tx [c1, c2, 32] w a).1 (gwd T tx [c1, c2, 32] w a).2 0 → Q none M') : CL (d + 2) kX11_word [.ref 82, .int (vI c1), .int (vI c2), .int 0, .int 0, .int 0] M Q := by
  rw [eX11_word]
  refine ⟨by simp only [ty_82], m_takesG hc1.2 hK hS ha (fun M1 hF1 hS1 => ?_)⟩
  have b1 := gwd_b (T := T) (tx := tx) (l := [c1]) (fun c hc => by have := List.mem_singleton.mp hc; omega) (w := w) ha
  have hK1 := RK_rf hF1 hK
  simp only [Option.toList_some, Option.toList_none, List.cons_append, List.nil_append]
  rw [gX11_word_5]
  refine ⟨by simp only [ty_82], m_takesG hc2.2 hK1 hS1 b1 (fun M2 hF2 hS2 => ?_)⟩
  have b2 := gwd_b (T := T) (tx := tx) (l := [c2]) (fun c hc => by have := List.mem_singleton.mp hc; omega) (w := (gwd T tx [c1] w a).2) b1
  have hK2 := RK_rf hF2 hK1
  rw [gwd_app] at hS2 b2
  simp only [Option.toList_some, Option.toList_none, List.cons_append, List.nil_append]
  rw [gX11_word_10, if_pos rfl, if_pos rfl, if_pos rfl, show (32 : Int32) = vI 32 from rfl]
  refine ⟨by simp only [ty_82], m_takesG (by decide) hK2 hS2 b2 (fun M3 hF3 hS3 => ?_)⟩
  rw [gwd_app] at hS3
  simp only [Option.toList_some, Option.toList_none, List.cons_append, List.nil_append]
  rw [gX11_word_47]
  exact h _ ((hF1.trans hF2).trans hF3) hS3
theorem m_word4 {c1 c2 c3 c4 : Nat} (hc1 : 0 < c1 ∧ c1 < 128) (hc2 : 0 < c2 ∧ c2 < 128) (hc3 : 0 < c3 ∧ c3 < 128) (hc4 : 0 < c4 ∧ c4 < 128) (hK : RK M T tx) (hS : RX M a w 0) (ha : a ≤ T)
    (h : ∀ M' : MM, RF M M' → RX M' (gwd T tx [c1, c2, c3, c4, 32] w a).1 (gwd T tx [c1, c2, c3, c4, 32] w a).2 0 → Q none M') : CL (d + 2) kX11_word [.ref 82, .int (vI c1), .int (vI c2), .int (vI c3), .int (vI c4), .int 0] M Q := by
  rw [eX11_word]
  refine ⟨by simp only [ty_82], m_takesG hc1.2 hK hS ha (fun M1 hF1 hS1 => ?_)⟩
  have b1 := gwd_b (T := T) (tx := tx) (l := [c1]) (fun c hc => by have := List.mem_singleton.mp hc; omega) (w := w) ha
  have hK1 := RK_rf hF1 hK
  simp only [Option.toList_some, Option.toList_none, List.cons_append, List.nil_append]
  rw [gX11_word_5]
  refine ⟨by simp only [ty_82], m_takesG hc2.2 hK1 hS1 b1 (fun M2 hF2 hS2 => ?_)⟩
  have b2 := gwd_b (T := T) (tx := tx) (l := [c2]) (fun c hc => by have := List.mem_singleton.mp hc; omega) (w := (gwd T tx [c1] w a).2) b1
  have hK2 := RK_rf hF2 hK1
  rw [gwd_app] at hS2 b2
  simp only [Option.toList_some, Option.toList_none, List.cons_append, List.nil_append]
  rw [gX11_word_10, if_neg (by rw [eq_nl (by omega) (by decide)]; omega)]
  refine ⟨by simp only [ty_82], m_takesG hc3.2 hK2 hS2 b2 (fun M3 hF3 hS3 => ?_)⟩
  have b3 := gwd_b (T := T) (tx := tx) (l := [c3]) (fun c hc => by have := List.mem_singleton.mp hc; omega) (w := (gwd T tx ([c1] ++ [c2]) w a).2) b2
  have hK3 := RK_rf hF3 hK2
  rw [gwd_app] at hS3 b3
  simp only [Option.toList_some, Option.toList_none, List.cons_append, List.nil_append]
  rw [gX11_word_19, if_neg (by rw [eq_nl (by omega) (by decide)]; omega)]
  refine ⟨by simp only [ty_82], m_takesG hc4.2 hK3 hS3 b3 (fun M4 hF4 hS4 => ?_)⟩
  have b4 := gwd_b (T := T) (tx := tx) (l := [c4]) (fun c hc => by have := List.mem_singleton.mp hc; omega) (w := (gwd T tx ([c1] ++ [c2] ++ [c3]) w a).2) b3
  have hK4 := RK_rf hF4 hK3
  rw [gwd_app] at hS4 b4
  simp only [Option.toList_some, Option.toList_none, List.cons_append, List.nil_append]
  rw [gX11_word_30, if_pos rfl, show (32 : Int32) = vI 32 from rfl]
  refine ⟨by simp only [ty_82], m_takesG (by decide) hK4 hS4 b4 (fun M5 hF5 hS5 => ?_)⟩
  rw [gwd_app] at hS5
  simp only [Option.toList_some, Option.toList_none, List.cons_append, List.nil_append]
  rw [gX11_word_47]
  exact h _ ((((hF1.trans hF2).trans hF3).trans hF4).trans hF5) hS5
theorem m_word5 {c1 c2 c3 c4 c5 : Nat} (hc1 : 0 < c1 ∧ c1 < 128) (hc2 : 0 < c2 ∧ c2 < 128) (hc3 : 0 < c3 ∧ c3 < 128) (hc4 : 0 < c4 ∧ c4 < 128) (hc5 : 0 < c5 ∧ c5 < 128) (hK : RK M T tx) (hS : RX M a w 0) (ha : a ≤ T)
    (h : ∀ M' : MM, RF M M' → RX M' (gwd T tx [c1, c2, c3, c4, c5, 32] w a).1 (gwd T tx [c1, c2, c3, c4, c5, 32] w a).2 0 → Q none M') : CL (d + 2) kX11_word [.ref 82, .int (vI c1), .int (vI c2), .int (vI c3), .int (vI c4), .int (vI c5)] M Q := by
  rw [eX11_word]
  refine ⟨by simp only [ty_82], m_takesG hc1.2 hK hS ha (fun M1 hF1 hS1 => ?_)⟩
  have b1 := gwd_b (T := T) (tx := tx) (l := [c1]) (fun c hc => by have := List.mem_singleton.mp hc; omega) (w := w) ha
  have hK1 := RK_rf hF1 hK
  simp only [Option.toList_some, Option.toList_none, List.cons_append, List.nil_append]
  rw [gX11_word_5]
  refine ⟨by simp only [ty_82], m_takesG hc2.2 hK1 hS1 b1 (fun M2 hF2 hS2 => ?_)⟩
  have b2 := gwd_b (T := T) (tx := tx) (l := [c2]) (fun c hc => by have := List.mem_singleton.mp hc; omega) (w := (gwd T tx [c1] w a).2) b1
  have hK2 := RK_rf hF2 hK1
  rw [gwd_app] at hS2 b2
  simp only [Option.toList_some, Option.toList_none, List.cons_append, List.nil_append]
  rw [gX11_word_10, if_neg (by rw [eq_nl (by omega) (by decide)]; omega)]
  refine ⟨by simp only [ty_82], m_takesG hc3.2 hK2 hS2 b2 (fun M3 hF3 hS3 => ?_)⟩
  have b3 := gwd_b (T := T) (tx := tx) (l := [c3]) (fun c hc => by have := List.mem_singleton.mp hc; omega) (w := (gwd T tx ([c1] ++ [c2]) w a).2) b2
  have hK3 := RK_rf hF3 hK2
  rw [gwd_app] at hS3 b3
  simp only [Option.toList_some, Option.toList_none, List.cons_append, List.nil_append]
  rw [gX11_word_19, if_neg (by rw [eq_nl (by omega) (by decide)]; omega)]
  refine ⟨by simp only [ty_82], m_takesG hc4.2 hK3 hS3 b3 (fun M4 hF4 hS4 => ?_)⟩
  have b4 := gwd_b (T := T) (tx := tx) (l := [c4]) (fun c hc => by have := List.mem_singleton.mp hc; omega) (w := (gwd T tx ([c1] ++ [c2] ++ [c3]) w a).2) b3
  have hK4 := RK_rf hF4 hK3
  rw [gwd_app] at hS4 b4
  simp only [Option.toList_some, Option.toList_none, List.cons_append, List.nil_append]
  rw [gX11_word_30, if_neg (by rw [eq_nl (by omega) (by decide)]; omega)]
  refine ⟨by simp only [ty_82], m_takesG hc5.2 hK4 hS4 b4 (fun M5 hF5 hS5 => ?_)⟩
  have b5 := gwd_b (T := T) (tx := tx) (l := [c5]) (fun c hc => by have := List.mem_singleton.mp hc; omega) (w := (gwd T tx ([c1] ++ [c2] ++ [c3] ++ [c4]) w a).2) b4
  have hK5 := RK_rf hF5 hK4
  rw [gwd_app] at hS5 b5
  simp only [Option.toList_some, Option.toList_none, List.cons_append, List.nil_append]
  rw [gX11_word_41, show (32 : Int32) = vI 32 from rfl]
  refine ⟨by simp only [ty_82], m_takesG (by decide) hK5 hS5 b5 (fun M6 hF6 hS6 => ?_)⟩
  rw [gwd_app] at hS6
  simp only [Option.toList_some, Option.toList_none, List.cons_append, List.nil_append]
  rw [gX11_word_47]
  exact h _ (((((hF1.trans hF2).trans hF3).trans hF4).trans hF5).trans hF6) hS6
theorem m_marksBy {i : Nat} {σ : CS} (hi : i < 4) (hK : RK M T tx) (hS : RX M a false 0) (ha : a ≤ T) (hX : CXm M σ)
    (h : ∀ M' : MM, RG M M' → RX M' (pMk T tx i σ a).1 ((pMk T tx i σ a).2.isNone) 0 → (∀ σ2 : CS, (pMk T tx i σ a).2 = some σ2 → CXm M' σ2) → Q none M') : CL (d + 18) kX11_marksBy [.ref 82, .int (vI i)] M Q := by
  rw [eX11_marksBy]
  refine ⟨by simp only [ty_82], m_either0 (d := d) _ M a hK ha hS (fun M1 v hF1 hS1 hv => ?_)⟩
  simp only [Option.toList_some, Option.toList_none, List.cons_append, List.nil_append]
  rw [gX11_marksBy_4, show (0 : Int32) = vI 0 from rfl]
  have hK1 := RK_rf hF1 hK
  have hX1 := CXm_rf hF1 hX
  have e1 : iShl 1 (vI i) = vI (mb (fun k => k = i) 4) := by rw [pw6_dec i (by omega), mb_eq6 4 hi]
  have lp : ∀ m c : Nat, c + m = 36 → ∀ M2 : MM, RG M1 M2 → (∀ k : Nat, mI M2 82 k = mI M1 82 k) → (∀ s : Nat → Prop, v = zb s → ∀ x : Nat, x < 36 → mI M2 89 x = vI (mb (fun k => σ.2.2 k x ∨ (x < c ∧ k = i ∧ s x)) 4)) → WP (d + 18) kX11_marksBy (8, [.ref 82, .int (vI i), .long v, dm, .int (vI c)], [], M2) Q := by
    intro m
    induction m with
    | zero =>
      intro c hc M2 hG hk hs
      obtain rfl : c = 36 := by omega
      rw [gX11_marksBy_8, if_neg (by decide)]
      have hS2 : ∀ (x : Nat) (b : Bool), RX M1 x b 0 → RX M2 x b 0 := fun x b q => by unfold RX at q ⊢; rw [hk, hk, hk]; exact q
      unfold pMk at h
      cases hx : (pEit T tx 4 a).2 with
      | none =>
        rw [rc_n hx] at h
        rw [hx] at hS1
        exact h M2 ((RG.rf hF1).trans hG) (hS2 _ _ hS1) (fun σ2 h2 => by cases h2)
      | some s =>
        rw [rc_s hx] at h
        rw [hx] at hS1
        refine h M2 ((RG.rf hF1).trans hG) (hS2 _ _ hS1) (fun σ2 h2 => ?_)
        cases h2
        refine ⟨by rw [hk]; exact hX1.1, by rw [hk]; exact hX1.2.1, hX.2.2.1, hX.2.2.2.1, fun x hx2 => ?_⟩
        rw [hs s (hv s hx) x hx2]
        exact congrArg vI (mb_congr 4 (fun k _ => ⟨fun g => g.elim Or.inl (fun g => Or.inr g.2), fun g => g.elim Or.inl (fun g => Or.inr ⟨hx2, g⟩)⟩))
    | succ m ih =>
      intro c hc M2 hG hk hs
      have hc2 : c < 36 := by omega
      have hK2 := RK_rg hG hK1
      rw [gX11_marksBy_8, if_pos (by rw [lt_nl (by omega) (by decide)]; exact hc2), add_nl]
      by_cases e : lg_cmp (lShr v (vI c) &&& 1) 1 = 0
      · rw [if_pos e]
        simp only [ty_82, pm_12 hK2.1, ty_89, true_and, and_true, Option.some.injEq, exists_eq_left']
        rw [inb_n (by omega), vI_cl (by omega)]
        refine ⟨hc2, hc2, ih (c + 1) (by omega) _ (hG.trans RG.r) (fun k => by rw [xI_sI (by omega)]; exact hk k) (fun s hvs x hx => ?_)⟩
        rw [lg_0, hvs, zb_shr1 s hc2] at e
        by_cases e2 : x = c
        · subst e2
          rw [aI_sI, hs s hvs x hx, e1, mb_orn]
          exact congrArg vI (mb_congr 4 (fun k _ => ⟨fun g => g.elim (fun g => g.elim Or.inl (fun g => absurd g.1 (Nat.lt_irrefl x))) (fun g => Or.inr ⟨by omega, g, e⟩), fun g => g.elim (fun g => Or.inl (Or.inl g)) (fun g => Or.inr g.2.1)⟩))
        · rw [bI_sI e2, hs s hvs x hx]
          exact congrArg vI (mb_congr 4 (fun k _ => ⟨fun g => g.elim Or.inl (fun g => Or.inr ⟨by omega, g.2⟩), fun g => g.elim Or.inl (fun g => Or.inr ⟨by omega, g.2⟩)⟩))
      · rw [if_neg e]
        refine ih (c + 1) (by omega) M2 hG hk (fun s hvs x hx => ?_)
        rw [lg_0, hvs, zb_shr1 s hc2] at e
        rw [hs s hvs x hx]
        exact congrArg vI (mb_congr 4 (fun k _ => ⟨fun g => g.elim Or.inl (fun g => Or.inr ⟨by omega, g.2⟩), fun g => g.elim Or.inl (fun g => Or.inr ⟨by
          have : ¬ x = c := fun e2 => e (by rw [← e2]; exact g.2.2)
          omega, g.2⟩)⟩))
  refine lp 36 0 rfl M1 (RG.refl M1) (fun _ => rfl) (fun s _ x hx => ?_)
  rw [hX1.2.2.2.2 x hx]
  exact congrArg vI (mb_congr 4 (fun k _ => ⟨Or.inl, fun g => g.elim id (fun g => absurd g.1 (Nat.not_lt_zero x))⟩))
theorem m_cl_o {σ : CS} (hK : RK M T tx) (ha : a + 1 ≤ T) (hc : hr T tx a = 111) (hX : CXm M σ)
    (h : ∀ M' : MM, RG M M' → RX M' (aft T tx (wd 0) (a + 1) (fun a1 => rc (pNum T tx a1) (fun a2 n => (a2, some ⟨n, σ.2.1, σ.2.2⟩))) : Nat × Option CS).1 ((aft T tx (wd 0) (a + 1) (fun a1 => rc (pNum T tx a1) (fun a2 n => (a2, some ⟨n, σ.2.1, σ.2.2⟩))) : Nat × Option CS).2.isNone) 0 → (∀ σ2 : CS, (aft T tx (wd 0) (a + 1) (fun a1 => rc (pNum T tx a1) (fun a2 n => (a2, some ⟨n, σ.2.1, σ.2.2⟩))) : Nat × Option CS).2 = some σ2 → CXm M' σ2) → Q none M')
    {M1 : MM} (hF1 : RF M M1) (hS1 : RX M1 (gwd T tx [111, 110, 32] false a).1 (gwd T tx [111, 110, 32] false a).2 0) : WP (d + 19) kX11_clause (75, [.ref 82], [], M1) Q := by
  have hb := wrd_b (T := T) (tx := tx) (wd_999 0 (by decide)) (a + 1) ha
  have e : gwd T tx [111, 110, 32] false a = wrd T tx (wd 0) (a + 1) := by
    show wrd T tx [111, 110, 32] a = _
    rw [wrd, if_pos hc]; rfl
  rw [e] at hS1
  rw [gX11_clause_75, hS1.2.1]
  refine ⟨by simp only [ty_82], ?_⟩
  unfold aft at h
  cases hw : (wrd T tx (wd 0) (a + 1)).2 with
  | true =>
    rw [hw, if_pos rfl] at h
    rw [hw] at hS1
    rw [if_neg (by decide)]
    exact h M1 (RG.rf hF1) hS1 (fun σ2 h2 => by cases h2)
  | false =>
    rw [hw, if_neg (by decide)] at h
    dsimp only at h
    rw [hw] at hS1
    rw [if_pos (show b2i false = 0 from rfl)]
    refine m_number (d := d + 17) (RK_rf hF1 hK) hS1 hb.2 (fun M2 v hF2 hS2 hv => ?_)
    simp only [Option.toList_some, Option.toList_none, List.cons_append, List.nil_append]
    rw [gX11_clause_87]
    refine ⟨by simp only [ty_82], ?_⟩
    have hG : RG M (sI M2 82 13 v) := (RG.rf (hF1.trans hF2)).trans (RG.s (by decide))
    have hS3 : ∀ (x : Nat) (b : Bool), RX M2 x b 0 → RX (sI M2 82 13 v) x b 0 := fun x b q => ⟨by rw [xI_sI (by decide)]; exact q.1, by rw [xI_sI (by decide)]; exact q.2.1, by rw [xI_sI (by decide)]; exact q.2.2⟩
    cases hx : (pNum T tx (wrd T tx (wd 0) (a + 1)).1).2 with
    | none =>
      rw [rc_n hx] at h
      rw [hx] at hS2
      exact h _ hG (hS3 _ _ hS2) (fun σ2 h2 => by cases h2)
    | some n =>
      rw [rc_s hx] at h
      rw [hx] at hS2
      have e1 := hv n hx
      subst e1
      have hX2 := CXm_rf (hF1.trans hF2) hX
      refine h _ hG (hS3 _ _ hS2) (fun σ2 h2 => ?_)
      cases h2
      exact ⟨aI_sI _ _ _ _, by rw [xI_sI (by decide)]; exact hX2.2.1, pNum_lt hx, hX.2.2.2.1, fun c hc => by rw [rI_sI (by decide)]; exact hX2.2.2.2.2 c hc⟩
theorem m_cl_b {σ : CS} (hK : RK M T tx) (ha : a + 1 ≤ T) (hc : hr T tx a = 98) (hX : CXm M σ)
    (h : ∀ M' : MM, RG M M' → RX M' (aft T tx (wd 2) (a + 1) (fun a1 => rc (pNum T tx a1) (fun a2 n => (a2, some ⟨σ.1, n, σ.2.2⟩))) : Nat × Option CS).1 ((aft T tx (wd 2) (a + 1) (fun a1 => rc (pNum T tx a1) (fun a2 n => (a2, some ⟨σ.1, n, σ.2.2⟩))) : Nat × Option CS).2.isNone) 0 → (∀ σ2 : CS, (aft T tx (wd 2) (a + 1) (fun a1 => rc (pNum T tx a1) (fun a2 n => (a2, some ⟨σ.1, n, σ.2.2⟩))) : Nat × Option CS).2 = some σ2 → CXm M' σ2) → Q none M')
    {M1 : MM} (hF1 : RF M M1) (hS1 : RX M1 (gwd T tx [98, 97, 99, 107, 32] false a).1 (gwd T tx [98, 97, 99, 107, 32] false a).2 0) : WP (d + 19) kX11_clause (104, [.ref 82], [], M1) Q := by
  have hb := wrd_b (T := T) (tx := tx) (wd_999 2 (by decide)) (a + 1) ha
  have e : gwd T tx [98, 97, 99, 107, 32] false a = wrd T tx (wd 2) (a + 1) := by
    show wrd T tx [98, 97, 99, 107, 32] a = _
    rw [wrd, if_pos hc]; rfl
  rw [e] at hS1
  rw [gX11_clause_104, hS1.2.1]
  refine ⟨by simp only [ty_82], ?_⟩
  unfold aft at h
  cases hw : (wrd T tx (wd 2) (a + 1)).2 with
  | true =>
    rw [hw, if_pos rfl] at h
    rw [hw] at hS1
    rw [if_neg (by decide)]
    exact h M1 (RG.rf hF1) hS1 (fun σ2 h2 => by cases h2)
  | false =>
    rw [hw, if_neg (by decide)] at h
    dsimp only at h
    rw [hw] at hS1
    rw [if_pos (show b2i false = 0 from rfl)]
    refine m_number (d := d + 17) (RK_rf hF1 hK) hS1 hb.2 (fun M2 v hF2 hS2 hv => ?_)
    simp only [Option.toList_some, Option.toList_none, List.cons_append, List.nil_append]
    rw [gX11_clause_116]
    refine ⟨by simp only [ty_82], ?_⟩
    have hG : RG M (sI M2 82 14 v) := (RG.rf (hF1.trans hF2)).trans (RG.s (by decide))
    have hS3 : ∀ (x : Nat) (b : Bool), RX M2 x b 0 → RX (sI M2 82 14 v) x b 0 := fun x b q => ⟨by rw [xI_sI (by decide)]; exact q.1, by rw [xI_sI (by decide)]; exact q.2.1, by rw [xI_sI (by decide)]; exact q.2.2⟩
    cases hx : (pNum T tx (wrd T tx (wd 2) (a + 1)).1).2 with
    | none =>
      rw [rc_n hx] at h
      rw [hx] at hS2
      exact h _ hG (hS3 _ _ hS2) (fun σ2 h2 => by cases h2)
    | some n =>
      rw [rc_s hx] at h
      rw [hx] at hS2
      have e1 := hv n hx
      subst e1
      have hX2 := CXm_rf (hF1.trans hF2) hX
      refine h _ hG (hS3 _ _ hS2) (fun σ2 h2 => ?_)
      cases h2
      exact ⟨by rw [xI_sI (by decide)]; exact hX2.1, aI_sI _ _ _ _, hX.2.2.1, pNum_lt hx, fun c hc => by rw [rI_sI (by decide)]; exact hX2.2.2.2.2 c hc⟩
theorem m_cl_0 {σ : CS} (hK : RK M T tx) (ha : a + 1 ≤ T) (hc : hr T tx a = 119) (hX : CXm M σ)
    (h : ∀ M' : MM, RG M M' → RX M' (aft T tx (wd 3) (a + 1) (pMk T tx 0 σ)).1 ((aft T tx (wd 3) (a + 1) (pMk T tx 0 σ)).2.isNone) 0 → (∀ σ2 : CS, (aft T tx (wd 3) (a + 1) (pMk T tx 0 σ)).2 = some σ2 → CXm M' σ2) → Q none M')
    {M1 : MM} (hF1 : RF M M1) (hS1 : RX M1 (gwd T tx [119, 97, 108, 108, 32] false a).1 (gwd T tx [119, 97, 108, 108, 32] false a).2 0) : WP (d + 19) kX11_clause (133, [.ref 82], [], M1) Q := by
  have hb := wrd_b (T := T) (tx := tx) (wd_999 3 (by decide)) (a + 1) (by omega)
  have e : gwd T tx [119, 97, 108, 108, 32] false a = wrd T tx (wd 3) (a + 1) := by
    show wrd T tx [119, 97, 108, 108, 32] a = _
    rw [wrd, if_pos hc]; rfl
  rw [e] at hS1
  rw [gX11_clause_133, hS1.2.1]
  refine ⟨by simp only [ty_82], ?_⟩
  unfold aft at h
  cases hw : (wrd T tx (wd 3) (a + 1)).2 with
  | true =>
    rw [hw, if_pos rfl] at h
    rw [hw] at hS1
    rw [if_neg (by decide)]
    exact h M1 (RG.rf hF1) hS1 (fun σ2 h2 => by cases h2)
  | false =>
    rw [hw, if_neg (by decide)] at h
    rw [hw] at hS1
    rw [if_pos (show b2i false = 0 from rfl), show (0 : Int32) = vI 0 from rfl]
    refine m_marksBy (d := d) (i := 0) (by decide) (RK_rf hF1 hK) hS1 hb.2 (CXm_rf hF1 hX) (fun M2 hG hS2 hX2 => ?_)
    simp only [Option.toList_some, Option.toList_none, List.cons_append, List.nil_append]
    rw [gX11_clause_145]
    exact h M2 ((RG.rf hF1).trans hG) hS2 hX2
theorem m_cl_1 {σ : CS} (hK : RK M T tx) (ha : a + 1 ≤ T) (hc : hr T tx a = 108) (hX : CXm M σ)
    (h : ∀ M' : MM, RG M M' → RX M' (aft T tx (wd 7) (a + 1) (pMk T tx 1 σ)).1 ((aft T tx (wd 7) (a + 1) (pMk T tx 1 σ)).2.isNone) 0 → (∀ σ2 : CS, (aft T tx (wd 7) (a + 1) (pMk T tx 1 σ)).2 = some σ2 → CXm M' σ2) → Q none M')
    {M1 : MM} (hF1 : RF M M1) (hS1 : RX M1 (gwd T tx [108, 101, 100, 103, 101, 32] false a).1 (gwd T tx [108, 101, 100, 103, 101, 32] false a).2 0) : WP (d + 19) kX11_clause (160, [.ref 82], [], M1) Q := by
  have hb := wrd_b (T := T) (tx := tx) (wd_999 7 (by decide)) (a + 1) (by omega)
  have e : gwd T tx [108, 101, 100, 103, 101, 32] false a = wrd T tx (wd 7) (a + 1) := by
    show wrd T tx [108, 101, 100, 103, 101, 32] a = _
    rw [wrd, if_pos hc]; rfl
  rw [e] at hS1
  rw [gX11_clause_160, hS1.2.1]
  refine ⟨by simp only [ty_82], ?_⟩
  unfold aft at h
  cases hw : (wrd T tx (wd 7) (a + 1)).2 with
  | true =>
    rw [hw, if_pos rfl] at h
    rw [hw] at hS1
    rw [if_neg (by decide)]
    exact h M1 (RG.rf hF1) hS1 (fun σ2 h2 => by cases h2)
  | false =>
    rw [hw, if_neg (by decide)] at h
    rw [hw] at hS1
    rw [if_pos (show b2i false = 0 from rfl), show (1 : Int32) = vI 1 from rfl]
    refine m_marksBy (d := d) (i := 1) (by decide) (RK_rf hF1 hK) hS1 hb.2 (CXm_rf hF1 hX) (fun M2 hG hS2 hX2 => ?_)
    simp only [Option.toList_some, Option.toList_none, List.cons_append, List.nil_append]
    rw [gX11_clause_172]
    exact h M2 ((RG.rf hF1).trans hG) hS2 hX2
theorem m_cl_2 {σ : CS} (hK : RK M T tx) (ha : a + 1 ≤ T) (hc : hr T tx a = 100) (hX : CXm M σ)
    (h : ∀ M' : MM, RG M M' → RX M' (aft T tx (wd 8) (a + 1) (pMk T tx 2 σ)).1 ((aft T tx (wd 8) (a + 1) (pMk T tx 2 σ)).2.isNone) 0 → (∀ σ2 : CS, (aft T tx (wd 8) (a + 1) (pMk T tx 2 σ)).2 = some σ2 → CXm M' σ2) → Q none M')
    {M1 : MM} (hF1 : RF M M1) (hS1 : RX M1 (gwd T tx [100, 111, 111, 114, 32] false a).1 (gwd T tx [100, 111, 111, 114, 32] false a).2 0) : WP (d + 19) kX11_clause (186, [.ref 82], [], M1) Q := by
  have hb := wrd_b (T := T) (tx := tx) (wd_999 8 (by decide)) (a + 1) (by omega)
  have e : gwd T tx [100, 111, 111, 114, 32] false a = wrd T tx (wd 8) (a + 1) := by
    show wrd T tx [100, 111, 111, 114, 32] a = _
    rw [wrd, if_pos hc]; rfl
  rw [e] at hS1
  rw [gX11_clause_186, hS1.2.1]
  refine ⟨by simp only [ty_82], ?_⟩
  unfold aft at h
  cases hw : (wrd T tx (wd 8) (a + 1)).2 with
  | true =>
    rw [hw, if_pos rfl] at h
    rw [hw] at hS1
    rw [if_neg (by decide)]
    exact h M1 (RG.rf hF1) hS1 (fun σ2 h2 => by cases h2)
  | false =>
    rw [hw, if_neg (by decide)] at h
    rw [hw] at hS1
    rw [if_pos (show b2i false = 0 from rfl), show (2 : Int32) = vI 2 from rfl]
    refine m_marksBy (d := d) (i := 2) (by decide) (RK_rf hF1 hK) hS1 hb.2 (CXm_rf hF1 hX) (fun M2 hG hS2 hX2 => ?_)
    simp only [Option.toList_some, Option.toList_none, List.cons_append, List.nil_append]
    rw [gX11_clause_198]
    exact h M2 ((RG.rf hF1).trans hG) hS2 hX2
theorem m_cl_3 {σ : CS} (hK : RK M T tx) (ha : a + 1 ≤ T) (hc : hr T tx a = 115) (hX : CXm M σ)
    (h : ∀ M' : MM, RG M M' → RX M' (aft T tx (wd 9) a (pMk T tx 3 σ)).1 ((aft T tx (wd 9) a (pMk T tx 3 σ)).2.isNone) 0 → (∀ σ2 : CS, (aft T tx (wd 9) a (pMk T tx 3 σ)).2 = some σ2 → CXm M' σ2) → Q none M')
    {M1 : MM} (hF1 : RF M M1) (hS1 : RX M1 (gwd T tx [115, 116, 97, 105, 114, 32] false a).1 (gwd T tx [115, 116, 97, 105, 114, 32] false a).2 0) : WP (d + 19) kX11_clause (213, [.ref 82], [], M1) Q := by
  have hb := wrd_b (T := T) (tx := tx) (wd_999 9 (by decide)) a (by omega)
  have e : gwd T tx [115, 116, 97, 105, 114, 32] false a = wrd T tx (wd 9) a := by
    show wrd T tx [115, 116, 97, 105, 114, 32] a = _
    rfl
  rw [e] at hS1
  rw [gX11_clause_213, hS1.2.1]
  refine ⟨by simp only [ty_82], ?_⟩
  unfold aft at h
  cases hw : (wrd T tx (wd 9) a).2 with
  | true =>
    rw [hw, if_pos rfl] at h
    rw [hw] at hS1
    rw [if_neg (by decide)]
    exact h M1 (RG.rf hF1) hS1 (fun σ2 h2 => by cases h2)
  | false =>
    rw [hw, if_neg (by decide)] at h
    rw [hw] at hS1
    rw [if_pos (show b2i false = 0 from rfl), show (3 : Int32) = vI 3 from rfl]
    refine m_marksBy (d := d) (i := 3) (by decide) (RK_rf hF1 hK) hS1 hb.2 (CXm_rf hF1 hX) (fun M2 hG hS2 hX2 => ?_)
    simp only [Option.toList_some, Option.toList_none, List.cons_append, List.nil_append]
    rw [gX11_clause_225]
    exact h M2 ((RG.rf hF1).trans hG) hS2 hX2
theorem m_clause {σ : CS} (hK : RK M T tx) (ha : a ≤ T) (hS : RX M a false 0) (hX : CXm M σ)
    (h : ∀ M' : MM, RG M M' → RX M' (pClause T tx σ a).1 ((pClause T tx σ a).2.isNone) 0 → (∀ σ2 : CS, (pClause T tx σ a).2 = some σ2 → CXm M' σ2) → Q none M') : CL (d + 19) kX11_clause [.ref 82] M Q := by
  have q : ∀ (c : Nat), c < 128 → (hz T tx a = vI c) = (hr T tx a = c) := fun c hc => hz_eq hK hc
  unfold pClause at h
  rw [eX11_clause, m_here hK hS ha]
  refine ⟨by simp only [ty_82], ?_⟩
  simp only [Option.toList_some, Option.toList_none, List.cons_append, List.nil_append]
  rw [gX11_clause_4]
  by_cases h98 : hr T tx a = 98
  · have a1 := hr_T h98 (by decide)
    rw [if_neg (by omega), if_pos h98] at h
    rw [if_pos (by rw [show (98 : Int32) = vI 98 from rfl, q 98 (by decide)]; exact h98)]
    refine ⟨by simp only [ty_82], m_word4 (d := d + 16) (c1 := 98) (c2 := 97) (c3 := 99) (c4 := 107) (by decide) (by decide) (by decide) (by decide) hK hS ha (fun M1 hF1 hS1 => ?_)⟩
    simp only [Option.toList_some, Option.toList_none, List.cons_append, List.nil_append]
    exact m_cl_b hK (by omega) h98 hX h hF1 hS1
  rw [if_neg (by rw [show (98 : Int32) = vI 98 from rfl, q 98 (by decide)]; exact h98)]
  by_cases h100 : hr T tx a = 100
  · have a1 := hr_T h100 (by decide)
    rw [if_neg (by omega), if_neg (by omega), if_neg (by omega), if_neg (by omega), if_pos h100] at h
    rw [if_pos (by rw [show (100 : Int32) = vI 100 from rfl, q 100 (by decide)]; exact h100)]
    refine ⟨by simp only [ty_82], m_word4 (d := d + 16) (c1 := 100) (c2 := 111) (c3 := 111) (c4 := 114) (by decide) (by decide) (by decide) (by decide) hK hS ha (fun M1 hF1 hS1 => ?_)⟩
    simp only [Option.toList_some, Option.toList_none, List.cons_append, List.nil_append]
    exact m_cl_2 hK (by omega) h100 hX h hF1 hS1
  rw [if_neg (by rw [show (100 : Int32) = vI 100 from rfl, q 100 (by decide)]; exact h100)]
  by_cases h108 : hr T tx a = 108
  · have a1 := hr_T h108 (by decide)
    rw [if_neg (by omega), if_neg (by omega), if_neg (by omega), if_pos h108] at h
    rw [if_pos (by rw [show (108 : Int32) = vI 108 from rfl, q 108 (by decide)]; exact h108)]
    refine ⟨by simp only [ty_82], m_word5 (d := d + 16) (c1 := 108) (c2 := 101) (c3 := 100) (c4 := 103) (c5 := 101) (by decide) (by decide) (by decide) (by decide) (by decide) hK hS ha (fun M1 hF1 hS1 => ?_)⟩
    simp only [Option.toList_some, Option.toList_none, List.cons_append, List.nil_append]
    exact m_cl_1 hK (by omega) h108 hX h hF1 hS1
  rw [if_neg (by rw [show (108 : Int32) = vI 108 from rfl, q 108 (by decide)]; exact h108)]
  by_cases h111 : hr T tx a = 111
  · have a1 := hr_T h111 (by decide)
    rw [if_pos h111] at h
    rw [if_pos (by rw [show (111 : Int32) = vI 111 from rfl, q 111 (by decide)]; exact h111)]
    refine ⟨by simp only [ty_82], m_word2 (d := d + 16) (c1 := 111) (c2 := 110) (by decide) (by decide) hK hS ha (fun M1 hF1 hS1 => ?_)⟩
    simp only [Option.toList_some, Option.toList_none, List.cons_append, List.nil_append]
    exact m_cl_o hK (by omega) h111 hX h hF1 hS1
  rw [if_neg (by rw [show (111 : Int32) = vI 111 from rfl, q 111 (by decide)]; exact h111)]
  by_cases h115 : hr T tx a = 115
  · have a1 := hr_T h115 (by decide)
    rw [if_neg (by omega), if_neg (by omega), if_neg (by omega), if_neg (by omega), if_neg (by omega)] at h
    rw [if_pos (by rw [show (115 : Int32) = vI 115 from rfl, q 115 (by decide)]; exact h115)]
    refine ⟨by simp only [ty_82], m_word5 (d := d + 16) (c1 := 115) (c2 := 116) (c3 := 97) (c4 := 105) (c5 := 114) (by decide) (by decide) (by decide) (by decide) (by decide) hK hS ha (fun M1 hF1 hS1 => ?_)⟩
    simp only [Option.toList_some, Option.toList_none, List.cons_append, List.nil_append]
    exact m_cl_3 hK (by omega) h115 hX h hF1 hS1
  rw [if_neg (by rw [show (115 : Int32) = vI 115 from rfl, q 115 (by decide)]; exact h115)]
  by_cases h119 : hr T tx a = 119
  · have a1 := hr_T h119 (by decide)
    rw [if_neg (by omega), if_neg (by omega), if_pos h119] at h
    rw [if_pos (by rw [show (119 : Int32) = vI 119 from rfl, q 119 (by decide)]; exact h119)]
    refine ⟨by simp only [ty_82], m_word4 (d := d + 16) (c1 := 119) (c2 := 97) (c3 := 108) (c4 := 108) (by decide) (by decide) (by decide) (by decide) hK hS ha (fun M1 hF1 hS1 => ?_)⟩
    simp only [Option.toList_some, Option.toList_none, List.cons_append, List.nil_append]
    exact m_cl_0 hK (by omega) h119 hX h hF1 hS1
  rw [if_neg (by rw [show (119 : Int32) = vI 119 from rfl, q 119 (by decide)]; exact h119)]
  rw [if_neg h111, if_neg h98, if_neg h119, if_neg h108, if_neg h100] at h
  have e : wrd T tx (wd 9) a = (a, true) := by
    show wrd T tx [115, 116, 97, 105, 114, 32] a = _
    rw [wrd, if_neg h115]
  unfold aft at h
  rw [e, if_pos rfl] at h
  exact ⟨by simp only [ty_82], h _ (RG.s (by decide)) ⟨by rw [xI_sI (by decide)]; exact hS.1, aI_sI _ _ _ _, by rw [xI_sI (by decide)]; exact hS.2.2⟩ (fun σ2 h2 => by cases h2)⟩
end RCl
