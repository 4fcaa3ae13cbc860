/-! ===== 60: the class's factors and clauses ===== -/
section CFac
variable {MZ M : MM} {d : Nat} {Q : Option Value → MM → Prop} {T a : Nat} {tx : Nat → Nat}
theorem s_either {D : Nat} {z : Int32} {f : Nat → Res} (hs : SNG MZ T tx D kX7_both z f) (hb : bnd2 T f) : SNG MZ T tx (D + 1) kX7_either z (chain T tx 124 opO f) := by
  have lp : ∀ (Q : Option Value → MM → Prop) (F n : Nat), n + F = 100 → ∀ (M : MM) (a : Nat) (w : Bool) (l2 : Int64) (s : Nat → Prop), TK MZ M T tx → a ≤ T → SX M a w → (w = false → l2 = zb s) →
      (∀ (M' : MM) (v : Int64), TF M M' → SX M' (gw w a (loopR T tx 124 opO f F a s)).1 ((gw w a (loopR T tx 124 opO f F a s)).2.isNone) → (∀ s2 : Nat → Prop, (gw w a (loopR T tx 124 opO f F a s)).2 = some s2 → v = zb s2) → Q (some (.long v)) M') →
      WP (D + 1) kX7_either (9, [.ref 22, .int z, .long l2, dm, .int (vI n)], [], M) Q := by
    intro Q F
    induction F with
    | zero =>
      intro n hn M a w l2 s hK haT hS hl h
      obtain rfl : n = 100 := by omega
      rw [gX7_either_9, if_neg (by decide)]
      refine h M l2 (TF.refl M) ?_ (fun s2 hs2 => ?_)
      · cases w with
        | true => exact hS
        | false => exact hS
      · cases w with
        | true => cases hs2
        | false => cases hs2; exact hl rfl
    | succ F ih =>
      intro n hn M a w l2 s hK haT hS hl h
      have hT := hK.2.2.2.2.2.1
      rw [gX7_either_9, if_pos (by rw [lt_nl (by omega) (by decide)]; omega), show (124 : Int32) = vI 124 from rfl]
      refine ⟨by simp only [ty_22], ?_⟩
      by_cases ht : w = false ∧ hr T tx a = 124
      · obtain ⟨rfl, ht⟩ := ht
        have haT1 := hr_T ht (by decide)
        rw [s_takes_t hK hS ht (by decide)]
        simp only [Option.toList_some, Option.toList_none, List.cons_append, List.nil_append]
        rw [gX7_either_22, if_neg (by decide)]
        have hF1 : TF M (sI M 22 6 (vI (a + 1))) := TF.s (Or.inr rfl)
        have hK1 := TK_tf hF1 hK
        have hfb := hb (a + 1) (by omega)
        refine ⟨by simp only [ty_22], hs _ _ (a + 1) false hK1 (by omega) ⟨aI_sI _ _ _ _, by rw [xI_sI (by decide)]; exact hS.2⟩ (fun M2 v hF2 hS2 hv => ?_)⟩
        rw [gw_f] at hS2 hv
        simp only [Option.toList_some, Option.toList_none, List.cons_append, List.nil_append]
        rw [gX7_either_31, add_nl]
        rw [gw_f, loopR, if_pos ht] at h
        cases hx : (f (a + 1)).2 with
        | none =>
          rw [rb_n hx] at h
          rw [hx] at hS2
          exact ih (n + 1) (by omega) M2 _ true _ s (TK_tf hF2 hK1) hfb.2 hS2 (fun e => by cases e) (fun M' v2 g1 g2 g3 => h M' v2 ((hF1.trans hF2).trans g1) g2 g3)
        | some s2 =>
          rw [rb_s hx] at h
          rw [hx] at hS2
          exact ih (n + 1) (by omega) M2 _ false _ (opO s s2) (TK_tf hF2 hK1) hfb.2 hS2 (fun _ => by rw [hl rfl, hv s2 hx, zb_or]; rfl) (fun M' v2 g1 g2 g3 => h M' v2 ((hF1.trans hF2).trans g1) g2 g3)
      · rw [s_takes_f hK hS (by
          cases w with
          | true => exact Or.inl rfl
          | false => exact Or.inr (fun h2 => ht ⟨rfl, h2⟩)) (by decide) (by omega)]
        simp only [Option.toList_some, Option.toList_none, List.cons_append, List.nil_append]
        rw [gX7_either_22, if_pos rfl]
        cases w with
        | true => exact h M l2 (TF.refl M) hS (fun s2 hs2 => by cases hs2)
        | false =>
          rw [gw_f, loopR, if_neg (fun h3 => ht ⟨rfl, h3⟩)] at h
          exact h M l2 (TF.refl M) hS (fun s2 hs2 => by cases hs2; exact hl rfl)
  intro Q M a w hK haT hS h
  have hfb := hb a haT
  rw [eX7_either]
  refine ⟨by simp only [ty_22], hs _ M a w hK haT hS (fun M1 v hF1 hS1 hv => ?_)⟩
  simp only [Option.toList_some, Option.toList_none, List.cons_append, List.nil_append]
  rw [gX7_either_5, show (0 : Int32) = vI 0 from rfl]
  unfold chain at h
  cases w with
  | true =>
    rw [gw_t] at hS1 hv h
    exact lp Q 100 0 rfl M1 a true v (fun _ => False) (TK_tf hF1 hK) haT hS1 (fun e => by cases e) (fun M' v2 g1 g2 g3 => h M' v2 (hF1.trans g1) g2 g3)
  | false =>
    rw [gw_f] at hS1 hv h
    cases hx : (f a).2 with
    | none =>
      rw [rb_n hx] at h
      rw [hx] at hS1
      exact lp Q 100 0 rfl M1 _ true v (fun _ => False) (TK_tf hF1 hK) hfb.2 hS1 (fun e => by cases e) (fun M' v2 g1 g2 g3 => h M' v2 (hF1.trans g1) g2 g3)
    | some s =>
      rw [rb_s hx] at h
      rw [hx] at hS1
      exact lp Q 100 0 rfl M1 _ false v s (TK_tf hF1 hK) hfb.2 hS1 (fun _ => hv s hx) (fun M' v2 g1 g2 g3 => h M' v2 (hF1.trans g1) g2 g3)
theorem SNG_d {D D2 k : Nat} {z : Int32} {f : Nat → Res} (h : SNG MZ T tx D k z f) (e : D = D2) : SNG MZ T tx D2 k z f := e ▸ h
theorem s_single : ∀ (l d within : Nat), within + l = 4 → SNG MZ T tx (d + 7 + 3 * l) kX7_single (vI within) (pFac T tx l) := by
  intro l
  induction l with
  | zero =>
    intro d within hl Q M a w hK haT hS h
    obtain rfl : within = 4 := by omega
    rw [show d + 7 + 3 * 0 = d + 7 from rfl, eX7_single, if_neg (by decide), if_neg (by decide)]
    exact ⟨by simp only [ty_22], s_test hK haT hS h⟩
  | succ l ih =>
    intro d within hl Q M a w hK haT hS h
    have hT := hK.2.2.2.2.2.1
    rw [show d + 7 + 3 * (l + 1) = (d + 3 + 6 + 3 * l) + 1 by omega, eX7_single, if_pos (by rw [lt_nl (by omega) (by decide)]; omega), show (33 : Int32) = vI 33 from rfl]
    refine ⟨by simp only [ty_22], ?_⟩
    by_cases ht : w = false ∧ hr T tx a = 33
    · obtain ⟨rfl, ht⟩ := ht
      have haT1 := hr_T ht (by decide)
      have hF1 : TF M (sI M 22 6 (vI (a + 1))) := TF.s (Or.inr rfl)
      rw [s_takes_t hK hS ht (by decide)]
      simp only [Option.toList_some, Option.toList_none, List.cons_append, List.nil_append]
      rw [gX7_single_11, if_neg (by decide), add_nl]
      refine ⟨by simp only [ty_22], SNG_d (ih (d + 2) (within + 1) (by omega)) (by omega) _ _ (a + 1) false (TK_tf hF1 hK) (by omega) ⟨aI_sI _ _ _ _, by rw [xI_sI (by decide)]; exact hS.2⟩ (fun M2 v hF2 hS2 hv => ?_)⟩
      rw [gw_f] at hS2 hv
      simp only [Option.toList_some, Option.toList_none, List.cons_append, List.nil_append]
      rw [gX7_single_24]
      rw [gw_f, pFac, if_pos ht] at h
      cases hx : (pFac T tx l (a + 1)).2 with
      | none =>
        rw [rb_n hx] at h
        rw [hx] at hS2
        exact h _ _ (hF1.trans hF2) hS2 (fun s hs => by cases hs)
      | some s =>
        rw [rb_s hx] at h
        rw [hx] at hS2
        exact h _ _ (hF1.trans hF2) hS2 (fun s2 hs => by cases hs; rw [hv s hx, zb_not])
    · rw [s_takes_f hK hS (by
        cases w with
        | true => exact Or.inl rfl
        | false => exact Or.inr (fun h2 => ht ⟨rfl, h2⟩)) (by decide) (by omega)]
      simp only [Option.toList_some, Option.toList_none, List.cons_append, List.nil_append]
      rw [gX7_single_11, if_pos rfl, if_pos (by rw [lt_nl (by omega) (by decide)]; omega), show (40 : Int32) = vI 40 from rfl]
      refine ⟨by simp only [ty_22], ?_⟩
      by_cases ht2 : w = false ∧ hr T tx a = 40
      · obtain ⟨rfl, ht2⟩ := ht2
        have h33 : ¬ hr T tx a = 33 := fun h2 => ht ⟨rfl, h2⟩
        have haT1 := hr_T ht2 (by decide)
        have hF1 : TF M (sI M 22 6 (vI (a + 1))) := TF.s (Or.inr rfl)
        have hK1 := TK_tf hF1 hK
        rw [s_takes_t hK hS ht2 (by decide)]
        simp only [Option.toList_some, Option.toList_none, List.cons_append, List.nil_append]
        rw [gX7_single_41, if_neg (by decide), add_nl]
        have hei := s_either (s_both (ih d (within + 1) (by omega)) (pFac_b l)) (chain_b (tx := tx) (op := opA) (show 38 < 999 by decide) (pFac_b l))
        have hbd := chain_b (tx := tx) (op := opO) (show 124 < 999 by decide) (chain_b (tx := tx) (op := opA) (show 38 < 999 by decide) (pFac_b (T := T) (tx := tx) l)) (a + 1) (by omega)
        refine ⟨by simp only [ty_22], SNG_d hei (by omega) _ _ (a + 1) false hK1 (by omega) ⟨aI_sI _ _ _ _, by rw [xI_sI (by decide)]; exact hS.2⟩ (fun M2 v hF2 hS2 hv => ?_)⟩
        rw [gw_f] at hS2 hv
        simp only [Option.toList_some, Option.toList_none, List.cons_append, List.nil_append]
        rw [gX7_single_51]
        rw [gw_f, pFac, if_neg h33, if_pos ht2] at h
        refine ⟨by simp only [ty_22], ?_⟩
        rw [show d + 3 + 6 + 3 * l = (d + 4 + 3 * l) + 5 by omega, show (5 : Nat) = 4 + 1 from rfl]
        refine s_needs (s := 4) (by decide) (TK_tf hF2 hK1) hbd.2 hS2 (fun M3 hF3 hS3 => ?_)
        simp only [Option.toList_some, Option.toList_none, List.cons_append, List.nil_append]
        rw [gX7_single_58]
        have hw4 : wd 4 = [41] := rfl
        cases hx : (chain T tx 124 opO (chain T tx 38 opA (pFac T tx l)) (a + 1)).2 with
        | none =>
          rw [rb_n hx] at h
          rw [hx] at hS3
          exact h _ _ ((hF1.trans hF2).trans hF3) hS3 (fun s hs => by cases hs)
        | some s =>
          rw [rb_s hx] at h
          rw [hx, hw4] at hS3
          by_cases h41 : hr T tx (chain T tx 124 opO (chain T tx 38 opA (pFac T tx l)) (a + 1)).1 = 41
          · rw [if_pos h41] at h
            rw [wrd, if_pos h41] at hS3
            exact h _ _ ((hF1.trans hF2).trans hF3) hS3 (fun s2 hs => by cases hs; exact hv s hx)
          · rw [if_neg h41] at h
            rw [wrd, if_neg h41] at hS3
            exact h _ _ ((hF1.trans hF2).trans hF3) hS3 (fun s2 hs => by cases hs)
      · rw [s_takes_f hK hS (by
          cases w with
          | true => exact Or.inl rfl
          | false => exact Or.inr (fun h2 => ht2 ⟨rfl, h2⟩)) (by decide) (by omega)]
        simp only [Option.toList_some, Option.toList_none, List.cons_append, List.nil_append]
        rw [gX7_single_41, if_pos rfl]
        have e : gw w a (pFac T tx (l + 1) a) = gw w a (pTest T tx a) := by
          cases w with
          | true => rfl
          | false =>
            rw [gw_f, gw_f, pFac, if_neg (fun h2 => ht ⟨rfl, h2⟩), if_neg (fun h2 => ht2 ⟨rfl, h2⟩)]
        rw [e] at h
        refine ⟨by simp only [ty_22], ?_⟩
        rw [show d + 3 + 6 + 3 * l = (d + 3 + 3 * l) + 6 by omega]
        exact s_test hK haT hS h
theorem s_either0 : SNG MZ T tx (d + 21) kX7_either 0 (pEit T tx 4) :=
  s_either (s_both (s_single 4 d 0 rfl) (pFac_b 4)) (chain_b (tx := tx) (op := opA) (show 38 < 999 by decide) (pFac_b 4))
end CFac
