/-! ===== 59: the class's tests, factors, terms ===== -/
section CExpr
variable {MZ M : MM} {d : Nat} {Q : Option Value → MM → Prop} {T a : Nat} {tx : Nat → Nat}
theorem s_meas_any {x y : Int32} (h : ∀ v : Int32, Q (some (.int v)) M) : CL d kX7_measure [.int x, .int y] M Q := by
  rw [eX7_measure]
  by_cases h0 : x = 0
  · rw [if_pos h0]; exact h _
  rw [if_neg h0]
  by_cases h1 : x = 1
  · rw [if_pos h1]; exact h _
  rw [if_neg h1]
  by_cases h2 : x = 2
  · rw [if_pos h2]; exact h _
  rw [if_neg h2]
  by_cases h3 : x = 3
  · rw [if_pos h3]; exact h _
  rw [if_neg h3]; exact h _
theorem msr3_dec : ∀ c : Nat, c < 36 → (if 0 ≤ ((vI c / 6) - (iRem (vI c) 6)) then ((vI c / 6) - (iRem (vI c) 6)) else 0 - ((vI c / 6) - (iRem (vI c) 6))) = vI (msr 3 c) := by decide +kernel
theorem msr_lt : ∀ le : Nat, le < 5 → ∀ c : Nat, c < 36 → msr le c < 36 := by decide +kernel
theorem s_meas {le c : Nat} (hl : le < 5) (hc : c < 36) : CL d kX7_measure [.int (vI le), .int (vI c)] M Q = Q (some (.int (vI (msr le c)))) M := by
  rw [eX7_measure, msr3_dec c hc]
  have h5 : le = 0 ∨ le = 1 ∨ le = 2 ∨ le = 3 ∨ le = 4 := by omega
  rcases h5 with rfl | rfl | rfl | rfl | rfl
  · rw [if_pos (by decide), div_nl (by omega) (by decide)]; rfl
  · rw [if_neg (by decide), if_pos (by decide), rem_nl (by omega) (by decide)]; rfl
  · rw [if_neg (by decide), if_neg (by decide), if_pos (by decide), div_nl (by omega) (by decide), rem_nl (by omega) (by decide), vI_add]; rfl
  · rw [if_neg (by decide), if_neg (by decide), if_neg (by decide), if_pos (by decide)]
  · rw [if_neg (by decide), if_neg (by decide), if_neg (by decide), if_neg (by decide)]; rfl
theorem s_tested_any {x y z : Int32} (h : ∀ v : Int64, Q (some (.long v)) M) : CL (d + 1) kX7_tested [.int x, .int y, .int z] M Q := by
  have lp : ∀ m i : Nat, i + m = 36 → ∀ l3 : Int64, WP (d + 1) kX7_tested (5, [.int x, .int y, .int z, .long l3, dm, .int (vI i)], [], M) Q := by
    intro m
    induction m with
    | zero =>
      intro i hi l3
      obtain rfl : i = 36 := by omega
      rw [gX7_tested_5, if_neg (by decide)]; exact h _
    | succ m ih =>
      intro i hi l3
      rw [gX7_tested_5, if_pos (by rw [lt_nl (by omega) (by decide)]; omega)]
      refine s_meas_any (fun v => ?_)
      simp only [Option.toList_some, Option.toList_none, List.cons_append, List.nil_append]
      rw [gX7_tested_18, eJ6_compare_7cf53]
      have fin : ∀ r : Int32, WP (d + 1) kX7_tested (22, [.int x, .int y, .int z, .long l3, dm, .int (vI i)], [.int r], M) Q := fun r => by
        rw [gX7_tested_22, add_nl]
        by_cases e : r = y - 1
        · rw [if_pos e]; exact ih (i + 1) (by omega) _
        · rw [if_neg e]; exact ih (i + 1) (by omega) _
      by_cases h1 : v < z
      · rw [if_pos h1]; exact fin _
      · rw [if_neg h1]
        by_cases h2 : v = z
        · rw [if_pos h2]; exact fin _
        · rw [if_neg h2]; exact fin _
  rw [eX7_tested]
  exact lp 36 0 rfl 0
theorem sg_dec : ∀ sg : Nat, sg < 3 → ((-1 : Int32) = vI sg - 1 ↔ sg = 0) ∧ ((0 : Int32) = vI sg - 1 ↔ sg = 1) ∧ ((1 : Int32) = vI sg - 1 ↔ sg = 2) := by decide +kernel
theorem s_tested {le sg n : Nat} (hl : le < 5) (hs : sg < 3) (hn : n < 100) : CL (d + 1) kX7_tested [.int (vI le), .int (vI sg), .int (vI n)] M Q = Q (some (.long (zb (tstP le sg n)))) M := by
  obtain ⟨g0, g1, g2⟩ := sg_dec sg hs
  have lp : ∀ m i : Nat, i + m = 36 → WP (d + 1) kX7_tested (5, [.int (vI le), .int (vI sg), .int (vI n), .long (zb (fun c => c < i ∧ tstP le sg n c)), dm, .int (vI i)], [], M) Q = Q (some (.long (zb (tstP le sg n)))) M := by
    intro m
    induction m with
    | zero =>
      intro i hi
      obtain rfl : i = 36 := by omega
      rw [gX7_tested_5, if_neg (by decide), zb_congr (fun c hc => ⟨fun h => h.2, fun h => ⟨hc, h⟩⟩)]
    | succ m ih =>
      intro i hi
      have hi2 : i < 36 := by omega
      have hm := msr_lt le hl i hi2
      have fin : ∀ r : Int32, (r = vI sg - 1 ↔ tstP le sg n i) → WP (d + 1) kX7_tested (22, [.int (vI le), .int (vI sg), .int (vI n), .long (zb (fun c => c < i ∧ tstP le sg n c)), dm, .int (vI i)], [.int r], M) Q = Q (some (.long (zb (tstP le sg n)))) M := fun r hr => by
        have h3 := ih (i + 1) (by omega)
        rw [gX7_tested_22, add_nl]
        by_cases e : tstP le sg n i
        · rw [if_pos (hr.mpr e), zb_one hi2, zb_or]
          rw [zb_congr (q := fun c => (c < i ∧ tstP le sg n c) ∨ c = i) (fun c _ => ⟨fun h => by
            by_cases e2 : c = i
            · exact Or.inr e2
            · exact Or.inl ⟨by omega, h.2⟩, fun h => h.elim (fun h => ⟨by omega, h.2⟩) (fun h => ⟨by omega, by rw [h]; exact e⟩)⟩)] at h3
          exact h3
        · rw [if_neg (fun h => e (hr.mp h))]
          rw [zb_congr (q := fun c => c < i ∧ tstP le sg n c) (fun c _ => ⟨fun h => ⟨by
            have : ¬ c = i := fun h2 => e (by rw [← h2]; exact h.2)
            omega, h.2⟩, fun h => ⟨by omega, h.2⟩⟩)] at h3
          exact h3
      rw [gX7_tested_5, if_pos (by rw [lt_nl (by omega) (by decide)]; omega), s_meas hl hi2]
      simp only [Option.toList_some, Option.toList_none, List.cons_append, List.nil_append]
      rw [gX7_tested_18, eJ6_compare_7cf53]
      by_cases h1 : msr le i < n
      · rw [if_pos (by rw [vI_lt (by omega) (by omega)]; exact h1)]
        refine fin _ (g0.trans ?_)
        unfold tstP
        constructor
        · intro h; rw [if_pos h]; exact h1
        · intro h
          by_cases e0 : sg = 0
          · exact e0
          · rw [if_neg e0] at h
            by_cases e1 : sg = 1
            · rw [if_pos e1] at h; omega
            · rw [if_neg e1] at h; omega
      · rw [if_neg (by rw [vI_lt (by omega) (by omega)]; exact h1)]
        by_cases h2 : msr le i = n
        · rw [if_pos (by rw [h2])]
          refine fin _ (g1.trans ?_)
          unfold tstP
          constructor
          · intro h; rw [if_neg (by omega), if_pos h]; exact h2
          · intro h
            by_cases e0 : sg = 0
            · rw [if_pos e0] at h; omega
            · rw [if_neg e0] at h
              by_cases e1 : sg = 1
              · exact e1
              · rw [if_neg e1] at h; omega
        · rw [if_neg (by rw [vI_inj (by omega) (by omega)]; exact h2)]
          refine fin _ (g2.trans ?_)
          unfold tstP
          constructor
          · intro h; rw [if_neg (by omega), if_neg (by omega)]; omega
          · intro h
            by_cases e0 : sg = 0
            · rw [if_pos e0] at h; omega
            · rw [if_neg e0] at h
              by_cases e1 : sg = 1
              · rw [if_pos e1] at h; omega
              · omega
  have h9 := lp 36 0 rfl
  rw [zb_congr (q := fun _ => False) (fun c _ => ⟨fun h => absurd h.1 (Nat.not_lt_zero c), fun h => h.elim⟩), ← zb_0] at h9
  rw [eX7_tested]
  exact h9
/-- what a reader of the class does -/
def SNG (MZ : MM) (T : Nat) (tx : Nat → Nat) (D k : Nat) (z : Int32) (f : Nat → Res) : Prop := ∀ (Q : Option Value → MM → Prop) (M : MM) (a : Nat) (w : Bool), TK MZ M T tx → a ≤ T → SX M a w →
  (∀ (M' : MM) (v : Int64), TF M M' → SX M' (gw w a (f a)).1 ((gw w a (f a)).2.isNone) → (∀ s : Nat → Prop, (gw w a (f a)).2 = some s → v = zb s) → Q (some (.long v)) M') → CL D k [.ref 22, .int z] M Q
theorem s_test {z : Int32} {w : Bool} (hK : TK MZ M T tx) (haT : a ≤ T) (hS : SX M a w)
    (h : ∀ (M' : MM) (v : Int64), TF M M' → SX M' (gw w a (pTest T tx a)).1 ((gw w a (pTest T tx a)).2.isNone) → (∀ s : Nat → Prop, (gw w a (pTest T tx a)).2 = some s → v = zb s) → Q (some (.long v)) M') :
    CL (d + 6) kX7_oneOf [.ref 22, .ref 6] M (fun v_ M_ => WP (d + 7) kX7_single (66, [.ref 22, .int z, dm, dm], v_.toList ++ [], M_) Q) := by
  have bad : ∀ (M1 : MM) (v1 : Int32) (a1 : Nat), a1 ≤ T → TF M M1 → SX M1 a1 true → (gw w a (pTest T tx a) = (a1, none)) → WP (d + 7) kX7_single (66, [.ref 22, .int z, dm, dm], [.int v1], M1) Q := by
    intro M1 v1 a1 ha1 hF1 hS1 hg
    rw [hg] at h
    rw [gX7_single_66, show (7 : Nat) = 6 + 1 from rfl]
    refine ⟨by simp only [ty_22], s_oneOf (by decide) (TK_tf hF1 hK) ha1 hS1 (fun _ M2 v2 hF2 hS2 => ?_) (fun j hw => by cases hw)⟩
    simp only [Option.toList_some, Option.toList_none, List.cons_append, List.nil_append]
    rw [gX7_single_73]
    refine ⟨by simp only [ty_22], s_number (TK_tf hF2 (TK_tf hF1 hK)) ha1 hS2 (fun M3 v3 hF3 hS3 _ => ?_)⟩
    rw [gw_t] at hS3
    simp only [Option.toList_some, Option.toList_none, List.cons_append, List.nil_append]
    rw [gX7_single_80]
    refine s_tested_any (fun v4 => ?_)
    simp only [Option.toList_some, Option.toList_none, List.cons_append, List.nil_append]
    rw [gX7_single_83]
    exact h _ _ ((hF1.trans hF2).trans hF3) hS3 (fun s hs => by cases hs)
  rw [show (6 : Nat) = 5 + 1 from rfl]
  refine s_oneOf (by decide) hK haT hS (fun hn M1 v1 hF1 hS1 => ?_) (fun le hw hle M1 hF1 hS1 => ?_)
  · simp only [Option.toList_some, Option.toList_none, List.cons_append, List.nil_append]
    refine bad M1 v1 a haT hF1 hS1 ?_
    cases w with
    | true => rfl
    | false =>
      rw [gw_f] at hn ⊢
      unfold pTest
      rw [show idx wLet (hr T tx a) = none from hn]
  · subst hw
    have haT1 : a < T := idx_T (s := 5) (by decide) hle
    have hle5 : le < 5 := by
      have hd : ∀ c : Nat, c < 1000 → ∀ j ∈ idx (wd 5) c, j < 5 := by decide +kernel
      exact hd _ (hr_lt hK a) le hle
    rw [gw_f] at h bad
    simp only [Option.toList_some, Option.toList_none, List.cons_append, List.nil_append]
    rw [gX7_single_66, show (7 : Nat) = 6 + 1 from rfl]
    have hK1 := TK_tf hF1 hK
    refine ⟨by simp only [ty_22], s_oneOf (by decide) hK1 (by omega) hS1 (fun hn M2 v2 hF2 hS2 => ?_) (fun sg _ hsg M2 hF2 hS2 => ?_)⟩
    · have e : pTest T tx a = (a + 1, none) := by
        unfold pTest
        rw [show idx wLet (hr T tx a) = some le from hle]
        show (match idx wSgn (hr T tx (a + 1)) with
          | none => (a + 1, none)
          | some sg => match (pNum T tx (a + 1 + 1)).2 with
            | none => ((pNum T tx (a + 1 + 1)).1, none)
            | some n => ((pNum T tx (a + 1 + 1)).1, some (tstP le sg n))) = _
        rw [show idx wSgn (hr T tx (a + 1)) = none from hn]
      rw [e] at h
      simp only [Option.toList_some, Option.toList_none, List.cons_append, List.nil_append]
      rw [gX7_single_73]
      refine ⟨by simp only [ty_22], s_number (TK_tf hF2 hK1) (by omega) hS2 (fun M3 v3 hF3 hS3 _ => ?_)⟩
      rw [gw_t] at hS3
      simp only [Option.toList_some, Option.toList_none, List.cons_append, List.nil_append]
      rw [gX7_single_80]
      refine s_tested_any (fun v4 => ?_)
      simp only [Option.toList_some, Option.toList_none, List.cons_append, List.nil_append]
      rw [gX7_single_83]
      exact h _ _ ((hF1.trans hF2).trans hF3) hS3 (fun s hs => by cases hs)
    · have haT2 : a + 1 < T := idx_T (s := 6) (by decide) hsg
      have hsg3 : sg < 3 := by
        have hd : ∀ c : Nat, c < 1000 → ∀ j ∈ idx (wd 6) c, j < 3 := by decide +kernel
        exact hd _ (hr_lt hK (a + 1)) sg hsg
      have e : pTest T tx a = match (pNum T tx (a + 1 + 1)).2 with
            | none => ((pNum T tx (a + 1 + 1)).1, none)
            | some n => ((pNum T tx (a + 1 + 1)).1, some (tstP le sg n)) := by
        unfold pTest
        rw [show idx wLet (hr T tx a) = some le from hle]
        show (match idx wSgn (hr T tx (a + 1)) with
          | none => (a + 1, none)
          | some sg => match (pNum T tx (a + 1 + 1)).2 with
            | none => ((pNum T tx (a + 1 + 1)).1, none)
            | some n => ((pNum T tx (a + 1 + 1)).1, some (tstP le sg n))) = _
        rw [show idx wSgn (hr T tx (a + 1)) = some sg from hsg]
      rw [e] at h
      simp only [Option.toList_some, Option.toList_none, List.cons_append, List.nil_append]
      rw [gX7_single_73]
      refine ⟨by simp only [ty_22], s_number (TK_tf hF2 hK1) (by omega) hS2 (fun M3 v3 hF3 hS3 hv3 => ?_)⟩
      rw [gw_f] at hS3 hv3
      simp only [Option.toList_some, Option.toList_none, List.cons_append, List.nil_append]
      rw [gX7_single_80]
      cases hx : (pNum T tx (a + 1 + 1)).2 with
      | none =>
        rw [hx] at h hS3
        refine s_tested_any (fun v4 => ?_)
        simp only [Option.toList_some, Option.toList_none, List.cons_append, List.nil_append]
        rw [gX7_single_83]
        exact h _ _ ((hF1.trans hF2).trans hF3) hS3 (fun s hs => by cases hs)
      | some n =>
        rw [hx] at h hS3
        obtain ⟨e1, e2⟩ := hv3 n hx
        rw [e1, s_tested hle5 hsg3 e2]
        simp only [Option.toList_some, Option.toList_none, List.cons_append, List.nil_append]
        rw [gX7_single_83]
        exact h _ _ ((hF1.trans hF2).trans hF3) hS3 (fun s hs => by cases hs; rfl)
theorem s_both {D : Nat} {z : Int32} {f : Nat → Res} (hs : SNG MZ T tx D kX7_single z f) (hb : bnd2 T f) : SNG MZ T tx (D + 1) kX7_both z (chain T tx 38 opA f) := by
  have lp : ∀ (Q : Option Value → MM → Prop) (F n : Nat), n + F = 100 → ∀ (M : MM) (a : Nat) (w : Bool) (l2 : Int64) (s : Nat → Prop), TK MZ M T tx → a ≤ T → SX M a w → (w = false → l2 = zb s) →
      (∀ (M' : MM) (v : Int64), TF M M' → SX M' (gw w a (loopR T tx 38 opA f F a s)).1 ((gw w a (loopR T tx 38 opA f F a s)).2.isNone) → (∀ s2 : Nat → Prop, (gw w a (loopR T tx 38 opA f F a s)).2 = some s2 → v = zb s2) → Q (some (.long v)) M') →
      WP (D + 1) kX7_both (9, [.ref 22, .int z, .long l2, dm, .int (vI n)], [], M) Q := by
    intro Q F
    induction F with
    | zero =>
      intro n hn M a w l2 s hK haT hS hl h
      obtain rfl : n = 100 := by omega
      rw [gX7_both_9, if_neg (by decide)]
      refine h M l2 (TF.refl M) ?_ (fun s2 hs2 => ?_)
      · cases w with
        | true => exact hS
        | false => exact hS
      · cases w with
        | true => cases hs2
        | false => cases hs2; exact hl rfl
    | succ F ih =>
      intro n hn M a w l2 s hK haT hS hl h
      have hT := hK.2.2.2.2.2.1
      rw [gX7_both_9, if_pos (by rw [lt_nl (by omega) (by decide)]; omega), show (38 : Int32) = vI 38 from rfl]
      refine ⟨by simp only [ty_22], ?_⟩
      by_cases ht : w = false ∧ hr T tx a = 38
      · obtain ⟨rfl, ht⟩ := ht
        have haT1 := hr_T ht (by decide)
        rw [s_takes_t hK hS ht (by decide)]
        simp only [Option.toList_some, Option.toList_none, List.cons_append, List.nil_append]
        rw [gX7_both_22, if_neg (by decide)]
        have hF1 : TF M (sI M 22 6 (vI (a + 1))) := TF.s (Or.inr rfl)
        have hK1 := TK_tf hF1 hK
        have hfb := hb (a + 1) (by omega)
        refine ⟨by simp only [ty_22], hs _ _ (a + 1) false hK1 (by omega) ⟨aI_sI _ _ _ _, by rw [xI_sI (by decide)]; exact hS.2⟩ (fun M2 v hF2 hS2 hv => ?_)⟩
        rw [gw_f] at hS2 hv
        simp only [Option.toList_some, Option.toList_none, List.cons_append, List.nil_append]
        rw [gX7_both_31, add_nl]
        rw [gw_f, loopR, if_pos ht] at h
        cases hx : (f (a + 1)).2 with
        | none =>
          rw [rb_n hx] at h
          rw [hx] at hS2
          exact ih (n + 1) (by omega) M2 _ true _ s (TK_tf hF2 hK1) hfb.2 hS2 (fun e => by cases e) (fun M' v2 g1 g2 g3 => h M' v2 ((hF1.trans hF2).trans g1) g2 g3)
        | some s2 =>
          rw [rb_s hx] at h
          rw [hx] at hS2
          exact ih (n + 1) (by omega) M2 _ false _ (opA s s2) (TK_tf hF2 hK1) hfb.2 hS2 (fun _ => by rw [hl rfl, hv s2 hx, zb_and]; rfl) (fun M' v2 g1 g2 g3 => h M' v2 ((hF1.trans hF2).trans g1) g2 g3)
      · rw [s_takes_f hK hS (by
          cases w with
          | true => exact Or.inl rfl
          | false => exact Or.inr (fun h2 => ht ⟨rfl, h2⟩)) (by decide) (by omega)]
        simp only [Option.toList_some, Option.toList_none, List.cons_append, List.nil_append]
        rw [gX7_both_22, if_pos rfl]
        cases w with
        | true => exact h M l2 (TF.refl M) hS (fun s2 hs2 => by cases hs2)
        | false =>
          rw [gw_f, loopR, if_neg (fun h3 => ht ⟨rfl, h3⟩)] at h
          exact h M l2 (TF.refl M) hS (fun s2 hs2 => by cases hs2; exact hl rfl)
  intro Q M a w hK haT hS h
  have hfb := hb a haT
  rw [eX7_both]
  refine ⟨by simp only [ty_22], hs _ M a w hK haT hS (fun M1 v hF1 hS1 hv => ?_)⟩
  simp only [Option.toList_some, Option.toList_none, List.cons_append, List.nil_append]
  rw [gX7_both_5, show (0 : Int32) = vI 0 from rfl]
  unfold chain at h
  cases w with
  | true =>
    rw [gw_t] at hS1 hv h
    exact lp Q 100 0 rfl M1 a true v (fun _ => False) (TK_tf hF1 hK) haT hS1 (fun e => by cases e) (fun M' v2 g1 g2 g3 => h M' v2 (hF1.trans g1) g2 g3)
  | false =>
    rw [gw_f] at hS1 hv h
    cases hx : (f a).2 with
    | none =>
      rw [rb_n hx] at h
      rw [hx] at hS1
      exact lp Q 100 0 rfl M1 _ true v (fun _ => False) (TK_tf hF1 hK) hfb.2 hS1 (fun e => by cases e) (fun M' v2 g1 g2 g3 => h M' v2 (hF1.trans g1) g2 g3)
    | some s =>
      rw [rb_s hx] at h
      rw [hx] at hS1
      exact lp Q 100 0 rfl M1 _ false v s (TK_tf hF1 hK) hfb.2 hS1 (fun _ => hv s hx) (fun M' v2 g1 g2 g3 => h M' v2 (hF1.trans g1) g2 g3)
end CExpr
