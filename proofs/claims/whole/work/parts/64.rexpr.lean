/-! ===== 64: the reference's factors, terms ===== -/
def RNG (T : Nat) (tx : Nat → Nat) (D k dp : Nat) (f : Nat → Res) : Prop := ∀ (Q : Option Value → MM → Prop) (M : MM) (a : Nat), RK M T tx → a ≤ T → RX M a false dp →
  (∀ (M' : MM) (v : Int64), RF M M' → RX M' (f a).1 ((f a).2.isNone) dp → (∀ s : Nat → Prop, (f a).2 = some s → v = zb s) → Q (some (.long v)) M') → CL D k [.ref 82] M Q
section RExpr
variable {M : MM} {d : Nat} {Q : Option Value → MM → Prop} {T a dp : Nat} {tx : Nat → Nat} {w : Bool}
theorem idx_let : ∀ c : Nat, c < 1000 → idx wLet c = if c = 114 then some 0 else if c = 99 then some 1 else if c = 115 then some 2 else if c = 100 then some 3 else if c = 105 then some 4 else none := by decide +kernel
theorem idx_sgn : ∀ c : Nat, c < 1000 → idx wSgn c = if c = 60 then some 0 else if c = 61 then some 1 else if c = 62 then some 2 else none := by decide +kernel
theorem m_test : RNG T tx (d + 2) kX11_test dp (pTest T tx) := by
  intro Q M a hK haT hS h
  have hT := hK.2.2.1
  have q : ∀ (x c : Nat), c < 128 → (hz T tx x = vI c) = (hr T tx x = c) := fun x c hc => hz_eq hK hc
  have bad : ∀ (M1 : MM) (a1 : Nat), RF M M1 → RX M1 a1 false dp → pTest T tx a = (a1, none) → ((TY 82).1 = 11 ∧ (Q (some (.long 0)) (sI M1 82 11 1))) := by
    intro M1 a1 hF1 hS1 e
    rw [e] at h
    exact ⟨by simp only [ty_82], h _ _ (hF1.trans (RF.s (Or.inr (Or.inr rfl)))) ⟨by rw [xI_sI (by decide)]; exact hS1.1, aI_sI _ _ _ _, by rw [xI_sI (by decide)]; exact hS1.2.2⟩ (fun s hs => by cases hs)⟩
  have hF1 : RF M (sI M 82 9 (vI (a + 1))) := RF.s (Or.inl rfl)
  have hK1 := RK_rf hF1 hK
  have hS1 : RX (sI M 82 9 (vI (a + 1))) (a + 1) false dp := ⟨aI_sI _ _ _ _, by rw [xI_sI (by decide)]; exact hS.2.1, by rw [xI_sI (by decide)]; exact hS.2.2⟩
  have hF2 : RF M (sI (sI M 82 9 (vI (a + 1))) 82 9 (vI (a + 1 + 1))) := hF1.trans (RF.s (Or.inl rfl))
  have hK2 := RK_rf hF2 hK
  have hS2 : RX (sI (sI M 82 9 (vI (a + 1))) 82 9 (vI (a + 1 + 1))) (a + 1 + 1) false dp := ⟨aI_sI _ _ _ _, by rw [xI_sI (by decide)]; exact hS1.2.1, by rw [xI_sI (by decide)]; exact hS1.2.2⟩
  have num : ∀ le sg : Nat, le < 5 → sg < 3 → idx wLet (hr T tx a) = some le → idx wSgn (hr T tx (a + 1)) = some sg →
      CL (d + 1) kX11_number [.ref 82] (sI (sI M 82 9 (vI (a + 1))) 82 9 (vI (a + 1 + 1))) (fun v_ M_ => WP (d + 2) kX11_test (96, [.ref 82, .int (vI (wLet.getD le 0)), .int (vI (wSgn.getD sg 0)), dm, dm, dm, dm, dm], v_.toList ++ [], M_) Q) := by
    intro le sg hl hsg e1 e2
    have haT2 : a + 1 < T := idx_T (s := 6) (by decide) e2
    refine m_number hK2 hS2 (by omega) (fun M3 v hF3 hS3 hv => ?_)
    simp only [Option.toList_some, Option.toList_none, List.cons_append, List.nil_append]
    rw [gX11_test_96]
    have e : pTest T tx a = match (pNum T tx (a + 1 + 1)).2 with
          | none => ((pNum T tx (a + 1 + 1)).1, none)
          | some n => ((pNum T tx (a + 1 + 1)).1, some (tstP le sg n)) := by
      unfold pTest
      rw [e1]
      show (match idx wSgn (hr T tx (a + 1)) with
        | none => (a + 1, none)
        | some sg => match (pNum T tx (a + 1 + 1)).2 with
          | none => ((pNum T tx (a + 1 + 1)).1, none)
          | some n => ((pNum T tx (a + 1 + 1)).1, some (tstP le sg n))) = _
      rw [e2]
    rw [e] at h
    have z0 : (0 : Int64) = zb (fun c => c < 0 ∧ tstP le sg 0 c) := by rw [zb_0]; exact zb_congr (fun c _ => ⟨fun h => h.elim, fun h => absurd h.1 (Nat.not_lt_zero c)⟩)
    cases hx : (pNum T tx (a + 1 + 1)).2 with
    | none =>
      rw [hx] at h hS3
      -- whatever the number is, it ends
      have any : ∀ m i : Nat, i + m = 36 → ∀ (l4 : Int64) (l7 : Value), WP (d + 2) kX11_test (103, [.ref 82, .int (vI (wLet.getD le 0)), .int (vI (wSgn.getD sg 0)), .int v, .long l4, dm, .int (vI i), l7], [], M3) Q := by
        intro m
        induction m with
        | zero =>
          intro i hi l4 l7
          obtain rfl : i = 36 := by omega
          rw [gX11_test_103, if_neg (by decide)]
          exact h M3 _ (hF2.trans hF3) hS3 (fun s hs => by cases hs)
        | succ m ih =>
          intro i hi l4 l7
          rw [gX11_test_103, if_pos (by rw [lt_nl (by omega) (by decide)]; omega), m_valueOf hl (by omega)]
          simp only [Option.toList_some, Option.toList_none, List.cons_append, List.nil_append]
          rw [gX11_test_116, add_nl]
          have h9 := fun l4 l7 => ih (i + 1) (by omega) l4 l7
          by_cases c1 : vI (wSgn.getD sg 0) = 60
          · rw [if_pos c1]
            by_cases c2 : vI (msr le i) < v
            · rw [if_pos c2]; exact h9 _ _
            · rw [if_neg c2]; exact h9 _ _
          · rw [if_neg c1]
            by_cases c3 : vI (wSgn.getD sg 0) = 61
            · rw [if_pos c3]
              by_cases c2 : vI (msr le i) = v
              · rw [if_pos c2]; exact h9 _ _
              · rw [if_neg c2]; exact h9 _ _
            · rw [if_neg c3]
              by_cases c2 : v < vI (msr le i)
              · rw [if_pos c2]; exact h9 _ _
              · rw [if_neg c2]; exact h9 _ _
      exact any 36 0 rfl 0 dm
    | some n =>
      have hn := pNum_lt hx
      rw [hx] at h hS3
      have e9 := hv n hx
      subst e9
      rw [show (0 : Int32) = vI 0 from rfl, show (0 : Int64) = zb (fun c => c < 0 ∧ tstP le sg n c) by rw [zb_0]; exact zb_congr (fun c _ => ⟨fun h => h.elim, fun h => absurd h.1 (Nat.not_lt_zero c)⟩), m_test_loop hl hsg hn 36 0 rfl]
      exact h _ _ (hF2.trans hF3) hS3 (fun s hs => by cases hs; rfl)
  have sgn : ∀ le : Nat, le < 5 → idx wLet (hr T tx a) = some le → a + 1 ≤ T → WP (d + 2) kX11_test (56, [.ref 82, .int (vI (wLet.getD le 0)), dm, dm, dm, dm, dm, dm], [.int (hz T tx (a + 1))], sI M 82 9 (vI (a + 1))) Q := by
    intro le hl e1 ha1
    have e2 := idx_sgn _ (hr_lt2 hK (a + 1))
    rw [gX11_test_56, hS1.1, add_nl]
    by_cases s0 : hr T tx (a + 1) = 60
    · rw [if_pos (by rw [show (60 : Int32) = vI 60 from rfl, q _ 60 (by decide)]; exact s0), show hz T tx (a + 1) = vI 60 by rw [q _ 60 (by decide)]; exact s0]
      rw [if_pos s0] at e2
      exact ⟨by simp only [ty_82], num le 0 hl (by decide) e1 e2⟩
    rw [if_neg (by rw [show (60 : Int32) = vI 60 from rfl, q _ 60 (by decide)]; exact s0)]
    rw [if_neg s0] at e2
    by_cases s1 : hr T tx (a + 1) = 61
    · rw [if_pos (by rw [show (61 : Int32) = vI 61 from rfl, q _ 61 (by decide)]; exact s1), show hz T tx (a + 1) = vI 61 by rw [q _ 61 (by decide)]; exact s1]
      rw [if_pos s1] at e2
      exact ⟨by simp only [ty_82], num le 1 hl (by decide) e1 e2⟩
    rw [if_neg (by rw [show (61 : Int32) = vI 61 from rfl, q _ 61 (by decide)]; exact s1)]
    rw [if_neg s1] at e2
    by_cases s2 : hr T tx (a + 1) = 62
    · rw [if_pos (by rw [show (62 : Int32) = vI 62 from rfl, q _ 62 (by decide)]; exact s2), show hz T tx (a + 1) = vI 62 by rw [q _ 62 (by decide)]; exact s2]
      rw [if_pos s2] at e2
      exact ⟨by simp only [ty_82], num le 2 hl (by decide) e1 e2⟩
    rw [if_neg (by rw [show (62 : Int32) = vI 62 from rfl, q _ 62 (by decide)]; exact s2)]
    rw [if_neg s2] at e2
    refine bad _ (a + 1) hF1 hS1 ?_
    unfold pTest
    rw [e1]
    show (match idx wSgn (hr T tx (a + 1)) with
      | none => (a + 1, none)
      | some sg => match (pNum T tx (a + 1 + 1)).2 with
        | none => ((pNum T tx (a + 1 + 1)).1, none)
        | some n => ((pNum T tx (a + 1 + 1)).1, some (tstP le sg n))) = _
    rw [e2]
  have e0 := idx_let _ (hr_lt2 hK a)
  rw [eX11_test, m_here hK hS haT]
  refine ⟨by simp only [ty_82], ?_⟩
  simp only [Option.toList_some, Option.toList_none, List.cons_append, List.nil_append]
  rw [gX11_test_4, hS.1, add_nl]
  by_cases c0 : hr T tx a = 114
  · have a1 := hr_T c0 (by decide)
    rw [if_pos c0] at e0
    rw [if_pos (by rw [show (114 : Int32) = vI 114 from rfl, q _ 114 (by decide)]; exact c0), show hz T tx a = vI 114 by rw [q _ 114 (by decide)]; exact c0, m_here hK1 hS1 (by omega)]
    refine ⟨by simp only [ty_82], ?_⟩
    simp only [Option.toList_some, Option.toList_none, List.cons_append, List.nil_append]
    exact sgn 0 (by decide) e0 (by omega)
  rw [if_neg (by rw [show (114 : Int32) = vI 114 from rfl, q _ 114 (by decide)]; exact c0)]
  rw [if_neg c0] at e0
  by_cases c1 : hr T tx a = 99
  · have a1 := hr_T c1 (by decide)
    rw [if_pos c1] at e0
    rw [if_pos (by rw [show (99 : Int32) = vI 99 from rfl, q _ 99 (by decide)]; exact c1), show hz T tx a = vI 99 by rw [q _ 99 (by decide)]; exact c1, m_here hK1 hS1 (by omega)]
    refine ⟨by simp only [ty_82], ?_⟩
    simp only [Option.toList_some, Option.toList_none, List.cons_append, List.nil_append]
    exact sgn 1 (by decide) e0 (by omega)
  rw [if_neg (by rw [show (99 : Int32) = vI 99 from rfl, q _ 99 (by decide)]; exact c1)]
  rw [if_neg c1] at e0
  by_cases c2 : hr T tx a = 115
  · have a1 := hr_T c2 (by decide)
    rw [if_pos c2] at e0
    rw [if_pos (by rw [show (115 : Int32) = vI 115 from rfl, q _ 115 (by decide)]; exact c2), show hz T tx a = vI 115 by rw [q _ 115 (by decide)]; exact c2, m_here hK1 hS1 (by omega)]
    refine ⟨by simp only [ty_82], ?_⟩
    simp only [Option.toList_some, Option.toList_none, List.cons_append, List.nil_append]
    exact sgn 2 (by decide) e0 (by omega)
  rw [if_neg (by rw [show (115 : Int32) = vI 115 from rfl, q _ 115 (by decide)]; exact c2)]
  rw [if_neg c2] at e0
  by_cases c3 : hr T tx a = 100
  · have a1 := hr_T c3 (by decide)
    rw [if_pos c3] at e0
    rw [if_pos (by rw [show (100 : Int32) = vI 100 from rfl, q _ 100 (by decide)]; exact c3), show hz T tx a = vI 100 by rw [q _ 100 (by decide)]; exact c3, m_here hK1 hS1 (by omega)]
    refine ⟨by simp only [ty_82], ?_⟩
    simp only [Option.toList_some, Option.toList_none, List.cons_append, List.nil_append]
    exact sgn 3 (by decide) e0 (by omega)
  rw [if_neg (by rw [show (100 : Int32) = vI 100 from rfl, q _ 100 (by decide)]; exact c3)]
  rw [if_neg c3] at e0
  by_cases c4 : hr T tx a = 105
  · have a1 := hr_T c4 (by decide)
    rw [if_pos c4] at e0
    rw [if_pos (by rw [show (105 : Int32) = vI 105 from rfl, q _ 105 (by decide)]; exact c4), show hz T tx a = vI 105 by rw [q _ 105 (by decide)]; exact c4, m_here hK1 hS1 (by omega)]
    refine ⟨by simp only [ty_82], ?_⟩
    simp only [Option.toList_some, Option.toList_none, List.cons_append, List.nil_append]
    exact sgn 4 (by decide) e0 (by omega)
  rw [if_neg (by rw [show (105 : Int32) = vI 105 from rfl, q _ 105 (by decide)]; exact c4)]
  rw [if_neg c4] at e0
  refine bad M a (RF.refl M) hS ?_
  unfold pTest
  rw [e0]
theorem m_term {D dp : Nat} {f : Nat → Res} (hs : RNG T tx D kX11_factor dp f) (hb : bnd2 T f) : RNG T tx (D + 1) kX11_term dp (chain T tx 38 opA f) := by
  have lp : ∀ (Q : Option Value → MM → Prop) (F : Nat) (M : MM) (a : Nat) (w : Bool) (l1 : Int64) (s : Nat → Prop), RK M T tx → a ≤ T → T - a ≤ F → RX M a w dp → (w = false → l1 = zb s) →
      (∀ (M' : MM) (v : Int64), RF M M' → RX M' (gw w a (loopR T tx 38 opA f F a s)).1 ((gw w a (loopR T tx 38 opA f F a s)).2.isNone) dp → (∀ s2 : Nat → Prop, (gw w a (loopR T tx 38 opA f F a s)).2 = some s2 → v = zb s2) → Q (some (.long v)) M') →
      WP (D + 1) kX11_term (5, [.ref 82, .long l1, dm], [], M) Q := by
    intro Q F
    induction F with
    | zero =>
      intro M a w l1 s hK haT hF0 hS hl h
      have hT := hK.2.2.1
      have hne : ¬ hr T tx a = 38 := fun e => by have := hr_T e (by decide); omega
      rw [gX11_term_5, hS.2.1]
      refine ⟨by simp only [ty_82], ?_⟩
      cases w with
      | true => rw [if_neg (by decide)]; exact h M l1 (RF.refl M) hS (fun s2 hs2 => by cases hs2)
      | false =>
        rw [if_pos (show b2i false = 0 from rfl), m_here hK hS haT]
        simp only [Option.toList_some, Option.toList_none, List.cons_append, List.nil_append]
        rw [gX11_term_16, if_neg (by rw [show (38 : Int32) = vI 38 from rfl, hz_eq hK (by decide)]; exact hne)]
        exact h M l1 (RF.refl M) hS (fun s2 hs2 => by cases hs2; exact hl rfl)
    | succ F ih =>
      intro M a w l1 s hK haT hF0 hS hl h
      have hT := hK.2.2.1
      rw [gX11_term_5, hS.2.1]
      refine ⟨by simp only [ty_82], ?_⟩
      cases w with
      | true => rw [if_neg (by decide)]; exact h M l1 (RF.refl M) hS (fun s2 hs2 => by cases hs2)
      | false =>
        rw [if_pos (show b2i false = 0 from rfl), m_here hK hS haT]
        simp only [Option.toList_some, Option.toList_none, List.cons_append, List.nil_append]
        rw [gX11_term_16]
        rw [gw_f, loopR] at h
        by_cases e : hr T tx a = 38
        · have a1 := hr_T e (by decide)
          have hfb := hb (a + 1) (by omega)
          rw [if_pos e] at h
          rw [if_pos (by rw [show (38 : Int32) = vI 38 from rfl, hz_eq hK (by decide)]; exact e), hS.1, add_nl]
          have hF1 : RF M (sI M 82 9 (vI (a + 1))) := RF.s (Or.inl rfl)
          have hK1 := RK_rf hF1 hK
          refine ⟨by simp only [ty_82], hs _ _ (a + 1) hK1 (by omega) ⟨aI_sI _ _ _ _, by rw [xI_sI (by decide)]; exact hS.2.1, by rw [xI_sI (by decide)]; exact hS.2.2⟩ (fun M2 v hF2 hS2 hv => ?_)⟩
          simp only [Option.toList_some, Option.toList_none, List.cons_append, List.nil_append]
          rw [gX11_term_36]
          cases hx : (f (a + 1)).2 with
          | none =>
            rw [rb_n hx] at h
            rw [hx] at hS2
            exact ih M2 _ true _ s (RK_rf hF2 hK1) hfb.2 (by omega) hS2 (fun e => by cases e) (fun M' v2 g1 g2 g3 => h M' v2 ((hF1.trans hF2).trans g1) g2 g3)
          | some s2 =>
            rw [rb_s hx] at h
            rw [hx] at hS2
            exact ih M2 _ false _ (opA s s2) (RK_rf hF2 hK1) hfb.2 (by omega) hS2 (fun _ => by rw [hl rfl, hv s2 hx, zb_and]; rfl) (fun M' v2 g1 g2 g3 => h M' v2 ((hF1.trans hF2).trans g1) g2 g3)
        · rw [if_neg e] at h
          rw [if_neg (by rw [show (38 : Int32) = vI 38 from rfl, hz_eq hK (by decide)]; exact e)]
          exact h M l1 (RF.refl M) hS (fun s2 hs2 => by cases hs2; exact hl rfl)
  intro Q M a hK haT hS h
  have hT := hK.2.2.1
  have hfb := hb a haT
  rw [eX11_term]
  refine ⟨by simp only [ty_82], hs _ M a hK haT hS (fun M1 v hF1 hS1 hv => ?_)⟩
  simp only [Option.toList_some, Option.toList_none, List.cons_append, List.nil_append]
  rw [gX11_term_4]
  unfold chain at h
  cases hx : (f a).2 with
  | none =>
    rw [rb_n hx] at h
    rw [hx] at hS1
    exact lp Q 100 M1 _ true v (fun _ => False) (RK_rf hF1 hK) hfb.2 (by omega) hS1 (fun e => by cases e) (fun M' v2 g1 g2 g3 => h M' v2 (hF1.trans g1) g2 g3)
  | some s =>
    rw [rb_s hx] at h
    rw [hx] at hS1
    exact lp Q 100 M1 _ false v s (RK_rf hF1 hK) hfb.2 (by omega) hS1 (fun _ => hv s hx) (fun M' v2 g1 g2 g3 => h M' v2 (hF1.trans g1) g2 g3)
theorem m_either {D dp : Nat} {f : Nat → Res} (hs : RNG T tx D kX11_term dp f) (hb : bnd2 T f) : RNG T tx (D + 1) kX11_either dp (chain T tx 124 opO f) := by
  have lp : ∀ (Q : Option Value → MM → Prop) (F : Nat) (M : MM) (a : Nat) (w : Bool) (l1 : Int64) (s : Nat → Prop), RK M T tx → a ≤ T → T - a ≤ F → RX M a w dp → (w = false → l1 = zb s) →
      (∀ (M' : MM) (v : Int64), RF M M' → RX M' (gw w a (loopR T tx 124 opO f F a s)).1 ((gw w a (loopR T tx 124 opO f F a s)).2.isNone) dp → (∀ s2 : Nat → Prop, (gw w a (loopR T tx 124 opO f F a s)).2 = some s2 → v = zb s2) → Q (some (.long v)) M') →
      WP (D + 1) kX11_either (5, [.ref 82, .long l1, dm], [], M) Q := by
    intro Q F
    induction F with
    | zero =>
      intro M a w l1 s hK haT hF0 hS hl h
      have hT := hK.2.2.1
      have hne : ¬ hr T tx a = 124 := fun e => by have := hr_T e (by decide); omega
      rw [gX11_either_5, hS.2.1]
      refine ⟨by simp only [ty_82], ?_⟩
      cases w with
      | true => rw [if_neg (by decide)]; exact h M l1 (RF.refl M) hS (fun s2 hs2 => by cases hs2)
      | false =>
        rw [if_pos (show b2i false = 0 from rfl), m_here hK hS haT]
        simp only [Option.toList_some, Option.toList_none, List.cons_append, List.nil_append]
        rw [gX11_either_16, if_neg (by rw [show (124 : Int32) = vI 124 from rfl, hz_eq hK (by decide)]; exact hne)]
        exact h M l1 (RF.refl M) hS (fun s2 hs2 => by cases hs2; exact hl rfl)
    | succ F ih =>
      intro M a w l1 s hK haT hF0 hS hl h
      have hT := hK.2.2.1
      rw [gX11_either_5, hS.2.1]
      refine ⟨by simp only [ty_82], ?_⟩
      cases w with
      | true => rw [if_neg (by decide)]; exact h M l1 (RF.refl M) hS (fun s2 hs2 => by cases hs2)
      | false =>
        rw [if_pos (show b2i false = 0 from rfl), m_here hK hS haT]
        simp only [Option.toList_some, Option.toList_none, List.cons_append, List.nil_append]
        rw [gX11_either_16]
        rw [gw_f, loopR] at h
        by_cases e : hr T tx a = 124
        · have a1 := hr_T e (by decide)
          have hfb := hb (a + 1) (by omega)
          rw [if_pos e] at h
          rw [if_pos (by rw [show (124 : Int32) = vI 124 from rfl, hz_eq hK (by decide)]; exact e), hS.1, add_nl]
          have hF1 : RF M (sI M 82 9 (vI (a + 1))) := RF.s (Or.inl rfl)
          have hK1 := RK_rf hF1 hK
          refine ⟨by simp only [ty_82], hs _ _ (a + 1) hK1 (by omega) ⟨aI_sI _ _ _ _, by rw [xI_sI (by decide)]; exact hS.2.1, by rw [xI_sI (by decide)]; exact hS.2.2⟩ (fun M2 v hF2 hS2 hv => ?_)⟩
          simp only [Option.toList_some, Option.toList_none, List.cons_append, List.nil_append]
          rw [gX11_either_36]
          cases hx : (f (a + 1)).2 with
          | none =>
            rw [rb_n hx] at h
            rw [hx] at hS2
            exact ih M2 _ true _ s (RK_rf hF2 hK1) hfb.2 (by omega) hS2 (fun e => by cases e) (fun M' v2 g1 g2 g3 => h M' v2 ((hF1.trans hF2).trans g1) g2 g3)
          | some s2 =>
            rw [rb_s hx] at h
            rw [hx] at hS2
            exact ih M2 _ false _ (opO s s2) (RK_rf hF2 hK1) hfb.2 (by omega) hS2 (fun _ => by rw [hl rfl, hv s2 hx, zb_or]; rfl) (fun M' v2 g1 g2 g3 => h M' v2 ((hF1.trans hF2).trans g1) g2 g3)
        · rw [if_neg e] at h
          rw [if_neg (by rw [show (124 : Int32) = vI 124 from rfl, hz_eq hK (by decide)]; exact e)]
          exact h M l1 (RF.refl M) hS (fun s2 hs2 => by cases hs2; exact hl rfl)
  intro Q M a hK haT hS h
  have hT := hK.2.2.1
  have hfb := hb a haT
  rw [eX11_either]
  refine ⟨by simp only [ty_82], hs _ M a hK haT hS (fun M1 v hF1 hS1 hv => ?_)⟩
  simp only [Option.toList_some, Option.toList_none, List.cons_append, List.nil_append]
  rw [gX11_either_4]
  unfold chain at h
  cases hx : (f a).2 with
  | none =>
    rw [rb_n hx] at h
    rw [hx] at hS1
    exact lp Q 100 M1 _ true v (fun _ => False) (RK_rf hF1 hK) hfb.2 (by omega) hS1 (fun e => by cases e) (fun M' v2 g1 g2 g3 => h M' v2 (hF1.trans g1) g2 g3)
  | some s =>
    rw [rb_s hx] at h
    rw [hx] at hS1
    exact lp Q 100 M1 _ false v s (RK_rf hF1 hK) hfb.2 (by omega) hS1 (fun _ => hv s hx) (fun M' v2 g1 g2 g3 => h M' v2 (hF1.trans g1) g2 g3)
theorem m_factor : ∀ (l d dp : Nat), dp + l = 4 → RNG T tx (d + 3 + 3 * l) kX11_factor dp (pFac T tx l) := by
  intro l
  induction l with
  | zero =>
    intro d dp hl Q M a hK haT hS h
    obtain rfl : dp = 4 := by omega
    have q : ∀ (c : Nat), c < 128 → (hz T tx a = vI c) = (hr T tx a = c) := fun c hc => hz_eq hK hc
    have hbad : hr T tx a = 33 ∨ hr T tx a = 40 → Q (some (.long 0)) (sI M 82 11 1) := fun hc => by
      have e : pTest T tx a = (a, none) := by
        unfold pTest
        have e2 : idx wLet (hr T tx a) = none := by
          rcases hc with hc | hc <;> (rw [hc]; decide)
        rw [e2]
      rw [show pFac T tx 0 a = pTest T tx a from rfl, e] at h
      exact h _ _ (RF.s (Or.inr (Or.inr rfl))) ⟨by rw [xI_sI (by decide)]; exact hS.1, aI_sI _ _ _ _, by rw [xI_sI (by decide)]; exact hS.2.2⟩ (fun s hs => by cases hs)
    rw [show d + 3 + 3 * 0 = (d + 2) + 1 from rfl, eX11_factor, hS.2.1, if_pos (show b2i false = 0 from rfl), m_here hK hS haT]
    refine ⟨by simp only [ty_82], ?_⟩
    simp only [Option.toList_some, Option.toList_none, List.cons_append, List.nil_append]
    rw [gX11_factor_13, hS.2.2]
    by_cases h1 : hr T tx a = 33
    · rw [if_pos (by rw [show (33 : Int32) = vI 33 from rfl, q 33 (by decide)]; exact h1), if_pos (by decide)]
      exact ⟨by simp only [ty_82], hbad (Or.inl h1)⟩
    rw [if_neg (by rw [show (33 : Int32) = vI 33 from rfl, q 33 (by decide)]; exact h1)]
    by_cases h2 : hr T tx a = 40
    · rw [if_pos (by rw [show (40 : Int32) = vI 40 from rfl, q 40 (by decide)]; exact h2), if_pos (by decide)]
      exact ⟨by simp only [ty_82], hbad (Or.inr h2)⟩
    rw [if_neg (by rw [show (40 : Int32) = vI 40 from rfl, q 40 (by decide)]; exact h2)]
    refine ⟨by simp only [ty_82], m_test (d := d) _ M a hK haT hS (fun M1 v g1 g2 g3 => ?_)⟩
    simp only [Option.toList_some, Option.toList_none, List.cons_append, List.nil_append]
    rw [gX11_factor_30]
    exact h M1 v g1 g2 g3
  | succ l ih =>
    intro d dp hl Q M a hK haT hS h
    have q : ∀ (c : Nat), c < 128 → (hz T tx a = vI c) = (hr T tx a = c) := fun c hc => hz_eq hK hc
    rw [show d + 3 + 3 * (l + 1) = (d + 2 + 3 + 3 * l) + 1 by omega, eX11_factor, hS.2.1, if_pos (show b2i false = 0 from rfl), m_here hK hS haT]
    refine ⟨by simp only [ty_82], ?_⟩
    simp only [Option.toList_some, Option.toList_none, List.cons_append, List.nil_append]
    have e10 : mI (sI M 82 9 (vI (a + 1))) 82 10 = vI dp := by rw [xI_sI (by decide)]; exact hS.2.2
    rw [gX11_factor_13, hS.2.2, hS.1, add_nl, e10, add_nl]
    have hF1 : RF M (sI (sI M 82 9 (vI (a + 1))) 82 10 (vI (dp + 1))) := (RF.s (Or.inl rfl)).trans (RF.s (Or.inr (Or.inl rfl)))
    have hK1 := RK_rf hF1 hK
    have hS1 : RX (sI (sI M 82 9 (vI (a + 1))) 82 10 (vI (dp + 1))) (a + 1) false (dp + 1) := ⟨by rw [xI_sI (by decide), aI_sI], by rw [xI_sI (by decide), xI_sI (by decide)]; exact hS.2.1, aI_sI _ _ _ _⟩
    have n4 : ¬ (vI dp = 4) := by rw [eq_nl (by omega) (by decide)]; omega
    have back : ∀ (M2 : MM) (x : Nat) (b : Bool), RX M2 x b (dp + 1) → RX (sI M2 82 10 (mI M2 82 10 - 1)) x b dp := fun M2 x b hs => ⟨by rw [xI_sI (by decide)]; exact hs.1, by rw [xI_sI (by decide)]; exact hs.2.1, by rw [aI_sI, hs.2.2, sub_nl (by omega)]; rfl⟩
    have bF : ∀ (M2 : MM) (z : Int32), RF M2 (sI M2 82 10 z) := fun M2 z => RF.s (Or.inr (Or.inl rfl))
    by_cases h1 : hr T tx a = 33
    · have a1 := hr_T h1 (by decide)
      rw [pFac, if_pos h1] at h
      have c33 : hz T tx a = 33 := by rw [show (33 : Int32) = vI 33 from rfl, q 33 (by decide)]; exact h1
      rw [if_pos c33, if_neg n4, if_pos c33]
      refine ⟨by simp only [ty_82], ?_⟩
      have hr2 := ih (d + 2) (dp + 1) (by omega)
      refine hr2 _ _ (a + 1) hK1 (by omega) hS1 (fun M2 v hF2 hS2 hv => ?_)
      simp only [Option.toList_some, Option.toList_none, List.cons_append, List.nil_append]
      rw [gX11_factor_79, if_neg (by rw [c33]; decide)]
      refine ⟨by simp only [ty_82], ?_⟩
      cases hx : (pFac T tx l (a + 1)).2 with
      | none =>
        rw [rb_n hx] at h
        rw [hx] at hS2
        exact h _ _ ((hF1.trans hF2).trans (bF _ _)) (back _ _ _ hS2) (fun s hs => by cases hs)
      | some s =>
        rw [rb_s hx] at h
        rw [hx] at hS2
        exact h _ _ ((hF1.trans hF2).trans (bF _ _)) (back _ _ _ hS2) (fun s2 hs => by cases hs; rw [hv s hx, zb_not])
    rw [if_neg (by rw [show (33 : Int32) = vI 33 from rfl, q 33 (by decide)]; exact h1)]
    by_cases h2 : hr T tx a = 40
    · have a1 := hr_T h2 (by decide)
      rw [pFac, if_neg h1, if_pos h2] at h
      have c40 : hz T tx a = 40 := by rw [show (40 : Int32) = vI 40 from rfl, q 40 (by decide)]; exact h2
      rw [if_pos c40, if_neg n4, if_neg (by rw [show (33 : Int32) = vI 33 from rfl, q 33 (by decide)]; exact h1)]
      refine ⟨by simp only [ty_82], ?_⟩
      have hei := m_either (m_term (ih d (dp + 1) (by omega)) (pFac_b l)) (chain_b (tx := tx) (op := opA) (show 38 < 999 by decide) (pFac_b l))
      have hbd := chain_b (tx := tx) (op := opO) (show 124 < 999 by decide) (chain_b (tx := tx) (op := opA) (show 38 < 999 by decide) (pFac_b (T := T) (tx := tx) l)) (a + 1) (by omega)
      rw [show d + 2 + 3 + 3 * l = (d + 3 + 3 * l) + 1 + 1 by omega]
      refine hei _ _ (a + 1) hK1 (by omega) hS1 (fun M2 v hF2 hS2 hv => ?_)
      simp only [Option.toList_some, Option.toList_none, List.cons_append, List.nil_append]
      rw [gX11_factor_91, if_pos c40, show (41 : Int32) = vI 41 from rfl]
      refine ⟨by simp only [ty_82], ?_⟩
      have hK2 := RK_rf (hF2.trans (bF M2 (mI M2 82 10 - 1))) hK1
      refine m_takes (by decide) hK2 (back _ _ _ hS2) hbd.2 (fun M3 hF3 hS3 => ?_)
      simp only [Option.toList_some, Option.toList_none, List.cons_append, List.nil_append]
      rw [gX11_factor_114]
      have hFF := ((hF1.trans hF2).trans (bF M2 (mI M2 82 10 - 1))).trans hF3
      cases hx : (chain T tx 124 opO (chain T tx 38 opA (pFac T tx l)) (a + 1)).2 with
      | none =>
        rw [rb_n hx] at h
        rw [hx] at hS3
        exact h _ _ hFF (by rw [if_neg (fun h => by cases h.1)] at hS3; exact hS3) (fun s hs => by cases hs)
      | some s =>
        rw [rb_s hx] at h
        rw [hx] at hS3
        by_cases h41 : hr T tx (chain T tx 124 opO (chain T tx 38 opA (pFac T tx l)) (a + 1)).1 = 41
        · rw [if_pos h41] at h
          rw [if_pos ⟨rfl, h41⟩, decide_eq_true h41] at hS3
          exact h _ _ hFF hS3 (fun s2 hs => by cases hs; exact hv s hx)
        · rw [if_neg h41] at h
          rw [if_neg (fun h => h41 h.2), decide_eq_false h41] at hS3
          exact h _ _ hFF hS3 (fun s2 hs => by cases hs)
    rw [if_neg (by rw [show (40 : Int32) = vI 40 from rfl, q 40 (by decide)]; exact h2)]
    rw [pFac, if_neg h1, if_neg h2] at h
    refine ⟨by simp only [ty_82], ?_⟩
    rw [show d + 2 + 3 + 3 * l = (d + 3 + 3 * l) + 2 by omega]
    refine m_test _ M a hK haT hS (fun M1 v g1 g2 g3 => ?_)
    simp only [Option.toList_some, Option.toList_none, List.cons_append, List.nil_append]
    rw [gX11_factor_30]
    exact h M1 v g1 g2 g3
theorem m_either0 : RNG T tx (d + 17) kX11_either 0 (pEit T tx 4) := m_either (m_term (m_factor 4 d 0 rfl) (pFac_b 4)) (chain_b (tx := tx) (op := opA) (show 38 < 999 by decide) (pFac_b 4))
end RExpr
