/-! ===== 50: image, undo on both sides ===== -/
def SPt (M : MM) (a : Nat) : Prop := mR M a 0 = some (a + 1) ∧ mR M a 2 = some (a + 2) ∧ mR M a 3 = some (a + 4) ∧ mR M (a + 2) 0 = some (a + 3) ∧ mR M (a + 4) 0 = some (a + 5) ∧ ∀ j : Nat, j < 6 → mR M (a + 1) j = some (a + 6 + j)
def STy (a : Nat) : Prop := (TY a).1 = 5 ∧ TY (a + 1) = (24, 6) ∧ (TY (a + 2)).1 = 8 ∧ TY (a + 3) = (20, 12) ∧ (TY (a + 4)).1 = 8 ∧ TY (a + 5) = (20, 12) ∧ ∀ j : Nat, j < 6 → (TY (a + 6 + j)).1 = 9
theorem STy_33 : STy 33 := ⟨by rw [ty_33], ty_34, by rw [ty_35], ty_36, by rw [ty_37], ty_38, fun j hj => by rw [show 33 + 6 + j = 39 + j by omega, ty_w j hj]⟩
theorem STy_45 : STy 45 := ⟨by rw [ty_45], ty_46, by rw [ty_47], ty_48, by rw [ty_49], ty_50, fun j hj => by rw [show 45 + 6 + j = 51 + j by omega, ty_kw j hj]⟩
theorem SPt_33 {M : MM} (h : PC M) : SPt M 33 := ⟨pc_33_0 h, pc_33_2 h, pc_33_3 h, pc_35_0 h, pc_37_0 h, fun j hj => by rw [show 33 + 6 + j = 39 + j by omega]; exact pc_34 h hj⟩
theorem SPt_45 {M : MM} (h : PC M) : SPt M 45 := ⟨pc_45_0 h, pc_45_2 h, pc_45_3 h, pc_47_0 h, pc_49_0 h, fun j hj => by rw [show 45 + 6 + j = 51 + j by omega]; exact pc_46 h hj⟩
section Image
variable {MZ M : MM} {n d : Nat} {Q : Option Value → MM → Prop}
theorem s_bec8 {x y qx qy : Nat} (hx : (TY x).1 = 8) (hy : (TY y).1 = 8) (px : mR M x 0 = some qx) (py : mR M y 0 = some qy) (tx : TY qx = (20, 12)) (ty : TY qy = (20, 12)) (hne : ¬ y = qx) : CL d kX8_become [.ref x, .ref y] M Q = Q none (sI (cI M qy 0 qx 0 12) x 1 (mI M y 1)) := by
  rw [eX8_become]
  · have e : mI (cI M qy 0 qx 0 12) y 1 = mI M y 1 := by rw [mI_cI, if_neg (fun h => hne h.1)]
    simp only [hx, hy, px, py, tx, ty, true_and, and_true, Option.some.injEq, exists_eq_left']
    rw [show (0 : Int32).toNatClampNeg = 0 from rfl, show (12 : Int32).toNatClampNeg = 12 from rfl, e]
    exact propext ⟨fun h => h.2, fun h => ⟨⟨⟨by decide, by decide, by decide⟩, by decide, by decide⟩, h⟩⟩
  · intro q h; rw [py] at h; cases h; rw [ty]
  · intro q h; rw [px] at h; cases h; rw [tx]
theorem s_bec9 {x y : Nat} (hx : (TY x).1 = 9) (hy : (TY y).1 = 9) (hne : ¬ y = x)
    (h : ∀ M' : MM, FM (fun z => z = x) M M' → mL M' = mL M → mR M' = mR M → (∀ k : Nat, k < 7 → mI M' x k = mI M y k) → Q none M') : CL d kX9_become [.ref x, .ref y] M Q := by
  rw [eX9_become]
  refine ⟨hy, hx, ?_⟩
  rw [gX9_become_32]
  refine ⟨hy, hx, ?_⟩
  simp (disch := omega) only [xI_sI]
  refine h _ (FM.trans (FM.trans (FM.trans (FM.trans (FM.trans (FM.trans (fr_sI (S := fun z => z = x) rfl) (fr_sI (S := fun z => z = x) rfl)) (fr_sI (S := fun z => z = x) rfl)) (fr_sI (S := fun z => z = x) rfl)) (fr_sI (S := fun z => z = x) rfl)) (fr_sI (S := fun z => z = x) rfl)) (fr_sI (S := fun z => z = x) rfl)) rfl rfl (fun k hk => ?_)
  have h7 : k = 0 ∨ k = 1 ∨ k = 2 ∨ k = 3 ∨ k = 4 ∨ k = 5 ∨ k = 6 := by omega
  rcases h7 with rfl | rfl | rfl | rfl | rfl | rfl | rfl <;> simp (disch := omega) only [aI_sI, xI_sI]
/-- one scene has become as another -/
def Cop (a b : Nat) (M M' : MM) : Prop := mN M' = mN M ∧ mL M' = mL M ∧ (∀ x : Nat, ¬ (a ≤ x ∧ x < a + 12) → mI M' x = mI M x) ∧ (∀ x k : Nat, ¬ (x = a ∧ k = 4) → mR M' x k = mR M x k) ∧ mR M' a 4 = mR M b 4 ∧ mI M' a 1 = mI M b 1 ∧
  mI M' (a + 2) 1 = mI M (b + 2) 1 ∧ (∀ j : Nat, j < 12 → mI M' (a + 3) j = mI M (b + 3) j) ∧ mI M' (a + 4) 1 = mI M (b + 4) 1 ∧ (∀ j : Nat, j < 12 → mI M' (a + 5) j = mI M (b + 5) j) ∧ ∀ w : Nat, w < 6 → ∀ k : Nat, k < 7 → mI M' (a + 6 + w) k = mI M (b + 6 + w) k
theorem s_bec5_loop {a b : Nat} (ta : STy a) (tb : STy b) (hab : a + 12 ≤ b ∨ b + 12 ≤ a) (M0 : MM) : ∀ m w : Nat, w + m = 6 → ∀ M : MM, SPt M a → SPt M b → mL M = mL M0 → mR M = mR M0 → FM (fun x => a + 6 ≤ x ∧ x < a + 12) M0 M → (∀ w2 : Nat, w2 < w → ∀ k : Nat, k < 7 → mI M (a + 6 + w2) k = mI M0 (b + 6 + w2) k) →
    (∀ M' : MM, FM (fun x => a + 6 ≤ x ∧ x < a + 12) M0 M' → mL M' = mL M0 → mR M' = mR M0 → (∀ w2 : Nat, w2 < 6 → ∀ k : Nat, k < 7 → mI M' (a + 6 + w2) k = mI M0 (b + 6 + w2) k) → Q none M') →
    WP (d + 1) kX5_become (40, [.ref a, .ref b, .int (vI w)], [], M) Q := by
  intro m
  induction m with
  | zero =>
    intro w hw M pa pb hL hR hF hx h
    obtain rfl : w = 6 := by omega
    rw [gX5_become_40, if_neg (by decide)]
    exact h M hF hL hR hx
  | succ m ih =>
    intro w hw M pa pb hL hR hF hx h
    rw [gX5_become_40, if_pos (by rw [lt_nl (by omega) (by decide)]; omega)]
    simp (disch := omega) only [ta.1, tb.1, pa.1, pb.1, ta.2.1, tb.2.1, inb_n, vI_cl, pa.2.2.2.2.2 w (by omega), pb.2.2.2.2.2 w (by omega), true_or, rf_some, true_and, and_true, Option.some.injEq, exists_eq_left']
    have hta := ta.2.2.2.2.2.2 w (by omega)
    have htb := tb.2.2.2.2.2.2 w (by omega)
    refine ⟨by omega, by omega, hta, ?_⟩
    refine s_bec9 hta htb (by omega) (fun M1 hF1 hL1 hR1 h1 => ?_)
    simp only [Option.toList_some, Option.toList_none, List.cons_append, List.nil_append]
    rw [gX5_become_61, add_nl]
    have hF01 := hF.trans (hF1.mono (T := fun x => a + 6 ≤ x ∧ x < a + 12) (fun x hx => by omega))
    refine ih (w + 1) (by omega) M1 (by unfold SPt; rw [hR1]; exact pa) (by unfold SPt; rw [hR1]; exact pb) (hL1.trans hL) (hR1.trans hR) hF01 (fun w2 hw2 k hk => ?_) h
    by_cases e : w2 = w
    · subst e
      rw [h1 k hk, hF.i (by omega)]
    · rw [hF1.i (by omega)]; exact hx w2 (by omega) k hk
theorem s_bec5 {a b : Nat} (ta : STy a) (tb : STy b) (hab : a + 12 ≤ b ∨ b + 12 ≤ a) (pa : SPt M a) (pb : SPt M b) (h : ∀ M' : MM, Cop a b M M' → Q none M') : CL (d + 1) kX5_become [.ref a, .ref b] M Q := by
  rw [eX5_become]
  refine ⟨tb.1, ta.1, a + 2, ?_, ta.2.2.1, ?_⟩
  · rw [bR_sR (by decide)]; exact pa.2.1
  have qb : mR (sR (sI M a 1 (mI M b 1)) a 4 (mR M b 4)) b 2 = some (b + 2) := by rw [rR_sR (by omega)]; exact pb.2.1
  rw [qb, rf_some, s_bec8 (qx := a + 3) (qy := b + 3) ta.2.2.1 tb.2.2.1 (by rw [rR_sR (by omega)]; exact pa.2.2.2.1) (by rw [rR_sR (by omega)]; exact pb.2.2.2.1) ta.2.2.2.1 tb.2.2.2.1 (by omega)]
  simp only [Option.toList_some, Option.toList_none, List.cons_append, List.nil_append]
  rw [gX5_become_27]
  have e3a : mR (sI (cI (sR (sI M a 1 (mI M b 1)) a 4 (mR M b 4)) (b + 3) 0 (a + 3) 0 12) (a + 2) 1 (mI (sR (sI M a 1 (mI M b 1)) a 4 (mR M b 4)) (b + 2) 1)) a 3 = some (a + 4) := by
    show mR (sR (sI M a 1 (mI M b 1)) a 4 (mR M b 4)) a 3 = _
    rw [bR_sR (by decide)]; exact pa.2.2.1
  have e3b : mR (sI (cI (sR (sI M a 1 (mI M b 1)) a 4 (mR M b 4)) (b + 3) 0 (a + 3) 0 12) (a + 2) 1 (mI (sR (sI M a 1 (mI M b 1)) a 4 (mR M b 4)) (b + 2) 1)) b 3 = some (b + 4) := by
    show mR (sR (sI M a 1 (mI M b 1)) a 4 (mR M b 4)) b 3 = _
    rw [rR_sR (by omega)]; exact pb.2.2.1
  refine ⟨ta.1, tb.1, a + 4, e3a, ta.2.2.2.2.1, ?_⟩
  rw [e3b, rf_some, s_bec8 (qx := a + 5) (qy := b + 5) ta.2.2.2.2.1 tb.2.2.2.2.1 (by
    show mR (sR (sI M a 1 (mI M b 1)) a 4 (mR M b 4)) (a + 4) 0 = _
    rw [rR_sR (by omega)]; exact pa.2.2.2.2.1) (by
    show mR (sR (sI M a 1 (mI M b 1)) a 4 (mR M b 4)) (b + 4) 0 = _
    rw [rR_sR (by omega)]; exact pb.2.2.2.2.1) ta.2.2.2.2.2.1 tb.2.2.2.2.2.1 (by omega)]
  simp only [Option.toList_some, Option.toList_none, List.cons_append, List.nil_append]
  rw [gX5_become_38, show (0 : Int32) = vI 0 from rfl]
  -- the memory ahead of the loop
  have gR : ∀ x k : Nat, mR (sI (cI (sI (cI (sR (sI M a 1 (mI M b 1)) a 4 (mR M b 4)) (b + 3) 0 (a + 3) 0 12) (a + 2) 1 (mI (sR (sI M a 1 (mI M b 1)) a 4 (mR M b 4)) (b + 2) 1)) (b + 5) 0 (a + 5) 0 12) (a + 4) 1 (mI (sI (cI (sR (sI M a 1 (mI M b 1)) a 4 (mR M b 4)) (b + 3) 0 (a + 3) 0 12) (a + 2) 1 (mI (sR (sI M a 1 (mI M b 1)) a 4 (mR M b 4)) (b + 2) 1)) (b + 4) 1)) x k = if x = a ∧ k = 4 then mR M b 4 else mR M x k := by
    intro x k
    show mR (sR (sI M a 1 (mI M b 1)) a 4 (mR M b 4)) x k = _
    rw [mR_sR]; rfl
  have f2 : mI (sR (sI M a 1 (mI M b 1)) a 4 (mR M b 4)) (b + 2) 1 = mI M (b + 2) 1 := by
    show mI (sI M a 1 (mI M b 1)) (b + 2) 1 = _
    rw [xI_sI (by omega)]
  have f4 : mI (sI (cI (sR (sI M a 1 (mI M b 1)) a 4 (mR M b 4)) (b + 3) 0 (a + 3) 0 12) (a + 2) 1 (mI (sR (sI M a 1 (mI M b 1)) a 4 (mR M b 4)) (b + 2) 1)) (b + 4) 1 = mI M (b + 4) 1 := by
    rw [xI_sI (by omega), mI_cI, if_neg (by omega)]
    show mI (sI M a 1 (mI M b 1)) (b + 4) 1 = _
    rw [xI_sI (by omega)]
  rw [f2] at f4 gR ⊢
  rw [f4] at gR ⊢
  have gI : ∀ x k : Nat, mI (sI (cI (sI (cI (sR (sI M a 1 (mI M b 1)) a 4 (mR M b 4)) (b + 3) 0 (a + 3) 0 12) (a + 2) 1 (mI M (b + 2) 1)) (b + 5) 0 (a + 5) 0 12) (a + 4) 1 (mI M (b + 4) 1)) x k = if x = a + 4 ∧ k = 1 then mI M (b + 4) 1 else if x = a + 5 ∧ k < 12 then mI M (b + 5) k else if x = a + 2 ∧ k = 1 then mI M (b + 2) 1 else if x = a + 3 ∧ k < 12 then mI M (b + 3) k else if x = a ∧ k = 1 then mI M b 1 else mI M x k := by
    have c1 : ∀ x k : Nat, mI (sR (sI M a 1 (mI M b 1)) a 4 (mR M b 4)) x k = if x = a ∧ k = 1 then mI M b 1 else mI M x k := fun x k => by
      show mI (sI M a 1 (mI M b 1)) x k = _
      rw [mI_sI]
    have c2 : ∀ x k : Nat, mI (cI (sR (sI M a 1 (mI M b 1)) a 4 (mR M b 4)) (b + 3) 0 (a + 3) 0 12) x k = if x = a + 3 ∧ k < 12 then mI M (b + 3) k else if x = a ∧ k = 1 then mI M b 1 else mI M x k := fun x k => by
      rw [mI_cI, c1, c1]
      by_cases h : x = a + 3 ∧ k < 12
      · rw [if_pos ⟨h.1, by omega, by omega⟩, if_pos h, if_neg (by omega), show 0 + (k - 0) = k by omega]
      · rw [if_neg (by omega), if_neg h]
    have c3 : ∀ x k : Nat, mI (sI (cI (sR (sI M a 1 (mI M b 1)) a 4 (mR M b 4)) (b + 3) 0 (a + 3) 0 12) (a + 2) 1 (mI M (b + 2) 1)) x k = if x = a + 2 ∧ k = 1 then mI M (b + 2) 1 else if x = a + 3 ∧ k < 12 then mI M (b + 3) k else if x = a ∧ k = 1 then mI M b 1 else mI M x k := fun x k => by
      rw [mI_sI, c2]
    intro x k
    rw [mI_sI, mI_cI, c3, c3]
    by_cases h : x = a + 5 ∧ k < 12
    · by_cases h1 : x = a + 4 ∧ k = 1
      · omega
      · rw [if_neg h1, if_neg h1, if_pos ⟨h.1, by omega, by omega⟩, if_pos h, if_neg (by omega), if_neg (by omega), if_neg (by omega), show 0 + (k - 0) = k by omega]
    · by_cases h1 : x = a + 4 ∧ k = 1
      · rw [if_pos h1, if_pos h1]
      · rw [if_neg h1, if_neg h1, if_neg (by omega), if_neg h]
  have hLM : mL (sI (cI (sI (cI (sR (sI M a 1 (mI M b 1)) a 4 (mR M b 4)) (b + 3) 0 (a + 3) 0 12) (a + 2) 1 (mI M (b + 2) 1)) (b + 5) 0 (a + 5) 0 12) (a + 4) 1 (mI M (b + 4) 1)) = mL M := rfl
  have hNM : mN (sI (cI (sI (cI (sR (sI M a 1 (mI M b 1)) a 4 (mR M b 4)) (b + 3) 0 (a + 3) 0 12) (a + 2) 1 (mI M (b + 2) 1)) (b + 5) 0 (a + 5) 0 12) (a + 4) 1 (mI M (b + 4) 1)) = mN M := rfl
  generalize hM1 : (sI (cI (sI (cI (sR (sI M a 1 (mI M b 1)) a 4 (mR M b 4)) (b + 3) 0 (a + 3) 0 12) (a + 2) 1 (mI M (b + 2) 1)) (b + 5) 0 (a + 5) 0 12) (a + 4) 1 (mI M (b + 4) 1)) = M1 at *
  have pa1 : SPt M1 a := by
    unfold SPt
    refine ⟨?_, ?_, ?_, ?_, ?_, fun j hj => ?_⟩ <;> rw [gR, if_neg (by omega)]
    · exact pa.1
    · exact pa.2.1
    · exact pa.2.2.1
    · exact pa.2.2.2.1
    · exact pa.2.2.2.2.1
    · exact pa.2.2.2.2.2 j hj
  have pb1 : SPt M1 b := by
    unfold SPt
    refine ⟨?_, ?_, ?_, ?_, ?_, fun j hj => ?_⟩ <;> rw [gR, if_neg (by omega)]
    · exact pb.1
    · exact pb.2.1
    · exact pb.2.2.1
    · exact pb.2.2.2.1
    · exact pb.2.2.2.2.1
    · exact pb.2.2.2.2.2 j hj
  refine s_bec5_loop ta tb hab M1 6 0 rfl M1 pa1 pb1 rfl rfl (FM.refl _ _) (fun w2 h => absurd h (Nat.not_lt_zero w2)) (fun M2 hF hL hR hw => h M2 ⟨hF.1.trans hNM, hL.trans hLM, fun x hx => ?_, fun x k hx => ?_, ?_, ?_, ?_, fun j hj => ?_, ?_, fun j hj => ?_, fun w hw2 k hk => ?_⟩)
  · rw [hF.i (by omega)]
    refine funext fun k => ?_
    rw [gI, if_neg (by omega), if_neg (by omega), if_neg (by omega), if_neg (by omega), if_neg (by omega)]
  · rw [hR, gR, if_neg hx]
  · rw [hR, gR, if_pos ⟨rfl, rfl⟩]
  · rw [hF.i (by omega), gI, if_neg (by omega), if_neg (by omega), if_neg (by omega), if_neg (by omega), if_pos ⟨rfl, rfl⟩]
  · rw [hF.i (by omega), gI, if_neg (by omega), if_neg (by omega), if_pos ⟨rfl, rfl⟩]
  · rw [hF.i (by omega), gI, if_neg (by omega), if_neg (by omega), if_neg (by omega), if_pos ⟨rfl, hj⟩]
  · rw [hF.i (by omega), gI, if_pos ⟨rfl, rfl⟩]
  · rw [hF.i (by omega), gI, if_neg (by omega), if_pos ⟨rfl, hj⟩]
  · rw [hw w hw2 k hk, gI, if_neg (by omega), if_neg (by omega), if_neg (by omega), if_neg (by omega), if_neg (by omega)]
/-- the scene that was copied is one -/
theorem Scn_cop {L a b ma mb : Nat} {M1 M2 : MM} (hc : Cop a b M M1) (ta : STy a) (h1 : ∀ x : Nat, a ≤ x → x < a + 12 → mI M2 x = mI M1 x) (h2 : mR M2 a 4 = mR M1 a 4) (h3 : ∀ j : Nat, j < 70 → mI M2 ma j = mI M mb j) (hS : Scn n L M b mb) : Scn n L M2 a ma := by
  obtain ⟨c1, c2, c3, c4, c5, c6, c7, c8, c9, c10, c11⟩ := hc
  obtain ⟨s1, ⟨nw, w1, w2, w3, w4⟩, ⟨r, r1, r2, r3, r4⟩, ⟨t, t1, t2, t3, t4⟩⟩ := hS
  refine ⟨?_, ⟨nw, w1, ?_, ?_, fun w hw => ?_⟩, ⟨r, r1, ?_, ?_, fun j hj => ?_⟩, ⟨t, t1, ?_, ?_, fun j hj => ?_⟩⟩
  · unfold ScnL at s1 ⊢
    rw [h3 1 (by decide), h2, c5]; exact s1
  · rw [h1 a (by omega) (by omega), c6]; exact w2
  · rw [h3 0 (by decide)]; exact w3
  · obtain ⟨kd, v, c, f, bt, gn, cm, q1, q2, q3, q4, q5, q6, q7⟩ := w4 w hw
    refine ⟨kd, v, c, f, bt, gn, cm, q1, q2, q3, q4, q5, ?_, ?_⟩
    · obtain ⟨g1, g2, g3, g4, g5, g6, g7, g8⟩ := q6
      refine ⟨ta.2.2.2.2.2.2 w (by omega), ?_, ?_, ?_, ?_, ?_, ?_, ?_⟩ <;> rw [h1 _ (by omega) (by omega), c11 w (by omega) _ (by decide)] <;> assumption
    · unfold MWs at q7 ⊢
      rw [h3 _ (by omega), h3 _ (by omega), h3 _ (by omega), h3 _ (by omega), h3 _ (by omega), h3 _ (by omega), h3 _ (by omega)]; exact q7
  · rw [h1 _ (by omega) (by omega), c7]; exact r2
  · rw [h3 2 (by decide)]; exact r3
  · obtain ⟨x, g1, g2, g3⟩ := r4 j hj
    exact ⟨x, g1, by rw [h1 _ (by omega) (by omega), c8 j (by omega)]; exact g2, by rw [h3 _ (by omega)]; exact g3⟩
  · rw [h1 _ (by omega) (by omega), c9]; exact t2
  · rw [h3 3 (by decide)]; exact t3
  · obtain ⟨x, g1, g2, g3⟩ := t4 j hj
    exact ⟨x, g1, by rw [h1 _ (by omega) (by omega), c10 j (by omega)]; exact g2, by rw [h3 _ (by omega)]; exact g3⟩
theorem PC_cop {a b : Nat} {M1 : MM} (hc : Cop a b M M1) (hab : a = 33 ∨ a = 45) (hp : PC M) : PC M1 := by
  have hd : ∀ t ∈ ptC, ¬ (t.1 = 33 ∧ t.2.1 = 4) ∧ ¬ (t.1 = 45 ∧ t.2.1 = 4) := by decide
  intro t ht
  have := hd t ht
  rw [hc.2.2.2.1 t.1 t.2.1 (by omega)]; exact hp t ht
theorem Lnd_cop {L a b : Nat} {M1 M2 : MM} (hc : Cop a b M M1) (hab : a = 33 ∨ a = 45) (e0 : mN M2 = mN M1) (e1 : mL M2 = mL M1) (e2 : mR M2 = mR M1) (e3 : ∀ x : Nat, ¬ x = 21 → ¬ x = 82 → ¬ x = 83 → ¬ x = 84 → mI M2 x = mI M1 x) (e4 : mI M2 21 10 = mI M1 21 10) (e5 : mI M2 82 6 = mI M1 82 6) (hL : Lnd L M) : Lnd L M2 := by
  obtain ⟨c1, c2, c3, c4, c5, c6⟩ := hc
  refine Lnd_of (e0.trans c1) (e4.trans (by rw [c3 21 (by omega)])) (e5.trans (by rw [c3 82 (by omega)])) (fun x hx => ⟨?_, ?_, ?_⟩) (fun x hx => ?_) hL
  · rw [e3 x (by omega) (by omega) (by omega) (by omega), c3 x (by omega)]
  · rw [e1, c2]
  · rw [e2]; exact funext fun k => c4 x k (by omega)
  · rw [e3 x (by omega) (by omega) (by omega) (by omega), c3 x (by omega)]
theorem m_image_loop : ∀ m j : Nat, j + m = 70 → ∀ M1 : MM, PM M1 → mI M1 83 = mI M 83 → (∀ x : Nat, x < j → mI M1 84 x = mI M 83 x) → FM (fun a => a = 84) M M1 → mL M1 = mL M → mR M1 = mR M →
    (∀ M' : MM, FM (fun a => a = 84) M M' → mL M' = mL M → mR M' = mR M → (∀ x : Nat, x < 70 → mI M' 84 x = mI M 83 x) → Q (some (.int (mI M' 83 0))) (sI M' 82 2 1)) →
    WP d kX11_image (2, [.ref 82, .int (vI j)], [], M1) Q := by
  intro m
  induction m with
  | zero =>
    intro j hj M1 hp h83 h84 hF hL hR h
    obtain rfl : j = 70 := by omega
    rw [gX11_image_2, if_neg (by decide)]
    refine ⟨by simp only [ty_82], 83, pm_0 hp, by simp only [ty_83], by rw [ty_83]; decide, ?_⟩
    rw [show (0 : Int32).toNatClampNeg = 0 from rfl, rI_sI (by decide)]
    exact h M1 hF hL hR h84
  | succ m ih =>
    intro j hj M1 hp h83 h84 hF hL hR h
    rw [gX11_image_2, if_pos (by rw [lt_nl (by omega) (by decide)]; omega)]
    simp (disch := omega) only [ty_82, pm_0 hp, pm_1 hp, ty_83, ty_84, inb_n, vI_cl, add_nl, true_and, and_true, Option.some.injEq, exists_eq_left']
    refine ⟨by omega, by omega, ?_⟩
    have hF1 : FM (fun a => a = 84) M1 (sI M1 84 j (mI M1 83 j)) := fr_sI rfl
    refine ih (j + 1) (by omega) _ hp (by rw [rI_sI (by decide)]; exact h83) (fun x hx => ?_) (hF.trans hF1) hL hR h
    by_cases e : x = j
    · subst e; rw [aI_sI, h83]
    · rw [bI_sI e]; exact h84 x (by omega)
theorem m_undo_loop : ∀ m j : Nat, j + m = 70 → ∀ M1 : MM, PM M1 → mI M1 84 = mI M 84 → (∀ x : Nat, x < j → mI M1 83 x = mI M 84 x) → FM (fun a => a = 83) M M1 → mL M1 = mL M → mR M1 = mR M →
    (∀ M' : MM, FM (fun a => a = 83) M M' → mL M' = mL M → mR M' = mR M → (∀ x : Nat, x < 70 → mI M' 83 x = mI M 84 x) → Q (some (.int (mI M' 83 0))) M') →
    WP d kX11_undo (12, [.ref 82, .int (vI j)], [], M1) Q := by
  intro m
  induction m with
  | zero =>
    intro j hj M1 hp h83 h84 hF hL hR h
    obtain rfl : j = 70 := by omega
    rw [gX11_undo_12, if_neg (by decide)]
    exact ⟨by simp only [ty_82], 83, pm_0 hp, by simp only [ty_83], by rw [ty_83]; decide, h M1 hF hL hR h84⟩
  | succ m ih =>
    intro j hj M1 hp h83 h84 hF hL hR h
    rw [gX11_undo_12, if_pos (by rw [lt_nl (by omega) (by decide)]; omega)]
    simp (disch := omega) only [ty_82, pm_0 hp, pm_1 hp, ty_83, ty_84, inb_n, vI_cl, add_nl, true_and, and_true, Option.some.injEq, exists_eq_left']
    refine ⟨by omega, by omega, ?_⟩
    have hF1 : FM (fun a => a = 83) M1 (sI M1 83 j (mI M1 84 j)) := fr_sI rfl
    refine ih (j + 1) (by omega) _ hp (by rw [rI_sI (by decide)]; exact h83) (fun x hx => ?_) (hF.trans hF1) hL hR h
    by_cases e : x = j
    · subst e; rw [aI_sI, h83]
    · rw [bI_sI e]; exact h84 x (by omega)
theorem p_image (hI : INV MZ n M) : PRI MZ (d + 12) n kX10_image kX11_image [] M := by
  have hp := hI.1
  have hpm := hI.2.1
  obtain ⟨i1, i2, i3, i4, ⟨L, i5, i6, ⟨b, b1, b2, b3⟩⟩, i8, i9, i10⟩ := INV_mono hI
  unfold PRI
  rw [eX10_image]
  simp only [ty_21, pc_21_1 hp, pc_21_2 hp, ty_45, rf_some, true_and, and_true, Option.some.injEq, exists_eq_left']
  refine s_bec5 STy_45 STy_33 (by omega) (SPt_45 hp) (SPt_33 hp) (fun M1 hc => ?_)
  obtain ⟨c1, c2, c3, c4, c5, c6, c7⟩ := id hc
  have hp1 := PC_cop hc (by omega) hp
  simp only [Option.toList_some, Option.toList_none, List.cons_append, List.nil_append]
  rw [gX10_image_11]
  simp only [ty_21, pc_21_1 hp1, ty_33, true_and, and_true, Option.some.injEq, exists_eq_left']
  rw [rI_sI (by decide)]
  refine ⟨_, rfl, ?_⟩
  have hpm1 : PM (sI M1 21 11 1) := fun t ht => by
    show mR M1 82 t.1 = _
    rw [c4 82 t.1 (by omega)]; exact hpm t ht
  rw [eX11_image, show (0 : Int32) = vI 0 from rfl]
  refine m_image_loop (M := sI M1 21 11 1) 70 0 rfl _ hpm1 rfl (fun x hx => absurd hx (Nat.not_lt_zero x)) (FM.refl _ _) rfl rfl (fun M2 hF hL hR h84 => ?_)
  have r : ∀ x : Nat, ¬ x = 84 → mI M2 x = mI (sI M1 21 11 1) x := fun x hx => hF.i hx
  have r2 : ∀ x : Nat, ¬ x = 84 → ¬ x = 21 → mI M2 x = mI M1 x := fun x hx h21 => by rw [r x hx, rI_sI h21]
  have r3 : ∀ x : Nat, ¬ x = 84 → ¬ x = 21 → ¬ (45 ≤ x ∧ x < 57) → mI M2 x = mI M x := fun x hx h21 h45 => by rw [r2 x hx h21, c3 x (by omega)]
  have rR : ∀ x k : Nat, ¬ (x = 45 ∧ k = 4) → mR M2 x k = mR M x k := fun x k hx => by rw [hR]; exact c4 x k hx
  refine ⟨?_, ?_⟩
  · rw [r2 83 (by decide) (by decide), c3 83 (by omega), c3 33 (by omega)]
    obtain ⟨nw, q1, q2, q3, q4⟩ := i6.2.1
    rw [q2, q3]
  · have s3 : ∀ x : Nat, ¬ x = 82 → mI (sI M2 82 2 1) x = mI M2 x := fun x hx => rI_sI hx
    refine ⟨fun t ht => ?_, fun t ht => ?_, SOK_r (fun a ha => ?_) i3, fun a ha => ⟨?_, ?_⟩, ⟨L, Lnd_cop hc (by omega) ?_ ?_ ?_ (fun x h1 h2 h3 h4 => ?_) ?_ ?_ i5, Scn_ag (fun x h1 h2 => ⟨?_, funext fun k => ?_⟩) ?_ i6, true, ?_, ?_, fun _ => ?_⟩, Txt_ag ?_ ?_ ?_ ?_ i8, Bod_ag ?_ ?_ ?_ ?_ i9, Tap_ag (fun a ha => ⟨?_, ?_⟩) i10⟩
    · show mR M2 t.1 t.2.1 = _
      rw [hR]; exact hp1 t ht
    · show mR M2 82 t.1 = _
      rw [hR]; exact hpm1 t ht
    · show mR M2 a = mR M a
      exact funext fun k => rR a k (by omega)
    · rw [s3 a (by omega), r3 a (by omega) (by omega) (by omega)]; exact (i4 a ha).1
    · show mR M2 a = _
      rw [← (i4 a ha).2]
      exact funext fun k => rR a k (by omega)
    · exact hF.1
    · exact hL
    · exact hR
    · rw [s3 x h2, r2 x h4 h1]
    · rw [s3 21 (by decide), r 21 (by decide), xI_sI (by decide)]
    · rw [xI_sI (by decide), r2 82 (by decide) (by decide)]
    · rw [s3 x (by omega), r3 x (by omega) (by omega) (by omega)]
    · exact rR x k (by omega)
    · rw [s3 83 (by decide), r3 83 (by decide) (by decide) (by omega)]
    · rw [s3 21 (by decide), r 21 (by decide), aI_sI]; rfl
    · rw [aI_sI]; rfl
    · refine Scn_cop hc STy_45 (fun x h1 h2 => ?_) ?_ (fun j hj => ?_) i6
      · rw [s3 x (by omega), r2 x (by omega) (by omega)]
      · show mR M2 45 4 = _
        rw [hR]; rfl
      · rw [s3 84 (by decide), h84 j hj, xI_sI (by omega), c3 83 (by omega)]
    · rw [s3 22 (by decide), r3 22 (by decide) (by decide) (by omega)]
    · rw [xI_sI (by decide), r3 82 (by decide) (by decide) (by omega)]
    · rw [s3 23 (by decide), r3 23 (by decide) (by decide) (by omega)]
    · rw [s3 88 (by decide), r3 88 (by decide) (by decide) (by omega)]
    · rw [s3 26 (by decide), r3 26 (by decide) (by decide) (by omega)]
    · rw [xI_sI (by decide), r3 82 (by decide) (by decide) (by omega)]
    · rw [s3 27 (by decide), r3 27 (by decide) (by decide) (by omega)]
    · rw [s3 96 (by decide), r3 96 (by decide) (by decide) (by omega)]
    · rw [s3 a (by omega), r3 a (by omega) (by omega) (by omega)]
    · show mL M2 a = _
      rw [hL]; show mL M1 a = _; rw [c2]
theorem p_undo (hI : INV MZ n M) : PRI MZ (d + 12) n kX10_undo kX11_undo [] M := by
  have hp := hI.1
  have hpm := hI.2.1
  have hI1 := INV_mono hI
  obtain ⟨i1, i2, i3, i4, ⟨L, i5, i6, ⟨b, b1, b2, b3⟩⟩, i8, i9, i10⟩ := INV_mono hI
  unfold PRI
  rw [eX10_undo, b1]
  refine ⟨by simp only [ty_21], ?_⟩
  cases b with
  | false =>
    rw [if_pos (by decide)]
    refine ⟨_, rfl, ?_⟩
    rw [eX11_undo, b2]
    refine ⟨by simp only [ty_82], ?_⟩
    rw [if_pos (by decide)]
    exact ⟨rfl, hI1⟩
  | true =>
  rw [if_neg (by decide)]
  have hsc := b3 rfl
  refine ⟨33, pc_21_1 hp, by simp only [ty_33], ?_⟩
  rw [pc_21_2 hp, rf_some]
  refine s_bec5 STy_33 STy_45 (by omega) (SPt_33 hp) (SPt_45 hp) (fun M1 hc => ?_)
  obtain ⟨c1, c2, c3, c4, c5, c6, c7⟩ := id hc
  have hp1 := PC_cop hc (by omega) hp
  simp only [Option.toList_some, Option.toList_none, List.cons_append, List.nil_append]
  rw [gX10_undo_21]
  simp only [ty_21, pc_21_1 hp1, ty_33, true_and, and_true, Option.some.injEq, exists_eq_left']
  refine ⟨_, rfl, ?_⟩
  have hpm1 : PM M1 := fun t ht => by rw [c4 82 t.1 (by omega)]; exact hpm t ht
  rw [eX11_undo, c3 82 (by omega), b2]
  refine ⟨by simp only [ty_82], ?_⟩
  rw [if_neg (by decide), show (0 : Int32) = vI 0 from rfl]
  refine m_undo_loop (M := M1) 70 0 rfl _ hpm1 rfl (fun x hx => absurd hx (Nat.not_lt_zero x)) (FM.refl _ _) rfl rfl (fun M2 hF hL hR h83 => ?_)
  have r2 : ∀ x : Nat, ¬ x = 83 → mI M2 x = mI M1 x := fun x hx => hF.i hx
  have r3 : ∀ x : Nat, ¬ x = 83 → ¬ (33 ≤ x ∧ x < 45) → mI M2 x = mI M x := fun x hx h45 => by rw [r2 x hx, c3 x (by omega)]
  have rR : ∀ x k : Nat, ¬ (x = 33 ∧ k = 4) → mR M2 x k = mR M x k := fun x k hx => by rw [hR]; exact c4 x k hx
  refine ⟨?_, ?_⟩
  · rw [h83 0 (by decide), c3 84 (by omega), c6]
    obtain ⟨nw, q1, q2, q3, q4⟩ := hsc.2.1
    rw [q2, q3]
  · refine ⟨fun t ht => ?_, fun t ht => ?_, SOK_r (fun a ha => ?_) i3, fun a ha => ⟨?_, ?_⟩, ⟨L, Lnd_cop hc (by omega) ?_ ?_ ?_ (fun x h1 h2 h3 h4 => ?_) ?_ ?_ i5, ?_, true, ?_, ?_, fun _ => Scn_ag (fun x h1 h2 => ⟨?_, funext fun k => ?_⟩) ?_ hsc⟩, Txt_ag ?_ ?_ ?_ ?_ i8, Bod_ag ?_ ?_ ?_ ?_ i9, Tap_ag (fun a ha => ⟨?_, ?_⟩) i10⟩
    · rw [hR]; exact hp1 t ht
    · rw [hR]; exact hpm1 t ht
    · exact funext fun k => rR a k (by omega)
    · rw [r3 a (by omega) (by omega)]; exact (i4 a ha).1
    · rw [← (i4 a ha).2]
      exact funext fun k => rR a k (by omega)
    · exact hF.1
    · exact hL
    · exact hR
    · rw [r2 x h3]
    · rw [r2 21 (by decide)]
    · rw [r2 82 (by decide)]
    · refine Scn_cop hc STy_33 (fun x h1 h2 => ?_) ?_ (fun j hj => ?_) hsc
      · rw [r2 x (by omega)]
      · rw [hR]
      · rw [h83 j hj, c3 84 (by omega)]
    · rw [r3 21 (by decide) (by omega)]; exact b1
    · rw [r3 82 (by decide) (by omega)]; exact b2
    · rw [r3 x (by omega) (by omega)]
    · exact rR x k (by omega)
    · rw [r3 84 (by decide) (by omega)]
    · rw [r3 22 (by decide) (by omega)]
    · rw [r3 82 (by decide) (by omega)]
    · rw [r3 23 (by decide) (by omega)]
    · rw [r3 88 (by decide) (by omega)]
    · rw [r3 26 (by decide) (by omega)]
    · rw [r3 82 (by decide) (by omega)]
    · rw [r3 27 (by decide) (by omega)]
    · rw [r3 96 (by decide) (by omega)]
    · rw [r3 a (by omega) (by omega)]
    · rw [hL, c2]
end Image
