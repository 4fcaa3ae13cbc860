/-! ===== 56: act on both sides ===== -/
/-- one more body in a trace -/
def bg (a k q : Nat) (M : MM) (r : Nat) (z : Int32) : MM := sI (if r < 20 then sI M q r z else M) a k (vI (r + 1))
def ac (a k q : Nat) : MM → Nat → List Int32 → MM
  | M, _, [] => M
  | M, r, z :: l => ac a k q (bg a k q M r z) (r + 1) l
theorem ac_app (a k q : Nat) : ∀ (l1 l2 : List Int32) (M : MM) (r : Nat), ac a k q M r (l1 ++ l2) = ac a k q (ac a k q M r l1) (r + l1.length) l2
  | [], l2, M, r => rfl
  | z :: l1, l2, M, r => by
    show ac a k q (bg a k q M r z) (r + 1) (l1 ++ l2) = ac a k q (ac a k q (bg a k q M r z) (r + 1) l1) (r + (l1.length + 1)) l2
    rw [ac_app a k q l1 l2, show r + 1 + l1.length = r + (l1.length + 1) by omega]
theorem bg_I {a k q : Nat} (haq : ¬ a = q) (M : MM) (r : Nat) (z : Int32) (b j : Nat) : mI (bg a k q M r z) b j = if b = a ∧ j = k then vI (r + 1) else if b = q ∧ j = r ∧ r < 20 then z else mI M b j := by
  unfold bg
  rw [mI_sI]
  by_cases h1 : b = a ∧ j = k
  · rw [if_pos h1, if_pos h1]
  · rw [if_neg h1, if_neg h1]
    by_cases h : r < 20
    · rw [if_pos h, mI_sI]
      by_cases h2 : b = q ∧ j = r
      · rw [if_pos h2, if_pos ⟨h2.1, h2.2, h⟩]
      · rw [if_neg h2, if_neg (fun h3 => h2 ⟨h3.1, h3.2.1⟩)]
    · rw [if_neg h, if_neg (fun h3 => h h3.2.2)]
theorem bg_2 (a k q : Nat) (M : MM) (r : Nat) (z : Int32) : (bg a k q M r z).2 = M.2 := by
  unfold bg
  by_cases h : r < 20
  · rw [if_pos h]; rfl
  · rw [if_neg h]; rfl
theorem ac_2 (a k q : Nat) : ∀ (l : List Int32) (M : MM) (r : Nat), (ac a k q M r l).2 = M.2
  | [], _, _ => rfl
  | z :: l, M, r => by
    show (ac a k q (bg a k q M r z) (r + 1) l).2 = _
    rw [ac_2 a k q l, bg_2]
theorem ac_I {a k q : Nat} (haq : ¬ a = q) : ∀ (l : List Int32) (M : MM) (r b j : Nat), ¬ (b = a ∧ j = k) → ¬ b = q → mI (ac a k q M r l) b j = mI M b j
  | [], _, _, _, _, _, _ => rfl
  | z :: l, M, r, b, j, h1, h2 => by
    show mI (ac a k q (bg a k q M r z) (r + 1) l) b j = _
    rw [ac_I haq l _ _ b j h1 h2, bg_I haq, if_neg h1, if_neg (fun h => h2 h.1)]
theorem ac_k {a k q : Nat} (haq : ¬ a = q) : ∀ (l : List Int32) (M : MM) (r : Nat), mI M a k = vI r → mI (ac a k q M r l) a k = vI (r + l.length)
  | [], _, _, h => h
  | z :: l, M, r, _ => by
    show mI (ac a k q (bg a k q M r z) (r + 1) l) a k = vI (r + (l.length + 1))
    rw [ac_k haq l _ (r + 1) (by rw [bg_I haq, if_pos ⟨rfl, rfl⟩]), show r + 1 + l.length = r + (l.length + 1) by omega]
theorem ac_q {a k q : Nat} (haq : ¬ a = q) : ∀ (l : List Int32) (M : MM) (r j : Nat), j < 20 → mI (ac a k q M r l) q j = if r ≤ j ∧ j < r + l.length then l.getD (j - r) 0 else mI M q j
  | [], M, r, j, _ => by rw [if_neg (by show ¬ (r ≤ j ∧ j < r + 0); omega)]; rfl
  | z :: l, M, r, j, hj => by
    show mI (ac a k q (bg a k q M r z) (r + 1) l) q j = if r ≤ j ∧ j < r + (l.length + 1) then (z :: l).getD (j - r) 0 else mI M q j
    rw [ac_q haq l _ _ j hj, bg_I haq, if_neg (fun h : q = a ∧ j = k => haq h.1.symm)]
    by_cases h1 : r + 1 ≤ j ∧ j < r + 1 + l.length
    · rw [if_pos h1, if_pos (by omega), show j - r = (j - (r + 1)) + 1 by omega]; rfl
    · rw [if_neg h1]
      by_cases h2 : j = r
      · subst h2
        rw [if_pos ⟨rfl, rfl, hj⟩, if_pos (by omega), Nat.sub_self]; rfl
      · rw [if_neg (fun h => h2 h.2.1), if_neg (by omega)]
/-- the bodies: what one answers and which ran -/
def stb (num v : Int32) (k : Nat) (x : Int32) : Int32 × List Int32 :=
  if k = 2 ∨ k = 5 then (x * 3 + num, [30, 10]) else if k = 4 then (-(x + num), [50, 10]) else if k = 6 then ((x + num) ^^^ v, [71, 10]) else (x + num, [10])
def tn0 (num v : Int32) (kd : Nat) (x : Int32) : Int32 × List Int32 := ((stb num v kd x).1 - v, 11 :: (stb num v kd x).2)
def trn (num v : Int32) (kd k : Nat) (x : Int32) : Int32 × List Int32 :=
  if k = 1 then ((tn0 num v kd x).1 ^^^ 6, 20 :: (tn0 num v kd x).2) else if k = 4 then ((tn0 num v kd (x + 1)).1 ^^^ 6, 51 :: 20 :: (tn0 num v kd (x + 1)).2) else if k = 6 then ((tn0 num v kd x).1 + (2 + num), 70 :: ((tn0 num v kd x).2 ++ [10])) else tn0 num v kd x
def tl0 (num v : Int32) (kd : Nat) (x : Int32) : Int32 × List Int32 := ((trn num v kd kd x).1 * 2, 12 :: (trn num v kd kd x).2)
def tll (num v : Int32) (kd k : Nat) (x : Int32) : Int32 × List Int32 :=
  if k = 3 ∨ k = 6 then ((tl0 num v kd x).1 + (trn num v kd kd 1).1, 40 :: ((tl0 num v kd x).2 ++ (trn num v kd kd 1).2)) else if k = 5 then ((tl0 num v kd (x - num)).1, 60 :: (tl0 num v kd (x - num)).2) else tl0 num v kd x
theorem stb_l (num v : Int32) (k : Nat) (x : Int32) : (stb num v k x).2.length ≤ 2 := by
  unfold stb; split
  · show 2 ≤ 2; omega
  · split
    · show 2 ≤ 2; omega
    · split
      · show 2 ≤ 2; omega
      · show 1 ≤ 2; omega
theorem tn0_l (num v : Int32) (kd : Nat) (x : Int32) : (tn0 num v kd x).2.length ≤ 3 := by
  have := stb_l num v kd x
  show (stb num v kd x).2.length + 1 ≤ 3
  omega
theorem trn_l (num v : Int32) (kd k : Nat) (x : Int32) : (trn num v kd k x).2.length ≤ 5 := by
  have h1 := tn0_l num v kd x
  have h2 := tn0_l num v kd (x + 1)
  unfold trn; split
  · show (tn0 num v kd x).2.length + 1 ≤ 5; omega
  · split
    · show (tn0 num v kd (x + 1)).2.length + 1 + 1 ≤ 5; omega
    · split
      · show ((tn0 num v kd x).2 ++ [10]).length + 1 ≤ 5
        rw [List.length_append]; show (tn0 num v kd x).2.length + 1 + 1 ≤ 5; omega
      · omega
theorem tl0_l (num v : Int32) (kd : Nat) (x : Int32) : (tl0 num v kd x).2.length ≤ 6 := by
  have := trn_l num v kd kd x
  show (trn num v kd kd x).2.length + 1 ≤ 6
  omega
theorem tll_l (num v : Int32) (kd k : Nat) (x : Int32) : (tll num v kd k x).2.length ≤ 12 := by
  have h1 := tl0_l num v kd x
  have h2 := tl0_l num v kd (x - num)
  have h3 := trn_l num v kd kd 1
  unfold tll; split
  · show ((tl0 num v kd x).2 ++ (trn num v kd kd 1).2).length + 1 ≤ 12
    rw [List.length_append]; omega
  · split
    · show (tl0 num v kd (x - num)).2.length + 1 ≤ 12; omega
    · omega
section ActC
variable {M : MM} {d : Nat} {Q : Option Value → MM → Prop} {num v : Int32} {kd r : Nat}
def CC (M : MM) (r kd : Nat) (v num : Int32) : Prop := mR M 26 0 = some 27 ∧ mI M 26 1 = vI r ∧ mI M 26 2 = vI kd ∧ mI M 26 3 = v ∧ mI M 26 4 = num
theorem CC_ac (hC : CC M r kd v num) (l : List Int32) : CC (ac 26 1 27 M r l) (r + l.length) kd v num := by
  obtain ⟨c1, c2, c3, c4, c5⟩ := hC
  refine ⟨?_, ac_k (by decide) l M r c2, ?_, ?_, ?_⟩
  · show (ac 26 1 27 M r l).2.2.1 26 0 = _
    rw [ac_2]; exact c1
  · rw [ac_I (by decide) l M r 26 2 (by decide) (by decide)]; exact c3
  · rw [ac_I (by decide) l M r 26 3 (by decide) (by decide)]; exact c4
  · rw [ac_I (by decide) l M r 26 4 (by decide) (by decide)]; exact c5
theorem CC_bg (hC : CC M r kd v num) (z : Int32) : CC (bg 26 1 27 M r z) (r + 1) kd v num := CC_ac hC [z]
theorem s_begins (hC : CC M r kd v num) (hr : r < 2000) (z : Int32) : CL d kX0_begins [.ref 26, .int z] M Q = Q none (bg 26 1 27 M r z) := by
  obtain ⟨c1, c2, c3, c4, c5⟩ := hC
  rw [eX0_begins, c2, if_neg (by rw [vI_neg (by omega)]; exact id)]
  unfold bg
  by_cases h : r < 20
  · rw [if_pos (by rw [lt_nl (by omega) (by decide)]; exact h), if_pos h]
    simp only [ty_26, c1, ty_27, true_and, and_true, Option.some.injEq, exists_eq_left']
    rw [inb_n (by omega), vI_cl (by omega), rI_sI (by decide), c2, add_nl]
    exact propext ⟨fun h => h.2, fun h2 => ⟨h, h2⟩⟩
  · rw [if_neg (by rw [lt_nl (by omega) (by decide)]; exact h), if_neg h, add_nl]
    simp only [ty_26, true_and]
theorem s_p10 (hC : CC M r kd v num) (hr : r < 2000) (x : Int32) : CL (d + 1) kX0_plainSteps [.ref 26, .int x] M Q = Q (some (.int (x + num))) (bg 26 1 27 M r 10) := by
  rw [eX0_plainSteps, s_begins hC hr]
  simp only [ty_26, true_and, Option.toList_some, Option.toList_none, List.cons_append, List.nil_append]
  rw [gX0_plainSteps_6, (CC_bg hC 10).2.2.2.2]
  simp only [ty_26, true_and]
theorem s_stb (hkd : kd < 7) (hC : CC M r kd v num) (hr : r < 1990) (x : Int32) : CL (d + 2) kX0_steps [.ref 26, .int x] M Q = Q (some (.int (stb num v kd x).1)) (ac 26 1 27 M r (stb num v kd x).2) := by
  have h7 : kd = 0 ∨ kd = 1 ∨ kd = 2 ∨ kd = 3 ∨ kd = 4 ∨ kd = 5 ∨ kd = 6 := by omega
  rw [eX0_steps, hC.2.2.1]
  rcases h7 with rfl | rfl | rfl | rfl | rfl | rfl | rfl
  · rw [if_neg (by decide), if_neg (by decide), if_neg (by decide), if_neg (by decide), if_neg (by decide), s_p10 hC (by omega)]
    simp only [ty_26, true_and, Option.toList_some, Option.toList_none, List.cons_append, List.nil_append]
    rw [gX0_steps_89]
    rfl
  · rw [if_neg (by decide), if_neg (by decide), if_neg (by decide), if_neg (by decide), if_neg (by decide), s_p10 hC (by omega)]
    simp only [ty_26, true_and, Option.toList_some, Option.toList_none, List.cons_append, List.nil_append]
    rw [gX0_steps_89]
    rfl
  · rw [if_pos (by decide), s_begins hC (by omega)]
    simp only [ty_26, true_and, Option.toList_some, Option.toList_none, List.cons_append, List.nil_append]
    rw [gX0_steps_46, s_p10 (CC_bg hC 30) (by omega)]
    simp only [ty_26, true_and, Option.toList_some, Option.toList_none, List.cons_append, List.nil_append]
    rw [gX0_steps_53]
    rfl
  · rw [if_neg (by decide), if_pos (by decide), s_p10 hC (by omega)]
    simp only [ty_26, true_and, Option.toList_some, Option.toList_none, List.cons_append, List.nil_append]
    rw [gX0_steps_89]
    rfl
  · rw [if_neg (by decide), if_neg (by decide), if_pos (by decide), s_begins hC (by omega)]
    simp only [ty_26, true_and, Option.toList_some, Option.toList_none, List.cons_append, List.nil_append]
    rw [gX0_steps_60, s_p10 (CC_bg hC 50) (by omega)]
    simp only [ty_26, true_and, Option.toList_some, Option.toList_none, List.cons_append, List.nil_append]
    rw [gX0_steps_65]
    rfl
  · rw [if_neg (by decide), if_neg (by decide), if_neg (by decide), if_pos (by decide), s_begins hC (by omega)]
    simp only [ty_26, true_and, Option.toList_some, Option.toList_none, List.cons_append, List.nil_append]
    rw [gX0_steps_46, s_p10 (CC_bg hC 30) (by omega)]
    simp only [ty_26, true_and, Option.toList_some, Option.toList_none, List.cons_append, List.nil_append]
    rw [gX0_steps_53]
    rfl
  · rw [if_neg (by decide), if_neg (by decide), if_neg (by decide), if_neg (by decide), if_pos (by decide), s_begins hC (by omega)]
    simp only [ty_26, true_and, Option.toList_some, Option.toList_none, List.cons_append, List.nil_append]
    rw [gX0_steps_73, s_p10 (CC_bg hC 71) (by omega)]
    simp only [ty_26, true_and, Option.toList_some, Option.toList_none, List.cons_append, List.nil_append]
    rw [gX0_steps_78, (CC_bg (CC_bg hC 71) 10).2.2.2.1]
    simp only [ty_26, true_and]
    rfl
theorem s_p11 (hkd : kd < 7) (hC : CC M r kd v num) (hr : r < 1980) (x : Int32) : CL (d + 3) kX0_plainTurns [.ref 26, .int x] M Q = Q (some (.int (tn0 num v kd x).1)) (ac 26 1 27 M r (tn0 num v kd x).2) := by
  have hC1 := CC_bg hC 11
  rw [eX0_plainTurns, s_begins hC (by omega)]
  simp only [ty_26, true_and, Option.toList_some, Option.toList_none, List.cons_append, List.nil_append]
  rw [gX0_plainTurns_6, s_stb hkd hC1 (by omega)]
  simp only [ty_26, true_and, Option.toList_some, Option.toList_none, List.cons_append, List.nil_append]
  rw [gX0_plainTurns_11, (CC_ac hC1 _).2.2.2.1]
  simp only [ty_26, true_and]
  rfl
theorem s_trn (hkd : kd < 7) (hC : CC M r kd v num) (hr : r < 1960) (x : Int32) : CL (d + 4) kX0_turns [.ref 26, .int x] M Q = Q (some (.int (trn num v kd kd x).1)) (ac 26 1 27 M r (trn num v kd kd x).2) := by
  have h7 : kd = 0 ∨ kd = 1 ∨ kd = 2 ∨ kd = 3 ∨ kd = 4 ∨ kd = 5 ∨ kd = 6 := by omega
  have h11 : ¬ kd = 1 → ¬ kd = 4 → ¬ kd = 6 → CL (d + 4) kX0_turns [.ref 26, .int x] M Q = Q (some (.int (tn0 num v kd x).1)) (ac 26 1 27 M r (tn0 num v kd x).2) := fun h1 h4 h6 => by
    rw [eX0_turns, hC.2.2.1, if_neg (c := vI kd = 1) (fun e => h1 ((vI_inj (by omega) (by decide)).mp (show vI kd = vI 1 from e))), if_neg (c := vI kd = 4) (fun e => h4 ((vI_inj (by omega) (by decide)).mp (show vI kd = vI 4 from e))), if_neg (c := vI kd = 6) (fun e => h6 ((vI_inj (by omega) (by decide)).mp (show vI kd = vI 6 from e))), s_p11 hkd hC (by omega)]
    simp only [ty_26, true_and, Option.toList_some, Option.toList_none, List.cons_append, List.nil_append]
    rw [gX0_turns_103]
  rcases h7 with rfl | rfl | rfl | rfl | rfl | rfl | rfl
  · rw [h11 (by decide) (by decide) (by decide)]; rfl
  · rw [eX0_turns, hC.2.2.1, if_pos (by decide), s_begins hC (by omega)]
    simp only [ty_26, true_and, Option.toList_some, Option.toList_none, List.cons_append, List.nil_append]
    rw [gX0_turns_46, s_p11 hkd (CC_bg hC 20) (by omega)]
    simp only [ty_26, true_and, Option.toList_some, Option.toList_none, List.cons_append, List.nil_append]
    rw [gX0_turns_51]
    rfl
  · rw [h11 (by decide) (by decide) (by decide)]; rfl
  · rw [h11 (by decide) (by decide) (by decide)]; rfl
  · rw [eX0_turns, hC.2.2.1, if_neg (by decide), if_pos (by decide), s_begins hC (by omega)]
    simp only [ty_26, true_and, Option.toList_some, Option.toList_none, List.cons_append, List.nil_append]
    rw [gX0_turns_61, s_begins (CC_bg hC 51) (by omega)]
    simp only [ty_26, true_and, Option.toList_some, Option.toList_none, List.cons_append, List.nil_append]
    rw [gX0_turns_67, s_p11 hkd (CC_bg (CC_bg hC 51) 20) (by omega)]
    simp only [ty_26, true_and, Option.toList_some, Option.toList_none, List.cons_append, List.nil_append]
    rw [gX0_turns_74]
    rfl
  · rw [h11 (by decide) (by decide) (by decide)]; rfl
  · have hC1 := CC_bg hC 70
    have hl := tn0_l num v 6 x
    rw [eX0_turns, hC.2.2.1, if_neg (by decide), if_neg (by decide), if_pos (by decide), s_begins hC (by omega)]
    simp only [ty_26, true_and, Option.toList_some, Option.toList_none, List.cons_append, List.nil_append]
    rw [gX0_turns_84, s_p11 hkd hC1 (by omega)]
    simp only [ty_26, true_and, Option.toList_some, Option.toList_none, List.cons_append, List.nil_append]
    rw [gX0_turns_89, s_p10 (CC_ac hC1 (tn0 num v 6 x).2) (by omega)]
    simp only [ty_26, true_and, Option.toList_some, Option.toList_none, List.cons_append, List.nil_append]
    rw [gX0_turns_96]
    show _ = Q (some (.int ((tn0 num v 6 x).1 + (2 + num)))) (ac 26 1 27 (bg 26 1 27 M r 70) (r + 1) ((tn0 num v 6 x).2 ++ [10]))
    rw [ac_app]
    rfl
theorem s_p12 (hkd : kd < 7) (hC : CC M r kd v num) (hr : r < 1950) (x : Int32) : CL (d + 5) kX0_plainTells [.ref 26, .int x] M Q = Q (some (.int (tl0 num v kd x).1)) (ac 26 1 27 M r (tl0 num v kd x).2) := by
  have hC1 := CC_bg hC 12
  rw [eX0_plainTells, s_begins hC (by omega)]
  simp only [ty_26, true_and, Option.toList_some, Option.toList_none, List.cons_append, List.nil_append]
  rw [gX0_plainTells_6, s_trn hkd hC1 (by omega)]
  simp only [ty_26, true_and, Option.toList_some, Option.toList_none, List.cons_append, List.nil_append]
  rw [gX0_plainTells_11]
  rfl
theorem s_tl3 (hkd : kd < 7) (hC : CC M r kd v num) (hr : r < 1940) (x : Int32) : WP (d + 6) kX0_tells (42, [.ref 26, .int x, dm], [], bg 26 1 27 M r 40) Q = Q (some (.int ((tl0 num v kd x).1 + (trn num v kd kd 1).1))) (ac 26 1 27 M r (40 :: ((tl0 num v kd x).2 ++ (trn num v kd kd 1).2))) := by
  have hC1 := CC_bg hC 40
  have hl := tl0_l num v kd x
  have hC2 := CC_ac hC1 (tl0 num v kd x).2
  rw [gX0_tells_42, s_p12 hkd hC1 (by omega)]
  simp only [ty_26, true_and, Option.toList_some, Option.toList_none, List.cons_append, List.nil_append]
  rw [gX0_tells_47, s_trn hkd hC2 (by omega)]
  simp only [ty_26, true_and, Option.toList_some, Option.toList_none, List.cons_append, List.nil_append]
  rw [gX0_tells_54]
  show _ = Q _ (ac 26 1 27 (bg 26 1 27 M r 40) (r + 1) ((tl0 num v kd x).2 ++ (trn num v kd kd 1).2))
  rw [ac_app]
theorem s_tll (hkd : kd < 7) (hC : CC M r kd v num) (hr : r < 1940) (x : Int32) : CL (d + 6) kX0_tells [.ref 26, .int x] M Q = Q (some (.int (tll num v kd kd x).1)) (ac 26 1 27 M r (tll num v kd kd x).2) := by
  have h7 : kd = 0 ∨ kd = 1 ∨ kd = 2 ∨ kd = 3 ∨ kd = 4 ∨ kd = 5 ∨ kd = 6 := by omega
  have h12 : ¬ kd = 3 → ¬ kd = 5 → ¬ kd = 6 → CL (d + 6) kX0_tells [.ref 26, .int x] M Q = Q (some (.int (tl0 num v kd x).1)) (ac 26 1 27 M r (tl0 num v kd x).2) := fun h3 h5 h6 => by
    rw [eX0_tells, hC.2.2.1, if_neg (c := vI kd = 3) (fun e => h3 ((vI_inj (by omega) (by decide)).mp (show vI kd = vI 3 from e))), if_neg (c := vI kd = 5) (fun e => h5 ((vI_inj (by omega) (by decide)).mp (show vI kd = vI 5 from e))), if_neg (c := vI kd = 6) (fun e => h6 ((vI_inj (by omega) (by decide)).mp (show vI kd = vI 6 from e))), ite_self, s_p12 hkd hC (by omega)]
    simp only [ty_26, true_and, Option.toList_some, Option.toList_none, List.cons_append, List.nil_append]
    rw [gX0_tells_78]
  rcases h7 with rfl | rfl | rfl | rfl | rfl | rfl | rfl
  · rw [h12 (by decide) (by decide) (by decide)]; rfl
  · rw [h12 (by decide) (by decide) (by decide)]; rfl
  · rw [h12 (by decide) (by decide) (by decide)]; rfl
  · rw [eX0_tells, hC.2.2.1, if_pos (by decide), s_begins hC (by omega)]
    simp only [ty_26, true_and, Option.toList_some, Option.toList_none, List.cons_append, List.nil_append]
    rw [s_tl3 hkd hC hr]
    rfl
  · rw [h12 (by decide) (by decide) (by decide)]; rfl
  · have hC1 := CC_bg hC 60
    rw [eX0_tells, hC.2.2.1, if_neg (by decide), if_neg (by decide), if_pos (by decide), s_begins hC (by omega)]
    simp only [ty_26, true_and, Option.toList_some, Option.toList_none, List.cons_append, List.nil_append]
    rw [gX0_tells_62, hC1.2.2.2.2, s_p12 hkd hC1 (by omega)]
    simp only [ty_26, true_and, Option.toList_some, Option.toList_none, List.cons_append, List.nil_append]
    rw [gX0_tells_72]
    rfl
  · rw [eX0_tells, hC.2.2.1, if_neg (by decide), if_neg (by decide), if_neg (by decide), if_pos (by decide), s_begins hC (by omega)]
    simp only [ty_26, true_and, Option.toList_some, Option.toList_none, List.cons_append, List.nil_append]
    rw [s_tl3 hkd hC hr]
    rfl
end ActC
/- the reference's -/
def hbB (a k : Nat) : Bool := k == 0 || (if a = 0 then k == 2 || k == 4 || k == 6 else if a = 1 then k == 1 || k == 4 || k == 6 else k == 3 || k == 5)
/-- whose body of an act a kind has -/
def fnd (a : Nat) : Nat → Nat → Nat
  | 0, k => k
  | m + 1, k => if hbB a k = true then k else fnd a m (abv k)
section ActM
variable {M : MM} {d : Nat} {Q : Option Value → MM → Prop} {v w : Nat} {kd r : Nat}
def CM (M : MM) (r kd v w : Nat) : Prop := PM M ∧ mI M 82 28 = vI r ∧ mI M 82 29 = vI w ∧ mI M 83 (4 + 7 * w + 0) = vI kd ∧ mI M 83 (4 + 7 * w + 1) = vI v
theorem CM_ac (hC : CM M r kd v w) (l : List Int32) : CM (ac 82 28 96 M r l) (r + l.length) kd v w := by
  obtain ⟨c1, c2, c3, c4, c5⟩ := hC
  refine ⟨fun t ht => ?_, ac_k (by decide) l M r c2, ?_, ?_, ?_⟩
  · show (ac 82 28 96 M r l).2.2.1 82 t.1 = _
    rw [ac_2]; exact c1 t ht
  · rw [ac_I (by decide) l M r 82 29 (by decide) (by decide)]; exact c3
  · rw [ac_I (by decide) l M r 83 _ (by omega) (by decide)]; exact c4
  · rw [ac_I (by decide) l M r 83 _ (by omega) (by decide)]; exact c5
theorem CM_bg (hC : CM M r kd v w) (z : Int32) : CM (bg 82 28 96 M r z) (r + 1) kd v w := CM_ac hC [z]
theorem m_runs (hC : CM M r kd v w) (hr : r < 2000) (z : Int32) : CL d kX11_runs [.ref 82, .int z] M Q = Q none (bg 82 28 96 M r z) := by
  obtain ⟨c1, c2, c3, c4, c5⟩ := hC
  rw [eX11_runs, c2]
  unfold bg
  by_cases h : r < 20
  · rw [if_pos (by rw [lt_nl (by omega) (by decide)]; exact h), if_pos h]
    simp only [ty_82, pm_27 c1, ty_96, true_and, and_true, Option.some.injEq, exists_eq_left']
    rw [inb_n (by omega), vI_cl (by omega), rI_sI (by decide), c2, add_nl]
    exact propext ⟨fun h => h.2, fun h2 => ⟨h, h2⟩⟩
  · rw [if_neg (by rw [lt_nl (by omega) (by decide)]; exact h), if_neg h, add_nl]
    simp only [ty_82, true_and]
theorem m_hasBody {a k : Nat} (ha : a < 3) (hk : k < 7) : CL d kX11_hasBody [.int (vI a), .int (vI k)] M Q = Q (some (.int (b2i (hbB a k)))) M := by
  have h3 : a = 0 ∨ a = 1 ∨ a = 2 := by omega
  have h7 : k = 0 ∨ k = 1 ∨ k = 2 ∨ k = 3 ∨ k = 4 ∨ k = 5 ∨ k = 6 := by omega
  rw [eX11_hasBody]
  rcases h3 with rfl | rfl | rfl <;> rcases h7 with rfl | rfl | rfl | rfl | rfl | rfl | rfl <;> (repeat (first | rw [if_pos (by decide)] | rw [if_neg (by decide)])) <;> rfl
theorem m_fnd (hC : CM M r kd v w) (hw : w < 6) {a : Nat} (ha : a < 3) (l2 x : Int32) : ∀ m k : Nat, k < 7 → rnk k < m → WP (d + 1) kX11_bodyOf (3, [.ref 82, .int (vI a), .int l2, .int x, .int (vI k), dm, dm, dm], [], M) Q = WP (d + 1) kX11_bodyOf (38, [.ref 82, .int (vI a), .int l2, .int x, .int (vI (fnd a m k)), .int (vI v), dm, dm], [.int (if fnd a m k = 0 then -1 else vI (abv (fnd a m k)))], M) Q := by
  intro m
  induction m with
  | zero => intro k hk hr; omega
  | succ m ih =>
    intro k hk hr
    rw [gX11_bodyOf_3, m_hasBody ha hk]
    simp only [Option.toList_some, Option.toList_none, List.cons_append, List.nil_append]
    rw [gX11_bodyOf_9, fnd]
    by_cases hb : hbB a k = true
    · rw [hb, if_neg (by decide), if_pos rfl, hC.2.2.1, show (1 : Int32) = vI 1 from rfl, m_get hC.1 hw (by decide), hC.2.2.2.2]
      simp only [ty_82, true_and, Option.toList_some, Option.toList_none, List.cons_append, List.nil_append]
      rw [gX11_bodyOf_31, m_above hk]
      simp only [Option.toList_some, Option.toList_none, List.cons_append, List.nil_append]
      rfl
    · have h0 : ¬ k = 0 := fun e => hb (by subst e; rfl)
      have h1 := abv_lt hk h0
      rw [Bool.not_eq_true _ |>.mp hb, if_pos (by decide), if_neg (by decide), m_above hk, if_neg h0]
      simp only [Option.toList_some, Option.toList_none, List.cons_append, List.nil_append]
      rw [gX11_bodyOf_17]
      exact ih (abv k) h1.1 (by omega)
theorem m_bo (hC : CM M r kd v w) (hw : w < 6) {a f : Nat} (ha : a < 3) (hf : f < 7) (x : Int32) : CL (d + 1) kX11_bodyOf [.ref 82, .int (vI a), .int (vI f), .int x] M Q = WP (d + 1) kX11_bodyOf (38, [.ref 82, .int (vI a), .int (vI f), .int x, .int (vI (fnd a 3 f)), .int (vI v), dm, dm], [.int (if fnd a 3 f = 0 then -1 else vI (abv (fnd a 3 f)))], M) Q := by
  have hr : rnk f < 3 := by unfold rnk; split; decide; split <;> decide
  rw [eX11_bodyOf, m_fnd hC hw ha _ _ 3 f hf hr]
theorem m_sb0 (hC : CM M r kd v w) (hw : w < 6) (hr : r < 2000) {f : Nat} (hf : f < 7) (h0 : fnd 0 3 f = 0) (x : Int32) : CL (d + 1) kX11_bodyOf [.ref 82, .int 0, .int (vI f), .int x] M Q = Q (some (.int (x + vI w))) (bg 82 28 96 M r 10) := by
  rw [show (0 : Int32) = vI 0 from rfl, m_bo hC hw (by decide) hf, h0, gX11_bodyOf_38, if_pos (by decide), if_neg (by decide), if_neg (by decide), if_neg (by decide), if_neg (by decide), if_neg (by decide), m_runs hC hr]
  simp only [ty_82, true_and, Option.toList_some, Option.toList_none, List.cons_append, List.nil_append]
  rw [gX11_bodyOf_137, (CM_bg hC 10).2.2.1]
  simp only [ty_82, true_and]
theorem m_stb (hC : CM M r kd v w) (hw : w < 6) (hr : r < 1990) {f : Nat} (hf : f < 7) (x : Int32) : CL (d + 2) kX11_bodyOf [.ref 82, .int 0, .int (vI f), .int x] M Q = Q (some (.int (stb (vI w) (vI v) f x).1)) (ac 82 28 96 M r (stb (vI w) (vI v) f x).2) := by
  have h2 : ∀ f : Nat, f < 7 → fnd 0 3 f = 2 → CL (d + 2) kX11_bodyOf [.ref 82, .int 0, .int (vI f), .int x] M Q = Q (some (.int (x * 3 + vI w))) (ac 82 28 96 M r [30, 10]) := fun f hf h => by
    rw [show (0 : Int32) = vI 0 from rfl, m_bo hC hw (by decide) hf, h, gX11_bodyOf_38, if_pos (by decide), if_pos (by decide), m_runs hC (by omega)]
    simp only [ty_82, true_and, Option.toList_some, Option.toList_none, List.cons_append, List.nil_append]
    rw [if_neg (by decide), gX11_bodyOf_86, show abv 2 = 0 from rfl, m_sb0 (CM_bg hC 30) hw (by omega) (by decide) rfl]
    simp only [ty_82, true_and, Option.toList_some, Option.toList_none, List.cons_append, List.nil_append]
    rw [gX11_bodyOf_96]
    rfl
  have h7 : f = 0 ∨ f = 1 ∨ f = 2 ∨ f = 3 ∨ f = 4 ∨ f = 5 ∨ f = 6 := by omega
  rcases h7 with rfl | rfl | rfl | rfl | rfl | rfl | rfl
  · rw [m_sb0 hC hw (by omega) (by decide) rfl]; rfl
  · rw [m_sb0 hC hw (by omega) (by decide) rfl]; rfl
  · rw [h2 2 (by decide) rfl]; rfl
  · rw [m_sb0 hC hw (by omega) (by decide) rfl]; rfl
  · rw [show (0 : Int32) = vI 0 from rfl, m_bo hC hw (by decide) (by decide), show fnd 0 3 4 = 4 from rfl, gX11_bodyOf_38, if_pos (by decide), if_neg (by decide), if_neg (by decide), if_pos (by decide), m_runs hC (by omega)]
    simp only [ty_82, true_and, Option.toList_some, Option.toList_none, List.cons_append, List.nil_append]
    rw [if_neg (by decide), gX11_bodyOf_103, show abv 4 = 1 from rfl, m_sb0 (CM_bg hC 50) hw (by omega) (by decide) rfl]
    simp only [ty_82, true_and, Option.toList_some, Option.toList_none, List.cons_append, List.nil_append]
    rw [gX11_bodyOf_111]
    rfl
  · rw [h2 5 (by decide) rfl]; rfl
  · rw [show (0 : Int32) = vI 0 from rfl, m_bo hC hw (by decide) (by decide), show fnd 0 3 6 = 6 from rfl, gX11_bodyOf_38, if_pos (by decide), if_neg (by decide), if_neg (by decide), if_neg (by decide), if_neg (by decide), if_pos (by decide), m_runs hC (by omega)]
    simp only [ty_82, true_and, Option.toList_some, Option.toList_none, List.cons_append, List.nil_append]
    rw [if_neg (by decide), gX11_bodyOf_119, show abv 6 = 3 from rfl, m_sb0 (CM_bg hC 71) hw (by omega) (by decide) rfl]
    simp only [ty_82, true_and, Option.toList_some, Option.toList_none, List.cons_append, List.nil_append]
    rw [gX11_bodyOf_127]
    rfl
theorem m_acts {a : Nat} {z x : Int32} {M' : MM} (hC : CM M r kd v w) (hw : w < 6) (h : ∀ Q : Option Value → MM → Prop, CL d kX11_bodyOf [.ref 82, .int (vI a), .int (vI kd), .int x] M Q = Q (some (.int z)) M') : CL (d + 1) kX11_acts [.ref 82, .int (vI a), .int x] M Q = Q (some (.int z)) M' := by
  rw [eX11_acts, hC.2.2.1, show (0 : Int32) = vI 0 from rfl, m_get hC.1 hw (by decide), hC.2.2.2.1]
  simp only [ty_82, true_and, Option.toList_some, Option.toList_none, List.cons_append, List.nil_append]
  rw [gX11_acts_11, h]
  simp only [ty_82, true_and, Option.toList_some, Option.toList_none, List.cons_append, List.nil_append]
  rw [gX11_acts_15]
theorem m_tn0 (hC : CM M r kd v w) (hw : w < 6) (hkd : kd < 7) (hr : r < 1980) {f : Nat} (hf : f < 7) (h0 : fnd 1 3 f = 0) (x : Int32) : CL (d + 4) kX11_bodyOf [.ref 82, .int 1, .int (vI f), .int x] M Q = Q (some (.int (tn0 (vI w) (vI v) kd x).1)) (ac 82 28 96 M r (tn0 (vI w) (vI v) kd x).2) := by
  have hC1 := CM_bg hC 11
  rw [show (1 : Int32) = vI 1 from rfl, m_bo hC hw (by decide) hf, h0, gX11_bodyOf_38, if_neg (by decide), if_pos (by decide), if_neg (by decide), if_neg (by decide), if_neg (by decide), m_runs hC (by omega)]
  simp only [ty_82, true_and, Option.toList_some, Option.toList_none, List.cons_append, List.nil_append]
  rw [gX11_bodyOf_253, show (0 : Int32) = vI 0 from rfl, m_acts hC1 hw (fun Q => m_stb (d := d) hC1 hw (by omega) hkd x)]
  simp only [ty_82, true_and, Option.toList_some, Option.toList_none, List.cons_append, List.nil_append]
  rw [gX11_bodyOf_259]
  rfl
theorem m_tn1 (hC : CM M r kd v w) (hw : w < 6) (hkd : kd < 7) (hr : r < 1970) {f : Nat} (hf : f < 7) (h0 : fnd 1 3 f = 1) (x : Int32) : CL (d + 5) kX11_bodyOf [.ref 82, .int 1, .int (vI f), .int x] M Q = Q (some (.int ((tn0 (vI w) (vI v) kd x).1 ^^^ 6))) (ac 82 28 96 M r (20 :: (tn0 (vI w) (vI v) kd x).2)) := by
  rw [show (1 : Int32) = vI 1 from rfl, m_bo hC hw (by decide) hf, h0, gX11_bodyOf_38, if_neg (by decide), if_pos (by decide), if_pos (by decide), m_runs hC (by omega)]
  simp only [ty_82, true_and, Option.toList_some, Option.toList_none, List.cons_append, List.nil_append]
  rw [if_neg (by decide), gX11_bodyOf_190, show abv 1 = 0 from rfl, m_tn0 (CM_bg hC 20) hw hkd (by omega) (by decide) rfl]
  simp only [ty_82, true_and, Option.toList_some, Option.toList_none, List.cons_append, List.nil_append]
  rw [gX11_bodyOf_198]
  rfl
theorem m_trn (hC : CM M r kd v w) (hw : w < 6) (hkd : kd < 7) (hr : r < 1960) {f : Nat} (hf : f < 7) (x : Int32) : CL (d + 6) kX11_bodyOf [.ref 82, .int 1, .int (vI f), .int x] M Q = Q (some (.int (trn (vI w) (vI v) kd f x).1)) (ac 82 28 96 M r (trn (vI w) (vI v) kd f x).2) := by
  have h7 : f = 0 ∨ f = 1 ∨ f = 2 ∨ f = 3 ∨ f = 4 ∨ f = 5 ∨ f = 6 := by omega
  rcases h7 with rfl | rfl | rfl | rfl | rfl | rfl | rfl
  · rw [m_tn0 hC hw hkd (by omega) (by decide) rfl]; rfl
  · rw [m_tn1 hC hw hkd (by omega) (by decide) rfl]; rfl
  · rw [m_tn0 hC hw hkd (by omega) (by decide) rfl]; rfl
  · rw [m_tn0 hC hw hkd (by omega) (by decide) rfl]; rfl
  · rw [show (1 : Int32) = vI 1 from rfl, m_bo hC hw (by decide) (by decide), show fnd 1 3 4 = 4 from rfl, gX11_bodyOf_38, if_neg (by decide), if_pos (by decide), if_neg (by decide), if_pos (by decide), m_runs hC (by omega)]
    simp only [ty_82, true_and, Option.toList_some, Option.toList_none, List.cons_append, List.nil_append]
    rw [if_neg (by decide), gX11_bodyOf_208, show abv 4 = 1 from rfl, m_tn1 (CM_bg hC 51) hw hkd (by omega) (by decide) rfl]
    simp only [ty_82, true_and, Option.toList_some, Option.toList_none, List.cons_append, List.nil_append]
    rw [gX11_bodyOf_218]
    rfl
  · rw [m_tn0 hC hw hkd (by omega) (by decide) rfl]; rfl
  · have hC1 := CM_bg hC 70
    have hl := tn0_l (vI w) (vI v) kd x
    rw [show (1 : Int32) = vI 1 from rfl, m_bo hC hw (by decide) (by decide), show fnd 1 3 6 = 6 from rfl, gX11_bodyOf_38, if_neg (by decide), if_pos (by decide), if_neg (by decide), if_neg (by decide), if_pos (by decide), m_runs hC (by omega)]
    simp only [ty_82, true_and, Option.toList_some, Option.toList_none, List.cons_append, List.nil_append]
    rw [if_neg (by decide), gX11_bodyOf_225, show abv 6 = 3 from rfl, m_tn0 hC1 hw hkd (by omega) (by decide) rfl]
    simp only [ty_82, true_and, Option.toList_some, Option.toList_none, List.cons_append, List.nil_append]
    rw [gX11_bodyOf_233, m_sb0 (CM_ac hC1 (tn0 (vI w) (vI v) kd x).2) hw (by omega) (by decide) rfl]
    simp only [ty_82, true_and, Option.toList_some, Option.toList_none, List.cons_append, List.nil_append]
    rw [gX11_bodyOf_245]
    show _ = Q (some (.int ((tn0 (vI w) (vI v) kd x).1 + (2 + vI w)))) (ac 82 28 96 (bg 82 28 96 M r 70) (r + 1) ((tn0 (vI w) (vI v) kd x).2 ++ [10]))
    rw [ac_app]
    rfl
theorem m_tl0 (hC : CM M r kd v w) (hw : w < 6) (hkd : kd < 7) (hr : r < 1950) {f : Nat} (hf : f < 7) (h0 : fnd 2 3 f = 0) (x : Int32) : CL (d + 8) kX11_bodyOf [.ref 82, .int 2, .int (vI f), .int x] M Q = Q (some (.int (tl0 (vI w) (vI v) kd x).1)) (ac 82 28 96 M r (tl0 (vI w) (vI v) kd x).2) := by
  have hC1 := CM_bg hC 12
  rw [show Value.int 2 = .int (vI 2) from rfl, m_bo hC hw (by decide) hf, h0, gX11_bodyOf_38, if_neg (by decide), if_neg (by decide), if_neg (by decide), if_neg (by decide), m_runs hC (by omega)]
  simp only [ty_82, true_and, Option.toList_some, Option.toList_none, List.cons_append, List.nil_append]
  rw [gX11_bodyOf_344, show Value.int 1 = .int (vI 1) from rfl, m_acts hC1 hw (fun Q => m_trn (d := d) hC1 hw hkd (by omega) hkd x)]
  simp only [ty_82, true_and, Option.toList_some, Option.toList_none, List.cons_append, List.nil_append]
  rw [gX11_bodyOf_350]
  rfl
theorem m_tl3 (hC : CM M r kd v w) (hw : w < 6) (hkd : kd < 7) (hr : r < 1940) {f : Nat} (hf : f < 7) (h0 : fnd 2 3 f = 3) (x : Int32) : CL (d + 9) kX11_bodyOf [.ref 82, .int 2, .int (vI f), .int x] M Q = Q (some (.int ((tl0 (vI w) (vI v) kd x).1 + (trn (vI w) (vI v) kd kd 1).1))) (ac 82 28 96 M r (40 :: ((tl0 (vI w) (vI v) kd x).2 ++ (trn (vI w) (vI v) kd kd 1).2))) := by
  have hC1 := CM_bg hC 40
  have hl := tl0_l (vI w) (vI v) kd x
  have hC2 := CM_ac hC1 (tl0 (vI w) (vI v) kd x).2
  rw [show Value.int 2 = .int (vI 2) from rfl, m_bo hC hw (by decide) hf, h0, gX11_bodyOf_38, if_neg (by decide), if_neg (by decide), if_pos (by decide), m_runs hC (by omega)]
  simp only [ty_82, true_and, Option.toList_some, Option.toList_none, List.cons_append, List.nil_append]
  rw [if_neg (by decide), gX11_bodyOf_298, show abv 3 = 0 from rfl, m_tl0 hC1 hw hkd (by omega) (by decide) rfl]
  simp only [ty_82, true_and, Option.toList_some, Option.toList_none, List.cons_append, List.nil_append]
  rw [gX11_bodyOf_306]
  refine (show _ = _ from ?_)
  have ha := m_acts (d := d + 7) (a := 1) (Q := fun v_ M_ => WP (d + 9) kX11_bodyOf (316, [.ref 82, .int (vI 2), .int (vI f), .int x, .int (vI 3), .int (vI v), .int (vI 0), .int (tl0 (vI w) (vI v) kd x).1], v_.toList ++ [.int (tl0 (vI w) (vI v) kd x).1], M_) Q) hC2 hw (fun Q => m_trn (d := d + 1) hC2 hw hkd (by omega) hkd 1)
  simp only [ty_82, true_and]
  refine Eq.trans ha ?_
  simp only [Option.toList_some, Option.toList_none, List.cons_append, List.nil_append]
  rw [gX11_bodyOf_316]
  show _ = Q _ (ac 82 28 96 (bg 82 28 96 M r 40) (r + 1) ((tl0 (vI w) (vI v) kd x).2 ++ (trn (vI w) (vI v) kd kd 1).2))
  rw [ac_app]
theorem m_tll (hC : CM M r kd v w) (hw : w < 6) (hkd : kd < 7) (hr : r < 1940) {f : Nat} (hf : f < 7) (x : Int32) : CL (d + 9) kX11_bodyOf [.ref 82, .int 2, .int (vI f), .int x] M Q = Q (some (.int (tll (vI w) (vI v) kd f x).1)) (ac 82 28 96 M r (tll (vI w) (vI v) kd f x).2) := by
  have h7 : f = 0 ∨ f = 1 ∨ f = 2 ∨ f = 3 ∨ f = 4 ∨ f = 5 ∨ f = 6 := by omega
  rcases h7 with rfl | rfl | rfl | rfl | rfl | rfl | rfl
  · rw [m_tl0 hC hw hkd (by omega) (by decide) rfl]; rfl
  · rw [m_tl0 hC hw hkd (by omega) (by decide) rfl]; rfl
  · rw [m_tl0 hC hw hkd (by omega) (by decide) rfl]; rfl
  · rw [m_tl3 hC hw hkd hr (by decide) rfl]; rfl
  · rw [m_tl0 hC hw hkd (by omega) (by decide) rfl]; rfl
  · have hC1 := CM_bg hC 60
    rw [show Value.int 2 = .int (vI 2) from rfl, m_bo hC hw (by decide) (by decide), show fnd 2 3 5 = 5 from rfl, gX11_bodyOf_38, if_neg (by decide), if_neg (by decide), if_neg (by decide), if_pos (by decide), m_runs hC (by omega)]
    simp only [ty_82, true_and, Option.toList_some, Option.toList_none, List.cons_append, List.nil_append]
    rw [if_neg (by decide), gX11_bodyOf_324, hC1.2.2.1, show abv 5 = 2 from rfl, m_tl0 hC1 hw hkd (by omega) (by decide) rfl]
    simp only [ty_82, true_and, Option.toList_some, Option.toList_none, List.cons_append, List.nil_append]
    rw [gX11_bodyOf_337]
    rfl
  · rw [m_tl3 hC hw hkd hr (by decide) rfl]; rfl
end ActM
def Ab (a : Nat) : Prop := a = 26 ∨ a = 27 ∨ a = 96
theorem INV_bd {MZ : MM} {n : Nat} {M M' : MM} (h2 : M'.2 = M.2) (h : ∀ a : Nat, ¬ Ab a → ¬ a = 82 → mI M' a = mI M a) (h82 : ∀ k : Nat, ¬ k = 28 → ¬ k = 29 → mI M' 82 k = mI M 82 k) (hB : Bod M') (hI : INV MZ n M) : INV MZ n M' := by
  obtain ⟨i1, i2, i3, i4, ⟨L, i5, i6, i7⟩, i8, i9, i10⟩ := hI
  have hr : mR M' = mR M := by show M'.2.2.1 = _; rw [h2]; rfl
  have hl : mL M' = mL M := by show M'.2.1 = _; rw [h2]; rfl
  have hn : mN M' = mN M := by show M'.2.2.2 = _; rw [h2]; rfl
  have r : ∀ a : Nat, ¬ Ab a → ¬ a = 82 → mI M' a = mI M a := h
  have rr : ∀ a : Nat, mR M' a = mR M a := fun a => by rw [hr]
  exact ⟨fun t ht => by rw [hr]; exact i1 t ht, fun t ht => by rw [hr]; exact i2 t ht, SOK_r (fun a _ => rr a) i3, fun a ha => ⟨by rw [r a (by unfold Ab; omega) (by omega)]; exact (i4 a ha).1, by rw [rr]; exact (i4 a ha).2⟩, ⟨L, Lnd_of hn (by rw [r 21 (by unfold Ab; omega) (by decide)]) (h82 6 (by decide) (by decide)) (fun a ha => ⟨r a (by unfold Ab; omega) (by omega), by rw [hl], rr a⟩) (fun a ha => r a (by unfold Ab; omega) (by omega)) i5, Scn_ag (fun a h1 h2 => ⟨r a (by unfold Ab; omega) (by omega), rr a⟩) (r 83 (by unfold Ab; omega) (by decide)) i6, Img_ag (by rw [r 21 (by unfold Ab; omega) (by decide)]) (h82 2 (by decide) (by decide)) (fun q => Scn_ag (fun a h1 h2 => ⟨r a (by unfold Ab; omega) (by omega), rr a⟩) (r 84 (by unfold Ab; omega) (by decide)) q) i7⟩, Txt_ag (by rw [r 22 (by unfold Ab; omega) (by decide)]) (h82 8 (by decide) (by decide)) (r 23 (by unfold Ab; omega) (by decide)) (r 88 (by unfold Ab; omega) (by decide)) i8, hB, Tap_ag (fun a ha => ⟨r a (by unfold Ab; omega) (by omega), by rw [hl]⟩) i10⟩
section PAct
variable {MZ M : MM} {n d : Nat} {Q : Option Value → MM → Prop}
theorem act_fin (hI : INV MZ n M) {nw w kd v c f bt gn cm : Nat} (hn6 : nw ≤ 6) (hw : w < nw) (hm0 : mI M 83 0 = vI nw) (hMW : MWs M 83 w kd v c f bt gn cm) {b x z : Int32} {l : List Int32} (hb : inR b 3 = true) (hl : l.length ≤ 12) {M1 : MM} (e2 : M1.2 = M.2) (eI : ∀ a : Nat, ¬ a = 26 → mI M1 a = mI M a) (e26 : mI M1 26 1 = vI 0)
    (hacts : ∀ (M3 : MM) (Q : Option Value → MM → Prop), CM M3 0 kd v w → CL (d + 11) kX11_acts [.ref 82, .int b, .int x] M3 Q = Q (some (.int z)) (ac 82 28 96 M3 0 l)) :
    CL (d + 12) kX11_act [.ref 82, .int (vI w), .int b, .int x] (ac 26 1 27 M1 0 l) (fun r2 M2 => r2 = some (.int z) ∧ INV MZ (n + 1) M2) := by
  have hA2 : (ac 26 1 27 M1 0 l).2 = M.2 := by rw [ac_2, e2]
  have hAI : ∀ a j : Nat, ¬ (a = 26 ∧ j = 1) → ¬ a = 27 → mI (ac 26 1 27 M1 0 l) a j = mI M1 a j := fun a j h1 h2 => ac_I (by decide) l M1 0 a j h1 h2
  have hA1 := ac_k (a := 26) (k := 1) (q := 27) (by decide) l M1 0 e26
  have hAq := fun j hj => ac_q (a := 26) (k := 1) (q := 27) (by decide) l M1 0 j hj
  generalize hM2 : ac 26 1 27 M1 0 l = M2 at *
  have hR : mR M2 = mR M := by show M2.2.2.1 = _; rw [hA2]; rfl
  have hp2 : PM M2 := fun t ht => by rw [hR]; exact hI.2.1 t ht
  have h83 : ∀ j : Nat, mI M2 83 j = mI M 83 j := fun j => by rw [hAI 83 j (by omega) (by decide), eI 83 (by decide)]
  rw [eX11_act]
  refine ⟨by simp only [ty_82], ?_⟩
  have hp3 : PM (sI M2 82 28 0) := hp2
  rw [m_isWalker hp3 (nw := nw) (by omega) (by rw [xI_sI (by decide), h83]; exact hm0), inR_vI (by omega), decide_eq_true hw]
  simp only [Option.toList_some, Option.toList_none, List.cons_append, List.nil_append]
  rw [gX11_act_10, if_neg (by decide), show (3 : Int32) = vI 3 from rfl, m_isIn (by decide), hb]
  simp only [Option.toList_some, Option.toList_none, List.cons_append, List.nil_append]
  rw [gX11_act_18, if_neg (by decide)]
  refine ⟨by simp only [ty_82], ?_⟩
  have hCM : CM (sI (sI M2 82 28 0) 82 29 (vI w)) 0 kd v w := by
    refine ⟨hp2, ?_, ?_, ?_, ?_⟩
    · simp (disch := omega) only [aI_sI, xI_sI]; rfl
    · rw [aI_sI]
    · simp (disch := omega) only [xI_sI]; rw [h83]; exact hMW.1
    · simp (disch := omega) only [xI_sI]; rw [h83]; exact hMW.2.1
  rw [hacts _ _ hCM]
  simp only [Option.toList_some, Option.toList_none, List.cons_append, List.nil_append]
  rw [gX11_act_34]
  have k1 := ac_k (a := 82) (k := 28) (q := 96) (by decide) l _ 0 hCM.2.1
  have kq := fun j hj => ac_q (a := 82) (k := 28) (q := 96) (by decide) l (sI (sI M2 82 28 0) 82 29 (vI w)) 0 j hj
  have kI : ∀ a j : Nat, ¬ (a = 82 ∧ j = 28) → ¬ a = 96 → mI (ac 82 28 96 (sI (sI M2 82 28 0) 82 29 (vI w)) 0 l) a j = mI (sI (sI M2 82 28 0) 82 29 (vI w)) a j := fun a j h1 h2 => ac_I (by decide) l _ 0 a j h1 h2
  refine ⟨rfl, INV_mono (INV_bd (M := M) ?_ (fun a h1 h2 => funext fun j => ?_) (fun k h1 h2 => ?_) ⟨0 + l.length, by omega, ?_, k1, fun j h1 h2 => ?_⟩ hI)⟩
  · rw [ac_2]; exact hA2
  · unfold Ab at h1
    rw [kI a j (by omega) (by omega), xI_sI (by omega), xI_sI (by omega), hAI a j (by omega) (by omega), eI a (by omega)]
  · rw [kI 82 k (by omega) (by decide), xI_sI (by omega), xI_sI (by omega), hAI 82 k (by omega) (by decide), eI 82 (by decide)]
  · rw [kI 26 1 (by decide) (by decide), xI_sI (by omega), xI_sI (by omega)]; exact hA1
  · rw [kI 27 j (by omega) (by decide), xI_sI (by omega), xI_sI (by omega), hAq j h2, kq j h2, if_pos (by omega), if_pos (by omega)]
theorem act_no (hI : INV MZ n M) {nw : Nat} {a b x : Int32} (hn6 : nw ≤ 6) (hm0 : mI M 83 0 = vI nw) (hno : inR a nw = false ∨ inR b 3 = false) {M1 : MM} (e2 : M1.2 = M.2) (eI : ∀ a : Nat, ¬ a = 26 → mI M1 a = mI M a) (e26 : mI M1 26 1 = vI 0) :
    CL (d + 12) kX11_act [.ref 82, .int a, .int b, .int x] M1 (fun r2 M2 => r2 = some (.int 0) ∧ INV MZ (n + 1) M2) := by
  have hR : mR M1 = mR M := by show M1.2.2.1 = _; rw [e2]; rfl
  have hp3 : PM (sI M1 82 28 0) := fun t ht => by show mR M1 82 t.1 = _; rw [hR]; exact hI.2.1 t ht
  have hfin : INV MZ (n + 1) (sI M1 82 28 0) := by
    refine INV_mono (INV_bd (M := M) e2 (fun a h1 h2 => ?_) (fun k h1 h2 => ?_) ⟨0, by decide, ?_, ?_, fun j h1 h2 => absurd h1 (Nat.not_lt_zero j)⟩ hI)
    · unfold Ab at h1
      rw [rI_sI h2, eI a (by omega)]
    · rw [bI_sI h1, eI 82 (by decide)]
    · rw [xI_sI (by decide)]; exact e26
    · rw [aI_sI]; rfl
  rw [eX11_act]
  refine ⟨by simp only [ty_82], ?_⟩
  rw [m_isWalker hp3 (nw := nw) (by omega) (by rw [xI_sI (by decide), eI 83 (by decide)]; exact hm0)]
  simp only [Option.toList_some, Option.toList_none, List.cons_append, List.nil_append]
  rw [gX11_act_10]
  cases hA : inR a nw with
  | false =>
    rw [if_pos (by decide)]; exact ⟨rfl, hfin⟩
  | true =>
    have hB : inR b 3 = false := hno.resolve_left (by rw [hA]; decide)
    rw [if_neg (by decide), show (3 : Int32) = vI 3 from rfl, m_isIn (by decide), hB]
    simp only [Option.toList_some, Option.toList_none, List.cons_append, List.nil_append]
    rw [gX11_act_18, if_pos (by decide)]; exact ⟨rfl, hfin⟩
theorem p_act (hI : INV MZ n M) (a b x : Int32) : PRI MZ (d + 12) n kX10_act kX11_act [.int a, .int b, .int x] M := by
  have hp := hI.1
  have hpm := hI.2.1
  obtain ⟨nw, hn6, hc0, hm0, hW⟩ := INV_nw hI
  unfold PRI
  rw [eX10_act]
  simp only [ty_21, pc_21_1 hp, pc_21_8 hp, ty_33, ty_26, true_and, and_true, Option.some.injEq, exists_eq_left']
  have hp1 : PC (sI M 26 1 0) := hp
  have hc1 : mI (sI M 26 1 0) 33 1 = vI nw := by rw [xI_sI (by decide)]; exact hc0
  cases hA : inR a nw with
  | false =>
    rw [s_who_f hp1 hc1 hn6 hA]
    simp only [Option.toList_some, Option.toList_none, List.cons_append, List.nil_append]
    rw [gX10_act_16]
    simp only [Option.elim_none]
    exact ⟨_, rfl, act_no hI hn6 hm0 (Or.inl hA) rfl (fun a ha => rI_sI ha) (aI_sI _ _ _ _)⟩
  | true =>
  obtain ⟨w, hw, rfl⟩ := inR_get hA
  obtain ⟨kd, v, c, f, bt, gn, cm, k1, k2, k3, k4, hvl, hWK, hMW⟩ := hW w hw
  rw [s_who_t hp1 hc1 hn6 hw]
  simp only [Option.toList_some, Option.toList_none, List.cons_append, List.nil_append]
  rw [gX10_act_16]
  simp only [Option.elim_some, rf_some]
  have e0 : mI (sI M 26 1 0) (39 + w) 0 = vI kd := by rw [xI_sI (by omega)]; exact hWK.2.1
  have e1 : mI (sI M 26 1 0) (39 + w) 1 = vI v := by rw [xI_sI (by omega)]; exact hWK.2.2.1
  refine ⟨by simp only [ty_21], by rw [ty_w w (by omega)], 26, pc_21_8 hp, by simp only [ty_26], ?_⟩
  rw [e0, e1, eX0_become]
  refine ⟨by simp only [ty_26], ?_⟩
  simp only [Option.toList_some, Option.toList_none, List.cons_append, List.nil_append]
  have hC : CC (sI (sI (sI (sI M 26 1 0) 26 2 (vI kd)) 26 3 (vI v)) 26 4 (vI w)) 0 kd (vI v) (vI w) := by
    refine ⟨pc_26_0 hp, ?_, ?_, ?_, ?_⟩ <;> (simp (disch := omega) only [aI_sI, xI_sI]; try rfl)
  have q2 : (sI (sI (sI (sI M 26 1 0) 26 2 (vI kd)) 26 3 (vI v)) 26 4 (vI w)).2 = M.2 := rfl
  have qI : ∀ a : Nat, ¬ a = 26 → mI (sI (sI (sI (sI M 26 1 0) 26 2 (vI kd)) 26 3 (vI v)) 26 4 (vI w)) a = mI M a := fun a ha => by rw [rI_sI ha, rI_sI ha, rI_sI ha, rI_sI ha]
  generalize hM1 : sI (sI (sI (sI M 26 1 0) 26 2 (vI kd)) 26 3 (vI v)) 26 4 (vI w) = M1 at *
  have hR1 : mR M1 21 8 = some 26 := by
    show M1.2.2.1 21 8 = _
    rw [q2]
    exact pc_21_8 hp
  rw [gX10_act_43]
  by_cases b0 : b = 0
  · subst b0
    rw [if_pos rfl]
    refine ⟨by simp only [ty_21], 26, hR1, by simp only [ty_26], ?_⟩
    rw [s_stb (d := d + 9) k1 hC (by decide)]
    simp only [Option.toList_some, Option.toList_none, List.cons_append, List.nil_append]
    rw [gX10_act_80]
    have hl := stb_l (vI w) (vI v) kd x
    exact ⟨_, rfl, act_fin hI hn6 hw hm0 hMW (by decide) (by omega) q2 qI hC.2.1 (fun M3 Q hC3 => m_acts (a := 0) hC3 (by omega) (fun Q => m_stb (d := d + 8) hC3 (by omega) (by decide) k1 x))⟩
  rw [if_neg b0]
  by_cases b1 : b = 1
  · subst b1
    rw [if_pos rfl]
    refine ⟨by simp only [ty_21], 26, hR1, by simp only [ty_26], ?_⟩
    rw [s_trn (d := d + 7) k1 hC (by decide)]
    simp only [Option.toList_some, Option.toList_none, List.cons_append, List.nil_append]
    rw [gX10_act_89]
    have hl := trn_l (vI w) (vI v) kd kd x
    exact ⟨_, rfl, act_fin hI hn6 hw hm0 hMW (by decide) (by omega) q2 qI hC.2.1 (fun M3 Q hC3 => m_acts (a := 1) hC3 (by omega) (fun Q => m_trn (d := d + 4) hC3 (by omega) k1 (by decide) k1 x))⟩
  rw [if_neg b1]
  by_cases b2 : b = 2
  · subst b2
    rw [if_pos rfl]
    refine ⟨by simp only [ty_21], 26, hR1, by simp only [ty_26], ?_⟩
    rw [s_tll (d := d + 5) k1 hC (by decide)]
    simp only [Option.toList_some, Option.toList_none, List.cons_append, List.nil_append]
    rw [gX10_act_98]
    have hl := tll_l (vI w) (vI v) kd kd x
    exact ⟨_, rfl, act_fin hI hn6 hw hm0 hMW (by decide) hl q2 qI hC.2.1 (fun M3 Q hC3 => m_acts (a := 2) hC3 (by omega) (fun Q => m_tll (d := d + 1) hC3 (by omega) k1 (by decide) k1 x))⟩
  rw [if_neg b2]
  refine ⟨_, rfl, act_no hI hn6 hm0 (Or.inr ?_) q2 qI hC.2.1⟩
  by_cases hb : b < 0
  · exact inR_neg hb
  · obtain ⟨y, hy, rfl⟩ := inR_pos hb
    rw [inR_vI hy]
    refine decide_eq_false (fun h3 => ?_)
    have h33 : y = 0 ∨ y = 1 ∨ y = 2 := by omega
    rcases h33 with rfl | rfl | rfl
    · exact b0 rfl
    · exact b1 rfl
    · exact b2 rfl
end PAct
