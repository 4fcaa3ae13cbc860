/-! ===== 70: the constructors ===== -/
def lkg (g : List (Nat × Nat × Option Nat)) (a k : Nat) : Option Nat := match g with
  | [] => none
  | e :: r => if a = e.1 ∧ k = e.2.1 then e.2.2 else lkg r a k
def lki (g : List (Nat × Nat × Int32)) (a k : Nat) : Int32 := match g with
  | [] => 0
  | e :: r => if a = e.1 ∧ k = e.2.1 then e.2.2 else lki r a k
/-- a memory that is being built: what was stored, newest first; rows 29 to 32 are the land's -/
def BL (MZ M : MM) (N : Nat) (g : List (Nat × Nat × Option Nat)) (gi : List (Nat × Nat × Int32)) : Prop :=
  mN M = N ∧ (21 ≤ N ∧ Fix MZ M) ∧ (∀ a k : Nat, 21 ≤ a → a < N → ¬ (29 ≤ a ∧ a ≤ 32) → mR M a k = lkg g a k) ∧ (∀ a k : Nat, 21 ≤ a → a < N → ¬ (29 ≤ a ∧ a ≤ 32) → mI M a k = lki gi a k) ∧ (∀ a k : Nat, 21 ≤ a → a < N → ¬ (a = 29 ∨ a = 31 ∨ a = 32) → mL M a k = 0) ∧ (∀ e ∈ g, e.1 < N) ∧ (∀ e ∈ gi, e.1 < N) ∧ (33 ≤ N → LandC M 29 2 1 (fun _ _ => False))
theorem BL.r {MZ M : MM} {N : Nat} {g : List (Nat × Nat × Option Nat)} {gi : List (Nat × Nat × Int32)} (hb : BL MZ M N g gi) (a k : Nat) (h1 : 21 ≤ a) (h2 : a < 29 ∨ (33 ≤ a ∧ a < N)) (h3 : a < N := by omega) : mR M a k = lkg g a k := hb.2.2.1 a k h1 h3 (by omega)
theorem BL.l {MZ M : MM} {N : Nat} {g : List (Nat × Nat × Option Nat)} {gi : List (Nat × Nat × Int32)} (hb : BL MZ M N g gi) (a k : Nat) (h1 : 21 ≤ a) (h3 : a < N) (h2 : ¬ (a = 29 ∨ a = 31 ∨ a = 32)) : mL M a k = 0 := hb.2.2.2.2.1 a k h1 h3 h2
theorem lkg_no {g : List (Nat × Nat × Option Nat)} {N : Nat} (h : ∀ e ∈ g, e.1 < N) (k : Nat) : lkg g N k = none := by
  induction g with
  | nil => rfl
  | cons e r ih =>
    rw [lkg, if_neg (fun h2 => by have := h e List.mem_cons_self; omega)]
    exact ih (fun x hx => h x (List.mem_cons_of_mem _ hx))
theorem lki_no {g : List (Nat × Nat × Int32)} {N : Nat} (h : ∀ e ∈ g, e.1 < N) (k : Nat) : lki g N k = 0 := by
  induction g with
  | nil => rfl
  | cons e r ih =>
    rw [lki, if_neg (fun h2 => by have := h e List.mem_cons_self; omega)]
    exact ih (fun x hx => h x (List.mem_cons_of_mem _ hx))
section BLs
variable {MZ M : MM} {N : Nat} {g : List (Nat × Nat × Option Nat)} {gi : List (Nat × Nat × Int32)}
theorem BL_nw (h32 : ¬ N = 32) (hb : BL MZ M N g gi) : BL MZ (nw M) (N + 1) g gi := by
  obtain ⟨b1, ⟨b2, b3⟩, b4, b5, b6, b7, b8, b9⟩ := hb
  have rI : ∀ a : Nat, ¬ a = N → mI (nw M) a = mI M a ∧ mL (nw M) a = mL M a ∧ mR (nw M) a = mR M a := fun a ha => ⟨funext fun j => by rw [mI_nw, b1, if_neg ha], funext fun j => by rw [mL_nw, b1, if_neg ha], funext fun j => by rw [mR_nw, b1, if_neg ha]⟩
  refine ⟨by show mN M + 1 = _; rw [b1], ⟨by omega, fun a ha => ?_⟩, fun a k h1 h2 h3 => ?_, fun a k h1 h2 h3 => ?_, fun a k h1 h2 h3 => ?_, fun e he => by have := b7 e he; omega, fun e he => by have := b8 e he; omega, fun h33 => ?_⟩
  · have := rI a (by omega); rw [this.1, this.2.2]; exact b3 a ha
  · by_cases e : a = N
    · subst e; rw [mR_nw, b1, if_pos rfl, lkg_no b7]
    · rw [(rI a e).2.2]; exact b4 a k h1 (by omega) h3
  · by_cases e : a = N
    · subst e; rw [mI_nw, b1, if_pos rfl, lki_no b8]
    · rw [(rI a e).1]; exact b5 a k h1 (by omega) h3
  · by_cases e : a = N
    · subst e; rw [mL_nw, b1, if_pos rfl]
    · rw [(rI a e).2.1]; exact b6 a k h1 (by omega) h3
  · by_cases e : 33 ≤ N
    · exact LandC_loc (N := 101) (Or.inl rfl) (fun a ha => rI a (by omega)) (b9 e)
    · omega
theorem BL_sR {a k : Nat} {v : Option Nat} (h : 21 ≤ a ∧ a < N ∧ ¬ (29 ≤ a ∧ a ≤ 32)) (hb : BL MZ M N g gi) : BL MZ (sR M a k v) N ((a, k, v) :: g) gi := by
  obtain ⟨b1, ⟨b2, b3⟩, b4, b5, b6, b7, b8, b9⟩ := hb
  refine ⟨b1, ⟨b2, fun x hx => ⟨(b3 x hx).1, by rw [rR_sR (by omega)]; exact (b3 x hx).2⟩⟩, fun x y h1 h2 h3 => ?_, b5, b6, fun e he => ?_, b8, fun h33 => LandC_loc (M := M) (N := 33) (Or.inl rfl) (fun x hx => ⟨rfl, rfl, rR_sR (by omega)⟩) (b9 h33)⟩
  · rw [mR_sR, lkg]
    by_cases e : x = a ∧ y = k
    · rw [if_pos e, if_pos e]
    · rw [if_neg e, if_neg e]; exact b4 x y h1 h2 h3
  · rcases List.mem_cons.mp he with rfl | he
    · exact h.2.1
    · exact b7 e he
theorem BL_sI {a k : Nat} {z : Int32} (h : 21 ≤ a ∧ a < N ∧ ¬ (29 ≤ a ∧ a ≤ 32)) (hb : BL MZ M N g gi) : BL MZ (sI M a k z) N g ((a, k, z) :: gi) := by
  obtain ⟨b1, ⟨b2, b3⟩, b4, b5, b6, b7, b8, b9⟩ := hb
  refine ⟨b1, ⟨b2, fun x hx => ⟨by rw [rI_sI (by omega)]; exact (b3 x hx).1, (b3 x hx).2⟩⟩, b4, fun x y h1 h2 h3 => ?_, b6, b7, fun e he => ?_, fun h33 => LandC_loc (N := 33) (Or.inl rfl) (fun x hx => ⟨rI_sI (by omega), rfl, rfl⟩) (b9 h33)⟩
  · rw [mI_sI, lki]
    by_cases e : x = a ∧ y = k
    · rw [if_pos e, if_pos e]
    · rw [if_neg e, if_neg e]; exact b5 x y h1 h2 h3
  · rcases List.mem_cons.mp he with rfl | he
    · exact h.2.1
    · exact b8 e he
theorem BL_land {M' : MM} (hb : BL MZ M 31 g gi) (hN : mN M' = 29 + (31 + 2 - 29)) (hF : ∀ a : Nat, ¬ a = 29 → ¬ a = 31 → ¬ a = 31 + 1 → mI M' a = mI M a ∧ mL M' a = mL M a ∧ mR M' a = mR M a) (hL : LandC M' 29 2 1 (fun _ _ => False)) : BL MZ M' 33 g gi := by
  obtain ⟨b1, ⟨b2, b3⟩, b4, b5, b6, b7, b8, b9⟩ := hb
  refine ⟨hN, ⟨by omega, fun a ha => ?_⟩, fun a k h1 h2 h3 => ?_, fun a k h1 h2 h3 => ?_, fun a k h1 h2 h3 => ?_, fun e he => by have := b7 e he; omega, fun e he => by have := b8 e he; omega, fun _ => hL⟩
  · have := hF a (by omega) (by omega) (by omega); rw [this.1, this.2.2]; exact b3 a ha
  · rw [(hF a (by omega) (by omega) (by omega)).2.2]; exact b4 a k h1 (by omega) h3
  · rw [(hF a (by omega) (by omega) (by omega)).1]; exact b5 a k h1 (by omega) h3
  · rw [(hF a (by omega) (by omega) (by omega)).2.1]; exact b6 a k h1 (by omega) h3
end BLs
def gF : List (Nat × Nat × Option Nat) := [(82, 33, some 100), (82, 32, some 99), (82, 31, some 98), (82, 30, some 97), (82, 27, some 96), (82, 26, some 95), (82, 25, some 94), (82, 18, some 93), (82, 17, some 92), (82, 16, some 91), (82, 15, some 90), (82, 12, some 89), (82, 7, some 88), (82, 5, some 87), (82, 4, some 86), (82, 3, some 85), (82, 1, some 84), (82, 0, some 83), (28, 5, some 80), (80, 0, some 81), (28, 4, some 78), (78, 0, some 79), (28, 3, some 76), (76, 0, some 77), (28, 2, some 74), (74, 0, some 75), (28, 1, some 72), (72, 0, some 73), (28, 0, some 70), (70, 0, some 71), (21, 7, some 66), (66, 2, some 69), (69, 0, some 29), (66, 1, some 68), (66, 0, some 67), (21, 6, some 62), (62, 2, some 65), (65, 0, some 29), (62, 1, some 64), (62, 0, some 63), (21, 5, some 58), (58, 2, some 61), (61, 0, some 29), (58, 1, some 60), (58, 0, some 59), (21, 3, some 57), (57, 0, some 29), (21, 2, some 45), (46, 5, some 56), (46, 4, some 55), (46, 3, some 54), (46, 2, some 53), (46, 1, some 52), (46, 0, some 51), (45, 4, some 29), (45, 3, some 49), (49, 0, some 50), (45, 2, some 47), (47, 0, some 48), (45, 0, some 46), (21, 1, some 33), (34, 5, some 44), (34, 4, some 43), (34, 3, some 42), (34, 2, some 41), (34, 1, some 40), (34, 0, some 39), (33, 4, some 29), (33, 3, some 37), (37, 0, some 38), (33, 2, some 35), (35, 0, some 36), (33, 0, some 34), (21, 9, some 28), (21, 8, some 26), (26, 0, some 27), (21, 4, some 25), (21, 0, some 22), (22, 1, some 24), (22, 0, some 23)]
def giF : List (Nat × Nat × Int32) := [(83, 1, -1), (80, 1, -1), (78, 1, -1), (76, 1, -1), (74, 1, -1), (72, 1, -1), (70, 1, -1), (56, 6, 4), (55, 6, 4), (54, 6, 4), (53, 6, 4), (52, 6, 4), (51, 6, 4), (44, 6, 4), (43, 6, 4), (42, 6, 4), (41, 6, 4), (40, 6, 4), (39, 6, 4), (25, 6, 4)]
set_option maxRecDepth 20000 in
set_option maxHeartbeats 8000000 in
theorem law_init {d : Nat} {MZ : MM} {Q : Option Value → MM → Prop} (hb : BL MZ MZ 21 [] []) (h : ∀ M : MM, BL MZ M 101 gF giF → WP (d + 81) kL_law (18, [.retAddr 2, .ref 21, .ref 82, .int (vI (6 * 0))], [], M) Q) : CL (d + 81) kL_law [.retAddr 2] MZ Q := by
  rw [eL_law, hb.1]
  refine ⟨ty_21, ?_⟩
  replace hb := BL_nw (by decide) hb
  rw [gL_law_3]
  refine ⟨by rw [ty_21], ?_⟩
  rw [eX10_init, hb.1]
  refine ⟨ty_22, ?_⟩
  replace hb := BL_nw (by decide) hb
  rw [gX10_init_8]
  refine ⟨by rw [ty_22], ?_⟩
  rw [eX7_init, hb.1]
  refine ⟨ty_23, ?_⟩
  replace hb := BL_nw (by decide) hb
  rw [gX7_init_9, mN_sR, hb.1]
  refine ⟨by rw [ty_22], ty_24, ?_⟩
  replace hb := BL_nw (by decide) (BL_sR (a := 22) (k := 0) (v := some 23) (by omega) hb)
  rw [gX7_init_16]
  refine ⟨by rw [ty_22], ?_⟩
  replace hb := BL_sR (a := 22) (k := 1) (v := some 24) (by omega) hb
  simp only [Option.toList_some, Option.toList_none, List.cons_append, List.nil_append]
  rw [gX10_init_12, mN_sR, hb.1]
  refine ⟨by rw [ty_21], ty_25, ?_⟩
  replace hb := BL_nw (by decide) (BL_sR (a := 21) (k := 0) (v := some 22) (by omega) hb)
  rw [gX10_init_19]
  refine ⟨by rw [ty_25], ?_⟩
  rw [eX9_init]
  refine ⟨by rw [ty_25], ?_⟩
  replace hb := BL_sI (a := 25) (k := 6) (z := 4) (by omega) hb
  simp only [Option.toList_some, Option.toList_none, List.cons_append, List.nil_append]
  rw [gX10_init_23, mN_sR, hb.1]
  refine ⟨by rw [ty_21], ty_26, ?_⟩
  replace hb := BL_nw (by decide) (BL_sR (a := 21) (k := 4) (v := some 25) (by omega) hb)
  rw [gX10_init_30]
  refine ⟨by rw [ty_26], ?_⟩
  rw [eX0_init, hb.1]
  refine ⟨ty_27, ?_⟩
  replace hb := BL_nw (by decide) hb
  rw [gX0_init_9]
  refine ⟨by rw [ty_26], ?_⟩
  replace hb := BL_sR (a := 26) (k := 0) (v := some 27) (by omega) hb
  simp only [Option.toList_some, Option.toList_none, List.cons_append, List.nil_append]
  rw [gX10_init_34, mN_sR, hb.1]
  refine ⟨by rw [ty_21], ty_28, ?_⟩
  replace hb := BL_nw (by decide) (BL_sR (a := 21) (k := 8) (v := some 26) (by omega) hb)
  rw [gX10_init_43, mN_sR, hb.1]
  refine ⟨by rw [ty_21], ty_29, ?_⟩
  replace hb := BL_nw (by decide) (BL_sR (a := 21) (k := 9) (v := some 28) (by omega) hb)
  rw [gX10_init_49, hb.1]
  refine ⟨ty_30, ?_⟩
  replace hb := BL_nw (by decide) hb
  rw [gX10_init_55]
  refine ⟨by rw [ty_29], ?_⟩
  rw [show Value.ref 30 = rf (some 30) from rfl, show (2 : Int32) = vI 2 from rfl, show (1 : Int32) = vI 1 from rfl]
  refine s_land3G (mk := fun _ _ => False) (qo := 31) (mr := 30) (by decide) (Or.inl ⟨rfl, rfl, rfl⟩) ty_30 (by decide) (by decide) (by decide) ty_29 ty_31 ty_32 hb.1 (fun k hk => by rw [hb.l 30 k (by omega) (by omega) (by omega)]; exact zb_0) (fun M3 hN3 hF3 hL3 => ?_)
  replace hb := BL_land hb hN3 hF3 hL3
  simp only [Option.toList_some, Option.toList_none, List.cons_append, List.nil_append]
  clear hN3 hF3
  rw [gX10_init_58, hb.1]
  refine ⟨ty_33, ?_⟩
  replace hb := BL_nw (by decide) hb
  rw [gX10_init_63]
  refine ⟨by rw [ty_33], ?_⟩
  rw [eX5_init, hb.1]
  refine ⟨ty_34, ?_⟩
  replace hb := BL_nw (by decide) hb
  rw [gX5_init_10, mN_sR, hb.1]
  refine ⟨by rw [ty_33], ty_35, ?_⟩
  replace hb := BL_nw (by decide) (BL_sR (a := 33) (k := 0) (v := some 34) (by omega) hb)
  rw [gX5_init_17]
  refine ⟨by rw [ty_35], ?_⟩
  rw [eX8_init, hb.1]
  refine ⟨ty_36, ?_⟩
  replace hb := BL_nw (by decide) hb
  rw [gX8_init_9]
  refine ⟨by rw [ty_35], ?_⟩
  replace hb := BL_sR (a := 35) (k := 0) (v := some 36) (by omega) hb
  simp only [Option.toList_some, Option.toList_none, List.cons_append, List.nil_append]
  rw [gX5_init_21, mN_sR, hb.1]
  refine ⟨by rw [ty_33], ty_37, ?_⟩
  replace hb := BL_nw (by decide) (BL_sR (a := 33) (k := 2) (v := some 35) (by omega) hb)
  rw [gX5_init_28]
  refine ⟨by rw [ty_37], ?_⟩
  rw [eX8_init, hb.1]
  refine ⟨ty_38, ?_⟩
  replace hb := BL_nw (by decide) hb
  rw [gX8_init_9]
  refine ⟨by rw [ty_37], ?_⟩
  replace hb := BL_sR (a := 37) (k := 0) (v := some 38) (by omega) hb
  simp only [Option.toList_some, Option.toList_none, List.cons_append, List.nil_append]
  rw [gX5_init_32]
  refine ⟨by rw [ty_33], by rw [ty_33], ?_⟩
  replace hb := BL_sR (a := 33) (k := 4) (v := some 29) (by omega) (BL_sR (a := 33) (k := 3) (v := some 37) (by omega) hb)
  rw [gX5_init_42, if_pos (by decide), hb.1]
  rw [(hb.r 33 0 (by omega) (by omega)).trans (show lkg _ 33 0 = some 34 from rfl), rf_some]
  refine ⟨by rw [ty_33], ty_39, ?_⟩
  replace hb := BL_nw (by decide) hb
  rw [gX5_init_56]
  refine ⟨by rw [ty_39], ?_⟩
  rw [eX9_init]
  refine ⟨by rw [ty_39], ?_⟩
  replace hb := BL_sI (a := 39) (k := 6) (z := 4) (by omega) hb
  simp only [Option.toList_some, Option.toList_none, List.cons_append, List.nil_append]
  rw [gX5_init_60]
  refine ⟨⟨Or.inl (by rw [ty_34]), by rw [ty_39, ty_34]; rfl⟩, by rw [ty_34]; decide, ?_⟩
  rw [show (0 : Int32) + 1 = 1 from rfl, show (0 : Int32).toNatClampNeg = 0 from rfl]
  replace hb := BL_sR (a := 34) (k := 0) (v := some 39) (by omega) hb
  rw [gX5_init_42, if_pos (by decide), hb.1]
  rw [(hb.r 33 0 (by omega) (by omega)).trans (show lkg _ 33 0 = some 34 from rfl), rf_some]
  refine ⟨by rw [ty_33], ty_40, ?_⟩
  replace hb := BL_nw (by decide) hb
  rw [gX5_init_56]
  refine ⟨by rw [ty_40], ?_⟩
  rw [eX9_init]
  refine ⟨by rw [ty_40], ?_⟩
  replace hb := BL_sI (a := 40) (k := 6) (z := 4) (by omega) hb
  simp only [Option.toList_some, Option.toList_none, List.cons_append, List.nil_append]
  rw [gX5_init_60]
  refine ⟨⟨Or.inl (by rw [ty_34]), by rw [ty_40, ty_34]; rfl⟩, by rw [ty_34]; decide, ?_⟩
  rw [show (1 : Int32) + 1 = 2 from rfl, show (1 : Int32).toNatClampNeg = 1 from rfl]
  replace hb := BL_sR (a := 34) (k := 1) (v := some 40) (by omega) hb
  rw [gX5_init_42, if_pos (by decide), hb.1]
  rw [(hb.r 33 0 (by omega) (by omega)).trans (show lkg _ 33 0 = some 34 from rfl), rf_some]
  refine ⟨by rw [ty_33], ty_41, ?_⟩
  replace hb := BL_nw (by decide) hb
  rw [gX5_init_56]
  refine ⟨by rw [ty_41], ?_⟩
  rw [eX9_init]
  refine ⟨by rw [ty_41], ?_⟩
  replace hb := BL_sI (a := 41) (k := 6) (z := 4) (by omega) hb
  simp only [Option.toList_some, Option.toList_none, List.cons_append, List.nil_append]
  rw [gX5_init_60]
  refine ⟨⟨Or.inl (by rw [ty_34]), by rw [ty_41, ty_34]; rfl⟩, by rw [ty_34]; decide, ?_⟩
  rw [show (2 : Int32) + 1 = 3 from rfl, show (2 : Int32).toNatClampNeg = 2 from rfl]
  replace hb := BL_sR (a := 34) (k := 2) (v := some 41) (by omega) hb
  rw [gX5_init_42, if_pos (by decide), hb.1]
  rw [(hb.r 33 0 (by omega) (by omega)).trans (show lkg _ 33 0 = some 34 from rfl), rf_some]
  refine ⟨by rw [ty_33], ty_42, ?_⟩
  replace hb := BL_nw (by decide) hb
  rw [gX5_init_56]
  refine ⟨by rw [ty_42], ?_⟩
  rw [eX9_init]
  refine ⟨by rw [ty_42], ?_⟩
  replace hb := BL_sI (a := 42) (k := 6) (z := 4) (by omega) hb
  simp only [Option.toList_some, Option.toList_none, List.cons_append, List.nil_append]
  rw [gX5_init_60]
  refine ⟨⟨Or.inl (by rw [ty_34]), by rw [ty_42, ty_34]; rfl⟩, by rw [ty_34]; decide, ?_⟩
  rw [show (3 : Int32) + 1 = 4 from rfl, show (3 : Int32).toNatClampNeg = 3 from rfl]
  replace hb := BL_sR (a := 34) (k := 3) (v := some 42) (by omega) hb
  rw [gX5_init_42, if_pos (by decide), hb.1]
  rw [(hb.r 33 0 (by omega) (by omega)).trans (show lkg _ 33 0 = some 34 from rfl), rf_some]
  refine ⟨by rw [ty_33], ty_43, ?_⟩
  replace hb := BL_nw (by decide) hb
  rw [gX5_init_56]
  refine ⟨by rw [ty_43], ?_⟩
  rw [eX9_init]
  refine ⟨by rw [ty_43], ?_⟩
  replace hb := BL_sI (a := 43) (k := 6) (z := 4) (by omega) hb
  simp only [Option.toList_some, Option.toList_none, List.cons_append, List.nil_append]
  rw [gX5_init_60]
  refine ⟨⟨Or.inl (by rw [ty_34]), by rw [ty_43, ty_34]; rfl⟩, by rw [ty_34]; decide, ?_⟩
  rw [show (4 : Int32) + 1 = 5 from rfl, show (4 : Int32).toNatClampNeg = 4 from rfl]
  replace hb := BL_sR (a := 34) (k := 4) (v := some 43) (by omega) hb
  rw [gX5_init_42, if_pos (by decide), hb.1]
  rw [(hb.r 33 0 (by omega) (by omega)).trans (show lkg _ 33 0 = some 34 from rfl), rf_some]
  refine ⟨by rw [ty_33], ty_44, ?_⟩
  replace hb := BL_nw (by decide) hb
  rw [gX5_init_56]
  refine ⟨by rw [ty_44], ?_⟩
  rw [eX9_init]
  refine ⟨by rw [ty_44], ?_⟩
  replace hb := BL_sI (a := 44) (k := 6) (z := 4) (by omega) hb
  simp only [Option.toList_some, Option.toList_none, List.cons_append, List.nil_append]
  rw [gX5_init_60]
  refine ⟨⟨Or.inl (by rw [ty_34]), by rw [ty_44, ty_34]; rfl⟩, by rw [ty_34]; decide, ?_⟩
  rw [show (5 : Int32) + 1 = 6 from rfl, show (5 : Int32).toNatClampNeg = 5 from rfl]
  replace hb := BL_sR (a := 34) (k := 5) (v := some 44) (by omega) hb
  rw [gX5_init_42, if_neg (by decide)]
  simp only [Option.toList_some, Option.toList_none, List.cons_append, List.nil_append]
  rw [gX10_init_68, mN_sR, hb.1]
  refine ⟨by rw [ty_21], ty_45, ?_⟩
  replace hb := BL_nw (by decide) (BL_sR (a := 21) (k := 1) (v := some 33) (by omega) hb)
  rw [gX10_init_75]
  refine ⟨by rw [ty_45], ?_⟩
  rw [eX5_init, hb.1]
  refine ⟨ty_46, ?_⟩
  replace hb := BL_nw (by decide) hb
  rw [gX5_init_10, mN_sR, hb.1]
  refine ⟨by rw [ty_45], ty_47, ?_⟩
  replace hb := BL_nw (by decide) (BL_sR (a := 45) (k := 0) (v := some 46) (by omega) hb)
  rw [gX5_init_17]
  refine ⟨by rw [ty_47], ?_⟩
  rw [eX8_init, hb.1]
  refine ⟨ty_48, ?_⟩
  replace hb := BL_nw (by decide) hb
  rw [gX8_init_9]
  refine ⟨by rw [ty_47], ?_⟩
  replace hb := BL_sR (a := 47) (k := 0) (v := some 48) (by omega) hb
  simp only [Option.toList_some, Option.toList_none, List.cons_append, List.nil_append]
  rw [gX5_init_21, mN_sR, hb.1]
  refine ⟨by rw [ty_45], ty_49, ?_⟩
  replace hb := BL_nw (by decide) (BL_sR (a := 45) (k := 2) (v := some 47) (by omega) hb)
  rw [gX5_init_28]
  refine ⟨by rw [ty_49], ?_⟩
  rw [eX8_init, hb.1]
  refine ⟨ty_50, ?_⟩
  replace hb := BL_nw (by decide) hb
  rw [gX8_init_9]
  refine ⟨by rw [ty_49], ?_⟩
  replace hb := BL_sR (a := 49) (k := 0) (v := some 50) (by omega) hb
  simp only [Option.toList_some, Option.toList_none, List.cons_append, List.nil_append]
  rw [gX5_init_32]
  refine ⟨by rw [ty_45], by rw [ty_45], ?_⟩
  replace hb := BL_sR (a := 45) (k := 4) (v := some 29) (by omega) (BL_sR (a := 45) (k := 3) (v := some 49) (by omega) hb)
  rw [gX5_init_42, if_pos (by decide), hb.1]
  rw [(hb.r 45 0 (by omega) (by omega)).trans (show lkg _ 45 0 = some 46 from rfl), rf_some]
  refine ⟨by rw [ty_45], ty_51, ?_⟩
  replace hb := BL_nw (by decide) hb
  rw [gX5_init_56]
  refine ⟨by rw [ty_51], ?_⟩
  rw [eX9_init]
  refine ⟨by rw [ty_51], ?_⟩
  replace hb := BL_sI (a := 51) (k := 6) (z := 4) (by omega) hb
  simp only [Option.toList_some, Option.toList_none, List.cons_append, List.nil_append]
  rw [gX5_init_60]
  refine ⟨⟨Or.inl (by rw [ty_46]), by rw [ty_51, ty_46]; rfl⟩, by rw [ty_46]; decide, ?_⟩
  rw [show (0 : Int32) + 1 = 1 from rfl, show (0 : Int32).toNatClampNeg = 0 from rfl]
  replace hb := BL_sR (a := 46) (k := 0) (v := some 51) (by omega) hb
  rw [gX5_init_42, if_pos (by decide), hb.1]
  rw [(hb.r 45 0 (by omega) (by omega)).trans (show lkg _ 45 0 = some 46 from rfl), rf_some]
  refine ⟨by rw [ty_45], ty_52, ?_⟩
  replace hb := BL_nw (by decide) hb
  rw [gX5_init_56]
  refine ⟨by rw [ty_52], ?_⟩
  rw [eX9_init]
  refine ⟨by rw [ty_52], ?_⟩
  replace hb := BL_sI (a := 52) (k := 6) (z := 4) (by omega) hb
  simp only [Option.toList_some, Option.toList_none, List.cons_append, List.nil_append]
  rw [gX5_init_60]
  refine ⟨⟨Or.inl (by rw [ty_46]), by rw [ty_52, ty_46]; rfl⟩, by rw [ty_46]; decide, ?_⟩
  rw [show (1 : Int32) + 1 = 2 from rfl, show (1 : Int32).toNatClampNeg = 1 from rfl]
  replace hb := BL_sR (a := 46) (k := 1) (v := some 52) (by omega) hb
  rw [gX5_init_42, if_pos (by decide), hb.1]
  rw [(hb.r 45 0 (by omega) (by omega)).trans (show lkg _ 45 0 = some 46 from rfl), rf_some]
  refine ⟨by rw [ty_45], ty_53, ?_⟩
  replace hb := BL_nw (by decide) hb
  rw [gX5_init_56]
  refine ⟨by rw [ty_53], ?_⟩
  rw [eX9_init]
  refine ⟨by rw [ty_53], ?_⟩
  replace hb := BL_sI (a := 53) (k := 6) (z := 4) (by omega) hb
  simp only [Option.toList_some, Option.toList_none, List.cons_append, List.nil_append]
  rw [gX5_init_60]
  refine ⟨⟨Or.inl (by rw [ty_46]), by rw [ty_53, ty_46]; rfl⟩, by rw [ty_46]; decide, ?_⟩
  rw [show (2 : Int32) + 1 = 3 from rfl, show (2 : Int32).toNatClampNeg = 2 from rfl]
  replace hb := BL_sR (a := 46) (k := 2) (v := some 53) (by omega) hb
  rw [gX5_init_42, if_pos (by decide), hb.1]
  rw [(hb.r 45 0 (by omega) (by omega)).trans (show lkg _ 45 0 = some 46 from rfl), rf_some]
  refine ⟨by rw [ty_45], ty_54, ?_⟩
  replace hb := BL_nw (by decide) hb
  rw [gX5_init_56]
  refine ⟨by rw [ty_54], ?_⟩
  rw [eX9_init]
  refine ⟨by rw [ty_54], ?_⟩
  replace hb := BL_sI (a := 54) (k := 6) (z := 4) (by omega) hb
  simp only [Option.toList_some, Option.toList_none, List.cons_append, List.nil_append]
  rw [gX5_init_60]
  refine ⟨⟨Or.inl (by rw [ty_46]), by rw [ty_54, ty_46]; rfl⟩, by rw [ty_46]; decide, ?_⟩
  rw [show (3 : Int32) + 1 = 4 from rfl, show (3 : Int32).toNatClampNeg = 3 from rfl]
  replace hb := BL_sR (a := 46) (k := 3) (v := some 54) (by omega) hb
  rw [gX5_init_42, if_pos (by decide), hb.1]
  rw [(hb.r 45 0 (by omega) (by omega)).trans (show lkg _ 45 0 = some 46 from rfl), rf_some]
  refine ⟨by rw [ty_45], ty_55, ?_⟩
  replace hb := BL_nw (by decide) hb
  rw [gX5_init_56]
  refine ⟨by rw [ty_55], ?_⟩
  rw [eX9_init]
  refine ⟨by rw [ty_55], ?_⟩
  replace hb := BL_sI (a := 55) (k := 6) (z := 4) (by omega) hb
  simp only [Option.toList_some, Option.toList_none, List.cons_append, List.nil_append]
  rw [gX5_init_60]
  refine ⟨⟨Or.inl (by rw [ty_46]), by rw [ty_55, ty_46]; rfl⟩, by rw [ty_46]; decide, ?_⟩
  rw [show (4 : Int32) + 1 = 5 from rfl, show (4 : Int32).toNatClampNeg = 4 from rfl]
  replace hb := BL_sR (a := 46) (k := 4) (v := some 55) (by omega) hb
  rw [gX5_init_42, if_pos (by decide), hb.1]
  rw [(hb.r 45 0 (by omega) (by omega)).trans (show lkg _ 45 0 = some 46 from rfl), rf_some]
  refine ⟨by rw [ty_45], ty_56, ?_⟩
  replace hb := BL_nw (by decide) hb
  rw [gX5_init_56]
  refine ⟨by rw [ty_56], ?_⟩
  rw [eX9_init]
  refine ⟨by rw [ty_56], ?_⟩
  replace hb := BL_sI (a := 56) (k := 6) (z := 4) (by omega) hb
  simp only [Option.toList_some, Option.toList_none, List.cons_append, List.nil_append]
  rw [gX5_init_60]
  refine ⟨⟨Or.inl (by rw [ty_46]), by rw [ty_56, ty_46]; rfl⟩, by rw [ty_46]; decide, ?_⟩
  rw [show (5 : Int32) + 1 = 6 from rfl, show (5 : Int32).toNatClampNeg = 5 from rfl]
  replace hb := BL_sR (a := 46) (k := 5) (v := some 56) (by omega) hb
  rw [gX5_init_42, if_neg (by decide)]
  simp only [Option.toList_some, Option.toList_none, List.cons_append, List.nil_append]
  rw [gX10_init_80, mN_sR, hb.1]
  refine ⟨by rw [ty_21], ty_57, ?_⟩
  replace hb := BL_nw (by decide) (BL_sR (a := 21) (k := 2) (v := some 45) (by omega) hb)
  rw [gX10_init_87]
  refine ⟨by rw [ty_57], ?_⟩
  rw [eX2_init]
  refine ⟨by rw [ty_57], ?_⟩
  replace hb := BL_sR (a := 57) (k := 0) (v := some 29) (by omega) hb
  simp only [Option.toList_some, Option.toList_none, List.cons_append, List.nil_append]
  rw [gX10_init_92, mN_sR, hb.1]
  refine ⟨by rw [ty_21], ty_58, ?_⟩
  replace hb := BL_nw (by decide) (BL_sR (a := 21) (k := 3) (v := some 57) (by omega) hb)
  rw [gX10_init_99]
  refine ⟨by rw [ty_58], ?_⟩
  rw [eX1_init, hb.1]
  refine ⟨ty_59, ?_⟩
  replace hb := BL_nw (by decide) hb
  rw [gX1_init_9, mN_sR, hb.1]
  refine ⟨by rw [ty_58], ty_60, ?_⟩
  replace hb := BL_nw (by decide) (BL_sR (a := 58) (k := 0) (v := some 59) (by omega) hb)
  rw [gX1_init_17, mN_sR, hb.1]
  refine ⟨by rw [ty_58], ty_61, ?_⟩
  replace hb := BL_nw (by decide) (BL_sR (a := 58) (k := 1) (v := some 60) (by omega) hb)
  rw [gX1_init_24]
  refine ⟨by rw [ty_61], ?_⟩
  rw [eX2_init]
  refine ⟨by rw [ty_61], ?_⟩
  replace hb := BL_sR (a := 61) (k := 0) (v := some 29) (by omega) hb
  simp only [Option.toList_some, Option.toList_none, List.cons_append, List.nil_append]
  rw [gX1_init_29]
  refine ⟨by rw [ty_58], ?_⟩
  replace hb := BL_sR (a := 58) (k := 2) (v := some 61) (by omega) hb
  simp only [Option.toList_some, Option.toList_none, List.cons_append, List.nil_append]
  rw [gX10_init_104, mN_sR, hb.1]
  refine ⟨by rw [ty_21], ty_62, ?_⟩
  replace hb := BL_nw (by decide) (BL_sR (a := 21) (k := 5) (v := some 58) (by omega) hb)
  rw [gX10_init_111]
  refine ⟨by rw [ty_62], ?_⟩
  rw [eX1_init, hb.1]
  refine ⟨ty_63, ?_⟩
  replace hb := BL_nw (by decide) hb
  rw [gX1_init_9, mN_sR, hb.1]
  refine ⟨by rw [ty_62], ty_64, ?_⟩
  replace hb := BL_nw (by decide) (BL_sR (a := 62) (k := 0) (v := some 63) (by omega) hb)
  rw [gX1_init_17, mN_sR, hb.1]
  refine ⟨by rw [ty_62], ty_65, ?_⟩
  replace hb := BL_nw (by decide) (BL_sR (a := 62) (k := 1) (v := some 64) (by omega) hb)
  rw [gX1_init_24]
  refine ⟨by rw [ty_65], ?_⟩
  rw [eX2_init]
  refine ⟨by rw [ty_65], ?_⟩
  replace hb := BL_sR (a := 65) (k := 0) (v := some 29) (by omega) hb
  simp only [Option.toList_some, Option.toList_none, List.cons_append, List.nil_append]
  rw [gX1_init_29]
  refine ⟨by rw [ty_62], ?_⟩
  replace hb := BL_sR (a := 62) (k := 2) (v := some 65) (by omega) hb
  simp only [Option.toList_some, Option.toList_none, List.cons_append, List.nil_append]
  rw [gX10_init_116, mN_sR, hb.1]
  refine ⟨by rw [ty_21], ty_66, ?_⟩
  replace hb := BL_nw (by decide) (BL_sR (a := 21) (k := 6) (v := some 62) (by omega) hb)
  rw [gX10_init_123]
  refine ⟨by rw [ty_66], ?_⟩
  rw [eX4_init, hb.1]
  refine ⟨ty_67, ?_⟩
  replace hb := BL_nw (by decide) hb
  rw [gX4_init_10, mN_sR, hb.1]
  refine ⟨by rw [ty_66], ty_68, ?_⟩
  replace hb := BL_nw (by decide) (BL_sR (a := 66) (k := 0) (v := some 67) (by omega) hb)
  rw [gX4_init_19, mN_sR, hb.1]
  refine ⟨by rw [ty_66], ty_69, ?_⟩
  replace hb := BL_nw (by decide) (BL_sR (a := 66) (k := 1) (v := some 68) (by omega) hb)
  rw [gX4_init_26]
  refine ⟨by rw [ty_69], ?_⟩
  rw [eX2_init]
  refine ⟨by rw [ty_69], ?_⟩
  replace hb := BL_sR (a := 69) (k := 0) (v := some 29) (by omega) hb
  simp only [Option.toList_some, Option.toList_none, List.cons_append, List.nil_append]
  rw [gX4_init_31]
  refine ⟨by rw [ty_66], ?_⟩
  replace hb := BL_sR (a := 66) (k := 2) (v := some 69) (by omega) hb
  simp only [Option.toList_some, Option.toList_none, List.cons_append, List.nil_append]
  rw [gX10_init_128]
  refine ⟨by rw [ty_21], ?_⟩
  replace hb := BL_sR (a := 21) (k := 7) (v := some 66) (by omega) hb
  rw [gX10_init_133, if_pos (by decide), hb.1]
  rw [(hb.r 21 9 (by omega) (by omega)).trans (show lkg _ 21 9 = some 28 from rfl), rf_some]
  refine ⟨by rw [ty_21], ty_70, ?_⟩
  replace hb := BL_nw (by decide) hb
  rw [gX10_init_147]
  refine ⟨by rw [ty_70], ?_⟩
  rw [eX6_init, hb.1]
  refine ⟨ty_71, ?_⟩
  replace hb := BL_nw (by decide) hb
  rw [gX6_init_9]
  refine ⟨by rw [ty_70], by rw [ty_70], ?_⟩
  replace hb := BL_sI (a := 70) (k := 1) (z := -1) (by omega) (BL_sR (a := 70) (k := 0) (v := some 71) (by omega) hb)
  simp only [Option.toList_some, Option.toList_none, List.cons_append, List.nil_append]
  rw [gX10_init_151]
  refine ⟨⟨Or.inr (by rw [ty_28]), by rw [ty_70, ty_28]; rfl⟩, by rw [ty_28]; decide, ?_⟩
  rw [show (0 : Int32) + 1 = 1 from rfl, show (0 : Int32).toNatClampNeg = 0 from rfl]
  replace hb := BL_sR (a := 28) (k := 0) (v := some 70) (by omega) hb
  rw [gX10_init_133, if_pos (by decide), hb.1]
  rw [(hb.r 21 9 (by omega) (by omega)).trans (show lkg _ 21 9 = some 28 from rfl), rf_some]
  refine ⟨by rw [ty_21], ty_72, ?_⟩
  replace hb := BL_nw (by decide) hb
  rw [gX10_init_147]
  refine ⟨by rw [ty_72], ?_⟩
  rw [eX6_init, hb.1]
  refine ⟨ty_73, ?_⟩
  replace hb := BL_nw (by decide) hb
  rw [gX6_init_9]
  refine ⟨by rw [ty_72], by rw [ty_72], ?_⟩
  replace hb := BL_sI (a := 72) (k := 1) (z := -1) (by omega) (BL_sR (a := 72) (k := 0) (v := some 73) (by omega) hb)
  simp only [Option.toList_some, Option.toList_none, List.cons_append, List.nil_append]
  rw [gX10_init_151]
  refine ⟨⟨Or.inr (by rw [ty_28]), by rw [ty_72, ty_28]; rfl⟩, by rw [ty_28]; decide, ?_⟩
  rw [show (1 : Int32) + 1 = 2 from rfl, show (1 : Int32).toNatClampNeg = 1 from rfl]
  replace hb := BL_sR (a := 28) (k := 1) (v := some 72) (by omega) hb
  rw [gX10_init_133, if_pos (by decide), hb.1]
  rw [(hb.r 21 9 (by omega) (by omega)).trans (show lkg _ 21 9 = some 28 from rfl), rf_some]
  refine ⟨by rw [ty_21], ty_74, ?_⟩
  replace hb := BL_nw (by decide) hb
  rw [gX10_init_147]
  refine ⟨by rw [ty_74], ?_⟩
  rw [eX6_init, hb.1]
  refine ⟨ty_75, ?_⟩
  replace hb := BL_nw (by decide) hb
  rw [gX6_init_9]
  refine ⟨by rw [ty_74], by rw [ty_74], ?_⟩
  replace hb := BL_sI (a := 74) (k := 1) (z := -1) (by omega) (BL_sR (a := 74) (k := 0) (v := some 75) (by omega) hb)
  simp only [Option.toList_some, Option.toList_none, List.cons_append, List.nil_append]
  rw [gX10_init_151]
  refine ⟨⟨Or.inr (by rw [ty_28]), by rw [ty_74, ty_28]; rfl⟩, by rw [ty_28]; decide, ?_⟩
  rw [show (2 : Int32) + 1 = 3 from rfl, show (2 : Int32).toNatClampNeg = 2 from rfl]
  replace hb := BL_sR (a := 28) (k := 2) (v := some 74) (by omega) hb
  rw [gX10_init_133, if_pos (by decide), hb.1]
  rw [(hb.r 21 9 (by omega) (by omega)).trans (show lkg _ 21 9 = some 28 from rfl), rf_some]
  refine ⟨by rw [ty_21], ty_76, ?_⟩
  replace hb := BL_nw (by decide) hb
  rw [gX10_init_147]
  refine ⟨by rw [ty_76], ?_⟩
  rw [eX6_init, hb.1]
  refine ⟨ty_77, ?_⟩
  replace hb := BL_nw (by decide) hb
  rw [gX6_init_9]
  refine ⟨by rw [ty_76], by rw [ty_76], ?_⟩
  replace hb := BL_sI (a := 76) (k := 1) (z := -1) (by omega) (BL_sR (a := 76) (k := 0) (v := some 77) (by omega) hb)
  simp only [Option.toList_some, Option.toList_none, List.cons_append, List.nil_append]
  rw [gX10_init_151]
  refine ⟨⟨Or.inr (by rw [ty_28]), by rw [ty_76, ty_28]; rfl⟩, by rw [ty_28]; decide, ?_⟩
  rw [show (3 : Int32) + 1 = 4 from rfl, show (3 : Int32).toNatClampNeg = 3 from rfl]
  replace hb := BL_sR (a := 28) (k := 3) (v := some 76) (by omega) hb
  rw [gX10_init_133, if_pos (by decide), hb.1]
  rw [(hb.r 21 9 (by omega) (by omega)).trans (show lkg _ 21 9 = some 28 from rfl), rf_some]
  refine ⟨by rw [ty_21], ty_78, ?_⟩
  replace hb := BL_nw (by decide) hb
  rw [gX10_init_147]
  refine ⟨by rw [ty_78], ?_⟩
  rw [eX6_init, hb.1]
  refine ⟨ty_79, ?_⟩
  replace hb := BL_nw (by decide) hb
  rw [gX6_init_9]
  refine ⟨by rw [ty_78], by rw [ty_78], ?_⟩
  replace hb := BL_sI (a := 78) (k := 1) (z := -1) (by omega) (BL_sR (a := 78) (k := 0) (v := some 79) (by omega) hb)
  simp only [Option.toList_some, Option.toList_none, List.cons_append, List.nil_append]
  rw [gX10_init_151]
  refine ⟨⟨Or.inr (by rw [ty_28]), by rw [ty_78, ty_28]; rfl⟩, by rw [ty_28]; decide, ?_⟩
  rw [show (4 : Int32) + 1 = 5 from rfl, show (4 : Int32).toNatClampNeg = 4 from rfl]
  replace hb := BL_sR (a := 28) (k := 4) (v := some 78) (by omega) hb
  rw [gX10_init_133, if_pos (by decide), hb.1]
  rw [(hb.r 21 9 (by omega) (by omega)).trans (show lkg _ 21 9 = some 28 from rfl), rf_some]
  refine ⟨by rw [ty_21], ty_80, ?_⟩
  replace hb := BL_nw (by decide) hb
  rw [gX10_init_147]
  refine ⟨by rw [ty_80], ?_⟩
  rw [eX6_init, hb.1]
  refine ⟨ty_81, ?_⟩
  replace hb := BL_nw (by decide) hb
  rw [gX6_init_9]
  refine ⟨by rw [ty_80], by rw [ty_80], ?_⟩
  replace hb := BL_sI (a := 80) (k := 1) (z := -1) (by omega) (BL_sR (a := 80) (k := 0) (v := some 81) (by omega) hb)
  simp only [Option.toList_some, Option.toList_none, List.cons_append, List.nil_append]
  rw [gX10_init_151]
  refine ⟨⟨Or.inr (by rw [ty_28]), by rw [ty_80, ty_28]; rfl⟩, by rw [ty_28]; decide, ?_⟩
  rw [show (5 : Int32) + 1 = 6 from rfl, show (5 : Int32).toNatClampNeg = 5 from rfl]
  replace hb := BL_sR (a := 28) (k := 5) (v := some 80) (by omega) hb
  rw [gX10_init_133, if_neg (by decide)]
  simp only [Option.toList_some, Option.toList_none, List.cons_append, List.nil_append]
  rw [gL_law_7, hb.1]
  refine ⟨ty_82, ?_⟩
  replace hb := BL_nw (by decide) hb
  rw [gL_law_11]
  refine ⟨by rw [ty_82], ?_⟩
  rw [eX11_init, hb.1]
  refine ⟨ty_83, ?_⟩
  replace hb := BL_nw (by decide) hb
  rw [gX11_init_9, mN_sR, hb.1]
  refine ⟨by rw [ty_82], ty_84, ?_⟩
  replace hb := BL_nw (by decide) (BL_sR (a := 82) (k := 0) (v := some 83) (by omega) hb)
  rw [gX11_init_17, mN_sR, hb.1]
  refine ⟨by rw [ty_82], ty_85, ?_⟩
  replace hb := BL_nw (by decide) (BL_sR (a := 82) (k := 1) (v := some 84) (by omega) hb)
  rw [gX11_init_25, mN_sR, hb.1]
  refine ⟨by rw [ty_82], ty_86, ?_⟩
  replace hb := BL_nw (by decide) (BL_sR (a := 82) (k := 3) (v := some 85) (by omega) hb)
  rw [gX11_init_33, mN_sR, hb.1]
  refine ⟨by rw [ty_82], ty_87, ?_⟩
  replace hb := BL_nw (by decide) (BL_sR (a := 82) (k := 4) (v := some 86) (by omega) hb)
  rw [gX11_init_42, mN_sR, hb.1]
  refine ⟨by rw [ty_82], ty_88, ?_⟩
  replace hb := BL_nw (by decide) (BL_sR (a := 82) (k := 5) (v := some 87) (by omega) hb)
  rw [gX11_init_50, mN_sR, hb.1]
  refine ⟨by rw [ty_82], ty_89, ?_⟩
  replace hb := BL_nw (by decide) (BL_sR (a := 82) (k := 7) (v := some 88) (by omega) hb)
  rw [gX11_init_58, mN_sR, hb.1]
  refine ⟨by rw [ty_82], ty_90, ?_⟩
  replace hb := BL_nw (by decide) (BL_sR (a := 82) (k := 12) (v := some 89) (by omega) hb)
  rw [gX11_init_67, mN_sR, hb.1]
  refine ⟨by rw [ty_82], ty_91, ?_⟩
  replace hb := BL_nw (by decide) (BL_sR (a := 82) (k := 15) (v := some 90) (by omega) hb)
  rw [gX11_init_76, mN_sR, hb.1]
  refine ⟨by rw [ty_82], ty_92, ?_⟩
  replace hb := BL_nw (by decide) (BL_sR (a := 82) (k := 16) (v := some 91) (by omega) hb)
  rw [gX11_init_85, mN_sR, hb.1]
  refine ⟨by rw [ty_82], ty_93, ?_⟩
  replace hb := BL_nw (by decide) (BL_sR (a := 82) (k := 17) (v := some 92) (by omega) hb)
  rw [gX11_init_94, mN_sR, hb.1]
  refine ⟨by rw [ty_82], ty_94, ?_⟩
  replace hb := BL_nw (by decide) (BL_sR (a := 82) (k := 18) (v := some 93) (by omega) hb)
  rw [gX11_init_102, mN_sR, hb.1]
  refine ⟨by rw [ty_82], ty_95, ?_⟩
  replace hb := BL_nw (by decide) (BL_sR (a := 82) (k := 25) (v := some 94) (by omega) hb)
  rw [gX11_init_110, mN_sR, hb.1]
  refine ⟨by rw [ty_82], ty_96, ?_⟩
  replace hb := BL_nw (by decide) (BL_sR (a := 82) (k := 26) (v := some 95) (by omega) hb)
  rw [gX11_init_118, mN_sR, hb.1]
  refine ⟨by rw [ty_82], ty_97, ?_⟩
  replace hb := BL_nw (by decide) (BL_sR (a := 82) (k := 27) (v := some 96) (by omega) hb)
  rw [gX11_init_126, mN_sR, hb.1]
  refine ⟨by rw [ty_82], ty_98, ?_⟩
  replace hb := BL_nw (by decide) (BL_sR (a := 82) (k := 30) (v := some 97) (by omega) hb)
  rw [gX11_init_134, mN_sR, hb.1]
  refine ⟨by rw [ty_82], ty_99, ?_⟩
  replace hb := BL_nw (by decide) (BL_sR (a := 82) (k := 31) (v := some 98) (by omega) hb)
  rw [gX11_init_142, mN_sR, hb.1]
  refine ⟨by rw [ty_82], ty_100, ?_⟩
  replace hb := BL_nw (by decide) (BL_sR (a := 82) (k := 32) (v := some 99) (by omega) hb)
  rw [gX11_init_151]
  replace hb := BL_sR (a := 82) (k := 33) (v := some 100) (by omega) hb
  refine ⟨by rw [ty_82], by rw [ty_82], 83, (hb.r 82 0 (by omega) (by omega)).trans rfl, by rw [ty_83], by rw [ty_83]; decide, ?_⟩
  rw [show (1 : Int32).toNatClampNeg = 1 from rfl]
  replace hb := BL_sI (a := 83) (k := 1) (z := -1) (by omega) hb
  simp only [Option.toList_some, Option.toList_none, List.cons_append, List.nil_append]
  rw [gL_law_15, show (0 : Int32) = vI (6 * 0) from rfl]
  exact h _ hb
