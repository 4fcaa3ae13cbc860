/-! ===== 39: the invariant of the class and the reference ===== -/
def ptC : List (Nat × Nat × Nat) := [(21, 0, 22), (21, 1, 33), (21, 2, 45), (21, 3, 57), (21, 4, 25), (21, 5, 58), (21, 6, 62), (21, 7, 66), (21, 8, 26), (21, 9, 28), (22, 0, 23), (22, 1, 24), (26, 0, 27), (28, 0, 70), (28, 1, 72), (28, 2, 74), (28, 3, 76), (28, 4, 78), (28, 5, 80), (33, 0, 34), (33, 2, 35), (33, 3, 37), (34, 0, 39), (34, 1, 40), (34, 2, 41), (34, 3, 42), (34, 4, 43), (34, 5, 44), (35, 0, 36), (37, 0, 38), (45, 0, 46), (45, 2, 47), (45, 3, 49), (46, 0, 51), (46, 1, 52), (46, 2, 53), (46, 3, 54), (46, 4, 55), (46, 5, 56), (47, 0, 48), (49, 0, 50), (70, 0, 71), (72, 0, 73), (74, 0, 75), (76, 0, 77), (78, 0, 79), (80, 0, 81)]
def PC (M : MM) : Prop := ∀ t ∈ ptC, mR M t.1 t.2.1 = some t.2.2
theorem pc_21_0 {M : MM} (h : PC M) : mR M 21 0 = some 22 := h (21, 0, 22) (by decide)
theorem pc_21_1 {M : MM} (h : PC M) : mR M 21 1 = some 33 := h (21, 1, 33) (by decide)
theorem pc_21_2 {M : MM} (h : PC M) : mR M 21 2 = some 45 := h (21, 2, 45) (by decide)
theorem pc_21_3 {M : MM} (h : PC M) : mR M 21 3 = some 57 := h (21, 3, 57) (by decide)
theorem pc_21_4 {M : MM} (h : PC M) : mR M 21 4 = some 25 := h (21, 4, 25) (by decide)
theorem pc_21_5 {M : MM} (h : PC M) : mR M 21 5 = some 58 := h (21, 5, 58) (by decide)
theorem pc_21_6 {M : MM} (h : PC M) : mR M 21 6 = some 62 := h (21, 6, 62) (by decide)
theorem pc_21_7 {M : MM} (h : PC M) : mR M 21 7 = some 66 := h (21, 7, 66) (by decide)
theorem pc_21_8 {M : MM} (h : PC M) : mR M 21 8 = some 26 := h (21, 8, 26) (by decide)
theorem pc_21_9 {M : MM} (h : PC M) : mR M 21 9 = some 28 := h (21, 9, 28) (by decide)
theorem pc_22_0 {M : MM} (h : PC M) : mR M 22 0 = some 23 := h (22, 0, 23) (by decide)
theorem pc_22_1 {M : MM} (h : PC M) : mR M 22 1 = some 24 := h (22, 1, 24) (by decide)
theorem pc_26_0 {M : MM} (h : PC M) : mR M 26 0 = some 27 := h (26, 0, 27) (by decide)
theorem pc_28_0 {M : MM} (h : PC M) : mR M 28 0 = some 70 := h (28, 0, 70) (by decide)
theorem pc_28_1 {M : MM} (h : PC M) : mR M 28 1 = some 72 := h (28, 1, 72) (by decide)
theorem pc_28_2 {M : MM} (h : PC M) : mR M 28 2 = some 74 := h (28, 2, 74) (by decide)
theorem pc_28_3 {M : MM} (h : PC M) : mR M 28 3 = some 76 := h (28, 3, 76) (by decide)
theorem pc_28_4 {M : MM} (h : PC M) : mR M 28 4 = some 78 := h (28, 4, 78) (by decide)
theorem pc_28_5 {M : MM} (h : PC M) : mR M 28 5 = some 80 := h (28, 5, 80) (by decide)
theorem pc_33_0 {M : MM} (h : PC M) : mR M 33 0 = some 34 := h (33, 0, 34) (by decide)
theorem pc_33_2 {M : MM} (h : PC M) : mR M 33 2 = some 35 := h (33, 2, 35) (by decide)
theorem pc_33_3 {M : MM} (h : PC M) : mR M 33 3 = some 37 := h (33, 3, 37) (by decide)
theorem pc_34_0 {M : MM} (h : PC M) : mR M 34 0 = some 39 := h (34, 0, 39) (by decide)
theorem pc_34_1 {M : MM} (h : PC M) : mR M 34 1 = some 40 := h (34, 1, 40) (by decide)
theorem pc_34_2 {M : MM} (h : PC M) : mR M 34 2 = some 41 := h (34, 2, 41) (by decide)
theorem pc_34_3 {M : MM} (h : PC M) : mR M 34 3 = some 42 := h (34, 3, 42) (by decide)
theorem pc_34_4 {M : MM} (h : PC M) : mR M 34 4 = some 43 := h (34, 4, 43) (by decide)
theorem pc_34_5 {M : MM} (h : PC M) : mR M 34 5 = some 44 := h (34, 5, 44) (by decide)
theorem pc_35_0 {M : MM} (h : PC M) : mR M 35 0 = some 36 := h (35, 0, 36) (by decide)
theorem pc_37_0 {M : MM} (h : PC M) : mR M 37 0 = some 38 := h (37, 0, 38) (by decide)
theorem pc_45_0 {M : MM} (h : PC M) : mR M 45 0 = some 46 := h (45, 0, 46) (by decide)
theorem pc_45_2 {M : MM} (h : PC M) : mR M 45 2 = some 47 := h (45, 2, 47) (by decide)
theorem pc_45_3 {M : MM} (h : PC M) : mR M 45 3 = some 49 := h (45, 3, 49) (by decide)
theorem pc_46_0 {M : MM} (h : PC M) : mR M 46 0 = some 51 := h (46, 0, 51) (by decide)
theorem pc_46_1 {M : MM} (h : PC M) : mR M 46 1 = some 52 := h (46, 1, 52) (by decide)
theorem pc_46_2 {M : MM} (h : PC M) : mR M 46 2 = some 53 := h (46, 2, 53) (by decide)
theorem pc_46_3 {M : MM} (h : PC M) : mR M 46 3 = some 54 := h (46, 3, 54) (by decide)
theorem pc_46_4 {M : MM} (h : PC M) : mR M 46 4 = some 55 := h (46, 4, 55) (by decide)
theorem pc_46_5 {M : MM} (h : PC M) : mR M 46 5 = some 56 := h (46, 5, 56) (by decide)
theorem pc_47_0 {M : MM} (h : PC M) : mR M 47 0 = some 48 := h (47, 0, 48) (by decide)
theorem pc_49_0 {M : MM} (h : PC M) : mR M 49 0 = some 50 := h (49, 0, 50) (by decide)
theorem pc_70_0 {M : MM} (h : PC M) : mR M 70 0 = some 71 := h (70, 0, 71) (by decide)
theorem pc_72_0 {M : MM} (h : PC M) : mR M 72 0 = some 73 := h (72, 0, 73) (by decide)
theorem pc_74_0 {M : MM} (h : PC M) : mR M 74 0 = some 75 := h (74, 0, 75) (by decide)
theorem pc_76_0 {M : MM} (h : PC M) : mR M 76 0 = some 77 := h (76, 0, 77) (by decide)
theorem pc_78_0 {M : MM} (h : PC M) : mR M 78 0 = some 79 := h (78, 0, 79) (by decide)
theorem pc_80_0 {M : MM} (h : PC M) : mR M 80 0 = some 81 := h (80, 0, 81) (by decide)
theorem pc_34 {M : MM} (h : PC M) {j : Nat} (hj : j < 6) : mR M 34 j = some (39 + j) := by
  have h6 : j = 0 ∨ j = 1 ∨ j = 2 ∨ j = 3 ∨ j = 4 ∨ j = 5 := by omega
  rcases h6 with rfl | rfl | rfl | rfl | rfl | rfl
  · exact pc_34_0 h
  · exact pc_34_1 h
  · exact pc_34_2 h
  · exact pc_34_3 h
  · exact pc_34_4 h
  · exact pc_34_5 h
theorem pc_46 {M : MM} (h : PC M) {j : Nat} (hj : j < 6) : mR M 46 j = some (51 + j) := by
  have h6 : j = 0 ∨ j = 1 ∨ j = 2 ∨ j = 3 ∨ j = 4 ∨ j = 5 := by omega
  rcases h6 with rfl | rfl | rfl | rfl | rfl | rfl
  · exact pc_46_0 h
  · exact pc_46_1 h
  · exact pc_46_2 h
  · exact pc_46_3 h
  · exact pc_46_4 h
  · exact pc_46_5 h
theorem pc_28 {M : MM} (h : PC M) {j : Nat} (hj : j < 6) : mR M 28 j = some (70 + 2 * j) := by
  have h6 : j = 0 ∨ j = 1 ∨ j = 2 ∨ j = 3 ∨ j = 4 ∨ j = 5 := by omega
  rcases h6 with rfl | rfl | rfl | rfl | rfl | rfl
  · exact pc_28_0 h
  · exact pc_28_1 h
  · exact pc_28_2 h
  · exact pc_28_3 h
  · exact pc_28_4 h
  · exact pc_28_5 h
theorem pc_70 {M : MM} (h : PC M) {j : Nat} (hj : j < 6) : mR M (70 + 2 * j) 0 = some (71 + 2 * j) := by
  have h6 : j = 0 ∨ j = 1 ∨ j = 2 ∨ j = 3 ∨ j = 4 ∨ j = 5 := by omega
  rcases h6 with rfl | rfl | rfl | rfl | rfl | rfl
  · exact pc_70_0 h
  · exact pc_72_0 h
  · exact pc_74_0 h
  · exact pc_76_0 h
  · exact pc_78_0 h
  · exact pc_80_0 h

theorem ty_w : ∀ j : Nat, j < 6 → TY (39 + j) = (9, 0) := by decide +kernel
theorem ty_kw : ∀ j : Nat, j < 6 → TY (51 + j) = (9, 0) := by decide +kernel
theorem ty_t : ∀ j : Nat, j < 6 → TY (70 + 2 * j) = (6, 0) := by decide +kernel
theorem ty_ti : ∀ j : Nat, j < 6 → TY (71 + 2 * j) = (21, 60) := by decide +kernel
def MWs (M : MM) (ms w kd v c f bt gn cm : Nat) : Prop := mI M ms (4 + 7 * w + 0) = vI kd ∧ mI M ms (4 + 7 * w + 1) = vI v ∧ mI M ms (4 + 7 * w + 2) = vI c ∧ mI M ms (4 + 7 * w + 3) = vI f ∧ mI M ms (4 + 7 * w + 4) = vI bt ∧ mI M ms (4 + 7 * w + 5) = vI (nxc c cm) ∧ mI M ms (4 + 7 * w + 6) = vI gn
def WkP (n : Nat) (M : MM) (a ms w : Nat) : Prop := ∃ kd v c f bt gn cm : Nat, kd < 7 ∧ v < 10 ∧ bt < 8 ∧ gn ≤ n ∧ vld c f cm ∧ WK M a kd v c f bt gn cm ∧ MWs M ms w kd v c f bt gn cm
def ScnL (L : Nat) (M : MM) (sc ms : Nat) : Prop := (mI M ms 1 = -1 ∧ mR M sc 4 = some 29) ∨ ∃ i : Nat, i < L ∧ mI M ms 1 = vI i ∧ mR M sc 4 = some (101 + 3 * i)
def ScnW (n : Nat) (M : MM) (sc ms : Nat) : Prop := ∃ nw : Nat, nw ≤ 6 ∧ mI M sc 1 = vI nw ∧ mI M ms 0 = vI nw ∧ ∀ w : Nat, w < nw → WkP n M (sc + 6 + w) ms w
def ScnR (M : MM) (sc ms : Nat) : Prop := ∃ r : Nat, r ≤ 12 ∧ mI M (sc + 2) 1 = vI r ∧ mI M ms 2 = vI r ∧ ∀ j : Nat, j < r → ∃ a : Nat, a < 6 ∧ mI M (sc + 3) j = vI a ∧ mI M ms (46 + j) = vI a
def ScnT (M : MM) (sc ms : Nat) : Prop := ∃ r : Nat, r ≤ 12 ∧ mI M (sc + 4) 1 = vI r ∧ mI M ms 3 = vI r ∧ ∀ j : Nat, j < r → ∃ c : Nat, c < 36 ∧ mI M (sc + 5) j = vI c ∧ mI M ms (58 + j) = vI c
def Scn (n L : Nat) (M : MM) (sc ms : Nat) : Prop := ScnL L M sc ms ∧ ScnW n M sc ms ∧ ScnR M sc ms ∧ ScnT M sc ms
def MEi (M : MM) (i onN bk : Nat) (mk : Nat → Nat → Prop) : Prop := mI M 85 i = vI onN ∧ mI M 86 i = vI bk ∧ ∀ k c : Nat, k < 4 → c < 36 → (((iShr (mI M 87 (36 * i + c)) (vI k)) &&& 1) = 1 ↔ mk k c)
def Lnd (L : Nat) (M : MM) : Prop := L ≤ 6 ∧ mI M 21 10 = vI L ∧ mI M 82 6 = vI L ∧ mN M = 101 + 3 * L ∧ LandC M 29 2 1 (fun _ _ => False) ∧ ∀ i : Nat, i < L → ∃ (onN bk : Nat) (mk : Nat → Nat → Prop), bnL onN bk ∧ LandC M (101 + 3 * i) onN bk mk ∧ MEi M i onN bk mk
def Txt (M : MM) : Prop := ∃ T : Nat, T ≤ 100 ∧ mI M 22 5 = vI T ∧ mI M 82 8 = vI T ∧ ∀ j : Nat, j < T → ∃ z : Nat, z < 128 ∧ mI M 23 j = vI z ∧ mI M 88 j = vI z
def Bod (M : MM) : Prop := ∃ r : Nat, r < 1000 ∧ mI M 26 1 = vI r ∧ mI M 82 28 = vI r ∧ ∀ j : Nat, j < r → j < 20 → mI M 27 j = mI M 96 j
def TapE (M : MM) (t : Nat) : Prop := mI M 99 t = 0 ∧ mI M (70 + 2 * t) 1 = -1 ∧ mI M (70 + 2 * t) 2 = 0
def TapF (M : MM) (t s z : Nat) : Prop := s ≤ 4 ∧ z ≤ 60 ∧ mI M 99 t = 1 ∧ mI M (70 + 2 * t) 1 = vI s ∧ mI M 97 t = vI s ∧ mI M (70 + 2 * t) 2 = vI z ∧ mI M 98 t = vI z ∧ ∀ j : Nat, j < 60 → mL M (71 + 2 * t) j = mL M 100 (60 * t + j)
def Tap (M : MM) : Prop := ∀ t : Nat, t < 6 → TapE M t ∨ ∃ s z : Nat, TapF M t s z
def Img (n L : Nat) (M : MM) : Prop := ∃ b : Bool, mI M 21 11 = b2i b ∧ mI M 82 2 = b2i b ∧ (b = true → Scn n L M 45 84)
def LtQ (M : MM) : Prop := ∃ qh qt : Nat, mR M 66 0 = some qh ∧ mR M 66 1 = some qt ∧ mR M 66 2 = some 69 ∧ ((qh = 67 ∧ qt = 68) ∨ (qh = 68 ∧ qt = 67))
def SOK (M : MM) : Prop := CrQ M 58 ∧ CrQ M 62 ∧ LtQ M
def Fix (MZ M : MM) : Prop := ∀ a : Nat, a ≤ 20 → mI M a = mI MZ a ∧ mR M a = mR MZ a
def INV (MZ : MM) (n : Nat) (M : MM) : Prop := PC M ∧ PM M ∧ SOK M ∧ Fix MZ M ∧ (∃ L : Nat, Lnd L M ∧ Scn n L M 33 83 ∧ Img n L M) ∧ Txt M ∧ Bod M ∧ Tap M
/- what a question may change -/
def Sg (a : Nat) : Prop := a = 24 ∨ a = 25 ∨ (57 ≤ a ∧ a ≤ 69) ∨ a = 82 ∨ a = 89 ∨ (90 ≤ a ∧ a ≤ 95)
def AG (M M' : MM) : Prop := mN M' = mN M ∧ (∀ a : Nat, ¬ Sg a → mI M' a = mI M a ∧ mL M' a = mL M a ∧ mR M' a = mR M a) ∧ mR M' 82 = mR M 82 ∧ ∀ k : Nat, k = 2 ∨ k = 6 ∨ k = 8 ∨ k = 28 → mI M' 82 k = mI M 82 k
theorem AG.refl (M : MM) : AG M M := ⟨rfl, fun _ _ => ⟨rfl, rfl, rfl⟩, rfl, fun _ _ => rfl⟩
theorem AG.trans {M M1 M2 : MM} (h1 : AG M M1) (h2 : AG M1 M2) : AG M M2 := ⟨h2.1.trans h1.1, fun a ha => ⟨(h2.2.1 a ha).1.trans (h1.2.1 a ha).1, (h2.2.1 a ha).2.1.trans (h1.2.1 a ha).2.1, (h2.2.1 a ha).2.2.trans (h1.2.1 a ha).2.2⟩, h2.2.2.1.trans h1.2.2.1, fun k hk => (h2.2.2.2 k hk).trans (h1.2.2.2 k hk)⟩
def Sq (a : Nat) : Prop := a = 25 ∨ (57 ≤ a ∧ a ≤ 69)
theorem AG.fm {S : Nat → Prop} {M M' : MM} (h : FM S M M') (hs : ∀ a : Nat, S a → Sq a) : AG M M' :=
  ⟨h.1, fun a ha => h.2 a (fun h2 => ha (by have := hs a h2; unfold Sq at this; unfold Sg; omega)), h.r (fun h2 => by have := hs _ h2; unfold Sq at this; omega), fun k _ => by rw [h.i (fun h2 => by have := hs _ h2; unfold Sq at this; omega)]⟩
theorem AG.fn {M M' : MM} (h : FN M M') : AG M M' :=
  ⟨h.1, fun a ha => h.2.1 a (fun h2 => ha (by unfold Sg; omega)) (fun h2 => ha (by unfold Sg; omega)), h.2.2.1, fun k hk => h.2.2.2 k (by omega)⟩
theorem WK_ag {M M' : MM} {a kd v c f bt gn w : Nat} (h : mI M' a = mI M a) (hW : WK M a kd v c f bt gn w) : WK M' a kd v c f bt gn w := by
  unfold WK at hW ⊢; rw [h]; exact hW
theorem MWs_ag {M M' : MM} {ms w kd v c f bt gn cm : Nat} (h : mI M' ms = mI M ms) (hW : MWs M ms w kd v c f bt gn cm) : MWs M' ms w kd v c f bt gn cm := by
  unfold MWs at hW ⊢; rw [h]; exact hW
theorem WkP_ag {n : Nat} {M M' : MM} {a ms w : Nat} (h1 : mI M' a = mI M a) (h2 : mI M' ms = mI M ms) (h : WkP n M a ms w) : WkP n M' a ms w := by
  obtain ⟨kd, v, c, f, bt, gn, cm, q1, q2, q3, q4, q5, q6, q7⟩ := h
  exact ⟨kd, v, c, f, bt, gn, cm, q1, q2, q3, q4, q5, WK_ag h1 q6, MWs_ag h2 q7⟩
theorem ScnW_ag {n : Nat} {M M' : MM} {sc ms : Nat} (h1 : mI M' sc = mI M sc) (hw : ∀ w : Nat, w < 6 → mI M' (sc + 6 + w) = mI M (sc + 6 + w)) (h2 : mI M' ms = mI M ms) (h : ScnW n M sc ms) : ScnW n M' sc ms := by
  obtain ⟨nw, q1, q2, q3, q4⟩ := h
  exact ⟨nw, q1, by rw [h1]; exact q2, by rw [h2]; exact q3, fun w hw2 => WkP_ag (hw w (by omega)) h2 (q4 w hw2)⟩
theorem ScnR_ag {M M' : MM} {sc ms : Nat} (h1 : mI M' (sc + 2) = mI M (sc + 2)) (h3 : mI M' (sc + 3) = mI M (sc + 3)) (h2 : mI M' ms = mI M ms) (h : ScnR M sc ms) : ScnR M' sc ms := by
  unfold ScnR at h ⊢; rw [h1, h2, h3]; exact h
theorem ScnT_ag {M M' : MM} {sc ms : Nat} (h1 : mI M' (sc + 4) = mI M (sc + 4)) (h3 : mI M' (sc + 5) = mI M (sc + 5)) (h2 : mI M' ms = mI M ms) (h : ScnT M sc ms) : ScnT M' sc ms := by
  unfold ScnT at h ⊢; rw [h1, h2, h3]; exact h
theorem ScnL_ag {L : Nat} {M M' : MM} {sc ms : Nat} (h1 : mR M' sc = mR M sc) (h2 : mI M' ms = mI M ms) (h : ScnL L M sc ms) : ScnL L M' sc ms := by
  unfold ScnL at h ⊢; rw [h1, h2]; exact h
theorem Scn_ag {n L : Nat} {M M' : MM} {sc ms : Nat} (h1 : ∀ a : Nat, sc ≤ a → a < sc + 12 → mI M' a = mI M a ∧ mR M' a = mR M a) (h2 : mI M' ms = mI M ms) (h : Scn n L M sc ms) : Scn n L M' sc ms :=
  ⟨ScnL_ag (h1 sc (by omega) (by omega)).2 h2 h.1, ScnW_ag (h1 sc (by omega) (by omega)).1 (fun w hw => (h1 _ (by omega) (by omega)).1) h2 h.2.1, ScnR_ag (h1 _ (by omega) (by omega)).1 (h1 _ (by omega) (by omega)).1 h2 h.2.2.1, ScnT_ag (h1 _ (by omega) (by omega)).1 (h1 _ (by omega) (by omega)).1 h2 h.2.2.2⟩
theorem LandC_ag {M M' : MM} {p onN bk : Nat} {mk : Nat → Nat → Prop} (h : ∀ a : Nat, (29 ≤ a ∧ a ≤ 32) ∨ 101 ≤ a → mI M' a = mI M a ∧ mL M' a = mL M a ∧ mR M' a = mR M a) (hL : LandC M p onN bk mk) : LandC M' p onN bk mk := by
  obtain ⟨h1, h2, h3, h4, h5, h6, qo, qf, hq, h7⟩ := hL
  have np : (29 ≤ p ∧ p ≤ 32) ∨ 101 ≤ p := by unfold lq at hq; omega
  have no : (29 ≤ qo ∧ qo ≤ 32) ∨ 101 ≤ qo := by unfold lq at hq; omega
  have nf : (29 ≤ qf ∧ qf ≤ 32) ∨ 101 ≤ qf := by unfold lq at hq; omega
  unfold LandC
  rw [(h p np).1, (h p np).2.1, (h p np).2.2]
  refine ⟨h1, h2, h3, h4, h5, h6, qo, qf, hq, ?_⟩
  rw [(h qo no).2.1, (h qf nf).2.1]
  exact h7
theorem Lnd_ag {L : Nat} {M M' : MM} (h : AG M M') (hL : Lnd L M) : Lnd L M' := by
  obtain ⟨q1, q2, q3, q4, q5, q6⟩ := hL
  have hl : ∀ a : Nat, (29 ≤ a ∧ a ≤ 32) ∨ 101 ≤ a → mI M' a = mI M a ∧ mL M' a = mL M a ∧ mR M' a = mR M a := fun a ha => h.2.1 a (by unfold Sg; omega)
  refine ⟨q1, by rw [(h.2.1 21 (by unfold Sg; omega)).1]; exact q2, by rw [h.2.2.2 6 (by omega)]; exact q3, h.1.trans q4, LandC_ag hl q5, fun i hi => ?_⟩
  obtain ⟨onN, bk, mk, g1, g2, g3⟩ := q6 i hi
  refine ⟨onN, bk, mk, g1, LandC_ag hl g2, ?_⟩
  unfold MEi at g3 ⊢
  rw [(h.2.1 85 (by unfold Sg; omega)).1, (h.2.1 86 (by unfold Sg; omega)).1, (h.2.1 87 (by unfold Sg; omega)).1]
  exact g3
theorem Tap_ag {M M' : MM} (h : ∀ a : Nat, (70 ≤ a ∧ a ≤ 81) ∨ (97 ≤ a ∧ a ≤ 100) → mI M' a = mI M a ∧ mL M' a = mL M a) (hT : Tap M) : Tap M' := by
  intro t ht
  have e := hT t ht
  unfold TapE TapF at e ⊢
  rw [(h 97 (by omega)).1, (h 98 (by omega)).1, (h 99 (by omega)).1, (h (70 + 2 * t) (by omega)).1, (h (71 + 2 * t) (by omega)).2, (h 100 (by omega)).2]
  exact e
theorem Txt_ag {M M' : MM} (h1 : mI M' 22 5 = mI M 22 5) (h2 : mI M' 82 8 = mI M 82 8) (h3 : mI M' 23 = mI M 23) (h4 : mI M' 88 = mI M 88) (h : Txt M) : Txt M' := by
  unfold Txt at h ⊢; rw [h1, h2, h3, h4]; exact h
theorem Bod_ag {M M' : MM} (h1 : mI M' 26 = mI M 26) (h2 : mI M' 82 28 = mI M 82 28) (h3 : mI M' 27 = mI M 27) (h4 : mI M' 96 = mI M 96) (h : Bod M) : Bod M' := by
  unfold Bod at h ⊢; rw [h1, h2, h3, h4]; exact h
theorem Img_ag {n L : Nat} {M M' : MM} (h1 : mI M' 21 11 = mI M 21 11) (h2 : mI M' 82 2 = mI M 82 2) (h3 : Scn n L M 45 84 → Scn n L M' 45 84) (h : Img n L M) : Img n L M' := by
  obtain ⟨b, q1, q2, q3⟩ := h
  exact ⟨b, h1.trans q1, h2.trans q2, fun hb => h3 (q3 hb)⟩
theorem PC_ag {M M' : MM} (h : ∀ a : Nat, a = 21 ∨ a = 22 ∨ a = 26 ∨ a = 28 ∨ (33 ≤ a ∧ a ≤ 35) ∨ a = 37 ∨ (45 ≤ a ∧ a ≤ 47) ∨ a = 49 ∨ (70 ≤ a ∧ a ≤ 80) → mR M' a = mR M a) (hp : PC M) : PC M' := by
  have hd : ∀ t ∈ ptC, t.1 = 21 ∨ t.1 = 22 ∨ t.1 = 26 ∨ t.1 = 28 ∨ (33 ≤ t.1 ∧ t.1 ≤ 35) ∨ t.1 = 37 ∨ (45 ≤ t.1 ∧ t.1 ≤ 47) ∨ t.1 = 49 ∨ (70 ≤ t.1 ∧ t.1 ≤ 80) := by decide
  intro t ht
  rw [h t.1 (hd t ht)]; exact hp t ht
theorem INV_ag {MZ : MM} {n : Nat} {M M' : MM} (h : AG M M') (hS : SOK M') (hI : INV MZ n M) : INV MZ n M' := by
  obtain ⟨i1, i2, -, i4, ⟨L, i5, i6, i7⟩, i8, i9, i10⟩ := hI
  have r : ∀ a : Nat, ¬ Sg a → mI M' a = mI M a ∧ mL M' a = mL M a ∧ mR M' a = mR M a := h.2.1
  refine ⟨PC_ag (fun a ha => (r a (by unfold Sg; omega)).2.2) i1, fun t ht => by rw [h.2.2.1]; exact i2 t ht, hS, fun a ha => ?_, ⟨L, Lnd_ag h i5, Scn_ag (fun a h1 h2 => ⟨(r a (by unfold Sg; omega)).1, (r a (by unfold Sg; omega)).2.2⟩) (r 83 (by unfold Sg; omega)).1 i6, Img_ag (by rw [(r 21 (by unfold Sg; omega)).1]) (h.2.2.2 2 (by omega)) (fun q => Scn_ag (fun a h1 h2 => ⟨(r a (by unfold Sg; omega)).1, (r a (by unfold Sg; omega)).2.2⟩) (r 84 (by unfold Sg; omega)).1 q) i7⟩, Txt_ag (by rw [(r 22 (by unfold Sg; omega)).1]) (h.2.2.2 8 (by omega)) (r 23 (by unfold Sg; omega)).1 (r 88 (by unfold Sg; omega)).1 i8, Bod_ag (r 26 (by unfold Sg; omega)).1 (h.2.2.2 28 (by omega)) (r 27 (by unfold Sg; omega)).1 (r 96 (by unfold Sg; omega)).1 i9, Tap_ag (fun a ha => ⟨(r a (by unfold Sg; omega)).1, (r a (by unfold Sg; omega)).2.1⟩) i10⟩
  rw [(r a (by unfold Sg; omega)).1, (r a (by unfold Sg; omega)).2.2]; exact i4 a ha
theorem LtQ_fr {S : Nat → Prop} {M M' : MM} (h : FM S M M') (h66 : ¬ S 66) (hL : LtQ M) : LtQ M' := by
  unfold LtQ at hL ⊢; rw [h.r h66]; exact hL
theorem SOK_fn {M M' : MM} (h : FN M M') (hS : SOK M) : SOK M' := by
  have e : ∀ a : Nat, a = 58 ∨ a = 62 ∨ a = 66 → mR M' a = mR M a := fun a ha => (h.2.1 a (by omega) (by omega)).2.2
  obtain ⟨⟨qh, qt, h1⟩, ⟨qh2, qt2, h2⟩, h3⟩ := hS
  refine ⟨⟨qh, qt, ?_⟩, ⟨qh2, qt2, ?_⟩, ?_⟩
  · unfold CrP at h1 ⊢; rw [e 58 (by omega)]; exact h1
  · unfold CrP at h2 ⊢; rw [e 62 (by omega)]; exact h2
  · unfold LtQ at h3 ⊢; rw [e 66 (by omega)]; exact h3
theorem INV_fn {MZ : MM} {n : Nat} {M M' : MM} (h : FN M M') (hI : INV MZ n M) : INV MZ n M' := INV_ag (AG.fn h) (SOK_fn h hI.2.2.1) hI
theorem INV_fm {MZ : MM} {n : Nat} {S : Nat → Prop} {M M' : MM} (h : FM S M M') (hs : ∀ a : Nat, S a → Sq a) (hS : SOK M') (hI : INV MZ n M) : INV MZ n M' := INV_ag (AG.fm h hs) hS hI
theorem Scn_mono {n L : Nat} {M : MM} {sc ms : Nat} (h : Scn n L M sc ms) : Scn (n + 1) L M sc ms := by
  obtain ⟨h1, ⟨nw, q1, q2, q3, q4⟩, h3, h4⟩ := h
  refine ⟨h1, ⟨nw, q1, q2, q3, fun w hw => ?_⟩, h3, h4⟩
  obtain ⟨kd, v, c, f, bt, gn, cm, g1, g2, g3, g4, g5⟩ := q4 w hw
  exact ⟨kd, v, c, f, bt, gn, cm, g1, g2, g3, by omega, g5⟩
theorem INV_mono {MZ : MM} {n : Nat} {M : MM} (h : INV MZ n M) : INV MZ (n + 1) M := by
  obtain ⟨i1, i2, i3, i4, ⟨L, i5, i6, ⟨b, g1, g2, g3⟩⟩, i8⟩ := h
  exact ⟨i1, i2, i3, i4, ⟨L, i5, Scn_mono i6, ⟨b, g1, g2, fun hb => Scn_mono (g3 hb)⟩⟩, i8⟩
/- views -/
section View
variable {MZ M : MM} {n d : Nat} {Q : Option Value → MM → Prop}
theorem INV_land (h : INV MZ n M) : ∃ (p onN bk : Nat) (mk : Nat → Nat → Prop), mR M 33 4 = some p ∧ LandC M p onN bk mk ∧ ME M onN bk mk ∧ bnL onN bk := by
  obtain ⟨i1, i2, i3, i4, ⟨L, i5, i6, i7⟩, i8⟩ := h
  rcases i6.1 with ⟨h1, h2⟩ | ⟨i, hi, h1, h2⟩
  · exact ⟨29, 2, 1, _, h2, i5.2.2.2.2.1, Or.inl ⟨h1, rfl, rfl, fun _ _ h => h⟩, by unfold bnL; omega⟩
  · obtain ⟨onN, bk, mk, g1, g2, g3⟩ := i5.2.2.2.2.2 i hi
    have hL6 := i5.1
    exact ⟨_, onN, bk, mk, h2, g2, Or.inr ⟨i, by omega, h1, g3⟩, g1⟩
theorem INV_nw (h : INV MZ n M) : ScnW n M 33 83 := by
  obtain ⟨i1, i2, i3, i4, ⟨L, i5, i6, i7⟩, i8⟩ := h
  exact i6.2.1
theorem s_who {nw : Nat} (hp : PC M) (h0 : mI M 33 1 = vI nw) (hn : nw ≤ 6) (c : Int32) : CL d kX5_who [.ref 33, .int c] M Q = Q (some (rf (if inR c nw = true then some (39 + c.toNatClampNeg) else none))) M := by
  rw [eX5_who, h0]
  by_cases hc : c < 0
  · rw [if_pos hc, inR_neg hc]; rfl
  · obtain ⟨w, hw, rfl⟩ := inR_pos hc
    rw [if_neg hc, inR_vI hw, vI_cl hw]
    by_cases h1 : w < nw
    · rw [if_pos (show vI w < vI nw by rw [vI_lt (by omega) (by omega)]; exact h1), if_pos (show vI w < 6 by rw [lt_nl (by omega) (by decide)]; omega), if_pos (decide_eq_true h1)]
      simp (disch := omega) only [ty_33, pc_33_0 hp, ty_34, inb_n, vI_cl, pc_34 hp, true_and, and_true, Option.some.injEq, exists_eq_left']
      simp only [show w < 6 by omega, true_or, true_and]
    · rw [if_neg (show ¬ vI w < vI nw by rw [vI_lt (by omega) (by omega)]; exact h1), if_neg (by simp [h1])]
      simp only [ty_33, true_and]
theorem s_who_t {nw w : Nat} (hp : PC M) (h0 : mI M 33 1 = vI nw) (hn : nw ≤ 6) (hw : w < nw) : CL d kX5_who [.ref 33, .int (vI w)] M Q = Q (some (rf (some (39 + w)))) M := by
  rw [s_who hp h0 hn, inR_vI (by omega), if_pos (decide_eq_true hw), vI_cl (by omega)]
theorem s_who_f {nw : Nat} {c : Int32} (hp : PC M) (h0 : mI M 33 1 = vI nw) (hn : nw ≤ 6) (hw : inR c nw = false) : CL d kX5_who [.ref 33, .int c] M Q = Q (some (rf none)) M := by
  rw [s_who hp h0 hn, hw]; rfl
end View
def PRI (MZ : MM) (d n kc km : Nat) (as : List Value) (M : MM) : Prop := CL d kc (.ref 21 :: as) M (fun r M1 => ∃ v : Int32, r = some (.int v) ∧ CL d km (.ref 82 :: as) M1 (fun r2 M2 => r2 = some (.int v) ∧ INV MZ (n + 1) M2))
def PRL (MZ : MM) (d n kc km : Nat) (as : List Value) (M : MM) : Prop := CL d kc (.ref 21 :: as) M (fun r M1 => ∃ v : Int64, r = some (.long v) ∧ CL d km (.ref 82 :: as) M1 (fun r2 M2 => r2 = some (.long v) ∧ INV MZ (n + 1) M2))

