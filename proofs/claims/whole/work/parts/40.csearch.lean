/-! ===== 40: the class's searches: within, first step ===== -/
theorem SOK_58 {M M' : MM} (h : FM (inS 58 4) M M') (hq : CrQ M' 58) (hS : SOK M) : SOK M' := ⟨hq, CrQ_fr h (by unfold inS; omega) hS.2.1, LtQ_fr h (by unfold inS; omega) hS.2.2⟩
theorem SOK_62 {M M' : MM} (h : FM (inS 62 4) M M') (hq : CrQ M' 62) (hS : SOK M) : SOK M' := ⟨CrQ_fr h (by unfold inS; omega) hS.1, hq, LtQ_fr h (by unfold inS; omega) hS.2.2⟩
theorem PC_fm {S : Nat → Prop} {M M' : MM} (h : FM S M M') (hs : ∀ a : Nat, S a → Sq a) (hp : PC M) : PC M' := PC_ag (fun a ha => h.r (fun h2 => by have := hs a h2; unfold Sq at this; omega)) hp
theorem Sq_58 : ∀ a : Nat, inS 58 4 a → Sq a := fun a h => by unfold inS at h; unfold Sq; omega
theorem Sq_62 : ∀ a : Nat, inS 62 4 a → Sq a := fun a h => by unfold inS at h; unfold Sq; omega
theorem LandC_fm {S : Nat → Prop} {M M' : MM} {p onN bk : Nat} {mk : Nat → Nat → Prop} (h : FM S M M') (hs : ∀ a : Nat, S a → Sq a) (hL : LandC M p onN bk mk) : LandC M' p onN bk mk := LandC_fr h (fun a ha => by have := hs a ha; unfold Sq at this; omega) hL
/-- what the class's questions need of the memory, and keep -/
def QC (M : MM) (p onN bk : Nat) (mk : Nat → Nat → Prop) : Prop := PC M ∧ mR M 33 4 = some p ∧ LandC M p onN bk mk ∧ bnL onN bk ∧ SOK M
theorem QC_fm {S : Nat → Prop} {M M' : MM} {p onN bk : Nat} {mk : Nat → Nat → Prop} (h : FM S M M') (hs : ∀ a : Nat, S a → Sq a) (hS : SOK M') (hQ : QC M p onN bk mk) : QC M' p onN bk mk :=
  ⟨PC_fm h hs hQ.1, by rw [h.r (fun h2 => by have := hs _ h2; unfold Sq at this; omega)]; exact hQ.2.1, LandC_fm h hs hQ.2.2.1, hQ.2.2.2.1, hS⟩
theorem QC_58 {M M' : MM} {p onN bk : Nat} {mk : Nat → Nat → Prop} (h : FM (inS 58 4) M M') (hq : CrQ M' 58) (hQ : QC M p onN bk mk) : QC M' p onN bk mk := QC_fm h Sq_58 (SOK_58 h hq hQ.2.2.2.2) hQ
theorem WK_58 {M M' : MM} {a kd v c f bt gn w : Nat} (h : FM (inS 58 4) M M') (ha : a < 58) (hW : WK M a kd v c f bt gn w) : WK M' a kd v c f bt gn w := WK_fr h (by unfold inS; omega) hW
def A0s (c f cm : Nat) : Nat → Nat → Nat → Prop := fun c2 f2 w2 => c2 = c ∧ f2 = f ∧ w2 = cm
theorem okA_0 {c f cm : Nat} (h : vld c f cm) : okA (A0s c f cm) := by rintro c2 f2 w2 ⟨rfl, rfl, rfl⟩; exact h
theorem modR {bt onN bk : Nat} (hB : bnL onN bk) : bt % (onN + bk) < onN + bk := Nat.mod_lt _ (by have := hB.1; omega)
theorem bndR {kd v bt gn onN bk t : Nat} (hB : bnL onN bk) (hk : kd < 7) (hv : v < 10) (hg : gn + t < 1000) : bnd kd v ((bt + t) % (onN + bk)) (gn + t) := by
  obtain ⟨b1, b2, b3, b4⟩ := hB
  exact ⟨hk, hv, Nat.lt_of_lt_of_le (Nat.mod_lt _ (by omega)) (by omega), hg⟩
section CS
variable {d : Nat} {M : MM} {Q : Option Value → MM → Prop} {p onN bk : Nat} {mk : Nat → Nat → Prop} {kd v c f bt gn cm a : Nat}
/-- one more beat, any step -/
theorem s_go {b0 t : Nat} {ms : Nat → Nat → Prop} {A0 : Nat → Nat → Nat → Prop} (hk : kd < 7) (hv : v < 10) (hg : gn + t < 1000) (hms : ∀ x : Nat, ms t x) (hQ : QC M p onN bk mk) (hS : CrS M 58 p kd v ((b0 + t) % (onN + bk)) (gn + t) (rq ms mk kd v onN bk b0 gn A0 t))
    (h : ∀ M' : MM, FM (inS 58 4) M M' → CrS M' 58 p kd v ((b0 + (t + 1)) % (onN + bk)) (gn + (t + 1)) (rq ms mk kd v onN bk b0 gn A0 (t + 1)) → Q none M') :
    CL (d + 5) kX1_advance [.ref 58, .int 63] M Q := by
  refine s_advance (ms := fun _ => True) CrT_58 (bndR hQ.2.2.2.1 hk hv hg) hQ.2.2.2.1 mask63 hS hQ.2.2.1 (fun M' h1 h2 => h M' h1 (CrS_congr (fun c2 f2 w2 _ _ _ => ?_) (CrS_next h2)))
  exact adv_congr (fun x _ => ⟨fun _ => hms x, fun _ => trivial⟩) (fun _ _ _ => Iff.rfl) c2 f2 w2
theorem s_within_loop (hk : kd < 7) (hv : v < 10) (hg : gn + 61 < 1000) {N b0 : Nat} (hN : N ≤ 60) : ∀ n t : Nat, t + n = N → ∀ M : MM, QC M p onN bk mk → CrS M 58 p kd v ((b0 + t) % (onN + bk)) (gn + t) (rq anyS mk kd v onN bk b0 gn (A0s c f cm) t) →
    (∀ M' : MM, FM (inS 58 4) M M' → SOK M' → Q (some (.long (zb (fun c2 => ∃ u : Nat, u ≤ N ∧ anyW (rq anyS mk kd v onN bk b0 gn (A0s c f cm) u) c2)))) M') →
    WP (d + 6) kX10_within (26, [.ref 21, .ref a, .int (vI N), .long (zb (fun c2 => ∃ u : Nat, u ≤ t ∧ anyW (rq anyS mk kd v onN bk b0 gn (A0s c f cm) u) c2)), dm, .int (vI t)], [], M) Q := by
  intro n
  induction n with
  | zero =>
    intro t ht M hQ hS h
    obtain rfl : t = N := by omega
    rw [gX10_within_26, if_neg (by rw [vI_lt (by omega) (by omega)]; omega)]
    exact h M (FM.refl _ _) hQ.2.2.2.2
  | succ n ih =>
    intro t ht M hQ hS h
    rw [gX10_within_26, if_pos (by rw [vI_lt (by omega) (by omega)]; omega)]
    simp only [ty_21, pc_21_5 hQ.1, ty_58, true_and, and_true, Option.some.injEq, exists_eq_left']
    refine s_go (ms := anyS) hk hv (by omega) (fun _ => trivial) hQ hS (fun M1 hF1 hS1 => ?_)
    have hQ1 := QC_58 hF1 hS1.q hQ
    simp only [Option.toList_some, Option.toList_none, List.cons_append, List.nil_append]
    rw [gX10_within_41]
    simp only [ty_21, pc_21_5 hQ1.1, ty_58, true_and, and_true, Option.some.injEq, exists_eq_left']
    rw [s_cells CrT_58 hS1]
    simp only [Option.toList_some, Option.toList_none, List.cons_append, List.nil_append]
    rw [gX10_within_49, zb_or, add_nl, zb_congr (q := fun c2 => ∃ u : Nat, u ≤ t + 1 ∧ anyW (rq anyS mk kd v onN bk b0 gn (A0s c f cm) u) c2) (fun c2 _ => ?_)]
    · exact ih (t + 1) (by omega) M1 hQ1 hS1 (fun M' h1 h2 => h M' (hF1.trans h1) h2)
    · constructor
      · rintro (⟨u, h1, h2⟩ | h2)
        · exact ⟨u, by omega, h2⟩
        · exact ⟨t + 1, by omega, h2⟩
      · rintro ⟨u, h1, h2⟩
        by_cases e : u = t + 1
        · subst e; exact Or.inr h2
        · exact Or.inl ⟨u, by omega, h2⟩
theorem s_within (hk : kd < 7) (hv : v < 10) (hbt : bt < 1000) (hg : gn + 61 < 1000) (hvl : vld c f cm) (ha : a < 58) {N : Nat} (hN : N ≤ 60) (hQ : QC M p onN bk mk) (hW : WK M a kd v c f bt gn cm)
    (h : ∀ M' : MM, FM (inS 58 4) M M' → SOK M' → Q (some (.long (zb (fun c2 => ∃ u : Nat, u ≤ N ∧ anyW (rq anyS mk kd v onN bk (bt % (onN + bk)) gn (A0s c f cm) u) c2)))) M') :
    CL (d + 6) kX10_within [.ref 21, .ref a, .int (vI N)] M Q := by
  have hB := hQ.2.2.2.1
  rw [eX10_within]
  simp only [ty_21, pc_21_1 hQ.1, pc_21_5 hQ.1, ty_33, ty_58, hQ.2.1, rf_some, true_and, and_true, Option.some.injEq, exists_eq_left']
  refine s_alone CrT_58 hQ.2.2.2.2.1 hQ.2.2.1 hB (by omega) hW ha hvl.1 hvl.2.1 hvl.2.2.1 (fun M1 hF1 hS1 => ?_)
  have hQ1 := QC_58 hF1 hS1.q hQ
  simp only [Option.toList_some, Option.toList_none, List.cons_append, List.nil_append]
  rw [gX10_within_15]
  simp only [ty_21, pc_21_5 hQ1.1, ty_58, true_and, and_true, Option.some.injEq, exists_eq_left']
  rw [s_cells CrT_58 hS1]
  simp only [Option.toList_some, Option.toList_none, List.cons_append, List.nil_append]
  rw [gX10_within_22, zb_congr (p := anyW (fun c2 f2 w2 => c2 = c ∧ f2 = f ∧ w2 = cm)) (q := fun c2 => ∃ u : Nat, u ≤ 0 ∧ anyW (rq anyS mk kd v onN bk (bt % (onN + bk)) gn (A0s c f cm) u) c2) (fun c2 _ => ⟨fun h => ⟨0, by omega, h⟩, fun ⟨u, h1, h2⟩ => by
    obtain rfl : u = 0 := by omega
    exact h2⟩)]
  refine s_within_loop hk hv hg hN N 0 (by omega) M1 hQ1 ?_ (fun M' h1 h2 => h M' (hF1.trans h1) h2)
  rw [Nat.add_zero, Nat.add_zero, Nat.mod_mod]
  exact hS1
theorem s_first_no {z r : Int32} (hr : ¬ (0 : Int32) < r) : CL (d + 1) kX10_firstStep [.ref 21, .ref a, .int z, .int r] M Q = Q (some (.int (-5))) M := by
  rw [eX10_firstStep, gX10_firstStep_3, if_pos (by decide), if_neg hr]
theorem s_first_in (hk : kd < 7) (hv : v < 10) (hg : gn + 61 < 1000) {b0 s t : Nat} (ht : t ≤ 60) (z : Int32) : ∀ n i : Nat, i + n = t → ∀ M : MM, 0 < i → QC M p onN bk mk → CrS M 58 p kd v ((b0 + i) % (onN + bk)) (gn + i) (rq (fstS s) mk kd v onN bk b0 gn (A0s c f cm) i) →
    (∀ M' : MM, FM (inS 58 4) M M' → SOK M' → WP (d + 6) kX10_firstStep (71, [.ref 21, .ref a, .int z, .int (vI t), .int (vI s), .int (vI t)], [.long (zb (anyW (rq (fstS s) mk kd v onN bk b0 gn (A0s c f cm) t)))], M') Q) →
    WP (d + 6) kX10_firstStep (43, [.ref 21, .ref a, .int z, .int (vI t), .int (vI s), .int (vI i)], [], M) Q := by
  intro n
  induction n with
  | zero =>
    intro i hi M h0 hQ hS h
    obtain rfl : i = t := by omega
    rw [gX10_firstStep_43, if_neg (by rw [vI_lt (by omega) (by omega)]; omega)]
    simp only [ty_21, pc_21_5 hQ.1, ty_58, true_and, and_true, Option.some.injEq, exists_eq_left']
    rw [s_cells CrT_58 hS]
    simp only [Option.toList_some, Option.toList_none, List.cons_append, List.nil_append]
    exact h M (FM.refl _ _) hQ.2.2.2.2
  | succ n ih =>
    intro i hi M h0 hQ hS h
    rw [gX10_firstStep_43, if_pos (by rw [vI_lt (by omega) (by omega)]; omega)]
    simp only [ty_21, pc_21_5 hQ.1, ty_58, true_and, and_true, Option.some.injEq, exists_eq_left']
    refine s_go (ms := fstS s) hk hv (by omega) (fun x hx => by omega) hQ hS (fun M1 hF1 hS1 => ?_)
    simp only [Option.toList_some, Option.toList_none, List.cons_append, List.nil_append]
    rw [gX10_firstStep_58, add_nl]
    exact ih (i + 1) (by omega) M1 (by omega) (QC_58 hF1 hS1.q hQ) hS1 (fun M' h1 h2 => h M' (hF1.trans h1) h2)
theorem s_first_loop (hk : kd < 7) (hv : v < 10) (hbt : bt < 1000) (hg : gn + 61 < 1000) (hvl : vld c f cm) (ha : a < 58) {c0 t : Nat} (hc0 : c0 < 36) (ht0 : 0 < t) (ht : t ≤ 60) :
    ∀ n s : Nat, s + n = 6 → ∀ (M : MM) (l5 : Value), QC M p onN bk mk → WK M a kd v c f bt gn cm →
    (∀ M' : MM, FM (inS 58 4) M M' → SOK M' → Q (some (.int (sn (fun s => anyW (rq (fstS s) mk kd v onN bk (bt % (onN + bk)) gn (A0s c f cm) t) c0) n s))) M') →
    WP (d + 6) kX10_firstStep (3, [.ref 21, .ref a, .int (vI c0), .int (vI t), .int (vI s), l5], [], M) Q := by
  intro n
  induction n with
  | zero =>
    intro s hs M l5 hQ hW h
    obtain rfl : s = 6 := by omega
    rw [gX10_firstStep_3, if_neg (by decide)]
    exact h M (FM.refl _ _) hQ.2.2.2.2
  | succ n ih =>
    intro s hs M l5 hQ hW h
    have hB := hQ.2.2.2.1
    rw [gX10_firstStep_3, if_pos (by rw [lt_nl (by omega) (by decide)]; omega), if_pos (by rw [lt_ln (by omega) (by decide)]; exact ht0)]
    simp only [ty_21, pc_21_1 hQ.1, pc_21_5 hQ.1, ty_33, ty_58, hQ.2.1, rf_some, true_and, and_true, Option.some.injEq, exists_eq_left']
    refine s_alone CrT_58 hQ.2.2.2.2.1 hQ.2.2.1 hB (by omega) hW ha hvl.1 hvl.2.1 hvl.2.2.1 (fun M1 hF1 hS1 => ?_)
    have hQ1 := QC_58 hF1 hS1.q hQ
    simp only [Option.toList_some, Option.toList_none, List.cons_append, List.nil_append]
    rw [gX10_firstStep_29]
    simp only [ty_21, pc_21_5 hQ1.1, ty_58, true_and, and_true, Option.some.injEq, exists_eq_left']
    have hbd := bndR (bt := bt % (onN + bk)) (t := 0) hB hk hv (show gn + 0 < 1000 by omega)
    rw [Nat.add_zero, Nat.add_zero, Nat.mod_mod] at hbd
    refine s_advance (ms := fun x => x = s) CrT_58 hbd hB (mask1 (by omega)) hS1 hQ1.2.2.1 (fun M2 hF2 hS2 => ?_)
    have hQ2 := QC_58 hF2 hS2.q hQ1
    simp only [Option.toList_some, Option.toList_none, List.cons_append, List.nil_append]
    rw [gX10_firstStep_40]
    have hS2b : CrS M2 58 p kd v ((bt % (onN + bk) + 1) % (onN + bk)) (gn + 1) (rq (fstS s) mk kd v onN bk (bt % (onN + bk)) gn (A0s c f cm) 1) := by
      refine CrS_congr (fun c2 f2 w2 _ _ _ => ?_) hS2
      show adv (fun x => x = s) mk kd v (bt % (onN + bk) < onN) gn _ c2 f2 w2 ↔ adv (fstS s 0) mk kd v ((bt % (onN + bk) + 0) % (onN + bk) < onN) (gn + 0) (A0s c f cm) c2 f2 w2
      rw [Nat.add_zero, Nat.add_zero, Nat.mod_mod]
      exact adv_congr (fun x _ => ⟨fun h _ => h, fun h => h rfl⟩) (fun _ _ _ => Iff.rfl) c2 f2 w2
    refine s_first_in hk hv hg ht (vI c0) (t - 1) 1 (by omega) M2 (by decide) hQ2 hS2b (fun M3 hF3 hO3 => ?_)
    have hF13 := (hF1.trans hF2).trans hF3
    have hQ3 := QC_fm hF13 Sq_58 hO3 hQ
    rw [gX10_firstStep_71, s_holds _ hc0]
    simp only [Option.toList_some, Option.toList_none, List.cons_append, List.nil_append]
    rw [gX10_firstStep_75]
    by_cases e : anyW (rq (fstS s) mk kd v onN bk (bt % (onN + bk)) gn (A0s c f cm) t) c0
    · rw [pB_T e, if_neg (by decide)]
      have h2 := h M3 hF13 hO3
      rw [sn_t (P := fun s => anyW (rq (fstS s) mk kd v onN bk (bt % (onN + bk)) gn (A0s c f cm) t) c0) e] at h2
      exact h2
    · rw [pB_F e, if_pos (by decide), add_nl]
      refine ih (s + 1) (by omega) M3 _ hQ3 (WK_58 hF13 ha hW) (fun M' h1 h2 => ?_)
      have h3 := h M' (hF13.trans h1) h2
      rw [sn_f (P := fun s => anyW (rq (fstS s) mk kd v onN bk (bt % (onN + bk)) gn (A0s c f cm) t) c0) e] at h3
      exact h3
theorem s_first (hk : kd < 7) (hv : v < 10) (hbt : bt < 1000) (hg : gn + 61 < 1000) (hvl : vld c f cm) (ha : a < 58) {c0 t : Nat} (hc0 : c0 < 36) (ht0 : 0 < t) (ht : t ≤ 60) (hQ : QC M p onN bk mk) (hW : WK M a kd v c f bt gn cm)
    (h : ∀ M' : MM, FM (inS 58 4) M M' → SOK M' → Q (some (.int (sn (fun s => anyW (rq (fstS s) mk kd v onN bk (bt % (onN + bk)) gn (A0s c f cm) t) c0) 6 0))) M') :
    CL (d + 6) kX10_firstStep [.ref 21, .ref a, .int (vI c0), .int (vI t)] M Q := by
  rw [eX10_firstStep]
  exact s_first_loop hk hv hbt hg hvl ha hc0 ht0 ht 6 0 rfl M _ hQ hW h
end CS
