/-! ===== 32: the crowd: cells, keep, facing, beats to a CELL; its start ===== -/
theorem mask63 : ∀ a : Nat, a < 6 → ((iShr 63 (vI a) &&& 1) = 0 ↔ ¬ True) := by
  have h : ∀ a : Nat, a < 6 → ¬ ((iShr 63 (vI a) &&& 1) = 0) := by decide +kernel
  intro a ha
  exact ⟨fun h2 => absurd h2 (h a ha), fun h2 => absurd trivial h2⟩
theorem mask1_dec : ∀ s : Nat, s < 6 → ∀ a : Nat, a < 6 → ((iShr (iShl 1 (vI s)) (vI a) &&& 1) = 0) = ¬ (a = s) := by
  have h : ∀ s : Nat, s < 6 → ∀ a : Nat, a < 6 → decide ((iShr (iShl 1 (vI s)) (vI a) &&& 1) = 0) = !(decide (a = s)) := by decide +kernel
  intro s hs a ha
  have h2 := h s hs a ha
  by_cases e : a = s
  · simp [e] at h2 ⊢; exact h2
  · simp [e] at h2 ⊢; exact h2
theorem mask1 {s : Nat} (hs : s < 6) : ∀ a : Nat, a < 6 → ((iShr (iShl 1 (vI s)) (vI a) &&& 1) = 0 ↔ ¬ (a = s)) := fun a ha => by rw [mask1_dec s hs a ha]
def anyW (A : Nat → Nat → Nat → Prop) (c : Nat) : Prop := ∃ f w : Nat, f < 4 ∧ w < 5 ∧ A c f w
/-- the first of the numbers from t on, n of them, for which it is so; -5 -/
noncomputable def sn (P : Nat → Prop) : Nat → Nat → Int32
  | 0, _ => -5
  | n + 1, t => @ite _ (P t) (Classical.propDecidable _) (vI t) (sn P n (t + 1))
theorem sn_congr {P R : Nat → Prop} : ∀ n t : Nat, (∀ u : Nat, t ≤ u → u < t + n → (P u ↔ R u)) → sn P n t = sn R n t
  | 0, _, _ => rfl
  | n + 1, t, h => by rw [sn, sn, sn_congr n (t + 1) (fun u h1 h2 => h u (by omega) (by omega)), propext (h t (by omega) (by omega))]
theorem sn_t {P : Nat → Prop} {n t : Nat} (h : P t) : sn P (n + 1) t = vI t := by rw [sn, if_pos h]
theorem sn_f {P : Nat → Prop} {n t : Nat} (h : ¬ P t) : sn P (n + 1) t = sn P n (t + 1) := by rw [sn, if_neg h]
section Search
variable {d : Nat} {M : MM} {Q : Option Value → MM → Prop} {p onN bk : Nat} {mk : Nat → Nat → Prop} {k qh qt kd v b gn : Nat} {A : Nat → Nat → Nat → Prop}
theorem s_cells_loop (hT : CrT k) (hP : CrP M k qh qt) (hA : Cnt M qh A) : ∀ n j : Nat, j + n = 20 → WP d kX1_cells (4, [.ref k, .long (zb (fun c => ∃ f w : Nat, f < 4 ∧ w < 5 ∧ f * 5 + w < j ∧ A c f w)), dm, .int (vI j)], [], M) Q = Q (some (.long (zb (anyW A)))) M := by
  have hqh := CrT_qh hT hP
  intro n
  induction n with
  | zero =>
    intro j hj
    obtain rfl : j = 20 := by omega
    rw [gX1_cells_4]
    simp only [hT.1, hP.1, hqh, isA21, true_and, and_true, Option.some.injEq, exists_eq_left']
    rw [if_neg (by decide)]
    refine qL (zb_congr fun c _ => ⟨?_, ?_⟩)
    · rintro ⟨f, w, h1, h2, -, h3⟩; exact ⟨f, w, h1, h2, h3⟩
    · rintro ⟨f, w, h1, h2, h3⟩; exact ⟨f, w, h1, h2, by omega, h3⟩
  | succ n ih =>
    intro j hj
    have e := hA (j / 5) (j % 5) (by omega) (by omega)
    rw [show j / 5 * 5 + j % 5 = j by omega] at e
    rw [gX1_cells_4]
    simp only [hT.1, hP.1, hqh, isA21, true_and, and_true, Option.some.injEq, exists_eq_left']
    rw [show Int32.ofNat 20 = vI 20 from rfl]
    simp (disch := omega) only [vI_lt, inb_n, vI_cl]
    rw [if_pos (by omega), e, zb_or, add_nl, zb_congr (q := fun c => ∃ f w : Nat, f < 4 ∧ w < 5 ∧ f * 5 + w < j + 1 ∧ A c f w) (fun c _ => ?_), ih (j + 1) (by omega)]
    · simp only [show j < 20 by omega, true_and]
    · constructor
      · rintro (⟨f, w, h1, h2, h3, h4⟩ | h)
        · exact ⟨f, w, h1, h2, by omega, h4⟩
        · exact ⟨j / 5, j % 5, by omega, by omega, by omega, h⟩
      · rintro ⟨f, w, h1, h2, h3, h4⟩
        by_cases h : f * 5 + w = j
        · refine Or.inr ?_
          rw [show j / 5 = f by omega, show j % 5 = w by omega]; exact h4
        · exact Or.inl ⟨f, w, h1, h2, by omega, h4⟩
theorem s_cells (hT : CrT k) (hS : CrS M k p kd v b gn A) : CL d kX1_cells [.ref k] M Q = Q (some (.long (zb (anyW A)))) M := by
  obtain ⟨qh, qt, hP, hG, hA⟩ := hS
  rw [eX1_cells]
  have h := s_cells_loop (d := d) (Q := Q) hT hP hA 20 0 rfl
  rw [zb_congr (q := fun _ => False) (fun c _ => ⟨fun ⟨f, w, _, _, h3, _⟩ => absurd h3 (Nat.not_lt_zero _), fun h => h.elim⟩), ← zb_0] at h
  exact h
theorem s_facing_loop (hT : CrT k) (hP : CrP M k qh qt) (hA : Cnt M qh A) {f : Nat} (hf : f < 4) : ∀ n j : Nat, j + n = 5 → WP (d + 1) kX1_facing (5, [.ref k, .int (vI f), .long (zb (fun c => ∃ w : Nat, w < j ∧ A c f w)), dm, .int (vI j)], [], M) Q = Q (some (.long (zb (fun c => ∃ w : Nat, w < 5 ∧ A c f w)))) M := by
  intro n
  induction n with
  | zero =>
    intro j hj
    obtain rfl : j = 5 := by omega
    rw [gX1_facing_5]
    rw [if_neg (by decide)]
  | succ n ih =>
    intro j hj
    rw [gX1_facing_5]
    simp (disch := omega) only [lt_nl]
    rw [if_pos (by omega), s_among hT hP hf (by omega)]
    simp only [hT.1, true_and, Option.toList_some, Option.toList_none, List.cons_append, List.nil_append]
    rw [gX1_facing_19, hA f j hf (by omega), zb_or, add_nl, zb_congr (q := fun c => ∃ w : Nat, w < j + 1 ∧ A c f w) (fun c _ => ?_), ih (j + 1) (by omega)]
    constructor
    · rintro (⟨w, h1, h2⟩ | h)
      · exact ⟨w, by omega, h2⟩
      · exact ⟨j, by omega, h⟩
    · rintro ⟨w, h1, h2⟩
      by_cases h : w = j
      · subst h; exact Or.inr h2
      · exact Or.inl ⟨w, by omega, h2⟩
theorem s_facing (hT : CrT k) (hS : CrS M k p kd v b gn A) {f : Nat} (hf : f < 4) : CL (d + 1) kX1_facing [.ref k, .int (vI f)] M Q = Q (some (.long (zb (fun c => ∃ w : Nat, w < 5 ∧ A c f w)))) M := by
  obtain ⟨qh, qt, hP, hG, hA⟩ := hS
  rw [eX1_facing]
  have h := s_facing_loop (d := d) (Q := Q) hT hP hA hf 5 0 rfl
  rw [zb_congr (q := fun _ => False) (fun c _ => ⟨fun ⟨w, h3, _⟩ => absurd h3 (Nat.not_lt_zero _), fun h => h.elim⟩), ← zb_0] at h
  exact h
theorem s_keep_loop (hT : CrT k) {c0 : Nat} (hc : c0 < 36) : ∀ n j : Nat, j + n = 20 → ∀ M : MM, CrP M k qh qt → (∀ f w : Nat, f < 4 → w < 5 → mL M qh (f * 5 + w) = zb (fun c => A c f w ∧ (f * 5 + w < j → c = c0))) →
    (∀ M' : MM, FM (fun x => x = qh) M M' → Cnt M' qh (fun c f w => A c f w ∧ c = c0) → Q none M') → WP d kX1_keep (2, [.ref k, .int (vI c0), .int (vI j)], [], M) Q := by
  intro n
  induction n with
  | zero =>
    intro j hj M hP hA h
    obtain rfl : j = 20 := by omega
    have hqh := CrT_qh hT hP
    rw [gX1_keep_2]
    simp only [hT.1, hP.1, hqh, isA21, true_and, and_true, Option.some.injEq, exists_eq_left']
    rw [if_neg (by decide)]
    exact h M (FM.refl _ _) (fun f w hf hw => (hA f w hf hw).trans (zb_congr fun c _ => ⟨fun h => ⟨h.1, h.2 (by omega)⟩, fun h => ⟨h.1, fun _ => h.2⟩⟩))
  | succ n ih =>
    intro j hj M hP hA h
    have hqh := CrT_qh hT hP
    have e := hA (j / 5) (j % 5) (by omega) (by omega)
    rw [show j / 5 * 5 + j % 5 = j by omega] at e
    rw [gX1_keep_2]
    simp only [hT.1, hP.1, hqh, isA21, true_and, and_true, Option.some.injEq, exists_eq_left']
    rw [show Int32.ofNat 20 = vI 20 from rfl]
    simp (disch := omega) only [vI_lt, inb_n, vI_cl]
    rw [if_pos (by omega), e, zb_one hc, zb_and, add_nl]
    simp only [show j < 20 by omega, true_and]
    have hF : FM (fun x => x = qh) M (sL M qh j (zb (fun c => (A c (j / 5) (j % 5) ∧ (j < j → c = c0)) ∧ c = c0))) := fr_sL rfl
    have hqk : ¬ k = qh := by
      rcases hP.2.2.2 with ⟨h0, h1⟩ | ⟨h0, h1⟩ <;> omega
    refine ih (j + 1) (by omega) _ (CrP_fr hF hqk hP) (fun f w hf hw => ?_) (fun M' h1 h2 => h M' (hF.trans h1) h2)
    by_cases hjw : f * 5 + w = j
    · rw [hjw, aL_sL, show j / 5 = f by omega, show j % 5 = w by omega]
      exact zb_congr fun c _ => ⟨fun h => ⟨h.1.1, fun _ => h.2⟩, fun h => ⟨⟨h.1, fun h2 => h.2 (by omega)⟩, h.2 (by omega)⟩⟩
    · rw [bL_sL hjw, hA f w hf hw]
      exact zb_congr fun c _ => ⟨fun h => ⟨h.1, fun h2 => h.2 (by omega)⟩, fun h => ⟨h.1, fun h2 => h.2 (by omega)⟩⟩
theorem s_keep (hT : CrT k) {c0 : Nat} (hc : c0 < 36) (hS : CrS M k p kd v b gn A) (h : ∀ M' : MM, FM (inS k 4) M M' → CrS M' k p kd v b gn (fun c f w => A c f w ∧ c = c0) → Q none M') : CL d kX1_keep [.ref k, .int (vI c0)] M Q := by
  obtain ⟨qh, qt, hP, hG, hA⟩ := hS
  rw [eX1_keep]
  refine s_keep_loop hT hc 20 0 rfl M hP (fun f w hf hw => (hA f w hf hw).trans (zb_congr fun c _ => ⟨fun h => ⟨h, fun h2 => absurd h2 (Nat.not_lt_zero _)⟩, fun h => h.1⟩)) (fun M' hF hC => ?_)
  have hqk : ¬ k = qh ∧ ¬ k + 3 = qh := by
    rcases hP.2.2.2 with ⟨h0, h1⟩ | ⟨h0, h1⟩ <;> omega
  refine h M' (hF.mono (fun x hx => ?_)) ⟨qh, qt, CrP_fr hF hqk.1 hP, GA_fr hF hqk.2 hG, hC⟩
  show k ≤ x ∧ x < k + 4
  rcases hP.2.2.2 with ⟨h1, -⟩ | ⟨h1, -⟩ <;> omega
/-- one beat of the walk that rq tells -/
theorem CrS_next {R b0 t : Nat} {kd v g0 p k : Nat} {X : Nat → Nat → Nat → Prop} (h : CrS M k p kd v (((b0 + t) % R + 1) % R) (g0 + t + 1) X) : CrS M k p kd v ((b0 + (t + 1)) % R) (g0 + (t + 1)) X := by
  rw [Nat.mod_add_mod] at h; exact h
theorem s_beatsTo_loop (hT : CrT k) (hB : bnL onN bk) (hk7 : kd < 7) (hv : v < 10) {b0 g0 : Nat} (hg0 : g0 + 61 < 1000) {c0 : Nat} (hc : c0 < 36) :
    ∀ n t : Nat, t + n = 61 → ∀ M : MM, CrS M k p kd v ((b0 + t) % (onN + bk)) (g0 + t) (rq anyS mk kd v onN bk b0 g0 A t) → LandC M p onN bk mk →
    (∀ M' : MM, FM (inS k 4) M M' → CrQ M' k → Q (some (.int (sn (fun t => anyW (rq anyS mk kd v onN bk b0 g0 A t) c0) n t))) M') →
    WP (d + 6) kX1_beatsTo (2, [.ref k, .int (vI c0), .int (vI t)], [], M) Q := by
  have h33 := hT.2.2.2.2
  obtain ⟨b1, b2, b3, b4⟩ := id hB
  intro n
  induction n with
  | zero =>
    intro t ht M hS hL h
    obtain rfl : t = 61 := by omega
    rw [gX1_beatsTo_2]
    simp (disch := omega) only [lt_ln]
    rw [if_pos (by decide)]
    exact h M (FM.refl _ _) hS.q
  | succ n ih =>
    intro t ht M hS hL h
    have hn : bnd kd v ((b0 + t) % (onN + bk)) (g0 + t) := ⟨hk7, hv, Nat.lt_of_lt_of_le (Nat.mod_lt _ (by omega)) (by omega), by omega⟩
    rw [gX1_beatsTo_2]
    simp (disch := omega) only [lt_ln]
    rw [if_neg (by omega), s_cells hT hS]
    simp only [hT.1, true_and, Option.toList_some, Option.toList_none, List.cons_append, List.nil_append]
    rw [gX1_beatsTo_12, s_holds _ hc]
    simp only [Option.toList_some, Option.toList_none, List.cons_append, List.nil_append]
    rw [gX1_beatsTo_16]
    by_cases e : anyW (rq anyS mk kd v onN bk b0 g0 A t) c0
    · rw [pB_T e, if_neg (by decide)]
      have h2 := h M (FM.refl _ _) hS.q
      rw [sn_t (P := fun t => anyW (rq anyS mk kd v onN bk b0 g0 A t) c0) e] at h2
      exact h2
    · rw [pB_F e, if_pos (by decide)]
      simp only [hT.1, true_and]
      refine s_advance (ms := fun _ => True) hT hn hB mask63 hS hL (fun M' hF hS' => ?_)
      simp only [Option.toList_some, Option.toList_none, List.cons_append, List.nil_append]
      rw [gX1_beatsTo_27, add_nl]
      refine ih (t + 1) (by omega) M' (CrS_next hS') (LandC_fr hF (fun x hx => ?_) hL) (fun M2 h1 h2 => ?_)
      · obtain ⟨h5, h6⟩ := hx
        omega
      · have h3 := h M2 (hF.trans h1) h2
        rw [sn_f (P := fun t => anyW (rq anyS mk kd v onN bk b0 g0 A t) c0) e] at h3
        exact h3
theorem s_beatsTo (hT : CrT k) (hB : bnL onN bk) (hk7 : kd < 7) (hv : v < 10) {g0 : Nat} (hb : b < onN + bk) (hg0 : g0 + 61 < 1000) {c0 : Nat} (hc : c0 < 36) (hS : CrS M k p kd v b g0 A) (hL : LandC M p onN bk mk)
    (h : ∀ M' : MM, FM (inS k 4) M M' → CrQ M' k → Q (some (.int (sn (fun t => anyW (rq anyS mk kd v onN bk b g0 A t) c0) 61 0))) M') : CL (d + 6) kX1_beatsTo [.ref k, .int (vI c0)] M Q := by
  rw [eX1_beatsTo]
  refine s_beatsTo_loop hT hB hk7 hv hg0 hc 61 0 rfl M ?_ hL h
  rw [Nat.add_zero, Nat.add_zero, Nat.mod_eq_of_lt hb]; exact hS
/- the start -/
def WK (M : MM) (a kd v c f bt gn w : Nat) : Prop := (TY a).1 = 9 ∧ mI M a 0 = vI kd ∧ mI M a 1 = vI v ∧ mI M a 2 = vI c ∧ mI M a 3 = vI f ∧ mI M a 4 = vI bt ∧ mI M a 5 = vI gn ∧ mI M a 6 = vI w
theorem WK_fr {S : Nat → Prop} {M' : MM} {a kd v c f bt gn w : Nat} (h : FM S M M') (ha : ¬ S a) (hW : WK M a kd v c f bt gn w) : WK M' a kd v c f bt gn w := by
  unfold WK at hW ⊢
  rw [h.i ha]; exact hW
theorem s_become {g bt : Nat} (hT : (TY g).1 = 2) (h33 : 33 ≤ g ∧ g < 101) (hL : LandC M p onN bk mk) (hB : bnL onN bk) (hbt : bt < 2147483648) (h : ∀ M' : MM, FM (fun x => x = g) M M' → GA M' g p kd v (bt % (onN + bk)) gn → Q none M') :
    CL (d + 2) kX2_become [.ref g, .ref p, .int (vI kd), .int (vI v), .int (vI bt), .int (vI gn)] M Q := by
  have hF : FM (fun x => x = g) M (sI (sI (sR M g 0 (some p)) g 1 (vI kd)) g 2 (vI v)) := FM.trans (FM.trans (fr_sR rfl) (fr_sI rfl)) (fr_sI rfl)
  have hL1 := LandC_fr hF (fun x hx => by omega) hL
  rw [eX2_become, s_beat hL1 hB hbt]
  simp only [hT, hL.1, true_and, Option.toList_some, Option.toList_none, List.cons_append, List.nil_append]
  rw [gX2_become_22]
  simp only [hT, true_and]
  refine h _ (FM.trans (FM.trans hF (fr_sI rfl)) (fr_sI rfl)) ⟨hT, ?_, ?_, ?_, ?_, ?_⟩
  · exact aR_sR _ _ _ _
  · rw [bI_sI (by decide), bI_sI (by decide), bI_sI (by decide), aI_sI]
  · rw [bI_sI (by decide), bI_sI (by decide), aI_sI]
  · rw [bI_sI (by decide), aI_sI]
  · rw [aI_sI]
theorem s_alone_ {a c f bt w kd0 v0 bt0 : Nat} (hT : CrT k) (hP : CrQ M k) (hL : LandC M p onN bk mk) (hB : bnL onN bk) (hbt : bt < 2147483648) (hW : WK M a kd0 v0 c f bt0 gn w) (ha : a < k) (hc : c < 36) (hf : f < 4) (hw : w < 5)
    (h : ∀ M' : MM, FM (inS k 4) M M' → CrS M' k p kd v (bt % (onN + bk)) gn (fun c2 f2 w2 => c2 = c ∧ f2 = f ∧ w2 = w) → Q none M') :
    CL (d + 3) kX1_alone_ [.ref k, .ref p, .ref a, .int (vI kd), .int (vI v), .int (vI bt)] M Q := by
  obtain ⟨qh, qt, hP⟩ := hP
  have h33 := hT.2.2.2.2
  have hqh := CrT_qh hT hP
  have hg2 : (TY (k + 3)).1 = 2 := hT.2.2.2.1
  have hqk : ¬ k = qh ∧ ¬ k + 3 = qh ∧ ¬ a = qh ∧ k < qh ∧ qh < k + 3 := by
    rcases hP.2.2.2 with ⟨h0, h1⟩ | ⟨h0, h1⟩ <;> omega
  obtain ⟨w1, w2, w3, w4, w5, w6, w7, w8⟩ := id hW
  rw [eX1_alone_]
  simp only [hT.1, w1, hP.2.2.1, hg2, w7, true_and, and_true, Option.some.injEq, exists_eq_left']
  refine s_become hg2 (by omega) hL hB hbt (fun M1 hF1 hG1 => ?_)
  have hP1 := CrP_fr hF1 (by omega) hP
  have hW1 := WK_fr hF1 (by omega) hW
  simp only [Option.toList_some, Option.toList_none, List.cons_append, List.nil_append]
  rw [gX1_alone__17, hP1.1, rf_some, s_fill hqh (by decide)]
  simp only [hT.1, true_and, Option.toList_some, Option.toList_none, List.cons_append, List.nil_append]
  have hF2 : FM (fun x => x = qh) M1 (flL M1 qh 20 0) := fr_flL rfl
  have hP2 := CrP_fr hF2 (by omega) hP1
  have hW2 := WK_fr hF2 (by omega) hW1
  obtain ⟨-, -, -, u4, u5, u6, u7, u8⟩ := id hW2
  rw [gX1_alone__25, hP2.1, rf_some, u4, u5, u8, s_join hqh hf hw, zb_one hc]
  simp only [hT.1, w1, true_and, Option.toList_some, Option.toList_none, List.cons_append, List.nil_append]
  rw [gX1_alone__46]
  have hC2 : Cnt (flL M1 qh 20 0) qh (fun _ _ _ => False) := fun f2 w2 h1 h2 => by
    rw [mL_flL, if_pos ⟨rfl, by omega⟩, zb_0]
  have hF3 : FM (fun x => x = qh) (flL M1 qh 20 0) (sL (flL M1 qh 20 0) qh (f * 5 + w) (mL (flL M1 qh 20 0) qh (f * 5 + w) ||| zb (fun i => i = c))) := fr_sL rfl
  refine h _ (FM.trans (FM.trans (hF1.mono ?_) (hF2.mono ?_)) (hF3.mono ?_)) ⟨qh, qt, CrP_fr hF3 hqk.1 hP2, GA_fr hF3 hqk.2.1 (GA_fr hF2 hqk.2.1 hG1), Cnt_congr (fun c2 f2 w2 _ _ _ => ?_) (Cnt_join hw hC2 hf)⟩
  · intro x hx; exact ⟨by omega, by omega⟩
  · intro x hx; exact ⟨by omega, by omega⟩
  · intro x hx; exact ⟨by omega, by omega⟩
  · exact ⟨fun h => h.elim (fun h => h.elim) (fun h => ⟨h.2.2, h.1, h.2.1⟩), fun h => Or.inr ⟨h.2.1, h.2.2, h.1⟩⟩
theorem s_alone {a c f bt w : Nat} (hT : CrT k) (hP : CrQ M k) (hL : LandC M p onN bk mk) (hB : bnL onN bk) (hbt : bt < 2147483648) (hW : WK M a kd v c f bt gn w) (ha : a < k) (hc : c < 36) (hf : f < 4) (hw : w < 5)
    (h : ∀ M' : MM, FM (inS k 4) M M' → CrS M' k p kd v (bt % (onN + bk)) gn (fun c2 f2 w2 => c2 = c ∧ f2 = f ∧ w2 = w) → Q none M') :
    CL (d + 4) kX1_alone [.ref k, .ref p, .ref a] M Q := by
  obtain ⟨w1, w2, w3, w4, w5, w6, w7, w8⟩ := id hW
  rw [eX1_alone, w2, w3, w6]
  simp only [hT.1, w1, true_and]
  refine s_alone_ hT hP hL hB hbt hW ha hc hf hw (fun M' h1 h2 => ?_)
  simp only [Option.toList_some, Option.toList_none, List.cons_append, List.nil_append]
  rw [gX1_alone_18]
  exact h M' h1 h2
theorem s_around_loop {c : Nat} {l1 l3 l4 l5 : Value} (hT : CrT k) (hc : c < 36) : ∀ n j : Nat, j + n = 4 → ∀ M : MM, CrP M k qh qt → Cnt M qh (fun c2 f2 w2 => c2 = c ∧ f2 < j ∧ w2 = 4) →
    (∀ M' : MM, FM (fun x => x = qh) M M' → Cnt M' qh (fun c2 f2 w2 => c2 = c ∧ w2 = 4) → Q none M') → (∀ (l6 : Int32) (M : MM), WP (d + 1) kX1_around (25, [.ref k, l1, .int (vI c), l3, l4, l5, .int l6], [], M) Q = (if l6 < 4 then ((TY k).1 = 1 ∧ (CL d kX1_join [rf (mR M k 0), .int l6, .int 4, .long (lShl 1 (vI c))] M (fun v_ M_ => WP (d + 1) kX1_around (44, [.ref k, l1, .int (vI c), l3, l4, l5, .int l6], v_.toList ++ [], M_) Q))) else Q none M)) →
    (∀ (l6 : Int32) (M : MM), WP (d + 1) kX1_around (44, [.ref k, l1, .int (vI c), l3, l4, l5, .int l6], [], M) Q = WP (d + 1) kX1_around (25, [.ref k, l1, .int (vI c), l3, l4, l5, .int (l6 + 1)], [], M) Q) →
    WP (d + 1) kX1_around (25, [.ref k, l1, .int (vI c), l3, l4, l5, .int (vI j)], [], M) Q := by
  intro n
  induction n with
  | zero =>
    intro j hj M hP hC h e25 e44
    obtain rfl : j = 4 := by omega
    rw [e25, if_neg (by decide)]
    exact h M (FM.refl _ _) (fun f2 w2 hf2 hw2 => (hC f2 w2 hf2 hw2).trans (zb_congr fun c2 _ => ⟨fun h => ⟨h.1, h.2.2⟩, fun h => ⟨h.1, hf2, h.2⟩⟩))
  | succ n ih =>
    intro j hj M hP hC h e25 e44
    have hqh := CrT_qh hT hP
    rw [e25]
    simp (disch := omega) only [lt_nl]
    rw [if_pos (by omega), hP.1, rf_some, zb_one hc, show (4 : Int32) = vI 4 from rfl, s_join hqh (by omega) (by decide)]
    simp only [hT.1, true_and, Option.toList_some, Option.toList_none, List.cons_append, List.nil_append]
    rw [e44, add_nl]
    have hqk : ¬ k = qh := by
      rcases hP.2.2.2 with ⟨h0, h1⟩ | ⟨h0, h1⟩ <;> omega
    have hF : FM (fun x => x = qh) M (sL M qh (j * 5 + 4) (mL M qh (j * 5 + 4) ||| zb (fun i => i = c))) := fr_sL rfl
    refine ih (j + 1) (by omega) _ (CrP_fr hF hqk hP) (Cnt_congr (fun c2 f2 w2 _ _ _ => ?_) (Cnt_join (by decide) hC (by omega))) (fun M' h1 h2 => h M' (hF.trans h1) h2) e25 e44
    constructor
    · rintro (⟨h1, h2, h3⟩ | ⟨h1, h2, h3⟩)
      · exact ⟨h1, by omega, h3⟩
      · exact ⟨h3, by omega, h2⟩
    · rintro ⟨h1, h2, h3⟩
      by_cases h4 : f2 = j
      · exact Or.inr ⟨h4, h3, h1⟩
      · exact Or.inl ⟨h1, by omega, h3⟩
theorem s_around {c bt : Nat} (hT : CrT k) (hP : CrQ M k) (hL : LandC M p onN bk mk) (hB : bnL onN bk) (hbt : bt < 2147483648) (hc : c < 36)
    (h : ∀ M' : MM, FM (inS k 4) M M' → CrS M' k p kd v (bt % (onN + bk)) 0 (fun c2 f2 w2 => c2 = c ∧ w2 = 4) → Q none M') :
    CL (d + 3) kX1_around [.ref k, .ref p, .int (vI c), .int (vI kd), .int (vI v), .int (vI bt)] M Q := by
  obtain ⟨qh, qt, hP⟩ := hP
  have h33 := hT.2.2.2.2
  have hqh := CrT_qh hT hP
  have hg2 : (TY (k + 3)).1 = 2 := hT.2.2.2.1
  have hqk : ¬ k = qh ∧ ¬ k + 3 = qh ∧ k < qh ∧ qh < k + 3 := by
    rcases hP.2.2.2 with ⟨h0, h1⟩ | ⟨h0, h1⟩ <;> omega
  rw [eX1_around]
  simp only [hT.1, hP.2.2.1, hg2, true_and, and_true, Option.some.injEq, exists_eq_left']
  rw [show (0 : Int32) = vI 0 from rfl]
  refine s_become hg2 (by omega) hL hB hbt (fun M1 hF1 hG1 => ?_)
  have hP1 := CrP_fr hF1 (by omega) hP
  simp only [Option.toList_some, Option.toList_none, List.cons_append, List.nil_append]
  rw [gX1_around_14, hP1.1, rf_some, s_fill hqh (by decide)]
  simp only [hT.1, true_and, Option.toList_some, Option.toList_none, List.cons_append, List.nil_append]
  have hF2 : FM (fun x => x = qh) M1 (flL M1 qh 20 0) := fr_flL rfl
  have hP2 := CrP_fr hF2 (by omega) hP1
  rw [gX1_around_22]
  refine s_around_loop hT hc 4 0 rfl _ hP2 (fun f2 w2 h1 h2 => ?_) (fun M' hF3 hC3 => ?_) (fun l6 M => gX1_around_25 _ _ _ _ _ _ _ _ _ _) (fun l6 M => gX1_around_44 _ _ _ _ _ _ _ _ _ _)
  · rw [mL_flL, if_pos ⟨rfl, by omega⟩, zb_0]
    exact zb_congr fun c2 _ => ⟨fun h => h.elim, fun h => absurd h.2.1 (Nat.not_lt_zero _)⟩
  · refine h _ (FM.trans (FM.trans (hF1.mono ?_) (hF2.mono ?_)) (hF3.mono ?_)) ⟨qh, qt, CrP_fr hF3 hqk.1 hP2, GA_fr hF3 hqk.2.1 (GA_fr hF2 hqk.2.1 hG1), hC3⟩
    · intro x hx; exact ⟨by omega, by omega⟩
    · intro x hx; exact ⟨by omega, by omega⟩
    · intro x hx; exact ⟨by omega, by omega⟩
end Search
