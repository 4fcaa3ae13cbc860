/-! ===== 31: the crowd goes on ===== -/
def CrS (M : MM) (k p kd v b gn : Nat) (A : Nat → Nat → Nat → Prop) : Prop := ∃ qh qt : Nat, CrP M k qh qt ∧ GA M (k + 3) p kd v b gn ∧ Cnt M qh A
def CrQ (M : MM) (k : Nat) : Prop := ∃ qh qt : Nat, CrP M k qh qt
theorem CrS.q {M : MM} {k p kd v b gn : Nat} {A : Nat → Nat → Nat → Prop} (h : CrS M k p kd v b gn A) : CrQ M k := ⟨_, _, h.choose_spec.choose_spec.1⟩
theorem CrQ_fr {S : Nat → Prop} {M M' : MM} {k : Nat} (h : FM S M M') (hk : ¬ S k) (hP : CrQ M k) : CrQ M' k := by
  obtain ⟨qh, qt, hP⟩ := hP
  exact ⟨qh, qt, CrP_fr h hk hP⟩
theorem CrS_fr {S : Nat → Prop} {M M' : MM} {k p kd v b gn : Nat} {A : Nat → Nat → Nat → Prop} (h : FM S M M') (hk : ∀ a : Nat, k ≤ a → a < k + 4 → ¬ S a) (hP : CrS M k p kd v b gn A) : CrS M' k p kd v b gn A := by
  obtain ⟨qh, qt, hP, hG, hC⟩ := hP
  refine ⟨qh, qt, CrP_fr h (hk k (by omega) (by omega)) hP, GA_fr h (hk _ (by omega) (by omega)) hG, Cnt_fr h (hk _ ?_ ?_) hC⟩
  · rcases hP.2.2.2 with ⟨h1, -⟩ | ⟨h1, -⟩ <;> omega
  · rcases hP.2.2.2 with ⟨h1, -⟩ | ⟨h1, -⟩ <;> omega
theorem CrS_congr {M : MM} {k p kd v b gn : Nat} {A B : Nat → Nat → Nat → Prop} (h : ∀ c f w : Nat, c < 36 → f < 4 → w < 5 → (A c f w ↔ B c f w)) (hP : CrS M k p kd v b gn A) : CrS M k p kd v b gn B := by
  obtain ⟨qh, qt, hP, hG, hC⟩ := hP
  exact ⟨qh, qt, hP, hG, Cnt_congr h hC⟩
section Spread
variable {d : Nat} {M : MM} {Q : Option Value → MM → Prop} {p onN bk : Nat} {mk : Nat → Nat → Prop} {k qh qt kd v b gn : Nat} {ms : Nat → Prop} {m : Int32} {A : Nat → Nat → Nat → Prop}
theorem spr_succ {f w n c2 f2 w2 : Nat} {on : Prop} : spr ms mk kd v on gn A f w (n + 1) c2 f2 w2 ↔ spr ms mk kd v on gn A f w n c2 f2 w2 ∨ (f2 = tf f n ∧ w2 = tw kd f w n ∧ ms n ∧ ∃ c : Nat, c < 36 ∧ A c f w ∧ may mk kd v on gn c f w n ∧ tc kd c f w n = c2) := by
  constructor
  · rintro ⟨a, c, h1, h2, h3, h4, h5, h6, h7, h8⟩
    by_cases h : a = n
    · subst h; exact Or.inr ⟨h7.symm, h8.symm, h3, c, h2, h4, h5, h6⟩
    · exact Or.inl ⟨a, c, by omega, h2, h3, h4, h5, h6, h7, h8⟩
  · rintro (⟨a, c, h1, h⟩ | ⟨h7, h8, h3, c, h2, h4, h5, h6⟩)
    · exact ⟨a, c, by omega, h⟩
    · exact ⟨n, c, by omega, h2, h3, h4, h5, h6, h7.symm, h8.symm⟩
theorem s_spread_loop (hT : CrT k) (hn : bnd kd v b gn) (hB : bnL onN bk) {f w : Nat} (hf : f < 4) (hw : w < 5) (hm : ∀ a : Nat, a < 6 → ((iShr m (vI a) &&& 1) = 0 ↔ ¬ ms a)) (T : Nat → Nat → Nat → Prop) :
    ∀ n a : Nat, a + n = 6 → ∀ (M : MM) (l7 l9 : Value), CrP M k qh qt → GA M (k + 3) p kd v b gn → LandC M p onN bk mk → Cnt M qt (fun c2 f2 w2 => T c2 f2 w2 ∨ spr ms mk kd v (b < onN) gn A f w a c2 f2 w2) →
    (∀ M' : MM, FM (fun x => x = qt) M M' → Cnt M' qt (fun c2 f2 w2 => T c2 f2 w2 ∨ spr ms mk kd v (b < onN) gn A f w 6 c2 f2 w2) → Q none M') →
    WP (d + 4) kX1_spread (11, [.ref k, .int m, .int (vI f), .int (vI w), .long (zb (fun c => A c f w)), dm, .int (vI a), l7, dm, l9], [], M) Q := by
  intro n
  induction n with
  | zero =>
    intro a ha M l7 l9 hP hG hL hC h
    obtain rfl : a = 6 := by omega
    rw [gX1_spread_11]
    simp (disch := omega) only [lt_nl]
    rw [if_neg (by decide)]
    exact h M (FM.refl _ _) hC
  | succ n ih =>
    intro a ha M l7 l9 hP hG hL hC h
    have ha6 : a < 6 := by omega
    have hqt := CrT_qt hT hP
    have hg2 : (TY (k + 3)).1 = 2 := hT.2.2.2.1
    have hy := wy_lt (kd := kd) (a := a) hf hw
    have htf := tf_lt (a := a) hf
    have htw := tw_lt (kd := kd) (a := a) hf hw
    rw [gX1_spread_11]
    simp (disch := omega) only [lt_nl]
    rw [if_pos ha6]
    by_cases hms : ms a
    · rw [if_neg (fun h2 => (hm a ha6).mp h2 hms)]
      simp only [hT.1, hP.2.2.1, hg2, true_and, and_true, Option.some.injEq, exists_eq_left']
      rw [s_starts hG hL hn hB ha6 hf hw]
      simp only [Option.toList_some, Option.toList_none, List.cons_append, List.nil_append]
      rw [gX1_spread_44, zb_and]
      by_cases he : ∀ c : Nat, c < 36 → ¬ (A c f w ∧ may mk kd v (b < onN) gn c f w a)
      · rw [if_pos (by rw [lg_0, zb_eq0]; exact he), add_nl]
        refine ih (a + 1) (by omega) M _ _ hP hG hL (Cnt_congr (fun c2 f2 w2 _ _ _ => ?_) hC) h
        rw [spr_succ]
        constructor
        · rintro (h1 | h1)
          · exact Or.inl h1
          · exact Or.inr (Or.inl h1)
        · rintro (h1 | h1 | ⟨-, -, -, c, hc, h2, h3, -⟩)
          · exact Or.inl h1
          · exact Or.inr h1
          · exact absurd ⟨h2, h3⟩ (he c hc)
      · rw [if_neg (by rw [lg_0, zb_eq0]; exact he)]
        simp only [hT.1, hP.2.2.1, hg2, true_and, and_true, Option.some.injEq, exists_eq_left']
        rw [s_way hG hn ha6 hf hw]
        simp only [Option.toList_some, Option.toList_none, List.cons_append, List.nil_append]
        rw [gX1_spread_65, s_facingBy ha6]
        simp only [hT.1, hP.2.1, rf_some, true_and, and_true, Option.some.injEq, exists_eq_left', Option.toList_some, Option.toList_none, List.cons_append, List.nil_append]
        rw [gX1_spread_77, s_cameBy ha6 hf hw]
        simp only [Option.toList_some, Option.toList_none, List.cons_append, List.nil_append]
        rw [gX1_spread_85, s_moved _ hy]
        simp only [Option.toList_some, Option.toList_none, List.cons_append, List.nil_append]
        rw [gX1_spread_92, s_join hqt htf htw]
        simp only [Option.toList_some, Option.toList_none, List.cons_append, List.nil_append]
        rw [gX1_spread_95, add_nl]
        have hqk : ¬ k = qt ∧ ¬ k + 3 = qt := by
          rcases hP.2.2.2 with ⟨-, h1⟩ | ⟨-, h1⟩ <;> omega
        have hF : FM (fun x => x = qt) M (sL M qt (tf f a * 5 + tw kd f w a) (mL M qt (tf f a * 5 + tw kd f w a) ||| zb (fun i => ok i (rvw (wy kd f w a)) ∧ A (nxc i (rvw (wy kd f w a))) f w ∧ may mk kd v (b < onN) gn (nxc i (rvw (wy kd f w a))) f w a))) := fr_sL rfl
        refine ih (a + 1) (by omega) _ _ _ (CrP_fr hF hqk.1 hP) (GA_fr hF hqk.2 hG) (LandC_fr hF (fun x hx => ?_) hL) (Cnt_congr (fun c2 f2 w2 hc2 _ _ => ?_) (Cnt_join htw hC htf)) (fun M' h1 h2 => h M' (hF.trans h1) h2)
        · have h33 := hT.2.2.2.2
          rcases hP.2.2.2 with ⟨-, h1⟩ | ⟨-, h1⟩ <;> omega
        · rw [spr_succ]
          have h1 := spr_one (mk := mk) (kd := kd) (v := v) (gn := gn) (a := a) (on := b < onN) (P := fun c => A c f w) hf hw hc2
          constructor
          · rintro ((h2 | h2) | ⟨h2, h3, h4⟩)
            · exact Or.inl h2
            · exact Or.inr (Or.inl h2)
            · exact Or.inr (Or.inr ⟨h2, h3, hms, h1.mp h4⟩)
          · rintro (h2 | h2 | ⟨h2, h3, -, h4⟩)
            · exact Or.inl (Or.inl h2)
            · exact Or.inl (Or.inr h2)
            · exact Or.inr ⟨h2, h3, h1.mpr h4⟩
    · rw [if_pos ((hm a ha6).mpr hms), if_pos (by decide), add_nl]
      refine ih (a + 1) (by omega) M _ _ hP hG hL (Cnt_congr (fun c2 f2 w2 _ _ _ => ?_) hC) h
      rw [spr_succ]
      constructor
      · rintro (h1 | h1)
        · exact Or.inl h1
        · exact Or.inr (Or.inl h1)
      · rintro (h1 | h1 | ⟨-, -, h2, -⟩)
        · exact Or.inl h1
        · exact Or.inr h1
        · exact absurd h2 hms
theorem s_spread (hT : CrT k) (hn : bnd kd v b gn) (hB : bnL onN bk) {f w : Nat} (hf : f < 4) (hw : w < 5) (hm : ∀ a : Nat, a < 6 → ((iShr m (vI a) &&& 1) = 0 ↔ ¬ ms a)) (T : Nat → Nat → Nat → Prop)
    (hP : CrP M k qh qt) (hG : GA M (k + 3) p kd v b gn) (hL : LandC M p onN bk mk) (hA : Cnt M qh A) (hC : Cnt M qt T)
    (h : ∀ M' : MM, FM (fun x => x = qt) M M' → Cnt M' qt (fun c2 f2 w2 => T c2 f2 w2 ∨ spr ms mk kd v (b < onN) gn A f w 6 c2 f2 w2) → Q none M') :
    CL (d + 4) kX1_spread [.ref k, .int m, .int (vI f), .int (vI w)] M Q := by
  rw [eX1_spread, s_among hT hP hf hw]
  simp only [hT.1, true_and, Option.toList_some, Option.toList_none, List.cons_append, List.nil_append]
  rw [gX1_spread_6, hA f w hf hw]
  refine s_spread_loop hT hn hB hf hw hm T 6 0 rfl M _ _ hP hG hL (Cnt_congr (fun c2 f2 w2 _ _ _ => ?_) hC) h
  constructor
  · exact Or.inl
  · rintro (h1 | ⟨a, c, h1, -⟩)
    · exact h1
    · exact absurd h1 (Nat.not_lt_zero a)
/-- the sets below place j have been spread -/
def prg (ms : Nat → Prop) (mk : Nat → Nat → Prop) (kd v : Nat) (on : Prop) (gn : Nat) (A : Nat → Nat → Nat → Prop) (j c2 f2 w2 : Nat) : Prop :=
  ∃ f w : Nat, f < 4 ∧ w < 5 ∧ f * 5 + w < j ∧ spr ms mk kd v on gn A f w 6 c2 f2 w2
theorem prg_succ {f w c2 f2 w2 : Nat} {on : Prop} (hf : f < 4) (hw : w < 5) : prg ms mk kd v on gn A (f * 5 + w + 1) c2 f2 w2 ↔ prg ms mk kd v on gn A (f * 5 + w) c2 f2 w2 ∨ spr ms mk kd v on gn A f w 6 c2 f2 w2 := by
  constructor
  · rintro ⟨f1, w1, h1, h2, h3, h4⟩
    by_cases h : f1 = f ∧ w1 = w
    · obtain ⟨rfl, rfl⟩ := h; exact Or.inr h4
    · exact Or.inl ⟨f1, w1, h1, h2, by omega, h4⟩
  · rintro (⟨f1, w1, h1, h2, h3, h4⟩ | h)
    · exact ⟨f1, w1, h1, h2, by omega, h4⟩
    · exact ⟨f, w, hf, hw, by omega, h⟩
theorem prg_adv {c2 f2 w2 : Nat} {on : Prop} : prg ms mk kd v on gn A 20 c2 f2 w2 ↔ adv ms mk kd v on gn A c2 f2 w2 := by
  constructor
  · rintro ⟨f, w, h1, h2, -, a, c, h3, h4, h5⟩
    exact ⟨c, f, w, a, ⟨h4, h1, h2, h3⟩, h5⟩
  · rintro ⟨c, f, w, a, ⟨h4, h1, h2, h3⟩, h5⟩
    exact ⟨f, w, h1, h2, by omega, a, c, h3, h4, h5⟩
theorem s_adv17 (hT : CrT k) (hn : bnd kd v b gn) (hB : bnL onN bk) {f : Nat} (hf : f < 4) (hm : ∀ a : Nat, a < 6 → ((iShr m (vI a) &&& 1) = 0 ↔ ¬ ms a)) :
    ∀ n w : Nat, w + n = 5 → ∀ M : MM, CrP M k qh qt → GA M (k + 3) p kd v b gn → LandC M p onN bk mk → Cnt M qh A → Cnt M qt (prg ms mk kd v (b < onN) gn A (f * 5 + w)) →
    (∀ (M' : MM) (l3 : Value), FM (fun x => x = qt) M M' → Cnt M' qt (prg ms mk kd v (b < onN) gn A (f * 5 + 5)) → WP (d + 5) kX1_advance (10, [.ref k, .int m, .int (vI (f + 1)), l3], [], M') Q) →
    WP (d + 5) kX1_advance (17, [.ref k, .int m, .int (vI f), .int (vI w)], [], M) Q := by
  intro n
  induction n with
  | zero =>
    intro w hw M hP hG hL hA hC h
    obtain rfl : w = 5 := by omega
    rw [gX1_advance_17]
    simp (disch := omega) only [lt_nl]
    rw [if_neg (by decide), add_nl]
    exact h M _ (FM.refl _ _) hC
  | succ n ih =>
    intro w hw M hP hG hL hA hC h
    have hw5 : w < 5 := by omega
    have hqh := CrT_qh hT hP
    rw [gX1_advance_17]
    simp (disch := omega) only [lt_nl, hT.1, hP.1, hqh, mul_nl, vI_add, inb_n, vI_cl, add_nl, true_and, and_true, Option.some.injEq, exists_eq_left']
    rw [if_pos hw5, hA f w hf hw5]
    simp only [show f * 5 + w < 20 by omega, true_and]
    by_cases he : ∀ c : Nat, c < 36 → ¬ A c f w
    · rw [if_pos (by rw [lg_0, zb_eq0]; exact he)]
      refine ih (w + 1) (by omega) M hP hG hL hA (Cnt_congr (fun c2 f2 w2 _ _ _ => ?_) hC) h
      rw [show f * 5 + (w + 1) = f * 5 + w + 1 from rfl, prg_succ hf hw5]
      constructor
      · exact Or.inl
      · rintro (h1 | ⟨a, c, -, hc, -, h2, -⟩)
        · exact h1
        · exact absurd h2 (he c hc)
    · rw [if_neg (by rw [lg_0, zb_eq0]; exact he)]
      refine s_spread hT hn hB hf hw5 hm _ hP hG hL hA hC (fun M' hF hC' => ?_)
      simp only [Option.toList_some, Option.toList_none, List.cons_append, List.nil_append]
      rw [gX1_advance_44, add_nl]
      have hqk : ¬ k = qt ∧ ¬ k + 3 = qt ∧ ¬ qh = qt := by
        rcases hP.2.2.2 with ⟨h0, h1⟩ | ⟨h0, h1⟩ <;> omega
      refine ih (w + 1) (by omega) M' (CrP_fr hF hqk.1 hP) (GA_fr hF hqk.2.1 hG) (LandC_fr hF (fun x hx => ?_) hL) (Cnt_fr hF hqk.2.2 hA) (Cnt_congr (fun c2 f2 w2 _ _ _ => ?_) hC') (fun M2 l3 h1 h2 => h M2 l3 (hF.trans h1) h2)
      · have h33 := hT.2.2.2.2
        rcases hP.2.2.2 with ⟨-, h1⟩ | ⟨-, h1⟩ <;> omega
      · rw [show f * 5 + (w + 1) = f * 5 + w + 1 from rfl, prg_succ hf hw5]
theorem s_tick {g : Nat} (hG : GA M g p kd v b gn) (hL : LandC M p onN bk mk) (hn : bnd kd v b gn) (hB : bnL onN bk) : CL (d + 2) kX2_tick [.ref g] M Q = Q none (sI (sI M g 3 (vI ((b + 1) % (onN + bk)))) g 4 (vI (gn + 1))) := by
  obtain ⟨hg, hr, hk, hv, hb, hgn⟩ := id hG
  obtain ⟨n1, n2, n3, n4⟩ := id hn
  rw [eX2_tick, hb, add_nl]
  simp only [hg, hr, hL.1, true_and, and_true, Option.some.injEq, exists_eq_left']
  rw [s_beat hL hB (by omega)]
  simp only [Option.toList_some, Option.toList_none, List.cons_append, List.nil_append]
  rw [gX2_tick_14, bI_sI (by decide), hgn, add_nl]
  simp only [hg, true_and]
theorem s_adv10 (hT : CrT k) (hn : bnd kd v b gn) (hB : bnL onN bk) (hm : ∀ a : Nat, a < 6 → ((iShr m (vI a) &&& 1) = 0 ↔ ¬ ms a)) :
    ∀ n f : Nat, f + n = 4 → ∀ (M : MM) (l3 : Value), CrP M k qh qt → GA M (k + 3) p kd v b gn → LandC M p onN bk mk → Cnt M qh A → Cnt M qt (prg ms mk kd v (b < onN) gn A (f * 5)) →
    (∀ M' : MM, FM (inS k 4) M M' → CrS M' k p kd v ((b + 1) % (onN + bk)) (gn + 1) (adv ms mk kd v (b < onN) gn A) → Q none M') →
    WP (d + 5) kX1_advance (10, [.ref k, .int m, .int (vI f), l3], [], M) Q := by
  intro n
  induction n with
  | zero =>
    intro f hf M l3 hP hG hL hA hC h
    obtain rfl : f = 4 := by omega
    obtain ⟨h0, h1, h2, h3⟩ := id hP
    have h33 := hT.2.2.2.2
    have hg2 : (TY (k + 3)).1 = 2 := hT.2.2.2.1
    rw [gX1_advance_10]
    simp (disch := omega) only [lt_nl]
    rw [if_neg (by decide), h0, h1, bR_sR (by decide), bR_sR (by decide), h2]
    simp only [hT.1, hg2, true_and, and_true, Option.some.injEq, exists_eq_left']
    have hF1 : FM (fun x => x = k) M (sR (sR M k 0 (some qt)) k 1 (some qh)) := FM.trans (fr_sR rfl) (fr_sR rfl)
    have hL1 : LandC (sR (sR M k 0 (some qt)) k 1 (some qh)) p onN bk mk := LandC_fr hF1 (fun x hx => by omega) hL
    have hG1 : GA (sR (sR M k 0 (some qt)) k 1 (some qh)) (k + 3) p kd v b gn := GA_fr hF1 (by omega) hG
    rw [s_tick hG1 hL1 hn hB]
    simp only [Option.toList_some, Option.toList_none, List.cons_append, List.nil_append, rf_some]
    rw [gX1_advance_81]
    obtain ⟨hg, hr, hk, hv, hb, hgn⟩ := id hG1
    have hF2 : FM (fun x => x = k + 3) (sR (sR M k 0 (some qt)) k 1 (some qh)) (sI (sI (sR (sR M k 0 (some qt)) k 1 (some qh)) (k + 3) 3 (vI ((b + 1) % (onN + bk)))) (k + 3) 4 (vI (gn + 1))) := FM.trans (fr_sI rfl) (fr_sI rfl)
    have hqk : ¬ qt = k ∧ ¬ qt = k + 3 := by
      rcases h3 with ⟨h4, h5⟩ | ⟨h4, h5⟩ <;> omega
    refine h _ (FM.trans (hF1.mono (fun x hx => ?_)) (hF2.mono (fun x hx => ?_))) ⟨qt, qh, CrP_fr hF2 (by omega) ⟨?_, ?_, ?_, ?_⟩, ⟨hg, ?_, ?_, ?_, ?_, ?_⟩, Cnt_fr hF2 hqk.2 (Cnt_fr hF1 hqk.1 (Cnt_congr (fun c2 f2 w2 _ _ _ => prg_adv) hC))⟩
    · exact ⟨by omega, by omega⟩
    · exact ⟨by omega, by omega⟩
    · rw [bR_sR (by decide), aR_sR]
    · rw [aR_sR]
    · rw [bR_sR (by decide), bR_sR (by decide)]; exact h2
    · exact h3.elim (fun h => Or.inr ⟨h.2, h.1⟩) (fun h => Or.inl ⟨h.2, h.1⟩)
    · exact hr
    · rw [bI_sI (by decide), bI_sI (by decide)]; exact hk
    · rw [bI_sI (by decide), bI_sI (by decide)]; exact hv
    · rw [bI_sI (by decide), aI_sI]
    · rw [aI_sI]
  | succ n ih =>
    intro f hf M l3 hP hG hL hA hC h
    have hf4 : f < 4 := by omega
    rw [gX1_advance_10]
    simp (disch := omega) only [lt_nl]
    rw [if_pos hf4]
    refine s_adv17 hT hn hB hf4 hm 5 0 rfl M hP hG hL hA hC (fun M' l3 hF hC' => ?_)
    have h33 := hT.2.2.2.2
    have hqk : ¬ k = qt ∧ ¬ k + 3 = qt ∧ ¬ qh = qt := by
      rcases hP.2.2.2 with ⟨h0, h1⟩ | ⟨h0, h1⟩ <;> omega
    refine ih (f + 1) (by omega) M' l3 (CrP_fr hF hqk.1 hP) (GA_fr hF hqk.2.1 hG) (LandC_fr hF (fun x hx => ?_) hL) (Cnt_fr hF hqk.2.2 hA) (by rw [show (f + 1) * 5 = f * 5 + 5 by omega]; exact hC') (fun M2 h1 h2 => h M2 ((hF.mono (fun x hx => ?_)).trans h1) h2)
    · rcases hP.2.2.2 with ⟨-, h1⟩ | ⟨-, h1⟩ <;> omega
    · show k ≤ x ∧ x < k + 4
      rcases hP.2.2.2 with ⟨-, h1⟩ | ⟨-, h1⟩ <;> omega
theorem s_advance (hT : CrT k) (hn : bnd kd v b gn) (hB : bnL onN bk) (hm : ∀ a : Nat, a < 6 → ((iShr m (vI a) &&& 1) = 0 ↔ ¬ ms a)) (hS : CrS M k p kd v b gn A) (hL : LandC M p onN bk mk)
    (h : ∀ M' : MM, FM (inS k 4) M M' → CrS M' k p kd v ((b + 1) % (onN + bk)) (gn + 1) (adv ms mk kd v (b < onN) gn A) → Q none M') :
    CL (d + 5) kX1_advance [.ref k, .int m] M Q := by
  obtain ⟨qh, qt, hP, hG, hA⟩ := hS
  have hqt := CrT_qt hT hP
  have h33 := hT.2.2.2.2
  have hqk : ¬ k = qt ∧ ¬ k + 3 = qt ∧ ¬ qh = qt := by
    rcases hP.2.2.2 with ⟨h0, h1⟩ | ⟨h0, h1⟩ <;> omega
  rw [eX1_advance, hP.2.1, rf_some, s_fill hqt (by decide)]
  simp only [hT.1, true_and, Option.toList_some, Option.toList_none, List.cons_append, List.nil_append]
  rw [gX1_advance_8]
  have hF : FM (fun x => x = qt) M (flL M qt 20 0) := fr_flL rfl
  refine s_adv10 hT hn hB hm 4 0 rfl _ _ (CrP_fr hF hqk.1 hP) (GA_fr hF hqk.2.1 hG) (LandC_fr hF (fun x hx => ?_) hL) (Cnt_fr hF hqk.2.2 hA) (fun f w hf hw => ?_) (fun M2 h1 h2 => h M2 ((hF.mono (fun x hx => ?_)).trans h1) h2)
  · rcases hP.2.2.2 with ⟨-, h1⟩ | ⟨-, h1⟩ <;> omega
  · rw [mL_flL, if_pos ⟨rfl, by omega⟩, zb_0]
    refine zb_congr fun c _ => ⟨fun h => h.elim, ?_⟩
    rintro ⟨f1, w1, -, -, h1, -⟩
    exact absurd h1 (by omega)
  · show k ≤ x ∧ x < k + 4
    rcases hP.2.2.2 with ⟨-, h1⟩ | ⟨-, h1⟩ <;> omega
end Spread
