/-! ===== 34: the reference: which steps may be ===== -/
theorem mb4_6 (p : Nat → Prop) : mb p 4 = mb (fun x => x < 4 ∧ p x) 6 := by
  have h5 := mb_no (fun x => x < 4 ∧ p x) (n := 5) (fun h => absurd h.1 (by decide))
  have h4 := mb_no (fun x => x < 4 ∧ p x) (n := 4) (fun h => absurd h.1 (by decide))
  rw [h5, h4]
  exact mb_congr 4 (fun a ha => ⟨fun h => ⟨ha, h⟩, fun h => h.2⟩)
theorem mb4_one : ∀ f : Nat, f < 4 → iShl 1 (vI f) = vI (2 ^ f) := by decide +kernel
theorem mb_eq4 {f : Nat} (hf : f < 4) : mb (fun x => x = f) 4 = 2 ^ f := by
  have h4 : f = 0 ∨ f = 1 ∨ f = 2 ∨ f = 3 := by omega
  rcases h4 with rfl | rfl | rfl | rfl
  · simp only [mb]; rw [eB_t trivial, eB_f (by decide), eB_f (by decide), eB_f (by decide)]
  · simp only [mb]; rw [eB_f (by decide), eB_t trivial, eB_f (by decide), eB_f (by decide)]
  · simp only [mb]; rw [eB_f (by decide), eB_f (by decide), eB_t trivial, eB_f (by decide)]
  · simp only [mb]; rw [eB_f (by decide), eB_f (by decide), eB_f (by decide), eB_t trivial]
theorem mb4_0 {p : Nat → Prop} : mb p 4 = 0 ↔ ∀ x : Nat, x < 4 → ¬ p x := by
  constructor
  · intro h x hx h2
    simp only [mb] at h
    have h4 : x = 0 ∨ x = 1 ∨ x = 2 ∨ x = 3 := by omega
    rcases h4 with rfl | rfl | rfl | rfl
    · rw [eB_t h2] at h; omega
    · rw [eB_t h2] at h; omega
    · rw [eB_t h2] at h; omega
    · rw [eB_t h2] at h; omega
  · intro h
    simp only [mb]
    rw [eB_f (h 0 (by decide)), eB_f (h 1 (by decide)), eB_f (h 2 (by decide)), eB_f (h 3 (by decide))]
theorem or32_dec : ∀ y : Nat, y < 16 → vI y ||| 32 = vI (y + 32) := by decide +kernel
section May
variable {d : Nat} {M : MM} {Q : Option Value → MM → Prop} {onN bk : Nat} {mk : Nat → Nat → Prop} {kd v gn c f w : Nat}
theorem m_mayOn (hp : PM M) (hE : ME M onN bk mk) (hkd : kd < 7) (hv : v < 10) (hc : c < 36) (hf : f < 4) (hg : gn < 1000) : CL (d + 2) kX11_mayOn [.ref 82, .int (vI kd), .int (vI v), .int (vI c), .int (vI f), .int (vI gn)] M Q = Q (some (.int (vI (mb (ons mk kd v gn c f) 4)))) M := by
  have hrf := rv_lt4 hf
  have q3 : (vI kd = 3) = (kd = 3) := eq_nl (by omega) (by decide)
  have q5 : (vI kd = 5) = (kd = 5) := eq_nl (by omega) (by decide)
  have q6 : (vI kd = 6) = (kd = 6) := eq_nl (by omega) (by decide)
  have qg : (iRem (vI gn + vI v) 2 = 1) = ((gn + v) % 2 = 1) := by rw [vI_add, rem_nl (by omega) (by decide), eq_nl (by omega) (by decide)]
  have step : ∀ l8 : Int32, l8 = b2i (decide ((kd = 3 ∨ kd = 6) ∧ (gn + v) % 2 = 1)) → WP (d + 2) kX11_mayOn (42, [.ref 82, .int (vI kd), .int (vI v), .int (vI c), .int (vI f), .int (vI gn), .int (vI (rvw f)), .int l8, .int 0, .int 0, dm], [], M) Q = Q (some (.int (vI (mb (ons mk kd v gn c f) 4)))) M := by
    intro l8 e8
    have h := m_mayOn_loop (d := d) (Q := Q) hp hE hkd hv hc hf (vI gn) l8 e8 (fun z => if vI kd = 5 then (if ((iShr z (vI f)) &&& 1) = 1 then Q (some (.int (iShl 1 (vI f)))) M else Q (some (.int z)) M) else Q (some (.int z)) M) (fun l10 z => by rw [gX11_mayOn_42, if_neg (by decide)]) 4 0 rfl dm
    refine h.trans ?_
    show (if vI kd = 5 then _ else _) = _
    by_cases h5 : kd = 5
    · rw [if_pos (show vI kd = 5 by rw [q5]; exact h5)]
      have hb : ((iShr (vI (mb (fun x => kcm kd v gn f x ∧ onw mk c x f) 4)) (vI f)) &&& 1 = 1) = (f < 4 ∧ (kcm kd v gn f f ∧ onw mk c f f)) := by rw [mb4_6, mb_bit1 _ (by omega)]
      have hk : ∀ x : Nat, kcm kd v gn f x ↔ ¬ x = rvw f := fun x => by
        unfold kcm
        rw [if_neg (by omega)]
        exact ⟨fun h => h.elim (fun h => by omega) (fun h => h.elim (fun h => by omega) (fun h => h.2.2)), fun h => Or.inr (Or.inr ⟨by omega, by omega, h⟩)⟩
      have hff : ¬ f = rvw f := by unfold rvw; split <;> omega
      by_cases ho : onw mk c f f
      · rw [if_pos (by rw [hb]; exact ⟨hf, (hk f).mpr hff, ho⟩), mb4_one f hf, ← mb_eq4 hf]
        refine qI (congrArg vI (mb_congr 4 fun x hx => ?_))
        constructor
        · rintro rfl; exact ⟨ho, Or.inr (Or.inr ⟨by omega, by omega, Or.inl rfl⟩)⟩
        · rintro ⟨h1, h2 | h2 | ⟨-, -, h2 | h2⟩⟩
          · omega
          · omega
          · exact h2
          · exact absurd ho (h2.2.2 h5)
      · rw [if_neg (by rw [hb]; exact fun h => ho h.2.2)]
        refine qI (congrArg vI (mb_congr 4 fun x hx => ?_))
        rw [hk]
        constructor
        · rintro ⟨h1, h2⟩; exact ⟨h2, Or.inr (Or.inr ⟨by omega, by omega, Or.inr ⟨h1, fun h => by omega, fun _ => ho⟩⟩)⟩
        · rintro ⟨h1, h2 | h2 | ⟨-, -, h2 | h2⟩⟩
          · omega
          · omega
          · subst h2; exact absurd h1 ho
          · exact ⟨h2.1, h1⟩
    · rw [if_neg (show ¬ vI kd = 5 by rw [q5]; exact h5)]
      refine qI (congrArg vI (mb_congr 4 fun x hx => ?_))
      show kcm kd v gn f x ∧ onw mk c x f ↔ onw mk c x f ∧ kc mk kd v gn c f x
      have hff : ¬ f = rvw f := by unfold rvw; split <;> omega
      have e : kcm kd v gn f x ↔ kc mk kd v gn c f x := by
        unfold kcm kc
        by_cases hn : (kd = 3 ∨ kd = 6) ∧ (gn + v) % 2 = 1
        · rw [if_pos hn]
          constructor
          · rintro (h | h | h)
            · exact Or.inl h
            · exact Or.inr (Or.inl h)
            · exact Or.inr (Or.inr ⟨h.1, h.2.1, Or.inl h.2.2⟩)
          · rintro (h | h | ⟨h1, h2, h3 | h3⟩)
            · exact Or.inl h
            · exact Or.inr (Or.inl h)
            · exact Or.inr (Or.inr ⟨h1, h2, h3⟩)
            · have := h3.2.1 hn.1; omega
        · rw [if_neg hn]
          constructor
          · rintro (h | h | h)
            · exact Or.inl h
            · exact Or.inr (Or.inl h)
            · exact Or.inr (Or.inr ⟨h.1, h.2.1, Or.inr ⟨h.2.2, fun h4 => by
                have : ¬ (gn + v) % 2 = 1 := fun h6 => hn ⟨h4, h6⟩
                omega, fun h6 => absurd h6 h5⟩⟩)
          · rintro (h | h | ⟨h1, h2, h3 | h3⟩)
            · exact Or.inl h
            · exact Or.inr (Or.inl h)
            · exact Or.inr (Or.inr ⟨h1, h2, by rw [h3]; exact hff⟩)
            · exact Or.inr (Or.inr ⟨h1, h2, h3.1⟩)
      rw [e]; exact and_comm
  rw [eX11_mayOn, rem4_dec f hf]
  by_cases h3 : kd = 3
  · rw [if_pos (show vI kd = 3 by rw [q3]; exact h3)]
    by_cases hg1 : (gn + v) % 2 = 1
    · rw [if_pos (show iRem (vI gn + vI v) 2 = 1 by rw [qg]; exact hg1)]
      exact step _ (by rw [decide_eq_true ⟨Or.inl h3, hg1⟩]; rfl)
    · rw [if_neg (show ¬ iRem (vI gn + vI v) 2 = 1 by rw [qg]; exact hg1)]
      exact step _ (by rw [decide_eq_false (fun h => hg1 h.2)]; rfl)
  · rw [if_neg (show ¬ vI kd = 3 by rw [q3]; exact h3)]
    by_cases h6 : kd = 6
    · rw [if_pos (show vI kd = 6 by rw [q6]; exact h6)]
      by_cases hg1 : (gn + v) % 2 = 1
      · rw [if_pos (show iRem (vI gn + vI v) 2 = 1 by rw [qg]; exact hg1)]
        exact step _ (by rw [decide_eq_true ⟨Or.inr h6, hg1⟩]; rfl)
      · rw [if_neg (show ¬ iRem (vI gn + vI v) 2 = 1 by rw [qg]; exact hg1)]
        exact step _ (by rw [decide_eq_false (fun h => hg1 h.2)]; rfl)
    · rw [if_neg (show ¬ vI kd = 6 by rw [q6]; exact h6)]
      exact step _ (by rw [decide_eq_false (fun h => h.1.elim h3 h6)]; rfl)
theorem m_mayBy (hp : PM M) (hE : ME M onN bk mk) {b : Nat} (hn : bnd kd v b gn) (hB : bnL onN bk) (hc : c < 36) (hf : f < 4) (hw : w < 5) (hk : ok c w) : CL (d + 3) kX11_mayBy [.ref 82, .int (vI kd), .int (vI v), .int (vI c), .int (vI f), .int (vI (nxc c w)), .int (vI b), .int (vI gn)] M Q = Q (some (.int (vI (mb (may mk kd v (b < onN) gn c f w) 6)))) M := by
  obtain ⟨n1, n2, n3, n4⟩ := hn
  obtain ⟨b1, b2, b3, b4⟩ := id hB
  have qb : (vI b < vI onN) = (b < onN) := vI_lt (by omega) (by omega)
  rw [eX11_mayBy, m_onBeats hp hE]
  simp only [ty_82, Option.toList_some, Option.toList_none, List.cons_append, List.nil_append, true_and]
  rw [gX11_mayBy_6]
  by_cases ho : b < onN
  · rw [if_pos (show vI b < vI onN by rw [qb]; exact ho), m_mayOn hp hE n1 n2 hc hf n4]
    simp only [ty_82, Option.toList_some, Option.toList_none, List.cons_append, List.nil_append, true_and]
    have h16 : mb (ons mk kd v gn c f) 4 < 16 := mb_lt _ 4
    have e0 : (vI (mb (ons mk kd v gn c f) 4) = 0) = (mb (ons mk kd v gn c f) 4 = 0) := eq_nl (by omega) (by decide)
    have e32 : (vI (mb (ons mk kd v gn c f) 4) ||| 32 = 0) = False := by rw [or32_dec _ h16, eq_nl (by omega) (by decide)]; simp
    have q6 : (vI kd = 6) = (kd = 6) := eq_nl (by omega) (by decide)
    have qv : ((0 : Int32) < vI v) = (0 < v) := lt_ln (by omega) (by decide)
    have qv0 : (vI v = 0) = (v = 0) := eq_nl (by omega) (by decide)
    have hz0 : gn % v < 2147483648 := Nat.lt_of_le_of_lt (Nat.mod_le _ _) (by omega)
    have qg : (iRem (vI gn) (vI v) = 0) = (gn % v = 0) := by rw [vI_rem (by omega) (by omega), eq_nl hz0 (by decide)]
    have em : mb (may mk kd v (b < onN) gn c f w) 6 = mb (ons mk kd v gn c f) 4 + eB (may mk kd v (b < onN) gn c f w 5) * 32 := by
      rw [show mb (may mk kd v (b < onN) gn c f w) 6 = mb (may mk kd v (b < onN) gn c f w) 5 + eB (may mk kd v (b < onN) gn c f w 5) * 2 ^ 5 from rfl]
      have h4 := mb_no (may mk kd v (b < onN) gn c f w) (n := 4) (fun h => by
        rcases h with h | h | h
        · exact absurd h.1 (by decide)
        · exact h.2.1 ho
        · exact absurd h.1 (by decide))
      rw [h4, mb_congr 4 (p := may mk kd v (b < onN) gn c f w) (q := ons mk kd v gn c f) (fun a ha => ⟨fun h => ?_, fun h => Or.inl ⟨ha, ho, h⟩⟩)]
      rcases h with h | h | h
      · exact h.2.2
      · omega
      · omega
    have fin : (kd = 6 ∧ 0 < v ∧ gn % v = 0 → False) → (if vI (mb (ons mk kd v gn c f) 4) = 0 then Q (some (.int 32)) M else Q (some (.int (vI (mb (ons mk kd v gn c f) 4)))) M) = Q (some (.int (vI (mb (may mk kd v (b < onN) gn c f w) 6)))) M := by
      intro hno
      rw [em]
      by_cases hz : mb (ons mk kd v gn c f) 4 = 0
      · rw [if_pos (by rw [e0]; exact hz), hz, eB_t (show may mk kd v (b < onN) gn c f w 5 from Or.inr (Or.inr ⟨rfl, Or.inl ⟨ho, Or.inr (mb4_0.mp hz)⟩⟩))]; rfl
      · rw [if_neg (by rw [e0]; exact hz), eB_f (fun h => ?_), Nat.zero_mul, Nat.add_zero]
        rcases h with h | h | h
        · exact absurd h.1 (by decide)
        · exact absurd h.1 (by decide)
        · rcases h.2 with ⟨-, h | h⟩ | ⟨h, -⟩
          · exact hno h
          · exact hz (mb4_0.mpr h)
          · exact h ho
    rw [gX11_mayBy_20]
    by_cases h6 : kd = 6
    · rw [if_pos (by rw [q6]; exact h6)]
      by_cases h0 : 0 < v
      · rw [if_pos (by rw [qv]; exact h0)]
        have hv0 : ¬ vI v = 0 := by rw [qv0]; omega
        by_cases hg : gn % v = 0
        · rw [if_pos (by rw [qg]; exact hg), if_neg (by rw [e32]; exact id), or32_dec _ h16, em, eB_t (show may mk kd v (b < onN) gn c f w 5 from Or.inr (Or.inr ⟨rfl, Or.inl ⟨ho, Or.inl ⟨h6, h0, hg⟩⟩⟩)), Nat.one_mul]
          exact propext ⟨fun h => h.2, fun h => ⟨hv0, h⟩⟩
        · rw [if_neg (by rw [qg]; exact hg)]
          exact (propext ⟨fun h => h.2, fun h => ⟨hv0, h⟩⟩ : (¬ vI v = 0 ∧ _) = _).trans (fin (fun h => hg h.2.2))
      · rw [if_neg (by rw [qv]; exact h0)]
        exact fin (fun h => h0 h.2.1)
    · rw [if_neg (by rw [q6]; exact h6)]
      exact fin (fun h => h6 h.1)
  · rw [if_neg (show ¬ vI b < vI onN by rw [qb]; exact ho), m_goesBack hp hE n1 hc hf hw hk]
    simp only [ty_82, Option.toList_some, Option.toList_none, List.cons_append, List.nil_append, true_and]
    rw [gX11_mayBy_59]
    have e0 : mb (may mk kd v (b < onN) gn c f w) 4 = 0 := mb4_0.mpr (fun x hx h => by
      rcases h with h | h | h
      · exact ho h.2.1
      · omega
      · omega)
    have em : mb (may mk kd v (b < onN) gn c f w) 6 = eB (may mk kd v (b < onN) gn c f w 4) * 16 + eB (may mk kd v (b < onN) gn c f w 5) * 32 := by
      show mb (may mk kd v (b < onN) gn c f w) 4 + eB (may mk kd v (b < onN) gn c f w 4) * 2 ^ 4 + eB (may mk kd v (b < onN) gn c f w 5) * 2 ^ 5 = _
      rw [e0, Nat.zero_add]
    rw [em]
    by_cases h : bkw mk c (bwy kd f w)
    · rw [pB_T h, if_neg (by decide), if_neg (by decide), eB_t (show may mk kd v (b < onN) gn c f w 4 from Or.inr (Or.inl ⟨rfl, ho, h⟩)), eB_f (fun h2 : may mk kd v (b < onN) gn c f w 5 => ?_)]
      · rfl
      · rcases h2 with h2 | h2 | h2
        · exact absurd h2.1 (by decide)
        · exact absurd h2.1 (by decide)
        · rcases h2.2 with h3 | h3
          · exact ho h3.1
          · exact h3.2 h
    · rw [pB_F h, if_pos (by decide), if_pos (by decide), eB_f (fun h2 : may mk kd v (b < onN) gn c f w 4 => ?_), eB_t (show may mk kd v (b < onN) gn c f w 5 from Or.inr (Or.inr ⟨rfl, Or.inr ⟨ho, h⟩⟩))]
      · rfl
      · rcases h2 with h2 | h2 | h2
        · exact absurd h2.1 (by decide)
        · exact h h2.2.2
        · exact absurd h2.1 (by decide)
end May
