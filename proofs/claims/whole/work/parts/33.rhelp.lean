/-! ===== 33: the reference: pointers, small helpers, which steps may be ===== -/
def ptM : List (Nat × Nat) := [(0, 83), (1, 84), (3, 85), (4, 86), (5, 87), (7, 88), (12, 89), (15, 90), (16, 91), (17, 92), (18, 93), (25, 94), (26, 95), (27, 96), (30, 97), (31, 98), (32, 99), (33, 100)]
def PM (M : MM) : Prop := ∀ t ∈ ptM, mR M 82 t.1 = some t.2
theorem pm_0 {M : MM} (h : PM M) : mR M 82 0 = some 83 := h (0, 83) (by decide)
theorem pm_1 {M : MM} (h : PM M) : mR M 82 1 = some 84 := h (1, 84) (by decide)
theorem pm_3 {M : MM} (h : PM M) : mR M 82 3 = some 85 := h (3, 85) (by decide)
theorem pm_4 {M : MM} (h : PM M) : mR M 82 4 = some 86 := h (4, 86) (by decide)
theorem pm_5 {M : MM} (h : PM M) : mR M 82 5 = some 87 := h (5, 87) (by decide)
theorem pm_7 {M : MM} (h : PM M) : mR M 82 7 = some 88 := h (7, 88) (by decide)
theorem pm_12 {M : MM} (h : PM M) : mR M 82 12 = some 89 := h (12, 89) (by decide)
theorem pm_15 {M : MM} (h : PM M) : mR M 82 15 = some 90 := h (15, 90) (by decide)
theorem pm_16 {M : MM} (h : PM M) : mR M 82 16 = some 91 := h (16, 91) (by decide)
theorem pm_17 {M : MM} (h : PM M) : mR M 82 17 = some 92 := h (17, 92) (by decide)
theorem pm_18 {M : MM} (h : PM M) : mR M 82 18 = some 93 := h (18, 93) (by decide)
theorem pm_25 {M : MM} (h : PM M) : mR M 82 25 = some 94 := h (25, 94) (by decide)
theorem pm_26 {M : MM} (h : PM M) : mR M 82 26 = some 95 := h (26, 95) (by decide)
theorem pm_27 {M : MM} (h : PM M) : mR M 82 27 = some 96 := h (27, 96) (by decide)
theorem pm_30 {M : MM} (h : PM M) : mR M 82 30 = some 97 := h (30, 97) (by decide)
theorem pm_31 {M : MM} (h : PM M) : mR M 82 31 = some 98 := h (31, 98) (by decide)
theorem pm_32 {M : MM} (h : PM M) : mR M 82 32 = some 99 := h (32, 99) (by decide)
theorem pm_33 {M : MM} (h : PM M) : mR M 82 33 = some 100 := h (33, 100) (by decide)

def ME (M : MM) (onN bk : Nat) (mk : Nat → Nat → Prop) : Prop :=
  (mI M 83 1 = -1 ∧ onN = 2 ∧ bk = 1 ∧ ∀ k c : Nat, ¬ mk k c) ∨
  ∃ i : Nat, i < 6 ∧ mI M 83 1 = vI i ∧ mI M 85 i = vI onN ∧ mI M 86 i = vI bk ∧ ∀ k c : Nat, k < 4 → c < 36 → (((iShr (mI M 87 (36 * i + c)) (vI k)) &&& 1) = 1 ↔ mk k c)
section Help
variable {d : Nat} {M : MM} {Q : Option Value → MM → Prop} {onN bk : Nat} {mk : Nat → Nat → Prop}
theorem m_isIn {n : Nat} (hn : n < 2147483648) (c : Int32) : CL d kX11_isIn [.int c, .int (vI n)] M Q = Q (some (.int (b2i (inR c n)))) M := by
  rw [eX11_isIn]; exact inR_ck (n := n) hn c (fun z => Q (some (.int z)) M)
theorem m_isCell (c : Int32) : CL (d + 1) kX11_isCell [.int c] M Q = Q (some (.int (b2i (inR c 36)))) M := by
  rw [eX11_isCell, show (36 : Int32) = vI 36 from rfl, m_isIn (by decide)]
  simp only [Option.toList_some, Option.toList_none, List.cons_append, List.nil_append]
  rw [gX11_isCell_6]
  simp only [b2i_z, true_and]
theorem m_isWalker (hp : PM M) {nw : Nat} (hn : nw < 2147483648) (h0 : mI M 83 0 = vI nw) (c : Int32) : CL (d + 1) kX11_isWalker [.ref 82, .int c] M Q = Q (some (.int (b2i (inR c nw)))) M := by
  rw [eX11_isWalker]
  simp (disch := omega) only [pm_0 hp, ty_82, ty_83, cl_l, inb_l, true_and, and_true, Option.some.injEq, exists_eq_left']
  rw [h0, m_isIn hn]
  simp only [Option.toList_some, Option.toList_none, List.cons_append, List.nil_append]
  rw [gX11_isWalker_10]
  simp only [b2i_z, true_and, Nat.reduceLT]
theorem m_get (hp : PM M) {w k : Nat} (hw : w < 6) (hk : k < 7) : CL d kX11_get [.ref 82, .int (vI w), .int (vI k)] M Q = Q (some (.int (mI M 83 (4 + 7 * w + k)))) M := by
  rw [eX11_get]
  simp (disch := omega) only [pm_0 hp, ty_82, ty_83, mul_ln, add_ln, vI_add, vI_cl, inb_n, true_and, and_true, Option.some.injEq, exists_eq_left']
  simp only [show 4 + 7 * w + k < 70 by omega, true_and]
theorem m_puts (hp : PM M) {w k : Nat} (hw : w < 6) (hk : k < 7) (z : Int32) : CL d kX11_puts [.ref 82, .int (vI w), .int (vI k), .int z] M Q = Q none (sI M 83 (4 + 7 * w + k) z) := by
  rw [eX11_puts]
  simp (disch := omega) only [pm_0 hp, ty_82, ty_83, mul_ln, add_ln, vI_add, vI_cl, inb_n, true_and, and_true, Option.some.injEq, exists_eq_left']
  simp only [show 4 + 7 * w + k < 70 by omega, true_and]
theorem m_isMarked (hp : PM M) (hE : ME M onN bk mk) {c k : Nat} (hc : c < 36) (hk : k < 4) : CL d kX11_isMarked [.ref 82, .int (vI c), .int (vI k)] M Q = Q (some (.int (b2i (pB (mk k c))))) M := by
  rw [eX11_isMarked]
  simp (disch := omega) only [pm_0 hp, pm_5 hp, ty_82, ty_83, ty_87, cl_l, inb_l, true_and, and_true, Option.some.injEq, exists_eq_left', Nat.reduceLT]
  rcases hE with ⟨h1, -, -, h4⟩ | ⟨i, hi, h1, -, -, h4⟩
  · rw [h1, if_pos (by decide), pB_F (h4 k c)]; rfl
  · rw [h1]
    simp (disch := omega) only [vI_neg, if_false, mul_ln, vI_add, vI_cl, inb_n]
    simp only [show 36 * i + c < 216 by omega, true_and]
    by_cases h : mk k c
    · rw [if_pos ((h4 k c hk hc).mpr h), pB_T h]; rfl
    · rw [if_neg (fun h2 => h ((h4 k c hk hc).mp h2)), pB_F h]; rfl
theorem m_onBeats (hp : PM M) (hE : ME M onN bk mk) : CL d kX11_onBeats [.ref 82] M Q = Q (some (.int (vI onN))) M := by
  rw [eX11_onBeats]
  simp (disch := omega) only [pm_0 hp, pm_3 hp, ty_82, ty_83, ty_85, cl_l, inb_l, true_and, and_true, Option.some.injEq, exists_eq_left', Nat.reduceLT]
  rcases hE with ⟨h1, h2, -, -⟩ | ⟨i, hi, h1, h2, -, -⟩
  · rw [h1, if_pos (by decide), h2]; rfl
  · rw [h1]
    simp (disch := omega) only [vI_neg, if_false, vI_cl, inb_n, h2]
    simp only [hi, true_and]
theorem m_beats (hp : PM M) (hE : ME M onN bk mk) : CL (d + 1) kX11_beats [.ref 82] M Q = Q (some (.int (vI (onN + bk)))) M := by
  rw [eX11_beats, m_onBeats hp hE]
  simp only [ty_82, Option.toList_some, Option.toList_none, List.cons_append, List.nil_append, true_and]
  rw [gX11_beats_4]
  simp (disch := omega) only [pm_0 hp, pm_4 hp, ty_82, ty_83, ty_86, cl_l, inb_l, true_and, and_true, Option.some.injEq, exists_eq_left', Nat.reduceLT]
  rcases hE with ⟨h1, h2, h3, -⟩ | ⟨i, hi, h1, -, h3, -⟩
  · rw [h1, if_pos (by decide), h2, h3]; rfl
  · rw [h1]
    simp (disch := omega) only [vI_neg, if_false, vI_cl, inb_n, h3, vI_add]
    simp only [hi, true_and]
theorem m_beatOf (hp : PM M) (hE : ME M onN bk mk) (hB : bnL onN bk) {w bt : Nat} (hw : w < 6) (hb : mI M 83 (4 + 7 * w + 4) = vI bt) (hbt : bt < 2147483648) : CL (d + 2) kX11_beatOf [.ref 82, .int (vI w)] M Q = Q (some (.int (vI (bt % (onN + bk))))) M := by
  obtain ⟨b1, b2, b3, b4⟩ := hB
  rw [eX11_beatOf, show (4 : Int32) = vI 4 from rfl, m_get hp hw (by decide), hb]
  simp only [ty_82, Option.toList_some, Option.toList_none, List.cons_append, List.nil_append, true_and]
  rw [gX11_beatOf_6, m_beats hp hE]
  simp only [ty_82, Option.toList_some, Option.toList_none, List.cons_append, List.nil_append, true_and]
  rw [gX11_beatOf_10]
  simp (disch := omega) only [eq_nl, vI_rem]
  simp only [show ¬ onN + bk = 0 by omega, not_false_eq_true, true_and]
def bsd (c w : Nat) : Int32 := if okb c w = true then vI (nxc c w) else -1
theorem bsd_t {c w : Nat} (h : ok c w) : bsd c w = vI (nxc c w) := if_pos ((ok_b c w).mp h)
theorem bsd_f {c w : Nat} (h : ¬ ok c w) : bsd c w = -1 := if_neg (fun h2 => h ((ok_b c w).mpr h2))
theorem m_beside {c w : Nat} (hc : c < 36) (hw : w < 4) : CL d kX11_beside [.int (vI c), .int (vI w)] M Q = Q (some (.int (bsd c w))) M := by
  rw [eX11_beside]
  simp (disch := omega) only [eq_nl, rem_nl, lt_nl, lt_ln]
  have h4 : w = 0 ∨ w = 1 ∨ w = 2 ∨ w = 3 := by omega
  rcases h4 with rfl | rfl | rfl | rfl
  · rw [if_pos rfl]
    by_cases h : c < 6
    · rw [if_pos h, bsd_f (by omega)]
    · rw [if_neg h, bsd_t (by omega)]; exact qI (vI_sub (a := c) (b := 6) (by omega))
  · rw [if_neg (by decide), if_pos rfl]
    by_cases h : c % 6 < 5
    · rw [if_pos h, bsd_t (by omega)]; exact qI (vI_add c 1)
    · rw [if_neg h, bsd_f (by omega)]
  · rw [if_neg (by decide), if_neg (by decide), if_pos rfl]
    by_cases h : c < 30
    · rw [if_pos h, bsd_t (by omega)]; exact qI (vI_add c 6)
    · rw [if_neg h, bsd_f (by omega)]
  · rw [if_neg (by decide), if_neg (by decide), if_neg (by decide)]
    by_cases h : 0 < c % 6
    · rw [if_pos h, bsd_t (by omega)]; exact qI (vI_sub (a := c) (b := 1) (by omega))
    · rw [if_neg h, bsd_f (by omega)]
theorem m_goesOn (hp : PM M) (hE : ME M onN bk mk) {c f x : Nat} (hc : c < 36) (hf : f < 4) (hx : x < 4) : CL (d + 1) kX11_goesOn [.ref 82, .int (vI c), .int (vI f), .int (vI x)] M Q = Q (some (.int (b2i (pB (onw mk c x f))))) M := by
  rw [eX11_goesOn, m_beside hc hx]
  simp only [Option.toList_some, Option.toList_none, List.cons_append, List.nil_append]
  rw [gX11_goesOn_5]
  by_cases h : ok c x
  · have h36 := nx_lt hc (by omega) h
    rw [bsd_t h]
    simp (disch := omega) only [vI_neg, if_false, ty_82, true_and]
    rw [show (0 : Int32) = vI 0 from rfl, m_isMarked hp hE h36 (by decide)]
    simp only [Option.toList_some, Option.toList_none, List.cons_append, List.nil_append]
    rw [gX11_goesOn_19]
    by_cases h0 : mk 0 (nxc c x)
    · rw [pB_T h0, if_neg (by decide), pB_F (fun h2 => h2.2.1 h0)]; rfl
    · rw [pB_F h0, if_pos (by decide)]
      simp (disch := omega) only [vI_inj, ty_82, true_and]
      by_cases hxf : x = f
      · rw [if_pos hxf, pB_T ⟨h, h0, Or.inl hxf⟩]; rfl
      · rw [if_neg hxf, show (1 : Int32) = vI 1 from rfl, m_isMarked hp hE h36 (by decide)]
        simp only [Option.toList_some, Option.toList_none, List.cons_append, List.nil_append]
        rw [gX11_goesOn_34]
        by_cases h1 : mk 1 (nxc c x)
        · rw [pB_T h1, if_neg (by decide), pB_F (fun h2 => h2.2.2.elim hxf (fun h3 => h3 h1))]; rfl
        · rw [pB_F h1, if_pos (by decide), pB_T ⟨h, h0, Or.inr h1⟩]; rfl
  · rw [bsd_f h, if_pos (by decide), pB_F (fun h2 => h h2.1)]; rfl
theorem rem4_dec : ∀ f : Nat, f < 4 → iRem (vI f + 2) 4 = vI (rvw f) := by decide +kernel
/-- where back leads, as the reference counts -/
def bkt (kd c f w : Nat) : Int32 := if kd = 2 ∨ kd = 5 then vI (nxc c w) else bsd c (rvw f)
theorem m_backTo {kd c f w : Nat} (hk : kd < 7) (hc : c < 36) (hf : f < 4) : CL (d + 1) kX11_backTo [.ref 82, .int (vI kd), .int (vI c), .int (vI f), .int (vI (nxc c w))] M Q = Q (some (.int (bkt kd c f w))) M := by
  rw [eX11_backTo, rem4_dec f hf, m_beside hc (rv_lt4 hf)]
  simp (disch := omega) only [eq_nl, Option.toList_some, Option.toList_none, List.cons_append, List.nil_append]
  rw [gX11_backTo_24, bkt]
  by_cases h2 : kd = 2
  · rw [if_pos h2, if_pos (Or.inl h2)]
  · by_cases h5 : kd = 5
    · rw [if_neg h2, if_pos h5, if_pos (Or.inr h5)]
    · rw [if_neg h2, if_neg h5, if_neg (fun h => h.elim h2 h5)]
theorem bkt_t {kd c f w : Nat} (h : ok c (bwy kd f w)) : bkt kd c f w = vI (nxc c (bwy kd f w)) := by
  unfold bkt bwy at *
  by_cases h2 : kd = 2 ∨ kd = 5
  · rw [if_pos h2, if_pos h2]
  · rw [if_neg h2] at h ⊢; rw [if_neg h2]; exact bsd_t h
theorem bkt_f {kd c f w : Nat} (hk : ok c w) (h : ¬ ok c (bwy kd f w)) : bkt kd c f w = -1 := by
  unfold bkt bwy at *
  by_cases h2 : kd = 2 ∨ kd = 5
  · rw [if_pos h2] at h; exact absurd hk h
  · rw [if_neg h2] at h ⊢; exact bsd_f h
theorem m_goesBack (hp : PM M) (hE : ME M onN bk mk) {kd c f w : Nat} (hkd : kd < 7) (hc : c < 36) (hf : f < 4) (hw : w < 5) (hk : ok c w) : CL (d + 2) kX11_goesBack [.ref 82, .int (vI kd), .int (vI c), .int (vI f), .int (vI (nxc c w))] M Q = Q (some (.int (b2i (pB (bkw mk c (bwy kd f w)))))) M := by
  have hy := bwy_lt (kd := kd) hf hw
  rw [eX11_goesBack, m_backTo hkd hc hf]
  simp only [ty_82, Option.toList_some, Option.toList_none, List.cons_append, List.nil_append, true_and]
  rw [gX11_goesBack_9]
  by_cases h : ok c (bwy kd f w)
  · have h36 := nx_lt hc hy h
    rw [bkt_t h]
    simp (disch := omega) only [vI_neg, if_false, ty_82, true_and]
    rw [show (0 : Int32) = vI 0 from rfl, m_isMarked hp hE h36 (by decide)]
    simp only [Option.toList_some, Option.toList_none, List.cons_append, List.nil_append]
    rw [gX11_goesBack_23]
    by_cases h0 : mk 0 (nxc c (bwy kd f w))
    · rw [pB_T h0, if_neg (by decide), pB_F (fun h2 => h2.2.1 h0)]; rfl
    rw [pB_F h0, if_pos (by decide), show (1 : Int32) = vI 1 from rfl, m_isMarked hp hE h36 (by decide)]
    simp only [ty_82, Option.toList_some, Option.toList_none, List.cons_append, List.nil_append, true_and]
    rw [gX11_goesBack_33]
    by_cases h1 : mk 1 (nxc c (bwy kd f w))
    · rw [pB_T h1, if_neg (by decide), pB_F (fun h2 => h2.2.2.1 h1)]; rfl
    rw [pB_F h1, if_pos (by decide), show (3 : Int32) = vI 3 from rfl, m_isMarked hp hE hc (by decide)]
    simp only [ty_82, Option.toList_some, Option.toList_none, List.cons_append, List.nil_append, true_and]
    rw [gX11_goesBack_42]
    by_cases h3 : mk 3 c
    · rw [pB_T h3, if_neg (by decide), pB_F (fun h2 => h2.2.2.2.2 h3)]; rfl
    rw [pB_F h3, if_pos (by decide), show (2 : Int32) = vI 2 from rfl, m_isMarked hp hE hc (by decide)]
    simp only [ty_82, Option.toList_some, Option.toList_none, List.cons_append, List.nil_append, true_and]
    rw [gX11_goesBack_51]
    by_cases h2 : mk 2 c
    · rw [pB_T h2, if_neg (by decide), pB_F (fun h4 => h4.2.2.2.1 h2)]; rfl
    rw [pB_F h2, if_pos (by decide), pB_T ⟨h, h0, h1, h2, h3⟩]; rfl
  · rw [bkt_f hk h, if_pos (by decide), pB_F (fun h2 => h h2.1)]; rfl
/-- the mask of mayOn ahead of what BLIND makes of it -/
def kcm (kd v gn f x : Nat) : Prop := kd = 1 ∨ (kd = 4 ∧ ¬ x = v % 4) ∨ (¬ kd = 1 ∧ ¬ kd = 4 ∧ (if (kd = 3 ∨ kd = 6) ∧ (gn + v) % 2 = 1 then x = f else ¬ x = rvw f))
theorem m_mayOn_loop (hp : PM M) (hE : ME M onN bk mk) {kd v gn c f : Nat} (hkd : kd < 7) (hv : v < 10) (hc : c < 36) (hf : f < 4) (l5 l8 : Int32) (e8 : l8 = b2i (decide ((kd = 3 ∨ kd = 6) ∧ (gn + v) % 2 = 1)))
    (R : Int32 → Prop) (hR : ∀ (l10 : Value) (z : Int32), WP (d + 2) kX11_mayOn (42, [.ref 82, .int (vI kd), .int (vI v), .int (vI c), .int (vI f), .int l5, .int (vI (rvw f)), .int l8, .int z, .int (vI 4), l10], [], M) Q = R z) :
    ∀ n i : Nat, i + n = 4 → ∀ l10 : Value, WP (d + 2) kX11_mayOn (42, [.ref 82, .int (vI kd), .int (vI v), .int (vI c), .int (vI f), .int l5, .int (vI (rvw f)), .int l8, .int (vI (mb (fun x => kcm kd v gn f x ∧ onw mk c x f) i)), .int (vI i), l10], [], M) Q = R (vI (mb (fun x => kcm kd v gn f x ∧ onw mk c x f) 4)) := by
  have hrf := rv_lt4 hf
  intro n
  induction n with
  | zero =>
    intro i hi l10
    obtain rfl : i = 4 := by omega
    exact hR _ _
  | succ n ih =>
    intro i hi l10
    have hi4 : i < 4 := by omega
    have hgo : ∀ l10 : Int32, (kcm kd v gn f i) → ((TY 82).1 = 11 ∧ (CL (d + 1) kX11_goesOn [.ref 82, .int (vI c), .int (vI f), .int (vI i)] M (fun v_ M_ => WP (d + 2) kX11_mayOn (112, [.ref 82, .int (vI kd), .int (vI v), .int (vI c), .int (vI f), .int l5, .int (vI (rvw f)), .int l8, .int (vI (mb (fun x => kcm kd v gn f x ∧ onw mk c x f) i)), .int (vI i), .int l10], v_.toList ++ [], M_) Q))) = R (vI (mb (fun x => kcm kd v gn f x ∧ onw mk c x f) 4)) := by
      intro l10 hk
      rw [m_goesOn hp hE hc hf hi4]
      simp only [ty_82, Option.toList_some, Option.toList_none, List.cons_append, List.nil_append, true_and]
      rw [gX11_mayOn_112, add_nl]
      by_cases h : onw mk c i f
      · rw [pB_T h, if_neg (by decide), mb_or _ (by omega) ⟨hk, h⟩]
        exact ih (i + 1) (by omega) _
      · rw [pB_F h, if_pos (by decide)]
        have e := mb_no (fun x => kcm kd v gn f x ∧ onw mk c x f) (n := i) (fun h2 => h h2.2)
        rw [← e]
        exact ih (i + 1) (by omega) _
    have hno : ∀ l10 : Value, (¬ kcm kd v gn f i) → WP (d + 2) kX11_mayOn (42, [.ref 82, .int (vI kd), .int (vI v), .int (vI c), .int (vI f), .int l5, .int (vI (rvw f)), .int l8, .int (vI (mb (fun x => kcm kd v gn f x ∧ onw mk c x f) i)), .int (vI i + 1), l10], [], M) Q = R (vI (mb (fun x => kcm kd v gn f x ∧ onw mk c x f) 4)) := by
      intro l10 hk
      rw [add_nl]
      have e := mb_no (fun x => kcm kd v gn f x ∧ onw mk c x f) (n := i) (fun h2 => hk h2.1)
      rw [← e]
      exact ih (i + 1) (by omega) _
    have q1 : (vI kd = 1) = (kd = 1) := eq_nl (by omega) (by decide)
    have q4 : (vI kd = 4) = (kd = 4) := eq_nl (by omega) (by decide)
    have qv : (vI i = iRem (vI v) 4) = (i = v % 4) := by rw [rem_nl (by omega) (by decide), vI_inj (by omega) (by omega)]
    have qf : (vI i = vI f) = (i = f) := vI_inj (by omega) (by omega)
    have qr : (vI i = vI (rvw f)) = (i = rvw f) := vI_inj (by omega) (by omega)
    rw [gX11_mayOn_42, if_pos (show vI i < 4 by rw [lt_nl (by omega) (by decide)]; exact hi4)]
    by_cases h1 : kd = 1
    · rw [if_pos (show vI kd = 1 by rw [q1]; exact h1), if_neg (by decide)]
      exact hgo _ (Or.inl h1)
    rw [if_neg (show ¬ vI kd = 1 by rw [q1]; exact h1)]
    by_cases h4 : kd = 4
    · rw [if_pos (show vI kd = 4 by rw [q4]; exact h4)]
      by_cases hx : i = v % 4
      · rw [if_pos (show vI i = iRem (vI v) 4 by rw [qv]; exact hx), if_pos (by decide)]
        refine hno _ ?_
        rintro (h | h | h)
        · exact h1 h
        · exact h.2 hx
        · exact h.2.1 h4
      · rw [if_neg (show ¬ vI i = iRem (vI v) 4 by rw [qv]; exact hx), if_neg (by decide)]
        exact hgo _ (Or.inr (Or.inl ⟨h4, hx⟩))
    rw [if_neg (show ¬ vI kd = 4 by rw [q4]; exact h4)]
    by_cases hn : (kd = 3 ∨ kd = 6) ∧ (gn + v) % 2 = 1
    · have hkc : kcm kd v gn f i ↔ i = f := by
        unfold kcm
        rw [if_pos hn]
        exact ⟨fun h => h.elim (fun h => absurd h h1) (fun h => h.elim (fun h => absurd h.1 h4) (fun h => h.2.2)), fun h => Or.inr (Or.inr ⟨h1, h4, h⟩)⟩
      rw [if_neg (show ¬ l8 = 0 by rw [e8, decide_eq_true hn]; decide)]
      by_cases hx : i = f
      · rw [if_pos (show vI i = vI f by rw [qf]; exact hx), if_neg (by decide)]
        exact hgo _ (hkc.mpr hx)
      · rw [if_neg (show ¬ vI i = vI f by rw [qf]; exact hx), if_pos (by decide)]
        exact hno _ (fun h => hx (hkc.mp h))
    · have hkc : kcm kd v gn f i ↔ ¬ i = rvw f := by
        unfold kcm
        rw [if_neg hn]
        exact ⟨fun h => h.elim (fun h => absurd h h1) (fun h => h.elim (fun h => absurd h.1 h4) (fun h => h.2.2)), fun h => Or.inr (Or.inr ⟨h1, h4, h⟩)⟩
      rw [if_pos (show l8 = 0 by rw [e8, decide_eq_false hn]; decide)]
      by_cases hx : i = rvw f
      · rw [if_pos (show vI i = vI (rvw f) by rw [qr]; exact hx), if_pos (by decide)]
        exact hno _ (fun h => hkc.mp h hx)
      · rw [if_neg (show ¬ vI i = vI (rvw f) by rw [qr]; exact hx), if_neg (by decide)]
        exact hgo _ (hkc.mpr hx)
end Help

