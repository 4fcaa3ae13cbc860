/-! ===== 68: the law's loop ===== -/
section Law
variable {MZ M : MM} {n d L : Nat} {Q : Option Value → MM → Prop}
theorem law_int {kc km A : Nat} {as ls : List Value} (hP : PRI MZ (d + 80) n kc km as M)
    (hA : ∀ (v : Int32) (M1 : MM), KPm M M1 → CL (d + 80) km (.ref 82 :: as) M1 (fun r M2 => r = some (.int v) ∧ INV MZ (n + 1) M2) → WP (d + 81) kL_law (A, ls, [.int v], M1) Q) :
    CL (d + 80) kc (.ref 21 :: as) M (fun v_ M_ => WP (d + 81) kL_law (A, ls, v_.toList ++ [], M_) Q) := by
  refine CL.mono (K_CL hP) (fun r M1 h => ?_)
  obtain ⟨⟨v, hr, hc⟩, hk⟩ := h
  subst hr
  exact hA v M1 hk hc
theorem law_lng {kc km A : Nat} {as ls : List Value} (hP : PRL MZ (d + 80) n kc km as M)
    (hA : ∀ (v : Int64) (M1 : MM), KPm M M1 → CL (d + 80) km (.ref 82 :: as) M1 (fun r M2 => r = some (.long v) ∧ INV MZ (n + 1) M2) → WP (d + 81) kL_law (A, ls, [.long v], M1) Q) :
    CL (d + 80) kc (.ref 21 :: as) M (fun v_ M_ => WP (d + 81) kL_law (A, ls, v_.toList ++ [], M_) Q) := by
  refine CL.mono (K_CL hP) (fun r M1 h => ?_)
  obtain ⟨⟨v, hr, hc⟩, hk⟩ := h
  subst hr
  exact hA v M1 hk hc
set_option maxHeartbeats 4000000 in
theorem law_loop (hZ : StrZ MZ) (hL : L ≤ 3072) (h10 : mI MZ 1 0 = vI L) (hq : ∀ M' : MM, mN M' ≤ 119 → Q (some (.int 1)) M') : ∀ m n : Nat, n + m ≤ 513 → L ≤ 6 * (n + m) + 5 → ∀ M : MM, INV MZ n M → WP (d + 81) kL_law (18, [.retAddr 2, .ref 21, .ref 82, .int (vI (6 * n))], [], M) Q := by
  have hend : ∀ (n : Nat) (M : MM), INV MZ n M → mN M ≤ 119 := by
    intro n M hI
    obtain ⟨i1, i2, i3, i4, ⟨LL, i5, i6, i7⟩, i8⟩ := hI
    rw [i5.2.2.2.1]
    have := i5.1
    omega
  have hlt : ∀ n : Nat, n ≤ 513 → (vI L - 6 < vI (6 * n)) = (L < 6 * n + 6) := by
    intro n hn
    by_cases h : 6 ≤ L
    · rw [sub_nl h, vI_lt (by omega) (by omega)]
      exact propext ⟨fun h => by omega, fun h => by omega⟩
    · have hd : ∀ L : Nat, L < 6 → vI L - 6 < 0 := by decide +kernel
      have h1 := hd L (by omega)
      have h2 : ¬ vI (6 * n) < 0 := by rw [vI_neg (by omega)]; exact id
      refine propext ⟨fun _ => by omega, fun _ => ?_⟩
      rw [Int32.lt_iff_toInt_lt] at h1 h2 ⊢
      omega
  intro m
  induction m with
  | zero =>
    intro n hnm hm M hI
    have f1 : mI M 1 = mI MZ 1 := (hI.2.2.2.1 1 (by decide)).1
    rw [gL_law_18, f1, h10, if_pos (Classical.byContradiction fun hf => by rw [hlt n (by omega)] at hf; omega)]
    exact hq M (hend n M hI)
  | succ m ih =>
    intro n hnm hm M hI
    have f1 : mI M 1 = mI MZ 1 := (hI.2.2.2.1 1 (by decide)).1
    rw [gL_law_18, f1, h10]
    by_cases hfin : vI L - 6 < vI (6 * n)
    · rw [if_pos hfin]; exact hq M (hend n M hI)
    have hnn : 6 * n + 6 ≤ L := by rw [hlt n (by omega)] at hfin; omega
    rw [if_neg hfin]
    have hsl : slen M = L := by unfold slen; rw [f1, h10, vI_cl (by omega)]
    have i0 : inb (vI (6 * n)) (slen M) := by rw [hsl, inb_n (by omega)]; omega
    have i1 : inb (vI (6 * n) + 1) (slen M) := by rw [hsl, add_nl, inb_n (by omega)]; omega
    have i2 : inb (vI (6 * n) + 2) (slen M) := by rw [hsl, add_nl, inb_n (by omega)]; omega
    have i3 : inb (vI (6 * n) + 3) (slen M) := by rw [hsl, add_nl, inb_n (by omega)]; omega
    have i4 : inb (vI (6 * n) + 4) (slen M) := by rw [hsl, add_nl, inb_n (by omega)]; omega
    have i5 : inb (vI (6 * n) + 5) (slen M) := by rw [hsl, add_nl, inb_n (by omega)]; omega
    have next : ∀ M2 : MM, INV MZ (n + 1) M2 → WP (d + 81) kL_law (18, [.retAddr 2, .ref 21, .ref 82, .int (vI (6 * n) + 6)], [], M2) Q := fun M2 hI2 => by
      rw [add_nl, show 6 * n + 6 = 6 * (n + 1) by omega]
      exact ih (n + 1) (by omega) (by omega) M2 hI2
    refine ⟨i0, ?_⟩
    by_cases o0 : (mI M 0 (vI (6 * n)).toNatClampNeg) &&& 31 = 0
    · rw [if_pos o0]
      refine ⟨i1, by simp only [ty_21], law_int (p_feed (d := d + 68) hZ hI _) (fun v M1 hk hc => ?_)⟩
      have e0 : mI M1 0 = mI M 0 := hk 0 (Or.inl (by rw [ty_0]))
      have e1 : slen M1 = slen M := by unfold slen; rw [hk 1 (Or.inr (by rw [ty_1]))]
      rw [gL_law_185]
      rw [e1, e0]
      refine ⟨i1, by simp only [ty_82], CL.mono hc (fun r M2 h2 => ?_)⟩
      obtain ⟨rfl, hI2⟩ := h2
      simp only [Option.toList_some, Option.toList_none, List.cons_append, List.nil_append]
      rw [gL_law_194, if_pos rfl]
      exact next M2 hI2
    rw [if_neg o0]
    by_cases o1 : (mI M 0 (vI (6 * n)).toNatClampNeg) &&& 31 = 1
    · rw [if_pos o1]
      refine ⟨by simp only [ty_21], law_int (p_land (d := d + 50) hZ hI) (fun v M1 hk hc => ?_)⟩
      have e0 : mI M1 0 = mI M 0 := hk 0 (Or.inl (by rw [ty_0]))
      have e1 : slen M1 = slen M := by unfold slen; rw [hk 1 (Or.inr (by rw [ty_1]))]
      rw [gL_law_203]
      skip
      refine ⟨by simp only [ty_82], CL.mono hc (fun r M2 h2 => ?_)⟩
      obtain ⟨rfl, hI2⟩ := h2
      simp only [Option.toList_some, Option.toList_none, List.cons_append, List.nil_append]
      rw [gL_law_207, if_pos rfl]
      exact next M2 hI2
    rw [if_neg o1]
    by_cases o2 : (mI M 0 (vI (6 * n)).toNatClampNeg) &&& 31 = 2
    · rw [if_pos o2]
      refine ⟨i1, by simp only [ty_21], law_int (p_told (d := d + 68) hI _) (fun v M1 hk hc => ?_)⟩
      have e0 : mI M1 0 = mI M 0 := hk 0 (Or.inl (by rw [ty_0]))
      have e1 : slen M1 = slen M := by unfold slen; rw [hk 1 (Or.inr (by rw [ty_1]))]
      rw [gL_law_221]
      rw [e1, e0]
      refine ⟨i1, by simp only [ty_82], CL.mono hc (fun r M2 h2 => ?_)⟩
      obtain ⟨rfl, hI2⟩ := h2
      simp only [Option.toList_some, Option.toList_none, List.cons_append, List.nil_append]
      rw [gL_law_230, if_pos rfl]
      exact next M2 hI2
    rw [if_neg o2]
    by_cases o3 : (mI M 0 (vI (6 * n)).toNatClampNeg) &&& 31 = 3
    · rw [if_pos o3]
      refine ⟨i1, i2, by simp only [ty_21], law_int (p_ground (d := d + 68) hI _ _) (fun v M1 hk hc => ?_)⟩
      have e0 : mI M1 0 = mI M 0 := hk 0 (Or.inl (by rw [ty_0]))
      have e1 : slen M1 = slen M := by unfold slen; rw [hk 1 (Or.inr (by rw [ty_1]))]
      rw [gL_law_249]
      rw [e1, e0]
      refine ⟨i1, i2, by simp only [ty_82], CL.mono hc (fun r M2 h2 => ?_)⟩
      obtain ⟨rfl, hI2⟩ := h2
      simp only [Option.toList_some, Option.toList_none, List.cons_append, List.nil_append]
      rw [gL_law_263, if_pos rfl]
      exact next M2 hI2
    rw [if_neg o3]
    by_cases o4 : (mI M 0 (vI (6 * n)).toNatClampNeg) &&& 31 = 4
    · rw [if_pos o4]
      refine ⟨i1, i2, i3, i4, by simp only [ty_21], law_int (p_walker (d := d + 68) hI _ _ _ _) (fun v M1 hk hc => ?_)⟩
      have e0 : mI M1 0 = mI M 0 := hk 0 (Or.inl (by rw [ty_0]))
      have e1 : slen M1 = slen M := by unfold slen; rw [hk 1 (Or.inr (by rw [ty_1]))]
      rw [gL_law_292]
      rw [e1, e0]
      refine ⟨i1, i2, i3, i4, by simp only [ty_82], CL.mono hc (fun r M2 h2 => ?_)⟩
      obtain ⟨rfl, hI2⟩ := h2
      simp only [Option.toList_some, Option.toList_none, List.cons_append, List.nil_append]
      rw [gL_law_316, if_pos rfl]
      exact next M2 hI2
    rw [if_neg o4]
    by_cases o5 : (mI M 0 (vI (6 * n)).toNatClampNeg) &&& 31 = 5
    · rw [if_pos o5]
      refine ⟨i1, i2, by simp only [ty_21], law_int (p_of (d := d + 68) hI _ _) (fun v M1 hk hc => ?_)⟩
      have e0 : mI M1 0 = mI M 0 := hk 0 (Or.inl (by rw [ty_0]))
      have e1 : slen M1 = slen M := by unfold slen; rw [hk 1 (Or.inr (by rw [ty_1]))]
      rw [gL_law_335]
      rw [e1, e0]
      refine ⟨i1, i2, by simp only [ty_82], CL.mono hc (fun r M2 h2 => ?_)⟩
      obtain ⟨rfl, hI2⟩ := h2
      simp only [Option.toList_some, Option.toList_none, List.cons_append, List.nil_append]
      rw [gL_law_349, if_pos rfl]
      exact next M2 hI2
    rw [if_neg o5]
    by_cases o6 : (mI M 0 (vI (6 * n)).toNatClampNeg) &&& 31 = 6
    · rw [if_pos o6]
      refine ⟨i1, i2, i3, i4, by simp only [ty_21], law_int (p_put (d := d + 68) hI _ _ _ _) (fun v M1 hk hc => ?_)⟩
      have e0 : mI M1 0 = mI M 0 := hk 0 (Or.inl (by rw [ty_0]))
      have e1 : slen M1 = slen M := by unfold slen; rw [hk 1 (Or.inr (by rw [ty_1]))]
      rw [gL_law_378]
      rw [e1, e0]
      refine ⟨i1, i2, i3, i4, by simp only [ty_82], CL.mono hc (fun r M2 h2 => ?_)⟩
      obtain ⟨rfl, hI2⟩ := h2
      simp only [Option.toList_some, Option.toList_none, List.cons_append, List.nil_append]
      rw [gL_law_402, if_pos rfl]
      exact next M2 hI2
    rw [if_neg o6]
    by_cases o7 : (mI M 0 (vI (6 * n)).toNatClampNeg) &&& 31 = 7
    · rw [if_pos o7]
      refine ⟨i1, by simp only [ty_21], law_int (p_may (d := d + 68) hI (by omega) _) (fun v M1 hk hc => ?_)⟩
      have e0 : mI M1 0 = mI M 0 := hk 0 (Or.inl (by rw [ty_0]))
      have e1 : slen M1 = slen M := by unfold slen; rw [hk 1 (Or.inr (by rw [ty_1]))]
      rw [gL_law_416]
      rw [e1, e0]
      refine ⟨i1, by simp only [ty_82], CL.mono hc (fun r M2 h2 => ?_)⟩
      obtain ⟨rfl, hI2⟩ := h2
      simp only [Option.toList_some, Option.toList_none, List.cons_append, List.nil_append]
      rw [gL_law_425, if_pos rfl]
      exact next M2 hI2
    rw [if_neg o7]
    by_cases o8 : (mI M 0 (vI (6 * n)).toNatClampNeg) &&& 31 = 8
    · rw [if_pos o8]
      refine ⟨i1, i2, by simp only [ty_21], law_int (p_step (d := d + 68) hI (by omega) _ _) (fun v M1 hk hc => ?_)⟩
      have e0 : mI M1 0 = mI M 0 := hk 0 (Or.inl (by rw [ty_0]))
      have e1 : slen M1 = slen M := by unfold slen; rw [hk 1 (Or.inr (by rw [ty_1]))]
      rw [gL_law_444]
      rw [e1, e0]
      refine ⟨i1, i2, by simp only [ty_82], CL.mono hc (fun r M2 h2 => ?_)⟩
      obtain ⟨rfl, hI2⟩ := h2
      simp only [Option.toList_some, Option.toList_none, List.cons_append, List.nil_append]
      rw [gL_law_458, if_pos rfl]
      exact next M2 hI2
    rw [if_neg o8]
    by_cases o9 : (mI M 0 (vI (6 * n)).toNatClampNeg) &&& 31 = 9
    · rw [if_pos o9]
      refine ⟨i1, i2, i3, by simp only [ty_21], law_int (p_soonest (d := d + 68) hI (by omega) _ _ _) (fun v M1 hk hc => ?_)⟩
      have e0 : mI M1 0 = mI M 0 := hk 0 (Or.inl (by rw [ty_0]))
      have e1 : slen M1 = slen M := by unfold slen; rw [hk 1 (Or.inr (by rw [ty_1]))]
      rw [gL_law_482]
      rw [e1, e0]
      refine ⟨i1, i2, i3, by simp only [ty_82], CL.mono hc (fun r M2 h2 => ?_)⟩
      obtain ⟨rfl, hI2⟩ := h2
      simp only [Option.toList_some, Option.toList_none, List.cons_append, List.nil_append]
      rw [gL_law_501, if_pos rfl]
      exact next M2 hI2
    rw [if_neg o9]
    by_cases o10 : (mI M 0 (vI (6 * n)).toNatClampNeg) &&& 31 = 10
    · rw [if_pos o10]
      refine ⟨i1, i2, i3, by simp only [ty_21], law_int (p_begin (d := d + 68) hI (by omega) _ _ _) (fun v M1 hk hc => ?_)⟩
      have e0 : mI M1 0 = mI M 0 := hk 0 (Or.inl (by rw [ty_0]))
      have e1 : slen M1 = slen M := by unfold slen; rw [hk 1 (Or.inr (by rw [ty_1]))]
      rw [gL_law_525]
      rw [e1, e0]
      refine ⟨i1, i2, i3, by simp only [ty_82], CL.mono hc (fun r M2 h2 => ?_)⟩
      obtain ⟨rfl, hI2⟩ := h2
      simp only [Option.toList_some, Option.toList_none, List.cons_append, List.nil_append]
      rw [gL_law_544, if_pos rfl]
      exact next M2 hI2
    rw [if_neg o10]
    by_cases o11 : (mI M 0 (vI (6 * n)).toNatClampNeg) &&& 31 = 11
    · rw [if_pos o11]
      refine ⟨i1, i2, by simp only [ty_21], law_lng (p_reached (d := d + 68) hI (by omega) _ _) (fun v M1 hk hc => ?_)⟩
      have e0 : mI M1 0 = mI M 0 := hk 0 (Or.inl (by rw [ty_0]))
      have e1 : slen M1 = slen M := by unfold slen; rw [hk 1 (Or.inr (by rw [ty_1]))]
      rw [gL_law_563]
      rw [e1, e0]
      refine ⟨i1, i2, by simp only [ty_82], CL.mono hc (fun r M2 h2 => ?_)⟩
      obtain ⟨rfl, hI2⟩ := h2
      simp only [Option.toList_some, Option.toList_none, List.cons_append, List.nil_append]
      rw [gL_law_577, if_pos (by rw [lg_0])]
      exact next M2 hI2
    rw [if_neg o11]
    by_cases o12 : (mI M 0 (vI (6 * n)).toNatClampNeg) &&& 31 = 12
    · rw [if_pos o12]
      refine ⟨i1, by simp only [ty_21], law_lng (p_never (d := d + 68) hI (by omega) _) (fun v M1 hk hc => ?_)⟩
      have e0 : mI M1 0 = mI M 0 := hk 0 (Or.inl (by rw [ty_0]))
      have e1 : slen M1 = slen M := by unfold slen; rw [hk 1 (Or.inr (by rw [ty_1]))]
      rw [gL_law_592]
      rw [e1, e0]
      refine ⟨i1, by simp only [ty_82], CL.mono hc (fun r M2 h2 => ?_)⟩
      obtain ⟨rfl, hI2⟩ := h2
      simp only [Option.toList_some, Option.toList_none, List.cons_append, List.nil_append]
      rw [gL_law_601, if_pos (by rw [lg_0])]
      exact next M2 hI2
    rw [if_neg o12]
    by_cases o13 : (mI M 0 (vI (6 * n)).toNatClampNeg) &&& 31 = 13
    · rw [if_pos o13]
      refine ⟨i1, i2, i3, by simp only [ty_21], law_int (p_meet (d := d + 68) hI (by omega) _ _ _) (fun v M1 hk hc => ?_)⟩
      have e0 : mI M1 0 = mI M 0 := hk 0 (Or.inl (by rw [ty_0]))
      have e1 : slen M1 = slen M := by unfold slen; rw [hk 1 (Or.inr (by rw [ty_1]))]
      rw [gL_law_626]
      rw [e1, e0]
      refine ⟨i1, i2, i3, by simp only [ty_82], CL.mono hc (fun r M2 h2 => ?_)⟩
      obtain ⟨rfl, hI2⟩ := h2
      simp only [Option.toList_some, Option.toList_none, List.cons_append, List.nil_append]
      rw [gL_law_645, if_pos rfl]
      exact next M2 hI2
    rw [if_neg o13]
    by_cases o14 : (mI M 0 (vI (6 * n)).toNatClampNeg) &&& 31 = 14
    · rw [if_pos o14]
      refine ⟨i1, by simp only [ty_21], law_int (p_home (d := d + 68) hI (by omega) _) (fun v M1 hk hc => ?_)⟩
      have e0 : mI M1 0 = mI M 0 := hk 0 (Or.inl (by rw [ty_0]))
      have e1 : slen M1 = slen M := by unfold slen; rw [hk 1 (Or.inr (by rw [ty_1]))]
      rw [gL_law_659]
      rw [e1, e0]
      refine ⟨i1, by simp only [ty_82], CL.mono hc (fun r M2 h2 => ?_)⟩
      obtain ⟨rfl, hI2⟩ := h2
      simp only [Option.toList_some, Option.toList_none, List.cons_append, List.nil_append]
      rw [gL_law_668, if_pos rfl]
      exact next M2 hI2
    rw [if_neg o14]
    by_cases o15 : (mI M 0 (vI (6 * n)).toNatClampNeg) &&& 31 = 15
    · rw [if_pos o15]
      refine ⟨i1, by simp only [ty_21], law_int (p_row (d := d + 68) hI _) (fun v M1 hk hc => ?_)⟩
      have e0 : mI M1 0 = mI M 0 := hk 0 (Or.inl (by rw [ty_0]))
      have e1 : slen M1 = slen M := by unfold slen; rw [hk 1 (Or.inr (by rw [ty_1]))]
      rw [gL_law_682]
      rw [e1, e0]
      refine ⟨i1, by simp only [ty_82], CL.mono hc (fun r M2 h2 => ?_)⟩
      obtain ⟨rfl, hI2⟩ := h2
      simp only [Option.toList_some, Option.toList_none, List.cons_append, List.nil_append]
      rw [gL_law_691, if_pos rfl]
      exact next M2 hI2
    rw [if_neg o15]
    by_cases o16 : (mI M 0 (vI (6 * n)).toNatClampNeg) &&& 31 = 16
    · rw [if_pos o16]
      refine ⟨i1, i2, by simp only [ty_21], law_int (p_hand (d := d + 68) hI (by omega) _ _) (fun v M1 hk hc => ?_)⟩
      have e0 : mI M1 0 = mI M 0 := hk 0 (Or.inl (by rw [ty_0]))
      have e1 : slen M1 = slen M := by unfold slen; rw [hk 1 (Or.inr (by rw [ty_1]))]
      rw [gL_law_710]
      rw [e1, e0]
      refine ⟨i1, i2, by simp only [ty_82], CL.mono hc (fun r M2 h2 => ?_)⟩
      obtain ⟨rfl, hI2⟩ := h2
      simp only [Option.toList_some, Option.toList_none, List.cons_append, List.nil_append]
      rw [gL_law_724, if_pos rfl]
      exact next M2 hI2
    rw [if_neg o16]
    by_cases o17 : (mI M 0 (vI (6 * n)).toNatClampNeg) &&& 31 = 17
    · rw [if_pos o17]
      refine ⟨i1, by simp only [ty_21], law_int (p_track (d := d + 68) hI _) (fun v M1 hk hc => ?_)⟩
      have e0 : mI M1 0 = mI M 0 := hk 0 (Or.inl (by rw [ty_0]))
      have e1 : slen M1 = slen M := by unfold slen; rw [hk 1 (Or.inr (by rw [ty_1]))]
      rw [gL_law_738]
      rw [e1, e0]
      refine ⟨i1, by simp only [ty_82], CL.mono hc (fun r M2 h2 => ?_)⟩
      obtain ⟨rfl, hI2⟩ := h2
      simp only [Option.toList_some, Option.toList_none, List.cons_append, List.nil_append]
      rw [gL_law_747, if_pos rfl]
      exact next M2 hI2
    rw [if_neg o17]
    by_cases o18 : (mI M 0 (vI (6 * n)).toNatClampNeg) &&& 31 = 18
    · rw [if_pos o18]
      refine ⟨i1, i2, by simp only [ty_21], law_int (p_tracks (d := d + 68) hI _ _) (fun v M1 hk hc => ?_)⟩
      have e0 : mI M1 0 = mI M 0 := hk 0 (Or.inl (by rw [ty_0]))
      have e1 : slen M1 = slen M := by unfold slen; rw [hk 1 (Or.inr (by rw [ty_1]))]
      rw [gL_law_766]
      rw [e1, e0]
      refine ⟨i1, i2, by simp only [ty_82], CL.mono hc (fun r M2 h2 => ?_)⟩
      obtain ⟨rfl, hI2⟩ := h2
      simp only [Option.toList_some, Option.toList_none, List.cons_append, List.nil_append]
      rw [gL_law_780, if_pos rfl]
      exact next M2 hI2
    rw [if_neg o18]
    by_cases o19 : (mI M 0 (vI (6 * n)).toNatClampNeg) &&& 31 = 19
    · rw [if_pos o19]
      refine ⟨i1, i2, i3, i4, by simp only [ty_21], law_lng (p_lot (d := d) hI (by omega) _ _ _ _) (fun v M1 hk hc => ?_)⟩
      have e0 : mI M1 0 = mI M 0 := hk 0 (Or.inl (by rw [ty_0]))
      have e1 : slen M1 = slen M := by unfold slen; rw [hk 1 (Or.inr (by rw [ty_1]))]
      rw [gL_law_809]
      rw [e1, e0]
      refine ⟨i1, i2, i3, i4, by simp only [ty_82], CL.mono hc (fun r M2 h2 => ?_)⟩
      obtain ⟨rfl, hI2⟩ := h2
      simp only [Option.toList_some, Option.toList_none, List.cons_append, List.nil_append]
      rw [gL_law_833, if_pos (by rw [lg_0])]
      exact next M2 hI2
    rw [if_neg o19]
    by_cases o20 : (mI M 0 (vI (6 * n)).toNatClampNeg) &&& 31 = 20
    · rw [if_pos o20]
      refine ⟨i1, i2, i3, i4, by simp only [ty_21], law_int (p_slower (d := d + 68) hI (by omega) _ _ _ _) (fun v M1 hk hc => ?_)⟩
      have e0 : mI M1 0 = mI M 0 := hk 0 (Or.inl (by rw [ty_0]))
      have e1 : slen M1 = slen M := by unfold slen; rw [hk 1 (Or.inr (by rw [ty_1]))]
      rw [gL_law_863]
      rw [e1, e0]
      refine ⟨i1, i2, i3, i4, by simp only [ty_82], CL.mono hc (fun r M2 h2 => ?_)⟩
      obtain ⟨rfl, hI2⟩ := h2
      simp only [Option.toList_some, Option.toList_none, List.cons_append, List.nil_append]
      rw [gL_law_887, if_pos rfl]
      exact next M2 hI2
    rw [if_neg o20]
    by_cases o21 : (mI M 0 (vI (6 * n)).toNatClampNeg) &&& 31 = 21
    · rw [if_pos o21]
      refine ⟨i1, i2, by simp only [ty_21], law_int (p_judge (d := d + 68) hI _ _) (fun v M1 hk hc => ?_)⟩
      have e0 : mI M1 0 = mI M 0 := hk 0 (Or.inl (by rw [ty_0]))
      have e1 : slen M1 = slen M := by unfold slen; rw [hk 1 (Or.inr (by rw [ty_1]))]
      rw [gL_law_906]
      rw [e1, e0]
      refine ⟨i1, i2, by simp only [ty_82], CL.mono hc (fun r M2 h2 => ?_)⟩
      obtain ⟨rfl, hI2⟩ := h2
      simp only [Option.toList_some, Option.toList_none, List.cons_append, List.nil_append]
      rw [gL_law_920, if_pos rfl]
      exact next M2 hI2
    rw [if_neg o21]
    by_cases o22 : (mI M 0 (vI (6 * n)).toNatClampNeg) &&& 31 = 22
    · rw [if_pos o22]
      refine ⟨by simp only [ty_21], law_int (p_image (d := d + 68) hI) (fun v M1 hk hc => ?_)⟩
      have e0 : mI M1 0 = mI M 0 := hk 0 (Or.inl (by rw [ty_0]))
      have e1 : slen M1 = slen M := by unfold slen; rw [hk 1 (Or.inr (by rw [ty_1]))]
      rw [gL_law_929]
      skip
      refine ⟨by simp only [ty_82], CL.mono hc (fun r M2 h2 => ?_)⟩
      obtain ⟨rfl, hI2⟩ := h2
      simp only [Option.toList_some, Option.toList_none, List.cons_append, List.nil_append]
      rw [gL_law_933, if_pos rfl]
      exact next M2 hI2
    rw [if_neg o22]
    by_cases o23 : (mI M 0 (vI (6 * n)).toNatClampNeg) &&& 31 = 23
    · rw [if_pos o23]
      refine ⟨by simp only [ty_21], law_int (p_undo (d := d + 68) hI) (fun v M1 hk hc => ?_)⟩
      have e0 : mI M1 0 = mI M 0 := hk 0 (Or.inl (by rw [ty_0]))
      have e1 : slen M1 = slen M := by unfold slen; rw [hk 1 (Or.inr (by rw [ty_1]))]
      rw [gL_law_942]
      skip
      refine ⟨by simp only [ty_82], CL.mono hc (fun r M2 h2 => ?_)⟩
      obtain ⟨rfl, hI2⟩ := h2
      simp only [Option.toList_some, Option.toList_none, List.cons_append, List.nil_append]
      rw [gL_law_946, if_pos rfl]
      exact next M2 hI2
    rw [if_neg o23]
    by_cases o24 : (mI M 0 (vI (6 * n)).toNatClampNeg) &&& 31 = 24
    · rw [if_pos o24]
      refine ⟨i1, i2, i3, by simp only [ty_21], law_int (p_act (d := d + 68) hI _ _ _) (fun v M1 hk hc => ?_)⟩
      have e0 : mI M1 0 = mI M 0 := hk 0 (Or.inl (by rw [ty_0]))
      have e1 : slen M1 = slen M := by unfold slen; rw [hk 1 (Or.inr (by rw [ty_1]))]
      rw [gL_law_970]
      rw [e1, e0]
      refine ⟨i1, i2, i3, by simp only [ty_82], CL.mono hc (fun r M2 h2 => ?_)⟩
      obtain ⟨rfl, hI2⟩ := h2
      simp only [Option.toList_some, Option.toList_none, List.cons_append, List.nil_append]
      rw [gL_law_989, if_pos rfl]
      exact next M2 hI2
    rw [if_neg o24]
    by_cases o25 : (mI M 0 (vI (6 * n)).toNatClampNeg) &&& 31 = 25
    · rw [if_pos o25]
      refine ⟨i1, by simp only [ty_21], law_int (p_trace (d := d + 68) hI _) (fun v M1 hk hc => ?_)⟩
      have e0 : mI M1 0 = mI M 0 := hk 0 (Or.inl (by rw [ty_0]))
      have e1 : slen M1 = slen M := by unfold slen; rw [hk 1 (Or.inr (by rw [ty_1]))]
      rw [gL_law_1003]
      rw [e1, e0]
      refine ⟨i1, by simp only [ty_82], CL.mono hc (fun r M2 h2 => ?_)⟩
      obtain ⟨rfl, hI2⟩ := h2
      simp only [Option.toList_some, Option.toList_none, List.cons_append, List.nil_append]
      rw [gL_law_1012, if_pos rfl]
      exact next M2 hI2
    rw [if_neg o25]
    by_cases o26 : (mI M 0 (vI (6 * n)).toNatClampNeg) &&& 31 = 26
    · rw [if_pos o26]
      refine ⟨i1, i2, by simp only [ty_21], law_int (p_taken (d := d + 68) hI _ _) (fun v M1 hk hc => ?_)⟩
      have e0 : mI M1 0 = mI M 0 := hk 0 (Or.inl (by rw [ty_0]))
      have e1 : slen M1 = slen M := by unfold slen; rw [hk 1 (Or.inr (by rw [ty_1]))]
      rw [gL_law_1031]
      rw [e1, e0]
      refine ⟨i1, i2, by simp only [ty_82], CL.mono hc (fun r M2 h2 => ?_)⟩
      obtain ⟨rfl, hI2⟩ := h2
      simp only [Option.toList_some, Option.toList_none, List.cons_append, List.nil_append]
      rw [gL_law_1045, if_pos rfl]
      exact next M2 hI2
    rw [if_neg o26]
    by_cases o27 : (mI M 0 (vI (6 * n)).toNatClampNeg) &&& 31 = 27
    · rw [if_pos o27]
      refine ⟨i1, by simp only [ty_21], law_int (p_count (d := d + 68) hI _) (fun v M1 hk hc => ?_)⟩
      have e0 : mI M1 0 = mI M 0 := hk 0 (Or.inl (by rw [ty_0]))
      have e1 : slen M1 = slen M := by unfold slen; rw [hk 1 (Or.inr (by rw [ty_1]))]
      rw [gL_law_1059]
      rw [e1, e0]
      refine ⟨i1, by simp only [ty_82], CL.mono hc (fun r M2 h2 => ?_)⟩
      obtain ⟨rfl, hI2⟩ := h2
      simp only [Option.toList_some, Option.toList_none, List.cons_append, List.nil_append]
      rw [gL_law_1068, if_pos rfl]
      exact next M2 hI2
    rw [if_neg o27]
    by_cases o28 : (mI M 0 (vI (6 * n)).toNatClampNeg) &&& 31 = 28
    · rw [if_pos o28]
      refine ⟨i1, i2, i3, by simp only [ty_21], law_int (p_tape (d := d + 68) hI _ _ _) (fun v M1 hk hc => ?_)⟩
      have e0 : mI M1 0 = mI M 0 := hk 0 (Or.inl (by rw [ty_0]))
      have e1 : slen M1 = slen M := by unfold slen; rw [hk 1 (Or.inr (by rw [ty_1]))]
      rw [gL_law_1092]
      rw [e1, e0]
      refine ⟨i1, i2, i3, by simp only [ty_82], CL.mono hc (fun r M2 h2 => ?_)⟩
      obtain ⟨rfl, hI2⟩ := h2
      simp only [Option.toList_some, Option.toList_none, List.cons_append, List.nil_append]
      rw [gL_law_1111, if_pos rfl]
      exact next M2 hI2
    rw [if_neg o28]
    by_cases o29 : (mI M 0 (vI (6 * n)).toNatClampNeg) &&& 31 = 29
    · rw [if_pos o29]
      refine ⟨i1, i2, i3, i4, by simp only [ty_21], law_int (p_item (d := d + 68) hI _ _ _) (fun v M1 hk hc => ?_)⟩
      have e0 : mI M1 0 = mI M 0 := hk 0 (Or.inl (by rw [ty_0]))
      have e1 : slen M1 = slen M := by unfold slen; rw [hk 1 (Or.inr (by rw [ty_1]))]
      rw [gL_law_1150]
      rw [e1, e0]
      refine ⟨i1, i2, i3, i4, by simp only [ty_82], CL.mono hc (fun r M2 h2 => ?_)⟩
      obtain ⟨rfl, hI2⟩ := h2
      simp only [Option.toList_some, Option.toList_none, List.cons_append, List.nil_append]
      rw [gL_law_1184, if_pos rfl]
      exact next M2 hI2
    rw [if_neg o29]
    by_cases o30 : (mI M 0 (vI (6 * n)).toNatClampNeg) &&& 31 = 30
    · rw [if_pos o30]
      refine ⟨i1, i2, by simp only [ty_21], law_lng (p_read (d := d + 68) hI _ _) (fun v M1 hk hc => ?_)⟩
      have e0 : mI M1 0 = mI M 0 := hk 0 (Or.inl (by rw [ty_0]))
      have e1 : slen M1 = slen M := by unfold slen; rw [hk 1 (Or.inr (by rw [ty_1]))]
      rw [gL_law_1203]
      rw [e1, e0]
      refine ⟨i1, i2, by simp only [ty_82], CL.mono hc (fun r M2 h2 => ?_)⟩
      obtain ⟨rfl, hI2⟩ := h2
      simp only [Option.toList_some, Option.toList_none, List.cons_append, List.nil_append]
      rw [gL_law_1217, if_pos (by rw [lg_0])]
      exact next M2 hI2
    rw [if_neg o30]
    by_cases o31 : (mI M 0 (vI (6 * n)).toNatClampNeg) &&& 31 = 31
    · rw [if_pos o31]
      refine ⟨i1, i2, i3, i4, i5, by simp only [ty_21], law_int (p_shift (d := d + 68) hI _ _ _ _ _) (fun v M1 hk hc => ?_)⟩
      have e0 : mI M1 0 = mI M 0 := hk 0 (Or.inl (by rw [ty_0]))
      have e1 : slen M1 = slen M := by unfold slen; rw [hk 1 (Or.inr (by rw [ty_1]))]
      rw [gL_law_1252]
      rw [e1, e0]
      refine ⟨i1, i2, i3, i4, i5, by simp only [ty_82], CL.mono hc (fun r M2 h2 => ?_)⟩
      obtain ⟨rfl, hI2⟩ := h2
      simp only [Option.toList_some, Option.toList_none, List.cons_append, List.nil_append]
      rw [gL_law_1281, if_pos rfl]
      exact next M2 hI2
    rw [if_neg o31]
    exact next M (INV_mono hI)
end Law
