section Steps4
variable {p : Program} {l : Launch} {e : Env} {R : Room} {s : State} {m : MethodId} {args : Array Value} {below : List Frame} {meth : Method} {c : Code} {X : CX} {k n0 : Nat} {Q : State → Prop}
variable {pc pc' len j x : Nat} {ls ls' st st' : List Value} {M M' : MM} {cf' : CF}
theorem nw_N : mN (nw M) = mN M + 1 := rfl
theorem nw_at (i : Nat) : mI (nw M) (mN M) i = 0 ∧ mL (nw M) (mN M) i = 0 ∧ mR (nw M) (mN M) i = none := by
  refine ⟨?_, ?_, ?_⟩ <;> simp [mI, mL, mR, mN, nw, row0]
theorem nw_ne {b : Nat} (h : b ≠ mN M) (i : Nat) : mI (nw M) b i = mI M b i ∧ mL (nw M) b i = mL M b i ∧ mR (nw M) b i = mR M b i := by
  have h' : ¬ b = M.2.2.2 := h
  refine ⟨?_, ?_, ?_⟩ <;> simp [mI, mL, mR, nw, row0, h']
theorem ws_new (h : 21 ≤ mN M) : wsM X M ++ [(rho X (mN M), EW X (nw M) (mN M))] = wsM X (nw M) := by
  have e1 : mN (nw M) - 21 = (mN M - 21) + 1 := by rw [nw_N]; omega
  unfold wsM
  rw [e1, List.range_succ, List.map_append]
  congr 1
  · apply List.map_congr_left
    intro i hi
    rw [EW_congr (fun j => nw_ne (M := M) (b := 21 + i) (by have := List.mem_range.mp hi; omega) j)]
  · rw [rho_own h]
    have e2 : 21 + (mN M - 21) = mN M := by omega
    simp only [List.map_cons, List.map_nil, e2]
theorem nw_ext (h : 21 ≤ mN M) (hE : EXT X M) : EXT X (nw M) := by
  obtain ⟨⟨h1, h2⟩, h3, h4, h5⟩ := hE
  have g : ∀ b, b < 21 → ∀ i, mI (nw M) b i = mI M b i ∧ mR (nw M) b i = mR M b i := fun b hb i => ⟨(nw_ne (by omega) i).1, (nw_ne (by omega) i).2.2⟩
  refine ⟨⟨fun i hi => ?_, fun i hi j => ?_⟩, fun j hj => ?_, ?_, h5⟩
  · rw [(g (1 + i) (by omega) 1).1, (g (1 + i) (by omega) 0).2]; exact h1 i hi
  · rw [(g (11 + i) (by omega) j).1]; exact h2 i hi j
  · rw [(g 0 (by omega) j).1]; exact h3 j hj
  · rw [(g 1 (by omega) 0).1]; exact h4
theorem nw_clo (hc : CLO M) : CLO (nw M) := by
  intro b i q hq
  rw [nw_N]
  by_cases hb : b = mN M
  · subst hb
    rw [(nw_at i).2.2] at hq
    cases hq
  · rw [(nw_ne hb i).2.2] at hq
    exact Nat.lt_succ_of_lt (hc b i q hq)
/-- a new cell: its address is the next one -/
theorem sc_new {H1 : Heap} {locs1 : List Loc} {sl : Array Slot} {q szz : Nat} {en : va_E} (F : FR X k n0 p R s m meth c args) (hn : n0 ≤ mN M) (h21 : 21 ≤ mN M) (h118 : mN M < 119) (hsz : szA (mN M) = szz) (he : en = EW X (nw M) (mN M)) (hE : EXT X M) (hc : CLO M)
    (K : SC p l e R s m args below meth c X k n0 Q (pc', ls, .ref (mN M) :: st', nw M)) (h1 : ls.length = mlo k) (h2 : lv_has sl (mlo k) (asc X ls)) (h3 : (∀ v ∈ ls, VOK M v) ∧ (∀ v ∈ st', VOK M v))
    (hP1 : va_P (xD X) vwCl (wsM X M ++ [(q, en)]) H1) (hD1 : va_D (AB X) (wsM X M ++ [(q, en)])) (hS1 : va_S (AB X) s.heap H1 locs1) : W p l e R s m args below meth c H1 locs1 (mN M - n0 + 1) (slN (mN M) - slN n0 + szz) Q (F0 m pc' sl (.ref q :: st'.map (rv X))) := by
  intro T hT Xs
  have hz := Xs.heapSize
  rw [hT] at hz
  obtain ⟨hs, hn21⟩ := F.2.2.2.2.2.2
  have hlen : (wsM X M).length = mN M - 21 := by simp [wsM]
  have hat : (wsM X M ++ [(q, en)])[mN M - 21]? = some (q, en) := by
    rw [List.getElem?_append_right (by omega), hlen, Nat.sub_self]; rfl
  have hlt := (hP1 _ _ hat).lt
  have hge : xB X ≤ q := hD1.2 _ _ hat
  dsimp only at hlt hge
  have hq : q = rho X (mN M) := by
    rw [rho_own h21]
    rcases Nat.lt_or_ge q (xB X + (mN M - 21)) with hlt2 | hge2
    · exfalso
      have h9 : (wsM X M ++ [(q, en)])[q - xB X]? = some (rho X (21 + (q - xB X)), EW X M (21 + (q - xB X))) := by
        rw [List.getElem?_append_left (by omega)]
        have := ws_get (X := X) (M := M) (a := 21 + (q - xB X)) (by omega) (by omega)
        rwa [show 21 + (q - xB X) - 21 = q - xB X by omega] at this
      have h10 := hD1.1 _ _ _ _ h9 hat (by rw [rho_own (by omega)]; dsimp only; omega)
      omega
    · omega
  subst hq
  subst he
  rw [ws_new h21] at hP1
  have e1 : mN M - n0 + 1 = mN (nw M) - n0 := by rw [nw_N]; omega
  have e2 : slN (mN M) - slN n0 + szz = slN (mN (nw M)) - slN n0 := by
    rw [nw_N]
    have := slN_mono hn
    show _ = slN (mN M) + szA (mN M) - slN n0
    omega
  rw [e1, e2] at Xs
  have hle : mN M ≤ mN (nw M) := by rw [nw_N]; omega
  refine K H1 sl locs1 h1 h2 ⟨fun v hv => vok_mono hle (h3.1 v hv), vkc (by show mN M < mN (nw M); rw [nw_N]; omega) (fun v hv => vok_mono hle (h3.2 v hv))⟩ ⟨⟨by show 21 ≤ mN (nw M); rw [nw_N]; omega, ?_⟩, hP1, nw_ext h21 hE, nw_clo hc, by show mN (nw M) ≤ 119; rw [nw_N]; omega⟩ hS1 T hT Xs
  show H1.size = xB X + (mN (nw M) - 21)
  rw [nw_N]
  rw [rho_own h21] at hlt
  omega
theorem s_new {c' : Nat} (F : FR X k n0 p R s m meth c args) (hn : n0 ≤ mN M) (hroom : mN (nw M) - n0 ≤ R.cells ∧ slN (mN (nw M)) - slN n0 ≤ R.slots) (hd : decode (cod k) pc = .ok (.new x, 3)) (hq : cls (own_ k) x = some c') (hc : c' < 12) (ht : TY (mN M) = (c', 0))
    (K : SC p l e R s m args below meth c X k n0 Q (pc + 3, ls, .ref (mN M) :: st, nw M)) : SC p l e R s m args below meth c X k n0 Q (pc, ls, st, M) := by
  intro H sl locs h1 h2 h3 h4 h5
  have h21 : 21 ≤ mN M := h4.1.1
  have F' := F
  obtain ⟨⟨hx, hb, hml⟩, hown, hts, hOK, -, -, hs, hn21⟩ := F'
  obtain ⟨hi1, hi2⟩ := new_ok hc
  have h118 : mN M < 119 := tag_hi (by rw [ht]; omega)
  have htg : (TY (mN M)).1 = c' := by rw [ht]
  have hsz : szA (mN M) = NF c' := by unfold szA; rw [if_neg (by omega), if_pos (by omega), htg]
  have hsl : slN (mN (nw M)) = slN (mN M) + NF c' := by rw [nw_N, ← hsz]; rfl
  have hmono := slN_mono hn
  rw [nw_N] at hroom
  rw [nw_N] at hsl
  refine va_new (D := xD X) (ci := c') (C := oN c') (T := CT c') (N := NF c') (fs := (List.range (NF c')).map fun j => rv X (gv (FT c' j) (nw M) (mN M) j)) hx hb hts (in_at hc) (FT c') (tyok_at hc) hown (hts _ (cls_ok hq)) (hts _ hi1) (hts _ hi2) hOK.1.1 h4.2.1 ws_D h5 (fun q hq => Nat.le_trans hOK.2.2.2.2.2.1 hq) (vw_at hc) (fun j hj => ?_) (by show mN M - n0 + 1 ≤ _; omega) (by show slN (mN M) - slN n0 + NF c' ≤ _; omega) hd (fun q H1 hP1 hD1 hS1 => ?_)
  · have e : vp_V ((List.range (NF c')).map fun j => rv X (gv (FT c' j) (nw M) (mN M) j)) j = rv X (gv (FT c' j) (nw M) (mN M) j) := by
      unfold vp_V
      rw [List.getD_eq_getElem?_getD, fs_at hj]
      rfl
    rw [e]
    obtain ⟨g1, g2, g3⟩ := nw_at (M := M) j
    have : ∀ ty, (∃ j, ty = FT c' j ∧ j < NF c') → defaultValue ty = rv X (gv ty (nw M) (mN M) j) := by
      rintro ty ⟨j', rfl, hj'⟩
      have hno : ¬ FT c' j' = .float ∧ ¬ FT c' j' = .double := by
        have : ∀ c, c < 12 → ∀ j, j < NF c → ¬ FT c j = .float ∧ ¬ FT c j = .double := by decide +kernel
        exact this c' hc j' hj'
      cases hF : FT c' j' <;> simp only [gv, g1, g2, g3, rf] <;> first | rfl | exact absurd hF hno.1 | exact absurd hF hno.2
    exact this _ ⟨j, rfl, hj⟩
  · exact sc_new F hn h21 h118 hsz (EW_obj htg hc).symm h4.2.2.1 h4.2.2.2.1 K h1 h2 h3 hP1 hD1 hS1
theorem ra_eq {tys : List (ClassId × FieldType)} {cA cB : ClassId} {ty : FieldType} {i j : Nat} {U : State} {D : va_G} {cl : List vw_C} (h : va_K D cl tys U) (hi : tys[i]? = some (cA, ty)) (hj : tys[j]? = some (cB, ty)) : cA = cB := by
  have h1 := (h.2 i _ hi).2
  have h2 := (h.2 j _ hj).2
  cases ty with
  | object C =>
    obtain ⟨_, _, _, _, _, e1⟩ := h1
    obtain ⟨_, _, _, _, _, e2⟩ := h2
    exact Option.some.inj (e1.symm.trans e2)
  | _ => exact Option.some.inj (h1.symm.trans h2)
theorem s_newa {t : ArrayType} {n : Int32} {r : List Value} (F : FR X k n0 p R s m meth c args) (hn : n0 ≤ mN M) (hroom : mN (nw M) - n0 ≤ R.cells ∧ slN (mN (nw M)) - slN n0 ≤ R.slots) (hd : decode (cod k) pc = .ok (.newarray t, 2)) (h0 : ¬ n < 0) (ht : TY (mN M) = (tagA t, n.toNatClampNeg))
    (K : SC p l e R s m args below meth c X k n0 Q (pc + 2, ls, .ref (mN M) :: r, nw M)) : SC p l e R s m args below meth c X k n0 Q (pc, ls, .int n :: r, M) := by
  intro H sl locs h1 h2 h3 h4 h5
  have h21 : 21 ≤ mN M := h4.1.1
  have F' := F
  obtain ⟨⟨hx, hb, hml⟩, hown, hts, hOK, -, -, hs, hn21⟩ := F'
  have htag : (TY (mN M)).1 = tagA t := by rw [ht]
  have hlen : (TY (mN M)).2 = n.toNatClampNeg := by rw [ht]
  have hmono := slN_mono hn
  have hbig : ∀ b, b < 119 → (TY b).2 ≤ 10000 := by decide +kernel
  have h97 : 21 ≤ mN M → (TY (mN M)).1 ≠ 97 := by
    intro _ h
    rcases Nat.lt_or_ge (mN M) 119 with q | q
    · rcases tag_all h21 q with z | z <;> omega
    · unfold TY at h
      rw [if_neg (by omega), if_neg (by omega)] at h
      exact absurd h (by decide)
  have main : ∀ (tg : Nat) (ty : FieldType) (g : (Nat → Int32) ⊕ (Nat → Int64) ⊕ (Nat → UInt32) ⊕ (Nat → UInt64) ⊕ (Nat → Option Nat)), tagA t = tg → newarray.typeOf t = ty → 20 ≤ tg → tg ≤ 23 → (tysL X)[tg - 20]? = some (xA X tg, ty) → Cond.arrayClass ty ∈ wsG → componentBytes ty ≤ 8 → (∀ cA, vp_cell cA (n.toNatClampNeg, g) = arrV cA n.toNatClampNeg (fun _ => defaultValue ty)) → (.inl (xA X tg, n.toNatClampNeg, g) : va_E) = EW X (nw M) (mN M) →
      W p l e R s m args below meth c H locs (mN M - n0) (slN (mN M) - slN n0) Q (F0 m pc sl (.int n :: r.map (rv X))) := by
    intro tg ty g e1 e2 l1 l2 htys hw hcb hg hEW
    have htg : (TY (mN M)).1 = tg := by rw [htag, e1]
    have h118 : mN M < 119 := tag_hi (by omega)
    have hsz : szA (mN M) = n.toNatClampNeg := by unfold szA; rw [if_neg (by omega), if_neg (by omega), hlen]
    have hsl : slN (mN M + 1) = slN (mN M) + n.toNatClampNeg := by rw [← hsz]; rfl
    have hL := hbig _ h118
    rw [hlen] at hL
    rw [nw_N] at hroom
    refine va_newa (D := xD X) (ty := ty) hx hb (by rw [e2]; exact hts _ hw) e2 hOK.1.1 h4.2.1 ws_D h5 (fun q hq => Nat.le_trans hOK.2.2.2.2.2.1 hq) hg h0 rfl ?_ (by show mN M - n0 + 1 ≤ _; omega) (by show slN (mN M) - slN n0 + _ ≤ _; omega) hd (fun q cA H1 hK1 hP1 hD1 hS1 => ?_)
    · have : n.toNatClampNeg * componentBytes ty ≤ 10000 * 8 := Nat.mul_le_mul hL hcb
      omega
    · have hcA : xA X tg = cA := by
        have a1 : (tysL X ++ [(cA, ty)])[tg - 20]? = some (xA X tg, ty) := by rw [List.getElem?_append_left (by simp [tysL]; omega)]; exact htys
        have a2 : (tysL X ++ [(cA, ty)])[6]? = some (cA, ty) := rfl
        exact ra_eq hK1 a1 a2
      subst hcA
      exact sc_new F hn h21 h118 hsz hEW h4.2.2.1 h4.2.2.2.1 K h1 h2 ⟨h3.1, vk1 h3.2⟩ hP1 hD1 hS1
  have hI : ∀ tg, (TY (mN M)).1 = tg → 20 ≤ tg → tg ≤ 23 → ¬ tg = 21 → (.inl (xA X tg, n.toNatClampNeg, .inl (fun _ => 0)) : va_E) = EW X (nw M) (mN M) := by
    intro tg htg l1 l2 l3
    rw [EW_arr htg l1, if_neg l3, if_neg (by omega), hlen]
    congr 4
    funext i
    exact (nw_at i).1.symm
  cases t with
  | int => exact main 20 .int (.inl (fun _ => 0)) rfl rfl (by omega) (by omega) rfl wm_aint (by decide) (fun _ => rfl) (hI 20 htag (by omega) (by omega) (by omega))
  | byte => exact main 22 .byte (.inl (fun _ => 0)) rfl rfl (by omega) (by omega) rfl wm_abyte (by decide) (fun _ => rfl) (hI 22 htag (by omega) (by omega) (by omega))
  | boolean => exact main 23 .boolean (.inl (fun _ => 0)) rfl rfl (by omega) (by omega) rfl wm_aboolean (by decide) (fun _ => rfl) (hI 23 htag (by omega) (by omega) (by omega))
  | long =>
    refine main 21 .long (.inr (.inl (fun _ => 0))) rfl rfl (by omega) (by omega) rfl wm_along (by decide) (fun _ => rfl) ?_
    rw [EW_arr htag (by decide), hlen]
    show Sum.inl (xA X 21, n.toNatClampNeg, Sum.inr (Sum.inl (fun _ => (0 : Int64)))) = Sum.inl (xA X 21, n.toNatClampNeg, Sum.inr (Sum.inl (fun j => mL (nw M) (mN M) j)))
    congr 5
    funext i
    exact (nw_at i).2.1.symm
  | char => exact absurd htag (h97 h21)
  | float => exact absurd htag (h97 h21)
  | double => exact absurd htag (h97 h21)
  | short => exact absurd htag (h97 h21)
theorem s_newq {c' : Nat} {n : Int32} {r : List Value} (F : FR X k n0 p R s m meth c args) (hn : n0 ≤ mN M) (hroom : mN (nw M) - n0 ≤ R.cells ∧ slN (mN (nw M)) - slN n0 ≤ R.slots) (hd : decode (cod k) pc = .ok (.anewarray x, 3)) (hq : cls (own_ k) x = some c') (h0 : ¬ n < 0) (ht : TY (mN M) = (tagO c', n.toNatClampNeg))
    (K : SC p l e R s m args below meth c X k n0 Q (pc + 3, ls, .ref (mN M) :: r, nw M)) : SC p l e R s m args below meth c X k n0 Q (pc, ls, .int n :: r, M) := by
  intro H sl locs h1 h2 h3 h4 h5
  have h21 : 21 ≤ mN M := h4.1.1
  have F' := F
  obtain ⟨⟨hx, hb, hml⟩, hown, hts, hOK, -, -, hs, hn21⟩ := F'
  have htag : (TY (mN M)).1 = tagO c' := by rw [ht]
  have hlen : (TY (mN M)).2 = n.toNatClampNeg := by rw [ht]
  have hmono := slN_mono hn
  have hbig : ∀ b, b < 119 → (TY b).2 ≤ 10000 := by decide +kernel
  have main : ∀ (tg : Nat) (C : String), tagO c' = tg → 24 ≤ tg → tg ≤ 25 → (tysL X)[tg - 20]? = some (xA X tg, .object C) → oN c' = C → va_AO C s → W p l e R s m args below meth c H locs (mN M - n0) (slN (mN M) - slN n0) Q (F0 m pc sl (.int n :: r.map (rv X))) := by
    intro tg C e1 l1 l2 htys hC hAO
    have htg : (TY (mN M)).1 = tg := by rw [htag, e1]
    have h118 : mN M < 119 := tag_hi (by omega)
    have hsz : szA (mN M) = n.toNatClampNeg := by unfold szA; rw [if_neg (by omega), if_neg (by omega), hlen]
    have hsl : slN (mN M + 1) = slN (mN M) + n.toNatClampNeg := by rw [← hsz]; rfl
    have hL := hbig _ h118
    rw [hlen] at hL
    rw [nw_N] at hroom
    have hEW : (.inl (xA X tg, n.toNatClampNeg, .inr (.inr (.inr (.inr (fun _ => none))))) : va_E) = EW X (nw M) (mN M) := by
      rw [EW_arr htg (by omega), if_neg (by omega), if_pos (by omega), hlen]
      congr 7
      funext i
      rw [(nw_at i).2.2]
      rfl
    subst hC
    refine va_newq (D := xD X) (C := oN c') hx hb hown (hts _ (cls_ok hq)) hAO hOK.1.1 h4.2.1 ws_D h5 (fun q hq => Nat.le_trans hOK.2.2.2.2.2.1 hq) h0 rfl (by omega) (by show mN M - n0 + 1 ≤ _; omega) (by show slN (mN M) - slN n0 + _ ≤ _; omega) hd (fun q cA H1 hK1 hP1 hD1 hS1 => ?_)
    have hcA : xA X tg = cA := by
      have a1 : (tysL X ++ [(cA, .object (oN c'))])[tg - 20]? = some (xA X tg, .object (oN c')) := by rw [List.getElem?_append_left (by simp [tysL]; omega)]; exact htys
      have a2 : (tysL X ++ [(cA, .object (oN c'))])[6]? = some (cA, .object (oN c')) := rfl
      exact ra_eq hK1 a1 a2
    subst hcA
    exact sc_new F hn h21 h118 hsz hEW h4.2.2.1 h4.2.2.2.1 K h1 h2 ⟨h3.1, vk1 h3.2⟩ hP1 hD1 hS1
  by_cases h9 : c' = 9
  · subst h9
    exact main 24 "TwoOnOneBack$Walker" rfl (by omega) (by omega) rfl rfl hOK.1.2.2.1
  · by_cases h6 : c' = 6
    · subst h6
      exact main 25 "TwoOnOneBack$Tape" rfl (by omega) (by omega) rfl rfl hOK.1.2.2.2
    · exfalso
      have e97 : tagO c' = 97 := by unfold tagO; split <;> first | rfl | omega
      rw [e97] at htag
      rcases Nat.lt_or_ge (mN M) 119 with q | q
      · rcases tag_all h21 q with z | z <;> omega
      · unfold TY at htag
        rw [if_neg (by omega), if_neg (by omega)] at htag
        exact absurd htag (by decide)
end Steps4
