section Steps3
variable {p : Program} {l : Launch} {e : Env} {R : Room} {s : State} {m : MethodId} {args : Array Value} {below : List Frame} {meth : Method} {c : Code} {X : CX} {k n0 : Nat} {Q : State → Prop}
variable {pc pc' len j x : Nat} {ls ls' st st' : List Value} {M M' : MM} {cf' : CF}
theorem EW_arr {a t : Nat} (h : (TY a).1 = t) (ht : 20 ≤ t) : EW X M a = .inl (xA X t, (TY a).2, if t = 21 then .inr (.inl (fun j => mL M a j)) else if t = 24 ∨ t = 25 then .inr (.inr (.inr (.inr (fun j => (mR M a j).map (rho X))))) else .inl (fun j => mI M a j)) := by
  subst h
  unfold EW
  rw [if_neg (by omega)]
theorem tag_hi {a : Nat} (h : (TY a).1 < 26) : a < 119 := by
  rcases Nat.lt_or_ge a 119 with q | q
  · exact q
  · exfalso
    unfold TY at h
    rw [if_neg (by omega), if_neg (by omega)] at h
    exact absurd h (by decide)
theorem tag_byt {a : Nat} (h : (TY a).1 = 31) (h2 : a < 119) : 11 ≤ a ∧ a < 21 ∧ (TY a).2 = strL.getD (a - 11) 0 := by
  have : ∀ b, b < 119 → (TY b).1 = 31 → 11 ≤ b ∧ b < 21 ∧ (TY b).2 = strL.getD (b - 11) 0 := by decide +kernel
  exact this a h2 h
theorem inb_vp {i : Int32} {n : Nat} (h : inb i n) : vp_in i n := h
theorem s_iald {a : Nat} {i : Int32} {r : List Value} (F : FR X k n0 p R s m meth c args) (hd : decode (cod k) pc = .ok (.iaload, 1)) (ht : (TY a).1 = 20) (hi : inb i (TY a).2) (K : SC p l e R s m args below meth c X k n0 Q (pc + 1, ls, .int (mI M a i.toNatClampNeg) :: r, M)) : SC p l e R s m args below meth c X k n0 Q (pc, ls, .int i :: .ref a :: r, M) := by
  intro H sl locs h1 h2 h3 h4 h5
  have ha : a < mN M := vk1 h3.2 _ List.mem_cons_self
  have hlo : 21 ≤ a := tag_lo (by omega)
  have kk : W p l e R s m args below meth c H locs (mN M - n0) (slN (mN M) - slN n0) Q (F0 m (pc + 1) sl (.int (mI M a i.toNatClampNeg) :: r.map (rv X))) := K H sl locs h1 h2 ⟨h3.1, vkc trivial (vk2 h3.2)⟩ h4 h5
  exact va_iald F.1.1 F.1.2.1 F.2.2.2.1.1.1 h4.2.1 (a - 21) 0 (by rw [ws_get hlo ha, EW_arr ht (by omega)]; rfl) rfl hi hd kk
theorem s_lald {a : Nat} {i : Int32} {r : List Value} (F : FR X k n0 p R s m meth c args) (hd : decode (cod k) pc = .ok (.laload, 1)) (ht : (TY a).1 = 21) (hi : inb i (TY a).2) (K : SC p l e R s m args below meth c X k n0 Q (pc + 1, ls, .long (mL M a i.toNatClampNeg) :: r, M)) : SC p l e R s m args below meth c X k n0 Q (pc, ls, .int i :: .ref a :: r, M) := by
  intro H sl locs h1 h2 h3 h4 h5
  have ha : a < mN M := vk1 h3.2 _ List.mem_cons_self
  have hlo : 21 ≤ a := tag_lo (by omega)
  have kk : W p l e R s m args below meth c H locs (mN M - n0) (slN (mN M) - slN n0) Q (F0 m (pc + 1) sl (.long (mL M a i.toNatClampNeg) :: r.map (rv X))) := K H sl locs h1 h2 ⟨h3.1, vkc trivial (vk2 h3.2)⟩ h4 h5
  exact va_lald F.1.1 F.1.2.1 F.2.2.2.1.1.1 h4.2.1 (a - 21) 1 (by rw [ws_get hlo ha, EW_arr ht (by omega)]; rfl) rfl hi hd kk
theorem s_bald {a : Nat} {i : Int32} {r : List Value} (F : FR X k n0 p R s m meth c args) (hd : decode (cod k) pc = .ok (.baload, 1)) (ht : isB (TY a).1 = true) (hi : inb i (TY a).2) (K : SC p l e R s m args below meth c X k n0 Q (pc + 1, ls, .int (mI M a i.toNatClampNeg) :: r, M)) : SC p l e R s m args below meth c X k n0 Q (pc, ls, .int i :: .ref a :: r, M) := by
  intro H sl locs h1 h2 h3 h4 h5
  have ha : a < mN M := vk1 h3.2 _ List.mem_cons_self
  have h119 : mN M ≤ 119 := h4.2.2.2.2
  have kk : W p l e R s m args below meth c H locs (mN M - n0) (slN (mN M) - slN n0) Q (F0 m (pc + 1) sl (.int (mI M a i.toNatClampNeg) :: r.map (rv X))) := K H sl locs h1 h2 ⟨h3.1, vkc trivial (vk2 h3.2)⟩ h4 h5
  simp only [isB, Bool.or_eq_true, beq_iff_eq] at ht
  rcases ht with (ht | ht) | ht
  · have hlo : 21 ≤ a := tag_lo (by omega)
    exact va_bald F.1.1 F.1.2.1 F.2.2.2.1.1.1 h4.2.1 (a - 21) 2 (by rw [ws_get hlo ha, EW_arr ht (by omega)]; rfl) rfl hi hd kk
  · have hlo : 21 ≤ a := tag_lo (by omega)
    exact va_zald F.1.1 F.1.2.1 F.2.2.2.1.1.1 h4.2.1 (a - 21) 3 (by rw [ws_get hlo ha, EW_arr ht (by omega)]; rfl) rfl hi hd kk
  · obtain ⟨a1, a2, a3⟩ := tag_byt ht (by omega)
    have hrho : rho X a = xV X (a - 11) := by unfold rho; rw [if_pos (by omega), if_neg (by omega)]
    obtain ⟨-, -, -, hT⟩ := F.2.2.2.1.2.1.1.1 (a - 11) (by omega)
    have hE : mI M (11 + (a - 11)) i.toNatClampNeg = (strB.getD (a - 11) []).getD i.toNatClampNeg 0 := h4.2.2.1.1.2 (a - 11) (by omega) _
    have e1 : 11 + (a - 11) = a := by omega
    rw [e1] at hE
    show W p l e R s m args below meth c H locs (mN M - n0) (slN (mN M) - slN n0) Q (F0 m pc sl (.int i :: .ref (rho X a) :: r.map (rv X)))
    rw [hrho]
    rw [a3] at hi
    exact va_tb F.1.1 F.1.2.1 hT h5 hi (by rw [hE]) hd kk
theorem s_aald {a : Nat} {i : Int32} {r : List Value} (F : FR X k n0 p R s m meth c args) (hd : decode (cod k) pc = .ok (.aaload, 1)) (ht : (TY a).1 = 24 ∨ (TY a).1 = 25) (hi : inb i (TY a).2) (K : SC p l e R s m args below meth c X k n0 Q (pc + 1, ls, rf (mR M a i.toNatClampNeg) :: r, M)) : SC p l e R s m args below meth c X k n0 Q (pc, ls, .int i :: .ref a :: r, M) := by
  intro H sl locs h1 h2 h3 h4 h5
  have ha : a < mN M := vk1 h3.2 _ List.mem_cons_self
  have hlo : 21 ≤ a := tag_lo (by omega)
  have hv : VOK M (rf (mR M a i.toNatClampNeg)) := by
    cases h : mR M a i.toNatClampNeg with
    | none => exact trivial
    | some q => exact h4.2.2.2.1 _ _ q h
  have kk : W p l e R s m args below meth c H locs (mN M - n0) (slN (mN M) - slN n0) Q (F0 m (pc + 1) sl (rv X (rf (mR M a i.toNatClampNeg)) :: r.map (rv X))) := K H sl locs h1 h2 ⟨h3.1, vkc hv (vk2 h3.2)⟩ h4 h5
  rw [rf_rv] at kk
  rcases ht with ht | ht
  · exact va_aldq (f := fun j => (mR M a j).map (rho X)) (C := "TwoOnOneBack$Walker") F.1.1 F.1.2.1 F.2.2.2.1.1.1 h4.2.1 (a - 21) 4 (by rw [ws_get hlo ha, EW_arr ht (by omega)]; rfl) rfl hi hd kk
  · exact va_aldq (f := fun j => (mR M a j).map (rho X)) (C := "TwoOnOneBack$Tape") F.1.1 F.1.2.1 F.2.2.2.1.1.1 h4.2.1 (a - 21) 5 (by rw [ws_get hlo ha, EW_arr ht (by omega)]; rfl) rfl hi hd kk
theorem s_sld {i : Int32} {r : List Value} (F : FR X k n0 p R s m meth c args) (hd : decode (cod k) pc = .ok (.iaload, 1)) (hi : inb i (slen M)) (K : SC p l e R s m args below meth c X k n0 Q (pc + 1, ls, .int (mI M 0 i.toNatClampNeg) :: r, M)) : SC p l e R s m args below meth c X k n0 Q (pc, ls, .int i :: .retAddr 2 :: r, M) := by
  intro H sl locs h1 h2 h3 h4 h5
  have kk : W p l e R s m args below meth c H locs (mN M - n0) (slN (mN M) - slN n0) Q (F0 m (pc + 1) sl (.int (mI M 0 i.toNatClampNeg) :: r.map (rv X))) := K H sl locs h1 h2 ⟨h3.1, vkc trivial (vk2 h3.2)⟩ h4 h5
  obtain ⟨-, hx3, hx4, hx5⟩ := h4.2.2.1
  have hE : EXT X M := h4.2.2.1
  have hL : slen M = xl X := by
    have e4 : mI M 1 0 = Int32.ofNat (xl X) := hx4
    unfold slen
    rw [e4]
    exact nI_clamp hx5
  rw [hL] at hi
  have hlt : i.toNatClampNeg < xl X := Nat.not_le.mp fun q => hi (Or.inr q)
  have e3 : mI M 0 i.toNatClampNeg = xs_ X i.toNatClampNeg := hx3 _ hlt
  rw [e3] at kk
  obtain ⟨hX, hbl, hB, -⟩ := F.2.2.2.1.2.2.2
  exact va_sld F.1.1 F.1.2.1 hX (by omega) (fun q => by have : xB X ≤ xb X := q; omega) h5 hi hd kk
theorem s_slen {r : List Value} (F : FR X k n0 p R s m meth c args) (hd : decode (cod k) pc = .ok (.arraylength, 1)) (K : SC p l e R s m args below meth c X k n0 Q (pc + 1, ls, .int (mI M 1 0) :: r, M)) : SC p l e R s m args below meth c X k n0 Q (pc, ls, .retAddr 2 :: r, M) := by
  intro H sl locs h1 h2 h3 h4 h5
  have kk : W p l e R s m args below meth c H locs (mN M - n0) (slN (mN M) - slN n0) Q (F0 m (pc + 1) sl (.int (mI M 1 0) :: r.map (rv X))) := K H sl locs h1 h2 ⟨h3.1, vkc trivial (vk1 h3.2)⟩ h4 h5
  obtain ⟨-, -, hx4, hx5⟩ := h4.2.2.1
  have e4 : mI M 1 0 = Int32.ofNat (xl X) := hx4
  rw [e4] at kk
  obtain ⟨hX, hbl, hB, -⟩ := F.2.2.2.1.2.2.2
  exact va_slen F.1.1 F.1.2.1 hX (by omega) (fun q => by have : xB X ≤ xb X := q; omega) h5 hd kk
theorem s_alen {a : Nat} {r : List Value} (F : FR X k n0 p R s m meth c args) (hd : decode (cod k) pc = .ok (.arraylength, 1)) (ht : isArr (TY a).1 = true) (K : SC p l e R s m args below meth c X k n0 Q (pc + 1, ls, .int (Int32.ofNat (TY a).2) :: r, M)) : SC p l e R s m args below meth c X k n0 Q (pc, ls, .ref a :: r, M) := by
  intro H sl locs h1 h2 h3 h4 h5
  have ha : a < mN M := h3.2 _ List.mem_cons_self
  have h119 : mN M ≤ 119 := h4.2.2.2.2
  have kk : W p l e R s m args below meth c H locs (mN M - n0) (slN (mN M) - slN n0) Q (F0 m (pc + 1) sl (.int (Int32.ofNat (TY a).2) :: r.map (rv X))) := K H sl locs h1 h2 ⟨h3.1, vkc trivial (vk1 h3.2)⟩ h4 h5
  simp only [isArr, Bool.or_eq_true, Bool.and_eq_true, decide_eq_true_eq, beq_iff_eq] at ht
  rcases ht with ⟨g1, g2⟩ | ht
  · have hlo : 21 ≤ a := tag_lo (by omega)
    have key : ∀ (t : Nat), (TY a).1 = t → 20 ≤ t → ∀ ty, (tysL X)[t - 20]? = some (xA X t, ty) → W p l e R s m args below meth c H locs (mN M - n0) (slN (mN M) - slN n0) Q (F0 m pc sl (.ref (rho X a) :: r.map (rv X))) := fun t ht h20 ty hty =>
      va_alen F.1.1 F.1.2.1 F.2.2.2.1.1.1 h4.2.1 (a - 21) (t - 20) (by rw [ws_get hlo ha, EW_arr ht h20]) hty rfl hd kk
    rcases (by omega : (TY a).1 = 20 ∨ (TY a).1 = 21 ∨ (TY a).1 = 22 ∨ (TY a).1 = 23 ∨ (TY a).1 = 24 ∨ (TY a).1 = 25) with h | h | h | h | h | h
    · exact key 20 h (by omega) _ rfl
    · exact key 21 h (by omega) _ rfl
    · exact key 22 h (by omega) _ rfl
    · exact key 23 h (by omega) _ rfl
    · exact key 24 h (by omega) _ rfl
    · exact key 25 h (by omega) _ rfl
  · obtain ⟨a1, a2, a3⟩ := tag_byt ht (by omega)
    have hrho : rho X a = xV X (a - 11) := by unfold rho; rw [if_pos (by omega), if_neg (by omega)]
    obtain ⟨-, -, -, hT⟩ := F.2.2.2.1.2.1.1.1 (a - 11) (by omega)
    show W p l e R s m args below meth c H locs (mN M - n0) (slN (mN M) - slN n0) Q (F0 m pc sl (.ref (rho X a) :: r.map (rv X)))
    rw [hrho]
    exact va_tlen F.1.1 F.1.2.1 hT h5 (by rw [a3]) hd kk
theorem s_iast {a : Nat} {i y : Int32} {r : List Value} (F : FR X k n0 p R s m meth c args) (hn : n0 ≤ mN M) (hd : decode (cod k) pc = .ok (.iastore, 1)) (ht : (TY a).1 = 20) (hi : inb i (TY a).2) (K : SC p l e R s m args below meth c X k n0 Q (pc + 1, ls, r, sI M a i.toNatClampNeg y)) : SC p l e R s m args below meth c X k n0 Q (pc, ls, .int y :: .int i :: .ref a :: r, M) := by
  intro H sl locs h1 h2 h3 h4 h5
  have ha : a < mN M := vk2 h3.2 _ List.mem_cons_self
  have hlo : 21 ≤ a := tag_lo (by omega)
  refine va_iast F.1.1 F.1.2.1 F.2.2.2.1.1.1 h4.2.1 ws_D h5 (a - 21) 0 (f := fun j => mI M a j) (by rw [ws_get hlo ha, EW_arr ht (by omega)]; rfl) rfl hi hd (fun H1 locs1 hP1 _ hS1 => sc_set F hn hlo ha (sI_same a _ y) h4.2.2.2.1 ?_ h4.2.2.1 h4.2.2.2.2 K h1 h2 ⟨h3.1, vk3 h3.2⟩ hP1 hS1)
  rw [EW_arr ht (by omega)]
  simp [mI, sI, up2, upd]
  rfl
theorem s_bast {a : Nat} {i y : Int32} {r : List Value} (F : FR X k n0 p R s m meth c args) (hn : n0 ≤ mN M) (hd : decode (cod k) pc = .ok (.bastore, 1)) (ht : (TY a).1 = 22 ∨ (TY a).1 = 23) (hi : inb i (TY a).2) (K : SC p l e R s m args below meth c X k n0 Q (pc + 1, ls, r, sI M a i.toNatClampNeg (nbv (TY a).1 y))) : SC p l e R s m args below meth c X k n0 Q (pc, ls, .int y :: .int i :: .ref a :: r, M) := by
  intro H sl locs h1 h2 h3 h4 h5
  have ha : a < mN M := vk2 h3.2 _ List.mem_cons_self
  have hlo : 21 ≤ a := tag_lo (by omega)
  rcases ht with ht | ht
  · refine va_bast F.1.1 F.1.2.1 F.2.2.2.1.1.1 h4.2.1 ws_D h5 (a - 21) 2 (f := fun j => mI M a j) (by rw [ws_get hlo ha, EW_arr ht (by omega)]; rfl) rfl hi hd (fun H1 locs1 hP1 _ hS1 => sc_set F hn hlo ha (sI_same a _ _) h4.2.2.2.1 ?_ h4.2.2.1 h4.2.2.2.2 K h1 h2 ⟨h3.1, vk3 h3.2⟩ hP1 hS1)
    rw [EW_arr ht (by omega), ht, vp_nar_byte]
    simp [mI, sI, up2, upd, nbv]
    rfl
  · refine va_zast F.1.1 F.1.2.1 F.2.2.2.1.1.1 h4.2.1 ws_D h5 (a - 21) 3 (f := fun j => mI M a j) (by rw [ws_get hlo ha, EW_arr ht (by omega)]; rfl) rfl hi hd (fun H1 locs1 hP1 _ hS1 => sc_set F hn hlo ha (sI_same a _ _) h4.2.2.2.1 ?_ h4.2.2.1 h4.2.2.2.2 K h1 h2 ⟨h3.1, vk3 h3.2⟩ hP1 hS1)
    rw [EW_arr ht (by omega), ht, show vp_nar .boolean y = y &&& 1 from rfl]
    simp [mI, sI, up2, upd, nbv]
    rfl
theorem s_last {a : Nat} {i : Int32} {y : Int64} {r : List Value} (F : FR X k n0 p R s m meth c args) (hn : n0 ≤ mN M) (hd : decode (cod k) pc = .ok (.lastore, 1)) (ht : (TY a).1 = 21) (hi : inb i (TY a).2) (K : SC p l e R s m args below meth c X k n0 Q (pc + 1, ls, r, sL M a i.toNatClampNeg y)) : SC p l e R s m args below meth c X k n0 Q (pc, ls, .long y :: .int i :: .ref a :: r, M) := by
  intro H sl locs h1 h2 h3 h4 h5
  have ha : a < mN M := vk2 h3.2 _ List.mem_cons_self
  have hlo : 21 ≤ a := tag_lo (by omega)
  refine va_last F.1.1 F.1.2.1 F.2.2.2.1.1.1 h4.2.1 ws_D h5 (a - 21) 1 (f := fun j => mL M a j) (by rw [ws_get hlo ha, EW_arr ht (by omega)]; rfl) rfl hi hd (fun H1 locs1 hP1 _ hS1 => sc_set F hn hlo ha (sL_same a _ y) h4.2.2.2.1 ?_ h4.2.2.1 h4.2.2.2.2 K h1 h2 ⟨h3.1, vk3 h3.2⟩ hP1 hS1)
  rw [EW_arr ht (by omega)]
  simp [mL, sL, up2, vp_updL]
  rfl
theorem s_aast {a v : Nat} {i : Int32} {r : List Value} (F : FR X k n0 p R s m meth c args) (hn : n0 ≤ mN M) (hd : decode (cod k) pc = .ok (.aastore, 1)) (ht : (TY a).1 = 24 ∨ (TY a).1 = 25) (hv : (TY v).1 = cmpO (TY a).1) (hi : inb i (TY a).2) (K : SC p l e R s m args below meth c X k n0 Q (pc + 1, ls, r, sR M a i.toNatClampNeg (some v))) : SC p l e R s m args below meth c X k n0 Q (pc, ls, .ref v :: .int i :: .ref a :: r, M) := by
  intro H sl locs h1 h2 h3 h4 h5
  have ha : a < mN M := vk2 h3.2 _ List.mem_cons_self
  have hv2 : v < mN M := h3.2 _ List.mem_cons_self
  have hlo : 21 ≤ a := tag_lo (by omega)
  have hE : ∀ t, (TY a).1 = t → t = 24 ∨ t = 25 → (.inl (xA X t, (TY a).2, .inr (.inr (.inr (.inr (va_up (fun j => (mR M a j).map (rho X)) i.toNatClampNeg (some (rho X v))))))) : va_E) = EW X (sR M a i.toNatClampNeg (some v)) a := by
    intro t ht h
    rw [EW_arr ht (by omega), if_neg (by omega), if_pos h]
    congr 7
    funext j
    unfold va_up
    by_cases hj : j = i.toNatClampNeg
    · simp [mR, sR, up2, hj]
    · simp [mR, sR, up2, hj]
  have hcl : CLO (sR M a i.toNatClampNeg (some v)) := sR_clo h4.2.2.2.1 (fun q hq => by cases hq; exact hv2)
  rcases ht with ht | ht
  · rw [ht] at hv
    have hv : (TY v).1 = 9 := hv
    have hlv : 21 ≤ v := tag_lo (by omega)
    exact va_astq F.1.1 F.1.2.1 F.2.2.2.1.1.1 h4.2.1 ws_D h5 (a - 21) 4 (v - 21) 9 (r := (oN 9, CT 9, NF 9)) (f := fun j => (mR M a j).map (rho X)) (by rw [ws_get hlo ha, EW_arr ht (by omega)]; rfl) rfl (by rw [ws_get hlv hv2, EW_obj hv (by omega)]) (vw_at (by omega)) hi hd (fun H1 locs1 hP1 _ hS1 => sc_set F hn hlo ha (sR_same a _ _) hcl (hE 24 ht (Or.inl rfl)) h4.2.2.1 h4.2.2.2.2 K h1 h2 ⟨h3.1, vk3 h3.2⟩ hP1 hS1)
  · rw [ht] at hv
    have hv : (TY v).1 = 6 := hv
    have hlv : 21 ≤ v := tag_lo (by omega)
    exact va_astq F.1.1 F.1.2.1 F.2.2.2.1.1.1 h4.2.1 ws_D h5 (a - 21) 5 (v - 21) 6 (r := (oN 6, CT 6, NF 6)) (f := fun j => (mR M a j).map (rho X)) (by rw [ws_get hlo ha, EW_arr ht (by omega)]; rfl) rfl (by rw [ws_get hlv hv2, EW_obj hv (by omega)]) (vw_at (by omega)) hi hd (fun H1 locs1 hP1 _ hS1 => sc_set F hn hlo ha (sR_same a _ _) hcl (hE 25 ht (Or.inr rfl)) h4.2.2.1 h4.2.2.2.2 K h1 h2 ⟨h3.1, vk3 h3.2⟩ hP1 hS1)
end Steps3
