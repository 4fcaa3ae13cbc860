section Steps2
variable {p : Program} {l : Launch} {e : Env} {R : Room} {s : State} {m : MethodId} {args : Array Value} {below : List Frame} {meth : Method} {c : Code} {X : CX} {k n0 : Nat} {Q : State → Prop}
variable {pc pc' len j x : Nat} {ls ls' st st' : List Value} {M M' : MM} {cf' : CF}
theorem W_sz {H : Heap} {locs : List Loc} {g : JFrame} {sls : Nat} (F : FR X k n0 p R s m meth c args) (hn : n0 ≤ mN M) (hP : va_P (xD X) vwCl (wsM X M) H) (h0 : s.heap.size ≤ H.size)
    (K : H.size = xB X + (mN M - 21) → W p l e R s m args below meth c H locs (mN M - n0) sls Q g) : W p l e R s m args below meth c H locs (mN M - n0) sls Q g := by
  intro T hT Xs
  refine K ?_ T hT Xs
  have hz := Xs.heapSize
  rw [hT] at hz
  obtain ⟨hs, h21⟩ := F.2.2.2.2.2.2
  rcases Nat.lt_or_ge 21 (mN M) with q | q
  · have h1 := (hP (mN M - 1 - 21) _ (ws_get (X := X) (M := M) (a := mN M - 1) (by omega) (by omega))).lt
    dsimp only at h1
    rw [rho_own (by omega)] at h1
    omega
  · omega
def Same (M M' : MM) (a : Nat) : Prop := mN M' = mN M ∧ ∀ b, b ≠ a → ∀ i, mI M' b i = mI M b i ∧ mL M' b i = mL M b i ∧ mR M' b i = mR M b i
theorem gv_congr {ty : FieldType} {b i : Nat} (h : mI M' b i = mI M b i ∧ mL M' b i = mL M b i ∧ mR M' b i = mR M b i) : gv ty M' b i = gv ty M b i := by
  obtain ⟨h1, h2, h3⟩ := h
  cases ty <;> simp only [gv, h1, h2, h3]
theorem EW_congr {b : Nat} (h : ∀ i, mI M' b i = mI M b i ∧ mL M' b i = mL M b i ∧ mR M' b i = mR M b i) : EW X M' b = EW X M b := by
  unfold EW
  have e1 : ∀ i, mI M' b i = mI M b i := fun i => (h i).1
  have e2 : ∀ i, mL M' b i = mL M b i := fun i => (h i).2.1
  have e3 : ∀ i, mR M' b i = mR M b i := fun i => (h i).2.2
  have e4 : ∀ ty i, gv ty M' b i = gv ty M b i := fun ty i => gv_congr (h i)
  simp only [e1, e2, e3, e4]
theorem EXT_same {a : Nat} (h : Same M M' a) (ha : 21 ≤ a) (hE : EXT X M) : EXT X M' := by
  obtain ⟨⟨h1, h2⟩, h3, h4, h5⟩ := hE
  have g : ∀ b, b < 21 → ∀ i, mI M' b i = mI M b i ∧ mR M' b i = mR M b i := fun b hb i => ⟨(h.2 b (by omega) i).1, (h.2 b (by omega) i).2.2⟩
  refine ⟨⟨fun i hi => ?_, fun i hi j => ?_⟩, fun j hj => ?_, ?_, h5⟩
  · rw [(g (1 + i) (by omega) 1).1, (g (1 + i) (by omega) 0).2]; exact h1 i hi
  · rw [(g (11 + i) (by omega) j).1]; exact h2 i hi j
  · rw [(g 0 (by omega) j).1]; exact h3 j hj
  · rw [(g 1 (by omega) 0).1]; exact h4
theorem vok_same (h : mN M' = mN M) {v : Value} (hv : VOK M v) : VOK M' v := vok_mono (Nat.le_of_eq h.symm) hv
theorem sc_set {H1 : Heap} {locs1 : List Loc} {sl : Array Slot} {a : Nat} {en : va_E} (F : FR X k n0 p R s m meth c args) (hn : n0 ≤ mN M) (hlo : 21 ≤ a) (hlt : a < mN M) (hs : Same M M' a) (hc : CLO M') (he : en = EW X M' a) (hE : EXT X M) (h119 : mN M ≤ 119)
    (K : SC p l e R s m args below meth c X k n0 Q (pc', ls, st', M')) (h1 : ls.length = mlo k) (h2 : lv_has sl (mlo k) (asc X ls)) (h3 : (∀ v ∈ ls, VOK M v) ∧ (∀ v ∈ st', VOK M v))
    (hP1 : va_P (xD X) vwCl ((wsM X M).set (a - 21) (rho X a, en)) H1) (hS1 : va_S (AB X) s.heap H1 locs1) : W p l e R s m args below meth c H1 locs1 (mN M - n0) (slN (mN M) - slN n0) Q (F0 m pc' sl (st'.map (rv X))) := by
  rw [ws_ext hs.1 hlo hlt he (fun b hb _ => EW_congr (hs.2 b hb))] at hP1
  have hm := hs.1
  rw [← hm] at hn ⊢
  refine W_sz F hn hP1 hS1.1 (fun hz => ?_)
  exact K H1 sl locs1 h1 h2 ⟨fun v hv => vok_same hm (h3.1 v hv), fun v hv => vok_same hm (h3.2 v hv)⟩ ⟨⟨by show 21 ≤ mN M'; omega, hz⟩, hP1, EXT_same hs hlo hE, hc, by show mN M' ≤ 119; omega⟩ hS1
theorem sI_same (a i : Nat) (v : Int32) : Same M (sI M a i v) a := ⟨rfl, fun b hb i' => ⟨by simp [mI, sI, up2, hb], rfl, rfl⟩⟩
theorem sL_same (a i : Nat) (v : Int64) : Same M (sL M a i v) a := ⟨rfl, fun b hb i' => ⟨rfl, by simp [mL, sL, up2, hb], rfl⟩⟩
theorem sR_same (a i : Nat) (v : Option Nat) : Same M (sR M a i v) a := ⟨rfl, fun b hb i' => ⟨rfl, rfl, by simp [mR, sR, up2, hb]⟩⟩
theorem sR_clo {a i : Nat} {v : Option Nat} (h : CLO M) (hv : ∀ q, v = some q → q < mN M) : CLO (sR M a i v) := by
  intro b j q hq
  show q < mN M
  by_cases hb : b = a ∧ j = i
  · have : v = some q := by simpa [mR, sR, up2, hb] using hq
    exact hv q this
  · have : mR M b j = some q := by simpa [mR, sR, up2, hb] using hq
    exact h b j q this
theorem pv_same {ty : FieldType} {a j : Nat} {v : Value} (h : pv ty M a j v = some M') (hv : VOK M v) (hc : CLO M) : Same M M' a ∧ CLO M' ∧ gv ty M' a j = v ∧ (∀ i, i ≠ j → ∀ ty', gv ty' M' a i = gv ty' M a i) ∧ narrow ty (rv X v) = rv X v ∧ fits ty (rv X v) = true := by
  have gI : ∀ x i, i ≠ j → ∀ ty', gv ty' (sI M a j x) a i = gv ty' M a i := fun x i hi ty' => gv_congr ⟨by simp [mI, sI, up2, hi], rfl, rfl⟩
  have gL : ∀ x i, i ≠ j → ∀ ty', gv ty' (sL M a j x) a i = gv ty' M a i := fun x i hi ty' => gv_congr ⟨rfl, by simp [mL, sL, up2, hi], rfl⟩
  have gR : ∀ x i, i ≠ j → ∀ ty', gv ty' (sR M a j x) a i = gv ty' M a i := fun x i hi ty' => gv_congr ⟨rfl, rfl, by simp [mR, sR, up2, hi]⟩
  unfold pv at h
  split at h
  · cases h
    exact ⟨sL_same _ _ _, hc, by simp [gv, mL, sL, up2], gL _, rfl, rfl⟩
  · cases h
    exact ⟨sI_same _ _ _, hc, by simp [gv, mI, sI, up2], gI _, rfl, rfl⟩
  · split at h
    · rename_i hx
      cases h
      refine ⟨sI_same _ _ _, hc, by simp [gv, mI, sI, up2], gI _, ?_, ?_⟩
      · rcases hx with rfl | rfl <;> rfl
      · rcases hx with rfl | rfl <;> rfl
    · cases h
  · cases h
    exact ⟨sR_same _ _ _, sR_clo hc (fun q hq => by cases hq; exact hv), by simp [gv, mR, sR, up2, rf], gR _, rfl, rfl⟩
  · cases h
    exact ⟨sR_same _ _ _, sR_clo hc (fun q hq => by cases hq), by simp [gv, mR, sR, up2, rf], gR _, rfl, rfl⟩
  · cases h
    exact ⟨sR_same _ _ _, sR_clo hc (fun q hq => by cases hq; exact hv), by simp [gv, mR, sR, up2, rf], gR _, rfl, rfl⟩
  · cases h
    exact ⟨sR_same _ _ _, sR_clo hc (fun q hq => by cases hq), by simp [gv, mR, sR, up2, rf], gR _, rfl, rfl⟩
  · cases h
theorem EW_obj {a c' : Nat} (h : (TY a).1 = c') (hc : c' < 12) : EW X M a = .inr (c', (List.range (NF c')).map fun j => rv X (gv (FT c' j) M a j)) := by
  subst h
  unfold EW
  rw [if_pos hc]
theorem fs_at {c' a j : Nat} (hj : j < NF c') : ((List.range (NF c')).map fun j => rv X (gv (FT c' j) M a j))[j]? = some (rv X (gv (FT c' j) M a j)) := by
  rw [List.getElem?_map, List.getElem?_range hj]
  rfl
theorem vok_gv {ty : FieldType} {a j : Nat} (hc : CLO M) : VOK M (gv ty M a j) := by
  have hr : VOK M (rf (mR M a j)) := by
    cases h : mR M a j with
    | none => exact trivial
    | some q => exact hc a j q h
  cases ty <;> first | exact trivial | exact hr
theorem tag_str {a : Nat} (h : (TY a).1 = 13) (h2 : a < 119) : 1 ≤ a ∧ a < 11 := by
  have : ∀ b, b < 119 → (TY b).1 = 13 → 1 ≤ b ∧ b < 11 := by decide +kernel
  exact this a h2 h
theorem s_getf1 {a : Nat} {c' j : Nat} {r : List Value} (F : FR X k n0 p R s m meth c args) (hd : decode (cod k) pc = .ok (.getfield x, 3)) (hq : fld (own_ k) x = some (c', j)) (ht : (TY a).1 = c') (K : SC p l e R s m args below meth c X k n0 Q (pc + 3, ls, gv (FT c' j) M a j :: r, M)) : SC p l e R s m args below meth c X k n0 Q (pc, ls, .ref a :: r, M) := by
  intro H sl locs h1 h2 h3 h4 h5
  obtain ⟨hw, hcase⟩ := fld_ok hq
  obtain ⟨⟨hx, hb, hml⟩, hown, hts, hOK, -⟩ := F
  have ha : a < mN M := h3.2 _ List.mem_cons_self
  have h119 : mN M ≤ 119 := h4.2.2.2.2
  have kk : W p l e R s m args below meth c H locs (mN M - n0) (slN (mN M) - slN n0) Q (F0 m (pc + 3) sl (rv X (gv (FT c' j) M a j) :: r.map (rv X))) := K H sl locs h1 h2 ⟨h3.1, vkc (vok_gv h4.2.2.2.1) (vk1 h3.2)⟩ h4 h5
  show W p l e R s m args below meth c H locs (mN M - n0) (slN (mN M) - slN n0) Q (F0 m pc sl (.ref (rho X a) :: r.map (rv X)))
  rcases hcase with ⟨rfl, hj⟩ | ⟨hc, hj, hdecl⟩
  · obtain ⟨a1, a2⟩ := tag_str ht (by omega)
    have hrho : rho X a = xK X (a - 1) := by unfold rho; rw [if_pos (by omega), if_pos (by omega), if_neg (by omega)]
    obtain ⟨-, hco, hva, -⟩ := hOK.2.1.1.1 (a - 1) (by omega)
    have hEa : mI M (1 + (a - 1)) 1 = 0 ∧ mR M (1 + (a - 1)) 0 = some (11 + (a - 1)) := h4.2.2.1.1.1 (a - 1) (by omega)
    have e1 : 1 + (a - 1) = a := by omega
    rw [e1] at hEa
    rcases (by omega : j = 0 ∨ j = 1) with rfl | rfl
    · have hv : rv X (gv (FT 13 0) M a 0) = .ref (xV X (a - 1)) := by
        show rv X (rf (mR M a 0)) = _
        rw [hEa.2]
        show Value.ref (rho X _) = _
        unfold rho
        rw [if_pos (by omega), if_neg (by omega)]
        congr 2
        omega
      rw [hv] at kk
      rw [hrho]
      exact vk_getf hx hb hva h5 hown (hts _ hw) (fun _ h => h) hd kk
    · have hv : rv X (gv (FT 13 1) M a 1) = .int 0 := by
        show Value.int (mI M a 1) = _
        rw [hEa.1]
      rw [hv] at kk
      rw [hrho]
      exact vk_getf hx hb hco h5 hown (hts _ hw) (fun _ h => h) hd kk
  · have hlo : 21 ≤ a := tag_lo (Or.inl (by rw [ht]; exact hc))
    have hne : ¬ c' = 13 := by omega
    have hw' : Cond.fieldLink (oN (own_ k)) x (oN c') (CT c' j).2.1 (CT c' j).2.2.1 ∈ wsG := by
      have : fW (own_ k) x c' j = Cond.fieldLink (oN (own_ k)) x (oN c') (CT c' j).2.1 (CT c' j).2.2.1 := by unfold fW; rw [if_neg hne]
      rw [← this]; exact hw
    exact va_get (D := xD X) (ci := c') (C := oN c') (T := CT c') (N := NF c') (ref := oN c') hx hb hts (in_at hc) hown hOK.1.1 h4.2.1 (a - 21) (fs := _) (by rw [ws_get hlo ha, EW_obj ht hc]) (vw_at hc) j hj (hts _ hw') (fun y h => by rw [hdecl] at h; exact h) (fs_at hj) hd kk
theorem s_getf (F : FR X k n0 p R s m meth c args) (hd : decode (cod k) pc = .ok (.getfield x, 3)) (ho : opI k (.getfield x) 3 pc ls st M = some (.inl cf')) (K : SC p l e R s m args below meth c X k n0 Q cf') : SC p l e R s m args below meth c X k n0 Q (pc, ls, st, M) := by
  simp only [opI] at ho
  split at ho
  · rename_i q hq
    split at ho
    · rename_i a r
      split at ho
      · rename_i ht
        cases ho
        exact s_getf1 F hd hq ht K
      · cases ho
    · cases ho
  · cases ho
theorem s_putf (F : FR X k n0 p R s m meth c args) (hn : n0 ≤ mN M) (hd : decode (cod k) pc = .ok (.putfield x, 3)) (ho : opI k (.putfield x) 3 pc ls st M = some (.inl cf')) (K : SC p l e R s m args below meth c X k n0 Q cf') : SC p l e R s m args below meth c X k n0 Q (pc, ls, st, M) := by
  simp only [opI] at ho
  split at ho
  · rename_i q hq
    split at ho
    · rename_i v a r
      split at ho
      · rename_i ht
        split at ho
        · rename_i M' hpv
          cases ho
          intro H sl locs h1 h2 h3 h4 h5
          obtain ⟨c', j⟩ := q
          obtain ⟨ht, hc, hfin⟩ := ht
          dsimp only at ht hc hfin hpv
          obtain ⟨hw, hcase⟩ := fld_ok hq
          obtain ⟨-, hj, hdecl⟩ := hcase.resolve_left (fun z => by omega)
          have F' := F
          obtain ⟨⟨hx, hb, hml⟩, hown, hts, hOK, hini, -⟩ := F'
          have ha : a < mN M := h3.2 _ (List.mem_cons_of_mem _ List.mem_cons_self)
          have h119 : mN M ≤ 119 := h4.2.2.2.2
          have hlo : 21 ≤ a := tag_lo (Or.inl (by rw [ht]; exact hc))
          have hne : ¬ c' = 13 := by omega
          have hw' : Cond.fieldLink (oN (own_ k)) x (oN c') (CT c' j).2.1 (CT c' j).2.2.1 ∈ wsG := by
            have : fW (own_ k) x c' j = Cond.fieldLink (oN (own_ k)) x (oN c') (CT c' j).2.1 (CT c' j).2.2.1 := by unfold fW; rw [if_neg hne]
            rw [← this]; exact hw
          obtain ⟨g1, g2, g3, g4, g5, g6⟩ := pv_same (X := X) hpv (h3.2 _ List.mem_cons_self) h4.2.2.2.1
          have hE : (.inr (c', ((List.range (NF c')).map fun j => rv X (gv (FT c' j) M a j)).set j (rv X v)) : va_E) = EW X M' a := by
            rw [EW_obj ht hc]
            congr 2
            apply List.ext_getElem?
            intro i
            by_cases hi : i = j
            · subst hi
              rw [List.getElem?_set_self (by simpa using hj), fs_at hj, g3]
            · rw [List.getElem?_set_ne (Ne.symm hi)]
              by_cases hl : i < NF c'
              · rw [fs_at hl, fs_at hl, g4 i hi]
              · rw [List.getElem?_eq_none (by simpa using hl), List.getElem?_eq_none (by simpa using hl)]
          have fin : ∀ (H1 : Heap) (locs1 : List Loc), va_P (xD X) vwCl ((wsM X M).set (a - 21) (rho X a, .inr (c', ((List.range (NF c')).map fun j => rv X (gv (FT c' j) M a j)).set j (rv X v)))) H1 → va_D (AB X) ((wsM X M).set (a - 21) (rho X a, .inr (c', ((List.range (NF c')).map fun j => rv X (gv (FT c' j) M a j)).set j (rv X v)))) → va_S (AB X) s.heap H1 locs1 → W p l e R s m args below meth c H1 locs1 (mN M - n0) (slN (mN M) - slN n0) Q (F0 m (pc + 3) sl (r.map (rv X))) := fun H1 locs1 hP1 _ hS1 =>
            sc_set F hn hlo ha g1 g2 hE h4.2.2.1 h119 K h1 h2 ⟨h3.1, vk2 h3.2⟩ hP1 hS1
          cases hf : FF c' j with
          | false =>
            exact va_put (D := xD X) (ci := c') (ty := FT c' j) (C := oN c') (T := CT c') (N := NF c') (ref := oN c') hx hb hts (in_at hc) (FT c') (tyok_at hc) (nm_at hc) hown hOK.1.1 h4.2.1 ws_D h5 (a - 21) (by rw [ws_get hlo ha, EW_obj ht hc]) (vw_at hc) j hj (hts _ hw') (fun y h => by rw [hdecl] at h; exact h) (by rw [ff_at hc]; exact hf) (tyok_at hc j hj) g5 g6 (by simpa using hj) hd fin
          | true =>
            obtain ⟨i1, i2⟩ := hfin hf
            exact va_putF (D := xD X) (ci := c') (ty := FT c' j) (C := oN c') (T := CT c') (N := NF c') (ref := oN c') hx hb hts (in_at hc) (FT c') (tyok_at hc) (nm_at hc) hown hOK.1.1 h4.2.1 ws_D h5 (a - 21) (by rw [ws_get hlo ha, EW_obj ht hc]) (vw_at hc) j hj (hts _ hw') (fun y h => by rw [hdecl] at h; exact h) (by rw [ff_at hc]; exact hf) (hini i1) (by rw [hdecl, i2]) (tyok_at hc j hj) g5 g6 (by simpa using hj) hd fin
        · cases ho
      · cases ho
    · cases ho
  · cases ho
end Steps2
