/-! ===== 54: shares and weights: without machine ===== -/
theorem sumN_add (g h : Nat → Nat) : ∀ n : Nat, sumN n (fun i => g i + h i) = sumN n g + sumN n h
  | 0 => rfl
  | n + 1 => by rw [sumN, sumN, sumN, sumN_add g h n]; omega
theorem sumN_mul (c : Nat) (g : Nat → Nat) : ∀ n : Nat, sumN n (fun i => c * g i) = c * sumN n g
  | 0 => rfl
  | n + 1 => by rw [sumN, sumN, sumN_mul c g n, Nat.mul_add]
theorem sumN_mulr (c : Nat) (g : Nat → Nat) : ∀ n : Nat, sumN n (fun i => g i * c) = sumN n g * c
  | 0 => (Nat.zero_mul c).symm
  | n + 1 => by rw [sumN, sumN, sumN_mulr c g n, Nat.add_mul]
theorem sumN_swap (g : Nat → Nat → Nat) (m : Nat) : ∀ n : Nat, sumN n (fun i => sumN m (fun k => g i k)) = sumN m (fun k => sumN n (fun i => g i k))
  | 0 => (sumN_0 m (fun _ _ => rfl)).symm
  | n + 1 => by
    rw [sumN, sumN_swap g m n, ← sumN_add]
    rfl
theorem sumN_split (g : Nat → Nat) (n : Nat) : ∀ m : Nat, sumN (n + m) g = sumN n g + sumN m (fun k => g (n + k))
  | 0 => rfl
  | m + 1 => by
    rw [sumN, ← Nat.add_assoc, sumN, sumN_split g n m, Nat.add_assoc]
theorem sumN_block (b : Nat) (g : Nat → Nat) : ∀ a : Nat, sumN (a * b) g = sumN a (fun i => sumN b (fun k => g (i * b + k)))
  | 0 => by rw [Nat.zero_mul]; rfl
  | a + 1 => by rw [Nat.succ_mul, sumN_split, sumN, sumN_block b g a]
theorem sumN_le {g h : Nat → Nat} : ∀ n : Nat, (∀ i : Nat, i < n → g i ≤ h i) → sumN n g ≤ sumN n h
  | 0, _ => Nat.le_refl _
  | n + 1, H => by
    have h1 := sumN_le n (fun i hi => H i (by omega))
    have h2 := H n (by omega)
    rw [sumN, sumN]; omega
theorem sumN_mem {g : Nat → Nat} : ∀ n i : Nat, i < n → g i ≤ sumN n g
  | 0, i, h => absurd h (Nat.not_lt_zero i)
  | n + 1, i, h => by
    rw [sumN]
    by_cases e : i = n
    · subst e; omega
    · have := sumN_mem (g := g) n i (by omega); omega
theorem eB_le1 (p : Prop) : eB p ≤ 1 := by
  by_cases h : p
  · rw [eB_t h]; exact Nat.le_refl 1
  · rw [eB_f h]; exact Nat.zero_le 1
theorem eB_iff {p q : Prop} (h : p ↔ q) : eB p = eB q := by rw [propext h]
theorem sumN_re {c : Nat} (hc : c < 36) (T : Nat → Nat) : sumN 36 (fun x => sumN 5 (fun w => eB (ok c w ∧ nxc c w = x) * T w)) = sumN 5 (fun w => eB (ok c w) * T w) := by
  rw [sumN_swap]
  refine sumN_congr 5 (fun w hw => ?_)
  by_cases h : ok c w
  · rw [sumN_one 36 (nxc c w) (nx_lt hc hw h) (fun x _ hx => by rw [eB_f (fun h2 => hx h2.2.symm), Nat.zero_mul]), eB_t ⟨h, rfl⟩, eB_t h]
  · rw [eB_f h, Nat.zero_mul]
    exact sumN_0 36 (fun x _ => by rw [eB_f (fun h2 => h h2.1), Nat.zero_mul])
/-- at most four steps are open, or none -/
theorem wys_le {mk : Nat → Nat → Prop} {kd v gn c f w : Nat} {on : Prop} (hf : f < 4) : wys mk kd v on gn c f w ≤ 4 := by
  unfold wys
  have l := fun a : Nat => eB_le1 (may mk kd v on gn c f w a)
  have l0 := l 0
  have l1 := l 1
  have l2 := l 2
  have l3 := l 3
  have l4 := l 4
  have l5 := l 5
  show 0 + eB (may mk kd v on gn c f w 0) + eB (may mk kd v on gn c f w 1) + eB (may mk kd v on gn c f w 2) + eB (may mk kd v on gn c f w 3) + eB (may mk kd v on gn c f w 4) + eB (may mk kd v on gn c f w 5) ≤ 4
  by_cases ho : on
  · have z4 : eB (may mk kd v on gn c f w 4) = 0 := eB_f (fun h => by
      rcases h with h | h | h
      · omega
      · exact h.2.1 ho
      · omega)
    by_cases h5 : may mk kd v on gn c f w 5
    · have h6 : (kd = 6 ∧ 0 < v ∧ gn % v = 0) ∨ ∀ x : Nat, x < 4 → ¬ ons mk kd v gn c f x := by
        rcases h5 with h | h | h
        · omega
        · omega
        · rcases h.2 with h | h
          · exact h.2
          · exact absurd ho h.1
      have zz : ∀ x : Nat, x < 4 → ¬ ons mk kd v gn c f x → eB (may mk kd v on gn c f w x) = 0 := fun x hx hn => eB_f (fun h => by
        rcases h with h | h | h
        · exact hn h.2.2
        · omega
        · omega)
      rcases h6 with h6 | h6
      · have hr : ¬ ons mk kd v gn c f (rvw f) := fun h => by
          have hne : ¬ rvw f = f := by unfold rvw; split <;> omega
          rcases h.2 with h2 | h2 | h2
          · omega
          · omega
          · rcases h2.2.2 with h3 | h3
            · exact hne h3
            · exact h3.1 rfl
        have hr4 := rv_lt4 hf
        have z := zz (rvw f) hr4 hr
        have h4 : rvw f = 0 ∨ rvw f = 1 ∨ rvw f = 2 ∨ rvw f = 3 := by omega
        rcases h4 with e | e | e | e <;> rw [e] at z <;> omega
      · have z0 := zz 0 (by decide) (h6 0 (by decide))
        omega
    · have z5 := eB_f h5
      omega
  · have zz : ∀ x : Nat, x < 4 → eB (may mk kd v on gn c f w x) = 0 := fun x hx => eB_f (fun h => by
      rcases h with h | h | h
      · exact ho h.2.1
      · omega
      · omega)
    have z0 := zz 0 (by decide)
    have z1 := zz 1 (by decide)
    omega
theorem q60 {n : Nat} (h : n ≤ 4) : 60 / n = 5 * (12 / n) := by
  have h5 : n = 0 ∨ n = 1 ∨ n = 2 ∨ n = 3 ∨ n = 4 := by omega
  rcases h5 with rfl | rfl | rfl | rfl | rfl <;> rfl
def psi (c f w : Nat) : Nat := (c * 4 + f) * 5 + w
theorem psi_inj {c f w c2 f2 w2 : Nat} (hf : f < 4) (hw : w < 5) (hf2 : f2 < 4) (hw2 : w2 < 5) (h : psi c f w = psi c2 f2 w2) : c = c2 ∧ f = f2 ∧ w = w2 := by
  unfold psi at h; omega
theorem psi_lt {c f w : Nat} (hc : c < 36) (hf : f < 4) (hw : w < 5) : psi c f w < 720 := by unfold psi; omega
theorem psi_i (i : Nat) : psi (i / 20) (i / 5 % 4) (i % 5) = i := by unfold psi; omega
/-- what goes from a state to place j, in shares -/
noncomputable def shS (mk : Nat → Nat → Prop) (kd v : Nat) (on : Prop) (gn : Nat) (S : Nat → Nat) (j c f w n : Nat) : Nat :=
  sumN n (fun a => eB (may mk kd v on gn c f w a ∧ psi (tc kd c f w a) (tf f a) (tw kd f w a) = j) * (S (psi c f w) * (12 / wys mk kd v on gn c f w)))
noncomputable def shI (mk : Nat → Nat → Prop) (kd v : Nat) (on : Prop) (gn : Nat) (S : Nat → Nat) (j i : Nat) : Nat := shS mk kd v on gn S j (i / 20) (i / 5 % 4) (i % 5) 6
noncomputable def Sf (mk : Nat → Nat → Prop) (kd v onN bk b0 g0 i0 : Nat) : Nat → Nat → Nat
  | 0 => fun j => eB (j = i0)
  | t + 1 => fun j => sumN 720 (shI mk kd v ((b0 + t) % (onN + bk) < onN) (g0 + t) (Sf mk kd v onN bk b0 g0 i0 t) j)
theorem shS_0 {mk : Nat → Nat → Prop} {kd v gn j c f w : Nat} {on : Prop} {S : Nat → Nat} (n : Nat) (h : S (psi c f w) = 0) : shS mk kd v on gn S j c f w n = 0 := by
  unfold shS
  exact sumN_0 n (fun a _ => by rw [h, Nat.zero_mul, Nat.mul_zero])
section Shares
variable {mk : Nat → Nat → Prop} {kd v onN bk b0 g0 : Nat}
/-- no more than twelve times as many shares -/
theorem Sf_step {on : Prop} {gn : Nat} (S : Nat → Nat) : sumN 720 (fun j => sumN 720 (shI mk kd v on gn S j)) ≤ 12 * sumN 720 S := by
  rw [← sumN_mul, sumN_swap]
  refine sumN_le 720 (fun i hi => ?_)
  have hX : sumN 720 (fun j => shI mk kd v on gn S j i) ≤ wys mk kd v on gn (i / 20) (i / 5 % 4) (i % 5) * (S i * (12 / wys mk kd v on gn (i / 20) (i / 5 % 4) (i % 5))) := by
    unfold shI shS
    rw [psi_i, sumN_swap, wys, ← sumN_mulr]
    refine sumN_le 6 (fun a ha => ?_)
    rw [sumN_mulr]
    refine Nat.mul_le_mul_right _ ?_
    by_cases hm : may mk kd v on gn (i / 20) (i / 5 % 4) (i % 5) a
    · have ht : psi (tc kd (i / 20) (i / 5 % 4) (i % 5) a) (tf (i / 5 % 4) a) (tw kd (i / 5 % 4) (i % 5) a) < 720 := psi_lt (tc_lt (by omega) (by omega) (by omega) hm) (tf_lt (by omega)) (tw_lt (by omega) (by omega))
      rw [sumN_one 720 _ ht (fun x _ hx => eB_f (fun h2 => hx h2.2.symm)), eB_t ⟨hm, rfl⟩, eB_t hm]
      exact Nat.le_refl 1
    · rw [sumN_0 720 (fun x _ => eB_f (fun h2 => hm h2.1))]
      exact Nat.zero_le _
  refine Nat.le_trans hX ?_
  rw [Nat.mul_comm (S i), ← Nat.mul_assoc]
  exact Nat.mul_le_mul_right _ (Nat.mul_div_le _ _)
theorem Sf_sum {i0 : Nat} : ∀ t : Nat, sumN 720 (Sf mk kd v onN bk b0 g0 i0 t) ≤ 12 ^ t
  | 0 => by
    show sumN 720 (fun j => eB (j = i0)) ≤ 1
    by_cases h : i0 < 720
    · rw [sumN_one 720 i0 h (fun x _ hx => eB_f hx)]; exact eB_le1 _
    · rw [sumN_0 720 (fun x hx => eB_f (fun h2 : x = i0 => h (by omega)))]; exact Nat.zero_le 1
  | t + 1 => by
    rw [Nat.pow_succ, Nat.mul_comm]
    exact Nat.le_trans (Sf_step _) (Nat.mul_le_mul_left 12 (Sf_sum t))
theorem Sf_le {i0 t i : Nat} (hi : i < 720) : Sf mk kd v onN bk b0 g0 i0 t i ≤ 12 ^ t := Nat.le_trans (sumN_mem 720 i hi) (Sf_sum t)
/-- the weights are the shares, five times as many a beat -/
theorem Wt_Sf {c0 f0 w0 : Nat} (hv0 : vld c0 f0 w0) : ∀ t : Nat, (∀ c f w : Nat, vld c f w → Wt mk kd v onN bk b0 g0 (fun c2 f2 w2 => c2 = c0 ∧ f2 = f0 ∧ w2 = w0) t c f w = 5 ^ t * Sf mk kd v onN bk b0 g0 (psi c0 f0 w0) t (psi c f w)) ∧ (∀ c f w : Nat, f < 4 → w < 5 → ¬ ok c w → Sf mk kd v onN bk b0 g0 (psi c0 f0 w0) t (psi c f w) = 0)
  | 0 => by
    refine ⟨fun c f w hv => ?_, fun c f w hf hw hk => ?_⟩
    · show eB (c = c0 ∧ f = f0 ∧ w = w0) = 1 * eB (psi c f w = psi c0 f0 w0)
      rw [Nat.one_mul]
      exact eB_iff ⟨fun h => by rw [h.1, h.2.1, h.2.2], fun h => psi_inj hv.2.1 hv.2.2.1 hv0.2.1 hv0.2.2.1 h⟩
    · refine eB_f (fun h => hk ?_)
      obtain ⟨rfl, rfl, rfl⟩ := psi_inj hf hw hv0.2.1 hv0.2.2.1 h
      exact hv0.2.2.2
  | t + 1 => by
    obtain ⟨ih1, ih2⟩ := Wt_Sf hv0 t
    refine ⟨fun c f w hv => ?_, fun c f w hf hw hk => ?_⟩
    · show sumN (144 * 36) (wtI mk kd v ((b0 + t) % (onN + bk) < onN) (g0 + t) (Wt mk kd v onN bk b0 g0 _ t) (phi c f w)) = 5 ^ (t + 1) * sumN (144 * 5) (shI mk kd v ((b0 + t) % (onN + bk) < onN) (g0 + t) (Sf mk kd v onN bk b0 g0 (psi c0 f0 w0) t) (psi c f w))
      rw [sumN_block 36, sumN_block 5, ← sumN_mul]
      refine sumN_congr 144 (fun x hx => ?_)
      have e1 : sumN 36 (fun k => wtI mk kd v ((b0 + t) % (onN + bk) < onN) (g0 + t) (Wt mk kd v onN bk b0 g0 (fun c2 f2 w2 => c2 = c0 ∧ f2 = f0 ∧ w2 = w0) t) (phi c f w) (x * 36 + k)) = sumN 36 (fun k => sumN 5 (fun w' => eB (ok (x / 4) w' ∧ nxc (x / 4) w' = k) * wtS mk kd v ((b0 + t) % (onN + bk) < onN) (g0 + t) (Wt mk kd v onN bk b0 g0 (fun c2 f2 w2 => c2 = c0 ∧ f2 = f0 ∧ w2 = w0) t) (phi c f w) (x / 4) (x % 4) w' 6)) := sumN_congr 36 (fun k hk => by
        unfold wtI
        rw [show (x * 36 + k) / 36 = x by omega, show (x * 36 + k) % 36 = k by omega])
      rw [e1, sumN_re (by omega), ← sumN_mul]
      refine sumN_congr 5 (fun w' hw' => ?_)
      unfold shI
      rw [show (x * 5 + w') / 20 = x / 4 by omega, show (x * 5 + w') / 5 % 4 = x % 4 by omega, show (x * 5 + w') % 5 = w' by omega]
      by_cases hk : ok (x / 4) w'
      · have hv1 : vld (x / 4) (x % 4) w' := ⟨by omega, by omega, hw', hk⟩
        rw [eB_t hk, Nat.one_mul]
        unfold wtS shS
        rw [← sumN_mul]
        refine sumN_congr 6 (fun a ha => ?_)
        rw [ih1 _ _ _ hv1, q60 (wys_le (by omega)), Nat.pow_succ]
        have e2 : eB (may mk kd v ((b0 + t) % (onN + bk) < onN) (g0 + t) (x / 4) (x % 4) w' a ∧ phi (tc kd (x / 4) (x % 4) w' a) (tf (x % 4) a) (tw kd (x % 4) w' a) = phi c f w) = eB (may mk kd v ((b0 + t) % (onN + bk) < onN) (g0 + t) (x / 4) (x % 4) w' a ∧ psi (tc kd (x / 4) (x % 4) w' a) (tf (x % 4) a) (tw kd (x % 4) w' a) = psi c f w) := eB_iff (and_congr_right (fun hm => by
          have hv2 := tgt_vld hv1 hm
          constructor
          · intro h; obtain ⟨q1, q2, q3⟩ := phi_inj hv2 hv h; rw [q1, q2, q3]
          · intro h; obtain ⟨q1, q2, q3⟩ := psi_inj hv2.2.1 hv2.2.2.1 hv.2.1 hv.2.2.1 h; rw [q1, q2, q3]))
        rw [e2]
        simp only [Nat.mul_assoc, Nat.mul_comm, Nat.mul_left_comm]
      · rw [eB_f hk, Nat.zero_mul, shS_0 6 (ih2 _ _ _ (by omega) hw' hk), Nat.mul_zero]
    · refine sumN_0 720 (fun i hi => ?_)
      unfold shI
      by_cases hk1 : ok (i / 20) (i % 5)
      · have hv1 : vld (i / 20) (i / 5 % 4) (i % 5) := ⟨by omega, by omega, by omega, hk1⟩
        unfold shS
        refine sumN_0 6 (fun a _ => ?_)
        rw [eB_f (fun hq => hk ?_), Nat.zero_mul]
        have hv2 := tgt_vld hv1 hq.1
        obtain ⟨q1, q2, q3⟩ := psi_inj hv2.2.1 hv2.2.2.1 hf hw hq.2
        rw [← q1, ← q3]; exact hv2.2.2.2
      · exact shS_0 6 (ih2 _ _ _ (by omega) (by omega) hk1)
/-- what the reference's rows hold behind t beats -/
noncomputable def Wr (mk : Nat → Nat → Prop) (kd v onN bk b0 g0 c0 f0 w0 : Nat) : Nat → Nat → Nat
  | 0 => fun j => eB (j = phi c0 f0 w0)
  | t + 1 => fun j => sumN 5184 (wtI mk kd v ((b0 + t) % (onN + bk) < onN) (g0 + t) (Wt mk kd v onN bk b0 g0 (fun c2 f2 w2 => c2 = c0 ∧ f2 = f0 ∧ w2 = w0) t) j)
theorem Wr_phi {c0 f0 w0 c f w : Nat} (hv0 : vld c0 f0 w0) (hv : vld c f w) (t : Nat) : Wr mk kd v onN bk b0 g0 c0 f0 w0 t (phi c f w) = Wt mk kd v onN bk b0 g0 (fun c2 f2 w2 => c2 = c0 ∧ f2 = f0 ∧ w2 = w0) t c f w := by
  match t with
  | 0 => exact eB_iff ⟨fun h => phi_inj hv hv0 h, fun h => by rw [h.1, h.2.1, h.2.2]⟩
  | t + 1 => rfl
theorem Wr_no {c0 f0 w0 j : Nat} (hv0 : vld c0 f0 w0) (hj : ∀ c f w : Nat, vld c f w → ¬ j = phi c f w) (t : Nat) : Wr mk kd v onN bk b0 g0 c0 f0 w0 t j = 0 := by
  match t with
  | 0 => exact eB_f (hj c0 f0 w0 hv0)
  | t + 1 =>
    refine sumN_0 5184 (fun i hi => ?_)
    unfold wtI
    refine sumN_0 5 (fun w hw => ?_)
    by_cases hk : ok (i / 36 / 4) w ∧ nxc (i / 36 / 4) w = i % 36
    · have hv1 : vld (i / 36 / 4) (i / 36 % 4) w := ⟨by omega, by omega, hw, hk.1⟩
      rw [show wtS mk kd v ((b0 + t) % (onN + bk) < onN) (g0 + t) (Wt mk kd v onN bk b0 g0 (fun c2 f2 w2 => c2 = c0 ∧ f2 = f0 ∧ w2 = w0) t) j (i / 36 / 4) (i / 36 % 4) w 6 = 0 from sumN_0 6 (fun a _ => by
        rw [eB_f (fun hq => hj _ _ _ (tgt_vld hv1 hq.1) hq.2.symm), Nat.zero_mul]), Nat.mul_zero]
    · rw [eB_f hk, Nat.zero_mul]
/-- the two sums for a cell -/
theorem lot_sum {c0 f0 w0 c : Nat} (hv0 : vld c0 f0 w0) (hc : c < 36) (t : Nat) : sumN 144 (fun k => Wr mk kd v onN bk b0 g0 c0 f0 w0 t (144 * c + k)) = 5 ^ t * sumN 720 (fun i => eB (i / 20 = c) * Sf mk kd v onN bk b0 g0 (psi c0 f0 w0) t i) := by
  obtain ⟨h1, h2⟩ := Wt_Sf (mk := mk) (kd := kd) (v := v) (onN := onN) (bk := bk) (b0 := b0) (g0 := g0) hv0 t
  have eA : sumN 720 (fun i => eB (i / 20 = c) * Sf mk kd v onN bk b0 g0 (psi c0 f0 w0) t i) = sumN 4 (fun f => sumN 5 (fun w => Sf mk kd v onN bk b0 g0 (psi c0 f0 w0) t (psi c f w))) := by
    rw [show (720 : Nat) = 36 * 20 from rfl, sumN_block 20, sumN_one 36 c hc (fun x _ hx => sumN_0 20 (fun k hk => by rw [eB_f (by omega), Nat.zero_mul])), show (20 : Nat) = 4 * 5 from rfl, sumN_block 5]
    refine sumN_congr 4 (fun f hf => sumN_congr 5 (fun w hw => ?_))
    rw [eB_t (by omega), Nat.one_mul]
    exact congrArg _ (by unfold psi; omega)
  rw [eA, ← sumN_mul, show (144 : Nat) = 4 * 36 from rfl, sumN_block 36]
  refine sumN_congr 4 (fun f hf => ?_)
  have e1 : sumN 36 (fun k => Wr mk kd v onN bk b0 g0 c0 f0 w0 t (4 * 36 * c + (f * 36 + k))) = sumN 36 (fun k => sumN 5 (fun w => eB (ok c w ∧ nxc c w = k) * Wt mk kd v onN bk b0 g0 (fun c2 f2 w2 => c2 = c0 ∧ f2 = f0 ∧ w2 = w0) t c f w)) := sumN_congr 36 (fun k hk => by
    by_cases hx : ∃ w : Nat, w < 5 ∧ ok c w ∧ nxc c w = k
    · obtain ⟨w, w1, w2, w3⟩ := hx
      have hv : vld c f w := ⟨hc, hf, w1, w2⟩
      rw [sumN_one 5 w w1 (fun x hx hne => by rw [eB_f (fun q => hne (nx_inj hc hx w1 q.1 w2 (q.2.trans w3.symm))), Nat.zero_mul]), eB_t ⟨w2, w3⟩, Nat.one_mul, ← Wr_phi hv0 hv]
      exact congrArg _ (by unfold phi; omega)
    · rw [sumN_0 5 (fun w hw => by rw [eB_f (fun q => hx ⟨w, hw, q⟩), Nat.zero_mul]), Wr_no hv0 (fun c1 f1 w1 hv1 he => hx ?_)]
      have q1 := phi_c hv1
      have q3 := phi_w hv1
      rw [← he] at q1 q3
      have e9 : c1 = c := by omega
      subst e9
      exact ⟨w1, hv1.2.2.1, hv1.2.2.2, by omega⟩)
  rw [e1, sumN_re hc, ← sumN_mul]
  refine sumN_congr 5 (fun w hw => ?_)
  by_cases hk : ok c w
  · rw [eB_t hk, Nat.one_mul, h1 c f w ⟨hc, hf, hw, hk⟩]
  · rw [eB_f hk, Nat.zero_mul, h2 c f w hf hw hk, Nat.mul_zero]
end Shares
