/-! ===== 71: what stands once both are made; the run of the law ===== -/
theorem inv_BL {MZ M : MM} (hb : BL MZ M 101 gF giF) : INV MZ 0 M := by
  obtain ⟨b1, ⟨b2, b3⟩, b4, b5, b6, b7, b8, b9⟩ := hb
  have hr : ∀ a k : Nat, (21 ≤ a ∧ a < 101 ∧ ¬ (29 ≤ a ∧ a ≤ 32)) → ∀ v : Option Nat, lkg gF a k = v → mR M a k = v := fun a k h v hv => (b4 a k h.1 h.2.1 h.2.2).trans hv
  have hi : ∀ a k : Nat, (21 ≤ a ∧ a < 101 ∧ ¬ (29 ≤ a ∧ a ≤ 32)) → ∀ v : Int32, lki giF a k = v → mI M a k = v := fun a k h v hv => (b5 a k h.1 h.2.1 h.2.2).trans hv
  have hd : ∀ t ∈ ptC, (21 ≤ t.1 ∧ t.1 < 101 ∧ ¬ (29 ≤ t.1 ∧ t.1 ≤ 32)) ∧ lkg gF t.1 t.2.1 = some t.2.2 := by decide +kernel
  have hm : ∀ t ∈ ptM, lkg gF 82 t.1 = some t.2 := by decide +kernel
  have ht : ∀ t : Nat, t < 6 → lki giF 99 t = 0 ∧ lki giF (70 + 2 * t) 1 = -1 ∧ lki giF (70 + 2 * t) 2 = 0 := by decide +kernel
  refine ⟨fun t h => hr t.1 t.2.1 (hd t h).1 _ (hd t h).2, fun t h => hr 82 t.1 (by omega) _ (hm t h), ⟨⟨59, 60, ?_, ?_, ?_, Or.inl ⟨rfl, rfl⟩⟩, ⟨63, 64, ?_, ?_, ?_, Or.inl ⟨rfl, rfl⟩⟩, ⟨67, 68, ?_, ?_, ?_, Or.inl ⟨rfl, rfl⟩⟩⟩, b3, ⟨0, ⟨by decide, ?_, ?_, b1, b9 (by decide), fun i h => absurd h (Nat.not_lt_zero i)⟩, ⟨Or.inl ⟨?_, ?_⟩, ⟨0, by decide, ?_, ?_, fun w h => absurd h (Nat.not_lt_zero w)⟩, ⟨0, by decide, ?_, ?_, fun w h => absurd h (Nat.not_lt_zero w)⟩, ⟨0, by decide, ?_, ?_, fun w h => absurd h (Nat.not_lt_zero w)⟩⟩, false, ?_, ?_, fun h => by cases h⟩, ⟨0, by decide, ?_, ?_, fun w h => absurd h (Nat.not_lt_zero w)⟩, ⟨0, by decide, ?_, ?_, fun w h => absurd h (Nat.not_lt_zero w)⟩, fun t h => Or.inl ⟨hi 99 t (by omega) _ (ht t h).1, hi (70 + 2 * t) 1 (by omega) _ (ht t h).2.1, hi (70 + 2 * t) 2 (by omega) _ (ht t h).2.2⟩⟩
  all_goals first
    | exact hr _ _ (by omega) _ (by decide +kernel)
    | exact hi _ _ (by omega) _ (by decide +kernel)
theorem BL_0 (L : Nat) (xs : Nat → Int32) : BL (M0 L xs) (M0 L xs) 21 [] [] :=
  ⟨rfl, ⟨by decide, fun a _ => ⟨rfl, rfl⟩⟩, fun a k h1 h2 _ => absurd h2 (by omega), fun a k h1 h2 _ => absurd h2 (by omega), fun a k h1 h2 _ => absurd h2 (by omega), fun e h => absurd h List.not_mem_nil, fun e h => absurd h List.not_mem_nil, fun h => absurd h (by omega)⟩
theorem StrZ_0 (L : Nat) (xs : Nat → Int32) : StrZ (M0 L xs) := by
  intro s hs
  refine ⟨?_, ?_, fun k => ?_⟩
  · show (if (1 ≤ s + 1 ∧ s + 1 < 11) ∧ 0 = 0 then some (s + 1 + 10) else none) = _
    rw [if_pos (by omega)]
  · show (if s + 1 = 0 then (if 1 < L then xs 1 else 0) else if s + 1 = 1 then (if 1 = 0 then Int32.ofNat L else 0) else if 11 ≤ s + 1 ∧ s + 1 < 21 then (strB.getD (s + 1 - 11) []).getD 1 0 else 0) = 0
    rw [if_neg (by omega)]
    by_cases h : s + 1 = 1
    · rw [if_pos h, if_neg (by decide)]
    · rw [if_neg h, if_neg (by omega)]
  · show (if s + 11 = 0 then (if k < L then xs k else 0) else if s + 11 = 1 then (if k = 0 then Int32.ofNat L else 0) else if 11 ≤ s + 11 ∧ s + 11 < 21 then (strB.getD (s + 11 - 11) []).getD k 0 else 0) = _
    rw [if_neg (by omega), if_neg (by omega), if_pos (by omega), show s + 11 - 11 = s by omega]
theorem law_run {L : Nat} {xs : Nat → Int32} (hL : L ≤ 3072) : CL 800 kL_law [.retAddr 2] (M0 L xs) (fun r M => r = some (.int 1) ∧ mN M ≤ 119) := by
  refine law_init (d := 719) (BL_0 L xs) (fun M hb => ?_)
  exact law_loop (d := 719) (StrZ_0 L xs) hL rfl (fun M' h => ⟨rfl, h⟩) 513 0 (by decide) (by omega) M (inv_BL hb)
