/-! ===== 67: the script's rows stand while a call runs ===== -/
def KPm (M M' : MM) : Prop := ∀ a : Nat, (TY a).1 = 99 ∨ (TY a).1 = 13 → mI M' a = mI M a
theorem KPm.refl (M : MM) : KPm M M := fun _ _ => rfl
theorem KPm.trans {M M1 M2 : MM} (h1 : KPm M M1) (h2 : KPm M1 M2) : KPm M M2 := fun a ha => (h2 a ha).trans (h1 a ha)
theorem KPm.sI {M : MM} {a k : Nat} {z : Int32} (h : ¬ (TY a).1 = 99 ∧ ¬ (TY a).1 = 13) : KPm M (sI M a k z) := fun b hb => rI_sI (fun e => by subst e; omega)
theorem KPm.nw {M : MM} (h : ¬ (TY (mN M)).1 = 99 ∧ ¬ (TY (mN M)).1 = 13) : KPm M (nw M) := fun b hb => funext fun j => by
  rw [mI_nw, if_neg (fun e => by subst e; omega)]
theorem KPm.cI {M : MM} {a i b j n : Nat} (h : ¬ (TY b).1 = 99 ∧ ¬ (TY b).1 = 13) : KPm M (cI M a i b j n) := fun x hx => funext fun y => by
  rw [mI_cI, if_neg (fun e => by have := e.1; subst this; omega)]
def KR (M : MM) : RS → Prop
  | none => True
  | some (.inl c) => KPm M c.2.2.2
  | some (.inr (.inl q)) => KPm M q.2.2.2.2.2
  | some (.inr (.inr q)) => KPm M q.2
theorem K_nx {M M' : MM} {pc : Nat} {ls st : List Value} (h : KPm M M') : KR M (nx pc ls st M') := h
theorem K_rt {M : MM} {v : Option Value} : KR M (some (.inr (.inr (v, M)))) := KPm.refl M
theorem K_cl {M : MM} {a b : Nat} {as ls r : List Value} : KR M (some (.inr (.inl (a, as, b, ls, r, M)))) := KPm.refl M
theorem K_pv {ty : FieldType} {M M' : MM} {a j : Nat} {v : Value} (h : ¬ (TY a).1 = 99 ∧ ¬ (TY a).1 = 13) (e : pv ty M a j v = some M') : KPm M M' := by
  unfold pv at e
  split at e
  · cases e; exact fun _ _ => rfl
  · cases e; exact KPm.sI h
  · split at e
    · cases e; exact KPm.sI h
    · cases e
  · cases e; exact fun _ _ => rfl
  · cases e; exact fun _ _ => rfl
  · cases e; exact fun _ _ => rfl
  · cases e; exact fun _ _ => rfl
  · cases e
theorem K_acpy {M : MM} (pc : Nat) (ls st : List Value) : KR M (acpy pc ls st M) := by
  unfold acpy
  split
  · split
    · split
      · rename_i h; exact K_nx (KPm.cI (by have := h.2; omega))
      · split
        · exact K_nx (fun _ _ => rfl)
        · exact trivial
    · exact trivial
  · exact trivial
theorem K_ivk {M : MM} (kind k idx pc : Nat) (ls st : List Value) : KR M (ivk kind k idx pc ls st M) := by
  unfold ivk
  repeat' split
  all_goals first | exact trivial | exact K_nx (KPm.refl _) | exact K_cl | exact K_acpy _ _ _
theorem tagA_n (t : ArrayType) : ¬ tagA t = 99 ∧ ¬ tagA t = 13 := by cases t <;> exact ⟨by decide, by decide⟩
theorem tagO_n (c : Nat) : ¬ tagO c = 99 ∧ ¬ tagO c = 13 := by
  unfold tagO
  split <;> exact ⟨by decide, by decide⟩
set_option maxHeartbeats 2000000 in
theorem K_opI {M : MM} (k : Nat) (i : Instr) (len pc : Nat) (ls st : List Value) : KR M (opI k i len pc ls st M) := by
  unfold opI
  split
  all_goals try simp only [ldA, ldI, ldL, stA, stI, stL, b2I, b2D, b2L, b2E, b2S, u1I]
  all_goals try exact K_ivk _ _ _ _ _ _
  all_goals repeat' split
  all_goals first
    | exact trivial
    | exact K_nx (KPm.refl _)
    | exact K_rt
    | exact K_nx (fun _ _ => rfl)
    | (rename_i h; exact K_nx (KPm.sI (by have := h.1; omega)))
    | (rename_i h _ _ e; exact K_nx (K_pv (by have := h.1; have := h.2.1; omega) e))
    | (rename_i h _ e; exact K_nx (K_pv (by have := h.1; have := h.2.1; omega) e))
    | (rename_i h; exact K_nx (KPm.nw (by have := h.1; rw [h.2]; omega)))
    | (rename_i h; exact K_nx (KPm.nw (by rw [h.2]; first | exact tagA_n _ | exact tagO_n _)))
theorem K_stp {k : Nat} (cf : CF) : KR cf.2.2.2 (stp k cf) := by
  unfold stp
  split
  · unfold opS
    split
    · exact K_opI _ _ _ _ _ _
    · exact trivial
  · exact trivial
theorem K_run : ∀ (n d k : Nat) (cf : CF) (r : Option Value) (M' : MM), run n d k cf = some (r, M') → KPm cf.2.2.2 M' := by
  intro n
  induction n with
  | zero => intro d k cf r M' h; cases h
  | succ n ih =>
    intro d k cf r M' h
    have hs := K_stp (k := k) cf
    unfold run at h
    cases hx : stp k cf with
    | none => rw [hx] at h; cases h
    | some z =>
      rw [hx] at h hs
      match z with
      | .inl c' => exact KPm.trans hs (ih d k c' r M' h)
      | .inr (.inl (k', as, pc', ls, rr, M1)) =>
        match d with
        | 0 => cases h
        | d' + 1 =>
          dsimp only at h
          cases hy : run n d' k' (0, ent k' as, [], M1) with
          | none => rw [hy] at h; cases h
          | some q =>
            rw [hy] at h
            obtain ⟨v, M2⟩ := q
            exact KPm.trans hs (KPm.trans (M1 := M2) (ih d' k' (0, ent k' as, [], M1) v M2 hy) (ih (d' + 1) k (pc', ls, v.toList ++ rr, M2) r M' h))
      | .inr (.inr (v, M1)) => cases h; exact hs
theorem K_CL {d k : Nat} {as : List Value} {M : MM} {Q : Option Value → MM → Prop} (h : CL d k as M Q) : CL d k as M (fun r M' => Q r M' ∧ KPm M M') := by
  obtain ⟨n, r, M', h1, h2⟩ := h
  exact ⟨n, r, M', h1, h2, K_run n d k _ r M' h1⟩
