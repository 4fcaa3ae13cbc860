theorem pv_N {ty : FieldType} {M M' : MM} {a j : Nat} {v : Value} (h : pv ty M a j v = some M') : mN M' = mN M := by
  unfold pv at h
  split at h <;> first | (cases h; rfl) | (split at h <;> first | (cases h; rfl) | cases h) | cases h
set_option maxHeartbeats 4000000 in
theorem op_N {k len pc : Nat} {i : Instr} {ls st : List Value} {M : MM} {cf' : CF} (ho : opS k i len pc ls st M = some (.inl cf')) : mN M ≤ mN cf'.2.2.2 := by
  unfold opS at ho
  split at ho
  case isFalse => cases ho
  cases i <;> simp only [opI, ldA, ldI, ldL, stI, stL, stA, b2I, b2D, b2L, b2E, b2S, u1I, ivk, acpy, nx] at ho <;> (repeat' split at ho) <;> first | (cases ho; done) | (cases ho; exact Nat.le_refl _) | (cases ho; exact Nat.le_succ _) | (rename_i hpv; cases ho; exact Nat.le_of_eq (pv_N hpv).symm)
set_option maxHeartbeats 4000000 in
theorem op_call {k k' len pc pc' : Nat} {i : Instr} {ls ls' st as r : List Value} {M M' : MM} (ho : opS k i len pc ls st M = some (.inr (.inl (k', as, pc', ls', r, M')))) : ls' = ls ∧ M' = M ∧ k' < 224 ∧ (ea as).length ≤ mlo k' := by
  unfold opS at ho
  split at ho
  case isFalse => cases ho
  have main : ∀ kind ix, ivk kind k ix pc ls st M = some (.inr (.inl (k', as, pc', ls', r, M'))) → ls' = ls ∧ M' = M ∧ k' < 224 ∧ (ea as).length ≤ mlo k' := by
    intro kind ix hiv
    unfold ivk at hiv
    split at hiv
    · cases hiv
    · rename_i kk0 hq
      have hlt : kk0 < 224 ∨ (1000 ≤ kk0 ∧ kk0 ≤ 1004) := by
        have := List.all_eq_true.mp mth_lt _ (lookMem hq)
        simpa only [Bool.or_eq_true, Bool.and_eq_true, decide_eq_true_eq] using this
      simp only [acpy, nx] at hiv
      (repeat' split at hiv) <;> first | (cases hiv; done) | skip
      rename_i n1 n2 n3 n4 n5 hc _
      cases hiv
      exact ⟨rfl, rfl, by omega, hc.2.2.2.2.2⟩
  cases i with
  | invokevirtual ix => exact main 0 ix ho
  | invokestatic ix => exact main 1 ix ho
  | invokespecial ix => exact main 2 ix ho
  | _ => simp only [opI, ldA, ldI, ldL, stI, stL, stA, b2I, b2D, b2L, b2E, b2S, u1I, nx] at ho <;> (repeat' split at ho) <;> cases ho
set_option maxHeartbeats 4000000 in
theorem op_ret {k len pc : Nat} {i : Instr} {ls st : List Value} {M M' : MM} {v : Option Value} (ho : opS k i len pc ls st M = some (.inr (.inr (v, M')))) : M' = M := by
  unfold opS at ho
  split at ho
  case isFalse => cases ho
  cases i <;> simp only [opI, ldA, ldI, ldL, stI, stL, stA, b2I, b2D, b2L, b2E, b2S, u1I, ivk, acpy, nx] at ho <;> (repeat' split at ho) <;> first | (cases ho; done) | (cases ho; rfl)
theorem stp_dec {k : Nat} {cf : CF} {q : CF ⊕ ((Nat × List Value × Nat × List Value × List Value × MM) ⊕ (Option Value × MM))} (h : stp k cf = some q) : ∃ i len, decode (cod k) cf.1 = .ok (i, len) ∧ opS k i len cf.1 cf.2.1 cf.2.2.1 cf.2.2.2 = some q := by
  unfold stp at h
  split at h
  · rename_i r hr
    exact ⟨r.1, r.2, hr, h⟩
  · cases h
theorem run_N : ∀ (n d k : Nat) (cf : CF) (v : Option Value) (Mf : MM), run n d k cf = some (v, Mf) → mN cf.2.2.2 ≤ mN Mf := by
  intro n
  induction n with
  | zero => intro d k cf v Mf h; cases h
  | succ n ih =>
    intro d k cf v Mf h
    rw [run] at h
    cases hs : stp k cf with
    | none => rw [hs] at h; cases h
    | some q =>
      rw [hs] at h
      obtain ⟨i, len, hd, ho⟩ := stp_dec hs
      match q, h, ho with
      | .inl c', h, ho => exact Nat.le_trans (op_N ho) (ih _ _ _ _ _ h)
      | .inr (.inr (v, M)), h, ho =>
        cases h
        rw [op_ret ho]
        exact Nat.le_refl _
      | .inr (.inl (k', as, pc', ls, r, M)), h, ho =>
        cases d with
        | zero => cases h
        | succ d' =>
          dsimp only at h
          cases hc : run n d' k' (0, ent k' as, [], M) with
          | none => rw [hc] at h; cases h
          | some y =>
            rw [hc] at h
            obtain ⟨-, hM, -, -⟩ := op_call ho
            have h1 := ih _ _ _ y.1 y.2 hc
            have h2 := ih _ _ _ _ _ h
            dsimp only at h1 h2
            rw [← hM]
            exact Nat.le_trans h1 h2
theorem ea_lv {X : CX} (hO : xO X = .null ∨ ∃ a, xO X = .ref a) : ∀ (as : List Value) (i0 j : Nat) (v : Value), (ea as)[j]? = some v → v ≠ dm → (i0 + j, rv X v) ∈ lv_args i0 (as.map (rv X)) := by
  intro as
  induction as with
  | nil => intro i0 j v h; simp [ea] at h
  | cons a r ih =>
    intro i0 j v h hd
    rw [List.map_cons, lv_args, rv_cat hO]
    unfold ea at h
    by_cases hc : a.category = 2
    · rw [if_pos hc] at h ⊢
      match j, h with
      | 0, h => rw [List.getElem?_cons_zero] at h; cases h; exact List.mem_cons_self
      | 1, h => rw [List.getElem?_cons_succ, List.getElem?_cons_zero] at h; cases h; exact absurd rfl hd
      | j + 2, h =>
        rw [List.getElem?_cons_succ, List.getElem?_cons_succ] at h
        have := ih (i0 + 2) j v h hd
        refine List.mem_cons_of_mem _ ?_
        rwa [show i0 + (j + 2) = i0 + 2 + j by omega]
    · rw [if_neg hc] at h ⊢
      match j, h with
      | 0, h => rw [List.getElem?_cons_zero] at h; cases h; exact List.mem_cons_self
      | j + 1, h =>
        rw [List.getElem?_cons_succ] at h
        have := ih (i0 + 1) j v h hd
        refine List.mem_cons_of_mem _ ?_
        rwa [show i0 + (j + 1) = i0 + 1 + j by omega]
theorem ea_len {X : CX} (hO : xO X = .null ∨ ∃ a, xO X = .ref a) (as : List Value) : (lg_sl (as.map (rv X))).length = (ea as).length := by
  induction as with
  | nil => rfl
  | cons a r ih =>
    rw [List.map_cons]
    unfold ea
    simp only [lg_sl, List.flatMap_cons, List.length_append] at ih ⊢
    rw [rv_cat hO]
    by_cases hc : a.category = 2
    · rw [if_pos hc, if_pos hc, ih]; simp; omega
    · rw [if_neg hc, if_neg hc, ih]; simp; omega
theorem ent_len {k : Nat} {as : List Value} (h : (ea as).length ≤ mlo k) : (ent k as).length = mlo k := by
  unfold ent
  rw [List.length_append, List.length_replicate]
  omega
theorem ent_asc {X : CX} (hO : xO X = .null ∨ ∃ a, xO X = .ref a) {k : Nat} {as : List Value} : ∀ q ∈ asc X (ent k as), q ∈ lv_args 0 (as.map (rv X)) := by
  rintro ⟨j, w⟩ hq
  obtain ⟨v, h1, h2, h3⟩ := asc_mem.mp hq
  have h1' : (ent k as)[j]? = some v := h1
  have h3' : w = rv X v := h3
  unfold ent at h1'
  by_cases hj : j < (ea as).length
  · rw [List.getElem?_append_left hj] at h1'
    have := ea_lv hO as 0 j v h1' h2
    rwa [Nat.zero_add, ← h3'] at this
  · rw [List.getElem?_append_right (by omega)] at h1'
    have := List.mem_of_getElem? h1'
    exact absurd (List.eq_of_mem_replicate this) h2
theorem ea_vok {M : MM} {as : List Value} (h : ∀ v ∈ as, VOK M v) : ∀ v ∈ ea as, VOK M v := by
  induction as with
  | nil => intro v hv; cases hv
  | cons a r ih =>
    unfold ea
    split
    · exact vkc (h _ List.mem_cons_self) (vkc (by show 0 < 3; decide) (ih (vk1 h)))
    · exact vkc (h _ List.mem_cons_self) (ih (vk1 h))
theorem ent_vok {M : MM} {k : Nat} {as : List Value} (h : ∀ v ∈ as, VOK M v) : ∀ v ∈ ent k as, VOK M v := by
  intro v hv
  unfold ent at hv
  rcases List.mem_append.mp hv with g | g
  · exact ea_vok h v g
  · rw [List.eq_of_mem_replicate g]; show 0 < 3; decide
/-- a frame of method k runs as the small machine says -/
def FS (l : Launch) (X : CX) (d k : Nat) (cf : CF) (v : Option Value) (Mf : MM) : Prop := ∀ (p : Program) (e : Env) (R : Room) (s : State) (m : MethodId) (args : Array Value) (below : List Frame) (meth : Method) (c : Code) (n0 : Nat) (Q : State → Prop),
  FR X k n0 p R s m meth c args → n0 ≤ mN cf.2.2.2 → 21 ≤ mN cf.2.2.2 → (d + 1 ≤ R.frames ∧ 100 * (d + 1) ≤ R.locals) → (mN Mf - n0 ≤ R.cells ∧ slN (mN Mf) - slN n0 ≤ R.slots) →
  (∀ (pc len : Nat) (i : Instr) (ls st : List Value) (M : MM), decode (cod k) pc = .ok (i, len) → opS k i len pc ls st M = some (.inr (.inr (v, Mf))) → SC p l e R s m args below meth c X k n0 Q (pc, ls, st, M)) → SC p l e R s m args below meth c X k n0 Q cf
theorem KM_of {l : Launch} {X : CX} {d k : Nat} {as : List Value} {M Mf : MM} {v : Option Value} (hk : k < 224) (hea : (ea as).length ≤ mlo k) (h : FS l X d k (0, ent k as, [], M) v Mf) : KM l X d k as M v Mf := by
  obtain ⟨w1, w2, w3, w4, ⟨w5, w6, w7⟩, w8, w9, w10, w11⟩ := met_ok hk
  refine Met.ofW (cc := cod k) (maxL := mlo k) (ret := ret_ k) w9 rfl ?_
  intro p e s m args below meth c s₁ B hml hv
  obtain ⟨rfl, hOK, hR, hvok⟩ := hv
  have hts := atoms_spec (ws := wsK k) B.pre
  have F : FR X k (mN M) p (rmK d M Mf) s m meth c ((as.map (rv X)).toArray) := ⟨⟨B.exec, B.bytes, hml⟩, by rw [← w5]; exact findClass_of_methodNamed B.named, fun w hw => hts w (List.mem_cons_of_mem _ hw), hOK, fun hin => by rw [← hin]; exact (name_of_methodNamed B.named B.method).1, ⟨by show 1 ≤ d + 1; omega, by show 100 ≤ 100 * (d + 1); omega⟩, hR.1.2, hR.1.1⟩
  have hret := B.returns
  have hlocks := B.notSynchronized
  have hO := hO_of F
  have hS := h p e (rmK d M Mf) s m ((as.map (rv X)).toArray) below meth c (mN M) (MQ below (QcK X v Mf) ((as.map (rv X)).toArray) s (mN Mf - mN M) (slN (mN Mf) - slN (mN M)) (AB X)) F (Nat.le_refl _) hR.1.1 ⟨Nat.le_refl _, Nat.le_refl _⟩ ⟨Nat.le_refl _, Nat.le_refl _⟩ (fun pc len i ls st M1 hd ho => by
    obtain ⟨hM, hh⟩ := ret_sound (Qc := QcK X v Mf) (free := AB X) F hret hlocks hd ho (fun H t ht hR1 hW hv1 locs hS1 => by
      have hM := op_ret ho
      exact ⟨rfl, by rw [ht, hM]; exact hR1, fun r hr => by rw [hM]; exact hv1 r hr, hS1.F ht⟩) (fun _ h => h)
    subst hM
    exact hh)
  rw [lg_entry_eq]
  have hl := lv_entry (as.map (rv X)) (n := mlo k) (by rw [ea_len hO]; exact hea)
  have kk := hS s.heap _ [] (ent_len hea) (lv_weak hl (ent_asc hO)) ⟨ent_vok hvok, fun v hv => by cases hv⟩ hR va_S.rf
  dsimp only at kk
  rw [Nat.sub_self, Nat.sub_self] at kk
  exact kk
theorem frame_sound (l : Launch) (X : CX) : ∀ (n d k : Nat) (cf : CF) (v : Option Value) (Mf : MM), run n d k cf = some (v, Mf) → FS l X d k cf v Mf := by
  intro n
  induction n with
  | zero => intro d k cf v Mf h; cases h
  | succ n ih =>
    intro d k cf v Mf h p e R s m args below meth c n0 Q F hn h21 hR hroom hret
    have hN := run_N _ _ _ _ _ _ h
    rw [run] at h
    cases hs : stp k cf with
    | none => rw [hs] at h; cases h
    | some q =>
      rw [hs] at h
      obtain ⟨i, len, hd, ho⟩ := stp_dec hs
      have hm0 := slN_mono hN
      obtain ⟨pc, ls, st, M⟩ := cf
      match q, h, ho with
      | .inl c', h, ho =>
        have h1 := op_N ho
        have h2 := run_N _ _ _ _ _ _ h
        have hm1 := slN_mono h2
        dsimp only at hn h21 hm0 h1 hN
        exact step_sound F hn h21 ⟨by omega, by omega⟩ ⟨by omega, by omega⟩ hd ho (ih _ _ _ _ _ h p e R s m args below meth c n0 Q F (by omega) (by omega) hR hroom hret)
      | .inr (.inr (v', M')), h, ho =>
        cases h
        exact hret pc len i ls st M hd ho
      | .inr (.inl (k', as, pc', ls', r, M')), h, ho =>
        cases d with
        | zero => cases h
        | succ d' =>
          dsimp only at h
          cases hc : run n d' k' (0, ent k' as, [], M') with
          | none => rw [hc] at h; cases h
          | some y =>
            obtain ⟨v1, M1⟩ := y
            rw [hc] at h
            dsimp only at h
            obtain ⟨hls, hM, hk', hea⟩ := op_call ho
            subst hM
            subst hls
            have h1 := run_N _ _ _ _ _ _ hc
            have h2 := run_N _ _ _ _ _ _ h
            have hm1 := slN_mono h1
            have hm2 := slN_mono h2
            dsimp only at hn h21 hm0 h1 h2 hm1 hm2 hN
            exact call_sound F hn h1 ⟨by omega, by omega⟩ ⟨by omega, by omega⟩ hd ho (KM_of hk' hea (ih _ _ _ _ _ hc)) (ih _ _ _ _ _ h p e R s m args below meth c n0 Q F (by show n0 ≤ mN M1; omega) (by show 21 ≤ mN M1; omega) hR hroom hret)
