section Steps6
variable {p : Program} {l : Launch} {e : Env} {R : Room} {s : State} {m : MethodId} {args : Array Value} {below : List Frame} {meth : Method} {c : Code} {X : CX} {k n0 : Nat} {Q : State → Prop}
variable {pc pc' len j x : Nat} {ls ls' st st' : List Value} {M M' : MM} {cf' : CF}
theorem s_icc0 {cnd : ClassFile.Cond} {off : Int} {y : Int32} {r : List Value} (F : FR X k n0 p R s m meth c args) (hd : decode (cod k) pc = .ok (.ifCond cnd off, 3)) (hp : 0 ≤ (pc : Int) + off)
    (K : SC p l e R s m args below meth c X k n0 Q (icc cnd y 0 (jmp pc off) (pc + 3), ls, r, M)) : SC p l e R s m args below meth c X k n0 Q (pc, ls, .int y :: r, M) := by
  intro H sl locs h1 h2 h3 h4 h5
  have kk := icc_row (P := fun q => W p l e R s m args below meth c H locs (mN M - n0) (slN (mN M) - slN n0) Q (F0 m q sl (r.map (rv X)))) (K H sl locs h1 h2 ⟨h3.1, vk1 h3.2⟩ h4 h5)
  cases cnd with
  | eq => exact lv_if_eq F.1.1 F.1.2.1 hd (jmp_eq hp) kk.1 kk.2
  | ne => exact lv_if_ne F.1.1 F.1.2.1 hd (jmp_eq hp) kk.1 (fun q => kk.2 (fun h => h q))
  | lt => exact lv_if_lt F.1.1 F.1.2.1 hd (jmp_eq hp) kk.1 kk.2
  | ge => exact lv_if_ge F.1.1 F.1.2.1 hd (jmp_eq hp) kk.1 kk.2
  | gt => exact lv_if_gt F.1.1 F.1.2.1 hd (jmp_eq hp) kk.1 kk.2
  | le => exact lv_if_le F.1.1 F.1.2.1 hd (jmp_eq hp) kk.1 kk.2
theorem s_icc {cnd : ClassFile.Cond} {off : Int} {y z : Int32} {r : List Value} (F : FR X k n0 p R s m meth c args) (hd : decode (cod k) pc = .ok (.if_icmp cnd off, 3)) (hp : 0 ≤ (pc : Int) + off)
    (K : SC p l e R s m args below meth c X k n0 Q (icc cnd y z (jmp pc off) (pc + 3), ls, r, M)) : SC p l e R s m args below meth c X k n0 Q (pc, ls, .int z :: .int y :: r, M) := by
  intro H sl locs h1 h2 h3 h4 h5
  have kk := icc_row (P := fun q => W p l e R s m args below meth c H locs (mN M - n0) (slN (mN M) - slN n0) Q (F0 m q sl (r.map (rv X)))) (K H sl locs h1 h2 ⟨h3.1, vk2 h3.2⟩ h4 h5)
  cases cnd with
  | eq => exact lv_icmp_eq F.1.1 F.1.2.1 hd (jmp_eq hp) kk.1 kk.2
  | ne => exact lv_icmp_ne F.1.1 F.1.2.1 hd (jmp_eq hp) kk.1 (fun q => kk.2 (fun h => h q))
  | lt => exact lv_icmp_lt F.1.1 F.1.2.1 hd (jmp_eq hp) kk.1 kk.2
  | ge => exact lv_icmp_ge F.1.1 F.1.2.1 hd (jmp_eq hp) kk.1 kk.2
  | gt => exact lv_icmp_gt F.1.1 F.1.2.1 hd (jmp_eq hp) kk.1 kk.2
  | le => exact lv_icmp_le F.1.1 F.1.2.1 hd (jmp_eq hp) kk.1 kk.2
theorem s_stI {pq : Nat} (F : FR X k n0 p R s m meth c args) (row : ∀ {H : Heap} {locs : List Loc} {cells slots : Nat} {sl : Array Slot} {rest : List Value} {y : Int32} {lv lv' : List (Nat × Value)}, lv_has sl (mlo k) lv → j < mlo k → (j, Value.int y) :: lv.filter (fun q => !(q.1 == j) && !(q.1 + 1 == j && q.2.category == 2)) = lv' → (∀ sl', lv_has sl' (mlo k) lv' → W p l e R s m args below meth c H locs cells slots Q (F0 m pq sl' rest)) → W p l e R s m args below meth c H locs cells slots Q (F0 m pc sl (.int y :: rest)))
    (ho : stI pq j ls st M = some (.inl cf')) (K : SC p l e R s m args below meth c X k n0 Q cf') : SC p l e R s m args below meth c X k n0 Q (pc, ls, st, M) := by
  unfold stI at ho
  split at ho
  · split at ho
    · rename_i hj
      cases ho
      exact s_st1 F rfl hj row K
    · cases ho
  · cases ho
theorem s_stL {pq : Nat} (F : FR X k n0 p R s m meth c args) (row : ∀ {H : Heap} {locs : List Loc} {cells slots : Nat} {sl : Array Slot} {rest : List Value} {y : Int64} {lv lv' : List (Nat × Value)}, lv_has sl (mlo k) lv → j + 1 < mlo k → (j, Value.long y) :: lv.filter (fun q => !(q.1 == j) && (!(q.1 == j + 1) && !(q.1 + 1 == j && q.2.category == 2))) = lv' → (∀ sl', lv_has sl' (mlo k) lv' → W p l e R s m args below meth c H locs cells slots Q (F0 m pq sl' rest)) → W p l e R s m args below meth c H locs cells slots Q (F0 m pc sl (.long y :: rest)))
    (ho : stL pq j ls st M = some (.inl cf')) (K : SC p l e R s m args below meth c X k n0 Q cf') : SC p l e R s m args below meth c X k n0 Q (pc, ls, st, M) := by
  unfold stL at ho
  split at ho
  · split at ho
    · rename_i hj
      cases ho
      exact s_st2 F hj row K
    · cases ho
  · cases ho
theorem s_stA {pq : Nat} (F : FR X k n0 p R s m meth c args) (row : ∀ {H : Heap} {locs : List Loc} {cells slots : Nat} {sl : Array Slot} {rest : List Value} {y : Nat} {lv lv' : List (Nat × Value)}, lv_has sl (mlo k) lv → j < mlo k → (j, Value.ref y) :: lv.filter (fun q => !(q.1 == j) && !(q.1 + 1 == j && q.2.category == 2)) = lv' → (∀ sl', lv_has sl' (mlo k) lv' → W p l e R s m args below meth c H locs cells slots Q (F0 m pq sl' rest)) → W p l e R s m args below meth c H locs cells slots Q (F0 m pc sl (.ref y :: rest)))
    (rowN : ∀ {H : Heap} {locs : List Loc} {cells slots : Nat} {sl : Array Slot} {rest : List Value} {lv lv' : List (Nat × Value)}, lv_has sl (mlo k) lv → j < mlo k → (j, Value.null) :: lv.filter (fun q => !(q.1 == j) && !(q.1 + 1 == j && q.2.category == 2)) = lv' → (∀ sl', lv_has sl' (mlo k) lv' → W p l e R s m args below meth c H locs cells slots Q (F0 m pq sl' rest)) → W p l e R s m args below meth c H locs cells slots Q (F0 m pc sl (.null :: rest)))
    (ho : stA pq j ls st M = some (.inl cf')) (K : SC p l e R s m args below meth c X k n0 Q cf') : SC p l e R s m args below meth c X k n0 Q (pc, ls, st, M) := by
  unfold stA at ho
  split at ho
  · split at ho
    · rename_i hj
      cases ho
      exact s_st1 F rfl hj row K
    · cases ho
  · split at ho
    · rename_i hj
      cases ho
      exact s_st1 F rfl hj rowN K
    · cases ho
  · cases ho
theorem s_iinc {n : Int} (F : FR X k n0 p R s m meth c args) (hd : decode (cod k) pc = .ok (.iinc j n, 3)) (ho : opI k (.iinc j n) 3 pc ls st M = some (.inl cf')) (K : SC p l e R s m args below meth c X k n0 Q cf') : SC p l e R s m args below meth c X k n0 Q (pc, ls, st, M) := by
  simp only [opI] at ho
  split at ho
  · rename_i y hy
    cases ho
    intro H sl locs h1 h2 h3 h4 h5
    have h1' : ls.length = mlo k := h1
    have hj : j < ls.length := (List.getElem?_eq_some_iff.mp hy).1
    obtain ⟨q, hq⟩ := List.getElem?_of_mem (asc_mem (X := X) (ls := ls) (q := (j, .int y)).mpr ⟨.int y, hy, (by intro q; cases q), rfl⟩)
    refine lv_iinc F.1.1 F.1.2.1 hd h2 hq rfl (h1' ▸ hj) rfl (fun sl' h6 => ?_)
    exact K H sl' locs ((st1_len ls j _).trans h1') (lv_weak h6 (asc_st1 (hO_of F) hj)) ⟨vok_st1 h3.1 trivial, h3.2⟩ h4 h5
  · cases ho
theorem s_inv {kind : Nat} (F : FR X k n0 p R s m meth c args) (hn : n0 ≤ mN M) (hroom : mN M - n0 ≤ R.cells ∧ slN (mN M) - slN n0 ≤ R.slots) (hk : (kind = 1 → decode (cod k) pc = .ok (.invokestatic x, 3)) ∧ (kind = 2 → decode (cod k) pc = .ok (.invokespecial x, 3)))
    (ho : ivk kind k x pc ls st M = some (.inl cf')) (K : SC p l e R s m args below meth c X k n0 Q cf') : SC p l e R s m args below meth c X k n0 Q (pc, ls, st, M) := by
  unfold ivk at ho
  split at ho
  · cases ho
  · rename_i k' hq
    split at ho
    · rename_i e1
      subst e1
      split at ho
      · split at ho
        · rename_i hc
          cases ho
          exact s_objI F (hk.2 hc.1) hq hc.2 K
        · cases ho
      · cases ho
    · split at ho
      · rename_i e1
        subst e1
        split at ho
        · rename_i hc
          exact s_acpy F hn (hk.1 hc) hq ho K
        · cases ho
      · split at ho
        · rename_i e1
          subst e1
          split at ho
          · split at ho
            · rename_i hc
              cases ho
              exact (s_math F hn hroom (hk.1 hc.1) hc.2).1 _ hq K
            · cases ho
          · cases ho
        · split at ho
          · rename_i e1
            subst e1
            split at ho
            · split at ho
              · rename_i hc
                cases ho
                exact (s_math F hn hroom (hk.1 hc.1) hc.2).2.1 _ _ hq K
              · cases ho
            · cases ho
          · split at ho
            · rename_i e1
              subst e1
              split at ho
              · split at ho
                · rename_i hc
                  cases ho
                  exact (s_math F hn hroom (hk.1 hc.1) hc.2).2.2 _ _ hq K
                · cases ho
              · cases ho
            · split at ho
              · split at ho
                · cases ho
                · cases ho
              · cases ho
end Steps6
