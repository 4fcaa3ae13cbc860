/-! ===== an instruction of the small machine is the machine's ===== -/
theorem vk1 {α : Type} {P : α → Prop} {a : α} {r : List α} (h : ∀ v ∈ a :: r, P v) : ∀ v ∈ r, P v := fun v hv => h v (List.mem_cons_of_mem _ hv)
theorem vk2 {α : Type} {P : α → Prop} {a b : α} {r : List α} (h : ∀ v ∈ a :: b :: r, P v) : ∀ v ∈ r, P v := vk1 (vk1 h)
theorem vk3 {α : Type} {P : α → Prop} {a b c : α} {r : List α} (h : ∀ v ∈ a :: b :: c :: r, P v) : ∀ v ∈ r, P v := vk1 (vk2 h)
theorem vkc {α : Type} {P : α → Prop} {a : α} {r : List α} (ha : P a) (h : ∀ v ∈ r, P v) : ∀ v ∈ a :: r, P v := List.forall_mem_cons.mpr ⟨ha, h⟩
def FR (X : CX) (k n0 : Nat) (p : Program) (R : Room) (s : State) (m : MethodId) (meth : Method) (c : Code) (args : Array Value) : Prop := (p.tables.exec = Jvm.exec ∧ c.code = cod k ∧ c.maxLocals = mlo k) ∧ s.vm.findClass (oN (own_ k)) = some m.cls ∧ (∀ w ∈ wsG, w.before args s = true) ∧ OKU X s ∧ ((nam k).name = "<init>" → meth.name = "<init>") ∧ (1 ≤ R.frames ∧ 100 ≤ R.locals) ∧ (s.heap.size = xB X + (n0 - 21) ∧ 21 ≤ n0)
def SC (p : Program) (l : Launch) (e : Env) (R : Room) (s : State) (m : MethodId) (args : Array Value) (below : List Frame) (meth : Method) (c : Code) (X : CX) (k n0 : Nat) (Q : State → Prop) (cf : CF) : Prop :=
  ∀ (H : Heap) (sl : Array Slot) (locs : List Loc), cf.2.1.length = mlo k → lv_has sl (mlo k) (asc X cf.2.1) → ((∀ v ∈ cf.2.1, VOK cf.2.2.2 v) ∧ (∀ v ∈ cf.2.2.1, VOK cf.2.2.2 v)) → REL X cf.2.2.2 H → va_S (AB X) s.heap H locs →
    W p l e R s m args below meth c H locs (mN cf.2.2.2 - n0) (slN (mN cf.2.2.2) - slN n0) Q (F0 m cf.1 sl (cf.2.2.1.map (rv X)))
section Steps
variable {p : Program} {l : Launch} {e : Env} {R : Room} {s : State} {m : MethodId} {args : Array Value} {below : List Frame} {meth : Method} {c : Code} {X : CX} {k n0 : Nat} {Q : State → Prop}
variable {pc pc' len j x : Nat} {ls ls' st st' : List Value} {M M' : MM} {cf' : CF}
theorem hO_of (F : FR X k n0 p R s m meth c args) : xO X = .null ∨ ∃ a, xO X = .ref a := F.2.2.2.1.2.2.2.2.2.2
theorem len_of {i len n : Nat} (h : (i == n) = true) : i = n := by simpa using h
-- arithmetic
theorem s_b2I {f : Int32 → Int32 → Int32} (row : ∀ {H : Heap} {locs : List Loc} {cells slots : Nat} {sl : Array Slot} {rest : List Value} {x y : Int32}, W p l e R s m args below meth c H locs cells slots Q (F0 m (pc + 1) sl (.int (f x y) :: rest)) → W p l e R s m args below meth c H locs cells slots Q (F0 m pc sl (.int y :: .int x :: rest)))
    (ho : b2I f pc ls st M = some (.inl cf')) (K : SC p l e R s m args below meth c X k n0 Q cf') : SC p l e R s m args below meth c X k n0 Q (pc, ls, st, M) := by
  unfold b2I at ho
  split at ho
  · cases ho
    intro H sl locs h1 h2 h3 h4 h5
    exact row (K H sl locs h1 h2 ⟨h3.1, vkc trivial (vk2 h3.2)⟩ h4 h5)
  · cases ho
theorem s_b2D {f : Int32 → Int32 → Int32} (row : ∀ {H : Heap} {locs : List Loc} {cells slots : Nat} {sl : Array Slot} {rest : List Value} {x y : Int32}, ¬ y = 0 → W p l e R s m args below meth c H locs cells slots Q (F0 m (pc + 1) sl (.int (f x y) :: rest)) → W p l e R s m args below meth c H locs cells slots Q (F0 m pc sl (.int y :: .int x :: rest)))
    (ho : b2D f pc ls st M = some (.inl cf')) (K : SC p l e R s m args below meth c X k n0 Q cf') : SC p l e R s m args below meth c X k n0 Q (pc, ls, st, M) := by
  unfold b2D at ho
  split at ho
  · split at ho
    · cases ho
    · rename_i hy
      cases ho
      intro H sl locs h1 h2 h3 h4 h5
      exact row hy (K H sl locs h1 h2 ⟨h3.1, vkc trivial (vk2 h3.2)⟩ h4 h5)
  · cases ho
theorem s_b2L {f : Int64 → Int64 → Int64} (row : ∀ {H : Heap} {locs : List Loc} {cells slots : Nat} {sl : Array Slot} {rest : List Value} {x y : Int64}, W p l e R s m args below meth c H locs cells slots Q (F0 m (pc + 1) sl (.long (f x y) :: rest)) → W p l e R s m args below meth c H locs cells slots Q (F0 m pc sl (.long y :: .long x :: rest)))
    (ho : b2L f pc ls st M = some (.inl cf')) (K : SC p l e R s m args below meth c X k n0 Q cf') : SC p l e R s m args below meth c X k n0 Q (pc, ls, st, M) := by
  unfold b2L at ho
  split at ho
  · cases ho
    intro H sl locs h1 h2 h3 h4 h5
    exact row (K H sl locs h1 h2 ⟨h3.1, vkc trivial (vk2 h3.2)⟩ h4 h5)
  · cases ho
theorem s_b2E {f : Int64 → Int64 → Int64} (row : ∀ {H : Heap} {locs : List Loc} {cells slots : Nat} {sl : Array Slot} {rest : List Value} {x y : Int64}, ¬ y = 0 → W p l e R s m args below meth c H locs cells slots Q (F0 m (pc + 1) sl (.long (f x y) :: rest)) → W p l e R s m args below meth c H locs cells slots Q (F0 m pc sl (.long y :: .long x :: rest)))
    (ho : b2E f pc ls st M = some (.inl cf')) (K : SC p l e R s m args below meth c X k n0 Q cf') : SC p l e R s m args below meth c X k n0 Q (pc, ls, st, M) := by
  unfold b2E at ho
  split at ho
  · split at ho
    · cases ho
    · rename_i hy
      cases ho
      intro H sl locs h1 h2 h3 h4 h5
      exact row hy (K H sl locs h1 h2 ⟨h3.1, vkc trivial (vk2 h3.2)⟩ h4 h5)
  · cases ho
theorem s_b2S {f : Int64 → Int32 → Int64} (row : ∀ {H : Heap} {locs : List Loc} {cells slots : Nat} {sl : Array Slot} {rest : List Value} {x : Int64} {y : Int32}, W p l e R s m args below meth c H locs cells slots Q (F0 m (pc + 1) sl (.long (f x y) :: rest)) → W p l e R s m args below meth c H locs cells slots Q (F0 m pc sl (.int y :: .long x :: rest)))
    (ho : b2S f pc ls st M = some (.inl cf')) (K : SC p l e R s m args below meth c X k n0 Q cf') : SC p l e R s m args below meth c X k n0 Q (pc, ls, st, M) := by
  unfold b2S at ho
  split at ho
  · cases ho
    intro H sl locs h1 h2 h3 h4 h5
    exact row (K H sl locs h1 h2 ⟨h3.1, vkc trivial (vk2 h3.2)⟩ h4 h5)
  · cases ho
theorem s_u1I {f : Int32 → Int32} (row : ∀ {H : Heap} {locs : List Loc} {cells slots : Nat} {sl : Array Slot} {rest : List Value} {x : Int32}, W p l e R s m args below meth c H locs cells slots Q (F0 m (pc + 1) sl (.int (f x) :: rest)) → W p l e R s m args below meth c H locs cells slots Q (F0 m pc sl (.int x :: rest)))
    (ho : u1I f pc ls st M = some (.inl cf')) (K : SC p l e R s m args below meth c X k n0 Q cf') : SC p l e R s m args below meth c X k n0 Q (pc, ls, st, M) := by
  unfold u1I at ho
  split at ho
  · cases ho
    intro H sl locs h1 h2 h3 h4 h5
    exact row (K H sl locs h1 h2 ⟨h3.1, vkc trivial (vk1 h3.2)⟩ h4 h5)
  · cases ho
-- constants
theorem s_push {v : Value} (hv : VOK M v) (row : ∀ {H : Heap} {locs : List Loc} {cells slots : Nat} {sl : Array Slot} {rest : List Value}, va_S (AB X) s.heap H locs → W p l e R s m args below meth c H locs cells slots Q (F0 m pc' sl (rv X v :: rest)) → W p l e R s m args below meth c H locs cells slots Q (F0 m pc sl rest))
    (K : SC p l e R s m args below meth c X k n0 Q (pc', ls, v :: st, M)) : SC p l e R s m args below meth c X k n0 Q (pc, ls, st, M) := by
  intro H sl locs h1 h2 h3 h4 h5
  exact row h5 (K H sl locs h1 h2 ⟨h3.1, vkc hv h3.2⟩ h4 h5)
-- locals
theorem s_ldI (row : ∀ {H : Heap} {locs : List Loc} {cells slots : Nat} {sl : Array Slot} {rest : List Value} {x : Int32}, sl[j]? = some (.val (.int x)) → W p l e R s m args below meth c H locs cells slots Q (F0 m pc' sl (.int x :: rest)) → W p l e R s m args below meth c H locs cells slots Q (F0 m pc sl rest))
    (ho : ldI pc' j ls st M = some (.inl cf')) (K : SC p l e R s m args below meth c X k n0 Q cf') : SC p l e R s m args below meth c X k n0 Q (pc, ls, st, M) := by
  unfold ldI at ho
  split at ho
  · rename_i z hz
    cases ho
    intro H sl locs h1 h2 h3 h4 h5
    exact row (asc_at h2 hz (by intro q; cases q)) (K H sl locs h1 h2 ⟨h3.1, vkc trivial h3.2⟩ h4 h5)
  · cases ho
theorem s_ldL (row : ∀ {H : Heap} {locs : List Loc} {cells slots : Nat} {sl : Array Slot} {rest : List Value} {x : Int64}, sl[j]? = some (.val (.long x)) → W p l e R s m args below meth c H locs cells slots Q (F0 m pc' sl (.long x :: rest)) → W p l e R s m args below meth c H locs cells slots Q (F0 m pc sl rest))
    (ho : ldL pc' j ls st M = some (.inl cf')) (K : SC p l e R s m args below meth c X k n0 Q cf') : SC p l e R s m args below meth c X k n0 Q (pc, ls, st, M) := by
  unfold ldL at ho
  split at ho
  · rename_i z hz
    cases ho
    intro H sl locs h1 h2 h3 h4 h5
    exact row (asc_at h2 hz (by intro q; cases q)) (K H sl locs h1 h2 ⟨h3.1, vkc trivial h3.2⟩ h4 h5)
  · cases ho
theorem s_ldA (row : ∀ {H : Heap} {locs : List Loc} {cells slots : Nat} {sl : Array Slot} {rest : List Value} {x : Nat}, sl[j]? = some (.val (.ref x)) → W p l e R s m args below meth c H locs cells slots Q (F0 m pc' sl (.ref x :: rest)) → W p l e R s m args below meth c H locs cells slots Q (F0 m pc sl rest))
    (rowN : ∀ {H : Heap} {locs : List Loc} {cells slots : Nat} {sl : Array Slot} {rest : List Value}, sl[j]? = some (.val .null) → W p l e R s m args below meth c H locs cells slots Q (F0 m pc' sl (.null :: rest)) → W p l e R s m args below meth c H locs cells slots Q (F0 m pc sl rest))
    (ho : ldA pc' j ls st M = some (.inl cf')) (K : SC p l e R s m args below meth c X k n0 Q cf') : SC p l e R s m args below meth c X k n0 Q (pc, ls, st, M) := by
  unfold ldA at ho
  split at ho
  · rename_i z hz
    cases ho
    intro H sl locs h1 h2 h3 h4 h5
    exact row (asc_at h2 hz (by intro q; cases q)) (K H sl locs h1 h2 ⟨h3.1, vkc (h3.1 _ (List.mem_of_getElem? hz)) h3.2⟩ h4 h5)
  · rename_i hz
    cases ho
    intro H sl locs h1 h2 h3 h4 h5
    exact rowN (asc_at h2 hz (by intro q; cases q)) (K H sl locs h1 h2 ⟨h3.1, vkc trivial h3.2⟩ h4 h5)
  · rename_i hz
    cases ho
    intro H sl locs h1 h2 h3 h4 h5
    exact row (x := xb X) (asc_at h2 hz (by intro q; cases q)) (K H sl locs h1 h2 ⟨h3.1, vkc (h3.1 _ (List.mem_of_getElem? hz)) h3.2⟩ h4 h5)
  · cases ho
theorem s_st1 {v : Value} (F : FR X k n0 p R s m meth c args) (hc : v.category = 1) (hj : j < ls.length) (row : ∀ {H : Heap} {locs : List Loc} {cells slots : Nat} {sl : Array Slot} {rest : List Value} {lv lv' : List (Nat × Value)}, lv_has sl (mlo k) lv → j < mlo k → (j, rv X v) :: lv.filter (fun q => !(q.1 == j) && !(q.1 + 1 == j && q.2.category == 2)) = lv' → (∀ sl', lv_has sl' (mlo k) lv' → W p l e R s m args below meth c H locs cells slots Q (F0 m pc' sl' rest)) → W p l e R s m args below meth c H locs cells slots Q (F0 m pc sl (rv X v :: rest)))
    (K : SC p l e R s m args below meth c X k n0 Q (pc', st1 ls j v, st, M)) : SC p l e R s m args below meth c X k n0 Q (pc, ls, v :: st, M) := by
  intro H sl locs h1 h2 h3 h4 h5
  have h1' : ls.length = mlo k := h1
  refine row h2 (h1' ▸ hj) rfl (fun sl' h6 => ?_)
  exact K H sl' locs ((st1_len ls j v).trans h1') (lv_weak h6 (asc_st1 (hO_of F) hj)) ⟨vok_st1 h3.1 (h3.2 _ List.mem_cons_self), vk1 h3.2⟩ h4 h5
theorem s_st2 {v : Value} (F : FR X k n0 p R s m meth c args) (hj : j + 1 < ls.length) (row : ∀ {H : Heap} {locs : List Loc} {cells slots : Nat} {sl : Array Slot} {rest : List Value} {lv lv' : List (Nat × Value)}, lv_has sl (mlo k) lv → j + 1 < mlo k → (j, rv X v) :: lv.filter (fun q => !(q.1 == j) && (!(q.1 == j + 1) && !(q.1 + 1 == j && q.2.category == 2))) = lv' → (∀ sl', lv_has sl' (mlo k) lv' → W p l e R s m args below meth c H locs cells slots Q (F0 m pc' sl' rest)) → W p l e R s m args below meth c H locs cells slots Q (F0 m pc sl (rv X v :: rest)))
    (K : SC p l e R s m args below meth c X k n0 Q (pc', st2 ls j v, st, M)) : SC p l e R s m args below meth c X k n0 Q (pc, ls, v :: st, M) := by
  intro H sl locs h1 h2 h3 h4 h5
  have h1' : ls.length = mlo k := h1
  refine row h2 (h1' ▸ hj) rfl (fun sl' h6 => ?_)
  exact K H sl' locs ((st2_len ls j v).trans h1') (lv_weak h6 (asc_st2 (hO_of F) hj)) ⟨vok_st2 h3.1 (h3.2 _ List.mem_cons_self), vk1 h3.2⟩ h4 h5
-- jumps
theorem jmp_eq {off : Int} (h : 0 ≤ (pc : Int) + off) : (pc : Int) + off = ((jmp pc off : Nat) : Int) := (Int.toNat_of_nonneg h).symm
theorem s_same (row : ∀ {H : Heap} {locs : List Loc} {cells slots : Nat} {sl : Array Slot}, W p l e R s m args below meth c H locs cells slots Q (F0 m pc' sl (st'.map (rv X))) → W p l e R s m args below meth c H locs cells slots Q (F0 m pc sl (st.map (rv X)))) (hv : (∀ v ∈ st, VOK M v) → ∀ v ∈ st', VOK M v)
    (K : SC p l e R s m args below meth c X k n0 Q (pc', ls, st', M)) : SC p l e R s m args below meth c X k n0 Q (pc, ls, st, M) := by
  intro H sl locs h1 h2 h3 h4 h5
  exact row (K H sl locs h1 h2 ⟨h3.1, hv h3.2⟩ h4 h5)
theorem icc_row {cnd : ClassFile.Cond} {y z : Int32} {a b : Nat} {P : Nat → Prop} (h : P (icc cnd y z a b)) : ((match cnd with | .eq => y = z | .ne => y ≠ z | .lt => y < z | .ge => z ≤ y | .gt => z < y | .le => y ≤ z) → P a) ∧ (¬ (match cnd with | .eq => y = z | .ne => y ≠ z | .lt => y < z | .ge => z ≤ y | .gt => z < y | .le => y ≤ z) → P b) := by
  cases cnd <;> simp only [icc] at h ⊢
  · exact ⟨fun q => by rwa [if_pos q] at h, fun q => by rwa [if_neg q] at h⟩
  · exact ⟨fun q => by rwa [if_neg q] at h, fun q => by rwa [if_pos (Decidable.not_not.mp q)] at h⟩
  · exact ⟨fun q => by rwa [if_pos q] at h, fun q => by rwa [if_neg q] at h⟩
  · exact ⟨fun q => by rwa [if_neg (Int32.not_lt.mpr q)] at h, fun q => by rwa [if_pos (Int32.not_le.mp q)] at h⟩
  · exact ⟨fun q => by rwa [if_pos q] at h, fun q => by rwa [if_neg q] at h⟩
  · exact ⟨fun q => by rwa [if_neg (Int32.not_lt.mpr q)] at h, fun q => by rwa [if_pos (Int32.not_le.mp q)] at h⟩
end Steps
