/-! THE CLAIM OUT OF ONE WALK OF THE LAW'S BODY. Your part is whole_start (and what it stands on); all else here is the same for every law, but numbers. -/
def lw_P (b : Addr) (xs : List Int32) (args : Array Value) (s : State) : Prop := args = #[.ref b] ∧ s.IntsAt b xs ∧ xs.length ≤ 3072 ∧ (Jvm.Cond.and given_1 narrow_1).before args s = true
def lw_Q (_ : Array Value) (s : State) (o : Outcome) (t : State) : Prop := o = .returned (some (.int 1)) ∧ Framed s o t [] 600000 7302250
def lw_Z (below : List Frame) (a : Array Value) (s : State) : State → Prop := fun t => ∃ o, t.status = .running ∧ Ended t below o ∧ lw_Q a s o t
/-- the law's own end, with 1 on the stack, nothing written that was there before, its room as the claim has it -/
theorem lw_ret {p : Program} {l : Launch} {e : Env} {s : State} {m : MethodId} {below : List Frame} {meth : Method} {c : Code} {b : Nat} (hx : p.tables.exec = Jvm.exec) (hb : c.code = code) (hr : meth.sig.returnType = ret) (hlocks : meth.locks = false) {pc : Nat} {H : Heap} {ls : Array Slot} (hdg : decode code pc = .ok (.ireturn, 1)) : W p l e room_1 s m #[Value.ref b] below meth c H [] 600000 7302250 (lw_Z below #[Value.ref b] s) (F0 m pc ls [.int 1]) := by
  intro T hT X
  obtain ⟨fs, hret, hrun, hended, hW, hframe⟩ := X.leave (v := some (.int 1)) (hlocks := hlocks) (fun h => by rw [hr] at h; cases h)
  have hmeth' : T.vm.method? m = some meth := X.method'
  refine ⟨T.setFrames fs, ?_, .returned (some (.int 1)), hrun, hended, rfl, ⟨_, rfl⟩, hW, hframe⟩
  jvm_step X.here [X.here.top, hx, hb, hdg, hmeth', hr, ret, narrow_b1]
  (try refine ⟨rfl, ?_⟩); (try refine ⟨rfl, ?_⟩)
  first | (intro acts; rw [hret _ acts rfl rfl rfl]) | rw [hret _ _ rfl rfl rfl]
  exact Steps.refl _
/-- what holds at the law's entry: the machine, the code, the tables' words (any of lw_tbl by 'hts w (by decide +kernel)'), the script of L ints xs at the cell b, what the Statement gives of the start (any of its parts by flat_of_before) -/
def lw_At (p : Program) (s : State) (m : MethodId) (meth : Method) (c : Code) (b L : Nat) (xs : Nat → Int32) : Prop :=
  p.tables.exec = Jvm.exec ∧ c.code = code ∧ meth.sig.returnType = ret ∧ c.maxLocals = 4 ∧ s.vm.findClass R_law = some m.cls ∧ (∀ w ∈ lw_tbl, w.before #[Value.ref b] s = true) ∧ va_X b L xs s s.heap ∧ b < s.heap.size ∧ meth.locks = false ∧ (Jvm.Cond.and given_1 narrow_1).before #[Value.ref b] s = true
/-! ===== the law's start: what the Statement gives is what the small machine wants ===== -/
def M0 (L : Nat) (xs : Nat → Int32) : MM := (fun a k => if a = 0 then (if k < L then xs k else 0) else if a = 1 then (if k = 0 then Int32.ofNat L else 0) else if 11 ≤ a ∧ a < 21 then (strB.getD (a - 11) []).getD k 0 else 0, fun _ _ => 0, fun a k => if (1 ≤ a ∧ a < 11) ∧ k = 0 then some (a + 10) else none, 21)
def strT (i : Nat) : Term := .string (strQ.getD i ("", 0, "")).1 (strQ.getD i ("", 0, "")).2.1
def flatG : List Cond := flatC (Jvm.Cond.and given_1 narrow_1)
theorem fg_ex : ∀ i, i < 10 → Cond.exactly (strT i) "java/lang/String" ∈ flatG := by decide +kernel
theorem fg_co : ∀ i, i < 10 → Cond.eq (.field (strT i) "java/lang/String" "coder" "B") (.int 0) ∈ flatG := by decide +kernel
theorem fg_ar : ∀ i, i < 10 → Cond.arrayOf (.field (strT i) "java/lang/String" "value" "[B") .byte ∈ flatG := by decide +kernel
theorem fg_le : ∀ i, i < 10 → Cond.eq (.length (.field (strT i) "java/lang/String" "value" "[B")) (.int (Int32.ofNat (strL.getD i 0))) ∈ flatG := by decide +kernel
theorem fg_el : ∀ i, i < 10 → ∀ j, j < strL.getD i 0 → Cond.eq (.elem (.field (strT i) "java/lang/String" "value" "[B") (.int (Int32.ofNat j))) (.int ((strB.getD i []).getD j 0)) ∈ flatG := by decide +kernel
theorem fg_ne : ∀ i, i < 10 → ∀ j, j < 10 → i ≠ j → (Cond.not (Cond.eq (strT i) (strT j)) ∈ flatG ∨ Cond.not (Cond.eq (strT j) (strT i)) ∈ flatG) := by decide +kernel
theorem fg_N : ∀ i, i < 10 → strL.getD i 0 < 2 ^ 31 := by decide +kernel
theorem fg_st : Cond.eq (Term.static "java/lang/String" "COMPACT_STRINGS" "Z") (.int 1) ∈ flatG ∧ Cond.isRef (Term.static "jdk/internal/util/Preconditions" "SIOOBE_FORMATTER" "Ljava/util/function/BiFunction;") ∈ flatG := ⟨by decide +kernel, by decide +kernel⟩
theorem tb_rf : ∀ i, i < 10 → Cond.stringRef (strQ.getD i ("", 0, "")).1 (strQ.getD i ("", 0, "")).2.1 (strQ.getD i ("", 0, "")).2.2 ∈ lw_tbl := by decide +kernel
theorem tb_ao : Cond.arrayOver (.object "TwoOnOneBack$Tape") ∈ lw_tbl ∧ Cond.arrayOver (.object "TwoOnOneBack$Walker") ∈ lw_tbl := ⟨List.mem_of_getElem? (i := 203) (by decide +kernel), List.mem_of_getElem? (i := 263) (by decide +kernel)⟩
theorem tb_sl : Cond.laysStatic "java/lang/String" "COMPACT_STRINGS" "Z" ∈ lw_tbl ∧ Cond.laysStatic "jdk/internal/util/Preconditions" "SIOOBE_FORMATTER" "Ljava/util/function/BiFunction;" ∈ lw_tbl ∧ Cond.initialized "java/lang/String" ∈ lw_tbl ∧ Cond.initialized "jdk/internal/util/Preconditions" ∈ lw_tbl := ⟨List.mem_of_getElem? (i := 455) (by decide +kernel), List.mem_of_getElem? (i := 471) (by decide +kernel), by decide +kernel, by decide +kernel⟩
theorem M0_ext {X : CX} {L : Nat} {xs : Nat → Int32} (hL : L < 2 ^ 31) (h1 : xl X = L) (h2 : xs_ X = xs) : EXT X (M0 L xs) := by
  refine ⟨⟨fun i hi => ⟨?_, ?_⟩, fun i hi j => ?_⟩, fun j hj => ?_, ?_, by rw [h1]; exact hL⟩
  · show (if 1 + i = 0 then _ else if 1 + i = 1 then _ else if 11 ≤ 1 + i ∧ 1 + i < 21 then _ else (0 : Int32)) = 0
    rw [if_neg (by omega)]
    by_cases h : 1 + i = 1
    · rw [if_pos h, if_neg (by omega)]
    · rw [if_neg h, if_neg (by omega)]
  · show (if (1 ≤ 1 + i ∧ 1 + i < 11) ∧ 0 = 0 then some (1 + i + 10) else none) = some (11 + i)
    rw [if_pos ⟨⟨by omega, by omega⟩, rfl⟩]
    congr 1
    omega
  · show (if 11 + i = 0 then _ else if 11 + i = 1 then _ else if 11 ≤ 11 + i ∧ 11 + i < 21 then (strB.getD (11 + i - 11) []).getD j 0 else (0 : Int32)) = _
    rw [if_neg (by omega), if_neg (by omega), if_pos (by omega), Nat.add_sub_cancel_left]
  · have e : mI (M0 L xs) 0 j = if j < L then xs j else 0 := rfl
    rw [e, if_pos (by omega), h2]
  · rw [h1]; rfl
set_option maxHeartbeats 4000000 in
theorem whole_from {p : Program} {e : Env} {s : State} {m : MethodId} {below : List Frame} {meth : Method} {c : Code} (l : Launch) {b L : Nat} {xs : Nat → Int32} (hL : L ≤ 3072) (C0 : lw_At p s m meth c b L xs) {n d : Nat} (hdd : d ≤ 800) {Mf : MM} (hN : mN Mf ≤ 119)
    (hrun : run n d kL_law (0, ent kL_law [.retAddr 2], [], M0 L xs) = some (some (.int 1), Mf)) : W p l e room_1 s m #[Value.ref b] below meth c s.heap [] 0 0 (lw_Z below #[Value.ref b] s) (entryFrame m ([Value.ref b] : List Value).toArray 4) := by
  obtain ⟨hx, hb, hr, hml, hown, hts, hX, hbl, hlocks, hgv⟩ := id C0
  have htg : ∀ w ∈ wsG, w.before #[Value.ref b] s = true := fun w hw => hts w (List.mem_filter.mp hw).1
  have hfl : ∀ w ∈ flatG, w.before #[Value.ref b] s = true := flat_of_before _ hgv
  have hA0 : ∀ a : Nat, a < s.heap.size → ¬ (fun q : Nat => s.heap.size ≤ q) a := fun a h => Nat.not_le.mpr h
  have hcl : ∀ cc : Nat, ∃ q : ClassId × (Nat → Nat), cc < 12 → u_Kn s (oN cc) (CT cc) (NF cc) q.1 q.2 := by
    intro cc
    by_cases h : cc < 12
    · obtain ⟨cC, iS, hk⟩ := u_known (C := oN cc) (T := CT cc) (N := NF cc) (n := NF cc) htg (in_at h) (htg _ (new_ok h).1)
      exact ⟨(cC, iS), fun _ => hk⟩
    · exact ⟨(0, fun _ => 0), fun h2 => absurd h2 h⟩
  obtain ⟨fc, hfc⟩ := Classical.axiomOfChoice hcl
  have har : ∀ t : Nat, ∃ cA : ClassId, (20 ≤ t ∧ t ≤ 25) → ArrOfT s cA (aT t) ∧ va_RA s cA (aT t) := by
    have prim : ∀ ty, Cond.arrayClass ty ∈ wsG → (∀ k, ty = .object k → False) → ∃ cA : ClassId, ArrOfT s cA ty ∧ va_RA s cA ty := by
      intro ty hw hno
      obtain ⟨cA, kA, comp, h1, h2, h3⟩ := Cond.arrayClass_spec (htg _ hw)
      refine ⟨cA, fun n z => ⟨fun k h => (by cases h), kA, h2, comp, h3⟩, ?_⟩
      cases ty <;> first | exact h1 | exact (hno _ rfl).elim
    have obj : ∀ C, Cond.arrayOver (.object C) ∈ lw_tbl → ∃ cA : ClassId, ArrOfT s cA (.object C) ∧ va_RA s cA (.object C) := by
      intro C hw
      obtain ⟨comp, cA, kA, h1, -, h2, h3, h4⟩ := Cond.arrayOver_spec (hts _ hw)
      exact ⟨cA, fun n z => ⟨fun k h => (by cases h), kA, h2, comp, h3⟩, kA, comp, h2, h3, h1, h4⟩
    intro t
    by_cases h : 20 ≤ t ∧ t ≤ 25
    · rcases (by omega : t = 20 ∨ t = 21 ∨ t = 22 ∨ t = 23 ∨ t = 24 ∨ t = 25) with rfl | rfl | rfl | rfl | rfl | rfl
      · obtain ⟨cA, hh⟩ := prim .int wm_aint (fun k q => by cases q); exact ⟨cA, fun _ => hh⟩
      · obtain ⟨cA, hh⟩ := prim .long wm_along (fun k q => by cases q); exact ⟨cA, fun _ => hh⟩
      · obtain ⟨cA, hh⟩ := prim .byte wm_abyte (fun k q => by cases q); exact ⟨cA, fun _ => hh⟩
      · obtain ⟨cA, hh⟩ := prim .boolean wm_aboolean (fun k q => by cases q); exact ⟨cA, fun _ => hh⟩
      · obtain ⟨cA, hh⟩ := obj "TwoOnOneBack$Walker" tb_ao.2; exact ⟨cA, fun _ => hh⟩
      · obtain ⟨cA, hh⟩ := obj "TwoOnOneBack$Tape" tb_ao.1; exact ⟨cA, fun _ => hh⟩
    · exact ⟨0, fun h2 => absurd h2 h⟩
  obtain ⟨fa, hfa⟩ := Classical.axiomOfChoice har
  obtain ⟨adK, adV, hS, hSe⟩ := vk_Sof (A := fun q : Nat => s.heap.size ≤ q) (N := 10) (tm := strT) (len := strL) (byt := strB) fg_N (fun i hi => hfl _ (fg_ex i hi)) (fun i hi => hfl _ (fg_co i hi)) (fun i hi => hfl _ (fg_ar i hi)) (fun i hi => hfl _ (fg_le i hi)) (fun i hi j hj => hfl _ (fg_el i hi j hj)) (fun i j hi hj hij => (fg_ne i hi j hj hij).imp (hfl _) (hfl _)) hA0
  have hz1 := va_Zof (A := fun q : Nat => s.heap.size ≤ q) (hts _ tb_sl.1) (hts _ tb_sl.2.2.1) (va_eqi (hfl _ fg_st.1)) hA0
  obtain ⟨vo, hvo, hz2⟩ : ∃ vo : Value, (vo = .null ∨ ∃ a, vo = .ref a) ∧ va_Z "jdk/internal/util/Preconditions" "SIOOBE_FORMATTER" "Ljava/util/function/BiFunction;" vo (fun q : Nat => s.heap.size ≤ q) s s.heap := by
    rcases va_Zqof (A := fun q : Nat => s.heap.size ≤ q) (hts _ tb_sl.2.1) (hts _ tb_sl.2.2.2) (hfl _ fg_st.2) hA0 with h | ⟨t, h⟩
    · exact ⟨_, Or.inl rfl, h⟩
    · exact ⟨_, Or.inr ⟨t, rfl⟩, h⟩
  obtain ⟨X, hXe⟩ : ∃ X : CX, X = ((fun cc => (fc cc).1, fun cc => (fc cc).2), fa, s.heap.size, b, L, xs, adK, adV, vo) := ⟨_, rfl⟩
  have eB : xB X = s.heap.size := by rw [hXe]; rfl
  have eb : xb X = b := by rw [hXe]; rfl
  have el : xl X = L := by rw [hXe]; rfl
  have es : xs_ X = xs := by rw [hXe]; rfl
  have eO : xO X = vo := by rw [hXe]; rfl
  have eAB : AB X = fun q : Nat => s.heap.size ≤ q := by rw [hXe]; rfl
  have hOK : OKU X s := by
    refine ⟨⟨⟨fun cc q hq => ?_, fun k q hq => ?_⟩, fun w hw => va_Nw.of (nestW_in w hw).2 (hts _ (nestW_in w hw).1), hts _ tb_ao.2, hts _ tb_ao.1⟩, ⟨?_, fun j hj => vk_R.of (hts _ (tb_rf j hj)) ?_⟩, ⟨?_, ?_⟩, ?_, by rw [eb, eB]; exact hbl, by rw [eB]; exact Nat.le_refl _, by rw [eO]; exact hvo⟩
    · have hc12 : cc < 12 := (List.getElem?_eq_some_iff.mp hq).1
      rw [vw_at hc12] at hq
      cases hq
      have := hfc cc hc12
      rw [hXe]
      exact this
    · have hk6 : k < 6 := (List.getElem?_eq_some_iff.mp hq).1
      rw [hXe] at hq
      rcases (by omega : k = 0 ∨ k = 1 ∨ k = 2 ∨ k = 3 ∨ k = 4 ∨ k = 5) with rfl | rfl | rfl | rfl | rfl | rfl
      · cases hq; exact hfa 20 (by omega)
      · cases hq; exact hfa 21 (by omega)
      · cases hq; exact hfa 22 (by omega)
      · cases hq; exact hfa 23 (by omega)
      · cases hq; exact hfa 24 (by omega)
      · cases hq; exact hfa 25 (by omega)
    · rw [eAB, hXe]; exact hS
    · have := hSe j hj
      rw [hXe]
      exact this
    · rw [eAB]; exact hz1
    · rw [eAB, eO]; exact hz2
    · rw [eb, el, es]; exact hX
  have F : FR X kL_law 21 p room_1 s m meth c #[Value.ref b] := ⟨⟨hx, hb, hml⟩, hown, htg, hOK, fun h => absurd h (by decide), ⟨Nat.le_of_ble_eq_true rfl, Nat.le_of_ble_eq_true rfl⟩, by rw [eB]; rfl, Nat.le_refl _⟩
  have hslM : slN (mN Mf) ≤ 7302250 := Nat.le_trans (slN_mono hN) (by decide +kernel)
  have hFS := frame_sound l X n d kL_law _ _ _ hrun p e room_1 s m #[Value.ref b] below meth c 21 (lw_Z below #[Value.ref b] s) F (Nat.le_refl _) (Nat.le_refl _) ⟨by show d + 1 ≤ 2048; omega, by show 100 * (d + 1) ≤ 84000; omega⟩ ⟨by show _ ≤ 600000; omega, by show _ ≤ 7302250; omega⟩ (fun pc len i ls st M hd ho => by
    have hM := op_ret ho
    subst hM
    unfold opS at ho
    split at ho
    case isFalse => cases ho
    rename_i hl
    cases i with
    | ireturn =>
      obtain rfl : len = 1 := len_is hl
      simp only [opI] at ho
      split at ho
      · split at ho
        · cases ho
          intro H sl locs h1 h2 h3 h4 h5
          refine W.widen (k := 600000) (n := 7302250) (by show mN Mf - 21 ≤ _; omega) (by show slN (mN Mf) - slN 21 ≤ _; omega) (va_forget (fun q hq => ?_) ?_)
          · have := h5.2.2 q hq
            rw [eAB] at this
            exact this
          · exact lw_ret hx hb hr hlocks hd
        · cases ho
      · cases ho
    | lreturn =>
      simp only [opI] at ho
      split at ho
      · split at ho <;> cases ho
      · cases ho
    | areturn =>
      simp only [opI] at ho
      split at ho
      · split at ho <;> cases ho
      · split at ho <;> cases ho
      · cases ho
    | return_ =>
      simp only [opI] at ho
      split at ho
      · split at ho <;> cases ho
      · cases ho
    | _ => simp only [opI, ldA, ldI, ldL, stI, stL, stA, b2I, b2D, b2L, b2E, b2S, u1I, ivk, acpy, nx] at ho <;> (repeat' split at ho) <;> cases ho)
  rw [lg_entry_eq]
  have hl := lv_entry ([Value.ref b]) (n := 4) (Nat.le_of_ble_eq_true rfl)
  have hO := hO_of F
  have hrv : ([Value.retAddr 2].map (rv X)) = [Value.ref b] := by
    show [Value.ref (xb X)] = _
    rw [eb]
  have hea : (ea [Value.retAddr 2]).length ≤ mlo kL_law := by decide +kernel
  have hl2 : lv_has _ (mlo kL_law) (asc X (ent kL_law [.retAddr 2])) := lv_weak hl (fun q hq => by
    have := ent_asc hO q hq
    rwa [hrv] at this)
  have kk := hFS s.heap _ [] (ent_len hea) hl2 ⟨ent_vok (fun v hv => by rw [List.mem_singleton.mp hv]; show 2 < 3; decide), fun v hv => by cases hv⟩ ⟨⟨Nat.le_refl _, by rw [eB]; rfl⟩, fun k q h => by simp [wsM, M0, mN] at h, M0_ext (by omega) el es, (fun a k q hq => by
    have hq' : (if (1 ≤ a ∧ a < 11) ∧ k = 0 then some (a + 10) else none) = some q := hq
    split at hq'
    · cases hq'; show a + 10 < 21; omega
    · cases hq'), by show 21 ≤ 119; omega⟩ va_S.rf
  exact kk
