theorem len_is {i n : Nat} (h : (i == n) = true) : i = n := by simpa using h
section Steps7
variable {p : Program} {l : Launch} {e : Env} {R : Room} {s : State} {m : MethodId} {args : Array Value} {below : List Frame} {meth : Method} {c : Code} {X : CX} {k n0 : Nat} {Q : State → Prop}
variable {pc pc' len j x : Nat} {ls ls' st st' : List Value} {M M' : MM} {cf' : CF}
theorem s_pushI {y : Int32} (row : ∀ {H : Heap} {locs : List Loc} {cells slots : Nat} {sl : Array Slot} {rest : List Value}, W p l e R s m args below meth c H locs cells slots Q (F0 m pc' sl (.int y :: rest)) → W p l e R s m args below meth c H locs cells slots Q (F0 m pc sl rest))
    (K : SC p l e R s m args below meth c X k n0 Q (pc', ls, .int y :: st, M)) : SC p l e R s m args below meth c X k n0 Q (pc, ls, st, M) := s_push (v := .int y) (M := M) trivial (fun _ kk => row kk) K
theorem s_pushL {y : Int64} (row : ∀ {H : Heap} {locs : List Loc} {cells slots : Nat} {sl : Array Slot} {rest : List Value}, W p l e R s m args below meth c H locs cells slots Q (F0 m pc' sl (.long y :: rest)) → W p l e R s m args below meth c H locs cells slots Q (F0 m pc sl rest))
    (K : SC p l e R s m args below meth c X k n0 Q (pc', ls, .long y :: st, M)) : SC p l e R s m args below meth c X k n0 Q (pc, ls, st, M) := s_push (v := .long y) (M := M) trivial (fun _ kk => row kk) K
theorem s_pushN (row : ∀ {H : Heap} {locs : List Loc} {cells slots : Nat} {sl : Array Slot} {rest : List Value}, W p l e R s m args below meth c H locs cells slots Q (F0 m pc' sl (.null :: rest)) → W p l e R s m args below meth c H locs cells slots Q (F0 m pc sl rest))
    (K : SC p l e R s m args below meth c X k n0 Q (pc', ls, .null :: st, M)) : SC p l e R s m args below meth c X k n0 Q (pc, ls, st, M) := s_push (v := .null) (M := M) trivial (fun _ kk => row kk) K
set_option maxHeartbeats 4000000 in
theorem step_sound {i : Instr} (F : FR X k n0 p R s m meth c args) (hn : n0 ≤ mN M) (h21 : 21 ≤ mN M) (hroom : mN cf'.2.2.2 - n0 ≤ R.cells ∧ slN (mN cf'.2.2.2) - slN n0 ≤ R.slots) (hroom0 : mN M - n0 ≤ R.cells ∧ slN (mN M) - slN n0 ≤ R.slots) (hd : decode (cod k) pc = .ok (i, len)) (ho : opS k i len pc ls st M = some (.inl cf'))
    (K : SC p l e R s m args below meth c X k n0 Q cf') : SC p l e R s m args below meth c X k n0 Q (pc, ls, st, M) := by
  unfold opS at ho
  split at ho
  case isFalse => cases ho
  rename_i hl
  have hx := F.1.1
  have hb := F.1.2.1
  cases i with
  | aload_n j => obtain rfl : len = 1 := len_is hl; exact s_ldA (fun h kk => lv_aload_n hx hb hd rfl h kk) (fun h kk => lv_aload_nN hx hb hd rfl h kk) ho K
  | aload j => obtain rfl : len = 2 := len_is hl; exact s_ldA (fun h kk => lv_aload hx hb hd h kk) (fun h kk => lv_aloadN hx hb hd h kk) ho K
  | iload_n j => obtain rfl : len = 1 := len_is hl; exact s_ldI (fun h kk => lv_iload_n hx hb hd rfl h kk) ho K
  | iload j => obtain rfl : len = 2 := len_is hl; exact s_ldI (fun h kk => lv_iload hx hb hd h kk) ho K
  | lload_n j => obtain rfl : len = 1 := len_is hl; exact s_ldL (fun h kk => lv_lload_n hx hb hd rfl h kk) ho K
  | lload j => obtain rfl : len = 2 := len_is hl; exact s_ldL (fun h kk => lv_lload hx hb hd h kk) ho K
  | astore_n j => obtain rfl : len = 1 := len_is hl; exact s_stA F (fun h g q kk => lv_astore_n hx hb hd rfl h g q kk) (fun h g q kk => lv_astore_nN hx hb hd rfl h g q kk) ho K
  | astore j => obtain rfl : len = 2 := len_is hl; exact s_stA F (fun h g q kk => lv_astore hx hb hd h g q kk) (fun h g q kk => lv_astoreN hx hb hd h g q kk) ho K
  | istore_n j => obtain rfl : len = 1 := len_is hl; exact s_stI F (fun h g q kk => lv_istore_n hx hb hd rfl h g q kk) ho K
  | istore j => obtain rfl : len = 2 := len_is hl; exact s_stI F (fun h g q kk => lv_istore hx hb hd h g q kk) ho K
  | lstore_n j => obtain rfl : len = 1 := len_is hl; exact s_stL F (fun h g q kk => lv_lstore_n hx hb hd rfl h g q kk) ho K
  | lstore j => obtain rfl : len = 2 := len_is hl; exact s_stL F (fun h g q kk => lv_lstore hx hb hd h g q kk) ho K
  | iinc j n => obtain rfl : len = 3 := len_is hl; exact s_iinc F hd ho K
  | iconst n => obtain rfl : len = 1 := len_is hl; cases ho; exact s_pushI (fun kk => lv_iconst hx hb hd rfl kk) K
  | lconst n => obtain rfl : len = 1 := len_is hl; cases ho; exact s_pushL (fun kk => lv_lconst hx hb hd rfl kk) K
  | bipush n => obtain rfl : len = 2 := len_is hl; cases ho; exact s_pushI (fun kk => lv_bipush hx hb hd rfl kk) K
  | sipush n => obtain rfl : len = 3 := len_is hl; cases ho; exact s_pushI (fun kk => lv_sipush hx hb hd rfl kk) K
  | aconst_null => obtain rfl : len = 1 := len_is hl; cases ho; exact s_pushN (fun kk => lv_null hx hb hd kk) K
  | ldc x =>
    obtain rfl : len = 2 := len_is hl
    simp only [opI] at ho
    split at ho
    · rename_i a hq; cases ho; exact s_ldcs F h21 hd hq K
    · cases ho
  | ldc_w x =>
    obtain rfl : len = 3 := len_is hl
    simp only [opI] at ho
    split at ho
    · rename_i a hq; cases ho; exact s_pushI (fun kk => lv_ldcw hx hb F.2.1 (F.2.2.1 _ (cst_ok hq)) hd kk) K
    · cases ho
  | ldc2_w x =>
    obtain rfl : len = 3 := len_is hl
    simp only [opI] at ho
    split at ho
    · rename_i a hq; cases ho; exact s_pushL (fun kk => lv_ldc2 hx hb F.2.1 (F.2.2.1 _ (lng_ok hq)) hd kk) K
    · cases ho
  | getstatic x =>
    obtain rfl : len = 3 := len_is hl
    simp only [opI] at ho
    split at ho
    · rename_i a hq; cases ho; exact s_gets F hd hq K
    · cases ho
  | getfield x => obtain rfl : len = 3 := len_is hl; exact s_getf F hd ho K
  | putfield x => obtain rfl : len = 3 := len_is hl; exact s_putf F hn hd ho K
  | new x =>
    obtain rfl : len = 3 := len_is hl
    simp only [opI] at ho
    split at ho
    · rename_i a hq
      split at ho
      · rename_i hc; cases ho; exact s_new F hn hroom hd hq hc.1 hc.2 K
      · cases ho
    · cases ho
  | newarray t =>
    obtain rfl : len = 2 := len_is hl
    simp only [opI] at ho
    split at ho
    · split at ho
      · rename_i hc; cases ho; exact s_newa F hn hroom hd hc.1 hc.2 K
      · cases ho
    · cases ho
  | anewarray x =>
    obtain rfl : len = 3 := len_is hl
    simp only [opI] at ho
    split at ho
    · rename_i a hq
      split at ho
      · split at ho
        · rename_i hc; cases ho; exact s_newq F hn hroom hd hq hc.1 hc.2 K
        · cases ho
      · cases ho
    · cases ho
  | arraylength =>
    obtain rfl : len = 1 := len_is hl
    simp only [opI] at ho
    split at ho
    · split at ho
      · rename_i hc; cases ho; exact s_alen F hd hc K
      · cases ho
    · cases ho; exact s_slen F hd K
    · cases ho
  | iaload =>
    obtain rfl : len = 1 := len_is hl
    simp only [opI] at ho
    split at ho
    · split at ho
      · rename_i hc; cases ho; exact s_iald F hd hc.1 hc.2 K
      · cases ho
    · split at ho
      · rename_i hc; cases ho; exact s_sld F hd hc K
      · cases ho
    · cases ho
  | baload =>
    obtain rfl : len = 1 := len_is hl
    simp only [opI] at ho
    split at ho
    · split at ho
      · rename_i hc; cases ho; exact s_bald F hd hc.1 hc.2 K
      · cases ho
    · cases ho
  | laload =>
    obtain rfl : len = 1 := len_is hl
    simp only [opI] at ho
    split at ho
    · split at ho
      · rename_i hc; cases ho; exact s_lald F hd hc.1 hc.2 K
      · cases ho
    · cases ho
  | aaload =>
    obtain rfl : len = 1 := len_is hl
    simp only [opI] at ho
    split at ho
    · split at ho
      · rename_i hc; cases ho; exact s_aald F hd hc.1 hc.2 K
      · cases ho
    · cases ho
  | iastore =>
    obtain rfl : len = 1 := len_is hl
    simp only [opI] at ho
    split at ho
    · split at ho
      · rename_i hc; cases ho; exact s_iast F hn hd hc.1 hc.2 K
      · cases ho
    · cases ho
  | bastore =>
    obtain rfl : len = 1 := len_is hl
    simp only [opI] at ho
    split at ho
    · split at ho
      · rename_i hc; cases ho; exact s_bast F hn hd hc.1 hc.2 K
      · cases ho
    · cases ho
  | lastore =>
    obtain rfl : len = 1 := len_is hl
    simp only [opI] at ho
    split at ho
    · split at ho
      · rename_i hc; cases ho; exact s_last F hn hd hc.1 hc.2 K
      · cases ho
    · cases ho
  | aastore =>
    obtain rfl : len = 1 := len_is hl
    simp only [opI] at ho
    split at ho
    · split at ho
      · rename_i hc; cases ho; exact s_aast F hn hd hc.1 hc.2.1 hc.2.2 K
      · cases ho
    · cases ho
  | iadd => obtain rfl : len = 1 := len_is hl; exact s_b2I (fun kk => lv_iadd hx hb hd kk) ho K
  | isub => obtain rfl : len = 1 := len_is hl; exact s_b2I (fun kk => lv_isub hx hb hd kk) ho K
  | imul => obtain rfl : len = 1 := len_is hl; exact s_b2I (fun kk => lv_imul hx hb hd kk) ho K
  | iand => obtain rfl : len = 1 := len_is hl; exact s_b2I (fun kk => lv_iand hx hb hd kk) ho K
  | ior => obtain rfl : len = 1 := len_is hl; exact s_b2I (fun kk => lv_ior hx hb hd kk) ho K
  | ixor => obtain rfl : len = 1 := len_is hl; exact s_b2I (fun kk => lv_ixor hx hb hd kk) ho K
  | ishl => obtain rfl : len = 1 := len_is hl; exact s_b2I (f := iShl) (fun kk => lv_ishl hx hb hd kk) ho K
  | ishr => obtain rfl : len = 1 := len_is hl; exact s_b2I (f := iShr) (fun kk => lv_ishr hx hb hd kk) ho K
  | iushr => obtain rfl : len = 1 := len_is hl; exact s_b2I (f := iUshr) (fun kk => lv_iushr hx hb hd rfl kk) ho K
  | idiv => obtain rfl : len = 1 := len_is hl; exact s_b2D (fun h kk => lv_idiv hx hb hd h kk) ho K
  | irem => obtain rfl : len = 1 := len_is hl; exact s_b2D (f := iRem) (fun h kk => lv_irem hx hb hd h kk) ho K
  | ineg => obtain rfl : len = 1 := len_is hl; exact s_u1I (fun kk => lv_ineg hx hb hd kk) ho K
  | i2b => obtain rfl : len = 1 := len_is hl; exact s_u1I (fun kk => lv_i2b hx hb hd rfl kk) ho K
  | i2s => obtain rfl : len = 1 := len_is hl; exact s_u1I (fun kk => lv_i2s hx hb hd rfl kk) ho K
  | i2c => obtain rfl : len = 1 := len_is hl; exact s_u1I (fun kk => lv_i2c hx hb hd rfl kk) ho K
  | i2l =>
    obtain rfl : len = 1 := len_is hl
    simp only [opI] at ho
    split at ho
    · cases ho; exact s_same (fun kk => lv_i2l hx hb hd rfl kk) (fun h => vkc (show VOK M (.long _) from trivial) (vk1 h)) K
    · cases ho
  | l2i =>
    obtain rfl : len = 1 := len_is hl
    simp only [opI] at ho
    split at ho
    · cases ho; exact s_same (fun kk => lv_l2i hx hb hd rfl kk) (fun h => vkc (show VOK M (.int _) from trivial) (vk1 h)) K
    · cases ho
  | ladd => obtain rfl : len = 1 := len_is hl; exact s_b2L (fun kk => lv_ladd hx hb hd kk) ho K
  | lsub => obtain rfl : len = 1 := len_is hl; exact s_b2L (fun kk => lv_lsub hx hb hd kk) ho K
  | lmul => obtain rfl : len = 1 := len_is hl; exact s_b2L (fun kk => lv_lmul hx hb hd kk) ho K
  | land => obtain rfl : len = 1 := len_is hl; exact s_b2L (fun kk => lv_land hx hb hd kk) ho K
  | lor => obtain rfl : len = 1 := len_is hl; exact s_b2L (fun kk => lv_lor hx hb hd kk) ho K
  | lxor => obtain rfl : len = 1 := len_is hl; exact s_b2L (fun kk => lv_lxor hx hb hd kk) ho K
  | ldiv => obtain rfl : len = 1 := len_is hl; exact s_b2E (fun h kk => lv_ldiv hx hb hd h kk) ho K
  | lrem => obtain rfl : len = 1 := len_is hl; exact s_b2E (f := lRem) (fun h kk => lv_lrem hx hb hd h kk) ho K
  | lshl => obtain rfl : len = 1 := len_is hl; exact s_b2S (f := lShl) (fun kk => lv_lshl hx hb hd rfl kk) ho K
  | lshr => obtain rfl : len = 1 := len_is hl; exact s_b2S (f := lShr) (fun kk => lv_lshr hx hb hd rfl kk) ho K
  | lushr => obtain rfl : len = 1 := len_is hl; exact s_b2S (f := lUshr) (fun kk => lv_lushr hx hb hd rfl kk) ho K
  | lcmp =>
    obtain rfl : len = 1 := len_is hl
    simp only [opI] at ho
    split at ho
    · cases ho; exact s_same (fun kk => W.lcmp hx hb hd kk) (fun h => vkc (show VOK M (.int _) from trivial) (vk2 h)) K
    · cases ho
  | dup =>
    obtain rfl : len = 1 := len_is hl
    simp only [opI] at ho
    split at ho
    · split at ho
      · rename_i hc; cases ho; exact s_same (fun kk => lv_dup hx hb hd (by rw [rv_cat (hO_of F)]; exact hc) kk) (fun h => vkc (h _ List.mem_cons_self) h) K
      · cases ho
    · cases ho
  | dup2 =>
    obtain rfl : len = 1 := len_is hl
    simp only [opI] at ho
    split at ho
    · split at ho
      · rename_i hc; cases ho; exact s_same (fun kk => lv_dup2_11 hx hb hd (by rw [rv_cat (hO_of F)]; exact hc.1) (by rw [rv_cat (hO_of F)]; exact hc.2) kk) (fun h => vkc (h _ List.mem_cons_self) (vkc (vk1 h _ List.mem_cons_self) h)) K
      · cases ho
    · cases ho
  | pop =>
    obtain rfl : len = 1 := len_is hl
    simp only [opI] at ho
    split at ho
    · split at ho
      · rename_i hc; cases ho; exact s_same (fun kk => lv_pop hx hb hd (by rw [rv_cat (hO_of F)]; exact hc) kk) (fun h => vk1 h) K
      · cases ho
    · cases ho
  | goto off =>
    obtain rfl : len = 3 := len_is hl
    simp only [opI] at ho
    split at ho
    · rename_i hc; cases ho; exact s_same (fun kk => lv_goto hx hb hd (jmp_eq hc) kk) (fun h => h) K
    · cases ho
  | ifCond cnd off =>
    obtain rfl : len = 3 := len_is hl
    simp only [opI] at ho
    split at ho
    · split at ho
      · rename_i hc; cases ho; exact s_icc0 F hd hc K
      · cases ho
    · cases ho
  | if_icmp cnd off =>
    obtain rfl : len = 3 := len_is hl
    simp only [opI] at ho
    split at ho
    · split at ho
      · rename_i hc; cases ho; exact s_icc F hd hc K
      · cases ho
    · cases ho
  | ifnull off =>
    obtain rfl : len = 3 := len_is hl
    simp only [opI] at ho
    split at ho
    · split at ho
      · rename_i hc; cases ho; exact s_same (fun kk => lv_ifnullN hx hb hd (jmp_eq hc) kk) (fun h => vk1 h) K
      · cases ho
    · split at ho
      · rename_i hc; cases ho; exact s_same (fun kk => lv_ifnull hx hb hd kk) (fun h => vk1 h) K
      · cases ho
    · cases ho
  | ifnonnull off =>
    obtain rfl : len = 3 := len_is hl
    simp only [opI] at ho
    split at ho
    · split at ho
      · rename_i hc; cases ho; exact s_same (fun kk => lv_ifnonnullN hx hb hd kk) (fun h => vk1 h) K
      · cases ho
    · split at ho
      · rename_i hc; cases ho; exact s_same (fun kk => lv_ifnonnull hx hb hd (jmp_eq hc) kk) (fun h => vk1 h) K
      · cases ho
    · cases ho
  | tableswitch d lo hi offs =>
    simp only [opI] at ho
    split at ho
    · split at ho
      · rename_i hc; cases ho; exact s_tsw F hd hc K
      · cases ho
    · cases ho
  | lookupswitch d ps =>
    simp only [opI] at ho
    split at ho
    · split at ho
      · rename_i hc; cases ho; exact s_lsw F hd hc K
      · cases ho
    · cases ho
  | invokevirtual x => exact s_inv (kind := 0) F hn hroom0 ⟨(fun h => by cases h), (fun h => by cases h)⟩ ho K
  | invokestatic x => obtain rfl : len = 3 := len_is hl; exact s_inv (kind := 1) F hn hroom0 ⟨(fun _ => hd), (fun h => by cases h)⟩ ho K
  | invokespecial x => obtain rfl : len = 3 := len_is hl; exact s_inv (kind := 2) F hn hroom0 ⟨(fun h => by cases h), (fun _ => hd)⟩ ho K
  | ireturn =>
    simp only [opI] at ho
    split at ho
    · split at ho <;> cases ho
    · cases ho
  | lreturn =>
    simp only [opI] at ho
    split at ho
    · split at ho <;> cases ho
    · cases ho
  | areturn =>
    simp only [opI] at ho
    split at ho
    · split at ho <;> cases ho
    · split at ho <;> cases ho
    · cases ho
  | return_ =>
    simp only [opI] at ho
    split at ho
    · split at ho <;> cases ho
    · cases ho
  | _ => cases ho
/-- a return ends the method -/
theorem ret_sound {i : Instr} {v : Option Value} {Qc : Array Value → State → Outcome → State → Prop} {free : Addr → Prop} (F : FR X k n0 p R s m meth c args) (hret : meth.sig.returnType = ret_ k) (hlocks : meth.locks = false) (hd : decode (cod k) pc = .ok (i, len)) (ho : opS k i len pc ls st M = some (.inr (.inr (v, M')))) (hQ : ∀ (H : Heap) (t : State), t.heap = H → REL X M H → s.WarmedH t.vm → (∀ r, v = some r → VOK M r) → (∀ locs, va_S (AB X) s.heap H locs → Qc args s (.returned (v.map (rv X))) t)) (hf : ∀ q, AB X q → free q) :
    M' = M ∧ SC p l e R s m args below meth c X k n0 (MQ below Qc args s (mN M - n0) (slN (mN M) - slN n0) free) (pc, ls, st, M) := by
  unfold opS at ho
  split at ho
  case isFalse => cases ho
  rename_i hl
  have hx := F.1.1
  have hb := F.1.2.1
  cases i with
  | ireturn =>
    obtain rfl : len = 1 := len_is hl
    simp only [opI] at ho
    split at ho
    · rename_i y
      split at ho
      · rename_i hc
        cases ho
        refine ⟨rfl, fun H sl locs h1 h2 h3 h4 h5 => ?_⟩
        have key : ∀ ty, ret_ k = some ty → narrow ty (.int y) = .int y → W p l e R s m args below meth c H locs (mN M - n0) (slN (mN M) - slN n0) (MQ below Qc args s (mN M - n0) (slN (mN M) - slN n0) free) (F0 m pc sl [.int y]) := fun ty e1 e2 =>
          W.zret hx hb (hret.trans e1) e2 (fun t ht hW => hQ H t ht h4 hW (fun r hr => by cases hr; exact trivial) locs h5) (fun q hq => hf _ (h5.2.2 q hq)) hd hlocks
        cases hr : ret_ k with
        | none => rw [hr] at hc; cases hc
        | some ty =>
          rw [hr] at hc
          cases ty <;> simp only [narB] at hc <;> first | exact key _ hr rfl | (refine key _ hr ?_; simp only [narrow]; rw [beq_iff_eq.mp hc]) | cases hc
      · cases ho
    · cases ho
  | lreturn =>
    obtain rfl : len = 1 := len_is hl
    simp only [opI] at ho
    split at ho
    · rename_i y
      split at ho
      · rename_i hc
        cases ho
        exact ⟨rfl, fun H sl locs h1 h2 h3 h4 h5 => W.lret hx hb (hret.trans hc) (fun t ht hW => hQ H t ht h4 hW (fun r hr => by cases hr; exact trivial) locs h5) (fun q hq => hf _ (h5.2.2 q hq)) hd hlocks⟩
      · cases ho
    · cases ho
  | areturn =>
    obtain rfl : len = 1 := len_is hl
    simp only [opI] at ho
    have key : ∀ (w : Value), isRT (ret_ k) = true → (rv X w = .null ∨ ∃ a, rv X w = .ref a) → v = some w → VOK M w → ∀ (H : Heap) (sl : Array Slot) (locs : List Loc), REL X M H → va_S (AB X) s.heap H locs → W p l e R s m args below meth c H locs (mN M - n0) (slN (mN M) - slN n0) (MQ below Qc args s (mN M - n0) (slN (mN M) - slN n0) free) (F0 m pc sl [rv X w]) := by
      intro w hc hw hv hvw H sl locs h4 h5
      subst hv
      cases hr : ret_ k with
      | none => rw [hr] at hc; cases hc
      | some ty =>
        rw [hr] at hc
        refine W.aret hx hb (hret.trans hr) ?_ hw (fun t ht hW => hQ H t ht h4 hW (fun r hr => by cases hr; exact hvw) locs h5) (fun q hq => hf _ (h5.2.2 q hq)) hd hlocks
        cases ty <;> simp only [isRT] at hc <;> first | exact Or.inl ⟨_, rfl⟩ | exact Or.inr ⟨_, rfl⟩ | cases hc
    split at ho
    · rename_i y
      split at ho
      · rename_i hc
        cases ho
        exact ⟨rfl, fun H sl locs h1 h2 h3 h4 h5 => key (.ref y) hc (Or.inr ⟨_, rfl⟩) rfl (h3.2 _ List.mem_cons_self) H sl locs h4 h5⟩
      · cases ho
    · split at ho
      · rename_i hc
        cases ho
        exact ⟨rfl, fun H sl locs h1 h2 h3 h4 h5 => key .null hc (Or.inl rfl) rfl trivial H sl locs h4 h5⟩
      · cases ho
    · cases ho
  | return_ =>
    obtain rfl : len = 1 := len_is hl
    simp only [opI] at ho
    split at ho
    · split at ho
      · rename_i hc
        cases ho
        exact ⟨rfl, fun H sl locs h1 h2 h3 h4 h5 => W.vret hx hb (hret.trans hc) (fun t ht hW => hQ H t ht h4 hW (fun r hr => by cases hr) locs h5) (fun q hq => hf _ (h5.2.2 q hq)) hd hlocks⟩
      · cases ho
    · cases ho
  | _ => simp only [opI, ldA, ldI, ldL, stI, stL, stA, b2I, b2D, b2L, b2E, b2S, u1I, ivk, acpy, nx] at ho <;> (repeat' split at ho) <;> cases ho
end Steps7
