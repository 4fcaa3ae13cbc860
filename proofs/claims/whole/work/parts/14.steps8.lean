/-! ===== a method of the small machine is the machine's ===== -/
theorem nest_form : ∀ w ∈ nestW, ∃ a i x h, w = Cond.methodLinkNest a i x h := by
  intro w hw
  obtain ⟨q, hq, rfl⟩ := List.mem_map.mp hw
  obtain ⟨-, hq2⟩ := List.mem_filter.mp hq
  have hh : ¬ q.2.2 = "" := of_decide_eq_true hq2
  unfold mW
  rw [if_neg hh]
  exact ⟨_, _, _, _, rfl⟩
theorem OKU_mv {X : CX} {u U : State} (hW : u.WarmedH U.vm) (hsz : u.heap.size ≤ U.heap.size) (hq : ∀ a : Nat, a < u.heap.size → ¬ AB X a → U.heap[a]? = u.heap[a]?) (h : OKU X u) : OKU X U := by
  obtain ⟨⟨h1, h2, h3, h4⟩, ⟨h5, h6⟩, ⟨h7, h8⟩, h9, h10, h11, h12⟩ := h
  have hA := hW.alike
  refine ⟨⟨va_K.moved hA h1, fun w hw => ?_, va_AO.moved hA h3, va_AO.moved hA h4⟩, ⟨vk_S.moved hA (vk_S.kept h5 hq), fun j hj => vk_R.warm hW (h6 j hj)⟩, ⟨va_Z.moved hA (va_Z.kept h7 hq), va_Z.moved hA (va_Z.kept h8 hq)⟩, va_X.moved hA (va_X.kept h9 (hq _ (by omega) (fun z => by have : xB X ≤ xb X := z; omega))), h10, by omega, h12⟩
  obtain ⟨a, i, x, hh, rfl⟩ := nest_form w hw
  exact va_Nw.warmM hW (h2 _ hw)
def wsK (k : Nat) : List Cond := Cond.code (nam k) (cod k) (mlo k) (ret_ k) :: wsG
def rmK (d : Nat) (M M' : MM) : Room := { frames := d + 1, cells := mN M' - mN M, slots := slN (mN M') - slN (mN M), locals := 100 * (d + 1) }
def PcK (X : CX) (as : List Value) (M : MM) : Array Value → State → Prop := va_Pc (as.map (rv X)) (fun U => OKU X U ∧ REL X M U.heap ∧ (∀ v ∈ as, VOK M v))
def QcK (X : CX) (v : Option Value) (M' : MM) : Array Value → State → Outcome → State → Prop := fun _ st o t => o = .returned (v.map (rv X)) ∧ REL X M' t.heap ∧ (∀ r, v = some r → VOK M' r) ∧ va_F (AB X) st t
def KM (l : Launch) (X : CX) (d k : Nat) (as : List Value) (M : MM) (v : Option Value) (M' : MM) : Prop := Met l (nam k) (wsK k) (rmK d M M') (PcK X as M) (QcK X v M') (mN M' - mN M) (slN (mN M') - slN (mN M)) (AB X)
theorem PcK_blind {X : CX} {as : List Value} {M : MM} : FrameBlind (PcK X as M) := by
  rintro a U g mk ⟨h1, h2, h3, h4⟩
  exact ⟨h1, OKU_mv (u := U) (U := U.calling g mk a) (State.WarmedH.refl U) (Nat.le_refl _) (fun _ _ _ => rfl) h2, h3, h4⟩
theorem mth_lt : (mthT.all fun q => decide (q.2 < 224) || (decide (1000 ≤ q.2) && decide (q.2 ≤ 1004))) = true := by decide +kernel
theorem wsK_ok {k : Nat} (h : k < 224) : GoodIn wsG (wsK k) := by
  intro w hw
  rcases List.mem_cons.mp hw with rfl | hw
  · exact wsG_ok _ (met_ok h).1
  · exact wsG_ok _ hw
section Steps8
variable {p : Program} {l : Launch} {e : Env} {R : Room} {s : State} {m : MethodId} {args : Array Value} {below : List Frame} {meth : Method} {c : Code} {X : CX} {k n0 : Nat} {Q : State → Prop}
variable {pc pc' len j x : Nat} {ls ls' st st' : List Value} {M M' : MM} {cf' : CF}
theorem va_callK {H : Heap} {locs : List Loc} {cells slots mc ms : Nat} {sl : Array Slot} {st0 rest : List Value} {Qa : State → Outcome → State → Prop} {free A0 : Nat → Prop} (hr : va_Run p l e R s m args below meth c H locs cells slots mc ms (F0 m pc sl st0) rest Qa free) (hS : va_S A0 s.heap H locs) (hf : ∀ q, free q → A0 q) (hF : ∀ (st₀ : State) (o : Outcome) (t : State), Qa st₀ o t → va_F A0 st₀ t)
    (kk : ∀ (v : Option Value) (st₀ t : State) (H1 : Heap) (locs1 : List Loc), t.heap = H1 → Qa st₀ (.returned v) t → va_S A0 s.heap H1 locs1 → W p l e R s m args below meth c H1 locs1 (cells + mc) (slots + ms) Q (F0 m (pc + 3) sl (v.toList ++ rest))) : W p l e R s m args below meth c H locs cells slots Q (F0 m pc sl st0) := by
  intro T hT X
  obtain ⟨v, st₀, t, T', L, h0, X', hL, e1, e2, hq, st⟩ := hr T hT X
  obtain ⟨hz, hk⟩ := hF _ _ _ hq
  rw [h0] at hz hk
  obtain ⟨t2, a1, b1⟩ := kk v st₀ t T'.heap (locs ++ L) e1.symm hq
    ⟨Nat.le_trans hS.1 (by rw [e1]; exact hz), fun q h1 h2 => by rw [e1, hk q (Nat.lt_of_lt_of_le h1 hS.1) h2]; exact hS.2.1 q h1 h2, fun q hq => by
      rcases List.mem_append.mp hq with h | h
      · exact hS.2.2 q h
      · exact hf _ (hL q h)⟩ T' rfl X'
  exact ⟨t2, st t2 a1, b1⟩
theorem call_sound {i : Instr} {d k' : Nat} {as r : List Value} {v : Option Value} {M1 : MM} (F : FR X k n0 p R s m meth c args) (hn : n0 ≤ mN M) (hM : mN M ≤ mN M1) (hroom : mN M1 - n0 ≤ R.cells ∧ slN (mN M1) - slN n0 ≤ R.slots) (hR : d + 2 ≤ R.frames ∧ 100 * (d + 2) ≤ R.locals) (hd : decode (cod k) pc = .ok (i, len)) (ho : opS k i len pc ls st M = some (.inr (.inl (k', as, pc', ls', r, M'))))
    (hK : KM l X d k' as M v M1) (K : SC p l e R s m args below meth c X k n0 Q (pc', ls, v.toList ++ r, M1)) : SC p l e R s m args below meth c X k n0 Q (pc, ls, st, M) := by
  unfold opS at ho
  split at ho
  case isFalse => cases ho
  rename_i hl
  have hx := F.1.1
  have hb := F.1.2.1
  have main : ∀ (kind ix : Nat), ((kind = 0 ∧ decode (cod k) pc = .ok (.invokevirtual ix, 3)) ∨ (kind = 1 ∧ decode (cod k) pc = .ok (.invokestatic ix, 3)) ∨ (kind = 2 ∧ decode (cod k) pc = .ok (.invokespecial ix, 3))) → ivk kind k ix pc ls st M = some (.inr (.inl (k', as, pc', ls', r, M'))) → SC p l e R s m args below meth c X k n0 Q (pc, ls, st, M) := by
    intro kind ix hdd hiv
    unfold ivk at hiv
    split at hiv
    · cases hiv
    · rename_i kk0 hq
      split at hiv
      · split at hiv
        · split at hiv <;> cases hiv
        · cases hiv
      · split at hiv
        · split at hiv
          · simp only [acpy, nx] at hiv
            (repeat' split at hiv) <;> cases hiv
          · cases hiv
        · split at hiv
          · split at hiv
            · split at hiv <;> cases hiv
            · cases hiv
          · split at hiv
            · split at hiv
              · split at hiv <;> cases hiv
              · cases hiv
            · split at hiv
              · split at hiv
                · split at hiv <;> cases hiv
                · cases hiv
              · split at hiv
                · rename_i n1000 n1001 n1002 n1003 n1004 hc
                  split at hiv
                  · rename_i hrc
                    cases hiv
                    obtain ⟨hst, hini, hlen, hargs, hcat, hea⟩ := hc
                    have hlt : k' < 224 := by
                      have := List.all_eq_true.mp mth_lt _ (lookMem hq)
                      simp only [Bool.or_eq_true, Bool.and_eq_true, decide_eq_true_eq] at this
                      omega
                    obtain ⟨w1, w2, w3, w4, ⟨w5, w6, w7⟩, w8, w9, w10, w11⟩ := met_ok hlt
                    have hyk : yOf k' = nam k' := by unfold yOf; rw [if_neg n1000, if_neg n1001, if_neg n1002, if_neg n1003, if_neg n1004]
                    have hstk : st = (st.take (nar k')) ++ st.drop (nar k') := (List.take_append_drop _ _).symm
                    intro H sl locs h1 h2 h3 h4 h5
                    have hall : ∀ z ∈ st, VOK M z := h3.2
                    have hPc : ∀ U : State, U.heap = H → s.WarmedH U.vm → PcK X (st.take (nar k')).reverse M ((st.take (nar k')).reverse.map (rv X)).toArray U := by
                      intro U hU hW
                      refine ⟨rfl, OKU_mv hW (by rw [hU]; exact h5.1) (fun a ha hA => by rw [hU]; exact h5.2.1 a ha hA) F.2.2.2.1, by rw [hU]; exact h4, fun z hz => hall z ?_⟩
                      exact List.mem_of_mem_take (List.mem_reverse.mp hz)
                    have hcat' : 2 * (F0 m pc sl (st.map (rv X))).monitorRoom + (((st.drop (nar k')).map (rv X)).map fun v => v.category).sum ≤ 8 := by
                      rw [cat_map (hO_of F)]
                      show 2 * 0 + _ ≤ 8
                      omega
                    have hroom' : mN M - n0 + (mN M1 - mN M) ≤ R.cells ∧ slN (mN M) - slN n0 + (slN (mN M1) - slN (mN M)) ≤ R.slots := by
                      have e1 := slN_mono hn
                      have e2 := slN_mono hM
                      omega
                    have hS0 : CallFix p m c (cod k) (mlo k) s args wsG (oN (own_ k)) := ⟨hx, hb, F.1.2.2, F.2.1, F.2.2.1⟩
                    have hRR : (rmK d M M1).frames + 1 ≤ R.frames ∧ 8 + (mlo k' + 11) + (rmK d M M1).locals ≤ R.locals := by
                      show d + 1 + 1 ≤ _ ∧ 8 + (mlo k' + 11) + 100 * (d + 1) ≤ _
                      omega
                    have hstack : ∀ (x1 x2 : List Value), st.take (nar k') = x1 → st.drop (nar k') = x2 → st.map (rv X) = (x1.reverse.map (rv X)).reverse ++ x2.map (rv X) := by
                      intro x1 x2 q1 q2
                      rw [← List.map_reverse, List.reverse_reverse, ← List.map_append, ← q1, ← q2, ← hstk]
                    have fin : va_Run p l e R s m args below meth c H locs (mN M - n0) (slN (mN M) - slN n0) (mN M1 - mN M) (slN (mN M1) - slN (mN M)) (F0 m pc sl (st.map (rv X))) ((st.drop (nar k')).map (rv X)) (QcK X v M1 ((st.take (nar k')).reverse.map (rv X)).toArray) (AB X) → W p l e R s m args below meth c H locs (mN M - n0) (slN (mN M) - slN n0) Q (F0 m pc sl (st.map (rv X))) := by
                      intro hrun
                      refine va_callK hrun h5 (fun _ h => h) (fun _ _ _ h => h.2.2.2) (fun v' st₀ t H1 locs1 ht hQ hS1 => ?_)
                      obtain ⟨q1, q2, q3, q4⟩ := hQ
                      cases q1
                      rw [ht] at q2
                      have e1 := slN_mono hn
                      have e2 := slN_mono hM
                      have c1 : mN M - n0 + (mN M1 - mN M) = mN M1 - n0 := by omega
                      have c2 : slN (mN M) - slN n0 + (slN (mN M1) - slN (mN M)) = slN (mN M1) - slN n0 := by omega
                      rw [c1, c2]
                      have kk := K H1 sl locs1 h1 h2 ⟨fun z hz => vok_mono hM (h3.1 z hz), fun z hz => ?_⟩ q2 hS1
                      · have e3 : (v.map (rv X)).toList ++ (st.drop (nar k')).map (rv X) = (v.toList ++ st.drop (nar k')).map (rv X) := by cases v <;> rfl
                        rw [e3]
                        exact kk
                      · have hz' : z ∈ v.toList ++ st.drop (nar k') := hz
                        rcases List.mem_append.mp hz' with g | g
                        · cases v with
                          | none => cases g
                          | some w => rw [List.mem_singleton.mp g]; exact q3 w rfl
                        · exact vok_mono hM (hall z (List.mem_of_mem_drop g))
                    refine fin ?_
                    cases hsta : sta k' with
                    | true =>
                      rw [hsta] at hst w8 w11 
                      have hk1 : kind = 1 := by simpa using hst
                      subst hk1
                      have hdd' : decode (cod k) pc = .ok (.invokestatic ix, 3) := by
                        rcases hdd with ⟨z, -⟩ | ⟨-, z⟩ | ⟨z, -⟩
                        · cases z
                        · exact z
                        · cases z
                      have hpre : PreS s H (PcK X (st.take (nar k')).reverse M) ((st.take (nar k')).reverse.map (rv X)) := ⟨PcK_blind, hPc⟩
                      have hnn : ((st.take (nar k')).reverse.map (rv X)).length = nar k' := by rw [List.length_map]; exact hlen
                      rcases (mth_ok hq).1 with hlk | ⟨host, hlk, -⟩
                      · rw [hyk] at hlk
                        exact va_runS (n := nar k') hS0 hK ⟨callB_of (nar k') F.2.2.1 (wsK_ok hlt) rfl rfl rfl (F.2.2.1 _ w2) (F.2.2.1 _ hlk) ⟨w6, w7, by rw [w8]; rfl⟩ hRR, F.2.2.1 _ (w3 hsta)⟩ hpre rfl hnn h2.1 (hstack _ _ rfl rfl) hcat' hdd' hroom'
                      · rw [hyk] at hlk
                        exact va_runSN (n := nar k') hS0 hK ⟨va_cnB (nar k') F.2.2.1 (wsK_ok hlt) rfl rfl rfl (F.2.2.2.1.1.2.1 _ hlk) (F.2.2.1 _ w2) ⟨w6, w7, by rw [w8]; rfl⟩ hRR, F.2.2.1 _ (w3 hsta), trivial⟩ hpre rfl hnn h2.1 (hstack _ _ rfl rfl) hcat' hdd' hroom'
                    | false =>
                      rw [hsta] at hst w8
                      have hk1 : ¬ kind = 1 := by simpa using hst
                      obtain ⟨v1, v2, v3⟩ := w4 hsta
                      have hrcv := hrc.resolve_left hk1
                      have h1n := w11 hsta
                      -- the receiver
                      cases hrev : (st.take (nar k')).reverse with
                      | nil => rw [hrev] at hlen; simp at hlen; omega
                      | cons b0 As =>
                        rw [hrev] at hrcv hlen hPc
                        cases b0 <;> simp only [rcvB] at hrcv <;> try (cases hrcv; done)
                        rename_i b
                        have hbt : (TY b).1 = own_ k' := by simpa using hrcv
                        have hAs : As.length = nar k' - 1 := by simp at hlen; omega
                        have hbm : VOK M (.ref b) := hall _ (List.mem_of_mem_take (List.mem_reverse.mp (by rw [hrev]; exact List.mem_cons_self)))
                        have htk : st.take (nar k') = (Value.ref b :: As).reverse := by rw [← hrev, List.reverse_reverse]
                        have hstk2 : st.map (rv X) = (As.map (rv X)).reverse ++ .ref (rho X b) :: (st.drop (nar k')).map (rv X) := by
                          rw [hstack _ _ rfl rfl, htk, List.reverse_reverse]
                          simp [rv]
                        have hnn : (As.map (rv X)).length = nar k' - 1 := by rw [List.length_map]; exact hAs
                        have hpre : PreS s H (PcK X (Value.ref b :: As) M) (Value.ref (rho X b) :: As.map (rv X)) := ⟨PcK_blind, hPc⟩
                        rw [hrev] at hK
                        by_cases hin : (nam k').name = "<init>"
                        · have hk2 : kind = 2 := by
                            have : (nam k').name == "<init>" := by simpa using hin
                            rw [this] at hini
                            simpa using hini
                          subst hk2
                          have hdd' : decode (cod k) pc = .ok (.invokespecial ix, 3) := by
                            rcases hdd with ⟨z, -⟩ | ⟨z, -⟩ | ⟨-, z⟩
                            · cases z
                            · cases z
                            · exact z
                          have hrn := v2 hin
                          have hww : wsK k' = Cond.code (nam k') (cod k') (mlo k') none :: wsG := by unfold wsK; rw [hrn]
                          rcases (mth_ok hq).1 with hlk | ⟨host, hlk, -⟩
                          · rw [hyk] at hlk
                            exact va_runI (n := nar k' - 1) hS0 hK ⟨callB_of (nar k' - 1) F.2.2.1 (wsK_ok hlt) hww rfl rfl (F.2.2.1 _ w2) (F.2.2.1 _ hlk) ⟨w6, w7, by rw [w8]; rfl⟩ hRR, hin, F.2.2.1 _ v1⟩ hpre rfl hnn h2.1 hstk2 hcat' hdd' hroom'
                          · rw [hyk] at hlk
                            exact va_runIN (n := nar k' - 1) hS0 hK ⟨va_cnB (nar k' - 1) F.2.2.1 (wsK_ok hlt) hww rfl rfl (F.2.2.2.1.1.2.1 _ hlk) (F.2.2.1 _ w2) ⟨w6, w7, by rw [w8]; rfl⟩ hRR, hin, F.2.2.1 _ v1⟩ hpre rfl hnn h2.1 hstk2 hcat' hdd' hroom'
                        · have hk0 : kind = 0 := by
                            have h9 : ((nam k').name == "<init>") = false := by simpa using hin
                            rw [h9] at hini
                            have h8 : ¬ kind = 2 := by simpa using hini
                            rcases hdd with ⟨z, -⟩ | ⟨z, -⟩ | ⟨z, -⟩
                            · exact z
                            · exact absurd z hk1
                            · exact absurd z h8
                          subst hk0
                          have hdd' : decode (cod k) pc = .ok (.invokevirtual ix, 3) := by
                            rcases hdd with ⟨-, z⟩ | ⟨z, -⟩ | ⟨z, -⟩
                            · exact z
                            · cases z
                            · cases z
                          have hobj : ∃ cellB : Cell, H[rho X b]? = some cellB ∧ cellB.vm.isStatics = false ∧ s.vm.findClass (nam k').cls = some cellB.cls := by
                            rw [w5]
                            have h119 : mN M ≤ 119 := h4.2.2.2.2
                            have hbm' : b < mN M := hbm
                            rcases Nat.lt_or_ge (own_ k') 12 with q | q
                            · have hlo : 21 ≤ b := tag_lo (Or.inl (by rw [hbt]; exact q))
                              have := va_recv (D := xD X) (ci := own_ k') (q0 := b - 21) F.2.2.2.1.1.1 h4.2.1 (vw_at q) (by rw [ws_get hlo hbm', EW_obj hbt q])
                              exact this
                            · have h13 : own_ k' = 13 := by
                                have hz : ∀ z, z < 119 → 12 ≤ (TY z).1 → (TY z).1 < 20 → (TY z).1 = 13 := by decide +kernel
                                have hz2 : ∀ z, z < 224 → own_ z < 20 := by decide +kernel
                                have hbb : (TY b).1 = own_ k' := hbt
                                have := hz b (Nat.lt_of_lt_of_le hbm' h119) (by omega) (by have := hz2 k' hlt; omega)
                                omega
                              rw [h13] at hbt ⊢
                              obtain ⟨a1, a2⟩ := tag_str hbt (Nat.lt_of_lt_of_le hbm' h119)
                              have hrho : rho X b = xK X (b - 1) := by unfold rho; rw [if_pos (by omega), if_pos (by omega), if_neg (by omega)]
                              rw [hrho]
                              exact vk_recv F.2.2.2.1.2.1.1 (by omega) h5
                          have hpreV : PreV s H (nam k').cls (rho X b) (PcK X (Value.ref b :: As) M) (As.map (rv X)) := ⟨PcK_blind, hobj, hPc⟩
                          rcases (mth_ok hq).1 with hlk | ⟨host, hlk, -⟩
                          · rw [hyk] at hlk
                            exact va_runV (n := nar k' - 1) hS0 hK ⟨callB_of (nar k' - 1) F.2.2.1 (wsK_ok hlt) rfl rfl rfl (F.2.2.1 _ w2) (F.2.2.1 _ hlk) ⟨w6, w7, by rw [w8]; rfl⟩ hRR, F.2.2.1 _ v1, F.2.2.1 _ (v3 hin)⟩ hpreV rfl hnn h2.1 hstk2 hcat' hdd' hroom'
                          · rw [hyk] at hlk
                            exact va_runVN (n := nar k' - 1) hS0 hK ⟨va_cnB (nar k' - 1) F.2.2.1 (wsK_ok hlt) rfl rfl rfl (F.2.2.2.1.1.2.1 _ hlk) (F.2.2.1 _ w2) ⟨w6, w7, by rw [w8]; rfl⟩ hRR, F.2.2.1 _ v1, F.2.2.1 _ (v3 hin)⟩ hpreV rfl hnn h2.1 hstk2 hcat' hdd' hroom'
                  · cases hiv
                · cases hiv
  cases i with
  | invokevirtual ix => obtain rfl : len = 3 := len_is hl; exact main 0 ix (Or.inl ⟨rfl, hd⟩) ho
  | invokestatic ix => obtain rfl : len = 3 := len_is hl; exact main 1 ix (Or.inr (Or.inl ⟨rfl, hd⟩)) ho
  | invokespecial ix => obtain rfl : len = 3 := len_is hl; exact main 2 ix (Or.inr (Or.inr ⟨rfl, hd⟩)) ho
  | _ => simp only [opI, ldA, ldI, ldL, stI, stL, stA, b2I, b2D, b2L, b2E, b2S, u1I, nx] at ho <;> (repeat' split at ho) <;> cases ho
end Steps8
