section Steps5
variable {p : Program} {l : Launch} {e : Env} {R : Room} {s : State} {m : MethodId} {args : Array Value} {below : List Frame} {meth : Method} {c : Code} {X : CX} {k n0 : Nat} {Q : State → Prop}
variable {pc pc' len j x : Nat} {ls ls' st st' : List Value} {M M' : MM} {cf' : CF}
theorem cI_same {a i b j n : Nat} : Same M (cI M a i b j n) b := ⟨rfl, fun z hz i' => ⟨by simp [mI, cI, cp2, hz], rfl, rfl⟩⟩
theorem cL_same {a i b j n : Nat} : Same M (cL M a i b j n) b := ⟨rfl, fun z hz i' => ⟨rfl, by simp [mL, cL, cp2, hz], rfl⟩⟩
theorem link_of (F : FR X k n0 p R s m meth c args) {y : Nat} (hq : mth (own_ k) x = some y) (hy : 1000 ≤ y) : (Cond.methodLink (oN (own_ k)) x (yOf y)).before args s = true := by
  obtain ⟨h1, -⟩ := mth_ok hq
  rcases h1 with h1 | ⟨host, h1, h2⟩
  · exact F.2.2.1 _ h1
  · omega
theorem s_acpy (F : FR X k n0 p R s m meth c args) (hn : n0 ≤ mN M) (hd : decode (cod k) pc = .ok (.invokestatic x, 3)) (hq : mth (own_ k) x = some 1001) (ho : acpy pc ls st M = some (.inl cf')) (K : SC p l e R s m args below meth c X k n0 Q cf') : SC p l e R s m args below meth c X k n0 Q (pc, ls, st, M) := by
  unfold acpy at ho
  split at ho
  · rename_i n dp b sp a r
    split at ho
    · rename_i hc
      obtain ⟨⟨g1, g2, g3⟩, g4, g5, g6⟩ := hc
      have hlk := link_of F hq (by omega)
      obtain ⟨w1, w2, w3⟩ := wm_cpy
      split at ho
      · rename_i ht
        cases ho
        intro H sl locs h1 h2 h3 h4 h5
        have hb : b < mN M := vk2 h3.2 _ List.mem_cons_self
        have ha : a < mN M := vk2 (vk2 h3.2) _ List.mem_cons_self
        have hla : 21 ≤ a := tag_lo (by omega)
        have hlb : 21 ≤ b := tag_lo (by omega)
        refine va_copyi (ty := .int) (f := fun j => mI M a j) (g := fun j => mI M b j) F.1.1 F.1.2.1 (F.1.2.2.trans h2.1.symm) F.2.1 hlk (F.2.2.1 _ w1) (F.2.2.1 _ w2) (F.2.2.1 _ w3) F.2.2.2.1.1.1 h4.2.1 ws_D h5 (a - 21) (b - 21) 0 0 (by rw [ws_get hla ha, EW_arr ht.1 (by omega)]; rfl) (by rw [ws_get hlb hb, EW_arr ht.2 (by omega)]; rfl) rfl rfl rfl g1 g2 g3 g4 g5 (fun _ _ => rfl) F.2.2.2.2.2.1.1 (by rw [cat_map (hO_of F)]; have := F.2.2.2.2.2.1.2; have e7 : nativeFrameWords "java/lang/System" "arraycopy" 5 = 7 := (by decide); rw [e7]; omega) hd (fun H1 locs1 hP1 _ hS1 => sc_set F hn hlb hb cI_same (by intro z i q hz; exact h4.2.2.2.1 z i q hz) ?_ h4.2.2.1 h4.2.2.2.2 K h1 h2 ⟨h3.1, vk3 (vk2 h3.2)⟩ hP1 hS1)
        rw [EW_arr ht.2 (by omega)]
        simp [mI, cI, cp2]
        rfl
      · split at ho
        · rename_i ht
          cases ho
          intro H sl locs h1 h2 h3 h4 h5
          have hb : b < mN M := vk2 h3.2 _ List.mem_cons_self
          have ha : a < mN M := vk2 (vk2 h3.2) _ List.mem_cons_self
          have hla : 21 ≤ a := tag_lo (by omega)
          have hlb : 21 ≤ b := tag_lo (by omega)
          refine va_copyl (ty := .long) (f := fun j => mL M a j) (g := fun j => mL M b j) F.1.1 F.1.2.1 (F.1.2.2.trans h2.1.symm) F.2.1 hlk (F.2.2.1 _ w1) (F.2.2.1 _ w2) (F.2.2.1 _ w3) F.2.2.2.1.1.1 h4.2.1 ws_D h5 (a - 21) (b - 21) 1 1 (by rw [ws_get hla ha, EW_arr ht.1 (by omega)]; rfl) (by rw [ws_get hlb hb, EW_arr ht.2 (by omega)]; rfl) rfl rfl rfl g1 g2 g3 g4 g5 (fun _ _ => rfl) F.2.2.2.2.2.1.1 (by rw [cat_map (hO_of F)]; have := F.2.2.2.2.2.1.2; have e7 : nativeFrameWords "java/lang/System" "arraycopy" 5 = 7 := (by decide); rw [e7]; omega) hd (fun H1 locs1 hP1 _ hS1 => sc_set F hn hlb hb cL_same (by intro z i q hz; exact h4.2.2.2.1 z i q hz) ?_ h4.2.2.1 h4.2.2.2.2 K h1 h2 ⟨h3.1, vk3 (vk2 h3.2)⟩ hP1 hS1)
          rw [EW_arr ht.2 (by omega)]
          simp [mL, cL, cp2]
          rfl
        · cases ho
    · cases ho
  · cases ho
theorem s_objI {a : Nat} {r : List Value} (F : FR X k n0 p R s m meth c args) (hd : decode (cod k) pc = .ok (.invokespecial x, 3)) (hq : mth (own_ k) x = some 1000) (hc : catS r ≤ 8) (K : SC p l e R s m args below meth c X k n0 Q (pc + 3, ls, r, M)) : SC p l e R s m args below meth c X k n0 Q (pc, ls, .ref a :: r, M) := by
  intro H sl locs h1 h2 h3 h4 h5
  have hlk : (Cond.methodLink (oN (own_ k)) x objectInit).before args s = true := link_of F hq (by omega)
  refine W.objInit F.1.1 F.1.2.1 F.2.1 hlk (F.2.2.1 _ wm_obj.1) (F.2.2.1 _ wm_obj.2) (g := F0 m pc sl (.ref (rho X a) :: r.map (rv X))) rfl (h2.1.trans F.1.2.2.symm) rfl hd F.2.2.2.2.2.1.1 (by rw [cat_map (hO_of F)]; have := F.2.2.2.2.2.1.2; show 2 * 0 + _ + _ ≤ _; omega) ?_
  exact K H sl locs h1 h2 ⟨h3.1, vk1 h3.2⟩ h4 h5
theorem s_math (F : FR X k n0 p R s m meth c args) (hcz : n0 ≤ mN M) (hroom : mN M - n0 ≤ R.cells ∧ slN (mN M) - slN n0 ≤ R.slots) (hd : decode (cod k) pc = .ok (.invokestatic x, 3)) {r : List Value} (hc : catS r ≤ 8) :
    (∀ y : Int32, mth (own_ k) x = some 1002 → SC p l e R s m args below meth c X k n0 Q (pc + 3, ls, .int (if 0 ≤ y then y else 0 - y) :: r, M) → SC p l e R s m args below meth c X k n0 Q (pc, ls, .int y :: r, M)) ∧
    (∀ y z : Int32, mth (own_ k) x = some 1003 → SC p l e R s m args below meth c X k n0 Q (pc + 3, ls, .int (if z < y then y else z) :: r, M) → SC p l e R s m args below meth c X k n0 Q (pc, ls, .int y :: .int z :: r, M)) ∧
    (∀ y z : Int32, mth (own_ k) x = some 1004 → SC p l e R s m args below meth c X k n0 Q (pc + 3, ls, .int (if y < z then y else z) :: r, M) → SC p l e R s m args below meth c X k n0 Q (pc, ls, .int y :: .int z :: r, M)) := by
  have hl : (∀ {X : CX}, ((xO X = .null ∨ ∃ a, xO X = .ref a) → ((r.map (rv X)).map fun v => v.category).sum + 13 ≤ R.locals)) := fun hO => by rw [cat_map hO]; have := F.2.2.2.2.2.1.2; omega
  refine ⟨fun y hq K => ?_, fun y z hq K => ?_, fun y z hq K => ?_⟩ <;> intro H sl locs h1 h2 h3 h4 h5
  · exact va_mabs F.1.1 F.1.2.1 (F.1.2.2.trans h2.1.symm) F.2.1 (link_of F hq (by omega)) (F.2.2.1 _ wm_abs.1) (F.2.2.1 _ wm_ini) (F.2.2.1 _ wm_abs.2) F.2.2.2.2.2.1.1 (hl (hO_of F)) hroom.1 hroom.2 hd (K H sl locs h1 h2 ⟨h3.1, vkc trivial (vk1 h3.2)⟩ h4 h5)
  · exact va_mmax F.1.1 F.1.2.1 (F.1.2.2.trans h2.1.symm) F.2.1 (link_of F hq (by omega)) (F.2.2.1 _ wm_max.1) (F.2.2.1 _ wm_ini) (F.2.2.1 _ wm_max.2) F.2.2.2.2.2.1.1 (hl (hO_of F)) hroom.1 hroom.2 hd (K H sl locs h1 h2 ⟨h3.1, vkc trivial (vk2 h3.2)⟩ h4 h5)
  · exact va_mmin F.1.1 F.1.2.1 (F.1.2.2.trans h2.1.symm) F.2.1 (link_of F hq (by omega)) (F.2.2.1 _ wm_min.1) (F.2.2.1 _ wm_ini) (F.2.2.1 _ wm_min.2) F.2.2.2.2.2.1.1 (hl (hO_of F)) hroom.1 hroom.2 hd (K H sl locs h1 h2 ⟨h3.1, vkc trivial (vk2 h3.2)⟩ h4 h5)
theorem ofInt_eq {y : Int32} {a : Int} (h : (Int32.ofInt a).toInt = a) : y = Int32.ofInt a ↔ y.toInt = a := by
  constructor
  · intro q; rw [q, h]
  · intro q; exact Int32.toInt_inj.mp (by rw [h]; exact q)
theorem swT_eq {d : Int} {y : Int32} : ∀ (offs : List Int) (lo : Int), -2147483648 ≤ lo → lo + (offs.length : Int) ≤ 2147483648 →
    (y.toInt < lo ∨ lo + (offs.length : Int) ≤ y.toInt → swT pc d lo offs y = jmp pc d) ∧ (lo ≤ y.toInt → y.toInt < lo + (offs.length : Int) → ∃ o, offs[(y.toInt - lo).toNat]? = some o ∧ swT pc d lo offs y = jmp pc o) := by
  intro offs
  induction offs with
  | nil =>
    intro lo h1 h2
    refine ⟨fun _ => rfl, fun h3 h4 => ?_⟩
    simp at h4
    omega
  | cons o os ih =>
    intro lo h1 h2
    simp only [List.length_cons] at h2 ⊢
    have hlo : (Int32.ofInt lo).toInt = lo := Int32.toInt_ofInt_of_le (by omega) (by omega)
    obtain ⟨i1, i2⟩ := ih (lo + 1) (by omega) (by omega)
    unfold swT
    by_cases hy : y.toInt = lo
    · rw [if_pos ((ofInt_eq hlo).mpr hy)]
      refine ⟨fun h => by omega, fun _ _ => ⟨o, by rw [hy]; simp, rfl⟩⟩
    · rw [if_neg (fun q => hy ((ofInt_eq hlo).mp q))]
      refine ⟨fun h => i1 (by omega), fun h3 h4 => ?_⟩
      obtain ⟨o', g1, g2⟩ := i2 (by omega) (by omega)
      refine ⟨o', ?_, g2⟩
      have : (y.toInt - lo).toNat = (y.toInt - (lo + 1)).toNat + 1 := by omega
      rw [this, List.getElem?_cons_succ]
      exact g1
theorem lkT_eq {d : Int} {y : Int32} : ∀ (ps : List (Int × Int)), (∀ q ∈ ps, (Int32.ofInt q.1).toInt = q.1) → lkT pc d ps y = jmp pc (Op.lookupswitch.offset ps d y.toInt) ∧ (Op.lookupswitch.offset ps d y.toInt = d ∨ ∃ q ∈ ps, Op.lookupswitch.offset ps d y.toInt = q.2) := by
  intro ps
  induction ps with
  | nil => intro _; exact ⟨rfl, Or.inl rfl⟩
  | cons q ps ih =>
    intro h
    obtain ⟨a, o⟩ := q
    have ha := h (a, o) List.mem_cons_self
    dsimp only at ha
    obtain ⟨i1, i2⟩ := ih (fun q hq => h q (List.mem_cons_of_mem _ hq))
    unfold lkT
    rw [Op.lookupswitch.offset_cons]
    by_cases hy : y.toInt = a
    · rw [if_pos ((ofInt_eq ha).mpr hy), if_pos hy.symm]
      exact ⟨rfl, Or.inr ⟨_, List.mem_cons_self, rfl⟩⟩
    · rw [if_neg (fun q => hy ((ofInt_eq ha).mp q)), if_neg (fun q => hy q.symm)]
      exact ⟨i1, i2.imp id (fun ⟨q, h1, h2⟩ => ⟨q, List.mem_cons_of_mem _ h1, h2⟩)⟩
theorem s_tsw {d lo hi : Int} {offs : Array Int} {y : Int32} {r : List Value} (F : FR X k n0 p R s m meth c args) (hd : decode (cod k) pc = .ok (.tableswitch d lo hi offs, len)) (hc : (0 ≤ (pc : Int) + d ∧ offs.toList.all (fun o => decide (0 ≤ (pc : Int) + o)) = true) ∧ (-2147483648 ≤ lo ∧ hi < 2147483648 ∧ hi + 1 - lo = (offs.toList.length : Int)))
    (K : SC p l e R s m args below meth c X k n0 Q (swT pc d lo offs.toList y, ls, r, M)) : SC p l e R s m args below meth c X k n0 Q (pc, ls, .int y :: r, M) := by
  intro H sl locs h1 h2 h3 h4 h5
  have kk := K H sl locs h1 h2 ⟨h3.1, vk1 h3.2⟩ h4 h5
  obtain ⟨⟨c1, c2⟩, c3, c4, c5⟩ := hc
  obtain ⟨e1, e2⟩ := swT_eq (pc := pc) (d := d) (y := y) offs.toList lo c3 (by omega)
  dsimp only at kk
  by_cases hin : lo ≤ y.toInt ∧ y.toInt ≤ hi
  · obtain ⟨o, g1, g2⟩ := e2 hin.1 (by omega)
    rw [g2] at kk
    have hm : o ∈ offs.toList := List.mem_of_getElem? g1
    have hpos : 0 ≤ (pc : Int) + o := of_decide_eq_true (List.all_eq_true.mp c2 o hm)
    exact lv_tableIn F.1.1 F.1.2.1 hd (by omega) (by omega) (by rw [← Array.getElem?_toList]; exact g1) (jmp_eq hpos) kk
  · rw [e1 (by omega)] at kk
    exact lv_tableOut F.1.1 F.1.2.1 hd (by omega) (jmp_eq c1) kk
theorem s_lsw {d : Int} {ps : Array (Int × Int)} {y : Int32} {r : List Value} (F : FR X k n0 p R s m meth c args) (hd : decode (cod k) pc = .ok (.lookupswitch d ps, len)) (hc : (0 ≤ (pc : Int) + d ∧ ps.toList.all (fun o => decide (0 ≤ (pc : Int) + o.2) && decide ((Int32.ofInt o.1).toInt = o.1)) = true) ∧ (ps.toList.zip (ps.toList.drop 1)).all (fun (a, next) => a.1 < next.1) = true)
    (K : SC p l e R s m args below meth c X k n0 Q (lkT pc d ps.toList y, ls, r, M)) : SC p l e R s m args below meth c X k n0 Q (pc, ls, .int y :: r, M) := by
  intro H sl locs h1 h2 h3 h4 h5
  have kk := K H sl locs h1 h2 ⟨h3.1, vk1 h3.2⟩ h4 h5
  obtain ⟨⟨c1, c2⟩, c3⟩ := hc
  have c2' : ∀ q ∈ ps.toList, 0 ≤ (pc : Int) + q.2 ∧ (Int32.ofInt q.1).toInt = q.1 := by
    intro q hq
    have := List.all_eq_true.mp c2 q hq
    simpa only [Bool.and_eq_true, decide_eq_true_eq] using this
  obtain ⟨e1, e2⟩ := lkT_eq (pc := pc) (d := d) (y := y) ps.toList (fun q hq => (c2' q hq).2)
  dsimp only at kk
  rw [e1] at kk
  refine lv_lookup F.1.1 F.1.2.1 hd c3 rfl (jmp_eq ?_) kk
  rcases e2 with q | ⟨q, hq, e3⟩
  · rw [q]; exact c1
  · rw [e3]; exact (c2' q hq).1
theorem s_gets {v : Value} (F : FR X k n0 p R s m meth c args) (hd : decode (cod k) pc = .ok (.getstatic x, 3)) (hq : stc (own_ k) x = some v) (K : SC p l e R s m args below meth c X k n0 Q (pc + 3, ls, v :: st, M)) : SC p l e R s m args below meth c X k n0 Q (pc, ls, st, M) := by
  obtain ⟨z1, z2⟩ := F.2.2.2.1.2.2.1
  rcases stc_ok hq with ⟨rfl, hw⟩ | ⟨rfl, hw⟩
  · exact s_push (v := .int 1) (M := M) trivial (fun hS kk => va_gets F.1.1 F.1.2.1 z1 hS F.2.1 (F.2.2.1 _ hw) (fun _ h => h) hd kk) K
  · exact s_push (v := .retAddr 1) (M := M) (by show 1 < 3; decide) (fun hS kk => va_gets F.1.1 F.1.2.1 z2 hS F.2.1 (F.2.2.1 _ hw) (fun _ h => h) hd kk) K
theorem s_ldcs {a : Nat} (F : FR X k n0 p R s m meth c args) (h21 : 21 ≤ mN M) (hd : decode (cod k) pc = .ok (.ldc x, 2)) (hq : str_ (own_ k) x = some a) (K : SC p l e R s m args below meth c X k n0 Q (pc + 2, ls, .ref a :: st, M)) : SC p l e R s m args below meth c X k n0 Q (pc, ls, st, M) := by
  obtain ⟨j, hj, rfl, h1, h2⟩ := str_ok hq
  have hR := F.2.2.2.1.2.1.2 j hj
  rw [← h1, ← h2] at hR
  refine s_push (v := .ref (j + 1)) (by show j + 1 < mN M; omega) (fun hS kk => va_ldcS F.1.1 F.1.2.1 F.2.1 hR hd ?_) K
  have : rho X (j + 1) = xK X j := by unfold rho; rw [if_pos (by omega), if_pos (by omega), if_neg (by omega)]; rfl
  have kk' : W p l e R s m args below meth c _ _ _ _ Q (F0 m (pc + 2) _ (.ref (rho X (j + 1)) :: _)) := kk
  rw [this] at kk'
  exact kk'
end Steps5
