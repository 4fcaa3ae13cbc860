/-! ===== laws with which a program walks code (wip/whole/gen/gen17.py) ===== -/
section Walk
variable {d k pc len o x c j t f : Nat} {cc : ByteArray} {i : Instr} {ls st st' : List Value} {M M' : MM} {Q : Option Value → MM → Prop} {P P1 P2 : Prop}
theorem wnt {v : Value} {pq : Nat} (hc : cod k = cc) (hd : decode cc pc = .ok (i, len)) (ho : opS k i len pc ls st M = some (.inl (pq, ls, v :: st', M))) (h : WP d k (pq, ls, v :: st', M) Q = P) : WP d k (pc, ls, st, M) Q = P := wn hc hd ho h
theorem wcd {C : Prop} {cf : CF} {q : Option (CF ⊕ ((Nat × List Value × Nat × List Value × List Value × MM) ⊕ (Option Value × MM)))} {inst : Decidable C} (hs : stp k cf = @ite _ C inst q none) (h : C → WP d k cf Q = P) : WP d k cf Q = (C ∧ P) := by
  by_cases hC : C
  · rw [h hC]; exact propext ⟨fun p => ⟨hC, p⟩, fun p => p.2⟩
  · rw [if_neg hC] at hs
    rw [wp_no hs]
    exact propext ⟨fun p => p.elim, fun p => hC p.1⟩
/-- fields -/
theorem st_get {a : Nat} (hc : cod k = cc) (hd : decode cc pc = .ok (.getfield x, 3)) (ho : own_ k = o) (hf : fld o x = some (c, j)) : stp k (pc, ls, .ref a :: st, M) = if (TY a).1 = c then nx (pc + 3) ls (gv (FT c j) M a j :: st) M else none := by
  refine stp_of hc hd ?_
  simp only [opS, lenB, opI, ho, hf]
  rfl
theorem x_getf {a : Nat} {v : Value} (hc : cod k = cc) (hd : decode cc pc = .ok (.getfield x, 3)) (ho : own_ k = o) (hf : fld o x = some (c, j)) (hg : gv (FT c j) M a j = v) (ht : (TY a).1 = c) (h : WP d k (pc + 3, ls, v :: st, M) Q = P) : WP d k (pc, ls, .ref a :: st, M) Q = P := by
  rw [wp_nx (c' := (pc + 3, ls, v :: st, M)) (by rw [st_get hc hd ho hf, if_pos ht, hg]; rfl)]
  exact h
theorem x_getfc {a : Nat} {v : Value} (hc : cod k = cc) (hd : decode cc pc = .ok (.getfield x, 3)) (ho : own_ k = o) (hf : fld o x = some (c, j)) (hg : gv (FT c j) M a j = v) (h : (TY a).1 = c → WP d k (pc + 3, ls, v :: st, M) Q = P) : WP d k (pc, ls, .ref a :: st, M) Q = ((TY a).1 = c ∧ P) := wcd (st_get hc hd ho hf) (fun ht => x_getf hc hd ho hf hg ht (h ht))
theorem st_put {a : Nat} {v : Value} (hc : cod k = cc) (hd : decode cc pc = .ok (.putfield x, 3)) (ho : own_ k = o) (hf : fld o x = some (c, j)) (h12 : c < 12 ∧ (FF c j = true → (nam k).name = "<init>" ∧ o = c)) : stp k (pc, ls, v :: .ref a :: st, M) = if (TY a).1 = c then (match pv (FT c j) M a j v with | some M' => nx (pc + 3) ls st M' | none => none) else none := by
  refine stp_of hc hd ?_
  simp only [opS, lenB, opI, ho, hf]
  by_cases ht : (TY a).1 = c
  · rw [if_pos (show ((3 : Nat) == 3) = true from rfl), if_pos ht, if_pos ⟨ht, h12⟩]; rfl
  · rw [if_pos (show ((3 : Nat) == 3) = true from rfl), if_neg ht, if_neg (fun q => ht q.1)]
theorem x_putf {a : Nat} {v : Value} (hc : cod k = cc) (hd : decode cc pc = .ok (.putfield x, 3)) (ho : own_ k = o) (hf : fld o x = some (c, j)) (h12 : c < 12 ∧ (FF c j = true → (nam k).name = "<init>" ∧ o = c)) (hp : pv (FT c j) M a j v = some M') (ht : (TY a).1 = c) (h : WP d k (pc + 3, ls, st, M') Q = P) : WP d k (pc, ls, v :: .ref a :: st, M) Q = P := by
  rw [wp_nx (c' := (pc + 3, ls, st, M')) (by rw [st_put hc hd ho hf h12, if_pos ht, hp]; rfl)]
  exact h
theorem x_putfc {a : Nat} {v : Value} (hc : cod k = cc) (hd : decode cc pc = .ok (.putfield x, 3)) (ho : own_ k = o) (hf : fld o x = some (c, j)) (h12 : c < 12 ∧ (FF c j = true → (nam k).name = "<init>" ∧ o = c)) (hp : pv (FT c j) M a j v = some M') (h : (TY a).1 = c → WP d k (pc + 3, ls, st, M') Q = P) : WP d k (pc, ls, v :: .ref a :: st, M) Q = ((TY a).1 = c ∧ P) := wcd (st_put hc hd ho hf h12) (fun ht => x_putf hc hd ho hf h12 hp ht (h ht))
/-- a boolean field: 0 or 1 -/
theorem x_putz {a : Nat} {y : Int32} (hc : cod k = cc) (hd : decode cc pc = .ok (.putfield x, 3)) (ho : own_ k = o) (hf : fld o x = some (c, j)) (h12 : c < 12 ∧ (FF c j = true → (nam k).name = "<init>" ∧ o = c)) (hb : FT c j = .boolean) (ht : (TY a).1 = c) (h : (y = 0 ∨ y = 1) → WP d k (pc + 3, ls, st, sI M a j y) Q = P) : WP d k (pc, ls, .int y :: .ref a :: st, M) Q = ((y = 0 ∨ y = 1) ∧ P) := by
  have hs := st_put (ls := ls) (st := st) (M := M) (v := .int y) (a := a) hc hd ho hf h12
  rw [if_pos ht, hb] at hs
  by_cases hy : y = 0 ∨ y = 1
  · rw [show pv .boolean M a j (.int y) = some (sI M a j y) by simp [pv, hy]] at hs
    rw [wp_nx hs, h hy]
    exact propext ⟨fun p => ⟨hy, p⟩, fun p => p.2⟩
  · rw [show pv .boolean M a j (.int y) = none by simp [pv, hy]] at hs
    rw [wp_no hs]
    exact propext ⟨fun p => p.elim, fun p => hy p.1⟩
theorem pv_rf {ty : FieldType} {a : Nat} {q : Option Nat} (h : (∃ n, ty = .object n) ∨ ∃ n, ty = .array n) : pv ty M a j (rf q) = some (sR M a j q) := by
  rcases h with ⟨n, rfl⟩ | ⟨n, rfl⟩ <;> cases q <;> rfl
/-- arrays -/
theorem st_ald {a t : Nat} {y : Int32} {v : Value} (hc : cod k = cc) (hi : (i = .iaload ∧ t = 20 ∧ v = .int (mI M a y.toNatClampNeg)) ∨ (i = .laload ∧ t = 21 ∧ v = .long (mL M a y.toNatClampNeg))) (hd : decode cc pc = .ok (i, 1)) (ht : (TY a).1 = t) : stp k (pc, ls, .int y :: .ref a :: st, M) = if inb y (TY a).2 then nx (pc + 1) ls (v :: st) M else none := by
  refine stp_of hc hd ?_
  rcases hi with ⟨rfl, rfl, rfl⟩ | ⟨rfl, rfl, rfl⟩ <;> (simp only [opS, lenB, opI, ht]; simp)
theorem x_iald {a : Nat} {y : Int32} (hc : cod k = cc) (hd : decode cc pc = .ok (.iaload, 1)) (ht : (TY a).1 = 20) (h : inb y (TY a).2 → WP d k (pc + 1, ls, .int (mI M a y.toNatClampNeg) :: st, M) Q = P) : WP d k (pc, ls, .int y :: .ref a :: st, M) Q = (inb y (TY a).2 ∧ P) := by
  have hs := st_ald (ls := ls) (st := st) (M := M) (y := y) hc (Or.inl ⟨rfl, rfl, rfl⟩) hd ht
  refine wcd hs (fun hC => ?_)
  rw [if_pos hC] at hs
  rw [wp_nx hs]
  exact h hC
theorem x_lald {a : Nat} {y : Int32} (hc : cod k = cc) (hd : decode cc pc = .ok (.laload, 1)) (ht : (TY a).1 = 21) (h : inb y (TY a).2 → WP d k (pc + 1, ls, .long (mL M a y.toNatClampNeg) :: st, M) Q = P) : WP d k (pc, ls, .int y :: .ref a :: st, M) Q = (inb y (TY a).2 ∧ P) := by
  have hs := st_ald (ls := ls) (st := st) (M := M) (y := y) hc (Or.inr ⟨rfl, rfl, rfl⟩) hd ht
  refine wcd hs (fun hC => ?_)
  rw [if_pos hC] at hs
  rw [wp_nx hs]
  exact h hC
theorem x_bald {a : Nat} {y : Int32} (hc : cod k = cc) (hd : decode cc pc = .ok (.baload, 1)) (ht : isB (TY a).1 = true) (h : inb y (TY a).2 → WP d k (pc + 1, ls, .int (mI M a y.toNatClampNeg) :: st, M) Q = P) : WP d k (pc, ls, .int y :: .ref a :: st, M) Q = (inb y (TY a).2 ∧ P) := by
  have hs : stp k (pc, ls, .int y :: .ref a :: st, M) = if inb y (TY a).2 then nx (pc + 1) ls (.int (mI M a y.toNatClampNeg) :: st) M else none := by
    refine stp_of hc hd ?_
    simp only [opS, lenB, opI, ht]; simp
  refine wcd hs (fun hC => ?_)
  rw [if_pos hC] at hs
  rw [wp_nx hs]
  exact h hC
theorem x_aald {a : Nat} {y : Int32} (hc : cod k = cc) (hd : decode cc pc = .ok (.aaload, 1)) (ht : (TY a).1 = 24 ∨ (TY a).1 = 25) (h : inb y (TY a).2 → WP d k (pc + 1, ls, rf (mR M a y.toNatClampNeg) :: st, M) Q = P) : WP d k (pc, ls, .int y :: .ref a :: st, M) Q = (inb y (TY a).2 ∧ P) := by
  have hs : stp k (pc, ls, .int y :: .ref a :: st, M) = if inb y (TY a).2 then nx (pc + 1) ls (rf (mR M a y.toNatClampNeg) :: st) M else none := by
    refine stp_of hc hd ?_
    simp only [opS, lenB, opI, ht]; simp
  refine wcd hs (fun hC => ?_)
  rw [if_pos hC] at hs
  rw [wp_nx hs]
  exact h hC
theorem x_sld {y : Int32} (hc : cod k = cc) (hd : decode cc pc = .ok (.iaload, 1)) (h : inb y (slen M) → WP d k (pc + 1, ls, .int (mI M 0 y.toNatClampNeg) :: st, M) Q = P) : WP d k (pc, ls, .int y :: .retAddr 2 :: st, M) Q = (inb y (slen M) ∧ P) := by
  have hs : stp k (pc, ls, .int y :: .retAddr 2 :: st, M) = if inb y (slen M) then nx (pc + 1) ls (.int (mI M 0 y.toNatClampNeg) :: st) M else none := by
    refine stp_of hc hd ?_
    simp only [opS, lenB, opI]; simp
  refine wcd hs (fun hC => ?_)
  rw [if_pos hC] at hs
  rw [wp_nx hs]
  exact h hC
theorem x_iast {a : Nat} {y z : Int32} (hc : cod k = cc) (hd : decode cc pc = .ok (.iastore, 1)) (ht : (TY a).1 = 20) (h : inb y (TY a).2 → WP d k (pc + 1, ls, st, sI M a y.toNatClampNeg z) Q = P) : WP d k (pc, ls, .int z :: .int y :: .ref a :: st, M) Q = (inb y (TY a).2 ∧ P) := by
  have hs : stp k (pc, ls, .int z :: .int y :: .ref a :: st, M) = if inb y (TY a).2 then nx (pc + 1) ls st (sI M a y.toNatClampNeg z) else none := by
    refine stp_of hc hd ?_
    simp only [opS, lenB, opI, ht]; simp
  refine wcd hs (fun hC => ?_)
  rw [if_pos hC] at hs
  rw [wp_nx hs]
  exact h hC
theorem x_bast {a t : Nat} {y z : Int32} (hc : cod k = cc) (hd : decode cc pc = .ok (.bastore, 1)) (ht : (TY a).1 = t) (h2 : t = 22 ∨ t = 23) (h : inb y (TY a).2 → WP d k (pc + 1, ls, st, sI M a y.toNatClampNeg (nbv t z)) Q = P) : WP d k (pc, ls, .int z :: .int y :: .ref a :: st, M) Q = (inb y (TY a).2 ∧ P) := by
  have hs : stp k (pc, ls, .int z :: .int y :: .ref a :: st, M) = if inb y (TY a).2 then nx (pc + 1) ls st (sI M a y.toNatClampNeg (nbv t z)) else none := by
    refine stp_of hc hd ?_
    simp only [opS, lenB, opI, ht, h2]; simp
  refine wcd hs (fun hC => ?_)
  rw [if_pos hC] at hs
  rw [wp_nx hs]
  exact h hC
theorem x_last {a : Nat} {y : Int32} {z : Int64} (hc : cod k = cc) (hd : decode cc pc = .ok (.lastore, 1)) (ht : (TY a).1 = 21) (h : inb y (TY a).2 → WP d k (pc + 1, ls, st, sL M a y.toNatClampNeg z) Q = P) : WP d k (pc, ls, .long z :: .int y :: .ref a :: st, M) Q = (inb y (TY a).2 ∧ P) := by
  have hs : stp k (pc, ls, .long z :: .int y :: .ref a :: st, M) = if inb y (TY a).2 then nx (pc + 1) ls st (sL M a y.toNatClampNeg z) else none := by
    refine stp_of hc hd ?_
    simp only [opS, lenB, opI, ht]; simp
  refine wcd hs (fun hC => ?_)
  rw [if_pos hC] at hs
  rw [wp_nx hs]
  exact h hC
theorem x_aast {a q : Nat} {y : Int32} (hc : cod k = cc) (hd : decode cc pc = .ok (.aastore, 1)) (ht : ((TY a).1 = 24 ∨ (TY a).1 = 25) ∧ (TY q).1 = cmpO (TY a).1 → inb y (TY a).2 → WP d k (pc + 1, ls, st, sR M a y.toNatClampNeg (some q)) Q = P) : WP d k (pc, ls, .ref q :: .int y :: .ref a :: st, M) Q = ((((TY a).1 = 24 ∨ (TY a).1 = 25) ∧ (TY q).1 = cmpO (TY a).1) ∧ (inb y (TY a).2 ∧ P)) := by
  have hs : stp k (pc, ls, .ref q :: .int y :: .ref a :: st, M) = if ((TY a).1 = 24 ∨ (TY a).1 = 25) ∧ (TY q).1 = cmpO (TY a).1 ∧ inb y (TY a).2 then nx (pc + 1) ls st (sR M a y.toNatClampNeg (some q)) else none := by
    refine stp_of hc hd ?_
    simp only [opS, lenB, opI]; simp
  by_cases hC : ((TY a).1 = 24 ∨ (TY a).1 = 25) ∧ (TY q).1 = cmpO (TY a).1 ∧ inb y (TY a).2
  · rw [if_pos hC] at hs
    rw [wp_nx hs, ht ⟨hC.1, hC.2.1⟩ hC.2.2]
    exact propext ⟨fun p => ⟨⟨hC.1, hC.2.1⟩, hC.2.2, p⟩, fun p => p.2.2⟩
  · rw [if_neg hC] at hs
    rw [wp_no hs]
    exact propext ⟨fun p => p.elim, fun p => hC ⟨p.1.1, p.1.2, p.2.1⟩⟩
theorem x_alen {a : Nat} (hc : cod k = cc) (hd : decode cc pc = .ok (.arraylength, 1)) (h : isArr (TY a).1 = true → WP d k (pc + 1, ls, .int (Int32.ofNat (TY a).2) :: st, M) Q = P) : WP d k (pc, ls, .ref a :: st, M) Q = (isArr (TY a).1 = true ∧ P) := by
  have hs : stp k (pc, ls, .ref a :: st, M) = if isArr (TY a).1 = true then nx (pc + 1) ls (.int (Int32.ofNat (TY a).2) :: st) M else none := by
    refine stp_of hc hd ?_
    simp only [opS, lenB, opI]; simp
  refine wcd hs (fun hC => ?_)
  rw [if_pos hC] at hs
  rw [wp_nx hs]
  exact h hC
/-- what a tag must be -/
theorem x_tag {a t : Nat} {cf : CF} (h0 : ¬ (TY a).1 = t → WP d k cf Q = False) (h : (TY a).1 = t → WP d k cf Q = P) : WP d k cf Q = ((TY a).1 = t ∧ P) := by
  by_cases hC : (TY a).1 = t
  · rw [h hC]; exact propext ⟨fun p => ⟨hC, p⟩, fun p => p.2⟩
  · rw [h0 hC]
    exact propext ⟨fun p => p.elim, fun p => hC p.1⟩
theorem x_noI {a : Nat} {y : Int32} (hc : cod k = cc) (hd : decode cc pc = .ok (.iaload, 1)) (h : ¬ (TY a).1 = 20) : WP d k (pc, ls, .int y :: .ref a :: st, M) Q = False := wp_no (stp_of hc hd (by simp only [opS, lenB, opI]; simp [h]))
theorem x_noL {a : Nat} {y : Int32} (hc : cod k = cc) (hd : decode cc pc = .ok (.laload, 1)) (h : ¬ (TY a).1 = 21) : WP d k (pc, ls, .int y :: .ref a :: st, M) Q = False := wp_no (stp_of hc hd (by simp only [opS, lenB, opI]; simp [h]))
theorem x_noIs {a : Nat} {y z : Int32} (hc : cod k = cc) (hd : decode cc pc = .ok (.iastore, 1)) (h : ¬ (TY a).1 = 20) : WP d k (pc, ls, .int z :: .int y :: .ref a :: st, M) Q = False := wp_no (stp_of hc hd (by simp only [opS, lenB, opI]; simp [h]))
theorem x_noLs {a : Nat} {y : Int32} {z : Int64} (hc : cod k = cc) (hd : decode cc pc = .ok (.lastore, 1)) (h : ¬ (TY a).1 = 21) : WP d k (pc, ls, .long z :: .int y :: .ref a :: st, M) Q = False := wp_no (stp_of hc hd (by simp only [opS, lenB, opI]; simp [h]))
/-- a condition of any form that a step has -/
theorem x_cnd {C : Prop} {cf : CF} (h0 : ¬ C → WP d k cf Q = False) (h : C → WP d k cf Q = P) : WP d k cf Q = (C ∧ P) := by
  by_cases hC : C
  · rw [h hC]; exact propext ⟨fun p => ⟨hC, p⟩, fun p => p.2⟩
  · rw [h0 hC]
    exact propext ⟨fun p => p.elim, fun p => hC p.1⟩
theorem x_noB {a : Nat} {y : Int32} (hc : cod k = cc) (hd : decode cc pc = .ok (.baload, 1)) (h : ¬ isB (TY a).1 = true) : WP d k (pc, ls, .int y :: .ref a :: st, M) Q = False := wp_no (stp_of hc hd (by simp only [opS, lenB, opI]; simp [h]))
theorem x_noA {a : Nat} {y : Int32} (hc : cod k = cc) (hd : decode cc pc = .ok (.aaload, 1)) (h : ¬ ((TY a).1 = 24 ∨ (TY a).1 = 25)) : WP d k (pc, ls, .int y :: .ref a :: st, M) Q = False := wp_no (stp_of hc hd (by simp only [opS, lenB, opI]; simp [h]))
theorem x_noBs {a t : Nat} {y z : Int32} (hc : cod k = cc) (hd : decode cc pc = .ok (.bastore, 1)) (h : ¬ ((TY a).1 = 22 ∨ (TY a).1 = 23)) : WP d k (pc, ls, .int z :: .int y :: .ref a :: st, M) Q = False := wp_no (stp_of hc hd (by simp only [opS, lenB, opI]; simp [h]))
/-- division -/
theorem x_div {y : Int32} {v : Value} (hc : cod k = cc) (hd : decode cc pc = .ok (i, 1)) (h0 : opS k i 1 pc ls (.int y :: v :: st) M = @ite _ (y = 0) (instDecidableEqInt32 y 0) none (some (.inl (pc + 1, ls, st', M)))) (h : ¬ y = 0 → WP d k (pc + 1, ls, st', M) Q = P) : WP d k (pc, ls, .int y :: v :: st, M) Q = (¬ y = 0 ∧ P) := by
  have hs := stp_of hc hd h0
  by_cases hC : y = 0
  · rw [if_pos hC] at hs
    rw [wp_no hs]
    exact propext ⟨fun p => p.elim, fun p => p.1 hC⟩
  · rw [if_neg hC] at hs
    rw [wp_nx hs, h hC]
    exact propext ⟨fun p => ⟨hC, p⟩, fun p => p.2⟩
theorem x_ldiv {y : Int64} {v : Value} (hc : cod k = cc) (hd : decode cc pc = .ok (i, 1)) (h0 : opS k i 1 pc ls (.long y :: v :: st) M = @ite _ (y = 0) (instDecidableEqInt64 y 0) none (some (.inl (pc + 1, ls, st', M)))) (h : ¬ y = 0 → WP d k (pc + 1, ls, st', M) Q = P) : WP d k (pc, ls, .long y :: v :: st, M) Q = (¬ y = 0 ∧ P) := by
  have hs := stp_of hc hd h0
  by_cases hC : y = 0
  · rw [if_pos hC] at hs
    rw [wp_no hs]
    exact propext ⟨fun p => p.elim, fun p => p.1 hC⟩
  · rw [if_neg hC] at hs
    rw [wp_nx hs, h hC]
    exact propext ⟨fun p => ⟨hC, p⟩, fun p => p.2⟩
/-- jumps -/
def iccP (cnd : ClassFile.Cond) (y z : Int32) (P1 P2 : Prop) : Prop := match cnd with
  | .eq => if y = z then P1 else P2
  | .ne => if y = z then P2 else P1
  | .lt => if y < z then P1 else P2
  | .ge => if y < z then P2 else P1
  | .gt => if z < y then P1 else P2
  | .le => if z < y then P2 else P1
theorem iccW {cnd : ClassFile.Cond} {y z : Int32} (h1 : WP d k (t, ls, st, M) Q = P1) (h2 : WP d k (f, ls, st, M) Q = P2) : WP d k (icc cnd y z t f, ls, st, M) Q = iccP cnd y z P1 P2 := by
  cases cnd <;> simp only [icc, iccP] <;> split <;> assumption
theorem x_ic0 {cnd : ClassFile.Cond} {off : Int} {y : Int32} (hc : cod k = cc) (hd : decode cc pc = .ok (.ifCond cnd off, 3)) (hp : (pc : Int) + off = (t : Int)) (h1 : WP d k (t, ls, st, M) Q = P1) (h2 : WP d k (pc + 3, ls, st, M) Q = P2) : WP d k (pc, ls, .int y :: st, M) Q = iccP cnd y 0 P1 P2 := by
  have hs : stp k (pc, ls, .int y :: st, M) = some (.inl (icc cnd y 0 t (pc + 3), ls, st, M)) := by
    refine stp_of hc hd ?_
    simp only [opS, lenB, opI, nx, jmp, hp]
    simp
  rw [wp_nx hs]
  exact iccW h1 h2
theorem x_icm {cnd : ClassFile.Cond} {off : Int} {y z : Int32} (hc : cod k = cc) (hd : decode cc pc = .ok (.if_icmp cnd off, 3)) (hp : (pc : Int) + off = (t : Int)) (h1 : WP d k (t, ls, st, M) Q = P1) (h2 : WP d k (pc + 3, ls, st, M) Q = P2) : WP d k (pc, ls, .int z :: .int y :: st, M) Q = iccP cnd y z P1 P2 := by
  have hs : stp k (pc, ls, .int z :: .int y :: st, M) = some (.inl (icc cnd y z t (pc + 3), ls, st, M)) := by
    refine stp_of hc hd ?_
    simp only [opS, lenB, opI, nx, jmp, hp]
    simp
  rw [wp_nx hs]
  exact iccW h1 h2
theorem x_goto {off : Int} (hc : cod k = cc) (hd : decode cc pc = .ok (.goto off, 3)) (hp : (pc : Int) + off = (t : Int)) (h1 : WP d k (t, ls, st, M) Q = P) : WP d k (pc, ls, st, M) Q = P := by
  have hs : stp k (pc, ls, st, M) = some (.inl (t, ls, st, M)) := by
    refine stp_of hc hd ?_
    simp only [opS, lenB, opI, nx, jmp, hp]
    simp
  rw [wp_nx hs]
  exact h1
theorem x_ifn {off : Int} {q : Option Nat} {F : Nat → Prop} (hc : cod k = cc) (hd : decode cc pc = .ok (.ifnull off, 3)) (hp : (pc : Int) + off = (t : Int)) (h1 : q = none → WP d k (t, ls, st, M) Q = P) (h2 : ∀ a, q = some a → WP d k (pc + 3, ls, st, M) Q = F a) : WP d k (pc, ls, rf q :: st, M) Q = q.elim P F := by
  cases q with
  | none =>
    have hs : stp k (pc, ls, .null :: st, M) = some (.inl (t, ls, st, M)) := by
      refine stp_of hc hd ?_
      simp only [opS, lenB, opI, nx, jmp, hp]
      simp
    rw [show rf none = Value.null from rfl, wp_nx hs]
    exact h1 rfl
  | some a =>
    have hs : stp k (pc, ls, .ref a :: st, M) = some (.inl (pc + 3, ls, st, M)) := by
      refine stp_of hc hd ?_
      simp only [opS, lenB, opI, nx, jmp, hp]
      simp
    rw [show rf (some a) = Value.ref a from rfl, wp_nx hs]
    exact h2 a rfl
theorem x_ifnn {off : Int} {q : Option Nat} {F : Nat → Prop} (hc : cod k = cc) (hd : decode cc pc = .ok (.ifnonnull off, 3)) (hp : (pc : Int) + off = (t : Int)) (h1 : q = none → WP d k (pc + 3, ls, st, M) Q = P) (h2 : ∀ a, q = some a → WP d k (t, ls, st, M) Q = F a) : WP d k (pc, ls, rf q :: st, M) Q = q.elim P F := by
  cases q with
  | none =>
    have hs : stp k (pc, ls, .null :: st, M) = some (.inl (pc + 3, ls, st, M)) := by
      refine stp_of hc hd ?_
      simp only [opS, lenB, opI, nx, jmp, hp]
      simp
    rw [show rf none = Value.null from rfl, wp_nx hs]
    exact h1 rfl
  | some a =>
    have hs : stp k (pc, ls, .ref a :: st, M) = some (.inl (t, ls, st, M)) := by
      refine stp_of hc hd ?_
      simp only [opS, lenB, opI, nx, jmp, hp]
      simp
    rw [show rf (some a) = Value.ref a from rfl, wp_nx hs]
    exact h2 a rfl
theorem x_swc {lo dd oo : Int} {os : List Int} {y v : Int32} (hl : Int32.ofInt lo = v) (hp : (pc : Int) + oo = (t : Int)) (h1 : WP d k (t, ls, st, M) Q = P1) (h2 : WP d k (swT pc dd (lo + 1) os y, ls, st, M) Q = P2) : WP d k (swT pc dd lo (oo :: os) y, ls, st, M) Q = (if y = v then P1 else P2) := by
  subst hl
  rw [swT]
  have : jmp pc oo = t := by unfold jmp; rw [hp]; rfl
  rw [this]
  exact wit h1 h2
theorem x_swn {lo dd : Int} {y : Int32} (hp : (pc : Int) + dd = (t : Int)) (h1 : WP d k (t, ls, st, M) Q = P) : WP d k (swT pc dd lo [] y, ls, st, M) Q = P := by
  have : jmp pc dd = t := by unfold jmp; rw [hp]; rfl
  rw [swT, this]
  exact h1
theorem x_lkc {a dd oo : Int} {os : List (Int × Int)} {y v : Int32} (hl : Int32.ofInt a = v) (hp : (pc : Int) + oo = (t : Int)) (h1 : WP d k (t, ls, st, M) Q = P1) (h2 : WP d k (lkT pc dd os y, ls, st, M) Q = P2) : WP d k (lkT pc dd ((a, oo) :: os) y, ls, st, M) Q = (if y = v then P1 else P2) := by
  subst hl
  rw [lkT]
  have : jmp pc oo = t := by unfold jmp; rw [hp]; rfl
  rw [this]
  exact wit h1 h2
theorem x_lkn {dd : Int} {y : Int32} (hp : (pc : Int) + dd = (t : Int)) (h1 : WP d k (t, ls, st, M) Q = P) : WP d k (lkT pc dd [] y, ls, st, M) Q = P := by
  have : jmp pc dd = t := by unfold jmp; rw [hp]; rfl
  rw [lkT, this]
  exact h1
theorem x_tsw {dd lo hi : Int} {offs : Array Int} {os : List Int} {y : Int32} (hc : cod k = cc) (hd : decode cc pc = .ok (.tableswitch dd lo hi offs, len)) (hos : offs.toList = os) (hb : (decide (0 ≤ (pc : Int) + dd) && os.all (fun o => decide (0 ≤ (pc : Int) + o)) && decide (-2147483648 ≤ lo) && decide (hi < 2147483648) && decide (hi + 1 - lo = (os.length : Int))) = true) (h : WP d k (swT pc dd lo os y, ls, st, M) Q = P) : WP d k (pc, ls, .int y :: st, M) Q = P := by
  subst hos
  simp only [Bool.and_eq_true, decide_eq_true_eq] at hb
  have hs : stp k (pc, ls, .int y :: st, M) = some (.inl (swT pc dd lo offs.toList y, ls, st, M)) := by
    refine stp_of hc hd ?_
    simp only [opS, lenB, opI, nx]
    rw [if_pos trivial, if_pos ⟨⟨hb.1.1.1.1, hb.1.1.1.2⟩, hb.1.1.2, hb.1.2, hb.2⟩]
  rw [wp_nx hs]
  exact h
theorem x_lsw {dd : Int} {ps : Array (Int × Int)} {os : List (Int × Int)} {y : Int32} (hc : cod k = cc) (hd : decode cc pc = .ok (.lookupswitch dd ps, len)) (hos : ps.toList = os) (hb : (decide (0 ≤ (pc : Int) + dd) && os.all (fun o => decide (0 ≤ (pc : Int) + o.2) && decide ((Int32.ofInt o.1).toInt = o.1)) && (os.zip (os.drop 1)).all (fun (a, next) => a.1 < next.1)) = true) (h : WP d k (lkT pc dd os y, ls, st, M) Q = P) : WP d k (pc, ls, .int y :: st, M) Q = P := by
  subst hos
  simp only [Bool.and_eq_true, decide_eq_true_eq] at hb
  have hs : stp k (pc, ls, .int y :: st, M) = some (.inl (lkT pc dd ps.toList y, ls, st, M)) := by
    refine stp_of hc hd ?_
    simp only [opS, lenB, opI, nx]
    rw [if_pos trivial, if_pos ⟨⟨hb.1.1, hb.1.2⟩, hb.2⟩]
  rw [wp_nx hs]
  exact h
/-- references that may be null -/
theorem rf_cat (q : Option Nat) : (rf q).category = 1 := by cases q <;> rfl
theorem o_ldaR {q : Option Nat} {pq : Nat} (h : ls[j]? = some (rf q)) : ldA pq j ls st M = some (.inl (pq, ls, rf q :: st, M)) := by
  unfold ldA; rw [h]; cases q <;> rfl
theorem o_staR {q : Option Nat} {pq : Nat} (h : j < ls.length) : stA pq j ls (rf q :: st) M = some (.inl (pq, st1 ls j (rf q), st, M)) := by
  unfold stA; cases q <;> simp only [rf] <;> rw [if_pos h] <;> rfl
theorem x_xref {q : Option Nat} {F : Nat → Prop} {G : Value → Prop} (hn : G .null = False) (hs : ∀ a, q = some a → G (.ref a) = F a) : G (rf q) = ∃ a, q = some a ∧ F a := by
  cases q with
  | none => rw [show rf none = Value.null from rfl, hn]; exact propext ⟨fun h => h.elim, fun ⟨q, h, _⟩ => by cases h⟩
  | some a => rw [show rf (some a) = Value.ref a from rfl, hs a rfl]; exact propext ⟨fun h => ⟨a, rfl, h⟩, fun ⟨q, h, p⟩ => by cases h; exact p⟩
/-- calls -/
theorem iv_call {kind k' n mm : Nat} {a r as : List Value} (ho : own_ k = o) (hm : mth o x = some k') (hk : k' < 1000) (hf : sta k' = (kind == 1) ∧ ((nam k').name == "<init>") = (kind == 2) ∧ nar k' = n ∧ mlo k' = mm) (ha : st.take n = a) (hr : st.drop n = r) (has : a.reverse = as) (hb : (decide (a.length = n) && a.all argB && decide ((ea as).length ≤ mm) && decide (catS r ≤ 8)) = true) :
    ivk kind k x pc ls st M = if kind = 1 ∨ rcvB as (own_ k') = true then some (.inr (.inl (k', as, pc + 3, ls, r, M))) else none := by
  obtain ⟨f1, f2, f3, f4⟩ := hf
  simp only [Bool.and_eq_true, decide_eq_true_eq] at hb
  unfold ivk
  rw [ho, hm]
  dsimp only
  rw [if_neg (by omega), if_neg (by omega), if_neg (by omega), if_neg (by omega), if_neg (by omega), f3, ha, hr, has]
  rw [if_pos]
  refine ⟨f1.symm, f2.symm, ?_, hb.1.1.2, hb.2, by rw [f4]; exact hb.1.2⟩
  rw [← has, List.length_reverse]
  exact hb.1.1.1
theorem x_callS {k' n mm : Nat} {a r as : List Value} (hc : cod k = cc) (hd : decode cc pc = .ok (.invokestatic x, 3)) (ho : own_ k = o) (hm : mth o x = some k') (hk : k' < 1000) (hf : sta k' = true ∧ ((nam k').name == "<init>") = false ∧ nar k' = n ∧ mlo k' = mm) (ha : st.take n = a) (hr : st.drop n = r) (has : a.reverse = as) (hb : (decide (a.length = n) && a.all argB && decide ((ea as).length ≤ mm) && decide (catS r ≤ 8)) = true) :
    WP (d + 1) k (pc, ls, st, M) Q = CL d k' as M (fun v M' => WP (d + 1) k (pc + 3, ls, v.toList ++ r, M') Q) := by
  have h := iv_call (kind := 1) (pc := pc) (ls := ls) (M := M) ho hm hk hf ha hr has hb
  rw [if_pos (Or.inl rfl)] at h
  exact wp_call (stp_of hc hd h)
theorem iv_callV {kind k' n mm ow b : Nat} {a r as : List Value} (h1 : ¬ kind = 1) (ho : own_ k = o) (hm : mth o x = some k') (hk : k' < 1000) (hf : sta k' = false ∧ ((nam k').name == "<init>") = (kind == 2) ∧ nar k' = n ∧ mlo k' = mm) (how : own_ k' = ow) (ha : st.take n = a) (hr : st.drop n = r) (has : a.reverse = .ref b :: as) (hb : (decide (a.length = n) && a.all argB && decide ((ea (.ref b :: as)).length ≤ mm) && decide (catS r ≤ 8)) = true) :
    ivk kind k x pc ls st M = if (TY b).1 = ow then some (.inr (.inl (k', .ref b :: as, pc + 3, ls, r, M))) else none := by
  have hk1 : (kind == 1) = false := by simpa using h1
  rw [iv_call (kind := kind) ho hm hk ⟨by rw [hk1]; exact hf.1, hf.2⟩ ha hr has hb, how]
  have e : (kind = 1 ∨ rcvB (.ref b :: as) ow = true) ↔ (TY b).1 = ow := by
    simp [rcvB, h1]
  by_cases h : (TY b).1 = ow
  · rw [if_pos h, if_pos (e.mpr h)]
  · rw [if_neg h, if_neg (fun q => h (e.mp q))]
theorem x_callV {k' n mm ow b : Nat} {a r as : List Value} (hc : cod k = cc) (hd : decode cc pc = .ok (.invokevirtual x, 3)) (ho : own_ k = o) (hm : mth o x = some k') (hk : k' < 1000) (hf : sta k' = false ∧ ((nam k').name == "<init>") = false ∧ nar k' = n ∧ mlo k' = mm) (how : own_ k' = ow) (ht : (TY b).1 = ow) (ha : st.take n = a) (hr : st.drop n = r) (has : a.reverse = .ref b :: as) (hb : (decide (a.length = n) && a.all argB && decide ((ea (.ref b :: as)).length ≤ mm) && decide (catS r ≤ 8)) = true) :
    WP (d + 1) k (pc, ls, st, M) Q = CL d k' (.ref b :: as) M (fun v M' => WP (d + 1) k (pc + 3, ls, v.toList ++ r, M') Q) := by
  have h := iv_callV (kind := 0) (pc := pc) (ls := ls) (M := M) (by decide) ho hm hk hf how ha hr has hb
  rw [if_pos ht] at h
  exact wp_call (stp_of hc hd h)
theorem x_noV {k' n mm ow b : Nat} {a r as : List Value} (hc : cod k = cc) (hd : decode cc pc = .ok (.invokevirtual x, 3)) (ho : own_ k = o) (hm : mth o x = some k') (hk : k' < 1000) (hf : sta k' = false ∧ ((nam k').name == "<init>") = false ∧ nar k' = n ∧ mlo k' = mm) (how : own_ k' = ow) (ha : st.take n = a) (hr : st.drop n = r) (has : a.reverse = .ref b :: as) (hb : (decide (a.length = n) && a.all argB && decide ((ea (.ref b :: as)).length ≤ mm) && decide (catS r ≤ 8)) = true) (ht : ¬ (TY b).1 = ow) :
    WP d k (pc, ls, st, M) Q = False := by
  have h := iv_callV (kind := 0) (pc := pc) (ls := ls) (M := M) (by decide) ho hm hk hf how ha hr has hb
  rw [if_neg ht] at h
  exact wp_no (stp_of hc hd h)
theorem x_callI {k' n mm ow b : Nat} {a r as : List Value} (hc : cod k = cc) (hd : decode cc pc = .ok (.invokespecial x, 3)) (ho : own_ k = o) (hm : mth o x = some k') (hk : k' < 1000) (hf : sta k' = false ∧ ((nam k').name == "<init>") = true ∧ nar k' = n ∧ mlo k' = mm) (how : own_ k' = ow) (ht : (TY b).1 = ow) (ha : st.take n = a) (hr : st.drop n = r) (has : a.reverse = .ref b :: as) (hb : (decide (a.length = n) && a.all argB && decide ((ea (.ref b :: as)).length ≤ mm) && decide (catS r ≤ 8)) = true) :
    WP (d + 1) k (pc, ls, st, M) Q = CL d k' (.ref b :: as) M (fun v M' => WP (d + 1) k (pc + 3, ls, v.toList ++ r, M') Q) := by
  have h := iv_callV (kind := 2) (pc := pc) (ls := ls) (M := M) (by decide) ho hm hk hf how ha hr has hb
  rw [if_pos ht] at h
  exact wp_call (stp_of hc hd h)
theorem x_obj {b : Nat} (hc : cod k = cc) (hd : decode cc pc = .ok (.invokespecial x, 3)) (ho : own_ k = o) (hm : mth o x = some 1000) (hb : decide (catS st ≤ 8) = true) (h : WP d k (pc + 3, ls, st, M) Q = P) : WP d k (pc, ls, .ref b :: st, M) Q = P := by
  have hs : stp k (pc, ls, .ref b :: st, M) = some (.inl (pc + 3, ls, st, M)) := by
    refine stp_of hc hd ?_
    simp only [opS, lenB, opI, ivk, ho, hm]
    rw [if_pos (show ((3 : Nat) == 3) = true from rfl), if_pos trivial, if_pos ⟨trivial, of_decide_eq_true hb⟩]
    rfl
  rw [wp_nx hs]
  exact h
theorem x_math {v : Value} {k' : Nat} (hc : cod k = cc) (hd : decode cc pc = .ok (.invokestatic x, 3)) (ho : own_ k = o) (hm : mth o x = some k') (hb : decide (catS st' ≤ 8) = true)
    (hv : (∃ y : Int32, k' = 1002 ∧ st = .int y :: st' ∧ v = .int (if 0 ≤ y then y else 0 - y)) ∨ (∃ y z : Int32, k' = 1003 ∧ st = .int y :: .int z :: st' ∧ v = .int (if z < y then y else z)) ∨ (∃ y z : Int32, k' = 1004 ∧ st = .int y :: .int z :: st' ∧ v = .int (if y < z then y else z))) (h : WP d k (pc + 3, ls, v :: st', M) Q = P) : WP d k (pc, ls, st, M) Q = P := by
  have hs : stp k (pc, ls, st, M) = some (.inl (pc + 3, ls, v :: st', M)) := by
    refine stp_of hc hd ?_
    have hb' := of_decide_eq_true hb
    rcases hv with ⟨y, rfl, rfl, rfl⟩ | ⟨y, z, rfl, rfl, rfl⟩ | ⟨y, z, rfl, rfl, rfl⟩ <;> simp [opS, lenB, opI, ivk, ho, hm, hb', nx]
  rw [wp_nx hs]
  exact h
theorem x_cpy {a b : Nat} {sp dp n : Int32} (hc : cod k = cc) (hd : decode cc pc = .ok (.invokestatic x, 3)) (ho : own_ k = o) (hm : mth o x = some 1001) (hb : decide (catS st ≤ 8) = true) (hM : (t = 20 ∧ M' = cI M a sp.toNatClampNeg b dp.toNatClampNeg n.toNatClampNeg) ∨ (t = 21 ∧ M' = cL M a sp.toNatClampNeg b dp.toNatClampNeg n.toNatClampNeg)) (hta : (TY a).1 = t) (htb : (TY b).1 = t)
    (h : (¬ sp < 0 ∧ ¬ dp < 0 ∧ ¬ n < 0) ∧ sp.toNatClampNeg + n.toNatClampNeg ≤ (TY a).2 ∧ dp.toNatClampNeg + n.toNatClampNeg ≤ (TY b).2 → WP d k (pc + 3, ls, st, M') Q = P) : WP d k (pc, ls, .int n :: .int dp :: .ref b :: .int sp :: .ref a :: st, M) Q = (((¬ sp < 0 ∧ ¬ dp < 0 ∧ ¬ n < 0) ∧ sp.toNatClampNeg + n.toNatClampNeg ≤ (TY a).2 ∧ dp.toNatClampNeg + n.toNatClampNeg ≤ (TY b).2) ∧ P) := by
  have hb' := of_decide_eq_true hb
  have e : stp k (pc, ls, .int n :: .int dp :: .ref b :: .int sp :: .ref a :: st, M) = if (¬ sp < 0 ∧ ¬ dp < 0 ∧ ¬ n < 0) ∧ sp.toNatClampNeg + n.toNatClampNeg ≤ (TY a).2 ∧ dp.toNatClampNeg + n.toNatClampNeg ≤ (TY b).2 then some (.inl (pc + 3, ls, st, M')) else none := by
    refine stp_of hc hd ?_
    rcases hM with ⟨rfl, rfl⟩ | ⟨rfl, rfl⟩ <;> (simp only [opS, lenB, opI, ivk, acpy, ho, hm, hta, htb, hb', and_true, nx]; simp)
  by_cases hC : (¬ sp < 0 ∧ ¬ dp < 0 ∧ ¬ n < 0) ∧ sp.toNatClampNeg + n.toNatClampNeg ≤ (TY a).2 ∧ dp.toNatClampNeg + n.toNatClampNeg ≤ (TY b).2
  · rw [if_pos hC] at e
    rw [wp_nx e, h hC]
    exact propext ⟨fun p => ⟨hC, p⟩, fun p => p.2⟩
  · rw [if_neg hC] at e
    rw [wp_no e]
    exact propext ⟨fun p => p.elim, fun p => hC p.1⟩
/-- constants of the pool -/
theorem o_lng {v : Int64} (ho : own_ k = o) (hm : lng o x = some v) : opS k (.ldc2_w x) 3 pc ls st M = some (.inl (pc + 3, ls, .long v :: st, M)) := by simp only [opS, lenB, opI, ho, hm, nx]; rfl
theorem o_cst {v : Int32} (ho : own_ k = o) (hm : cst o x = some v) : opS k (.ldc_w x) 3 pc ls st M = some (.inl (pc + 3, ls, .int v :: st, M)) := by simp only [opS, lenB, opI, ho, hm, nx]; rfl
theorem o_str {a : Nat} (ho : own_ k = o) (hm : str_ o x = some a) : opS k (.ldc x) 2 pc ls st M = some (.inl (pc + 2, ls, .ref a :: st, M)) := by simp only [opS, lenB, opI, ho, hm, nx]; rfl
theorem o_stc {v : Value} (ho : own_ k = o) (hm : stc o x = some v) : opS k (.getstatic x) 3 pc ls st M = some (.inl (pc + 3, ls, v :: st, M)) := by simp only [opS, lenB, opI, ho, hm, nx]; rfl
/-- new cells -/
theorem x_new (hc : cod k = cc) (hd : decode cc pc = .ok (.new x, 3)) (ho : own_ k = o) (hm : cls o x = some c) (h12 : c < 12) (h : TY (mN M) = (c, 0) → WP d k (pc + 3, ls, .ref (mN M) :: st, nw M) Q = P) : WP d k (pc, ls, st, M) Q = (TY (mN M) = (c, 0) ∧ P) := by
  have hs : stp k (pc, ls, st, M) = if TY (mN M) = (c, 0) then some (.inl (pc + 3, ls, .ref (mN M) :: st, nw M)) else none := by
    refine stp_of hc hd ?_
    simp only [opS, lenB, opI, ho, hm, h12, true_and, nx]
    rfl
  exact wcd hs (fun hC => by rw [if_pos hC] at hs; rw [wp_nx hs]; exact h hC)
theorem x_newa {ty : ArrayType} {y : Int32} {L : Nat} (hc : cod k = cc) (hd : decode cc pc = .ok (.newarray ty, 2)) (hL : y.toNatClampNeg = L) (h0 : decide (¬ y < 0) = true) (htg : tagA ty = t) (h : TY (mN M) = (t, L) → WP d k (pc + 2, ls, .ref (mN M) :: st, nw M) Q = P) : WP d k (pc, ls, .int y :: st, M) Q = (TY (mN M) = (t, L) ∧ P) := by
  subst hL
  subst htg
  have h0' := of_decide_eq_true h0
  have hs : stp k (pc, ls, .int y :: st, M) = if TY (mN M) = (tagA ty, y.toNatClampNeg) then some (.inl (pc + 2, ls, .ref (mN M) :: st, nw M)) else none := by
    refine stp_of hc hd ?_
    unfold opS
    rw [if_pos (show lenB (.newarray ty) 2 = true from rfl)]
    simp only [opI, nx]
    by_cases hT : TY (mN M) = (tagA ty, y.toNatClampNeg)
    · rw [if_pos ⟨h0', hT⟩, if_pos hT]
    · rw [if_neg (fun q => hT q.2), if_neg hT]
  exact wcd hs (fun hC => by rw [if_pos hC] at hs; rw [wp_nx hs]; exact h hC)
theorem x_newq {y : Int32} {L : Nat} (hc : cod k = cc) (hd : decode cc pc = .ok (.anewarray x, 3)) (ho : own_ k = o) (hm : cls o x = some c) (hL : y.toNatClampNeg = L) (h0 : decide (¬ y < 0) = true) (htg : tagO c = t) (h : TY (mN M) = (t, L) → WP d k (pc + 3, ls, .ref (mN M) :: st, nw M) Q = P) : WP d k (pc, ls, .int y :: st, M) Q = (TY (mN M) = (t, L) ∧ P) := by
  subst hL
  subst htg
  have h0' := of_decide_eq_true h0
  have hs : stp k (pc, ls, .int y :: st, M) = if TY (mN M) = (tagO c, y.toNatClampNeg) then some (.inl (pc + 3, ls, .ref (mN M) :: st, nw M)) else none := by
    refine stp_of hc hd ?_
    simp only [opS, lenB, opI, ho, hm, nx]
    by_cases hT : TY (mN M) = (tagO c, y.toNatClampNeg)
    · rw [if_pos (show ((3 : Nat) == 3) = true from rfl), if_pos ⟨h0', hT⟩, if_pos hT]
    · rw [if_pos (show ((3 : Nat) == 3) = true from rfl), if_neg (fun q => hT q.2), if_neg hT]
  exact wcd hs (fun hC => by rw [if_pos hC] at hs; rw [wp_nx hs]; exact h hC)
/-- ends -/
theorem x_retI {y : Int32} (hc : cod k = cc) (hd : decode cc pc = .ok (.ireturn, 1)) (hr : ret_ k = some .int) : WP d k (pc, ls, [.int y], M) Q = Q (some (.int y)) M := wp_ret (stp_of hc hd (by simp only [opS, lenB, opI, hr, narB]; rfl))
theorem x_retK {y : Int32} (hc : cod k = cc) (hd : decode cc pc = .ok (.ireturn, 1)) (hr : narB (ret_ k) y = true) : WP d k (pc, ls, [.int y], M) Q = Q (some (.int y)) M := wp_ret (stp_of hc hd (by simp only [opS, lenB, opI, hr]; rfl))
theorem x_retN {y : Int32} {ty : Option FieldType} (hc : cod k = cc) (hd : decode cc pc = .ok (.ireturn, 1)) (hr : ret_ k = ty) : WP d k (pc, ls, [.int y], M) Q = (narB ty y = true ∧ Q (some (.int y)) M) := by
  subst hr
  by_cases h : narB (ret_ k) y = true
  · rw [x_retK hc hd h]; exact propext ⟨fun p => ⟨h, p⟩, fun p => p.2⟩
  · rw [wp_no (stp_of hc hd (by simp only [opS, lenB, opI, if_neg h]; rfl))]
    exact propext ⟨fun p => p.elim, fun p => h p.1⟩
theorem x_retL {y : Int64} (hc : cod k = cc) (hd : decode cc pc = .ok (.lreturn, 1)) (hr : ret_ k = some .long) : WP d k (pc, ls, [.long y], M) Q = Q (some (.long y)) M := wp_ret (stp_of hc hd (by simp only [opS, lenB, opI, hr]; rfl))
theorem x_retV (hc : cod k = cc) (hd : decode cc pc = .ok (.return_, 1)) (hr : ret_ k = none) : WP d k (pc, ls, [], M) Q = Q none M := wp_ret (stp_of hc hd (by simp only [opS, lenB, opI, hr]; rfl))
theorem x_retA {q : Option Nat} (hc : cod k = cc) (hd : decode cc pc = .ok (.areturn, 1)) (hr : isRT (ret_ k) = true) : WP d k (pc, ls, [rf q], M) Q = Q (some (rf q)) M := by
  cases q with
  | none => exact wp_ret (stp_of hc hd (by simp only [opS, lenB, opI, hr, rf]; rfl))
  | some a => exact wp_ret (stp_of hc hd (by simp only [opS, lenB, opI, hr, rf]; rfl))
theorem x_noN {k' n mm ow b : Nat} {a r as : List Value} (hc : cod k = cc) (hd : decode cc pc = .ok (.invokespecial x, 3)) (ho : own_ k = o) (hm : mth o x = some k') (hk : k' < 1000) (hf : sta k' = false ∧ ((nam k').name == "<init>") = true ∧ nar k' = n ∧ mlo k' = mm) (how : own_ k' = ow) (ha : st.take n = a) (hr : st.drop n = r) (has : a.reverse = .ref b :: as) (hb : (decide (a.length = n) && a.all argB && decide ((ea (.ref b :: as)).length ≤ mm) && decide (catS r ≤ 8)) = true) (ht : ¬ (TY b).1 = ow) :
    WP d k (pc, ls, st, M) Q = False := by
  have h := iv_callV (kind := 2) (pc := pc) (ls := ls) (M := M) (by decide) ho hm hk hf how ha hr has hb
  rw [if_neg ht] at h
  exact wp_no (stp_of hc hd h)
theorem x_noP {a : Nat} {v : Value} (hc : cod k = cc) (hd : decode cc pc = .ok (.putfield x, 3)) (ho : own_ k = o) (hf : fld o x = some (c, j)) (ht : ¬ (TY a).1 = c) : WP d k (pc, ls, v :: .ref a :: st, M) Q = False := by
  refine wp_no (stp_of hc hd ?_)
  simp only [opS, lenB, opI, ho, hf]
  rw [if_pos (show ((3 : Nat) == 3) = true from rfl), if_neg (fun q => ht q.1)]
theorem x_bas2 {a : Nat} {y z : Int32} (hc : cod k = cc) (hd : decode cc pc = .ok (.bastore, 1)) (ht : (TY a).1 = 22 ∨ (TY a).1 = 23) (h : inb y (TY a).2 → WP d k (pc + 1, ls, st, sI M a y.toNatClampNeg (nbv (TY a).1 z)) Q = P) : WP d k (pc, ls, .int z :: .int y :: .ref a :: st, M) Q = (inb y (TY a).2 ∧ P) := x_bast hc hd rfl ht h
theorem x_known {q : Option Nat} {a : Nat} {G : Value → Prop} (e : q = some a) (h : G (.ref a) = P) : G (rf q) = P := by
  rw [e]
  exact h
/-- null where an object is wanted -/
theorem nu_get (hc : cod k = cc) (hd : decode cc pc = .ok (.getfield x, 3)) : WP d k (pc, ls, .null :: st, M) Q = False := wp_no (stp_of hc hd (by unfold opS; rw [if_pos (show lenB (.getfield x) 3 = true from rfl)]; simp only [opI]; cases fld (own_ k) x <;> rfl))
theorem nu_put {v : Value} (hc : cod k = cc) (hd : decode cc pc = .ok (.putfield x, 3)) : WP d k (pc, ls, v :: .null :: st, M) Q = False := wp_no (stp_of hc hd (by unfold opS; rw [if_pos (show lenB (.putfield x) 3 = true from rfl)]; simp only [opI]; cases fld (own_ k) x <;> rfl))
theorem nu_ald {y : Int32} (hc : cod k = cc) (hd : decode cc pc = .ok (i, 1)) (hi : i = .iaload ∨ i = .laload ∨ i = .baload ∨ i = .aaload) : WP d k (pc, ls, .int y :: .null :: st, M) Q = False := wp_no (stp_of hc hd (by rcases hi with rfl | rfl | rfl | rfl <;> rfl))
theorem nu_ist {y z : Int32} (hc : cod k = cc) (hd : decode cc pc = .ok (i, 1)) (hi : i = .iastore ∨ i = .bastore) : WP d k (pc, ls, .int z :: .int y :: .null :: st, M) Q = False := wp_no (stp_of hc hd (by rcases hi with rfl | rfl <;> rfl))
theorem nu_lst {y : Int32} {z : Int64} (hc : cod k = cc) (hd : decode cc pc = .ok (.lastore, 1)) : WP d k (pc, ls, .long z :: .int y :: .null :: st, M) Q = False := wp_no (stp_of hc hd rfl)
theorem nu_aas {v : Value} {y : Int32} (hc : cod k = cc) (hd : decode cc pc = .ok (.aastore, 1)) : WP d k (pc, ls, v :: .int y :: .null :: st, M) Q = False := wp_no (stp_of hc hd (by cases v <;> rfl))
theorem nu_aav {y : Int32} {v : Value} (hc : cod k = cc) (hd : decode cc pc = .ok (.aastore, 1)) : WP d k (pc, ls, .null :: .int y :: v :: st, M) Q = False := wp_no (stp_of hc hd (by cases v <;> rfl))
theorem nu_len (hc : cod k = cc) (hd : decode cc pc = .ok (.arraylength, 1)) : WP d k (pc, ls, .null :: st, M) Q = False := wp_no (stp_of hc hd rfl)
theorem nu_cps {n dp sp : Int32} {b : Value} (hc : cod k = cc) (hd : decode cc pc = .ok (.invokestatic x, 3)) (ho : own_ k = o) (hm : mth o x = some 1001) : WP d k (pc, ls, .int n :: .int dp :: b :: .int sp :: .null :: st, M) Q = False := wp_no (stp_of hc hd (by cases b <;> (simp only [opS, lenB, opI, ivk, acpy, ho, hm]; rfl)))
theorem nu_cpd {n dp sp : Int32} {b : Value} (hc : cod k = cc) (hd : decode cc pc = .ok (.invokestatic x, 3)) (ho : own_ k = o) (hm : mth o x = some 1001) : WP d k (pc, ls, .int n :: .int dp :: .null :: .int sp :: b :: st, M) Q = False := wp_no (stp_of hc hd (by simp only [opS, lenB, opI, ivk, acpy, ho, hm]; rfl))
theorem rf_arg (q : Option Nat) : argB (rf q) = true := by cases q <;> rfl
theorem rf_some (a : Nat) : rf (some a) = .ref a := rfl
theorem nu_inv {k' n mm : Nat} {a r as : List Value} (hc : cod k = cc) (hd : decode cc pc = .ok (.invokevirtual x, 3)) (ho : own_ k = o) (hm : mth o x = some k') (hk : k' < 1000) (hf : sta k' = false ∧ ((nam k').name == "<init>") = false ∧ nar k' = n ∧ mlo k' = mm) (ha : st.take n = a) (hr : st.drop n = r) (has : a.reverse = .null :: as) (hb : (decide (a.length = n) && a.all argB && decide ((ea (.null :: as)).length ≤ mm) && decide (catS r ≤ 8)) = true) :
    WP d k (pc, ls, st, M) Q = False := by
  have h := iv_call (kind := 0) (pc := pc) (ls := ls) (M := M) ho hm hk hf ha hr has hb
  rw [if_neg (by simp [rcvB])] at h
  exact wp_no (stp_of hc hd h)
theorem ab_i (y : Int32) : argB (.int y) = true := rfl
theorem ab_l (y : Int64) : argB (.long y) = true := rfl
theorem ab_r (y : Nat) : argB (.ref y) = true := rfl
theorem ab_n : argB .null = true := rfl
theorem ct_i (y : Int32) : (Value.int y).category = 1 := rfl
theorem ct_l (y : Int64) : (Value.long y).category = 2 := rfl
theorem ct_r (y : Nat) : (Value.ref y).category = 1 := rfl
theorem ct_n : Value.null.category = 1 := rfl
theorem o_irem {y z : Int32} (h : ¬ y = 0) : opS k .irem 1 pc ls (.int y :: .int z :: st) M = some (.inl (pc + 1, ls, .int (iRem z y) :: st, M)) := by unfold opS; rw [if_pos (show lenB .irem 1 = true from rfl)]; simp only [opI, b2D, if_neg h, nx]
theorem o_idiv {y z : Int32} (h : ¬ y = 0) : opS k .idiv 1 pc ls (.int y :: .int z :: st) M = some (.inl (pc + 1, ls, .int (z / y) :: st, M)) := by unfold opS; rw [if_pos (show lenB .idiv 1 = true from rfl)]; simp only [opI, b2D, if_neg h, nx]
theorem o_ldiv {y z : Int64} (h : ¬ y = 0) : opS k .ldiv 1 pc ls (.long y :: .long z :: st) M = some (.inl (pc + 1, ls, .long (z / y) :: st, M)) := by unfold opS; rw [if_pos (show lenB .ldiv 1 = true from rfl)]; simp only [opI, b2E, if_neg h, nx]
theorem o_lrem {y z : Int64} (h : ¬ y = 0) : opS k .lrem 1 pc ls (.long y :: .long z :: st) M = some (.inl (pc + 1, ls, .long (lRem z y) :: st, M)) := by unfold opS; rw [if_pos (show lenB .lrem 1 = true from rfl)]; simp only [opI, b2E, if_neg h, nx]
end Walk
