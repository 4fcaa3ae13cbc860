/-! ===== 30: frames; the class's crowd ===== -/
def FM (S : Nat → Prop) (M M' : MM) : Prop := mN M' = mN M ∧ ∀ a : Nat, ¬ S a → mI M' a = mI M a ∧ mL M' a = mL M a ∧ mR M' a = mR M a
def inS (lo n : Nat) : Nat → Prop := fun a => lo ≤ a ∧ a < lo + n
theorem FM.refl (S : Nat → Prop) (M : MM) : FM S M M := ⟨rfl, fun _ _ => ⟨rfl, rfl, rfl⟩⟩
theorem FM.trans {S : Nat → Prop} {M M1 M2 : MM} (h1 : FM S M M1) (h2 : FM S M1 M2) : FM S M M2 := ⟨h2.1.trans h1.1, fun a ha => ⟨(h2.2 a ha).1.trans (h1.2 a ha).1, (h2.2 a ha).2.1.trans (h1.2 a ha).2.1, (h2.2 a ha).2.2.trans (h1.2 a ha).2.2⟩⟩
theorem FM.mono {S T : Nat → Prop} {M M' : MM} (h : FM S M M') (hs : ∀ a : Nat, S a → T a) : FM T M M' := ⟨h.1, fun a ha => h.2 a (fun h2 => ha (hs a h2))⟩
theorem FM.i {S : Nat → Prop} {M M' : MM} (h : FM S M M') {a : Nat} (ha : ¬ S a) : mI M' a = mI M a := (h.2 a ha).1
theorem FM.l {S : Nat → Prop} {M M' : MM} (h : FM S M M') {a : Nat} (ha : ¬ S a) : mL M' a = mL M a := (h.2 a ha).2.1
theorem FM.r {S : Nat → Prop} {M M' : MM} (h : FM S M M') {a : Nat} (ha : ¬ S a) : mR M' a = mR M a := (h.2 a ha).2.2
theorem rI_sI {M : MM} {a k b : Nat} {v : Int32} (h : ¬ b = a) : mI (sI M a k v) b = mI M b := funext fun j => by rw [mI_sI, if_neg (fun h2 => h h2.1)]
theorem rL_sL {M : MM} {a k b : Nat} {v : Int64} (h : ¬ b = a) : mL (sL M a k v) b = mL M b := funext fun j => by rw [mL_sL, if_neg (fun h2 => h h2.1)]
theorem rR_sR {M : MM} {a k b : Nat} {v : Option Nat} (h : ¬ b = a) : mR (sR M a k v) b = mR M b := funext fun j => by rw [mR_sR, if_neg (fun h2 => h h2.1)]
theorem aI_sI (M : MM) (a k : Nat) (v : Int32) : mI (sI M a k v) a k = v := by rw [mI_sI, if_pos ⟨rfl, rfl⟩]
theorem aL_sL (M : MM) (a k : Nat) (v : Int64) : mL (sL M a k v) a k = v := by rw [mL_sL, if_pos ⟨rfl, rfl⟩]
theorem aR_sR (M : MM) (a k : Nat) (v : Option Nat) : mR (sR M a k v) a k = v := by rw [mR_sR, if_pos ⟨rfl, rfl⟩]
theorem bI_sI {M : MM} {a k j : Nat} {v : Int32} (h : ¬ j = k) : mI (sI M a k v) a j = mI M a j := by rw [mI_sI, if_neg (fun h2 => h h2.2)]
theorem bL_sL {M : MM} {a k j : Nat} {v : Int64} (h : ¬ j = k) : mL (sL M a k v) a j = mL M a j := by rw [mL_sL, if_neg (fun h2 => h h2.2)]
theorem bR_sR {M : MM} {a k j : Nat} {v : Option Nat} (h : ¬ j = k) : mR (sR M a k v) a j = mR M a j := by rw [mR_sR, if_neg (fun h2 => h h2.2)]
theorem fr_sI {S : Nat → Prop} {M : MM} {a k : Nat} {v : Int32} (h : S a) : FM S M (sI M a k v) := ⟨rfl, fun b hb => ⟨rI_sI (fun h2 => hb (h2 ▸ h)), rfl, rfl⟩⟩
theorem fr_sL {S : Nat → Prop} {M : MM} {a k : Nat} {v : Int64} (h : S a) : FM S M (sL M a k v) := ⟨rfl, fun b hb => ⟨rfl, rL_sL (fun h2 => hb (h2 ▸ h)), rfl⟩⟩
theorem fr_sR {S : Nat → Prop} {M : MM} {a k : Nat} {v : Option Nat} (h : S a) : FM S M (sR M a k v) := ⟨rfl, fun b hb => ⟨rfl, rfl, rR_sR (fun h2 => hb (h2 ▸ h))⟩⟩
def flL (M : MM) (a n : Nat) (v : Int64) : MM := (M.1, fun b j => if b = a ∧ j < n then v else M.2.1 b j, M.2.2.1, M.2.2.2)
theorem flL_succ (M : MM) (a n : Nat) (v : Int64) : sL (flL M a n v) a n v = flL M a (n + 1) v := by
  unfold sL flL
  refine congrArg (fun z => ((M.1, z, M.2.2.1, M.2.2.2) : MM)) (funext fun b => funext fun j => ?_)
  show (if b = a ∧ j = n then v else (if b = a ∧ j < n then v else M.2.1 b j)) = (if b = a ∧ j < n + 1 then v else M.2.1 b j)
  by_cases hb : b = a
  · by_cases h1 : j = n
    · rw [if_pos ⟨hb, h1⟩, if_pos ⟨hb, by omega⟩]
    · rw [if_neg (fun h => h1 h.2)]
      by_cases h2 : j < n
      · rw [if_pos ⟨hb, h2⟩, if_pos ⟨hb, by omega⟩]
      · rw [if_neg (fun h => h2 h.2), if_neg (fun h => by omega)]
  · rw [if_neg (fun h => hb h.1), if_neg (fun h => hb h.1), if_neg (fun h => hb h.1)]
theorem flL_0 (M : MM) (a : Nat) (v : Int64) : flL M a 0 v = M := by
  unfold flL
  refine (congrArg (fun z => ((M.1, z, M.2.2.1, M.2.2.2) : MM)) (funext fun b => funext fun j => ?_)).trans rfl
  rw [if_neg (fun h => absurd h.2 (Nat.not_lt_zero j))]
theorem mL_flL (M : MM) (a n : Nat) (v : Int64) (b j : Nat) : mL (flL M a n v) b j = if b = a ∧ j < n then v else mL M b j := rfl
theorem mI_flL (M : MM) (a n : Nat) (v : Int64) : mI (flL M a n v) = mI M := rfl
theorem mR_flL (M : MM) (a n : Nat) (v : Int64) : mR (flL M a n v) = mR M := rfl
theorem fr_flL {S : Nat → Prop} {M : MM} {a n : Nat} {v : Int64} (h : S a) : FM S M (flL M a n v) := ⟨rfl, fun b hb => ⟨rfl, funext fun j => by rw [mL_flL, if_neg (fun h2 : b = a ∧ j < n => hb (h2.1 ▸ h))], rfl⟩⟩
theorem isA21 : isArr 21 = true := rfl
theorem isA20 : isArr 20 = true := rfl
section Crowd
variable {d : Nat} {M : MM} {Q : Option Value → MM → Prop}
theorem s_fill_loop {a n : Nat} (hT : TY a = (21, n)) (hn : n < 2147483648) (v : Int64) : ∀ m i : Nat, i + m = n → WP d kJ7_fill_d0a16 (6, [.ref a, .long v, dm, .int (vI i), .int (vI n)], [], flL M a i v) Q = Q none (flL M a n v) := by
  intro m
  induction m with
  | zero =>
    intro i hi
    obtain rfl : i = n := by omega
    rw [gJ7_fill_d0a16_6]
    simp (disch := omega) only [vI_lt]
    rw [if_neg (by omega)]
  | succ m ih =>
    intro i hi
    rw [gJ7_fill_d0a16_6]
    simp (disch := omega) only [vI_lt, hT, inb_n, vI_cl]
    rw [if_pos (by omega), flL_succ, add_nl, ih (i + 1) (by omega)]
    simp only [show i < n by omega, true_and]
theorem s_fill {a n : Nat} (hT : TY a = (21, n)) (hn : n < 2147483648) (v : Int64) : CL d kJ7_fill_d0a16 [.ref a, .long v] M Q = Q none (flL M a n v) := by
  have h := s_fill_loop (d := d) (M := M) (Q := Q) hT hn v n 0 (by omega)
  rw [flL_0] at h
  rw [eJ7_fill_d0a16, hT]
  simp only [isA21, true_and]
  exact h
theorem GA_fr {S : Nat → Prop} {M' : MM} {g p kd v b gn : Nat} (h : FM S M M') (hg : ¬ S g) (hG : GA M g p kd v b gn) : GA M' g p kd v b gn := by
  unfold GA at hG ⊢
  rw [h.r hg, h.i hg]; exact hG
theorem LandC_fr {S : Nat → Prop} {M' : MM} {p onN bk : Nat} {mk : Nat → Nat → Prop} (h : FM S M M') (hs : ∀ a : Nat, S a → ¬ (29 ≤ a ∧ a ≤ 32) ∧ a < 101) (hL : LandC M p onN bk mk) : LandC M' p onN bk mk := by
  obtain ⟨h1, h2, h3, h4, h5, h6, qo, qf, hq, h7⟩ := hL
  have n0 : ¬ S p ∧ ¬ S qo ∧ ¬ S qf := by
    have e1 := hs p
    have e2 := hs qo
    have e3 := hs qf
    unfold lq at hq
    refine ⟨fun h => ?_, fun h => ?_, fun h => ?_⟩
    · have := e1 h; omega
    · have := e2 h; omega
    · have := e3 h; omega
  unfold LandC
  rw [h.i n0.1, h.l n0.1, h.r n0.1]
  refine ⟨h1, h2, h3, h4, h5, h6, qo, qf, hq, ?_⟩
  rw [h.l n0.2.1, h.l n0.2.2]
  exact h7
/-- the pointers of a crowd -/
def CrP (M : MM) (k qh qt : Nat) : Prop := mR M k 0 = some qh ∧ mR M k 1 = some qt ∧ mR M k 2 = some (k + 3) ∧ ((qh = k + 1 ∧ qt = k + 2) ∨ (qh = k + 2 ∧ qt = k + 1))
def CrT (k : Nat) : Prop := (TY k).1 = 1 ∧ TY (k + 1) = (21, 20) ∧ TY (k + 2) = (21, 20) ∧ (TY (k + 3)).1 = 2 ∧ 33 ≤ k ∧ k + 4 ≤ 101
def Cnt (M : MM) (q : Nat) (A : Nat → Nat → Nat → Prop) : Prop := ∀ f w : Nat, f < 4 → w < 5 → mL M q (f * 5 + w) = zb (fun c => A c f w)
theorem CrT_qh {k qh qt : Nat} (h : CrT k) (hP : CrP M k qh qt) : TY qh = (21, 20) := by
  rcases hP.2.2.2 with ⟨h1, -⟩ | ⟨h1, -⟩
  · rw [h1]; exact h.2.1
  · rw [h1]; exact h.2.2.1
theorem CrT_qt {k qh qt : Nat} (h : CrT k) (hP : CrP M k qh qt) : TY qt = (21, 20) := by
  rcases hP.2.2.2 with ⟨-, h1⟩ | ⟨-, h1⟩
  · rw [h1]; exact h.2.2.1
  · rw [h1]; exact h.2.1
theorem CrT_58 : CrT 58 := ⟨by decide +kernel, by decide +kernel, by decide +kernel, by decide +kernel, by decide, by decide⟩
theorem CrT_62 : CrT 62 := ⟨by decide +kernel, by decide +kernel, by decide +kernel, by decide +kernel, by decide, by decide⟩
theorem Cnt_congr {q : Nat} {A B : Nat → Nat → Nat → Prop} (h : ∀ c f w : Nat, c < 36 → f < 4 → w < 5 → (A c f w ↔ B c f w)) (hA : Cnt M q A) : Cnt M q B := fun f w hf hw => (hA f w hf hw).trans (zb_congr fun c hc => h c f w hc hf hw)
theorem Cnt_fr {S : Nat → Prop} {M' : MM} {q : Nat} {A : Nat → Nat → Nat → Prop} (h : FM S M M') (hq : ¬ S q) (hA : Cnt M q A) : Cnt M' q A := fun f w hf hw => by rw [h.l hq]; exact hA f w hf hw
theorem CrP_fr {S : Nat → Prop} {M' : MM} {k qh qt : Nat} (h : FM S M M') (hk : ¬ S k) (hP : CrP M k qh qt) : CrP M' k qh qt := by
  unfold CrP at hP ⊢
  rw [h.r hk]; exact hP
theorem idx5 {f w f2 w2 : Nat} (hw : w < 5) (hw2 : w2 < 5) : (f * 5 + w = f2 * 5 + w2) ↔ (f = f2 ∧ w = w2) := by omega
theorem s_join {q f w : Nat} (hT : TY q = (21, 20)) (hf : f < 4) (hw : w < 5) (z : Int64) : CL d kX1_join [.ref q, .int (vI f), .int (vI w), .long z] M Q = Q none (sL M q (f * 5 + w) (mL M q (f * 5 + w) ||| z)) := by
  rw [eX1_join, hT]
  simp (disch := omega) only [mul_nl, vI_add, vI_neg, inb_n, vI_cl, true_and, if_false]
  rw [show Int32.ofNat (21, 20).2 = vI 20 from rfl]
  simp (disch := omega) only [vI_lt]
  rw [if_pos (by omega)]
  simp only [show f * 5 + w < 20 by omega, true_and]
  simp only [isA21, true_and]
theorem s_among {k qh qt f w : Nat} (hT : CrT k) (hP : CrP M k qh qt) (hf : f < 4) (hw : w < 5) : CL d kX1_among [.ref k, .int (vI f), .int (vI w)] M Q = Q (some (.long (mL M qh (f * 5 + w)))) M := by
  have hq := CrT_qh hT hP
  rw [eX1_among]
  simp (disch := omega) only [hT.1, hP.1, mul_nl, vI_add, vI_neg, inb_n, vI_cl, if_false, true_and, and_true, Option.some.injEq, exists_eq_left']
  rw [hq, show Int32.ofNat (21, 20).2 = vI 20 from rfl]
  simp (disch := omega) only [vI_lt]
  rw [if_pos (by omega)]
  simp only [show f * 5 + w < 20 by omega, true_and]
  simp only [isA21, true_and]
/-- a join puts a set to what stands there -/
theorem Cnt_join {q f w : Nat} {A : Nat → Nat → Nat → Prop} {P : Nat → Prop} (hw : w < 5) (hA : Cnt M q A) (hf : f < 4) : Cnt (sL M q (f * 5 + w) (mL M q (f * 5 + w) ||| zb P)) q (fun c f2 w2 => A c f2 w2 ∨ (f2 = f ∧ w2 = w ∧ P c)) := by
  intro f2 w2 hf2 hw2
  by_cases h : f2 = f ∧ w2 = w
  · obtain ⟨rfl, rfl⟩ := h
    rw [aL_sL, hA f2 w2 hf2 hw2, zb_or]
    exact zb_congr fun c _ => ⟨fun h => h.elim Or.inl (fun h2 => Or.inr ⟨rfl, rfl, h2⟩), fun h => h.elim Or.inl (fun h2 => Or.inr h2.2.2)⟩
  · rw [bL_sL (fun h2 => h ((idx5 hw2 hw).mp h2)), hA f2 w2 hf2 hw2]
    exact zb_congr fun c _ => ⟨Or.inl, fun h2 => h2.elim id (fun h3 => absurd ⟨h3.1, h3.2.1⟩ h)⟩
/-- what one set gives in a beat, by steps below a -/
def spr (ms : Nat → Prop) (mk : Nat → Nat → Prop) (kd v : Nat) (on : Prop) (gn : Nat) (A : Nat → Nat → Nat → Prop) (f w n c2 f2 w2 : Nat) : Prop :=
  ∃ a c : Nat, a < n ∧ c < 36 ∧ ms a ∧ A c f w ∧ may mk kd v on gn c f w a ∧ tc kd c f w a = c2 ∧ tf f a = f2 ∧ tw kd f w a = w2
theorem spr_one {mk : Nat → Nat → Prop} {kd v gn f w a c2 : Nat} {on : Prop} {P : Nat → Prop} (hf : f < 4) (hw : w < 5) (hc2 : c2 < 36) : (ok c2 (rvw (wy kd f w a)) ∧ (P (nxc c2 (rvw (wy kd f w a))) ∧ may mk kd v on gn (nxc c2 (rvw (wy kd f w a))) f w a)) ↔ ∃ c : Nat, c < 36 ∧ P c ∧ may mk kd v on gn c f w a ∧ tc kd c f w a = c2 := by
  have hy := wy_lt (kd := kd) (a := a) hf hw
  have hr := rv_lt5 hy
  constructor
  · rintro ⟨h1, h2, h3⟩
    refine ⟨_, nx_lt hc2 hr h1, h2, h3, ?_⟩
    have h4 := nx_rv hc2 hr h1
    rw [rv_rv hy] at h4
    exact h4
  · rintro ⟨c, hc, h2, h3, rfl⟩
    have hk := may_ok h3
    unfold tc
    rw [nx_rv hc hy hk]
    exact ⟨ok_rv hc hy hk, h2, h3⟩
end Crowd
