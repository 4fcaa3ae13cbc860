/-! ===== 28: the ground, steps, who may be where: without machine ===== -/
abbrev ok (c w : Nat) : Prop := (w = 0 ∧ 6 ≤ c) ∨ (w = 1 ∧ c % 6 < 5) ∨ (w = 2 ∧ c < 30) ∨ (w = 3 ∧ 0 < c % 6) ∨ w = 4
def nxc (c w : Nat) : Nat := if w = 0 then c - 6 else if w = 1 then c + 1 else if w = 2 then c + 6 else if w = 3 then c - 1 else c
def rvw (w : Nat) : Nat := if w = 4 then 4 else (w + 2) % 4
theorem rv_lt4 {w : Nat} (h : w < 4) : rvw w < 4 := by unfold rvw; split <;> omega
theorem rv_lt5 {w : Nat} (h : w < 5) : rvw w < 5 := by unfold rvw; split <;> omega
theorem rv_rv {w : Nat} (h : w < 5) : rvw (rvw w) = w := by unfold rvw; split <;> split <;> omega
theorem nx4 (c : Nat) : nxc c 4 = c := rfl
theorem ok4 (c : Nat) : ok c 4 := Or.inr (Or.inr (Or.inr (Or.inr rfl)))
def okb (c w : Nat) : Bool := (w == 0 && Nat.ble 6 c) || (w == 1 && Nat.blt (c % 6) 5) || (w == 2 && Nat.blt c 30) || (w == 3 && Nat.blt 0 (c % 6)) || w == 4
theorem ok_b (c w : Nat) : ok c w ↔ okb c w = true := by
  simp only [ok, okb, Bool.or_eq_true, Bool.and_eq_true, beq_iff_eq, Nat.ble_eq, Nat.blt_eq]
  constructor
  · rintro (h | h | h | h | h)
    · exact Or.inl (Or.inl (Or.inl (Or.inl h)))
    · exact Or.inl (Or.inl (Or.inl (Or.inr h)))
    · exact Or.inl (Or.inl (Or.inr h))
    · exact Or.inl (Or.inr h)
    · exact Or.inr h
  · rintro ((((h | h) | h) | h) | h)
    · exact Or.inl h
    · exact Or.inr (Or.inl h)
    · exact Or.inr (Or.inr (Or.inl h))
    · exact Or.inr (Or.inr (Or.inr (Or.inl h)))
    · exact Or.inr (Or.inr (Or.inr (Or.inr h)))
theorem okb_dec0 : ∀ c : Nat, c < 36 → ∀ w : Nat, w < 5 → okb c w = true → nxc c w < 36 ∧ okb (nxc c w) (rvw w) = true ∧ nxc (nxc c w) (rvw w) = c := by decide +kernel
theorem okb_dec (c : Nat) (hc : c < 36) (w : Nat) (hw : w < 5) (h : ok c w) : nxc c w < 36 ∧ ok (nxc c w) (rvw w) ∧ nxc (nxc c w) (rvw w) = c := by
  rw [ok_b] at h ⊢
  exact okb_dec0 c hc w hw h
theorem nx_lt {c w : Nat} (hc : c < 36) (hw : w < 5) (h : ok c w) : nxc c w < 36 := (okb_dec c hc w hw h).1
theorem ok_rv {c w : Nat} (hc : c < 36) (hw : w < 5) (h : ok c w) : ok (nxc c w) (rvw w) := (okb_dec c hc w hw h).2.1
theorem nx_rv {c w : Nat} (hc : c < 36) (hw : w < 5) (h : ok c w) : nxc (nxc c w) (rvw w) = c := (okb_dec c hc w hw h).2.2
theorem nx_inj_dec : ∀ c : Nat, c < 36 → ∀ w : Nat, w < 5 → ∀ x : Nat, x < 5 → (!(okb c w && okb c x && nxc c w == nxc c x) || w == x) = true := by decide +kernel
theorem nx_inj {c w x : Nat} (hc : c < 36) (hw : w < 5) (hx : x < 5) (h1 : ok c w) (h2 : ok c x) (h : nxc c w = nxc c x) : w = x := by
  have h3 := nx_inj_dec c hc w hw x hx
  rw [(ok_b c w).mp h1, (ok_b c x).mp h2, h] at h3
  simpa using h3
def onw (mk : Nat → Nat → Prop) (c w f : Nat) : Prop := ok c w ∧ ¬ mk 0 (nxc c w) ∧ (w = f ∨ ¬ mk 1 (nxc c w))
def bkw (mk : Nat → Nat → Prop) (c w : Nat) : Prop := ok c w ∧ ¬ mk 0 (nxc c w) ∧ ¬ mk 1 (nxc c w) ∧ ¬ mk 2 c ∧ ¬ mk 3 c
def kc (mk : Nat → Nat → Prop) (kd v gn c f w : Nat) : Prop := kd = 1 ∨ (kd = 4 ∧ ¬ w = v % 4) ∨ (¬ kd = 1 ∧ ¬ kd = 4 ∧ (w = f ∨ (¬ w = rvw f ∧ (kd = 3 ∨ kd = 6 → (gn + v) % 2 = 0) ∧ (kd = 5 → ¬ onw mk c f f))))
def ons (mk : Nat → Nat → Prop) (kd v gn c f w : Nat) : Prop := onw mk c w f ∧ kc mk kd v gn c f w
def bwy (kd f w : Nat) : Nat := if kd = 2 ∨ kd = 5 then w else rvw f
def wy (kd f w a : Nat) : Nat := if a < 4 then a else if a = 4 then bwy kd f w else 4
def tc (kd c f w a : Nat) : Nat := nxc c (wy kd f w a)
def tf (f a : Nat) : Nat := if a < 4 then a else f
def tw (kd f w a : Nat) : Nat := if a = 5 then w else rvw (wy kd f w a)
def may (mk : Nat → Nat → Prop) (kd v : Nat) (on : Prop) (gn c f w a : Nat) : Prop :=
  (a < 4 ∧ on ∧ ons mk kd v gn c f a) ∨ (a = 4 ∧ ¬ on ∧ bkw mk c (bwy kd f w)) ∨
  (a = 5 ∧ ((on ∧ ((kd = 6 ∧ 0 < v ∧ gn % v = 0) ∨ ∀ x : Nat, x < 4 → ¬ ons mk kd v gn c f x)) ∨ (¬ on ∧ ¬ bkw mk c (bwy kd f w))))
theorem bwy_lt {kd f w : Nat} (hf : f < 4) (hw : w < 5) : bwy kd f w < 5 := by
  unfold bwy; split
  · exact hw
  · have := rv_lt4 hf; omega
theorem wy_lt {kd f w a : Nat} (hf : f < 4) (hw : w < 5) : wy kd f w a < 5 := by
  unfold wy
  split
  · omega
  · split
    · exact bwy_lt hf hw
    · omega
theorem tf_lt {f a : Nat} (hf : f < 4) : tf f a < 4 := by unfold tf; split <;> omega
theorem tw_lt {kd f w a : Nat} (hf : f < 4) (hw : w < 5) : tw kd f w a < 5 := by
  unfold tw; split
  · exact hw
  · exact rv_lt5 (wy_lt hf hw)
theorem may_ok {mk : Nat → Nat → Prop} {kd v gn c f w a : Nat} {on : Prop} (h : may mk kd v on gn c f w a) : ok c (wy kd f w a) := by
  rcases h with ⟨h1, -, h2⟩ | ⟨h1, -, h2⟩ | ⟨h1, -⟩
  · rw [wy, if_pos h1]; exact h2.1.1
  · subst h1; exact h2.1
  · subst h1; exact ok4 c
theorem may_one {mk : Nat → Nat → Prop} {kd v gn c f w : Nat} {on : Prop} : ∃ a : Nat, a < 6 ∧ may mk kd v on gn c f w a := by
  by_cases ho : on
  · by_cases h : ∃ x : Nat, x < 4 ∧ ons mk kd v gn c f x
    · obtain ⟨x, hx, h⟩ := h
      exact ⟨x, by omega, Or.inl ⟨hx, ho, h⟩⟩
    · exact ⟨5, by decide, Or.inr (Or.inr ⟨rfl, Or.inl ⟨ho, Or.inr (fun x hx h2 => h ⟨x, hx, h2⟩)⟩⟩)⟩
  · by_cases h : bkw mk c (bwy kd f w)
    · exact ⟨4, by decide, Or.inr (Or.inl ⟨rfl, ho, h⟩)⟩
    · exact ⟨5, by decide, Or.inr (Or.inr ⟨rfl, Or.inr ⟨ho, h⟩⟩)⟩
theorem tc_lt {mk : Nat → Nat → Prop} {kd v gn c f w a : Nat} {on : Prop} (hc : c < 36) (hf : f < 4) (hw : w < 5) (h : may mk kd v on gn c f w a) : tc kd c f w a < 36 := nx_lt hc (wy_lt hf hw) (may_ok h)
theorem tgt_ok {mk : Nat → Nat → Prop} {kd v gn c f w a : Nat} {on : Prop} (hc : c < 36) (hf : f < 4) (hw : w < 5) (hk : ok c w) (h : may mk kd v on gn c f w a) : ok (tc kd c f w a) (tw kd f w a) := by
  unfold tc tw
  by_cases h5 : a = 5
  · subst h5; exact hk
  · rw [if_neg h5]; exact ok_rv hc (wy_lt hf hw) (may_ok h)
/-- where one may be a beat later -/
def adv (ms : Nat → Prop) (mk : Nat → Nat → Prop) (kd v : Nat) (on : Prop) (gn : Nat) (A : Nat → Nat → Nat → Prop) (c2 f2 w2 : Nat) : Prop :=
  ∃ c f w a : Nat, (c < 36 ∧ f < 4 ∧ w < 5 ∧ a < 6) ∧ ms a ∧ A c f w ∧ may mk kd v on gn c f w a ∧ tc kd c f w a = c2 ∧ tf f a = f2 ∧ tw kd f w a = w2
def okA (A : Nat → Nat → Nat → Prop) : Prop := ∀ c f w : Nat, A c f w → c < 36 ∧ f < 4 ∧ w < 5 ∧ ok c w
theorem okA_adv {ms : Nat → Prop} {mk : Nat → Nat → Prop} {kd v gn : Nat} {on : Prop} {A : Nat → Nat → Nat → Prop} (h : okA A) : okA (adv ms mk kd v on gn A) := by
  rintro c2 f2 w2 ⟨c, f, w, a, ⟨hc, hf, hw, ha⟩, -, hA, hm, rfl, rfl, rfl⟩
  exact ⟨tc_lt hc hf hw hm, tf_lt hf, tw_lt hf hw, tgt_ok hc hf hw (h c f w hA).2.2.2 hm⟩
/-- behind t beats, with steps that ms allows at each of them -/
def rq (ms : Nat → Nat → Prop) (mk : Nat → Nat → Prop) (kd v onN bk b0 g0 : Nat) (A0 : Nat → Nat → Nat → Prop) : Nat → Nat → Nat → Nat → Prop
  | 0 => A0
  | t + 1 => adv (ms t) mk kd v ((b0 + t) % (onN + bk) < onN) (g0 + t) (rq ms mk kd v onN bk b0 g0 A0 t)
theorem okA_rq {ms : Nat → Nat → Prop} {mk : Nat → Nat → Prop} {kd v onN bk b0 g0 : Nat} {A0 : Nat → Nat → Nat → Prop} (h : okA A0) : ∀ t : Nat, okA (rq ms mk kd v onN bk b0 g0 A0 t)
  | 0 => h
  | t + 1 => okA_adv (okA_rq h t)
abbrev anyS : Nat → Nat → Prop := fun _ _ => True
def fstS (a : Nat) : Nat → Nat → Prop := fun t x => t = 0 → x = a
theorem adv_congr {ms ns : Nat → Prop} {mk : Nat → Nat → Prop} {kd v gn : Nat} {on : Prop} {A B : Nat → Nat → Nat → Prop} (hm : ∀ a : Nat, a < 6 → (ms a ↔ ns a)) (h : ∀ c f w : Nat, A c f w ↔ B c f w) (c f w : Nat) : adv ms mk kd v on gn A c f w ↔ adv ns mk kd v on gn B c f w := by
  constructor
  · rintro ⟨c1, f1, w1, a, hb, h1, h2, h3⟩
    exact ⟨c1, f1, w1, a, hb, (hm a hb.2.2.2).mp h1, (h _ _ _).mp h2, h3⟩
  · rintro ⟨c1, f1, w1, a, hb, h1, h2, h3⟩
    exact ⟨c1, f1, w1, a, hb, (hm a hb.2.2.2).mpr h1, (h _ _ _).mpr h2, h3⟩
/-- all are those with one of the six first steps -/
theorem rq_fst {mk : Nat → Nat → Prop} {kd v onN bk b0 g0 : Nat} {A0 : Nat → Nat → Nat → Prop} : ∀ t c f w : Nat, rq anyS mk kd v onN bk b0 g0 A0 (t + 1) c f w ↔ ∃ a : Nat, a < 6 ∧ rq (fstS a) mk kd v onN bk b0 g0 A0 (t + 1) c f w := by
  intro t
  induction t with
  | zero =>
    intro c f w
    constructor
    · rintro ⟨c1, f1, w1, a, hb, -, h⟩
      exact ⟨a, hb.2.2.2, c1, f1, w1, a, hb, fun _ => rfl, h⟩
    · rintro ⟨a, ha, c1, f1, w1, x, hb, -, h⟩
      exact ⟨c1, f1, w1, x, hb, trivial, h⟩
  | succ t ih =>
    intro c f w
    constructor
    · rintro ⟨c1, f1, w1, x, hb, -, hA, h⟩
      obtain ⟨a, ha, h2⟩ := (ih c1 f1 w1).mp hA
      exact ⟨a, ha, c1, f1, w1, x, hb, fun h0 => absurd h0 (Nat.succ_ne_zero t), h2, h⟩
    · rintro ⟨a, ha, c1, f1, w1, x, hb, -, hA, h⟩
      exact ⟨c1, f1, w1, x, hb, trivial, (ih c1 f1 w1).mpr ⟨a, ha, hA⟩, h⟩
/-- the empty set stays empty -/
theorem adv_none {ms : Nat → Prop} {mk : Nat → Nat → Prop} {kd v gn : Nat} {on : Prop} {A : Nat → Nat → Nat → Prop} (h : ∀ c f w : Nat, ¬ A c f w) (c f w : Nat) : ¬ adv ms mk kd v on gn A c f w := by
  rintro ⟨c1, f1, w1, a, -, -, h2, -⟩
  exact h _ _ _ h2
