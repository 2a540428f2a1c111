/-! how many below n have P -/
noncomputable def cn (P : Int → Prop) : Nat → Int
  | 0 => 0
  | n + 1 => cn P n + @ite Int (P (n : Int)) (Classical.propDecidable _) 1 0
theorem cn_s (P : Int → Prop) (n : Nat) : cn P (n + 1) = cn P n + @ite Int (P (n : Int)) (Classical.propDecidable _) 1 0 := rfl
theorem cn_st {P : Int → Prop} {n : Nat} (h : P (n : Int)) : cn P (n + 1) = cn P n + 1 := by rw [cn_s, if_pos h]
theorem cn_sf {P : Int → Prop} {n : Nat} (h : ¬ P (n : Int)) : cn P (n + 1) = cn P n := by rw [cn_s, if_neg h, Int.add_zero]
theorem cn_congr {P Q : Int → Prop} : ∀ (n : Nat), (∀ i : Int, 0 ≤ i → i < n → (P i ↔ Q i)) → cn P n = cn Q n := by
  intro n
  induction n with
  | zero => intro _; rfl
  | succ n ih =>
    intro h
    have e := ih (fun i h1 h2 => h i h1 (by omega))
    by_cases hp : P (n : Int)
    · rw [cn_st hp, cn_st ((h n (by omega) (by omega)).mp hp), e]
    · rw [cn_sf hp, cn_sf (fun q => hp ((h n (by omega) (by omega)).mpr q)), e]
theorem cn_not (P : Int → Prop) : ∀ (n : Nat), cn P n + cn (fun i => ¬ P i) n = n := by
  intro n
  induction n with
  | zero => rfl
  | succ n ih =>
    by_cases hp : P (n : Int)
    · rw [cn_st hp, cn_sf (P := fun i => ¬ P i) (fun q => q hp)]; omega
    · rw [cn_sf hp, cn_st (P := fun i => ¬ P i) hp]; omega
theorem cn_0le (P : Int → Prop) : ∀ (n : Nat), 0 ≤ cn P n ∧ cn P n ≤ n := by
  intro n
  induction n with
  | zero => exact ⟨Int.le_refl _, Int.le_refl _⟩
  | succ n ih =>
    by_cases hp : P (n : Int)
    · rw [cn_st hp]; omega
    · rw [cn_sf hp]; omega
theorem cn_mono (P : Int → Prop) (n : Nat) : ∀ (k : Nat), cn P n ≤ cn P (n + k) := by
  intro k
  induction k with
  | zero => exact Int.le_refl _
  | succ k ih =>
    show cn P n ≤ cn P ((n + k) + 1)
    by_cases hp : P ((n + k : Nat) : Int)
    · rw [cn_st hp]; omega
    · rw [cn_sf hp]; exact ih
theorem cn_front (P : Int → Prop) : ∀ (n : Nat), cn P (n + 1) = cn (fun i => P (i + 1)) n + @ite Int (P 0) (Classical.propDecidable _) 1 0 := by
  intro n
  induction n with
  | zero =>
    show cn P 0 + _ = cn _ 0 + _
    show (0 : Int) + _ = 0 + _
    rfl
  | succ n ih =>
    rw [cn_s P (n + 1), ih, cn_s (fun i => P (i + 1)) n]
    have e : ((n + 1 : Nat) : Int) = (n : Int) + 1 := by omega
    rw [e]
    omega
theorem cn_rev : ∀ (n : Nat) (P : Int → Prop), cn (fun i => P ((n : Int) - 1 - i)) n = cn P n := by
  intro n
  induction n with
  | zero => intro P; rfl
  | succ n ih =>
    intro P
    rw [cn_front]
    have e1 : cn (fun i => P (((n + 1 : Nat) : Int) - 1 - (i + 1))) n = cn (fun i => P ((n : Int) - 1 - i)) n := cn_congr n (fun i _ _ => by
      have e : ((n + 1 : Nat) : Int) - 1 - (i + 1) = (n : Int) - 1 - i := by omega
      rw [e])
    rw [e1, ih, cn_s]
    have e2 : ((n + 1 : Nat) : Int) - 1 - 0 = (n : Int) := by omega
    rw [e2]
/-! the row: who is there, in which round who went -/
def RI (B size there rb : Int) (line went : Int → Int) : Prop :=
  (1 ≤ size ∧ size ≤ 120) ∧ (0 ≤ there ∧ there ≤ size) ∧ (0 ≤ rb ∧ rb ≤ B) ∧ (∀ i, 0 ≤ i → i < there → 1 ≤ line i ∧ line i ≤ size) ∧ (∀ i j, 0 ≤ i → i < there → 0 ≤ j → j < there → line i = line j → i = j) ∧ (∀ x, 1 ≤ x → x ≤ size → 0 ≤ went x ∧ went x ≤ rb) ∧ (∀ x, 1 ≤ x → x ≤ size → (went x = 0 ↔ ∃ i, 0 ≤ i ∧ i < there ∧ line i = x)) ∧ (rb = 0 → there = size)
def PI (kind fig sc : Int) (steps : Int → Int) : Prop := (0 ≤ kind ∧ kind ≤ 6) ∧ (2 ≤ fig ∧ fig ≤ 9) ∧ (0 ≤ sc ∧ sc ≤ 8) ∧ (∀ i, 0 ≤ i → i < sc → 2 ≤ steps i ∧ steps i ≤ 9)
/-- two arrays alike from a to below b -/
def eqr (a b : Int) (f g : Int → Int) : Prop := ∀ i, a ≤ i → i < b → f i = g i
theorem RI.congr {B size there rb : Int} {line went line' went' : Int → Int} (h : RI B size there rb line went) (h1 : eqr 0 there line line') (h2 : eqr 1 (size + 1) went went') : RI B size there rb line' went' := by
  obtain ⟨a1, a2, a3, a4, a5, a6, a7, a8⟩ := h
  refine ⟨a1, a2, a3, fun i p q => ?_, fun i j p q p' q' e => ?_, fun x p q => ?_, fun x p q => ?_, a8⟩
  · rw [← h1 i p q]; exact a4 i p q
  · rw [← h1 i p q, ← h1 j p' q'] at e; exact a5 i j p q p' q' e
  · rw [← h2 x p (by omega)]; exact a6 x p q
  · rw [← h2 x p (by omega), a7 x p q]
    constructor
    · rintro ⟨i, b1, b2, b3⟩; exact ⟨i, b1, b2, by rw [← h1 i b1 b2]; exact b3⟩
    · rintro ⟨i, b1, b2, b3⟩; exact ⟨i, b1, b2, by rw [h1 i b1 b2]; exact b3⟩
theorem RI.widen {B C size there rb : Int} {line went : Int → Int} (h : RI B size there rb line went) (hc : B ≤ C) : RI C size there rb line went := by
  obtain ⟨a1, a2, a3, a⟩ := h
  exact ⟨a1, a2, ⟨a3.1, by omega⟩, a⟩
theorem PI.congr {kind fig sc : Int} {steps steps' : Int → Int} (h : PI kind fig sc steps) (h1 : eqr 0 sc steps steps') : PI kind fig sc steps' := by
  obtain ⟨a1, a2, a3, a4⟩ := h
  exact ⟨a1, a2, a3, fun i p q => by rw [← h1 i p q]; exact a4 i p q⟩
theorem eqr.symm {a b : Int} {f g : Int → Int} (h : eqr a b f g) : eqr a b g f := fun i p q => (h i p q).symm
theorem eqr.trans {a b : Int} {f g k : Int → Int} (h : eqr a b f g) (h2 : eqr a b g k) : eqr a b f k := fun i p q => (h i p q).trans (h2 i p q)
theorem eqr.rfl {a b : Int} {f : Int → Int} : eqr a b f f := fun _ _ _ => Eq.refl _
theorem eqr.cut {a b c d : Int} {f g : Int → Int} (h : eqr a b f g) (h1 : a ≤ c) (h2 : d ≤ b) : eqr c d f g := fun i p q => h i (by omega) (by omega)
theorem eqr_zcp {a b n : Int} {f g : Int → Int} (h1 : 0 ≤ a) (h2 : b ≤ n) : eqr a b (zcp f g n) f := fun i p q => zcp_in (by omega) (by omega)
/-- behind a strike: those hit get the round's number, the others close up -/
def Closed (there : Int) (line went : Int → Int) (a : Int) (l' : Int → Int) : Prop :=
  (0 ≤ a ∧ a ≤ there) ∧ (∀ i, 0 ≤ i → i < a → ∃ j, 0 ≤ j ∧ j < there ∧ l' i = line j ∧ went (line j) = 0) ∧ (∀ j, 0 ≤ j → j < there → went (line j) = 0 → ∃ i, 0 ≤ i ∧ i < a ∧ l' i = line j) ∧ ((∀ i j, 0 ≤ i → i < there → 0 ≤ j → j < there → line i = line j → i = j) → ∀ i j, 0 ≤ i → i < a → 0 ≤ j → j < a → l' i = l' j → i = j)
theorem RI.struck {B size there rb a : Int} {line went w' l' : Int → Int} {Hit : Int → Prop} (h : RI B size there rb line went) (h1 : ∀ x, (∃ i, 0 ≤ i ∧ i < there ∧ Hit i ∧ line i = x) → w' x = rb + 1) (h2 : ∀ x, ¬ (∃ i, 0 ≤ i ∧ i < there ∧ Hit i ∧ line i = x) → w' x = went x) (hc : Closed there line w' a l') : RI (B + 1) size a (rb + 1) l' w' := by
  obtain ⟨a1, a2, a3, a4, a5, a6, a7, a8⟩ := h
  obtain ⟨c1, c2, c3, c4⟩ := hc
  refine ⟨a1, ⟨c1.1, by omega⟩, ⟨by omega, by omega⟩, fun i p q => ?_, c4 a5, fun x p q => ?_, fun x p q => ?_, fun e => absurd e (by omega)⟩
  · obtain ⟨j, j1, j2, j3, j4⟩ := c2 i p q
    rw [j3]; exact a4 j j1 j2
  · by_cases hx : ∃ i, 0 ≤ i ∧ i < there ∧ Hit i ∧ line i = x
    · rw [h1 x hx]; omega
    · rw [h2 x hx]; have := a6 x p q; omega
  · constructor
    · intro e
      by_cases hx : ∃ i, 0 ≤ i ∧ i < there ∧ Hit i ∧ line i = x
      · rw [h1 x hx] at e; omega
      · rw [h2 x hx] at e
        obtain ⟨i, i1, i2, i3⟩ := (a7 x p q).mp e
        obtain ⟨k, k1, k2, k3⟩ := c3 i i1 i2 (by rw [i3, h2 x hx]; exact e)
        exact ⟨k, k1, k2, by rw [k3, i3]⟩
    · rintro ⟨i, i1, i2, i3⟩
      obtain ⟨j, j1, j2, j3, j4⟩ := c2 i i1 i2
      rw [← i3, j3]; exact j4
