/-! the model's keeping: all of it into a row of 255, and back -/
theorem mcarry0 {v p : Int} {q : Int → Int} (h : 0 ≤ p ∧ p < 256) : f_X11_carry v p 0 q = some (q p, p + 1, q) := by
  unfold f_X11_carry f_X11_carry_J17
  rw [zg_pos ⟨by omega, by omega⟩, if_pos rfl, show p + 1 - 1 = p by omega, zg_pos h]
theorem mcarry1 {v p : Int} {q : Int → Int} (h : 0 ≤ p ∧ p < 256) : f_X11_carry v p 1 q = some (v, p + 1, zup q p v) := by
  unfold f_X11_carry f_X11_carry_J17
  rw [zg_pos ⟨by omega, by omega⟩, if_neg (by decide), zg_pos h, show p + 1 - 1 = p by omega, zg_pos h, zup_same]
theorem zup_id (g : Int → Int) (i : Int) : zup g i (g i) = g := by
  funext j
  unfold zup
  by_cases h : j = i
  · rw [if_pos h, h]
  · rw [if_neg h]
theorem mL89_1 : ∀ (n : Nat) (v p : Int) (g q : Int → Int), 0 ≤ v → v ≤ 8 → 8 - v < n → 0 ≤ p → p + (8 - v) ≤ 256 → ok (f_X11_carryAll_L89 n v g p 1 q) (fun r => r.1 = g ∧ r.2.1 = p + (8 - v) ∧ (∀ j, p ≤ j → j < p + (8 - v) → r.2.2 j = g (v + (j - p))) ∧ (∀ j, j < p ∨ p + (8 - v) ≤ j → r.2.2 j = q j)) := by
  intro n
  induction n with
  | zero => intro v p g q h0 h1 h2; exact absurd h2 (by omega)
  | succ n ih =>
    intro v p g q h0 h1 h2 h3 h4
    rw [f_X11_carryAll_L89_s]
    refine ok_zg.mpr ⟨⟨by omega, by omega⟩, ok_ite.mpr ⟨fun c => ok_some.mpr ⟨rfl, by dsimp only; omega, fun j a b => absurd b (by omega), fun j _ => rfl⟩, fun c => ok_zg.mpr ⟨⟨by omega, by omega⟩, ok_bind.mpr ?_⟩⟩⟩
    rw [mcarry1 ⟨by omega, by omega⟩]
    refine ok_some.mpr (ok_zg.mpr ⟨⟨by omega, by omega⟩, ?_⟩)
    rw [zup_id]
    refine (ih (v + 1) (p + 1) g (zup q p (g v)) (by omega) (by omega) (by omega) (by omega) (by omega)).mono (fun r hr => ?_)
    obtain ⟨a1, a2, a3, a4⟩ := hr
    refine ⟨a1, by omega, fun j b c => ?_, fun j b => ?_⟩
    · by_cases hj : j = p
      · rw [a4 j (by omega), hj, zup_same, show v + (p - p) = v by omega]
      · rw [a3 j (by omega) (by omega), show v + 1 + (j - (p + 1)) = v + (j - p) by omega]
    · rw [a4 j (by omega), zup_ne (by omega)]
theorem mL89_0 : ∀ (n : Nat) (v p : Int) (g q : Int → Int), 0 ≤ v → v ≤ 8 → 8 - v < n → 0 ≤ p → p + (8 - v) ≤ 256 → ok (f_X11_carryAll_L89 n v g p 0 q) (fun r => r.2.2 = q ∧ r.2.1 = p + (8 - v) ∧ (∀ j, v ≤ j → j < 8 → r.1 j = q (p + (j - v))) ∧ (∀ j, j < v → r.1 j = g j)) := by
  intro n
  induction n with
  | zero => intro v p g q h0 h1 h2; exact absurd h2 (by omega)
  | succ n ih =>
    intro v p g q h0 h1 h2 h3 h4
    rw [f_X11_carryAll_L89_s]
    refine ok_zg.mpr ⟨⟨by omega, by omega⟩, ok_ite.mpr ⟨fun c => ok_some.mpr ⟨rfl, by dsimp only; omega, fun j a b => absurd b (by omega), fun j _ => rfl⟩, fun c => ok_zg.mpr ⟨⟨by omega, by omega⟩, ok_bind.mpr ?_⟩⟩⟩
    rw [mcarry0 ⟨by omega, by omega⟩]
    refine ok_some.mpr (ok_zg.mpr ⟨⟨by omega, by omega⟩, ?_⟩)
    refine (ih (v + 1) (p + 1) (zup g v (q p)) q (by omega) (by omega) (by omega) (by omega) (by omega)).mono (fun r hr => ?_)
    obtain ⟨a1, a2, a3, a4⟩ := hr
    refine ⟨a1, by omega, fun j b c => ?_, fun j b => ?_⟩
    · by_cases hj : j = v
      · rw [a4 j (by omega), hj, zup_same, show p + (v - v) = p by omega]
      · rw [a3 j (by omega) c, show p + 1 + (j - (v + 1)) = p + (j - v) by omega]
    · rw [a4 j (by omega), zup_ne (by omega)]
theorem mL119_1 : ∀ (n : Nat) (v p : Int) (g q : Int → Int), 0 ≤ v → v ≤ 120 → 120 - v < n → 0 ≤ p → p + (120 - v) ≤ 256 → ok (f_X11_carryAll_L119 n v g p 1 q) (fun r => r.1 = g ∧ r.2.1 = p + (120 - v) ∧ (∀ j, p ≤ j → j < p + (120 - v) → r.2.2 j = g (v + (j - p))) ∧ (∀ j, j < p ∨ p + (120 - v) ≤ j → r.2.2 j = q j)) := by
  intro n
  induction n with
  | zero => intro v p g q h0 h1 h2; exact absurd h2 (by omega)
  | succ n ih =>
    intro v p g q h0 h1 h2 h3 h4
    rw [f_X11_carryAll_L119_s]
    refine ok_zg.mpr ⟨⟨by omega, by omega⟩, ok_ite.mpr ⟨fun c => ok_some.mpr ⟨rfl, by dsimp only; omega, fun j a b => absurd b (by omega), fun j _ => rfl⟩, fun c => ok_zg.mpr ⟨⟨by omega, by omega⟩, ok_bind.mpr ?_⟩⟩⟩
    rw [mcarry1 ⟨by omega, by omega⟩]
    refine ok_some.mpr (ok_zg.mpr ⟨⟨by omega, by omega⟩, ?_⟩)
    rw [zup_id]
    refine (ih (v + 1) (p + 1) g (zup q p (g v)) (by omega) (by omega) (by omega) (by omega) (by omega)).mono (fun r hr => ?_)
    obtain ⟨a1, a2, a3, a4⟩ := hr
    refine ⟨a1, by omega, fun j b c => ?_, fun j b => ?_⟩
    · by_cases hj : j = p
      · rw [a4 j (by omega), hj, zup_same, show v + (p - p) = v by omega]
      · rw [a3 j (by omega) (by omega), show v + 1 + (j - (p + 1)) = v + (j - p) by omega]
    · rw [a4 j (by omega), zup_ne (by omega)]
theorem mL119_0 : ∀ (n : Nat) (v p : Int) (g q : Int → Int), 0 ≤ v → v ≤ 120 → 120 - v < n → 0 ≤ p → p + (120 - v) ≤ 256 → ok (f_X11_carryAll_L119 n v g p 0 q) (fun r => r.2.2 = q ∧ r.2.1 = p + (120 - v) ∧ (∀ j, v ≤ j → j < 120 → r.1 j = q (p + (j - v))) ∧ (∀ j, j < v → r.1 j = g j)) := by
  intro n
  induction n with
  | zero => intro v p g q h0 h1 h2; exact absurd h2 (by omega)
  | succ n ih =>
    intro v p g q h0 h1 h2 h3 h4
    rw [f_X11_carryAll_L119_s]
    refine ok_zg.mpr ⟨⟨by omega, by omega⟩, ok_ite.mpr ⟨fun c => ok_some.mpr ⟨rfl, by dsimp only; omega, fun j a b => absurd b (by omega), fun j _ => rfl⟩, fun c => ok_zg.mpr ⟨⟨by omega, by omega⟩, ok_bind.mpr ?_⟩⟩⟩
    rw [mcarry0 ⟨by omega, by omega⟩]
    refine ok_some.mpr (ok_zg.mpr ⟨⟨by omega, by omega⟩, ?_⟩)
    refine (ih (v + 1) (p + 1) (zup g v (q p)) q (by omega) (by omega) (by omega) (by omega) (by omega)).mono (fun r hr => ?_)
    obtain ⟨a1, a2, a3, a4⟩ := hr
    refine ⟨a1, by omega, fun j b c => ?_, fun j b => ?_⟩
    · by_cases hj : j = v
      · rw [a4 j (by omega), hj, zup_same, show p + (v - v) = p by omega]
      · rw [a3 j (by omega) c, show p + 1 + (j - (v + 1)) = p + (j - v) by omega]
    · rw [a4 j (by omega), zup_ne (by omega)]
theorem mL149_1 : ∀ (n : Nat) (v p : Int) (g q : Int → Int), 0 ≤ v → v ≤ 121 → 121 - v < n → 0 ≤ p → p + (121 - v) ≤ 256 → ok (f_X11_carryAll_L149 n v g p 1 q) (fun r => r.1 = g ∧ r.2.1 = p + (121 - v) ∧ (∀ j, p ≤ j → j < p + (121 - v) → r.2.2 j = g (v + (j - p))) ∧ (∀ j, j < p ∨ p + (121 - v) ≤ j → r.2.2 j = q j)) := by
  intro n
  induction n with
  | zero => intro v p g q h0 h1 h2; exact absurd h2 (by omega)
  | succ n ih =>
    intro v p g q h0 h1 h2 h3 h4
    rw [f_X11_carryAll_L149_s]
    refine ok_zg.mpr ⟨⟨by omega, by omega⟩, ok_ite.mpr ⟨fun c => ok_some.mpr ⟨rfl, by dsimp only; omega, fun j a b => absurd b (by omega), fun j _ => rfl⟩, fun c => ok_zg.mpr ⟨⟨by omega, by omega⟩, ok_bind.mpr ?_⟩⟩⟩
    rw [mcarry1 ⟨by omega, by omega⟩]
    refine ok_some.mpr (ok_zg.mpr ⟨⟨by omega, by omega⟩, ?_⟩)
    rw [zup_id]
    refine (ih (v + 1) (p + 1) g (zup q p (g v)) (by omega) (by omega) (by omega) (by omega) (by omega)).mono (fun r hr => ?_)
    obtain ⟨a1, a2, a3, a4⟩ := hr
    refine ⟨a1, by omega, fun j b c => ?_, fun j b => ?_⟩
    · by_cases hj : j = p
      · rw [a4 j (by omega), hj, zup_same, show v + (p - p) = v by omega]
      · rw [a3 j (by omega) (by omega), show v + 1 + (j - (p + 1)) = v + (j - p) by omega]
    · rw [a4 j (by omega), zup_ne (by omega)]
theorem mL149_0 : ∀ (n : Nat) (v p : Int) (g q : Int → Int), 0 ≤ v → v ≤ 121 → 121 - v < n → 0 ≤ p → p + (121 - v) ≤ 256 → ok (f_X11_carryAll_L149 n v g p 0 q) (fun r => r.2.2 = q ∧ r.2.1 = p + (121 - v) ∧ (∀ j, v ≤ j → j < 121 → r.1 j = q (p + (j - v))) ∧ (∀ j, j < v → r.1 j = g j)) := by
  intro n
  induction n with
  | zero => intro v p g q h0 h1 h2; exact absurd h2 (by omega)
  | succ n ih =>
    intro v p g q h0 h1 h2 h3 h4
    rw [f_X11_carryAll_L149_s]
    refine ok_zg.mpr ⟨⟨by omega, by omega⟩, ok_ite.mpr ⟨fun c => ok_some.mpr ⟨rfl, by dsimp only; omega, fun j a b => absurd b (by omega), fun j _ => rfl⟩, fun c => ok_zg.mpr ⟨⟨by omega, by omega⟩, ok_bind.mpr ?_⟩⟩⟩
    rw [mcarry0 ⟨by omega, by omega⟩]
    refine ok_some.mpr (ok_zg.mpr ⟨⟨by omega, by omega⟩, ?_⟩)
    refine (ih (v + 1) (p + 1) (zup g v (q p)) q (by omega) (by omega) (by omega) (by omega) (by omega)).mono (fun r hr => ?_)
    obtain ⟨a1, a2, a3, a4⟩ := hr
    refine ⟨a1, by omega, fun j b c => ?_, fun j b => ?_⟩
    · by_cases hj : j = v
      · rw [a4 j (by omega), hj, zup_same, show p + (v - v) = p by omega]
      · rw [a3 j (by omega) c, show p + 1 + (j - (v + 1)) = p + (j - v) by omega]
    · rw [a4 j (by omega), zup_ne (by omega)]
/-- a row of 255 that holds the model's state -/
def IMG (q : Int → Int) (size many rounds kind fig sc : Int) (steps row went : Int → Int) : Prop :=
  (q 0 = size ∧ q 1 = many ∧ q 2 = rounds ∧ q 3 = kind ∧ q 4 = fig ∧ q 5 = sc) ∧ (∀ i, 0 ≤ i → i < 8 → q (6 + i) = steps i) ∧ (∀ i, 0 ≤ i → i < 120 → q (14 + i) = row i) ∧ (∀ i, 0 ≤ i → i < 121 → q (134 + i) = went i)
theorem mtake {size many rounds kind fig sc place tk : Int} {steps row went q : Int → Int} : ok (f_X11_carryAll 1 size many rounds kind fig sc steps row went place tk q) (fun r => ∃ q', r = (size, many, rounds, kind, fig, sc, steps, row, went, 255, 1, q') ∧ IMG q' size many rounds kind fig sc steps row went) := by
  unfold f_X11_carryAll
  refine ok_zg.mpr ⟨Or.inr rfl, ok_bind.mpr ?_⟩
  rw [mcarry1 ⟨by omega, by omega⟩]
  refine ok_some.mpr (ok_bind.mpr ?_)
  rw [mcarry1 ⟨by omega, by omega⟩]
  refine ok_some.mpr (ok_bind.mpr ?_)
  rw [mcarry1 ⟨by omega, by omega⟩]
  refine ok_some.mpr (ok_bind.mpr ?_)
  rw [mcarry1 ⟨by omega, by omega⟩]
  refine ok_some.mpr (ok_bind.mpr ?_)
  rw [mcarry1 ⟨by omega, by omega⟩]
  refine ok_some.mpr (ok_bind.mpr ?_)
  rw [mcarry1 ⟨by omega, by omega⟩]
  refine ok_some.mpr (ok_bind.mpr ?_)
  refine (mL89_1 zF 0 _ steps _ (by omega) (by omega) (by rw [zF_eq]; omega) (by omega) (by omega)).mono (fun r hr => ?_)
  obtain ⟨r1, r2, r3⟩ := r
  obtain ⟨a1, a2, a3, a4⟩ := hr
  dsimp only at a1 a2 a3 a4
  subst a1
  refine ok_bind.mpr ?_
  have a2' : r2 = 14 := by omega
  subst a2'
  refine (mL119_1 zF 0 14 row r3 (by omega) (by omega) (by rw [zF_eq]; omega) (by omega) (by omega)).mono (fun r hr => ?_)
  obtain ⟨s1, s2, s3⟩ := r
  obtain ⟨b1, b2, b3, b4⟩ := hr
  dsimp only at b1 b2 b3 b4
  subst b1
  refine ok_bind.mpr ?_
  have b2' : s2 = 134 := by omega
  subst b2'
  refine (mL149_1 zF 0 134 went s3 (by omega) (by omega) (by rw [zF_eq]; omega) (by omega) (by omega)).mono (fun r hr => ?_)
  obtain ⟨t1, t2, t3⟩ := r
  obtain ⟨c1, c2, c3, c4⟩ := hr
  dsimp only at c1 c2 c3 c4
  subst c1
  have c2' : t2 = 255 := by omega
  subst c2'
  have low : ∀ j, j < 6 → t3 j = zup (zup (zup (zup (zup (zup q 0 size) (0 + 1) many) (0 + 1 + 1) rounds) (0 + 1 + 1 + 1) kind) (0 + 1 + 1 + 1 + 1) fig) (0 + 1 + 1 + 1 + 1 + 1) sc j := fun j hj => by
    rw [c4 j (by omega), b4 j (by omega), a4 j (by omega)]
  refine ok_some.mpr ⟨t3, rfl, ⟨?_, ?_, ?_, ?_, ?_, ?_⟩, fun i p w => ?_, fun i p w => ?_, fun i p w => ?_⟩
  · rw [low 0 (by omega)]; simp [zup]
  · rw [low 1 (by omega)]; simp [zup]
  · rw [low 2 (by omega)]; simp [zup]
  · rw [low 3 (by omega)]; simp [zup]
  · rw [low 4 (by omega)]; simp [zup]
  · rw [low 5 (by omega)]; simp [zup]
  · rw [c4 _ (by omega), b4 _ (by omega), a3 _ (by omega) (by omega)]
    congr 1
    omega
  · rw [c4 _ (by omega), b3 _ (by omega) (by omega)]
    congr 1
    omega
  · rw [c3 _ (by omega) (by omega)]
    congr 1
    omega
theorem mgive {size many rounds kind fig sc place tk size0 many0 rounds0 kind0 fig0 sc0 : Int} {steps row went q steps0 row0 went0 : Int → Int} (h : IMG q size0 many0 rounds0 kind0 fig0 sc0 steps0 row0 went0) : ok (f_X11_carryAll 0 size many rounds kind fig sc steps row went place tk q) (fun r => ∃ st ro we, r = (size0, many0, rounds0, kind0, fig0, sc0, st, ro, we, 255, 0, q) ∧ eqr 0 8 steps0 st ∧ eqr 0 120 row0 ro ∧ eqr 0 121 went0 we) := by
  obtain ⟨⟨i0, i1, i2, i3, i4, i5⟩, j1, j2, j3⟩ := h
  unfold f_X11_carryAll
  refine ok_zg.mpr ⟨Or.inl rfl, ok_bind.mpr ?_⟩
  rw [mcarry0 ⟨by omega, by omega⟩]
  refine ok_some.mpr (ok_bind.mpr ?_)
  rw [mcarry0 ⟨by omega, by omega⟩]
  refine ok_some.mpr (ok_bind.mpr ?_)
  rw [mcarry0 ⟨by omega, by omega⟩]
  refine ok_some.mpr (ok_bind.mpr ?_)
  rw [mcarry0 ⟨by omega, by omega⟩]
  refine ok_some.mpr (ok_bind.mpr ?_)
  rw [mcarry0 ⟨by omega, by omega⟩]
  refine ok_some.mpr (ok_bind.mpr ?_)
  rw [mcarry0 ⟨by omega, by omega⟩]
  refine ok_some.mpr (ok_bind.mpr ?_)
  refine (mL89_0 zF 0 _ steps q (by omega) (by omega) (by rw [zF_eq]; omega) (by omega) (by omega)).mono (fun r hr => ?_)
  obtain ⟨r1, r2, r3⟩ := r
  obtain ⟨a1, a2, a3, a4⟩ := hr
  dsimp only at a1 a2 a3 a4
  subst a1
  refine ok_bind.mpr ?_
  have a2' : r2 = 14 := by omega
  subst a2'
  refine (mL119_0 zF 0 14 row r3 (by omega) (by omega) (by rw [zF_eq]; omega) (by omega) (by omega)).mono (fun r hr => ?_)
  obtain ⟨s1, s2, s3⟩ := r
  obtain ⟨b1, b2, b3, b4⟩ := hr
  dsimp only at b1 b2 b3 b4
  subst b1
  refine ok_bind.mpr ?_
  have b2' : s2 = 134 := by omega
  subst b2'
  refine (mL149_0 zF 0 134 went s3 (by omega) (by omega) (by rw [zF_eq]; omega) (by omega) (by omega)).mono (fun r hr => ?_)
  obtain ⟨t1, t2, t3⟩ := r
  obtain ⟨c1, c2, c3, c4⟩ := hr
  dsimp only at c1 c2 c3 c4
  subst c1
  have c2' : t2 = 255 := by omega
  subst c2'
  refine ok_some.mpr ⟨r1, s1, t1, ?_, fun i p w => ?_, fun i p w => ?_, fun i p w => ?_⟩
  · have e1 : t3 (0 + 1) = many0 := i1
    have e2 : t3 (0 + 1 + 1) = rounds0 := i2
    have e3 : t3 (0 + 1 + 1 + 1) = kind0 := i3
    have e4 : t3 (0 + 1 + 1 + 1 + 1) = fig0 := i4
    have e5 : t3 (0 + 1 + 1 + 1 + 1 + 1) = sc0 := i5
    rw [i0, e1, e2, e3, e4, e5]
  · rw [a3 i (by omega) w, ← j1 i p w]
    congr 1
    omega
  · rw [b3 i (by omega) w, ← j2 i p w]
    congr 1
    omega
  · rw [c3 i (by omega) w, ← j3 i p w]
    congr 1
    omega
theorem mopen {size many rounds kind fig sc place tk ki : Int} {steps row went kept : Int → Int} : ok (f_X11_open size many rounds kind fig sc steps row went kept place tk ki) (fun r => ∃ q', r = (size, many, rounds, kind, fig, sc, steps, row, went, q', 255, 1, 1) ∧ IMG q' size many rounds kind fig sc steps row went) := by
  unfold f_X11_open
  refine ok_bind.mpr (mtake.mono (fun r hr => ?_))
  obtain ⟨q', rfl, h⟩ := hr
  exact ok_some.mpr ⟨q', rfl, h⟩
theorem mclose {size many rounds kind fig sc place tk ki size0 many0 rounds0 kind0 fig0 sc0 : Int} {steps row went kept steps0 row0 went0 : Int → Int} (h : IMG kept size0 many0 rounds0 kind0 fig0 sc0 steps0 row0 went0) : ok (f_X11_close size many rounds kind fig sc steps row went kept place tk ki) (fun r => ∃ st ro we, r = (size0, many0, rounds0, kind0, fig0, sc0, st, ro, we, kept, 255, 0, 1) ∧ eqr 0 8 steps0 st ∧ eqr 0 120 row0 ro ∧ eqr 0 121 went0 we) := by
  unfold f_X11_close
  refine ok_bind.mpr ((mgive h).mono (fun r hr => ?_))
  obtain ⟨st, ro, we, rfl, h1, h2, h3⟩ := hr
  exact ok_some.mpr ⟨st, ro, we, rfl, h1, h2, h3⟩
