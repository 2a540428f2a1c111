/-! the endless row: each side answers -/
/-- the lucky counts: each above its number -/
def LK (K : Int) (luck : Int → Int) : Prop := ∀ i, 1 ≤ i → i ≤ K → i + 1 ≤ luck i ∧ luck i ≤ 100000
theorem xcount1 {v3 : Int} {luck : Int → Int} (h : 1 ≤ v3 ∧ v3 ≤ 64) (f : Int) : f_X0_countIn 1 f v3 luck = some (luck v3) := by
  unfold f_X0_countIn
  rw [zg_pos ⟨by omega, by omega⟩, if_neg (show ¬ ¬ (1 : Int) = 1 from fun q => q rfl), zg_pos ⟨by omega, by omega⟩, if_neg (by omega), zg_pos ⟨by omega, by omega⟩, if_neg (by omega), zg_pos ⟨by omega, by omega⟩]
theorem xcount0 {v3 f : Int} {luck : Int → Int} : f_X0_countIn 0 f v3 luck = some (v3 + 1) := by
  unfold f_X0_countIn
  rw [zg_pos ⟨by omega, by omega⟩, if_pos (by decide), zg_pos ⟨by omega, by omega⟩, if_pos (by decide)]
theorem xcount2 {v3 f : Int} {luck : Int → Int} : f_X0_countIn 2 f v3 luck = some f := by
  unfold f_X0_countIn
  rw [zg_pos ⟨by omega, by omega⟩, if_pos (by decide), zg_pos ⟨by omega, by omega⟩, if_neg (show ¬ ¬ (2 : Int) = 2 from fun q => q rfl)]
/-- going up: how far -/
theorem xup3 {v1 f v3 v4 : Int} {luck : Int → Int} (hv3 : zR v3) (h4 : 0 ≤ v4 ∧ v4 ≤ 1000) (hc : ∀ i, 1 ≤ i → i ≤ v4 → ∃ r, f_X0_countIn v1 f i luck = some r ∧ zR r) : ∀ (n : Nat) (v5 : Int), 0 ≤ v5 → v5 ≤ v4 → v4 - v5 < n → ok (f_X0_goUp_L3 n v1 f v3 v4 v5 luck) (fun r => v5 ≤ r ∧ r ≤ v4 ∧ (r < v4 → ∃ c, f_X0_countIn v1 f (r + 1) luck = some c ∧ v3 < c) ∧ (∀ i, v5 < i → i ≤ r → ∃ c, f_X0_countIn v1 f i luck = some c ∧ c ≤ v3)) := by
  intro n
  induction n with
  | zero => intro v5 a1 a2 a3; exact absurd a3 (by omega)
  | succ n ih =>
    intro v5 a1 a2 a3
    rw [f_X0_goUp_L3_s]
    refine ok_zg.mpr ⟨⟨⟨by omega, by omega⟩, ⟨by omega, by omega⟩⟩, ok_ite.mpr ⟨fun c => ok_some.mpr ⟨Int.le_refl _, a2, fun q => absurd q (by omega), fun i p q => absurd q (by omega)⟩, fun c => ?_⟩⟩
    obtain ⟨r, hr, hz⟩ := hc (v5 + 1) (by omega) (by omega)
    refine ok_bind.mpr (ok_of hr (ok_zg.mpr ⟨⟨hz, hv3⟩, ok_ite.mpr ⟨fun c2 => ok_some.mpr ⟨Int.le_refl _, a2, fun _ => ⟨r, hr, c2⟩, fun i p q => absurd q (by omega)⟩, fun c2 => ?_⟩⟩))
    refine (ih (v5 + 1) (by omega) (by omega) (by omega)).mono (fun q hq => ⟨by omega, hq.2.1, hq.2.2.1, fun i p p2 => ?_⟩)
    by_cases e : i = v5 + 1
    · rw [e]; exact ⟨r, hr, by omega⟩
    · exact hq.2.2.2 i (by omega) p2
/-- going up: the number; C bounds it -/
theorem xup33 {v1 f C : Int} {luck : Int → Int} (hC : C ≤ 1000000) : ∀ (n : Nat) (v5 v6 : Int), 0 ≤ v5 → v5 ≤ 1000 → v5 < n → 1 ≤ v6 → (v6 - 1) * (v5 + 1) ≤ C → (∀ i, 1 ≤ i → i ≤ v5 → ∃ r, f_X0_countIn v1 f i luck = some r ∧ i + 1 ≤ r ∧ r ≤ 1000000) → ok (f_X0_goUp_L33 n v1 f v5 v6 luck) (fun r => v6 ≤ r ∧ r - 1 ≤ C) := by
  intro n
  induction n with
  | zero => intro v5 v6 a1 a2 a3; exact absurd a3 (by omega)
  | succ n ih =>
    intro v5 v6 a1 a2 a3 a4 a5 hc
    have mono : (v6 - 1) * 1 ≤ (v6 - 1) * (v5 + 1) := Int.mul_le_mul_of_nonneg_left (by omega) (by omega)
    rw [f_X0_goUp_L33_s]
    refine ok_zg.mpr ⟨⟨by omega, by omega⟩, ok_ite.mpr ⟨fun c => ok_some.mpr ⟨Int.le_refl _, by omega⟩, fun c => ?_⟩⟩
    obtain ⟨r, hr, h1, h2⟩ := hc v5 (by omega) (Int.le_refl _)
    refine ok_bind.mpr (ok_of hr ?_)
    have e : (if r - 1 < 1 then 1 else r - 1) = r - 1 := if_neg (by omega)
    refine ok_zg.mpr ⟨⟨⟨by omega, by omega⟩, ⟨by omega, by omega⟩⟩, ?_⟩
    rw [e]
    refine ok_zg.mpr ⟨⟨by omega, by omega, by omega, by omega⟩, ?_⟩
    have d0 : 0 ≤ (v6 - 1) / (r - 1) := Int.ediv_nonneg (by omega) (by omega)
    have d1 : (v6 - 1) / (r - 1) * (r - 1) ≤ v6 - 1 := Int.ediv_mul_le _ (by omega)
    have d2 : (v6 - 1) / (r - 1) * v5 ≤ (v6 - 1) / (r - 1) * (r - 1) := Int.mul_le_mul_of_nonneg_left (by omega) d0
    have d3 : (v6 + (v6 - 1) / (r - 1) - 1) * v5 = (v6 - 1) * v5 + (v6 - 1) / (r - 1) * v5 := by
      rw [show v6 + (v6 - 1) / (r - 1) - 1 = (v6 - 1) + (v6 - 1) / (r - 1) by omega, Int.add_mul]
    have d4 : (v6 - 1) * (v5 + 1) = (v6 - 1) * v5 + (v6 - 1) := by rw [Int.mul_add, Int.mul_one]
    refine (ih (v5 + -1) (v6 + (v6 - 1) / (r - 1)) (by omega) (by omega) (by omega) (by omega) ?_ (fun i p q => hc i p (by omega))).mono (fun q hq => ⟨by omega, hq.2⟩)
    rw [show v5 + -1 + 1 = v5 by omega, d3]
    omega
theorem xup1 {K v3 f : Int} {luck : Int → Int} (hL : LK K luck) (hK : 0 ≤ K ∧ K ≤ 64) (h3 : 1 ≤ v3 ∧ v3 ≤ 200) : ok (f_X0_goUp 1 f v3 K luck) (fun r => v3 ≤ r ∧ r ≤ 20000) := by
  unfold f_X0_goUp
  refine ok_bind.mpr ((xup3 (v1 := 1) (f := f) ⟨by omega, by omega⟩ ⟨hK.1, by omega⟩ (fun i p q => ⟨_, xcount1 ⟨p, by omega⟩ f, by have := hL i p q; exact ⟨by omega, by omega⟩⟩) zF 0 (by omega) hK.1 (by rw [zF_eq]; omega)).mono (fun k hk => ?_))
  have m : (v3 - 1) * (k + 1) ≤ 199 * 65 := Int.mul_le_mul (by omega) (by omega) (by omega) (by omega)
  exact ok_bind.mpr ((xup33 (v1 := 1) (f := f) (C := 199 * 65) (by omega) zF k v3 hk.1 (by omega) (by rw [zF_eq]; omega) h3.1 m (fun i p q => ⟨_, xcount1 ⟨p, by omega⟩ f, by have := hL i p (by omega); omega⟩)).mono (fun r hr => ok_some.mpr ⟨hr.1, by omega⟩))
/-- more: with one count at least to go through, the number grows by one at least -/
theorem xup33_gt {v1 f : Int} {luck : Int → Int} : ∀ (n : Nat) (v5 v6 r : Int), 1 ≤ v5 → 1 ≤ v6 → f_X0_goUp_L33 n v1 f v5 v6 luck = some r → (∀ i, 1 ≤ i → i ≤ v5 → ∃ c, f_X0_countIn v1 f i luck = some c ∧ i + 1 ≤ c) → (∃ c, f_X0_countIn v1 f 1 luck = some c ∧ c ≤ v6) → v6 + 1 ≤ r := by
  intro n
  induction n with
  | zero => intro v5 v6 r _ _ h; exact absurd h (by rw [f_X0_goUp_L33_z]; intro q; cases q)
  | succ n ih =>
    intro v5 v6 r a1 a2 h hc h1
    rw [f_X0_goUp_L33_s] at h
    obtain ⟨-, h⟩ := zg_some h
    rw [if_neg (by omega)] at h
    obtain ⟨c, hc1, hc2⟩ := hc v5 a1 (Int.le_refl _)
    rw [hc1, Option.bind_some] at h
    obtain ⟨-, h⟩ := zg_some h
    obtain ⟨-, h⟩ := zg_some h
    have e : (if c - 1 < 1 then 1 else c - 1) = c - 1 := if_neg (by omega)
    rw [e] at h
    have d0 : 0 ≤ (v6 - 1) / (c - 1) := Int.ediv_nonneg (by omega) (by omega)
    by_cases c1 : v5 = 1
    · subst c1
      obtain ⟨c', q1, q2⟩ := h1
      rw [hc1] at q1
      cases q1
      have : 1 ≤ (v6 - 1) / (c - 1) := by
        rw [Int.le_ediv_iff_mul_le (by omega)]; omega
      -- the last step leaves the number
      obtain ⟨n', rfl⟩ : ∃ n', n = n' + 1 := by
        rcases Nat.eq_zero_or_pos n with z | z
        · subst z; exact absurd h (by rw [f_X0_goUp_L33_z]; intro q; cases q)
        · exact ⟨n - 1, by omega⟩
      rw [f_X0_goUp_L33_s] at h
      obtain ⟨-, h⟩ := zg_some h
      rw [if_pos (by omega)] at h
      cases h
      omega
    · obtain ⟨c', q1, q2⟩ := h1
      have := ih (v5 + -1) (v6 + (v6 - 1) / (c - 1)) r (by omega) (by omega) h (fun i p q => hc i p (by omega)) ⟨c', q1, by omega⟩
      omega
theorem xinit_L : ∀ (n : Nat) (v1 : Int) (luck : Int → Int), 2 ≤ v1 → v1 ≤ 65 → 65 - v1 < n → LK (v1 - 1) luck → luck 1 = 2 → ok (f_X0_init_L21 n v1 luck) (LK 64) := by
  intro n
  induction n with
  | zero => intro v1 luck a1 a2 a3; exact absurd a3 (by omega)
  | succ n ih =>
    intro v1 luck a1 a2 a3 hL h2
    rw [f_X0_init_L21_s]
    refine ok_zg.mpr ⟨⟨by omega, by omega⟩, ok_ite.mpr ⟨fun c => ok_some.mpr (by rw [show (64 : Int) = v1 - 1 by omega]; exact hL), fun c => ?_⟩⟩
    obtain ⟨r, hr, hr1, hr2⟩ := xup1 (f := 2) (v3 := v1) hL ⟨by omega, by omega⟩ ⟨by omega, by omega⟩
    have hgt : v1 + 1 ≤ r := by
      unfold f_X0_goUp at hr
      obtain ⟨k, hk, hk1, hk2, hk3, -⟩ := xup3 (v1 := 1) (f := 2) (v3 := v1) (v4 := v1 - 1) (luck := luck) ⟨by omega, by omega⟩ ⟨by omega, by omega⟩ (fun i p q => ⟨_, xcount1 ⟨p, by omega⟩ 2, by have := hL i p q; exact ⟨by omega, by omega⟩⟩) zF 0 (by omega) (by omega) (by rw [zF_eq]; omega)
      rw [hk, Option.bind_some] at hr
      obtain ⟨r', hr', hr3⟩ := zb hr
      cases hr3
      have k1 : 1 ≤ k := by
        by_cases q : k = 0
        · obtain ⟨c0, c1, c2⟩ := hk3 (by omega)
          rw [q, show (0 : Int) + 1 = 1 by omega, xcount1 ⟨by omega, by omega⟩] at c1
          cases c1
          omega
        · omega
      exact xup33_gt zF k v1 _ k1 (by omega) hr' (fun i p q => ⟨_, xcount1 ⟨p, by omega⟩ 2, (hL i p (by omega)).1⟩) ⟨_, xcount1 ⟨by omega, by omega⟩ 2, by omega⟩
    refine ok_bind.mpr (ok_of hr (ok_zg.mpr ⟨⟨by omega, by omega⟩, ih (v1 + 1) _ (by omega) (by omega) (by omega) (fun i p q => ?_) ?_⟩))
    · by_cases e : i = v1
      · rw [e, zup_same]; omega
      · rw [zup_ne e]; exact hL i p (by omega)
    · rw [zup_ne (by omega)]; exact h2
theorem xinit : ok f_X0_init (LK 64) := by
  unfold f_X0_init
  refine ok_zg.mpr ⟨⟨by omega, by omega⟩, ok_bind.mpr ((xinit_L zF 2 _ (by omega) (by omega) (by rw [zF_eq]; omega) (fun i p q => ?_) (zup_same _ _ _)).mono (fun r hr => ok_some.mpr hr))⟩
  rw [show i = 1 by omega, zup_same]; omega
theorem xendless {v w fig : Int} {luck R : Int → Int} (hv : zR v) (hw : zR w) (hf : 2 ≤ fig ∧ fig ≤ 9) (hL : LK 64 luck) : ok (f_X10_endless v w R fig luck) (fun _ => True) := by
  have RF : ∀ k : Int, 0 ≤ k ∧ k < 7 → ok ((f_X10_refuse k R).bind (fun (r_1, t_refusals_2) => some (r_1, t_refusals_2))) (fun _ => True) := fun k hk => ok_bind.mpr ((xref hk R).mono (fun r _ => by obtain ⟨r1, r2⟩ := r; exact ok_some.mpr trivial))
  unfold f_X10_endless f_X10_endless_J9
  refine ok_zg.mpr ⟨hv, ok_ite.mpr ⟨fun _ => RF 2 (by omega), fun c1 => ok_zg.mpr ⟨hv, ok_ite.mpr ⟨fun c2 => ok_zg.mpr ⟨hw, ok_ite.mpr ⟨fun c3 => ok_zg.mpr ⟨hw, ok_ite.mpr ⟨fun c4 => ?_, fun _ => RF 6 (by omega)⟩⟩, fun _ => RF 4 (by omega)⟩⟩, fun _ => RF 2 (by omega)⟩⟩⟩⟩
  refine ok_bind.mpr (?_ : ok _ (fun r => ok _ _))
  have done : ∀ r : Int, ok (some (r, R)) (fun _ => True) := fun r => ok_some.mpr trivial
  unfold f_X0_numberWhoStays f_X0_numberWhoStays_J13 f_X0_numberWhoStays_J28
  have H : v = 0 ∨ v = 1 ∨ v = 2 := by omega
  rcases H with rfl | rfl | rfl
  · refine ok_zg.mpr ⟨⟨by omega, by omega⟩, ?_⟩
    rw [if_pos (by decide)]
    refine ok_zg.mpr ⟨⟨by omega, by omega⟩, ?_⟩
    rw [if_pos (by decide)]
    unfold f_X0_goUp
    refine ok_bind.mpr (ok_bind.mpr ((xup3 (v1 := 0) (f := fig) hw ⟨by omega, by omega⟩ (fun i p q => ⟨_, xcount0, ⟨by omega, by omega⟩⟩) zF 0 (by omega) (by omega) (by rw [zF_eq]; omega)).mono (fun k hk => ?_)))
    have m : (w - 1) * (k + 1) ≤ 199 * 201 := Int.mul_le_mul (by omega) (by omega) (by omega) (by omega)
    exact ok_bind.mpr ((xup33 (v1 := 0) (f := fig) (C := 199 * 201) (by omega) zF k w hk.1 (by omega) (by rw [zF_eq]; omega) c3 m (fun i p q => ⟨_, xcount0, by omega, by omega⟩)).mono (fun r hr => ok_some.mpr (ok_some.mpr (done r))))
  · refine ok_zg.mpr ⟨⟨by omega, by omega⟩, ?_⟩
    rw [if_pos (by decide)]
    refine ok_zg.mpr ⟨⟨by omega, by omega⟩, ?_⟩
    rw [if_neg (show ¬ ¬ (1 : Int) = 1 from fun q => q rfl)]
    exact ok_bind.mpr ((xup1 hL ⟨by omega, by omega⟩ ⟨c3, c4⟩).mono (fun r hr => ok_some.mpr (done r)))
  · refine ok_zg.mpr ⟨⟨by omega, by omega⟩, ?_⟩
    rw [if_neg (show ¬ ¬ (2 : Int) = 2 from fun q => q rfl)]
    refine ok_zg.mpr ⟨⟨hw, ⟨by omega, by omega⟩⟩, ok_ite.mpr ⟨fun c5 => ?_, fun _ => ok_some.mpr (done _)⟩⟩
    refine ok_zg.mpr ⟨⟨by omega, by omega⟩, ?_⟩
    rw [if_pos (by decide)]
    unfold f_X0_goUp
    refine ok_bind.mpr (ok_bind.mpr ((xup3 (v1 := 2) (f := fig) hw ⟨by omega, by omega⟩ (fun i p q => ⟨_, xcount2, ⟨by omega, by omega⟩⟩) zF 0 (by omega) (by omega) (by rw [zF_eq]; omega)).mono (fun k hk => ?_)))
    have k0 : k = 0 := by
      by_cases q : k = 0
      · exact q
      · obtain ⟨c, h1, h2⟩ := hk.2.2.2 1 (by omega) (by omega)
        rw [xcount2] at h1
        cases h1
        omega
    subst k0
    exact ok_bind.mpr ((xup33 (v1 := 2) (f := fig) (C := 199) (by omega) zF 0 w (by omega) (by omega) (by rw [zF_eq]; omega) c3 (by omega) (fun i p q => absurd q (by omega))).mono (fun r hr => ok_some.mpr (ok_some.mpr (done r))))
theorem xew_L {v f v3 : Int} {luck : Int → Int} (h3 : 1 ≤ v3 ∧ v3 ≤ 1500) (hc : ∀ i, 1 ≤ i → i ≤ 1500 → ∃ r, f_X0_countIn v f i luck = some r ∧ zR r) : ∀ (n : Nat) (v4 v5 : Int), 0 ≤ v4 → v4 ≤ 1500 → 1 ≤ v5 → v5 ≤ 1501 → 1501 - v5 < n → ok (f_X0_roundOfGoing_L6 n v f v3 v4 v5 luck) (fun _ => True) := by
  intro n
  induction n with
  | zero => intro v4 v5 a1 a2 a3 a4 a5; exact absurd a5 (by omega)
  | succ n ih =>
    intro v4 v5 a1 a2 a3 a4 a5
    rw [f_X0_roundOfGoing_L6_s]
    · refine ok_zg.mpr ⟨⟨⟨by omega, by omega⟩, ⟨by omega, by omega⟩⟩, ok_ite.mpr ⟨fun _ => ok_some.mpr trivial, fun c => ?_⟩⟩
      obtain ⟨r, hr, hr2⟩ := hc v5 a3 (by omega)
      refine ok_bind.mpr (ok_of hr (ok_zg.mpr ⟨hr2, ok_ite.mpr ⟨fun _ => ok_some.mpr trivial, fun c2 => ok_zg.mpr ⟨⟨⟨by omega, by omega⟩, hr2⟩, ok_ite.mpr ⟨fun c3 => ?_, fun _ => ok_some.mpr trivial⟩⟩⟩⟩))
      have hr3 := hr2.2
      have m1 := Int.emod_nonneg v4 (show r ≠ 0 by omega)
      have m2 := Int.emod_lt_of_pos v4 (show 0 < r by omega)
      have g : 0 ≤ v4 ∧ v4 ≤ 2147483647 ∧ 0 < r ∧ r ≤ 2147483647 := ⟨a1, by omega, by omega, hr3⟩
      have d0 : 0 ≤ v4 / r := Int.ediv_nonneg a1 (by omega)
      have d1 : v4 / r ≤ v4 := Int.ediv_le_self r a1
      exact ok_zg.mpr ⟨g, ok_zg.mpr ⟨⟨by omega, by omega⟩, ok_ite.mpr ⟨fun _ => ok_zg.mpr ⟨g, ih (v4 - v4 / r) (v5 + 1) (by omega) (by omega) (by omega) (by omega) (by omega)⟩, fun _ => ok_some.mpr trivial⟩⟩⟩
theorem xendlessWhen {v w fig : Int} {luck R : Int → Int} (hv : zR v) (hw : zR w) (hf : 2 ≤ fig ∧ fig ≤ 9) (hL : LK 64 luck) : ok (f_X10_endlessWhen v w R fig luck) (fun _ => True) := by
  have RF : ∀ k : Int, 0 ≤ k ∧ k < 7 → ok ((f_X10_refuse k R).bind (fun (r_1, t_refusals_2) => some (r_1, t_refusals_2))) (fun _ => True) := fun k hk => ok_bind.mpr ((xref hk R).mono (fun r _ => by obtain ⟨r1, r2⟩ := r; exact ok_some.mpr trivial))
  unfold f_X10_endlessWhen f_X10_endlessWhen_J9
  refine ok_zg.mpr ⟨hv, ok_ite.mpr ⟨fun _ => RF 2 (by omega), fun c1 => ok_zg.mpr ⟨hv, ok_ite.mpr ⟨fun c2 => ok_zg.mpr ⟨hw, ok_ite.mpr ⟨fun c3 => ok_zg.mpr ⟨hw, ok_ite.mpr ⟨fun c4 => ?_, fun _ => RF 6 (by omega)⟩⟩, fun _ => RF 4 (by omega)⟩⟩, fun _ => RF 2 (by omega)⟩⟩⟩⟩
  unfold f_X0_roundOfGoing
  refine ok_bind.mpr ((xew_L (v := v) (f := fig) (luck := luck) ⟨c3, c4⟩ (fun i p q => ?_) zF w 1 (by omega) c4 (by omega) (by omega) (by rw [zF_eq]; omega)).mono (fun r _ => ok_some.mpr trivial))
  have H : v = 0 ∨ v = 1 ∨ v = 2 := by omega
  rcases H with rfl | rfl | rfl
  · exact ⟨_, xcount0, ⟨by omega, by omega⟩⟩
  · by_cases c : i ≤ 64
    · have := hL i p c
      exact ⟨_, xcount1 ⟨p, c⟩ fig, ⟨by omega, by omega⟩⟩
    · refine ⟨1000000, ?_, ⟨by omega, by omega⟩⟩
      unfold f_X0_countIn
      rw [zg_pos ⟨by omega, by omega⟩, if_neg (show ¬ ¬ (1 : Int) = 1 from fun q => q rfl), zg_pos ⟨by omega, by omega⟩, if_neg (by omega), zg_pos ⟨by omega, by omega⟩, if_pos (by omega)]
  · exact ⟨_, xcount2, ⟨by omega, by omega⟩⟩
theorem xpow_L {v1 v2 : Int} (h : v1 ≤ 5) : ∀ (n : Nat) (v3 v4 : Int), 0 ≤ v4 → v4 ≤ 5 → 5 - v4 < n → zR v1 → ok (f_X10_powers_L39 n v1 v2 v3 v4) (fun _ => True) := by
  intro n
  induction n with
  | zero => intro v3 v4 a1 a2 a3; exact absurd a3 (by omega)
  | succ n ih =>
    intro v3 v4 a1 a2 a3 hz
    rw [f_X10_powers_L39_s]
    exact ok_zg.mpr ⟨⟨⟨by omega, by omega⟩, hz⟩, ok_ite.mpr ⟨fun _ => ok_some.mpr trivial, fun c => ih _ (v4 + 1) (by omega) (by omega) (by omega) hz⟩⟩
theorem xpowers {v w : Int} {R : Int → Int} (hv : zR v) (hw : zR w) : ok (f_X10_powers v w R) (fun _ => True) := by
  have RF : ∀ k : Int, 0 ≤ k ∧ k < 7 → ok ((f_X10_refuse k R).bind (fun (r_1, t_refusals_2) => some (r_1, t_refusals_2))) (fun _ => True) := fun k hk => ok_bind.mpr ((xref hk R).mono (fun r _ => by obtain ⟨r1, r2⟩ := r; exact ok_some.mpr trivial))
  unfold f_X10_powers f_X10_powers_J10 f_X10_powers_J27
  refine ok_zg.mpr ⟨hv, ok_ite.mpr ⟨fun _ => RF 4 (by omega), fun c1 => ok_zg.mpr ⟨hw, ok_ite.mpr ⟨fun c2 => ok_zg.mpr ⟨hv, ok_ite.mpr ⟨fun _ => RF 6 (by omega), fun c3 => ok_zg.mpr ⟨hw, ok_ite.mpr ⟨fun c4 => ?_, fun _ => RF 6 (by omega)⟩⟩⟩⟩, fun _ => RF 4 (by omega)⟩⟩⟩⟩
  exact ok_bind.mpr ((xpow_L (by omega) zF 1 0 (by omega) (by omega) (by rw [zF_eq]; omega) hv).mono (fun r _ => ok_some.mpr trivial))
