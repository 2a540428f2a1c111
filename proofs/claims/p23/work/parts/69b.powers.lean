/-! sums that are powers, on both sides -/
theorem pw47 {v3 : Int} (h : 0 ≤ v3 ∧ v3 ≤ 100) : ∀ (n : Nat) (v4 : Int) (s : Int → Int), 0 ≤ v4 → v4 ≤ v3 → v3 - v4 < n → ok (f_X11_powers_L47 n v3 v4 s) (fun r => (∀ j, v4 ≤ j → j < v3 → r j = j + 1) ∧ (∀ j, j < v4 → r j = s j)) := by
  intro n
  induction n with
  | zero => intro v4 s a1 a2 a3; exact absurd a3 (by omega)
  | succ n ih =>
    intro v4 s a1 a2 a3
    rw [f_X11_powers_L47_s]
    refine ok_zg.mpr ⟨⟨⟨by omega, by omega⟩, ⟨by omega, by omega⟩⟩, ok_ite.mpr ⟨fun c => ok_some.mpr ⟨fun j p q => absurd q (by omega), fun j _ => rfl⟩, fun c => ok_zg.mpr ⟨⟨by omega, by omega⟩, ?_⟩⟩⟩
    refine (ih (v4 + 1) _ (by omega) (by omega) (by omega)).mono (fun r hr => ⟨fun j p q => ?_, fun j p => ?_⟩)
    · by_cases e : j = v4
      · rw [hr.2 j (by omega), e, zup_same]
      · exact hr.1 j (by omega) q
    · rw [hr.2 j (by omega), zup_ne (by omega)]
theorem mos2 {k : Int} {P0 P1 Q0 : Int → Int} (hk : 2 * k ≤ 100) (h00 : Q0 0 = P0 0) (h01 : ∀ m, 1 ≤ m → Q0 m = Q0 (m - 1) + P0 m) : ∀ (b n : Nat) (m v6 : Int) (s : Int → Int), k - m = b → 0 ≤ m → 2 * b < n → (v6 = if m = 0 then 0 else Q0 (m - 1)) → (∀ x, m ≤ x → x < k → s (2 * x) = P0 x ∧ s (2 * x + 1) = P1 x) → (∀ x, 0 ≤ x → x < m → s (1 * x) = Q0 x) → ok (f_X11_powers_L88 n (2 * k) 2 (1 * m) v6 (2 * m) s) (fun q => q.1 = 1 * k ∧ ∀ x, 0 ≤ x → x < k → q.2 (1 * x) = Q0 x) := by
  intro b
  induction b with
  | zero =>
    intro n m v6 s a1 a2 a3 a4 a5 a6
    obtain ⟨n, rfl⟩ : ∃ n', n = n' + 1 := ⟨n - 1, by omega⟩
    have e : m = k := by omega
    subst e
    rw [f_X11_powers_L88_s]
    exact ok_zg.mpr ⟨⟨⟨by omega, by omega⟩, ⟨by omega, by omega⟩⟩, ok_ite.mpr ⟨fun _ => ok_some.mpr ⟨rfl, a6⟩, fun q => absurd (Int.le_refl _) q⟩⟩
  | succ b ih =>
    intro n m v6 s a1 a2 a3 a4 a5 a6
    obtain ⟨n, rfl⟩ : ∃ n', n = n' + 1 + 1 := ⟨n - 2, by omega⟩
    obtain ⟨u0, u1⟩ := a5 m (Int.le_refl _) (by omega)
    have q0 : v6 + s (2 * m) = Q0 m := by
      rw [u0, a4]
      by_cases e : m = 0
      · rw [if_pos e, e, h00]; omega
      · rw [if_neg e, h01 m (by omega)]
    rw [f_X11_powers_L88_s]
    refine ok_zg.mpr ⟨⟨⟨by omega, by omega⟩, ⟨by omega, by omega⟩⟩, ok_ite.mpr ⟨fun q => absurd q (by omega), fun _ => ok_zg.mpr ⟨⟨by omega, by omega, by omega, by omega⟩, ok_zg.mpr ⟨⟨by omega, by omega⟩, ?_⟩⟩⟩⟩
    refine ok_ite.mpr ⟨fun q => absurd q (by omega), fun _ => ok_zg.mpr ⟨⟨by omega, by omega⟩, ok_zg.mpr ⟨⟨by omega, by omega⟩, ?_⟩⟩⟩
    rw [q0]
    rw [f_X11_powers_L88_s]
    refine ok_zg.mpr ⟨⟨⟨by omega, by omega⟩, ⟨by omega, by omega⟩⟩, ok_ite.mpr ⟨fun q => absurd q (by omega), fun _ => ok_zg.mpr ⟨⟨by omega, by omega, by omega, by omega⟩, ok_zg.mpr ⟨⟨by omega, by omega⟩, ?_⟩⟩⟩⟩
    refine ok_ite.mpr ⟨fun _ => ?_, fun q => absurd (by omega) q⟩
    rw [show 1 * m + 1 = 1 * (m + 1) by omega, show 2 * m + 1 + 1 = 2 * (m + 1) by omega]
    refine ih n (m + 1) (Q0 m) _ (by omega) (by omega) (by omega) ?_ (fun x p q => ?_) (fun x p q => ?_)
    · rw [if_neg (by omega), show m + 1 - 1 = m by omega]
    · have := a5 x (by omega) q
      exact ⟨by rw [zup_ne (by omega)]; exact this.1, by rw [zup_ne (by omega)]; exact this.2⟩
    · by_cases e : x = m
      · subst e
        exact by rw [zup_same]
      · have := a6 x p (by omega)
        rw [zup_ne (by omega)]; exact this
theorem mos3 {k : Int} {P0 P1 P2 Q0 Q1 : Int → Int} (hk : 3 * k ≤ 100) (h00 : Q0 0 = P0 0) (h01 : ∀ m, 1 ≤ m → Q0 m = Q1 (m - 1) + P0 m) (h1 : ∀ m, Q1 m = Q0 m + P1 m) : ∀ (b n : Nat) (m v6 : Int) (s : Int → Int), k - m = b → 0 ≤ m → 3 * b < n → (v6 = if m = 0 then 0 else Q1 (m - 1)) → (∀ x, m ≤ x → x < k → s (3 * x) = P0 x ∧ s (3 * x + 1) = P1 x ∧ s (3 * x + 2) = P2 x) → (∀ x, 0 ≤ x → x < m → s (2 * x) = Q0 x ∧ s (2 * x + 1) = Q1 x) → ok (f_X11_powers_L88 n (3 * k) 3 (2 * m) v6 (3 * m) s) (fun q => q.1 = 2 * k ∧ ∀ x, 0 ≤ x → x < k → q.2 (2 * x) = Q0 x ∧ q.2 (2 * x + 1) = Q1 x) := by
  intro b
  induction b with
  | zero =>
    intro n m v6 s a1 a2 a3 a4 a5 a6
    obtain ⟨n, rfl⟩ : ∃ n', n = n' + 1 := ⟨n - 1, by omega⟩
    have e : m = k := by omega
    subst e
    rw [f_X11_powers_L88_s]
    exact ok_zg.mpr ⟨⟨⟨by omega, by omega⟩, ⟨by omega, by omega⟩⟩, ok_ite.mpr ⟨fun _ => ok_some.mpr ⟨rfl, a6⟩, fun q => absurd (Int.le_refl _) q⟩⟩
  | succ b ih =>
    intro n m v6 s a1 a2 a3 a4 a5 a6
    obtain ⟨n, rfl⟩ : ∃ n', n = n' + 1 + 1 + 1 := ⟨n - 3, by omega⟩
    obtain ⟨u0, u1, u2⟩ := a5 m (Int.le_refl _) (by omega)
    have q0 : v6 + s (3 * m) = Q0 m := by
      rw [u0, a4]
      by_cases e : m = 0
      · rw [if_pos e, e, h00]; omega
      · rw [if_neg e, h01 m (by omega)]
    rw [f_X11_powers_L88_s]
    refine ok_zg.mpr ⟨⟨⟨by omega, by omega⟩, ⟨by omega, by omega⟩⟩, ok_ite.mpr ⟨fun q => absurd q (by omega), fun _ => ok_zg.mpr ⟨⟨by omega, by omega, by omega, by omega⟩, ok_zg.mpr ⟨⟨by omega, by omega⟩, ?_⟩⟩⟩⟩
    refine ok_ite.mpr ⟨fun q => absurd q (by omega), fun _ => ok_zg.mpr ⟨⟨by omega, by omega⟩, ok_zg.mpr ⟨⟨by omega, by omega⟩, ?_⟩⟩⟩
    rw [q0]
    rw [f_X11_powers_L88_s]
    refine ok_zg.mpr ⟨⟨⟨by omega, by omega⟩, ⟨by omega, by omega⟩⟩, ok_ite.mpr ⟨fun q => absurd q (by omega), fun _ => ok_zg.mpr ⟨⟨by omega, by omega, by omega, by omega⟩, ok_zg.mpr ⟨⟨by omega, by omega⟩, ?_⟩⟩⟩⟩
    refine ok_ite.mpr ⟨fun q => absurd q (by omega), fun _ => ok_zg.mpr ⟨⟨by omega, by omega⟩, ok_zg.mpr ⟨⟨by omega, by omega⟩, ?_⟩⟩⟩
    have g1 : Q0 m + (zup s (2 * m) (Q0 m)) (3 * m + 1) = Q1 m := by
      rw [zup_ne (by omega), h1 m, show 3 * m + 1 = 3 * m + 1 by omega, u1]
    rw [g1]
    rw [f_X11_powers_L88_s]
    refine ok_zg.mpr ⟨⟨⟨by omega, by omega⟩, ⟨by omega, by omega⟩⟩, ok_ite.mpr ⟨fun q => absurd q (by omega), fun _ => ok_zg.mpr ⟨⟨by omega, by omega, by omega, by omega⟩, ok_zg.mpr ⟨⟨by omega, by omega⟩, ?_⟩⟩⟩⟩
    refine ok_ite.mpr ⟨fun _ => ?_, fun q => absurd (by omega) q⟩
    rw [show 2 * m + 1 + 1 = 2 * (m + 1) by omega, show 3 * m + 1 + 1 + 1 = 3 * (m + 1) by omega]
    refine ih n (m + 1) (Q1 m) _ (by omega) (by omega) (by omega) ?_ (fun x p q => ?_) (fun x p q => ?_)
    · rw [if_neg (by omega), show m + 1 - 1 = m by omega]
    · have := a5 x (by omega) q
      exact ⟨by rw [zup_ne (by omega), zup_ne (by omega)]; exact this.1, by rw [zup_ne (by omega), zup_ne (by omega)]; exact this.2.1, by rw [zup_ne (by omega), zup_ne (by omega)]; exact this.2.2⟩
    · by_cases e : x = m
      · subst e
        exact ⟨by rw [zup_ne (by omega), zup_same], by rw [zup_same]⟩
      · have := a6 x p (by omega)
        exact ⟨by rw [zup_ne (by omega), zup_ne (by omega)]; exact this.1, by rw [zup_ne (by omega), zup_ne (by omega)]; exact this.2⟩
theorem mos4 {k : Int} {P0 P1 P2 P3 Q0 Q1 Q2 : Int → Int} (hk : 4 * k ≤ 100) (h00 : Q0 0 = P0 0) (h01 : ∀ m, 1 ≤ m → Q0 m = Q2 (m - 1) + P0 m) (h1 : ∀ m, Q1 m = Q0 m + P1 m) (h2 : ∀ m, Q2 m = Q1 m + P2 m) : ∀ (b n : Nat) (m v6 : Int) (s : Int → Int), k - m = b → 0 ≤ m → 4 * b < n → (v6 = if m = 0 then 0 else Q2 (m - 1)) → (∀ x, m ≤ x → x < k → s (4 * x) = P0 x ∧ s (4 * x + 1) = P1 x ∧ s (4 * x + 2) = P2 x ∧ s (4 * x + 3) = P3 x) → (∀ x, 0 ≤ x → x < m → s (3 * x) = Q0 x ∧ s (3 * x + 1) = Q1 x ∧ s (3 * x + 2) = Q2 x) → ok (f_X11_powers_L88 n (4 * k) 4 (3 * m) v6 (4 * m) s) (fun q => q.1 = 3 * k ∧ ∀ x, 0 ≤ x → x < k → q.2 (3 * x) = Q0 x ∧ q.2 (3 * x + 1) = Q1 x ∧ q.2 (3 * x + 2) = Q2 x) := by
  intro b
  induction b with
  | zero =>
    intro n m v6 s a1 a2 a3 a4 a5 a6
    obtain ⟨n, rfl⟩ : ∃ n', n = n' + 1 := ⟨n - 1, by omega⟩
    have e : m = k := by omega
    subst e
    rw [f_X11_powers_L88_s]
    exact ok_zg.mpr ⟨⟨⟨by omega, by omega⟩, ⟨by omega, by omega⟩⟩, ok_ite.mpr ⟨fun _ => ok_some.mpr ⟨rfl, a6⟩, fun q => absurd (Int.le_refl _) q⟩⟩
  | succ b ih =>
    intro n m v6 s a1 a2 a3 a4 a5 a6
    obtain ⟨n, rfl⟩ : ∃ n', n = n' + 1 + 1 + 1 + 1 := ⟨n - 4, by omega⟩
    obtain ⟨u0, u1, u2, u3⟩ := a5 m (Int.le_refl _) (by omega)
    have q0 : v6 + s (4 * m) = Q0 m := by
      rw [u0, a4]
      by_cases e : m = 0
      · rw [if_pos e, e, h00]; omega
      · rw [if_neg e, h01 m (by omega)]
    rw [f_X11_powers_L88_s]
    refine ok_zg.mpr ⟨⟨⟨by omega, by omega⟩, ⟨by omega, by omega⟩⟩, ok_ite.mpr ⟨fun q => absurd q (by omega), fun _ => ok_zg.mpr ⟨⟨by omega, by omega, by omega, by omega⟩, ok_zg.mpr ⟨⟨by omega, by omega⟩, ?_⟩⟩⟩⟩
    refine ok_ite.mpr ⟨fun q => absurd q (by omega), fun _ => ok_zg.mpr ⟨⟨by omega, by omega⟩, ok_zg.mpr ⟨⟨by omega, by omega⟩, ?_⟩⟩⟩
    rw [q0]
    rw [f_X11_powers_L88_s]
    refine ok_zg.mpr ⟨⟨⟨by omega, by omega⟩, ⟨by omega, by omega⟩⟩, ok_ite.mpr ⟨fun q => absurd q (by omega), fun _ => ok_zg.mpr ⟨⟨by omega, by omega, by omega, by omega⟩, ok_zg.mpr ⟨⟨by omega, by omega⟩, ?_⟩⟩⟩⟩
    refine ok_ite.mpr ⟨fun q => absurd q (by omega), fun _ => ok_zg.mpr ⟨⟨by omega, by omega⟩, ok_zg.mpr ⟨⟨by omega, by omega⟩, ?_⟩⟩⟩
    have g1 : Q0 m + (zup s (3 * m) (Q0 m)) (4 * m + 1) = Q1 m := by
      rw [zup_ne (by omega), h1 m, show 4 * m + 1 = 4 * m + 1 by omega, u1]
    rw [g1]
    rw [f_X11_powers_L88_s]
    refine ok_zg.mpr ⟨⟨⟨by omega, by omega⟩, ⟨by omega, by omega⟩⟩, ok_ite.mpr ⟨fun q => absurd q (by omega), fun _ => ok_zg.mpr ⟨⟨by omega, by omega, by omega, by omega⟩, ok_zg.mpr ⟨⟨by omega, by omega⟩, ?_⟩⟩⟩⟩
    refine ok_ite.mpr ⟨fun q => absurd q (by omega), fun _ => ok_zg.mpr ⟨⟨by omega, by omega⟩, ok_zg.mpr ⟨⟨by omega, by omega⟩, ?_⟩⟩⟩
    have g2 : Q1 m + (zup (zup s (3 * m) (Q0 m)) (3 * m + 1) (Q1 m)) (4 * m + 1 + 1) = Q2 m := by
      rw [zup_ne (by omega), zup_ne (by omega), h2 m, show 4 * m + 1 + 1 = 4 * m + 2 by omega, u2]
    rw [g2]
    rw [f_X11_powers_L88_s]
    refine ok_zg.mpr ⟨⟨⟨by omega, by omega⟩, ⟨by omega, by omega⟩⟩, ok_ite.mpr ⟨fun q => absurd q (by omega), fun _ => ok_zg.mpr ⟨⟨by omega, by omega, by omega, by omega⟩, ok_zg.mpr ⟨⟨by omega, by omega⟩, ?_⟩⟩⟩⟩
    refine ok_ite.mpr ⟨fun _ => ?_, fun q => absurd (by omega) q⟩
    rw [show 3 * m + 1 + 1 + 1 = 3 * (m + 1) by omega, show 4 * m + 1 + 1 + 1 + 1 = 4 * (m + 1) by omega]
    refine ih n (m + 1) (Q2 m) _ (by omega) (by omega) (by omega) ?_ (fun x p q => ?_) (fun x p q => ?_)
    · rw [if_neg (by omega), show m + 1 - 1 = m by omega]
    · have := a5 x (by omega) q
      exact ⟨by rw [zup_ne (by omega), zup_ne (by omega), zup_ne (by omega)]; exact this.1, by rw [zup_ne (by omega), zup_ne (by omega), zup_ne (by omega)]; exact this.2.1, by rw [zup_ne (by omega), zup_ne (by omega), zup_ne (by omega)]; exact this.2.2.1, by rw [zup_ne (by omega), zup_ne (by omega), zup_ne (by omega)]; exact this.2.2.2⟩
    · by_cases e : x = m
      · subst e
        exact ⟨by rw [zup_ne (by omega), zup_ne (by omega), zup_same], by rw [zup_ne (by omega), zup_same], by rw [show 3 * x + 2 = 3 * x + 1 + 1 by omega, zup_same]⟩
      · have := a6 x p (by omega)
        exact ⟨by rw [zup_ne (by omega), zup_ne (by omega), zup_ne (by omega)]; exact this.1, by rw [zup_ne (by omega), zup_ne (by omega), zup_ne (by omega)]; exact this.2.1, by rw [zup_ne (by omega), zup_ne (by omega), zup_ne (by omega)]; exact this.2.2⟩
theorem mos5 {k : Int} {P0 P1 P2 P3 P4 Q0 Q1 Q2 Q3 : Int → Int} (hk : 5 * k ≤ 100) (h00 : Q0 0 = P0 0) (h01 : ∀ m, 1 ≤ m → Q0 m = Q3 (m - 1) + P0 m) (h1 : ∀ m, Q1 m = Q0 m + P1 m) (h2 : ∀ m, Q2 m = Q1 m + P2 m) (h3 : ∀ m, Q3 m = Q2 m + P3 m) : ∀ (b n : Nat) (m v6 : Int) (s : Int → Int), k - m = b → 0 ≤ m → 5 * b < n → (v6 = if m = 0 then 0 else Q3 (m - 1)) → (∀ x, m ≤ x → x < k → s (5 * x) = P0 x ∧ s (5 * x + 1) = P1 x ∧ s (5 * x + 2) = P2 x ∧ s (5 * x + 3) = P3 x ∧ s (5 * x + 4) = P4 x) → (∀ x, 0 ≤ x → x < m → s (4 * x) = Q0 x ∧ s (4 * x + 1) = Q1 x ∧ s (4 * x + 2) = Q2 x ∧ s (4 * x + 3) = Q3 x) → ok (f_X11_powers_L88 n (5 * k) 5 (4 * m) v6 (5 * m) s) (fun q => q.1 = 4 * k ∧ ∀ x, 0 ≤ x → x < k → q.2 (4 * x) = Q0 x ∧ q.2 (4 * x + 1) = Q1 x ∧ q.2 (4 * x + 2) = Q2 x ∧ q.2 (4 * x + 3) = Q3 x) := by
  intro b
  induction b with
  | zero =>
    intro n m v6 s a1 a2 a3 a4 a5 a6
    obtain ⟨n, rfl⟩ : ∃ n', n = n' + 1 := ⟨n - 1, by omega⟩
    have e : m = k := by omega
    subst e
    rw [f_X11_powers_L88_s]
    exact ok_zg.mpr ⟨⟨⟨by omega, by omega⟩, ⟨by omega, by omega⟩⟩, ok_ite.mpr ⟨fun _ => ok_some.mpr ⟨rfl, a6⟩, fun q => absurd (Int.le_refl _) q⟩⟩
  | succ b ih =>
    intro n m v6 s a1 a2 a3 a4 a5 a6
    obtain ⟨n, rfl⟩ : ∃ n', n = n' + 1 + 1 + 1 + 1 + 1 := ⟨n - 5, by omega⟩
    obtain ⟨u0, u1, u2, u3, u4⟩ := a5 m (Int.le_refl _) (by omega)
    have q0 : v6 + s (5 * m) = Q0 m := by
      rw [u0, a4]
      by_cases e : m = 0
      · rw [if_pos e, e, h00]; omega
      · rw [if_neg e, h01 m (by omega)]
    rw [f_X11_powers_L88_s]
    refine ok_zg.mpr ⟨⟨⟨by omega, by omega⟩, ⟨by omega, by omega⟩⟩, ok_ite.mpr ⟨fun q => absurd q (by omega), fun _ => ok_zg.mpr ⟨⟨by omega, by omega, by omega, by omega⟩, ok_zg.mpr ⟨⟨by omega, by omega⟩, ?_⟩⟩⟩⟩
    refine ok_ite.mpr ⟨fun q => absurd q (by omega), fun _ => ok_zg.mpr ⟨⟨by omega, by omega⟩, ok_zg.mpr ⟨⟨by omega, by omega⟩, ?_⟩⟩⟩
    rw [q0]
    rw [f_X11_powers_L88_s]
    refine ok_zg.mpr ⟨⟨⟨by omega, by omega⟩, ⟨by omega, by omega⟩⟩, ok_ite.mpr ⟨fun q => absurd q (by omega), fun _ => ok_zg.mpr ⟨⟨by omega, by omega, by omega, by omega⟩, ok_zg.mpr ⟨⟨by omega, by omega⟩, ?_⟩⟩⟩⟩
    refine ok_ite.mpr ⟨fun q => absurd q (by omega), fun _ => ok_zg.mpr ⟨⟨by omega, by omega⟩, ok_zg.mpr ⟨⟨by omega, by omega⟩, ?_⟩⟩⟩
    have g1 : Q0 m + (zup s (4 * m) (Q0 m)) (5 * m + 1) = Q1 m := by
      rw [zup_ne (by omega), h1 m, show 5 * m + 1 = 5 * m + 1 by omega, u1]
    rw [g1]
    rw [f_X11_powers_L88_s]
    refine ok_zg.mpr ⟨⟨⟨by omega, by omega⟩, ⟨by omega, by omega⟩⟩, ok_ite.mpr ⟨fun q => absurd q (by omega), fun _ => ok_zg.mpr ⟨⟨by omega, by omega, by omega, by omega⟩, ok_zg.mpr ⟨⟨by omega, by omega⟩, ?_⟩⟩⟩⟩
    refine ok_ite.mpr ⟨fun q => absurd q (by omega), fun _ => ok_zg.mpr ⟨⟨by omega, by omega⟩, ok_zg.mpr ⟨⟨by omega, by omega⟩, ?_⟩⟩⟩
    have g2 : Q1 m + (zup (zup s (4 * m) (Q0 m)) (4 * m + 1) (Q1 m)) (5 * m + 1 + 1) = Q2 m := by
      rw [zup_ne (by omega), zup_ne (by omega), h2 m, show 5 * m + 1 + 1 = 5 * m + 2 by omega, u2]
    rw [g2]
    rw [f_X11_powers_L88_s]
    refine ok_zg.mpr ⟨⟨⟨by omega, by omega⟩, ⟨by omega, by omega⟩⟩, ok_ite.mpr ⟨fun q => absurd q (by omega), fun _ => ok_zg.mpr ⟨⟨by omega, by omega, by omega, by omega⟩, ok_zg.mpr ⟨⟨by omega, by omega⟩, ?_⟩⟩⟩⟩
    refine ok_ite.mpr ⟨fun q => absurd q (by omega), fun _ => ok_zg.mpr ⟨⟨by omega, by omega⟩, ok_zg.mpr ⟨⟨by omega, by omega⟩, ?_⟩⟩⟩
    have g3 : Q2 m + (zup (zup (zup s (4 * m) (Q0 m)) (4 * m + 1) (Q1 m)) (4 * m + 1 + 1) (Q2 m)) (5 * m + 1 + 1 + 1) = Q3 m := by
      rw [zup_ne (by omega), zup_ne (by omega), zup_ne (by omega), h3 m, show 5 * m + 1 + 1 + 1 = 5 * m + 3 by omega, u3]
    rw [g3]
    rw [f_X11_powers_L88_s]
    refine ok_zg.mpr ⟨⟨⟨by omega, by omega⟩, ⟨by omega, by omega⟩⟩, ok_ite.mpr ⟨fun q => absurd q (by omega), fun _ => ok_zg.mpr ⟨⟨by omega, by omega, by omega, by omega⟩, ok_zg.mpr ⟨⟨by omega, by omega⟩, ?_⟩⟩⟩⟩
    refine ok_ite.mpr ⟨fun _ => ?_, fun q => absurd (by omega) q⟩
    rw [show 4 * m + 1 + 1 + 1 + 1 = 4 * (m + 1) by omega, show 5 * m + 1 + 1 + 1 + 1 + 1 = 5 * (m + 1) by omega]
    refine ih n (m + 1) (Q3 m) _ (by omega) (by omega) (by omega) ?_ (fun x p q => ?_) (fun x p q => ?_)
    · rw [if_neg (by omega), show m + 1 - 1 = m by omega]
    · have := a5 x (by omega) q
      exact ⟨by rw [zup_ne (by omega), zup_ne (by omega), zup_ne (by omega), zup_ne (by omega)]; exact this.1, by rw [zup_ne (by omega), zup_ne (by omega), zup_ne (by omega), zup_ne (by omega)]; exact this.2.1, by rw [zup_ne (by omega), zup_ne (by omega), zup_ne (by omega), zup_ne (by omega)]; exact this.2.2.1, by rw [zup_ne (by omega), zup_ne (by omega), zup_ne (by omega), zup_ne (by omega)]; exact this.2.2.2.1, by rw [zup_ne (by omega), zup_ne (by omega), zup_ne (by omega), zup_ne (by omega)]; exact this.2.2.2.2⟩
    · by_cases e : x = m
      · subst e
        exact ⟨by rw [zup_ne (by omega), zup_ne (by omega), zup_ne (by omega), zup_same], by rw [zup_ne (by omega), zup_ne (by omega), zup_same], by rw [show 4 * x + 2 = 4 * x + 1 + 1 by omega, zup_ne (by omega), zup_same], by rw [show 4 * x + 3 = 4 * x + 1 + 1 + 1 by omega, zup_same]⟩
      · have := a6 x p (by omega)
        exact ⟨by rw [zup_ne (by omega), zup_ne (by omega), zup_ne (by omega), zup_ne (by omega)]; exact this.1, by rw [zup_ne (by omega), zup_ne (by omega), zup_ne (by omega), zup_ne (by omega)]; exact this.2.1, by rw [zup_ne (by omega), zup_ne (by omega), zup_ne (by omega), zup_ne (by omega)]; exact this.2.2.1, by rw [zup_ne (by omega), zup_ne (by omega), zup_ne (by omega), zup_ne (by omega)]; exact this.2.2.2⟩
theorem pow2 {k : Int} (hk : 1 ≤ k ∧ k ≤ 20) (s : Int → Int) : ok ((f_X11_powers_L47 zF (2 * k) 0 s).bind (fun a => (f_X11_powers_L73 zF (2 * k) 2 a).bind (fun b => some b))) (fun r => r (k - 1) = k * k) := by
  refine ok_bind.mpr ((pw47 (v3 := 2 * k) ⟨by omega, by omega⟩ zF 0 s (by omega) (by omega) (by rw [zF_eq]; omega)).mono (fun s2 hs2 => ok_bind.mpr ?_))
  have w2 : ∀ x, 0 ≤ x → x < k → s2 (2 * x) = (fun m : Int => 1 + 2 * m) x ∧ s2 (2 * x + 1) = (fun m : Int => 2 + 2 * m) x := fun x p q => ⟨by rw [hs2.1 _ (by omega) (by omega)]; dsimp only; omega, by rw [hs2.1 _ (by omega) (by omega)]; dsimp only; omega⟩
  rw [show zF = 3990 + 1 + 1 + 1 + 1 + 1 + 1 + 1 + 1 + 1 + 1 from rfl]
  rw [f_X11_powers_L73_s]
  refine ok_zg.mpr ⟨⟨by omega, by omega⟩, ok_ite.mpr ⟨fun q => absurd q (by omega), fun _ => ok_bind.mpr ?_⟩⟩
  refine (mos2 (k := k) (P0 := (fun m : Int => 1 + 2 * m)) (P1 := (fun m : Int => 2 + 2 * m)) (Q0 := (fun m : Int => 1 + 2 * m + 1 * m * m)) (by omega) (by decide) (fun m _ => by grind) k.toNat zF 0 0 s2 (by omega) (by omega) (by rw [zF_eq]; omega) (by rw [if_pos rfl]) (fun x p q => w2 x p q) (fun x p q => absurd q (by omega))).mono (fun r hr => ?_)
  obtain ⟨r1, s1⟩ := r
  obtain ⟨e1, w1⟩ := hr
  dsimp only at e1 w1 ⊢
  rw [e1, show (2 : Int) + -1 = 1 from rfl]
  rw [f_X11_powers_L73_s]
  refine ok_zg.mpr ⟨⟨by omega, by omega⟩, ok_ite.mpr ⟨fun _ => ok_some.mpr (ok_some.mpr ?_), fun q => absurd (Int.le_refl _) q⟩⟩
  have := w1 (k - 1) (by omega) (by omega)
  rw [show 1 * (k - 1) = k - 1 by omega] at this
  rw [this]
  grind
theorem pow3 {k : Int} (hk : 1 ≤ k ∧ k ≤ 20) (s : Int → Int) : ok ((f_X11_powers_L47 zF (3 * k) 0 s).bind (fun a => (f_X11_powers_L73 zF (3 * k) 3 a).bind (fun b => some b))) (fun r => r (k - 1) = k * k * k) := by
  refine ok_bind.mpr ((pw47 (v3 := 3 * k) ⟨by omega, by omega⟩ zF 0 s (by omega) (by omega) (by rw [zF_eq]; omega)).mono (fun s3 hs3 => ok_bind.mpr ?_))
  have w3 : ∀ x, 0 ≤ x → x < k → s3 (3 * x) = (fun m : Int => 1 + 3 * m) x ∧ s3 (3 * x + 1) = (fun m : Int => 2 + 3 * m) x ∧ s3 (3 * x + 2) = (fun m : Int => 3 + 3 * m) x := fun x p q => ⟨by rw [hs3.1 _ (by omega) (by omega)]; dsimp only; omega, by rw [hs3.1 _ (by omega) (by omega)]; dsimp only; omega, by rw [hs3.1 _ (by omega) (by omega)]; dsimp only; omega⟩
  rw [show zF = 3990 + 1 + 1 + 1 + 1 + 1 + 1 + 1 + 1 + 1 + 1 from rfl]
  rw [f_X11_powers_L73_s]
  refine ok_zg.mpr ⟨⟨by omega, by omega⟩, ok_ite.mpr ⟨fun q => absurd q (by omega), fun _ => ok_bind.mpr ?_⟩⟩
  refine (mos3 (k := k) (P0 := (fun m : Int => 1 + 3 * m)) (P1 := (fun m : Int => 2 + 3 * m)) (P2 := (fun m : Int => 3 + 3 * m)) (Q0 := (fun m : Int => 1 + 3 * m + 3 * m * m)) (Q1 := (fun m : Int => 3 + 6 * m + 3 * m * m)) (by omega) (by decide) (fun m _ => by grind) (fun m => by grind) k.toNat zF 0 0 s3 (by omega) (by omega) (by rw [zF_eq]; omega) (by rw [if_pos rfl]) (fun x p q => w3 x p q) (fun x p q => absurd q (by omega))).mono (fun r hr => ?_)
  obtain ⟨r1, s2⟩ := r
  obtain ⟨e1, w2⟩ := hr
  dsimp only at e1 w2 ⊢
  rw [e1, show (3 : Int) + -1 = 2 from rfl]
  rw [f_X11_powers_L73_s]
  refine ok_zg.mpr ⟨⟨by omega, by omega⟩, ok_ite.mpr ⟨fun q => absurd q (by omega), fun _ => ok_bind.mpr ?_⟩⟩
  refine (mos2 (k := k) (P0 := (fun m : Int => 1 + 3 * m + 3 * m * m)) (P1 := (fun m : Int => 3 + 6 * m + 3 * m * m)) (Q0 := (fun m : Int => 1 + 3 * m + 3 * m * m + 1 * m * m * m)) (by omega) (by decide) (fun m _ => by grind) k.toNat zF 0 0 s2 (by omega) (by omega) (by rw [zF_eq]; omega) (by rw [if_pos rfl]) (fun x p q => w2 x p q) (fun x p q => absurd q (by omega))).mono (fun r hr => ?_)
  obtain ⟨r1, s1⟩ := r
  obtain ⟨e1, w1⟩ := hr
  dsimp only at e1 w1 ⊢
  rw [e1, show (2 : Int) + -1 = 1 from rfl]
  rw [f_X11_powers_L73_s]
  refine ok_zg.mpr ⟨⟨by omega, by omega⟩, ok_ite.mpr ⟨fun _ => ok_some.mpr (ok_some.mpr ?_), fun q => absurd (Int.le_refl _) q⟩⟩
  have := w1 (k - 1) (by omega) (by omega)
  rw [show 1 * (k - 1) = k - 1 by omega] at this
  rw [this]
  grind
theorem pow4 {k : Int} (hk : 1 ≤ k ∧ k ≤ 20) (s : Int → Int) : ok ((f_X11_powers_L47 zF (4 * k) 0 s).bind (fun a => (f_X11_powers_L73 zF (4 * k) 4 a).bind (fun b => some b))) (fun r => r (k - 1) = k * k * k * k) := by
  refine ok_bind.mpr ((pw47 (v3 := 4 * k) ⟨by omega, by omega⟩ zF 0 s (by omega) (by omega) (by rw [zF_eq]; omega)).mono (fun s4 hs4 => ok_bind.mpr ?_))
  have w4 : ∀ x, 0 ≤ x → x < k → s4 (4 * x) = (fun m : Int => 1 + 4 * m) x ∧ s4 (4 * x + 1) = (fun m : Int => 2 + 4 * m) x ∧ s4 (4 * x + 2) = (fun m : Int => 3 + 4 * m) x ∧ s4 (4 * x + 3) = (fun m : Int => 4 + 4 * m) x := fun x p q => ⟨by rw [hs4.1 _ (by omega) (by omega)]; dsimp only; omega, by rw [hs4.1 _ (by omega) (by omega)]; dsimp only; omega, by rw [hs4.1 _ (by omega) (by omega)]; dsimp only; omega, by rw [hs4.1 _ (by omega) (by omega)]; dsimp only; omega⟩
  rw [show zF = 3990 + 1 + 1 + 1 + 1 + 1 + 1 + 1 + 1 + 1 + 1 from rfl]
  rw [f_X11_powers_L73_s]
  refine ok_zg.mpr ⟨⟨by omega, by omega⟩, ok_ite.mpr ⟨fun q => absurd q (by omega), fun _ => ok_bind.mpr ?_⟩⟩
  refine (mos4 (k := k) (P0 := (fun m : Int => 1 + 4 * m)) (P1 := (fun m : Int => 2 + 4 * m)) (P2 := (fun m : Int => 3 + 4 * m)) (P3 := (fun m : Int => 4 + 4 * m)) (Q0 := (fun m : Int => 1 + 4 * m + 6 * m * m)) (Q1 := (fun m : Int => 3 + 8 * m + 6 * m * m)) (Q2 := (fun m : Int => 6 + 12 * m + 6 * m * m)) (by omega) (by decide) (fun m _ => by grind) (fun m => by grind) (fun m => by grind) k.toNat zF 0 0 s4 (by omega) (by omega) (by rw [zF_eq]; omega) (by rw [if_pos rfl]) (fun x p q => w4 x p q) (fun x p q => absurd q (by omega))).mono (fun r hr => ?_)
  obtain ⟨r1, s3⟩ := r
  obtain ⟨e1, w3⟩ := hr
  dsimp only at e1 w3 ⊢
  rw [e1, show (4 : Int) + -1 = 3 from rfl]
  rw [f_X11_powers_L73_s]
  refine ok_zg.mpr ⟨⟨by omega, by omega⟩, ok_ite.mpr ⟨fun q => absurd q (by omega), fun _ => ok_bind.mpr ?_⟩⟩
  refine (mos3 (k := k) (P0 := (fun m : Int => 1 + 4 * m + 6 * m * m)) (P1 := (fun m : Int => 3 + 8 * m + 6 * m * m)) (P2 := (fun m : Int => 6 + 12 * m + 6 * m * m)) (Q0 := (fun m : Int => 1 + 4 * m + 6 * m * m + 4 * m * m * m)) (Q1 := (fun m : Int => 4 + 12 * m + 12 * m * m + 4 * m * m * m)) (by omega) (by decide) (fun m _ => by grind) (fun m => by grind) k.toNat zF 0 0 s3 (by omega) (by omega) (by rw [zF_eq]; omega) (by rw [if_pos rfl]) (fun x p q => w3 x p q) (fun x p q => absurd q (by omega))).mono (fun r hr => ?_)
  obtain ⟨r1, s2⟩ := r
  obtain ⟨e1, w2⟩ := hr
  dsimp only at e1 w2 ⊢
  rw [e1, show (3 : Int) + -1 = 2 from rfl]
  rw [f_X11_powers_L73_s]
  refine ok_zg.mpr ⟨⟨by omega, by omega⟩, ok_ite.mpr ⟨fun q => absurd q (by omega), fun _ => ok_bind.mpr ?_⟩⟩
  refine (mos2 (k := k) (P0 := (fun m : Int => 1 + 4 * m + 6 * m * m + 4 * m * m * m)) (P1 := (fun m : Int => 4 + 12 * m + 12 * m * m + 4 * m * m * m)) (Q0 := (fun m : Int => 1 + 4 * m + 6 * m * m + 4 * m * m * m + 1 * m * m * m * m)) (by omega) (by decide) (fun m _ => by grind) k.toNat zF 0 0 s2 (by omega) (by omega) (by rw [zF_eq]; omega) (by rw [if_pos rfl]) (fun x p q => w2 x p q) (fun x p q => absurd q (by omega))).mono (fun r hr => ?_)
  obtain ⟨r1, s1⟩ := r
  obtain ⟨e1, w1⟩ := hr
  dsimp only at e1 w1 ⊢
  rw [e1, show (2 : Int) + -1 = 1 from rfl]
  rw [f_X11_powers_L73_s]
  refine ok_zg.mpr ⟨⟨by omega, by omega⟩, ok_ite.mpr ⟨fun _ => ok_some.mpr (ok_some.mpr ?_), fun q => absurd (Int.le_refl _) q⟩⟩
  have := w1 (k - 1) (by omega) (by omega)
  rw [show 1 * (k - 1) = k - 1 by omega] at this
  rw [this]
  grind
theorem pow5 {k : Int} (hk : 1 ≤ k ∧ k ≤ 20) (s : Int → Int) : ok ((f_X11_powers_L47 zF (5 * k) 0 s).bind (fun a => (f_X11_powers_L73 zF (5 * k) 5 a).bind (fun b => some b))) (fun r => r (k - 1) = k * k * k * k * k) := by
  refine ok_bind.mpr ((pw47 (v3 := 5 * k) ⟨by omega, by omega⟩ zF 0 s (by omega) (by omega) (by rw [zF_eq]; omega)).mono (fun s5 hs5 => ok_bind.mpr ?_))
  have w5 : ∀ x, 0 ≤ x → x < k → s5 (5 * x) = (fun m : Int => 1 + 5 * m) x ∧ s5 (5 * x + 1) = (fun m : Int => 2 + 5 * m) x ∧ s5 (5 * x + 2) = (fun m : Int => 3 + 5 * m) x ∧ s5 (5 * x + 3) = (fun m : Int => 4 + 5 * m) x ∧ s5 (5 * x + 4) = (fun m : Int => 5 + 5 * m) x := fun x p q => ⟨by rw [hs5.1 _ (by omega) (by omega)]; dsimp only; omega, by rw [hs5.1 _ (by omega) (by omega)]; dsimp only; omega, by rw [hs5.1 _ (by omega) (by omega)]; dsimp only; omega, by rw [hs5.1 _ (by omega) (by omega)]; dsimp only; omega, by rw [hs5.1 _ (by omega) (by omega)]; dsimp only; omega⟩
  rw [show zF = 3990 + 1 + 1 + 1 + 1 + 1 + 1 + 1 + 1 + 1 + 1 from rfl]
  rw [f_X11_powers_L73_s]
  refine ok_zg.mpr ⟨⟨by omega, by omega⟩, ok_ite.mpr ⟨fun q => absurd q (by omega), fun _ => ok_bind.mpr ?_⟩⟩
  refine (mos5 (k := k) (P0 := (fun m : Int => 1 + 5 * m)) (P1 := (fun m : Int => 2 + 5 * m)) (P2 := (fun m : Int => 3 + 5 * m)) (P3 := (fun m : Int => 4 + 5 * m)) (P4 := (fun m : Int => 5 + 5 * m)) (Q0 := (fun m : Int => 1 + 5 * m + 10 * m * m)) (Q1 := (fun m : Int => 3 + 10 * m + 10 * m * m)) (Q2 := (fun m : Int => 6 + 15 * m + 10 * m * m)) (Q3 := (fun m : Int => 10 + 20 * m + 10 * m * m)) (by omega) (by decide) (fun m _ => by grind) (fun m => by grind) (fun m => by grind) (fun m => by grind) k.toNat zF 0 0 s5 (by omega) (by omega) (by rw [zF_eq]; omega) (by rw [if_pos rfl]) (fun x p q => w5 x p q) (fun x p q => absurd q (by omega))).mono (fun r hr => ?_)
  obtain ⟨r1, s4⟩ := r
  obtain ⟨e1, w4⟩ := hr
  dsimp only at e1 w4 ⊢
  rw [e1, show (5 : Int) + -1 = 4 from rfl]
  rw [f_X11_powers_L73_s]
  refine ok_zg.mpr ⟨⟨by omega, by omega⟩, ok_ite.mpr ⟨fun q => absurd q (by omega), fun _ => ok_bind.mpr ?_⟩⟩
  refine (mos4 (k := k) (P0 := (fun m : Int => 1 + 5 * m + 10 * m * m)) (P1 := (fun m : Int => 3 + 10 * m + 10 * m * m)) (P2 := (fun m : Int => 6 + 15 * m + 10 * m * m)) (P3 := (fun m : Int => 10 + 20 * m + 10 * m * m)) (Q0 := (fun m : Int => 1 + 5 * m + 10 * m * m + 10 * m * m * m)) (Q1 := (fun m : Int => 4 + 15 * m + 20 * m * m + 10 * m * m * m)) (Q2 := (fun m : Int => 10 + 30 * m + 30 * m * m + 10 * m * m * m)) (by omega) (by decide) (fun m _ => by grind) (fun m => by grind) (fun m => by grind) k.toNat zF 0 0 s4 (by omega) (by omega) (by rw [zF_eq]; omega) (by rw [if_pos rfl]) (fun x p q => w4 x p q) (fun x p q => absurd q (by omega))).mono (fun r hr => ?_)
  obtain ⟨r1, s3⟩ := r
  obtain ⟨e1, w3⟩ := hr
  dsimp only at e1 w3 ⊢
  rw [e1, show (4 : Int) + -1 = 3 from rfl]
  rw [f_X11_powers_L73_s]
  refine ok_zg.mpr ⟨⟨by omega, by omega⟩, ok_ite.mpr ⟨fun q => absurd q (by omega), fun _ => ok_bind.mpr ?_⟩⟩
  refine (mos3 (k := k) (P0 := (fun m : Int => 1 + 5 * m + 10 * m * m + 10 * m * m * m)) (P1 := (fun m : Int => 4 + 15 * m + 20 * m * m + 10 * m * m * m)) (P2 := (fun m : Int => 10 + 30 * m + 30 * m * m + 10 * m * m * m)) (Q0 := (fun m : Int => 1 + 5 * m + 10 * m * m + 10 * m * m * m + 5 * m * m * m * m)) (Q1 := (fun m : Int => 5 + 20 * m + 30 * m * m + 20 * m * m * m + 5 * m * m * m * m)) (by omega) (by decide) (fun m _ => by grind) (fun m => by grind) k.toNat zF 0 0 s3 (by omega) (by omega) (by rw [zF_eq]; omega) (by rw [if_pos rfl]) (fun x p q => w3 x p q) (fun x p q => absurd q (by omega))).mono (fun r hr => ?_)
  obtain ⟨r1, s2⟩ := r
  obtain ⟨e1, w2⟩ := hr
  dsimp only at e1 w2 ⊢
  rw [e1, show (3 : Int) + -1 = 2 from rfl]
  rw [f_X11_powers_L73_s]
  refine ok_zg.mpr ⟨⟨by omega, by omega⟩, ok_ite.mpr ⟨fun q => absurd q (by omega), fun _ => ok_bind.mpr ?_⟩⟩
  refine (mos2 (k := k) (P0 := (fun m : Int => 1 + 5 * m + 10 * m * m + 10 * m * m * m + 5 * m * m * m * m)) (P1 := (fun m : Int => 5 + 20 * m + 30 * m * m + 20 * m * m * m + 5 * m * m * m * m)) (Q0 := (fun m : Int => 1 + 5 * m + 10 * m * m + 10 * m * m * m + 5 * m * m * m * m + 1 * m * m * m * m * m)) (by omega) (by decide) (fun m _ => by grind) k.toNat zF 0 0 s2 (by omega) (by omega) (by rw [zF_eq]; omega) (by rw [if_pos rfl]) (fun x p q => w2 x p q) (fun x p q => absurd q (by omega))).mono (fun r hr => ?_)
  obtain ⟨r1, s1⟩ := r
  obtain ⟨e1, w1⟩ := hr
  dsimp only at e1 w1 ⊢
  rw [e1, show (2 : Int) + -1 = 1 from rfl]
  rw [f_X11_powers_L73_s]
  refine ok_zg.mpr ⟨⟨by omega, by omega⟩, ok_ite.mpr ⟨fun _ => ok_some.mpr (ok_some.mpr ?_), fun q => absurd (Int.le_refl _) q⟩⟩
  have := w1 (k - 1) (by omega) (by omega)
  rw [show 1 * (k - 1) = k - 1 by omega] at this
  rw [this]
  grind
/-- the class's powers -/
theorem xpw39 {v2 : Int} (n : Nat) : f_X10_powers_L39 (n + 10) 2 v2 1 0 = some (1 * v2 * v2) ∧ f_X10_powers_L39 (n + 10) 3 v2 1 0 = some (1 * v2 * v2 * v2) ∧ f_X10_powers_L39 (n + 10) 4 v2 1 0 = some (1 * v2 * v2 * v2 * v2) ∧ f_X10_powers_L39 (n + 10) 5 v2 1 0 = some (1 * v2 * v2 * v2 * v2 * v2) := by
  have S : ∀ (m : Nat) (v1 v3 v4 : Int), 0 ≤ v4 → v4 ≤ 10 → 0 ≤ v1 → v1 ≤ 10 → v4 < v1 → f_X10_powers_L39 (m + 1) v1 v2 v3 v4 = f_X10_powers_L39 m v1 v2 (v3 * v2) (v4 + 1) := fun m v1 v3 v4 a b c d e => by
    rw [f_X10_powers_L39_s, zg_pos ⟨⟨by omega, by omega⟩, ⟨by omega, by omega⟩⟩, if_neg (by omega)]
  have E : ∀ (m : Nat) (v1 v3 : Int), 0 ≤ v1 → v1 ≤ 10 → f_X10_powers_L39 (m + 1) v1 v2 v3 v1 = some v3 := fun m v1 v3 a b => by
    rw [f_X10_powers_L39_s, zg_pos ⟨⟨by omega, by omega⟩, ⟨by omega, by omega⟩⟩, if_pos (Int.le_refl _)]
  refine ⟨?_, ?_, ?_, ?_⟩
  · rw [S _ _ _ _ (by omega) (by omega) (by omega) (by omega) (by omega), S _ _ _ _ (by omega) (by omega) (by omega) (by omega) (by omega)]
    exact E _ 2 _ (by omega) (by omega)
  · rw [S _ _ _ _ (by omega) (by omega) (by omega) (by omega) (by omega), S _ _ _ _ (by omega) (by omega) (by omega) (by omega) (by omega), S _ _ _ _ (by omega) (by omega) (by omega) (by omega) (by omega)]
    exact E _ 3 _ (by omega) (by omega)
  · rw [S _ _ _ _ (by omega) (by omega) (by omega) (by omega) (by omega), S _ _ _ _ (by omega) (by omega) (by omega) (by omega) (by omega), S _ _ _ _ (by omega) (by omega) (by omega) (by omega) (by omega), S _ _ _ _ (by omega) (by omega) (by omega) (by omega) (by omega)]
    exact E _ 4 _ (by omega) (by omega)
  · rw [S _ _ _ _ (by omega) (by omega) (by omega) (by omega) (by omega), S _ _ _ _ (by omega) (by omega) (by omega) (by omega) (by omega), S _ _ _ _ (by omega) (by omega) (by omega) (by omega) (by omega), S _ _ _ _ (by omega) (by omega) (by omega) (by omega) (by omega), S _ _ _ _ (by omega) (by omega) (by omega) (by omega) (by omega)]
    exact E _ 5 _ (by omega) (by omega)
theorem p_powers {v w th : Int} {R R' s : Int → Int} (hv : zR v) (hw : zR w) : ∃ a R2 t2 R3 s2, f_X10_powers v w R = some (a, R2) ∧ f_X11_powers v w th R' s = some (a, t2, R3, s2) := by
  obtain ⟨B2, B3, hB2, hB3⟩ := p_ref (k := 4) (by omega) R R'
  obtain ⟨C2, C3, hC2, hC3⟩ := p_ref (k := 6) (by omega) R R'
  unfold f_X10_powers f_X11_powers f_X10_powers_J10 f_X10_powers_J27 f_X11_powers_J15 f_X11_powers_J33
  rw [hB2, hB3, hC2, hC3]
  simp only [zg_pos hv, zg_pos hw, Option.bind_some]
  by_cases c1 : v < 2
  · rw [if_pos c1, if_pos c1]; exact ⟨_, _, _, _, _, rfl, rfl⟩
  rw [if_neg c1, if_neg c1]
  by_cases c2 : 1 ≤ w
  · rw [if_pos c2, if_pos c2]
    by_cases c3 : 5 < v
    · rw [if_pos c3, if_pos c3]; exact ⟨_, _, _, _, _, rfl, rfl⟩
    · rw [if_neg c3, if_neg c3]
      by_cases c4 : w ≤ 20
      · rw [if_pos c4, if_pos c4]
        have x := xpw39 (v2 := w) 3990
        have G : ∀ (n : Int) (val : Int), v = n → f_X10_powers_L39 zF n w 1 0 = some val → (∀ p : Int, p = val → ok ((f_X11_powers_L47 zF (n * w) 0 s).bind (fun a => (f_X11_powers_L73 zF (n * w) n a).bind (fun b => some b))) (fun r => r (w - 1) = p)) → ∃ a R2 t2 R3 s2, ((f_X10_powers_L39 zF v w 1 0).bind fun v3_7 => some (v3_7, R)) = some (a, R2) ∧ ((f_X11_powers_L47 zF (v * w) 0 s).bind fun t_sums_7 => (f_X11_powers_L73 zF (v * w) v t_sums_7).bind fun t_sums_10 => zg (0 ≤ w - 1 ∧ w - 1 < 101) (some (t_sums_10 (w - 1), (0 : Int), R', t_sums_10))) = some (a, t2, R3, s2) := by
          intro n val hn h1 h2
          subst hn
          obtain ⟨b, hb, hb2⟩ := h2 val rfl
          obtain ⟨a1, ha1, ha2⟩ := zb hb
          obtain ⟨a2, ha3, ha4⟩ := zb ha2
          cases ha4
          rw [h1, ha1, Option.bind_some, Option.bind_some, ha3, Option.bind_some, zg_pos ⟨by omega, by omega⟩, hb2]
          exact ⟨_, _, _, _, _, rfl, rfl⟩
        have H : v = 2 ∨ v = 3 ∨ v = 4 ∨ v = 5 := by omega
        rcases H with h | h | h | h
        · exact G 2 _ h x.1 (fun p hp => (pow2 ⟨c2, c4⟩ s).mono (fun r hr => by rw [hr, hp]; grind))
        · exact G 3 _ h x.2.1 (fun p hp => (pow3 ⟨c2, c4⟩ s).mono (fun r hr => by rw [hr, hp]; grind))
        · exact G 4 _ h x.2.2.1 (fun p hp => (pow4 ⟨c2, c4⟩ s).mono (fun r hr => by rw [hr, hp]; grind))
        · exact G 5 _ h x.2.2.2 (fun p hp => (pow5 ⟨c2, c4⟩ s).mono (fun r hr => by rw [hr, hp]; grind))
      · rw [if_neg c4, if_neg c4]; exact ⟨_, _, _, _, _, rfl, rfl⟩
  · rw [if_neg c2, if_neg c2]; exact ⟨_, _, _, _, _, rfl, rfl⟩
