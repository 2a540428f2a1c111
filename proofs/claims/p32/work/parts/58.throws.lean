/-! how likely one stays: the greatest divisor, on both sides -/
theorem zcmp_z (a b : Int) : zR (zcmp a b) := by
  unfold zcmp
  split
  · decide
  · split <;> decide
theorem zcmp_0 {a : Int} (h : 0 ≤ a) : (zcmp a 0 ≤ 0 ↔ a = 0) ∧ (zcmp a 0 = 0 ↔ a = 0) := by
  unfold zcmp
  by_cases h1 : 0 < a
  · rw [if_pos h1]; exact ⟨⟨fun q => absurd q (by omega), fun q => absurd q (by omega)⟩, ⟨fun q => absurd q (by omega), fun q => absurd q (by omega)⟩⟩
  · have h2 : a = 0 := by omega
    rw [if_neg h1, if_pos h2]; exact ⟨⟨fun _ => h2, fun _ => by omega⟩, ⟨fun _ => h2, fun _ => rfl⟩⟩
theorem eu_step {a b m : Nat} (hb : 0 < b) (hab : b ≤ a) (h : a * b < 2 ^ (m + 1)) : b * (a % b) < 2 ^ m := by
  have h1 : a % b < b := Nat.mod_lt a hb
  have h2 : a / b * b + a % b = a := by rw [Nat.mul_comm]; exact Nat.div_add_mod a b
  have h3 : 1 ≤ a / b := Nat.div_pos hab hb
  have h4 : 1 * b ≤ a / b * b := Nat.mul_le_mul_right b h3
  have h5 : 2 * (a % b) ≤ a := by omega
  have h6 : b * (2 * (a % b)) ≤ b * a := Nat.mul_le_mul_left b h5
  have h7 : b * (2 * (a % b)) = 2 * (b * (a % b)) := by rw [Nat.mul_left_comm]
  have h8 : b * a = a * b := Nat.mul_comm b a
  have h9 : 2 ^ (m + 1) = 2 * 2 ^ m := by rw [Nat.pow_succ, Nat.mul_comm]
  omega
theorem xgd_L : ∀ (m n : Nat) (a b : Nat) (v8 : Int), b ≤ a → (a : Int) ≤ 9000000000000000000 → a * b < 2 ^ m → 0 ≤ v8 → v8 + m < 199 → m < n → f_X10_greatestDivisor_L15 n (a : Int) (b : Int) v8 = some ((Nat.gcd a b : Nat) : Int) := by
  intro m
  induction m with
  | zero =>
    intro n a b v8 h1 h2 h3 h4 h5 h6
    have hb : b = 0 := by
      rcases Nat.eq_zero_or_pos b with h | h
      · exact h
      · have : 1 * 1 ≤ a * b := Nat.mul_le_mul (by omega) h
        omega
    obtain ⟨n, rfl⟩ : ∃ n', n = n' + 1 := ⟨n - 1, by omega⟩
    subst hb
    have z0 := (zcmp_0 (a := ((0 : Nat) : Int)) (by omega)).1
    rw [f_X10_greatestDivisor_L15_s, zg_pos ⟨by omega, by omega⟩, if_neg (show ¬ 200 ≤ v8 by omega), zg_pos ⟨⟨by omega, by omega⟩, ⟨by omega, by omega⟩⟩, zg_pos (zcmp_z _ _), if_pos (z0.mpr rfl), Nat.gcd_zero_right]
  | succ m ih =>
    intro n a b v8 h1 h2 h3 h4 h5 h6
    obtain ⟨n, rfl⟩ : ∃ n', n = n' + 1 := ⟨n - 1, by omega⟩
    have z0 := (zcmp_0 (a := ((b : Nat) : Int)) (by omega)).1
    rw [f_X10_greatestDivisor_L15_s, zg_pos ⟨by omega, by omega⟩, if_neg (show ¬ 200 ≤ v8 by omega), zg_pos ⟨⟨by omega, by omega⟩, ⟨by omega, by omega⟩⟩, zg_pos (zcmp_z _ _)]
    rcases Nat.eq_zero_or_pos b with h | h
    · rw [if_pos (z0.mpr (by omega)), h, Nat.gcd_zero_right]
    · rw [if_neg (fun q => by have := z0.mp q; omega), zg_pos ⟨by omega, by omega, by omega, by omega⟩, ← Int.natCast_emod, ih n b (a % b) (v8 + 1) (Nat.le_of_lt (Nat.mod_lt a h)) (by omega) (eu_step h h1 h3) (by omega) (by omega) (by omega), Nat.gcd_comm a b, Nat.gcd_rec b a, Nat.gcd_comm]
theorem mgd_L : ∀ (m n : Nat) (a b : Nat), b ≤ a → (a : Int) ≤ 9000000000000000000 → a * b < 2 ^ m → m < n → f_X11_throwsBy_L132 n (a : Int) (b : Int) = some ((Nat.gcd a b : Nat) : Int) := by
  intro m
  induction m with
  | zero =>
    intro n a b h1 h2 h3 h6
    have hb : b = 0 := by
      rcases Nat.eq_zero_or_pos b with h | h
      · exact h
      · have : 1 * 1 ≤ a * b := Nat.mul_le_mul (by omega) h
        omega
    obtain ⟨n, rfl⟩ : ∃ n', n = n' + 1 := ⟨n - 1, by omega⟩
    subst hb
    have z0 := (zcmp_0 (a := ((0 : Nat) : Int)) (by omega)).2
    rw [f_X11_throwsBy_L132_s, zg_pos ⟨⟨by omega, by omega⟩, ⟨by omega, by omega⟩⟩, zg_pos (zcmp_z _ _), if_pos (z0.mpr rfl), Nat.gcd_zero_right]
  | succ m ih =>
    intro n a b h1 h2 h3 h6
    obtain ⟨n, rfl⟩ : ∃ n', n = n' + 1 := ⟨n - 1, by omega⟩
    have z0 := (zcmp_0 (a := ((b : Nat) : Int)) (by omega)).2
    rw [f_X11_throwsBy_L132_s, zg_pos ⟨⟨by omega, by omega⟩, ⟨by omega, by omega⟩⟩, zg_pos (zcmp_z _ _)]
    rcases Nat.eq_zero_or_pos b with h | h
    · rw [if_pos (z0.mpr (by omega)), h, Nat.gcd_zero_right]
    · rw [if_neg (fun q => by have := z0.mp q; omega), zg_pos ⟨by omega, by omega, by omega, by omega⟩, ← Int.natCast_emod, ih n b (a % b) (Nat.le_of_lt (Nat.mod_lt a h)) (by omega) (eu_step h h1 h3) (by omega), Nat.gcd_comm a b, Nat.gcd_rec b a, Nat.gcd_comm]
theorem pow_b {b : Nat} (hb : b ≤ 1000000000000) (c : Nat) (hc : c ≤ b) : b * c < 2 ^ 80 := by
  have h1 : b * c ≤ 1000000000000 * 1000000000000 := Nat.mul_le_mul hb (Nat.le_trans hc hb)
  have h2 : 1000000000000 * 1000000000000 < 2 ^ 80 := by decide
  omega
theorem xgd {a b : Nat} (ha : 0 < a) (hb : 0 < b) (ha2 : a ≤ 1000000000000) (hb2 : b ≤ 1000000000000) : f_X10_greatestDivisor (a : Int) (b : Int) = some ((Nat.gcd a b : Nat) : Int) := by
  have hg : 0 < Nat.gcd a b := Nat.gcd_pos_of_pos_left b ha
  have hg2 : Nat.gcd a b ≤ a := Nat.le_of_dvd ha (Nat.gcd_dvd_left a b)
  have z0 := (zcmp_0 (a := ((b : Nat) : Int)) (by omega)).1
  have L : f_X10_greatestDivisor_L15 zF (a : Int) (b : Int) 0 = some ((Nat.gcd a b : Nat) : Int) := by
    rw [show zF = 3999 + 1 from rfl, f_X10_greatestDivisor_L15_s, zg_pos ⟨by omega, by omega⟩, if_neg (by decide), zg_pos ⟨⟨by omega, by omega⟩, ⟨by omega, by omega⟩⟩, zg_pos (zcmp_z _ _), if_neg (fun q => by have := z0.mp q; omega), zg_pos ⟨by omega, by omega, by omega, by omega⟩, ← Int.natCast_emod, xgd_L 80 3999 b (a % b) (0 + 1) (Nat.le_of_lt (Nat.mod_lt a hb)) (by omega) (pow_b hb2 _ (Nat.le_of_lt (Nat.mod_lt a hb))) (by omega) (by omega) (by omega), Nat.gcd_comm a b, Nat.gcd_rec b a, Nat.gcd_comm]
  unfold f_X10_greatestDivisor
  rw [zg_pos ⟨by omega, by omega⟩, zg_pos ⟨by omega, by omega⟩, if_pos (by omega), if_pos (by omega), L, Option.bind_some, zg_pos ⟨⟨by omega, by omega⟩, ⟨by omega, by omega⟩⟩]
  by_cases q : (1 : Int) < ((Nat.gcd a b : Nat) : Int)
  · rw [if_pos q]
  · rw [if_neg q]
    have : Nat.gcd a b = 1 := by omega
    rw [this]
    rfl
theorem mgd {a b : Nat} (hb : 0 < b) (ha2 : a ≤ 1000000000000) (hb2 : b ≤ 1000000000000) : f_X11_throwsBy_L132 zF (a : Int) (b : Int) = some ((Nat.gcd a b : Nat) : Int) := by
  have z0 := (zcmp_0 (a := ((b : Nat) : Int)) (by omega)).2
  rw [show zF = 3999 + 1 from rfl, f_X11_throwsBy_L132_s, zg_pos ⟨⟨by omega, by omega⟩, ⟨by omega, by omega⟩⟩, zg_pos (zcmp_z _ _), if_neg (fun q => by have := z0.mp q; omega), zg_pos ⟨by omega, by omega, by omega, by omega⟩, ← Int.natCast_emod, mgd_L 80 3999 b (a % b) (Nat.le_of_lt (Nat.mod_lt a hb)) (by omega) (pow_b hb2 _ (Nat.le_of_lt (Nat.mod_lt a hb))) (by omega), Nat.gcd_comm a b, Nat.gcd_rec b a, Nat.gcd_comm]
/-- the part behind v8 - 1 throws: p of q -/
def TI (c0 : Nat) (R : Nat) (v8 : Nat) (p q : Nat) : Prop := 1 ≤ p ∧ p ≤ q ∧ ((2 ≤ c0 ∧ c0 ≤ 9 ∧ q ≤ 9 ^ (v8 - 1)) ∨ (c0 = 0 ∧ Nat.Coprime q p ∧ p * (R + v8) = q * (R + 1)))
/-- the count of a throw -/
def TC (c0 R v8 : Nat) : Nat := if c0 = 0 then R + v8 + 1 else c0
theorem TI.bd {c0 R v8 p q : Nat} (h : TI c0 R v8 p q) (hR : R ≤ 999) (h1 : 1 ≤ v8) (h8 : v8 ≤ 12) : q * TC c0 R v8 ≤ 1000000000000 ∧ 2 ≤ TC c0 R v8 := by
  obtain ⟨a1, a2, a3⟩ := h
  unfold TC
  rcases a3 with ⟨b1, b2, b3⟩ | ⟨b1, b2, b3⟩
  · rw [if_neg (by omega)]
    refine ⟨?_, b1⟩
    have e : 9 ^ (v8 - 1) ≤ 9 ^ 11 := Nat.pow_le_pow_right (by omega) (by omega)
    have e2 : q * c0 ≤ 9 ^ 11 * 9 := Nat.mul_le_mul (Nat.le_trans b3 e) b2
    have e3 : 9 ^ 11 * 9 ≤ 1000000000000 := by decide
    omega
  · rw [if_pos b1]
    refine ⟨?_, by omega⟩
    have d : q ∣ p * (R + v8) := ⟨R + 1, b3⟩
    have d2 : q ∣ R + v8 := b2.dvd_of_dvd_mul_left d
    have d3 : q ≤ R + v8 := Nat.le_of_dvd (by omega) d2
    have e2 : q * (R + v8 + 1) ≤ 1011 * 1012 := Nat.mul_le_mul (by omega) (by omega)
    omega
theorem TI.next {c0 R v8 p q : Nat} (h : TI c0 R v8 p q) (h1 : 1 ≤ v8) (hc : 2 ≤ TC c0 R v8) : TI c0 R (v8 + 1) ((p * (TC c0 R v8 - 1)) / Nat.gcd (p * (TC c0 R v8 - 1)) (q * TC c0 R v8)) ((q * TC c0 R v8) / Nat.gcd (p * (TC c0 R v8 - 1)) (q * TC c0 R v8)) := by
  obtain ⟨a1, a2, a3⟩ := h
  generalize hA : p * (TC c0 R v8 - 1) = A
  generalize hB : q * TC c0 R v8 = B
  have hAp : 1 ≤ A := by
    have : 1 * 1 ≤ p * (TC c0 R v8 - 1) := Nat.mul_le_mul a1 (by omega)
    omega
  have hAB : A ≤ B := by rw [← hA, ← hB]; exact Nat.mul_le_mul a2 (by omega)
  have hg : 0 < Nat.gcd A B := Nat.gcd_pos_of_pos_left B (by omega)
  obtain ⟨A', hA'⟩ := Nat.gcd_dvd_left A B
  obtain ⟨B', hB'⟩ := Nat.gcd_dvd_right A B
  have eA : A / Nat.gcd A B = A' := by
    have : Nat.gcd A B * A' / Nat.gcd A B = A' := Nat.mul_div_cancel_left A' hg
    rw [← hA'] at this; exact this
  have eB : B / Nat.gcd A B = B' := by
    have : Nat.gcd A B * B' / Nat.gcd A B = B' := Nat.mul_div_cancel_left B' hg
    rw [← hB'] at this; exact this
  have hcop := Nat.coprime_div_gcd_div_gcd hg
  refine ⟨?_, Nat.div_le_div_right hAB, ?_⟩
  · rw [eA]
    rcases Nat.eq_zero_or_pos A' with z | z
    · rw [z, Nat.mul_zero] at hA'; omega
    · exact z
  · rcases a3 with ⟨b1, b2, b3⟩ | ⟨b1, b2, b3⟩
    · refine Or.inl ⟨b1, b2, ?_⟩
      have e1 : B / Nat.gcd A B ≤ B := Nat.div_le_self _ _
      have e2 : TC c0 R v8 = c0 := by unfold TC; rw [if_neg (by omega)]
      have e3 : B ≤ 9 ^ (v8 - 1) * 9 := by rw [← hB, e2]; exact Nat.mul_le_mul b3 b2
      have e4 : 9 ^ (v8 - 1) * 9 = 9 ^ (v8 + 1 - 1) := by rw [← Nat.pow_succ]; congr 1; omega
      omega
    · refine Or.inr ⟨b1, hcop.symm, ?_⟩
      have e2 : TC c0 R v8 = R + v8 + 1 := by unfold TC; rw [if_pos b1]
      rw [eA, eB]
      have k : A * (R + (v8 + 1)) = B * (R + 1) := by
        rw [← hA, ← hB, e2, show R + v8 + 1 - 1 = R + v8 by omega, b3, show R + (v8 + 1) = R + v8 + 1 by omega, Nat.mul_assoc, Nat.mul_assoc, Nat.mul_comm (R + 1)]
      have k2 : Nat.gcd A B * (A' * (R + (v8 + 1))) = Nat.gcd A B * (B' * (R + 1)) := by
        rw [← Nat.mul_assoc, ← Nat.mul_assoc, ← hA', ← hB']; exact k
      exact Nat.eq_of_mul_eq_mul_left hg k2
theorem th_loop {kind fig sc there v1 : Int} {R c0 : Nat} {steps line st row : Int → Int} (hc : ∀ v8 : Nat, 1 ≤ v8 → v8 ≤ 12 → fv_countIn kind ((R : Int) + v8) there fig sc steps line = some ((TC c0 R v8 : Nat) : Int) ∧ f_X11_countOf ((R : Int) + v8) there kind fig sc st row = some ((TC c0 R v8 : Nat) : Int)) (hR : R ≤ 999) (h1 : 0 ≤ v1 ∧ v1 ≤ 12) : ∀ (n : Nat) (v8 p q : Nat), 1 ≤ v8 → (v8 : Int) ≤ v1 + 1 → 13 - v8 < n → TI c0 R v8 p q → ∃ x y : Int, f_X10_partOfThrows_L21 n v1 kind (p : Int) (q : Int) (v8 : Int) there (R : Int) fig sc steps line = some (x, y) ∧ f_X11_throwsBy_L87 n v1 (p : Int) (q : Int) (v8 : Int) there (R : Int) kind fig sc st row = some (x, y) := by
  intro n
  induction n with
  | zero => intro v8 p q a1 a2 a3; omega
  | succ n ih =>
    intro v8 p q a1 a2 a3 hT
    have z : zR (v8 : Int) ∧ zR v1 := ⟨⟨by omega, by omega⟩, ⟨by omega, by omega⟩⟩
    rw [f_X10_partOfThrows_L21_s, f_X11_throwsBy_L87_s, zg_pos z, zg_pos z]
    by_cases c : v1 < (v8 : Int)
    · rw [if_pos c, if_pos c]
      exact ⟨_, _, rfl, rfl⟩
    · have h12 : v8 ≤ 12 := by omega
      obtain ⟨c1, c2⟩ := hc v8 a1 h12
      obtain ⟨d1, d2⟩ := hT.bd hR a1 h12
      have nx := hT.next a1 d2
      obtain ⟨t1, t2, t3⟩ := hT
      rw [if_neg c, if_neg c, c1, c2, Option.bind_some, Option.bind_some]
      have hTC : TC c0 R v8 ≤ 1000000000000 := Nat.le_trans (by have : 1 * TC c0 R v8 ≤ q * TC c0 R v8 := Nat.mul_le_mul_right _ (by omega); omega) d1
      have e1 : (p : Int) * ((TC c0 R v8 : Int) - 1) = ((p * (TC c0 R v8 - 1) : Nat) : Int) := by
        rw [Int.natCast_mul, Int.natCast_sub (by omega)]; rfl
      have e2 : (q : Int) * (TC c0 R v8 : Int) = ((q * TC c0 R v8 : Nat) : Int) := by rw [Int.natCast_mul]
      have hA : p * (TC c0 R v8 - 1) ≤ q * TC c0 R v8 := Nat.mul_le_mul t2 (by omega)
      have hA1 : 1 * 1 ≤ p * (TC c0 R v8 - 1) := Nat.mul_le_mul t1 (by omega)
      have hTR : TC c0 R v8 ≤ 2000 := by
        unfold TC
        split
        · omega
        · rcases t3 with t3 | t3 <;> omega
      have z1 : zR ((TC c0 R v8 : Int) - 1) := ⟨by omega, by omega⟩
      have z2 : zR (TC c0 R v8 : Int) := ⟨by omega, by omega⟩
      rw [zg_pos z1, zg_pos z2, zg_pos z1, zg_pos z2, e1, e2, xgd (by omega) (by omega) (by omega) (by omega), mgd (by omega) (by omega) (by omega), Option.bind_some, Option.bind_some]
      generalize hA' : p * (TC c0 R v8 - 1) = A at *
      generalize hB' : q * TC c0 R v8 = B at *
      have g1 : 0 < Nat.gcd A B := Nat.gcd_pos_of_pos_left B (by omega)
      have g2 : Nat.gcd A B ≤ A := Nat.le_of_dvd (by omega) (Nat.gcd_dvd_left A B)
      have y1 : (0 : Int) ≤ (A : Int) ∧ (A : Int) ≤ 9223372036854775807 ∧ (0 : Int) < ((Nat.gcd A B : Nat) : Int) ∧ ((Nat.gcd A B : Nat) : Int) ≤ 9223372036854775807 := by omega
      have y2 : (0 : Int) ≤ (B : Int) ∧ (B : Int) ≤ 9223372036854775807 ∧ (0 : Int) < ((Nat.gcd A B : Nat) : Int) ∧ ((Nat.gcd A B : Nat) : Int) ≤ 9223372036854775807 := by omega
      rw [zg_pos y1, zg_pos y2, zg_pos y1, zg_pos y2, ← Int.natCast_ediv, ← Int.natCast_ediv]
      exact ih (v8 + 1) _ _ (by omega) (by omega) (by omega) nx
/-- the count of a throw is what is told, or one more than the round -/
theorem CT_tc {kind fig sc there : Int} {R : Nat} {steps line : Int → Int} (hk : 0 ≤ kind ∧ kind ≤ 6) (h1 : kind ≠ 1) (h4 : kind ≠ 4) (hf : 2 ≤ fig ∧ fig ≤ 9) : ∃ c0 : Nat, (c0 = 0 ∨ (2 ≤ c0 ∧ c0 ≤ 9)) ∧ ∀ v8 : Nat, CT kind fig sc there ((R : Int) + v8) steps line = ((TC c0 R v8 : Nat) : Int) := by
  have H : kind = 6 ∨ kind = 2 ∨ (kind ≠ 6 ∧ kind ≠ 2) := by omega
  rcases H with rfl | rfl | ⟨a, b⟩
  · refine ⟨2, Or.inr (by omega), fun v8 => ?_⟩
    unfold CT TC
    rw [if_pos rfl, if_neg (by decide)]; rfl
  · refine ⟨fig.toNat, Or.inr (by omega), fun v8 => ?_⟩
    unfold CT TC
    rw [if_neg (by decide), if_pos rfl, if_neg (by omega)]; omega
  · refine ⟨0, Or.inl rfl, fun v8 => ?_⟩
    unfold CT TC
    rw [if_neg a, if_neg b, if_neg h4, if_neg h1, if_pos rfl]
    omega
/-- throwsBy on both sides -/
theorem th_both {B size there rb kind fig sc v1 v2 th : Int} {steps line went st row R R' : Int → Int} (hB : B ≤ 999) (h : RI B size there rb line went) (hp : PI kind fig sc steps) (e1 : eqr 0 sc steps st) (e2 : eqr 0 there line row) (hv1 : zR v1) (hv2 : zR v2) : ∃ a r2 t r3, f_X10_throwsBy v1 v2 R there rb kind fig sc steps line = some (a, r2) ∧ f_X11_throwsBy v1 v2 there rb kind fig sc st row th R' = some (a, t, r3) := by
  obtain ⟨b1, b2, b3, b4, -⟩ := id h
  have hk := hp.1
  have hl : ∀ i, 0 ≤ i → i < there → 1 ≤ line i ∧ line i ≤ 120 := fun i p q => by have := b4 i p q; omega
  have hl2 : ∀ i, 0 ≤ i → i < there → 1 ≤ row i ∧ row i ≤ 120 := fun i p q => by rw [← e2 i p q]; exact hl i p q
  have hp2 := hp.congr e1
  have zk : zR kind := ⟨by omega, by omega⟩
  have RF : ∀ k : Int, 1 ≤ k ∧ k < 7 → ∃ a r2 t r3, (f_X10_refuseLong k R).bind (fun (r_1, t_refusals_2) => some (r_1, t_refusals_2)) = some (a, r2) ∧ f_X11_throwsBy_J62 v1 v2 (-k) there rb kind fig sc st row 0 R' = some (a, t, r3) := by
    intro k hk
    obtain ⟨⟨x1, x2⟩, y1, y2⟩ := xref (v := k) (by omega) R
    obtain ⟨⟨x3, x4⟩, y3, y4⟩ := mref (v := -k) (by omega) R'
    dsimp only at y2 y4
    unfold f_X10_refuseLong f_X11_throwsBy_J62
    rw [y1, y3, Option.bind_some, zg_pos (p := zR (-k)) ⟨by omega, by omega⟩, if_neg (show ¬ 0 ≤ -k by omega), Option.bind_some]
    dsimp only
    have zk : zR (-k) := ⟨by omega, by omega⟩
    rw [y2, y4, zg_pos zk, zg_pos zk]
    exact ⟨_, _, _, _, rfl, rfl⟩
  unfold f_X10_throwsBy f_X11_throwsBy f_X10_throwsBy_J9 f_X10_throwsBy_J60 f_X11_throwsBy_J56
  rw [zg_pos hv2, zg_pos hv2, zg_pos hv2, min_ hv2 ⟨by omega, by omega⟩ ⟨by omega, by omega⟩, Option.bind_some, zg10n]
  by_cases c1 : v2 < 0
  · rw [if_pos c1, if_neg (show ¬ (0 ≤ v2 ∧ v2 ≤ 1) by omega)]
    exact RF 2 (by omega)
  by_cases c2 : v2 ≤ 1
  · rw [if_neg c1, if_pos c2, if_pos (show 0 ≤ v2 ∧ v2 ≤ 1 by omega), zg_pos hv1, zg_pos hv1, zg_pos hv1, zg_pos hv1]
    by_cases c3 : 0 ≤ v1
    · rw [if_pos c3, if_pos c3]
      by_cases c4 : v1 ≤ 12
      · rw [if_pos c4, if_pos c4]
        simp only [zg_pos zk]
        by_cases c5 : kind = 1
        · rw [if_pos c5, if_pos c5]; exact RF 3 (by omega)
        · rw [if_neg c5, if_neg c5]
          by_cases c6 : kind = 4
          · rw [if_neg (show ¬ ¬ kind = 4 from fun q => q c6), if_neg (show ¬ ¬ kind = 4 from fun q => q c6)]; exact RF 3 (by omega)
          · rw [if_pos (show ¬ kind = 4 from c6), if_pos (show ¬ kind = 4 from c6)]
            obtain ⟨N, hN⟩ : ∃ N : Nat, rb = (N : Int) := ⟨rb.toNat, by omega⟩
            subst hN
            obtain ⟨c0, hc0, hcc⟩ := CT_tc (sc := sc) (there := there) (R := N) (steps := steps) (line := line) hk c5 c6 hp.2.1
            obtain ⟨x, y, q1, q2⟩ := th_loop (kind := kind) (fig := fig) (sc := sc) (there := there) (v1 := v1) (R := N) (c0 := c0) (steps := steps) (line := line) (st := st) (row := row) (fun v8 p q => ⟨by rw [xct hp ⟨b2.1, by omega⟩ hl ⟨by omega, by omega⟩, hcc], by rw [mct hp2 ⟨b2.1, by omega⟩ hl2 ⟨by omega, by omega⟩, ← CT_congr e1 e2 (by omega), hcc]⟩) (by omega) ⟨c3, c4⟩ zF 1 1 1 (by omega) (by omega) (by rw [zF_eq]; omega) ⟨by omega, by omega, by
              rcases hc0 with q | q
              · exact Or.inr ⟨q, rfl, rfl⟩
              · exact Or.inl ⟨q.1, q.2, by omega⟩⟩
            unfold f_X10_partOfThrows f_X11_throwsBy_J62
            have q1' : f_X10_partOfThrows_L21 zF v1 kind 1 1 1 there (N : Int) fig sc steps line = some (x, y) := q1
            have q2' : f_X11_throwsBy_L87 zF v1 1 1 1 there (N : Int) kind fig sc st row = some (x, y) := q2
            rw [xstriker hk, Option.bind_some, q1', Option.bind_some, q2', zg_pos (p := zR 0) ⟨by omega, by omega⟩, if_pos (show (0 : Int) ≤ 0 by omega), Option.bind_some]
            dsimp only
            rw [zg_pos hv2, zg_pos hv2]
            by_cases c7 : v2 = 0
            · rw [if_neg (show ¬ ¬ v2 = 0 from fun q => q c7), if_neg (show ¬ ¬ v2 = 0 from fun q => q c7)]
              exact ⟨_, _, _, _, rfl, rfl⟩
            · rw [if_pos (show ¬ v2 = 0 from c7), if_pos (show ¬ v2 = 0 from c7)]
              exact ⟨_, _, _, _, rfl, rfl⟩
      · rw [if_neg c4, if_neg c4]; exact RF 6 (by omega)
    · rw [if_neg c3, if_neg c3]; exact RF 4 (by omega)
  · rw [if_neg c1, if_neg c2, if_neg (show ¬ (0 ≤ v2 ∧ v2 ≤ 1) by omega)]
    exact RF 2 (by omega)
