/-! the model's endless row and sums: it answers -/
theorem mel_L {C : Int} (hC : C ≤ 1000000) : ∀ (n : Nat) (v4 v5 : Int), 1 ≤ v4 → 1 ≤ v5 → v5 ≤ 1000 → v5 ≤ n → (v4 - 1) * v5 ≤ C → ok (f_X11_endless_L68 n v4 v5) (fun _ => True) := by
  intro n
  induction n with
  | zero => intro v4 v5 a1 a2 a3 a4; exact absurd a4 (by omega)
  | succ n ih =>
    intro v4 v5 a1 a2 a3 a4 a5
    rw [f_X11_endless_L68_s]
    refine ok_zg.mpr ⟨⟨by omega, by omega⟩, ok_ite.mpr ⟨fun _ => ok_some.mpr trivial, fun c => ?_⟩⟩
    have m : (v4 - 1) * 1 ≤ (v4 - 1) * v5 := Int.mul_le_mul_of_nonneg_left (by omega) (by omega)
    have d0 : 0 ≤ (v4 - 1) / (v5 - 1) := Int.ediv_nonneg (by omega) (by omega)
    have d1 : (v4 - 1) / (v5 - 1) * (v5 - 1) ≤ v4 - 1 := Int.ediv_mul_le _ (by omega)
    have d3 : (v4 + (v4 - 1) / (v5 - 1) - 1) * (v5 - 1) = (v4 - 1) * (v5 - 1) + (v4 - 1) / (v5 - 1) * (v5 - 1) := by
      rw [show v4 + (v4 - 1) / (v5 - 1) - 1 = (v4 - 1) + (v4 - 1) / (v5 - 1) by omega, Int.add_mul]
    have d4 : (v4 - 1) * v5 = (v4 - 1) * (v5 - 1) + (v4 - 1) := by rw [Int.mul_sub, Int.mul_one]; omega
    refine ok_zg.mpr ⟨⟨by omega, by omega, by omega, by omega⟩, ih _ (v5 + -1) (by omega) (by omega) (by omega) (by omega) ?_⟩
    rw [show v5 + -1 = v5 - 1 by omega, d3]
    omega
/-- the lucky numbers' list keeps its bounds -/
def LB (lucky unlucky : Int → Int) : Prop := (∀ i, 0 ≤ i → i < 2000 → 1 ≤ lucky i ∧ lucky i ≤ 2000) ∧ (∀ x, 1 ≤ x → x ≤ 2000 → 0 ≤ unlucky x ∧ unlucky x ≤ 5000)
theorem mfl9 : ∀ (n : Nat) (v1 : Int) (lucky unlucky : Int → Int), 0 ≤ v1 → v1 ≤ 2000 → 2000 - v1 < n → (∀ i, 0 ≤ i → i < v1 → 1 ≤ lucky i ∧ lucky i ≤ 2000) → (∀ x, 1 ≤ x → x ≤ v1 → 0 ≤ unlucky x ∧ unlucky x ≤ 5000) → ok (f_X11_findLucky_L9 n v1 lucky unlucky) (fun r => LB r.1 r.2) := by
  intro n
  induction n with
  | zero => intro v1 lucky unlucky a1 a2 a3; exact absurd a3 (by omega)
  | succ n ih =>
    intro v1 lucky unlucky a1 a2 a3 h1 h2
    rw [f_X11_findLucky_L9_s]
    refine ok_zg.mpr ⟨⟨by omega, by omega⟩, ok_ite.mpr ⟨fun c => ok_some.mpr ⟨fun i p q => h1 i p (by omega), fun x p q => h2 x p (by omega)⟩, fun c => ok_zg.mpr ⟨⟨by omega, by omega⟩, ok_zg.mpr ⟨⟨by omega, by omega⟩, ih (v1 + 1) _ _ (by omega) (by omega) (by omega) (fun i p q => ?_) (fun x p q => ?_)⟩⟩⟩⟩
    · by_cases e : i = v1
      · rw [e, zup_same]; omega
      · rw [zup_ne e]; exact h1 i p (by omega)
    · by_cases e : x = v1 + 1
      · rw [e, zup_same]; omega
      · rw [zup_ne e]; exact h2 x p (by omega)
theorem mfl57 {v1 v2 many : Int} (h1 : 0 ≤ v1 ∧ v1 ≤ 5000) (h2 : 2 ≤ v2 ∧ v2 ≤ 3000) (hm : 0 ≤ many ∧ many ≤ 2000) : ∀ (n : Nat) (v3 v4 : Int) (lucky unlucky : Int → Int), 0 ≤ v3 → v3 ≤ v4 → v4 ≤ many → many - v4 < n → LB lucky unlucky → ok (f_X11_findLucky_L57 n v1 v2 v3 v4 lucky unlucky many) (fun r => (v3 ≤ r.1 ∧ r.1 ≤ v3 + (many - v4)) ∧ (v4 < v2 → v2 ≤ many → r.1 < v3 + (many - v4)) ∧ LB r.2.1 r.2.2) := by
  intro n
  induction n with
  | zero => intro v3 v4 lucky unlucky a1 a2 a3 a4; exact absurd a4 (by omega)
  | succ n ih =>
    intro v3 v4 lucky unlucky a1 a2 a3 a4 hL
    rw [f_X11_findLucky_L57_s]
    refine ok_zg.mpr ⟨⟨⟨by omega, by omega⟩, ⟨by omega, by omega⟩⟩, ok_ite.mpr ⟨fun c => ok_some.mpr ⟨by dsimp only; omega, fun q1 q2 => absurd q1 (by omega), hL⟩, fun c => ?_⟩⟩
    have m1 := Int.emod_nonneg (v4 + 1) (show v2 ≠ 0 by omega)
    have m2 := Int.emod_lt_of_pos (v4 + 1) (show 0 < v2 by omega)
    have l4 := hL.1 v4 (by omega) (by omega)
    refine ok_zg.mpr ⟨⟨by omega, by omega, by omega, by omega⟩, ok_zg.mpr ⟨⟨by omega, by omega⟩, ok_ite.mpr ⟨fun c2 => ?_, fun c2 => ?_⟩⟩⟩
    · refine ok_zg.mpr ⟨⟨by omega, by omega⟩, ok_zg.mpr ⟨⟨by omega, by omega⟩, ?_⟩⟩
      refine (ih (v3 + 1) (v4 + 1) _ unlucky (by omega) (by omega) (by omega) (by omega) ⟨fun i p q => ?_, hL.2⟩).mono (fun r hr => ⟨by omega, fun q1 q2 => ?_, hr.2.2⟩)
      · by_cases e : i = v3
        · rw [e, zup_same]; exact l4
        · rw [zup_ne e]; exact hL.1 i p q
      · have : v4 + 1 ≠ v2 := fun e => c2 (by rw [e]; exact Int.emod_self)
        have := hr.2.1 (by omega) q2
        omega
    · refine ok_zg.mpr ⟨⟨by omega, by omega⟩, ok_zg.mpr ⟨⟨by omega, by omega⟩, ?_⟩⟩
      refine (ih v3 (v4 + 1) lucky _ (by omega) (by omega) (by omega) (by omega) ⟨hL.1, fun x p q => ?_⟩).mono (fun r hr => ⟨by omega, fun q1 q2 => by omega, hr.2.2⟩)
      by_cases e : x = lucky v4
      · rw [e, zup_same]; omega
      · rw [zup_ne e]; exact hL.2 x p q
theorem mfl44 : ∀ (n : Nat) (v1 v2 many : Int) (lucky unlucky : Int → Int), 1 ≤ v1 → v1 + many ≤ 2001 → 2 ≤ v2 → v2 ≤ 2500 → 0 ≤ many → many < n → LB lucky unlucky → ok (f_X11_findLucky_L44 n v1 v2 lucky unlucky many) (fun r => LB r.1 r.2.1) := by
  intro n
  induction n with
  | zero => intro v1 v2 many lucky unlucky a1 a2 a3 a4 a5 a6; exact absurd a6 (by omega)
  | succ n ih =>
    intro v1 v2 many lucky unlucky a1 a2 a3 a4 a5 a6 hL
    rw [f_X11_findLucky_L44_s]
    refine ok_zg.mpr ⟨⟨⟨by omega, by omega⟩, ⟨by omega, by omega⟩⟩, ok_ite.mpr ⟨fun c => ok_some.mpr hL, fun c => ?_⟩⟩
    refine ok_bind.mpr ((mfl57 (v1 := v1) (v2 := v2) (many := many) ⟨by omega, by omega⟩ ⟨a3, by omega⟩ ⟨a5, by omega⟩ zF 0 0 lucky unlucky (by omega) (by omega) a5 (by rw [zF_eq]; omega) hL).mono (fun r hr => ?_))
    obtain ⟨r1, r2, r3⟩ := r
    obtain ⟨e1, e2, e3⟩ := hr
    dsimp only at e1 e2 e3
    have e4 := e2 (by omega) (by omega)
    have J : ∀ s0 : Int, 0 ≤ s0 ∧ s0 ≤ 2500 → ok (f_X11_findLucky_J146 (f_X11_findLucky_L44 n) (v1 + 1) s0 r2 r3 r1) (fun r => LB r.1 r.2.1) := by
      intro s0 hs
      unfold f_X11_findLucky_J146
      exact ok_zg.mpr ⟨⟨by omega, by omega⟩, ok_ite.mpr ⟨fun q => ih (v1 + 1) s0 r1 r2 r3 (by omega) (by omega) q hs.2 e1.1 (by omega) e3, fun _ => ih (v1 + 1) 2 r1 r2 r3 (by omega) (by omega) (by omega) (by omega) e1.1 (by omega) e3⟩⟩
    refine ok_zg.mpr ⟨⟨⟨by omega, by omega⟩, ⟨by omega, by omega⟩⟩, ok_ite.mpr ⟨fun c2 => ?_, fun c2 => J _ ⟨by omega, by omega⟩⟩⟩
    have := e3.1 (v1 + 1 - 1) (by omega) (by omega)
    exact ok_zg.mpr ⟨⟨by omega, by omega⟩, J _ ⟨by omega, by omega⟩⟩
theorem mlucky {lucky unlucky : Int → Int} {many : Int} : ok (f_X11_findLucky lucky unlucky many) (fun r => LB r.1 r.2.1) := by
  unfold f_X11_findLucky
  refine ok_bind.mpr ((mfl9 zF 0 lucky unlucky (by omega) (by omega) (by rw [zF_eq]; omega) (fun i p q => absurd q (by omega)) (fun x p q => absurd q (by omega))).mono (fun r hr => ?_))
  obtain ⟨r1, r2⟩ := r
  refine ok_bind.mpr ((mfl44 zF 1 2 2000 r1 r2 (by omega) (by omega) (by omega) (by omega) (by omega) (by rw [zF_eq]; omega) hr).mono (fun r hr => ?_))
  obtain ⟨s1, s2, s3⟩ := r
  exact ok_some.mpr hr
theorem mwrong {v w top : Int} (hv : zR v) (hw : zR w) (ht : zR top) : f_X11_wrongEndless v w top = some (if 0 ≤ v ∧ v ≤ 2 then (if 1 ≤ w then (if w ≤ top then 0 else -6) else -4) else -2) := by
  unfold f_X11_wrongEndless
  rw [zg_pos hv, min_ hv ⟨by omega, by omega⟩ ⟨by omega, by omega⟩, Option.bind_some, zg10n]
  by_cases c1 : 0 ≤ v ∧ v ≤ 2
  · rw [if_pos c1, if_pos c1, zg_pos hw]
    by_cases c2 : 1 ≤ w
    · rw [if_pos c2, if_pos c2, zg_pos ⟨hw, ht⟩]
      by_cases c3 : w ≤ top
      · rw [if_pos c3, if_pos c3]
      · rw [if_neg c3, if_neg c3]
    · rw [if_neg c2, if_neg c2]
  · rw [if_neg c1, if_neg c1]
theorem mendless {v w fig th many : Int} {R lucky unlucky : Int → Int} (hv : zR v) (hw : zR w) (hf : 2 ≤ fig ∧ fig ≤ 9) : ok (f_X11_endless v w fig th R lucky unlucky many) (fun _ => True) := by
  unfold f_X11_endless
  rw [mwrong hv hw ⟨by omega, by omega⟩]
  have RF : ∀ k : Int, -7 < k ∧ k ≤ 0 → ok ((f_X11_refuse k R).bind (fun (r_8, t_refusals_9) => some (r_8, (0 : Int), t_refusals_9, lucky, unlucky, many))) (fun _ => True) := fun k hk => ok_bind.mpr ((mref hk R).mono (fun r _ => by obtain ⟨r1, r2⟩ := r; exact ok_some.mpr trivial))
  generalize hk : (if 0 ≤ v ∧ v ≤ 2 then (if 1 ≤ w then (if w ≤ 200 then (0 : Int) else -6) else -4) else -2) = k
  have hk2 : (k = 0 ∧ (0 ≤ v ∧ v ≤ 2) ∧ 1 ≤ w ∧ w ≤ 200) ∨ k = -6 ∨ k = -4 ∨ k = -2 := by
    rw [← hk]
    split
    · split
      · split <;> omega
      · omega
    · omega
  refine ok_bind.mpr (ok_some.mpr (ok_zg.mpr ⟨⟨by omega, by omega⟩, ok_ite.mpr ⟨fun c => ?_, fun c => RF k (by omega)⟩⟩))
  have hh : (0 ≤ v ∧ v ≤ 2) ∧ 1 ≤ w ∧ w ≤ 200 := by omega
  refine ok_zg.mpr ⟨hv, ok_ite.mpr ⟨fun _ => ok_zg.mpr ⟨hv, ok_ite.mpr ⟨fun _ => ?_, fun _ => ?_⟩⟩, fun _ => ok_zg.mpr ⟨⟨hw, ⟨by omega, by omega⟩⟩, ok_ite.mpr ⟨fun _ => ok_some.mpr trivial, fun _ => ok_some.mpr trivial⟩⟩⟩⟩
  · have m : (w - 1) * w ≤ 199 * 200 := Int.mul_le_mul (by omega) (by omega) (by omega) (by omega)
    exact ok_bind.mpr ((mel_L (C := 199 * 200) (by omega) zF w w (by omega) (by omega) (by omega) (by rw [zF_eq]; omega) m).mono (fun r _ => ok_some.mpr trivial))
  · refine ok_bind.mpr (mlucky.mono (fun r _ => ?_))
    obtain ⟨r1, r2, r3⟩ := r
    exact ok_zg.mpr ⟨⟨by omega, by omega⟩, ok_some.mpr trivial⟩
theorem mew_L {v fig th many : Int} {R lucky unlucky : Int → Int} (hv : zR v) (hf : 2 ≤ fig ∧ fig ≤ 9) : ∀ (n : Nat) (v4 v5 v6 : Int), 0 ≤ v4 → v4 ≤ 1500 → 1 ≤ v5 → v5 + v4 ≤ 1600 → v4 < n → 2 ≤ v6 → v6 ≤ 3000 → ok (f_X11_endlessWhen_L75 n v v4 v5 v6 fig th R lucky unlucky many) (fun _ => True) := by
  intro n
  induction n with
  | zero => intro v4 v5 v6 a1 a2 a3 a4 a5; exact absurd a5 (by omega)
  | succ n ih =>
    intro v4 v5 v6 a1 a2 a3 a4 a5 a6 a7
    rw [f_X11_endlessWhen_L75_s]
    refine ok_zg.mpr ⟨⟨⟨by omega, by omega⟩, ⟨by omega, by omega⟩⟩, ok_ite.mpr ⟨fun _ => ok_some.mpr trivial, fun c => ?_⟩⟩
    have m1 := Int.emod_nonneg v4 (show v6 ≠ 0 by omega)
    have m2 := Int.emod_lt_of_pos v4 (show 0 < v6 by omega)
    have g : 0 ≤ v4 ∧ v4 ≤ 2147483647 ∧ 0 < v6 ∧ v6 ≤ 2147483647 := ⟨a1, by omega, by omega, by omega⟩
    have d0 : 1 ≤ v4 / v6 := by rw [Int.le_ediv_iff_mul_le (by omega)]; omega
    have d1 : v4 / v6 ≤ v4 := Int.ediv_le_self v6 a1
    refine ok_zg.mpr ⟨g, ok_zg.mpr ⟨⟨by omega, by omega⟩, ok_ite.mpr ⟨fun _ => ok_zg.mpr ⟨g, ok_zg.mpr ⟨hv, ok_ite.mpr ⟨fun _ => ?_, fun _ => ?_⟩⟩⟩, fun _ => ok_some.mpr trivial⟩⟩⟩
    · exact ih _ (v5 + 1) (v5 + 1 + 1) (by omega) (by omega) (by omega) (by omega) (by omega) (by omega) (by omega)
    · exact ih _ (v5 + 1) fig (by omega) (by omega) (by omega) (by omega) (by omega) (by omega) (by omega)
theorem mendlessWhen {v w fig th many : Int} {R lucky unlucky : Int → Int} (hv : zR v) (hw : zR w) (hf : 2 ≤ fig ∧ fig ≤ 9) : ok (f_X11_endlessWhen v w fig th R lucky unlucky many) (fun _ => True) := by
  unfold f_X11_endlessWhen f_X11_endlessWhen_J73
  rw [mwrong hv hw ⟨by omega, by omega⟩]
  have RF : ∀ k : Int, -7 < k ∧ k ≤ 0 → ok ((f_X11_refuse k R).bind (fun (r_8, t_refusals_9) => some (r_8, (0 : Int), t_refusals_9, lucky, unlucky, many))) (fun _ => True) := fun k hk => ok_bind.mpr ((mref hk R).mono (fun r _ => by obtain ⟨r1, r2⟩ := r; exact ok_some.mpr trivial))
  generalize hk : (if 0 ≤ v ∧ v ≤ 2 then (if 1 ≤ w then (if w ≤ 1500 then (0 : Int) else -6) else -4) else -2) = k
  have hk2 : (k = 0 ∧ (0 ≤ v ∧ v ≤ 2) ∧ 1 ≤ w ∧ w ≤ 1500) ∨ k = -6 ∨ k = -4 ∨ k = -2 := by
    rw [← hk]
    split
    · split
      · split <;> omega
      · omega
    · omega
  refine ok_bind.mpr (ok_some.mpr (ok_zg.mpr ⟨⟨by omega, by omega⟩, ok_ite.mpr ⟨fun c => ?_, fun c => RF k (by omega)⟩⟩))
  have hh : (0 ≤ v ∧ v ≤ 2) ∧ 1 ≤ w ∧ w ≤ 1500 := by omega
  refine ok_zg.mpr ⟨hv, ok_ite.mpr ⟨fun _ => ok_zg.mpr ⟨hv, ok_ite.mpr ⟨fun _ => ?_, fun _ => ?_⟩⟩, fun _ => ?_⟩⟩
  · exact mew_L hv hf zF w 1 2 (by omega) (by omega) (by omega) (by omega) (by rw [zF_eq]; omega) (by omega) (by omega)
  · exact mew_L hv hf zF w 1 fig (by omega) (by omega) (by omega) (by omega) (by rw [zF_eq]; omega) (by omega) (by omega)
  · refine ok_bind.mpr (mlucky.mono (fun r hr => ?_))
    obtain ⟨r1, r2, r3⟩ := r
    have e := hr.2 w (by omega) (by omega)
    dsimp only at e
    exact ok_zg.mpr ⟨⟨by omega, by omega⟩, ok_zg.mpr ⟨⟨by omega, by omega⟩, ok_ite.mpr ⟨fun _ => ok_some.mpr trivial, fun _ => ok_zg.mpr ⟨⟨by omega, by omega⟩, ok_some.mpr trivial⟩⟩⟩⟩
theorem mpw47 {v3 : Int} (h : 0 ≤ v3 ∧ v3 ≤ 100) : ∀ (n : Nat) (v4 : Int) (s : Int → Int), 0 ≤ v4 → v4 ≤ v3 → v3 - v4 < n → ok (f_X11_powers_L47 n v3 v4 s) (fun _ => True) := by
  intro n
  induction n with
  | zero => intro v4 s a1 a2 a3; exact absurd a3 (by omega)
  | succ n ih =>
    intro v4 s a1 a2 a3
    rw [f_X11_powers_L47_s]
    exact ok_zg.mpr ⟨⟨⟨by omega, by omega⟩, ⟨by omega, by omega⟩⟩, ok_ite.mpr ⟨fun _ => ok_some.mpr trivial, fun c => ok_zg.mpr ⟨⟨by omega, by omega⟩, ih (v4 + 1) _ (by omega) (by omega) (by omega)⟩⟩⟩
theorem mpw88 {v3 v4 : Int} (h : 0 ≤ v3 ∧ v3 ≤ 100) (h4 : 2 ≤ v4 ∧ v4 ≤ 5) : ∀ (n : Nat) (v5 v6 v7 : Int) (s : Int → Int), 0 ≤ v5 → v5 ≤ v7 → v7 ≤ v3 → v3 - v7 < n → ok (f_X11_powers_L88 n v3 v4 v5 v6 v7 s) (fun r => 0 ≤ r.1 ∧ r.1 ≤ v3) := by
  intro n
  induction n with
  | zero => intro v5 v6 v7 s a1 a2 a3 a4; exact absurd a4 (by omega)
  | succ n ih =>
    intro v5 v6 v7 s a1 a2 a3 a4
    rw [f_X11_powers_L88_s]
    have m1 := Int.emod_nonneg (v7 + 1) (show v4 ≠ 0 by omega)
    have m2 := Int.emod_lt_of_pos (v7 + 1) (show 0 < v4 by omega)
    exact ok_zg.mpr ⟨⟨⟨by omega, by omega⟩, ⟨by omega, by omega⟩⟩, ok_ite.mpr ⟨fun _ => ok_some.mpr ⟨a1, by dsimp only; omega⟩, fun c => ok_zg.mpr ⟨⟨by omega, by omega, by omega, by omega⟩, ok_zg.mpr ⟨⟨by omega, by omega⟩, ok_ite.mpr ⟨fun _ => ih v5 v6 (v7 + 1) s a1 (by omega) (by omega) (by omega), fun _ => ok_zg.mpr ⟨⟨by omega, by omega⟩, ok_zg.mpr ⟨⟨by omega, by omega⟩, ih (v5 + 1) _ (v7 + 1) _ (by omega) (by omega) (by omega) (by omega)⟩⟩⟩⟩⟩⟩⟩
theorem mpw73 : ∀ (n : Nat) (v3 v4 : Int) (s : Int → Int), 0 ≤ v3 → v3 ≤ 100 → 1 ≤ v4 → v4 ≤ 5 → v4 ≤ n → ok (f_X11_powers_L73 n v3 v4 s) (fun _ => True) := by
  intro n
  induction n with
  | zero => intro v3 v4 s a1 a2 a3 a4 a5; exact absurd a5 (by omega)
  | succ n ih =>
    intro v3 v4 s a1 a2 a3 a4 a5
    rw [f_X11_powers_L73_s]
    refine ok_zg.mpr ⟨⟨by omega, by omega⟩, ok_ite.mpr ⟨fun _ => ok_some.mpr trivial, fun c => ?_⟩⟩
    refine ok_bind.mpr ((mpw88 ⟨a1, a2⟩ ⟨by omega, a4⟩ zF 0 0 0 s (by omega) (by omega) a1 (by rw [zF_eq]; omega)).mono (fun r hr => ?_))
    obtain ⟨r1, r2⟩ := r
    dsimp only at hr
    exact ih r1 (v4 + -1) r2 hr.1 (by omega) (by omega) (by omega) (by omega)
theorem mpowers {v w th : Int} {R s : Int → Int} (hv : zR v) (hw : zR w) : ok (f_X11_powers v w th R s) (fun _ => True) := by
  have RF : ∀ k : Int, -7 < k ∧ k ≤ 0 → ok ((f_X11_refuse k R).bind (fun (r_1, t_refusals_2) => some (r_1, (0 : Int), t_refusals_2, s))) (fun _ => True) := fun k hk => ok_bind.mpr ((mref hk R).mono (fun r _ => by obtain ⟨r1, r2⟩ := r; exact ok_some.mpr trivial))
  unfold f_X11_powers f_X11_powers_J15 f_X11_powers_J33
  refine ok_zg.mpr ⟨hv, ok_ite.mpr ⟨fun _ => RF (-4) (by omega), fun c1 => ok_zg.mpr ⟨hw, ok_ite.mpr ⟨fun c2 => ok_zg.mpr ⟨hv, ok_ite.mpr ⟨fun _ => RF (-6) (by omega), fun c3 => ok_zg.mpr ⟨hw, ok_ite.mpr ⟨fun c4 => ?_, fun _ => RF (-6) (by omega)⟩⟩⟩⟩, fun _ => RF (-4) (by omega)⟩⟩⟩⟩
  have m : v * w ≤ 5 * 20 := Int.mul_le_mul (by omega) c4 (by omega) (by omega)
  have m0 : 0 ≤ v * w := Int.mul_nonneg (by omega) (by omega)
  refine ok_bind.mpr ((mpw47 ⟨m0, by omega⟩ zF 0 s (by omega) m0 (by rw [zF_eq]; omega)).mono (fun s1 _ => ok_bind.mpr ?_))
  exact (mpw73 zF (v * w) v s1 m0 (by omega) (by omega) (by omega) (by rw [zF_eq]; omega)).mono (fun s2 _ => ok_zg.mpr ⟨⟨by omega, by omega⟩, ok_some.mpr trivial⟩)
