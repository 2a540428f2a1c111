/-! the small calls, on both sides -/
def LT (lc : Int) (signs : Int → Int) (lm : Int) (letters : Int → Int) : Prop := lm = lc ∧ LI lc signs ∧ eqr 0 lc signs letters
theorem LT.li {lc lm : Int} {signs letters : Int → Int} (h : LT lc signs lm letters) : LI lc signs := h.2.1
theorem p_feed {v lc lm th : Int} {signs letters R R' : Int → Int} (hv : zR v) (h : LT lc signs lm letters) : ∃ a R2 s2 c2 t2 R3 l2 m2, f_X10_feed v R signs lc = some (a, R2, s2, c2) ∧ f_X11_feed v th R' letters lm = some (a, t2, R3, l2, m2) ∧ LT c2 s2 m2 l2 := by
  obtain ⟨rfl, h2, h3⟩ := h
  have hc := h2.1
  have RF : ∀ k : Int, 1 ≤ k ∧ k < 7 → ∃ R2 R3, f_X10_refuse k R = some (-k, R2) ∧ f_X11_refuse (-k) R' = some (-k, R3) := by
    intro k hk
    obtain ⟨⟨x1, x2⟩, y1, y2⟩ := xref (v := k) (by omega) R
    obtain ⟨⟨x3, x4⟩, y3, y4⟩ := mref (v := -k) (by omega) R'
    dsimp only at y2 y4
    exact ⟨x2, x4, by rw [y1, y2], by rw [y3, y4]⟩
  obtain ⟨A2, A3, hA2, hA3⟩ := RF 6 (by omega)
  obtain ⟨B2, B3, hB2, hB3⟩ := RF 4 (by omega)
  unfold f_X10_feed f_X11_feed f_X10_feed_J29 f_X11_feed_J32
  rw [hA2, hB2, hA3, hB3]
  simp only [zg_pos hv, Option.bind_some, zg_pos (show zR lm from ⟨by omega, by omega⟩)]
  by_cases c1 : 0 ≤ v
  · rw [if_pos c1, if_pos c1]
    by_cases c2 : 255 < v
    · rw [if_pos c2, if_pos c2]
      exact ⟨_, _, _, _, _, _, _, _, rfl, rfl, rfl, h2, h3⟩
    · rw [if_neg c2, if_neg c2]
      by_cases c3 : lm < 48
      · unfold f_X4_append
        rw [if_pos c3, if_pos (show ¬ lm = 48 by omega), zg_pos (p := zR lm) ⟨by omega, by omega⟩, if_neg (show ¬ 48 ≤ lm by omega), zg_pos (p := 0 ≤ lm ∧ lm < 48) ⟨by omega, by omega⟩, zg_pos (p := 0 ≤ lm ∧ lm < 48) ⟨by omega, by omega⟩, Option.bind_some]
        dsimp only
        refine ⟨_, _, _, _, _, _, _, _, rfl, rfl, rfl, ⟨⟨by omega, by omega⟩, fun i p q => ?_⟩, fun i p q => ?_⟩
        · by_cases e : i = lm
          · rw [e, zup_same]; omega
          · rw [zup_ne e]; exact h2.2 i p (by omega)
        · by_cases e : i = lm
          · rw [e, zup_same, zup_same]
          · rw [zup_ne e, zup_ne e]; exact h3 i p (by omega)
      · rw [if_neg c3, if_neg (show ¬ ¬ lm = 48 by omega)]
        exact ⟨_, _, _, _, _, _, _, _, rfl, rfl, rfl, h2, h3⟩
  · rw [if_neg c1, if_neg c1]
    exact ⟨_, _, _, _, _, _, _, _, rfl, rfl, rfl, h2, h3⟩
theorem p_ref {k : Int} (hk : 1 ≤ k ∧ k < 7) (R R' : Int → Int) : ∃ R2 R3, f_X10_refuse k R = some (-k, R2) ∧ f_X11_refuse (-k) R' = some (-k, R3) := by
  obtain ⟨⟨x1, x2⟩, y1, y2⟩ := xref (v := k) (by omega) R
  obtain ⟨⟨x3, x4⟩, y3, y4⟩ := mref (v := -k) (by omega) R'
  dsimp only at y2 y4
  exact ⟨x2, x4, by rw [y1, y2], by rw [y3, y4]⟩
/-- set: alike but for the answer to a KIND that is none -/
theorem p_set {v1 v2 kind fig th : Int} {R R' : Int → Int} (h1 : zR v1) (h2 : zR v2) (hk : 0 ≤ kind ∧ kind ≤ 6) (hf : 2 ≤ fig ∧ fig ≤ 9) : ∃ a R2 k2 f2 b t2 R3, f_X10_set v1 v2 R kind fig = some (a, R2, k2, f2) ∧ f_X11_set v1 v2 kind fig th R' = some (b, k2, f2, t2, R3) ∧ (0 ≤ k2 ∧ k2 ≤ 6) ∧ (2 ≤ f2 ∧ f2 ≤ 9) ∧ ((v1 = 0 ∧ ¬ (0 ≤ v2 ∧ v2 ≤ 6)) ∨ a = b) := by
  obtain ⟨A2, A3, hA2, hA3⟩ := p_ref (k := 2) (by omega) R R'
  obtain ⟨B2, B3, hB2, hB3⟩ := p_ref (k := 4) (by omega) R R'
  obtain ⟨C2, C3, hC2, hC3⟩ := p_ref (k := 6) (by omega) R R'
  have b12 : ∀ v3 : Int, zR v3 → ∃ b R3, f_X11_set_J52 v2 v3 kind fig 0 R' = some (b, kind, fig, 0, R3) ∧ b = if v3 ≤ v2 then -6 else -4 := by
    intro v3 h3
    unfold f_X11_set_J52 f_X11_set_J65
    rw [zg_pos ⟨h2, h3⟩, hB3, hC3, Option.bind_some, Option.bind_some]
    by_cases c : v3 ≤ v2
    · rw [if_pos c]; exact ⟨_, _, rfl, by rw [if_pos c]⟩
    · rw [if_neg c]; exact ⟨_, _, rfl, by rw [if_neg c]⟩
  unfold f_X10_set f_X11_set f_X10_set_J9
  rw [hA2, hA3, min_ h1 ⟨by omega, by omega⟩ ⟨by omega, by omega⟩]
  simp only [zg_pos h1, Option.bind_some]
  rw [zg10n]
  by_cases c1 : v1 < 0
  · rw [if_pos c1, if_neg (by omega)]
    exact ⟨_, _, _, _, _, _, _, rfl, rfl, hk, hf, Or.inr rfl⟩
  rw [if_neg c1]
  by_cases c2 : v1 ≤ 1
  · rw [if_pos c2, if_pos (show 0 ≤ v1 ∧ v1 ≤ 1 by omega)]
    by_cases c3 : v1 = 0
    · rw [if_neg (show ¬ ¬ v1 = 0 from fun q => q c3), if_neg (show ¬ ¬ v1 = 0 from fun q => q c3)]
      subst c3
      unfold f_X10_setKind f_X11_set_J31
      rw [xkind h2, Option.bind_some, zg10n, hA2, Option.bind_some, zg_pos ⟨h2, ⟨by omega, by omega⟩⟩]
      obtain ⟨b, R3, hb, -⟩ := b12 0 ⟨by omega, by omega⟩
      by_cases c4 : 0 ≤ v2 ∧ v2 ≤ 6
      · rw [if_pos c4, if_neg (show ¬ v2 < 0 by omega), zg_pos ⟨by omega, by omega⟩, if_neg (show ¬ ¬ (0 : Int) = 0 from fun q => q rfl)]
        unfold f_X11_set_J49 f_X11_set_J84 f_X11_set_J99
        simp only [zg_pos (show zR v2 ∧ zR 6 from ⟨h2, ⟨by omega, by omega⟩⟩), zg_pos (show zR (0 : Int) from ⟨by omega, by omega⟩), if_pos c4.2, Option.bind_some]
        simp only [not_true_eq_false, if_false, show ¬ (0 : Int) = 1 by decide, not_false_eq_true, if_true]
        exact ⟨_, _, _, _, _, _, _, rfl, rfl, c4, hf, Or.inr rfl⟩
      · rw [if_neg c4]
        by_cases c5 : v2 < 0
        · rw [if_pos c5, hb]
          exact ⟨_, _, _, _, _, _, _, rfl, rfl, hk, hf, Or.inl ⟨rfl, c4⟩⟩
        · rw [if_neg c5, zg_pos ⟨by omega, by omega⟩, if_neg (show ¬ ¬ (0 : Int) = 0 from fun q => q rfl)]
          unfold f_X11_set_J49
          rw [zg_pos ⟨h2, ⟨by omega, by omega⟩⟩, if_neg (show ¬ v2 ≤ 6 by omega), hb]
          exact ⟨_, _, _, _, _, _, _, rfl, rfl, hk, hf, Or.inl ⟨rfl, c4⟩⟩
    · rw [if_pos c3, if_pos c3]
      unfold f_X10_setFigure f_X11_set_J31
      obtain ⟨b, R3, hb, hb2⟩ := b12 2 ⟨by omega, by omega⟩
      rw [hB2, hC2]
      simp only [zg_pos h2, zg_pos h1, Option.bind_some, zg_pos (show zR v2 ∧ zR 2 from ⟨h2, ⟨by omega, by omega⟩⟩)]
      by_cases c4 : 2 ≤ v2
      · rw [if_pos c4, if_neg (show ¬ v2 < 2 by omega), if_pos c3]
        unfold f_X11_set_J49
        rw [zg_pos ⟨h2, ⟨by omega, by omega⟩⟩]
        by_cases c5 : v2 ≤ 9
        · rw [if_pos c5, if_pos c5]
          unfold f_X11_set_J84 f_X11_set_J99
          simp only [zg_pos h1]
          rw [if_pos c3, if_pos c3, if_neg (show ¬ ¬ v1 = 1 by omega)]
          exact ⟨_, _, _, _, _, _, _, rfl, rfl, hk, ⟨c4, c5⟩, Or.inr rfl⟩
        · rw [if_neg c5, if_neg c5, hb]
          rw [if_pos (by omega)] at hb2
          exact ⟨_, _, _, _, _, _, _, rfl, rfl, hk, hf, Or.inr hb2.symm⟩
      · rw [if_neg c4, if_pos (show v2 < 2 by omega), hb]
        rw [if_neg (by omega)] at hb2
        exact ⟨_, _, _, _, _, _, _, rfl, rfl, hk, hf, Or.inr hb2.symm⟩
  · rw [if_neg c2, if_neg (by omega)]
    exact ⟨_, _, _, _, _, _, _, rfl, rfl, hk, hf, Or.inr rfl⟩
theorem p_step {v size there rb kind fig sc th : Int} {steps line went st ro we R R' : Int → Int} (hv : zR v) (h : SR size there rb kind fig sc steps line went st ro we) : ∃ a R2 c2 s2 st2 t2 R3, f_X10_step v R sc steps = some (a, R2, c2, s2) ∧ f_X11_step v sc st th R' = some (a, c2, st2, t2, R3) ∧ SR size there rb kind fig c2 s2 line went st2 ro we := by
  have hs := h.2.1.2.2.1
  obtain ⟨B2, B3, hB2, hB3⟩ := p_ref (k := 4) (by omega) R R'
  obtain ⟨C2, C3, hC2, hC3⟩ := p_ref (k := 6) (by omega) R R'
  unfold f_X10_step f_X11_step f_X11_step_J32
  rw [hB2, hB3, hC2, hC3, xadd hv hs]
  simp only [zg_pos hv, Option.bind_some, zg_pos (show zR sc from ⟨by omega, by omega⟩)]
  by_cases c1 : 2 ≤ v
  · rw [if_pos c1, if_pos c1]
    by_cases c2 : 9 < v
    · rw [if_pos c2, if_neg (show ¬ ((2 ≤ v ∧ v ≤ 9) ∧ sc < 8) by omega)]
      dsimp only
      rw [zg_pos ⟨by omega, by omega⟩, if_neg (show ¬ ¬ (0 : Int) = 0 from fun q => q rfl)]
      exact ⟨_, _, _, _, _, _, _, rfl, rfl, h⟩
    · rw [if_neg c2]
      by_cases c3 : sc < 8
      · rw [if_pos (show (2 ≤ v ∧ v ≤ 9) ∧ sc < 8 by omega), if_pos (show ¬ sc = 8 by omega), zg_pos (p := 0 ≤ sc ∧ sc < 8) ⟨by omega, by omega⟩]
        dsimp only
        rw [zg_pos ⟨by omega, by omega⟩, if_pos (show ¬ (1 : Int) = 0 by decide)]
        exact ⟨_, _, _, _, _, _, _, rfl, rfl, h.step (by omega) c3⟩
      · rw [if_neg (show ¬ ((2 ≤ v ∧ v ≤ 9) ∧ sc < 8) by omega), if_neg (show ¬ ¬ sc = 8 by omega)]
        dsimp only
        rw [zg_pos ⟨by omega, by omega⟩, if_neg (show ¬ ¬ (0 : Int) = 0 from fun q => q rfl)]
        exact ⟨_, _, _, _, _, _, _, rfl, rfl, h⟩
  · rw [if_neg c1, if_neg c1]
    exact ⟨_, _, _, _, _, _, _, rfl, rfl, h⟩
theorem p_swap {v w size there rb kind fig sc th : Int} {steps line went st ro we R R' : Int → Int} (hv : zR v) (hw : zR w) (h : SR size there rb kind fig sc steps line went st ro we) : ∃ a R2 l2 r2 t2 R3, f_X10_swap v w R size there rb line = some (a, R2, l2) ∧ f_X11_swap v w size there rb ro th R' = some (a, r2, t2, R3) ∧ SR size there rb kind fig sc steps l2 went st r2 we := by
  have b1 := h.1.1
  have b3 := h.1.2.2.1
  obtain ⟨B2, B3, hB2, hB3⟩ := p_ref (k := 1) (by omega) R R'
  obtain ⟨C2, C3, hC2, hC3⟩ := p_ref (k := 3) (by omega) R R'
  have zs : zR size := ⟨by omega, by omega⟩
  unfold f_X10_swap f_X11_swap f_X10_swap_J27 f_X11_swap_J26
  rw [hB2, hB3, hC2, hC3, xhas hv zs, xhas hw zs, mnum hv zs, mnum hw zs]
  simp only [Option.bind_some]
  rw [zg10, zg10, zg10, zg10]
  by_cases c1 : 1 ≤ v ∧ v ≤ size
  · rw [if_pos c1, if_pos c1]
    by_cases c2 : 1 ≤ w ∧ w ≤ size
    · rw [if_pos c2, if_pos c2, zg_pos ⟨hv, hw⟩, zg_pos ⟨hv, hw⟩]
      by_cases c3 : v = w
      · rw [if_neg (show ¬ ¬ v = w from fun q => q c3), if_neg (show ¬ ¬ v = w from fun q => q c3)]
        exact ⟨_, _, _, _, _, _, rfl, rfl, h⟩
      · rw [if_pos c3, if_pos c3, zg_pos (p := zR rb) ⟨by omega, by omega⟩]
        obtain ⟨r, hr, hr2⟩ := xchange h.1 (by omega) hv hw
        rw [hr, Option.bind_some]
        rcases hr2 with ⟨n, rfl⟩ | ⟨y, l', rfl, hs⟩
        · rw [if_neg (show ¬ rb ≤ 0 from fun q => n ⟨c1, c2, c3, q⟩)]
          dsimp only
          rw [zg_pos ⟨by omega, by omega⟩, if_neg (show ¬ ¬ (0 : Int) = 0 from fun q => q rfl)]
          exact ⟨_, _, _, _, _, _, rfl, rfl, h⟩
        · obtain ⟨m', hm, hm2⟩ := mchange h.mri hv hw y
          rw [if_pos y.2.2.2, hm, Option.bind_some]
          dsimp only
          rw [zg_pos ⟨by omega, by omega⟩, if_pos (show ¬ (1 : Int) = 0 by decide)]
          exact ⟨_, _, _, _, _, _, rfl, rfl, hs.ri h.1 y.2.2.1, h.2.1, h.2.2.1, hs.same h.1 h.2.2.2.1 hm2, h.2.2.2.2⟩
    · rw [if_neg c2, if_neg c2]
      exact ⟨_, _, _, _, _, _, rfl, rfl, h⟩
  · rw [if_neg c1, if_neg c1]
    exact ⟨_, _, _, _, _, _, rfl, rfl, h⟩
theorem SR.hl {size there rb kind fig sc : Int} {steps line went st ro we : Int → Int} (h : SR size there rb kind fig sc steps line went st ro we) : ∀ i, 0 ≤ i → i < there → 1 ≤ line i ∧ line i ≤ 120 := fun i p q => by
  have := h.1.2.2.2.1 i p q
  have := h.1.1
  omega
theorem SR.ml {size there rb kind fig sc : Int} {steps line went st ro we : Int → Int} (h : SR size there rb kind fig sc steps line went st ro we) : ∀ i, 0 ≤ i → i < there → 1 ≤ ro i ∧ ro i ≤ 120 := fun i p q => by
  rw [← h.2.2.2.1 i p q]; exact h.hl i p q
theorem SR.t {size there rb kind fig sc : Int} {steps line went st ro we : Int → Int} (h : SR size there rb kind fig sc steps line went st ro we) : 0 ≤ there ∧ there ≤ 120 := by
  have := h.1.1
  have := h.1.2.1
  omega
theorem p_next {size there rb kind fig sc th : Int} {steps line went st ro we : Int → Int} (h : SR size there rb kind fig sc steps line went st ro we) : ∃ a t2, f_X10_next there rb kind fig sc steps line = some a ∧ f_X11_next there rb kind fig sc st ro th = some (a, t2) := by
  have b3 := h.1.2.2.1
  unfold f_X10_next f_X11_next
  rw [xstriker h.2.1.1, Option.bind_some, xct h.2.1 h.t h.hl ⟨by omega, by omega⟩, mct h.mpi h.t h.ml ⟨by omega, by omega⟩, Option.bind_some, Option.bind_some, CT_congr h.2.2.1 h.2.2.2.1 (by omega)]
  exact ⟨_, _, rfl, rfl⟩
theorem RI.bound {B C size there rb : Int} {line went : Int → Int} (h : RI B size there rb line went) (hc : rb ≤ C) : RI C size there rb line went := by
  obtain ⟨a1, a2, a3, a⟩ := h
  exact ⟨a1, a2, ⟨a3.1, hc⟩, a⟩
theorem p_round {size there rb kind fig sc th : Int} {steps line gone went st ro we R R' g' : Int → Int} (h : SR size there rb kind fig sc steps line went st ro we) : ∃ a R2 th2 rb2 l2 g2 w2 r2 e2 t2 R3 g3, f_X10_round R size there rb kind fig sc steps line gone went = some (a, R2, th2, rb2, l2, g2, w2) ∧ f_X11_round there rb kind fig sc st ro we th R' g' = some (a, th2, rb2, r2, e2, t2, R3, g3) ∧ SR size th2 rb2 kind fig sc steps l2 w2 st r2 e2 := by
  have b3 := h.1.2.2.1
  obtain ⟨B2, B3, hB2, hB3⟩ := p_ref (k := 6) (by omega) R R'
  unfold f_X10_round f_X11_round
  rw [hB2, hB3, zg_pos (p := zR rb) ⟨by omega, by omega⟩, zg_pos (p := zR rb) ⟨by omega, by omega⟩]
  by_cases c : rb < 999
  · rw [if_pos c, if_pos (show ¬ rb = 999 by omega), xstriker h.2.1.1, Option.bind_some]
    obtain ⟨⟨r1, r2, r3, r4, r5, r6⟩, hr, q1, q2⟩ := xround (gone := gone) h.1 (by omega) h.2.1
    obtain ⟨⟨s1, s2, s3, s4, s5, s6⟩, hs, q3, q4, -⟩ := mround (gone := g') h.mri (by omega) h.mpi
    rw [hr, hs, Option.bind_some, Option.bind_some]
    dsimp only at q1 q2 q3 q4 ⊢
    obtain ⟨k1, k2⟩ := q2
    obtain ⟨k3, k4⟩ := q4
    rw [← CT_congr h.2.2.1 h.2.2.2.1 (by omega)] at k4
    obtain ⟨e1, e2, e3⟩ := SK.same h.1 h.2.2.2.1 h.2.2.2.2 k2 k4
    have hri := SK.ri (RI.bound (C := 998) h.1 (by omega)) k2
    refine ⟨r1, R, r2, r3, r4, r5, r6, s4, s5, 0, R', s6, rfl, ?_, ?_⟩
    · rw [q3, q1, ← e1, k1, k3]
    · rw [k1]
      exact ⟨hri.widen (by omega), h.2.1, h.2.2.1, e2, e3⟩
  · rw [if_neg c, if_neg (show ¬ ¬ rb = 999 by omega)]
    exact ⟨_, _, _, _, _, _, _, _, _, _, _, _, rfl, rfl, h⟩
theorem p_left {v size there rb kind fig sc th : Int} {steps line went st ro we R R' : Int → Int} (hv : zR v) (h : SR size there rb kind fig sc steps line went st ro we) : ∃ a R2 t2 R3, f_X10_left v R there line = some (a, R2) ∧ f_X11_left v there ro th R' = some (a, t2, R3) := by
  have ht := h.t
  obtain ⟨B2, B3, hB2, hB3⟩ := p_ref (k := 4) (by omega) R R'
  unfold f_X10_left f_X11_left
  rw [hB2, hB3, zg_pos hv, zg_pos hv]
  by_cases c1 : 1 ≤ v
  · rw [if_pos c1, if_pos c1, xnum ⟨by omega, by omega⟩ ht, zg_pos (p := zR v ∧ zR there) ⟨hv, ⟨by omega, by omega⟩⟩, Option.bind_some]
    by_cases c2 : there < v
    · rw [if_pos c2, if_neg (by omega)]
      exact ⟨_, _, _, _, rfl, rfl⟩
    · rw [if_neg c2, if_pos (by omega), zg_pos ⟨by omega, by omega⟩, h.2.2.2.1 (v - 1) (by omega) (by omega)]
      exact ⟨_, _, _, _, rfl, rfl⟩
  · rw [if_neg c1, if_neg c1]
    exact ⟨_, _, _, _, rfl, rfl⟩
theorem mplace_L {v there : Int} {line : Int → Int} (hv : zR v) (ht : 0 ≤ there ∧ there ≤ 120) (hl : ∀ i, 0 ≤ i → i < there → zR (line i)) : ∀ (n : Nat) (i : Int), 0 ≤ i → i ≤ there → there - i < n → ok (f_X11_placeNow_L2 n v i there line) (fun r => (r = -9 ∧ ∀ j, i ≤ j → j < there → line j ≠ v) ∨ (i + 1 ≤ r ∧ r ≤ there ∧ line (r - 1) = v ∧ ∀ j, i ≤ j → j < r - 1 → line j ≠ v)) := by
  intro n
  induction n with
  | zero => intro i h0 h1 h2; exact absurd h2 (by omega)
  | succ n ih =>
    intro i h0 h1 h2
    rw [f_X11_placeNow_L2_s]
    refine ok_zg.mpr ⟨⟨⟨by omega, by omega⟩, ⟨by omega, by omega⟩⟩, ok_ite.mpr ⟨fun c => ok_some.mpr (Or.inl ⟨rfl, fun j p q => absurd q (by omega)⟩), fun c => ?_⟩⟩
    refine ok_zg.mpr ⟨⟨by omega, by omega⟩, ok_zg.mpr ⟨⟨hl i h0 (by omega), hv⟩, ok_ite.mpr ⟨fun c2 => ?_, fun c2 => ?_⟩⟩⟩
    · refine (ih (i + 1) (by omega) (by omega) (by omega)).mono (fun r hr => ?_)
      rcases hr with ⟨r1, r2⟩ | ⟨r1, r2, r3, r4⟩
      · left
        refine ⟨r1, fun j p q => ?_⟩
        by_cases hj : j = i
        · rw [hj]; exact c2
        · exact r2 j (by omega) q
      · right
        refine ⟨by omega, r2, r3, fun j p q => ?_⟩
        by_cases hj : j = i
        · rw [hj]; exact c2
        · exact r4 j (by omega) q
    · refine ok_some.mpr (Or.inr ⟨by omega, by omega, ?_, fun j p q => absurd q (by omega)⟩)
      rw [show i + 1 - 1 = i by omega]
      exact Decidable.of_not_not c2
theorem mplace {v there : Int} {line : Int → Int} (hv : zR v) (ht : 0 ≤ there ∧ there ≤ 120) (hl : ∀ i, 0 ≤ i → i < there → zR (line i)) : ok (f_X11_placeNow v there line) (fun r => (r = -9 ∧ ∀ j, 0 ≤ j → j < there → line j ≠ v) ∨ (1 ≤ r ∧ r ≤ there ∧ line (r - 1) = v ∧ ∀ j, 0 ≤ j → j < r - 1 → line j ≠ v)) := by
  unfold f_X11_placeNow
  exact mplace_L hv ht hl zF 0 (by omega) (by omega) (by rw [zF_eq]; omega)
/-- the place where one stands is the same on both sides -/
theorem place_eq {v there r r' : Int} {line row : Int → Int} (e : eqr 0 there line row) (h : (r = -9 ∧ ∀ j, 0 ≤ j → j < there → line j ≠ v) ∨ (1 ≤ r ∧ r ≤ there ∧ line (r - 1) = v ∧ ∀ j, 0 ≤ j → j < r - 1 → line j ≠ v)) (h' : (r' = -9 ∧ ∀ j, 0 ≤ j → j < there → row j ≠ v) ∨ (1 ≤ r' ∧ r' ≤ there ∧ row (r' - 1) = v ∧ ∀ j, 0 ≤ j → j < r' - 1 → row j ≠ v)) : r = r' := by
  rcases h with ⟨a1, a2⟩ | ⟨a1, a2, a3, a4⟩
  · rcases h' with ⟨b1, b2⟩ | ⟨b1, b2, b3, b4⟩
    · omega
    · exact absurd (by rw [e (r' - 1) (by omega) (by omega)]; exact b3) (a2 (r' - 1) (by omega) (by omega))
  · rcases h' with ⟨b1, b2⟩ | ⟨b1, b2, b3, b4⟩
    · exact absurd (by rw [← e (r - 1) (by omega) (by omega)]; exact a3) (b2 (r - 1) (by omega) (by omega))
    · by_cases c : r < r'
      · exact absurd (by rw [← e (r - 1) (by omega) (by omega)]; exact a3) (b4 (r - 1) (by omega) (by omega))
      · by_cases c2 : r' < r
        · exact absurd (by rw [e (r' - 1) (by omega) (by omega)]; exact b3) (a4 (r' - 1) (by omega) (by omega))
        · omega
theorem z_of {there : Int} {line : Int → Int} (h : ∀ i, 0 ≤ i → i < there → 1 ≤ line i ∧ line i ≤ 120) : ∀ i, 0 ≤ i → i < there → zR (line i) := fun i p q => by
  have := h i p q
  exact ⟨by omega, by omega⟩
theorem p_place {v size there rb kind fig sc th : Int} {steps line went st ro we R R' : Int → Int} (hv : zR v) (h : SR size there rb kind fig sc steps line went st ro we) : ∃ a R2 t2 R3, f_X10_place v R size there line = some (a, R2) ∧ f_X11_place v size there ro th R' = some (a, t2, R3) := by
  have b1 := h.1.1
  obtain ⟨B2, B3, hB2, hB3⟩ := p_ref (k := 1) (by omega) R R'
  have zs : zR size := ⟨by omega, by omega⟩
  unfold f_X10_place f_X11_place
  rw [hB2, hB3, xhas hv zs, mnum hv zs]
  simp only [Option.bind_some]
  rw [zg10, zg10n]
  by_cases c1 : 1 ≤ v ∧ v ≤ size
  · rw [if_pos c1, if_pos c1]
    obtain ⟨r, hr, hr2⟩ := xplace (line := line) hv h.t (z_of h.hl)
    obtain ⟨r', hr', hr2'⟩ := mplace (line := ro) hv h.t (z_of h.ml)
    rw [hr, hr', Option.bind_some, Option.bind_some, place_eq h.2.2.2.1 hr2 hr2']
    exact ⟨_, _, _, _, rfl, rfl⟩
  · rw [if_neg c1, if_neg c1]
    exact ⟨_, _, _, _, rfl, rfl⟩
def TL (tc : Int) (told : Int → Int) (tm : Int) (toldm : Int → Int) : Prop := tm = tc ∧ (0 ≤ tc ∧ tc ≤ 24) ∧ (∀ i, 0 ≤ i → i < tc → 1 ≤ told i ∧ told i ≤ 120) ∧ eqr 0 tc told toldm
theorem p_tell {v tc tm th : Int} {told toldm R R' : Int → Int} (hv : zR v) (h : TL tc told tm toldm) : ∃ a s2 c2 R2 t2 R3 l2 m2, f_X10_tell v told tc R = some (a, s2, c2, R2) ∧ f_X11_tell v th R' toldm tm = some (a, t2, R3, l2, m2) ∧ TL c2 s2 m2 l2 := by
  obtain ⟨rfl, h1, h2, h3⟩ := h
  obtain ⟨A2, A3, hA2, hA3⟩ := p_ref (k := 6) (by omega) R R'
  obtain ⟨B2, B3, hB2, hB3⟩ := p_ref (k := 4) (by omega) R R'
  unfold f_X10_tell f_X11_tell f_X10_tell_J26 f_X11_tell_J32
  rw [hA2, hB2, hA3, hB3]
  simp only [zg_pos hv, Option.bind_some, zg_pos (show zR tm from ⟨by omega, by omega⟩)]
  by_cases c1 : 1 ≤ v
  · rw [if_pos c1, if_pos c1]
    by_cases c2 : 120 < v
    · rw [if_pos c2, if_pos c2]
      exact ⟨_, _, _, _, _, _, _, _, rfl, rfl, rfl, h1, h2, h3⟩
    · rw [if_neg c2, if_neg c2]
      by_cases c3 : tm < 24
      · rw [if_pos c3, if_pos (show ¬ tm = 24 by omega), zg_pos (p := 0 ≤ tm ∧ tm < 24) ⟨by omega, by omega⟩, zg_pos (p := 0 ≤ tm ∧ tm < 24) ⟨by omega, by omega⟩]
        refine ⟨_, _, _, _, _, _, _, _, rfl, rfl, rfl, ⟨by omega, by omega⟩, fun i p q => ?_, fun i p q => ?_⟩
        · by_cases e : i = tm
          · rw [e, zup_same]; omega
          · rw [zup_ne e]; exact h2 i p (by omega)
        · by_cases e : i = tm
          · rw [e, zup_same, zup_same]
          · rw [zup_ne e, zup_ne e]; exact h3 i p (by omega)
      · rw [if_neg c3, if_neg (show ¬ ¬ tm = 24 by omega)]
        exact ⟨_, _, _, _, _, _, _, _, rfl, rfl, rfl, h1, h2, h3⟩
  · rw [if_neg c1, if_neg c1]
    exact ⟨_, _, _, _, _, _, _, _, rfl, rfl, rfl, h1, h2, h3⟩
theorem TL.nil {told toldm : Int → Int} : TL 0 told 0 toldm := ⟨rfl, ⟨by omega, by omega⟩, fun i p q => absurd q (by omega), fun i p q => absurd q (by omega)⟩
/-- judging: how far the told ones fit -/
theorem xjudge_L {k there tc : Int} {told line : Int → Int} (hk : 0 ≤ k ∧ k ≤ 24 ∧ k ≤ 120) (ht : ∀ i, 0 ≤ i → i < k → zR (told i)) (hl : ∀ i, 0 ≤ i → i < k → zR (line i)) : ∀ (n : Nat) (i : Int), 0 ≤ i → i ≤ k → k - i < n → ok (f_X10_judge_L17 n k i told line) (fun r => i ≤ r ∧ r ≤ k ∧ (∀ j, i ≤ j → j < r → told j = line j) ∧ (r < k → told r ≠ line r)) := by
  intro n
  induction n with
  | zero => intro i h0 h1 h2; exact absurd h2 (by omega)
  | succ n ih =>
    intro i h0 h1 h2
    rw [f_X10_judge_L17_s]
    refine ok_zg.mpr ⟨⟨⟨by omega, by omega⟩, ⟨by omega, by omega⟩⟩, ok_ite.mpr ⟨fun c => ok_some.mpr ⟨Int.le_refl _, h1, fun j p q => absurd q (by omega), fun q => absurd q (by omega)⟩, fun c => ?_⟩⟩
    refine ok_zg.mpr ⟨⟨by omega, by omega⟩, ok_zg.mpr ⟨⟨by omega, by omega⟩, ok_zg.mpr ⟨⟨ht i h0 (by omega), hl i h0 (by omega)⟩, ok_ite.mpr ⟨fun c2 => ok_some.mpr ⟨Int.le_refl _, h1, fun j p q => absurd q (by omega), fun _ => c2⟩, fun c2 => ?_⟩⟩⟩⟩
    refine (ih (i + 1) (by omega) (by omega) (by omega)).mono (fun r hr => ⟨by omega, hr.2.1, fun j p q => ?_, hr.2.2.2⟩)
    by_cases e : j = i
    · rw [e]; exact Decidable.of_not_not c2
    · exact hr.2.2.1 j (by omega) q
theorem mjudge_L {tc there th tm : Int} {told row : Int → Int} (h1 : 0 ≤ tc ∧ tc ≤ 24) (h2 : 0 ≤ there ∧ there ≤ 120) (ht : ∀ i, 0 ≤ i → i < tc → zR (told i)) (hl : ∀ i, 0 ≤ i → i < there → zR (row i)) : ∀ (n : Nat) (i : Int), 0 ≤ i → i ≤ tc → i ≤ there → there - i < n → ok (f_X11_judge_L17 n tc i there row th told tm) (fun r => r.2 = (th, tm) ∧ ∃ k, i ≤ k ∧ k ≤ tc ∧ k ≤ there ∧ (∀ j, i ≤ j → j < k → told j = row j) ∧ ((k = there ∧ r.1 = if tc ≤ there then -9 else there) ∨ (k < there ∧ (k = tc ∨ (k < tc ∧ told k ≠ row k)) ∧ r.1 = k))) := by
  intro n
  induction n with
  | zero => intro i h0 h1 h2 h3; exact absurd h3 (by omega)
  | succ n ih =>
    intro i h0 h3 h4 h5
    rw [f_X11_judge_L17_s]
    refine ok_zg.mpr ⟨⟨⟨by omega, by omega⟩, ⟨by omega, by omega⟩⟩, ok_ite.mpr ⟨fun c => ?_, fun c => ?_⟩⟩
    · refine ok_zg.mpr ⟨⟨⟨by omega, by omega⟩, ⟨by omega, by omega⟩⟩, ok_ite.mpr ⟨fun c2 => ok_some.mpr ⟨rfl, i, Int.le_refl _, h3, h4, fun j p q => absurd q (by omega), Or.inl ⟨by omega, by rw [if_pos c2]⟩⟩, fun c2 => ok_some.mpr ⟨rfl, i, Int.le_refl _, h3, h4, fun j p q => absurd q (by omega), Or.inl ⟨by omega, by rw [if_neg c2]⟩⟩⟩⟩
    · refine ok_zg.mpr ⟨⟨⟨by omega, by omega⟩, ⟨by omega, by omega⟩⟩, ok_ite.mpr ⟨fun c2 => ok_some.mpr ⟨rfl, i, Int.le_refl _, h3, h4, fun j p q => absurd q (by omega), Or.inr ⟨by omega, Or.inl c2, rfl⟩⟩, fun c2 => ?_⟩⟩
      refine ok_zg.mpr ⟨⟨by omega, by omega⟩, ok_zg.mpr ⟨⟨by omega, by omega⟩, ok_zg.mpr ⟨⟨ht i h0 (by omega), hl i h0 (by omega)⟩, ok_ite.mpr ⟨fun c3 => ?_, fun c3 => ok_some.mpr ⟨rfl, i, Int.le_refl _, h3, h4, fun j p q => absurd q (by omega), Or.inr ⟨by omega, Or.inr ⟨by omega, c3⟩, rfl⟩⟩⟩⟩⟩⟩
      refine (ih (i + 1) (by omega) (by omega) (by omega) (by omega)).mono (fun r hr => ?_)
      obtain ⟨q0, k, q1, q2, q3, q4, q5⟩ := hr
      refine ⟨q0, k, by omega, q2, q3, fun j p q => ?_, q5⟩
      by_cases e : j = i
      · rw [e]; exact c3
      · exact q4 j (by omega) q
theorem p_judge {tc tm size there rb kind fig sc th : Int} {told toldm steps line went st ro we : Int → Int} (hT : TL tc told tm toldm) (h : SR size there rb kind fig sc steps line went st ro we) : ∃ a t2, f_X10_judge told tc there line = some (a, 0) ∧ f_X11_judge there ro th toldm tm = some (a, t2, 0) := by
  obtain ⟨rfl, h1, h2, h3⟩ := hT
  have ht := h.t
  have zt : zR tm ∧ zR there := ⟨⟨by omega, by omega⟩, ⟨by omega, by omega⟩⟩
  obtain ⟨k, hk⟩ : ∃ k, k = (if there < tm then there else tm) := ⟨_, rfl⟩
  have hk1 : k ≤ tm ∧ k ≤ there ∧ 0 ≤ k ∧ (k = there ∨ k = tm) := by
    rw [hk]; split <;> omega
  obtain ⟨r, x1, r1, r2, r3, r4⟩ := xjudge_L (k := k) (there := there) (tc := tm) (told := told) (line := line) ⟨by omega, by omega, by omega⟩ (fun i p q => by have := h2 i p (by omega); exact ⟨by omega, by omega⟩) (fun i p q => z_of h.hl i p (by omega)) zF 0 (by omega) (by omega) (by rw [zF_eq]; omega)
  obtain ⟨⟨a, t2, z2⟩, y1, q0, k2, q1, q2, q3, q4, q5⟩ := mjudge_L (tc := tm) (th := 0) (tm := 0) (told := toldm) (row := ro) h1 ht (fun i p q => by have := h2 i p q; rw [← h3 i p q]; exact ⟨by omega, by omega⟩) (z_of h.ml) zF 0 (by omega) (by omega) (by omega) (by rw [zF_eq]; omega)
  cases q0
  dsimp only at q5
  -- both stop at the same place
  have ek : r = k2 := by
    have e : ∀ j, 0 ≤ j → j < tm → j < there → (told j = line j ↔ toldm j = ro j) := fun j p q q' => by rw [h3 j p q, h.2.2.2.1 j p q']
    by_cases c : r < k2
    · exact absurd ((e r (by omega) (by omega) (by omega)).mpr (q4 r (by omega) c)) (r4 (by omega))
    · by_cases c2 : k2 < r
      · rcases q5 with ⟨q6, -⟩ | ⟨q6, q7, -⟩
        · omega
        · rcases q7 with q7 | ⟨q7, q8⟩
          · omega
          · exact absurd ((e k2 (by omega) (by omega) (by omega)).mp (r3 k2 (by omega) c2)) q8
      · omega
  subst ek
  unfold f_X10_judge f_X11_judge
  rw [zg_pos zt, ← hk, x1, Option.bind_some, y1]
  unfold f_X10_judge_J69 f_X10_judge_J70
  rw [zg_pos (p := zR r ∧ zR tm) ⟨⟨by omega, by omega⟩, zt.1⟩, zg_pos (p := zR r ∧ zR there) ⟨⟨by omega, by omega⟩, zt.2⟩]
  simp only [zg_pos (show zR (0 : Int) from ⟨by omega, by omega⟩), zg_pos (show zR (1 : Int) from ⟨by omega, by omega⟩), if_true, show ¬ (1 : Int) = 0 by decide, if_false]
  by_cases c1 : r = tm
  · rw [if_neg (show ¬ ¬ r = tm from fun q => q c1)]
    by_cases c2 : r = there
    · rw [if_neg (show ¬ ¬ r = there from fun q => q c2)]
      rcases q5 with ⟨q6, q7⟩ | ⟨q6, -⟩
      · rw [q7, if_pos (by omega)]; exact ⟨_, _, rfl, rfl⟩
      · omega
    · rw [if_pos c2]
      rcases q5 with ⟨q6, q7⟩ | ⟨q6, -, q7⟩
      · omega
      · rw [q7]; exact ⟨_, _, rfl, rfl⟩
  · rw [if_pos c1]
    rcases q5 with ⟨q6, q7⟩ | ⟨q6, -, q7⟩
    · rw [q7, if_neg (by omega), q6]; exact ⟨_, _, rfl, rfl⟩
    · rw [q7]; exact ⟨_, _, rfl, rfl⟩
