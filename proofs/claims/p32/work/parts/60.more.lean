/-! image, restore, behind, seeds, on both sides -/
def KP (has size there rb kind fig sc : Int) (steps line went im : Int → Int) : Prop := has = 1 → ∃ st ro we, IMG im size there rb kind fig sc st ro we ∧ SR size there rb kind fig sc steps line went st ro we
theorem p_image {has size there rb kind fig sc ks kt kr kk kf kc th pl tk ki hi : Int} {steps line gone went st ro we k1 k2 k3 k4 im : Int → Int} (h : SR size there rb kind fig sc steps line went st ro we) : ∃ s2 l2 g2 w2 t2 p2 tk2 ki2 i2, f_X10_image has size there rb kind fig sc steps line gone went ks kt kr kk kf kc k1 k2 k3 k4 = some (there, 1, size, there, rb, kind, fig, sc, s2, l2, g2, w2) ∧ f_X11_image size there rb kind fig sc st ro we th pl tk ki hi im = some (there, size, there, rb, kind, fig, sc, st, ro, we, t2, p2, tk2, ki2, 1, i2) ∧ KP 1 size there rb kind fig sc s2 l2 w2 i2 := by
  obtain ⟨r, hr, q', rfl, hI⟩ := mtake (size := size) (many := there) (rounds := rb) (kind := kind) (fig := fig) (sc := sc) (place := pl) (tk := tk) (steps := st) (row := ro) (went := we) (q := im)
  unfold f_X10_image f_X11_image f_X8_copyFrom
  rw [hr, Option.bind_some, Option.bind_some]
  exact ⟨_, _, _, _, _, _, _, _, _, rfl, rfl, fun _ => ⟨st, ro, we, hI, h.cp⟩⟩
theorem p_restore {has size there rb kind fig sc ks kt kr kk kf kc th pl tk ki : Int} {steps line gone went st ro we k1 k2 k3 k4 im R R' : Int → Int} (hh : has = 0 ∨ has = 1) (h : SR size there rb kind fig sc steps line went st ro we) (hk : KP has ks kt kr kk kf kc k1 k2 k4 im) : ∃ a R2 n1 n2 n3 n4 n5 n6 s2 l2 g2 w2 st2 ro2 we2 t2 R3 p2 tk2 ki2, f_X10_restore has R size there rb kind fig sc steps line gone went ks kt kr kk kf kc k1 k2 k3 k4 = some (a, R2, n1, n2, n3, n4, n5, n6, s2, l2, g2, w2) ∧ f_X11_restore size there rb kind fig sc st ro we th R' pl tk ki has im = some (a, n1, n2, n3, n4, n5, n6, st2, ro2, we2, t2, R3, p2, tk2, ki2, im) ∧ SR n1 n2 n3 n4 n5 n6 s2 l2 w2 st2 ro2 we2 := by
  obtain ⟨B2, B3, hB2, hB3⟩ := p_ref (k := 3) (by omega) R R'
  unfold f_X10_restore f_X11_restore f_X8_copyFrom
  rw [hB2, hB3, zg_pos (p := zR has) ⟨by omega, by omega⟩, zg_pos (p := zR has) ⟨by omega, by omega⟩]
  by_cases c : has = 0
  · rw [if_neg (show ¬ ¬ has = 0 from fun q => q c), if_neg (show ¬ ¬ has = 0 from fun q => q c)]
    exact ⟨_, _, _, _, _, _, _, _, _, _, _, _, _, _, _, _, _, _, _, _, rfl, rfl, h⟩
  · obtain ⟨st0, ro0, we0, hI, hS⟩ := hk (by omega)
    obtain ⟨r, hr, st2, ro2, we2, rfl, c1, c2, c3⟩ := mgive (size := size) (many := there) (rounds := rb) (kind := kind) (fig := fig) (sc := sc) (place := pl) (tk := tk) (steps := st) (row := ro) (went := we) hI
    rw [if_pos c, if_pos c, hr, Option.bind_some, Option.bind_some]
    exact ⟨_, _, _, _, _, _, _, _, _, _, _, _, _, _, _, _, _, _, _, _, rfl, rfl, (hS.m c1 c2 c3).cp⟩
/-- standing and row alike, with a bound on the rounds -/
def SB (B size there rb kind fig sc : Int) (steps line went st ro we : Int → Int) : Prop := RI B size there rb line went ∧ PI kind fig sc steps ∧ eqr 0 sc steps st ∧ eqr 0 there line ro ∧ eqr 1 (size + 1) went we
theorem SR.sb {size there rb kind fig sc : Int} {steps line went st ro we : Int → Int} (h : SR size there rb kind fig sc steps line went st ro we) : SB 999 size there rb kind fig sc steps line went st ro we := h
theorem SB.widen {B C size there rb kind fig sc : Int} {steps line went st ro we : Int → Int} (h : SB B size there rb kind fig sc steps line went st ro we) (hc : B ≤ C) : SB C size there rb kind fig sc steps line went st ro we := ⟨h.1.widen hc, h.2⟩
theorem SB.mri {B size there rb kind fig sc : Int} {steps line went st ro we : Int → Int} (h : SB B size there rb kind fig sc steps line went st ro we) : RI B size there rb ro we := h.1.congr h.2.2.2.1 h.2.2.2.2
theorem SB.mpi {B size there rb kind fig sc : Int} {steps line went st ro we : Int → Int} (h : SB B size there rb kind fig sc steps line went st ro we) : PI kind fig sc st := h.2.1.congr h.2.2.1
theorem SB.hl {B size there rb kind fig sc : Int} {steps line went st ro we : Int → Int} (h : SB B size there rb kind fig sc steps line went st ro we) : ∀ i, 0 ≤ i → i < there → 1 ≤ line i ∧ line i ≤ 120 := fun i p q => by
  have := h.1.2.2.2.1 i p q
  have := h.1.1
  omega
theorem SB.ml {B size there rb kind fig sc : Int} {steps line went st ro we : Int → Int} (h : SB B size there rb kind fig sc steps line went st ro we) : ∀ i, 0 ≤ i → i < there → 1 ≤ ro i ∧ ro i ≤ 120 := fun i p q => by
  rw [← h.2.2.2.1 i p q]; exact h.hl i p q
theorem SB.t {B size there rb kind fig sc : Int} {steps line went st ro we : Int → Int} (h : SB B size there rb kind fig sc steps line went st ro we) : 0 ≤ there ∧ there ≤ 120 := by
  have := h.1.1
  have := h.1.2.1
  omega
theorem SB.cp {B size there rb kind fig sc : Int} {steps line went st ro we a b c : Int → Int} (h : SB B size there rb kind fig sc steps line went st ro we) : SB B size there rb kind fig sc (zcp steps a 8) (zcp line b 120) (zcp went c 121) st ro we := by
  obtain ⟨h1, h2, h3, h4, h5⟩ := h
  have b1 := h1.1
  have b2 := h1.2.1
  have b3 := h2.2.2.1
  have e1 : eqr 0 sc steps (zcp steps a 8) := (eqr_zcp (by omega) (by omega)).symm
  have e2 : eqr 0 there line (zcp line b 120) := (eqr_zcp (by omega) (by omega)).symm
  have e3 : eqr 1 (size + 1) went (zcp went c 121) := (eqr_zcp (by omega) (by omega)).symm
  exact ⟨h1.congr e2 e3, h2.congr e1, e1.symm.trans h3, e2.symm.trans h4, e3.symm.trans h5⟩
/-- a round passes on both sides: as many go, the rows stay alike -/
theorem rd_both {B size there rb kind fig sc : Int} {steps line gone went st ro we g' : Int → Int} (hB : B ≤ 80000) (h : SB B size there rb kind fig sc steps line went st ro we) : ∃ a th2 rb2 l2 g2 w2 r2 e2 g3, f_X8_letRoundPass kind size there rb fig sc steps line gone went = some (a, th2, rb2, l2, g2, w2) ∧ f_X11_roundOn there rb kind fig sc st ro we g' = some (a, th2, rb2, r2, e2, g3) ∧ SB (B + 1) size th2 rb2 kind fig sc steps l2 w2 st r2 e2 ∧ a = there - th2 ∧ (0 ≤ th2 ∧ th2 ≤ there) ∧ rb2 = rb + 1 ∧ (∀ j, 0 ≤ j → j < a → 1 ≤ g3 j ∧ g3 j ≤ 120) := by
  have b3 := h.1.2.2.1
  obtain ⟨⟨r1, r2, r3, r4, r5, r6⟩, hr, q1, q2⟩ := xround (gone := gone) h.1 hB h.2.1
  obtain ⟨⟨s1, s2, s3, s4, s5, s6⟩, hs, q3, q4, q5⟩ := mround (gone := g') h.mri hB h.mpi
  dsimp only at q1 q2 q3 q4 q5
  obtain ⟨k1, k2⟩ := q2
  obtain ⟨k3, k4⟩ := q4
  rw [← CT_congr h.2.2.1 h.2.2.2.1 (by omega)] at k4
  obtain ⟨e1, e2, e3⟩ := SK.same h.1 h.2.2.2.1 h.2.2.2.2 k2 k4
  have hri := SK.ri h.1 k2
  have hc := k2.2.2.1
  refine ⟨r1, r2, r3, r4, r5, r6, s4, s5, s6, hr, ?_, ?_, q1, by omega, k1, ?_⟩
  · rw [hs, q3, q1, ← e1, k1, k3]
  · rw [k1]
    exact ⟨hri, h.2.1, h.2.2.1, e2, e3⟩
  · intro j p q
    exact q5 j p (by omega)
theorem bh_loop {v2 size kind fig sc : Int} {steps st : Int → Int} (h2 : 0 ≤ v2 ∧ v2 ≤ 60) : ∀ (n : Nat) (v4 there rb : Int) (line gone went ro we g' : Int → Int), 0 ≤ v4 → v4 ≤ v2 → v2 - v4 < n → SB (999 + v4) size there rb kind fig sc steps line went st ro we → ∃ th2 rb2 l2 g2 w2 r2 e2 g3, f_X10_behind_L66 n v2 kind v4 size there rb fig sc steps line gone went = some (th2, rb2, l2, g2, w2) ∧ f_X11_behind_L56 n v2 v4 there rb kind fig sc st ro we g' = some (th2, rb2, r2, e2, g3) ∧ SB 80000 size th2 rb2 kind fig sc steps l2 w2 st r2 e2 := by
  intro n
  induction n with
  | zero => intro v4 there rb line gone went ro we g' h0 h1 h3; exact absurd h3 (by omega)
  | succ n ih =>
    intro v4 there rb line gone went ro we g' h0 h1 h3 h
    have z : zR v4 ∧ zR v2 := ⟨⟨by omega, by omega⟩, ⟨by omega, by omega⟩⟩
    rw [f_X10_behind_L66_s, f_X11_behind_L56_s, zg_pos z, zg_pos z]
    by_cases c : v2 ≤ v4
    · rw [if_pos c, if_pos c]
      exact ⟨_, _, _, _, _, _, _, _, rfl, rfl, h.widen (by omega)⟩
    · obtain ⟨a, th2, rb2, l2, g2, w2, r2, e2, g3, x1, x2, x3, -⟩ := rd_both (gone := gone) (g' := g') (by omega) h
      rw [if_neg c, if_neg c, x1, x2, Option.bind_some, Option.bind_some]
      exact ih (v4 + 1) th2 rb2 l2 g2 w2 r2 e2 g3 (by omega) (by omega) (by omega) (by rw [show 999 + (v4 + 1) = 999 + v4 + 1 by omega]; exact x3)
abbrev T12 : Type := Int × (Int → Int) × Int × Int × Int × Int × Int × Int × (Int → Int) × (Int → Int) × (Int → Int) × (Int → Int)
abbrev T17 : Type := Int × Int × Int × Int × Int × Int × Int × (Int → Int) × (Int → Int) × (Int → Int) × Int × (Int → Int) × (Int → Int) × (Int → Int) × Int × Int × Int
def A17 (size many rounds kind fig sc : Int) (steps row went : Int → Int) (A : Int → Prop) (r : T17) : Prop := A r.1 ∧ K9 size many rounds kind fig sc steps row went r.2.1 r.2.2.1 r.2.2.2.1 r.2.2.2.2.1 r.2.2.2.2.2.1 r.2.2.2.2.2.2.1 r.2.2.2.2.2.2.2.1 r.2.2.2.2.2.2.2.2.1 r.2.2.2.2.2.2.2.2.2.1
theorem p_behind {v w size there rb kind fig sc ms mt mr mk mf mc th pl tk ki : Int} {steps line gone went st ro we m1 m2 m3 m4 R R' g' kept : Int → Int} (hv : zR v) (hw : zR w) (h : SR size there rb kind fig sc steps line went st ro we) : ∃ r : T12, f_X10_behind v w R size there rb kind fig sc steps line gone went ms mt mr mk mf mc m1 m2 m3 m4 = some r ∧ ok (f_X11_behind v w size there rb kind fig sc st ro we th R' g' kept pl tk ki) (A17 size there rb kind fig sc st ro we (fun a => a = r.1)) := by
  have b1 := h.1.1
  have zs : zR size := ⟨by omega, by omega⟩
  have RF : ∀ k : Int, 1 ≤ k ∧ k < 7 → ∃ R2, f_X10_refuse k R = some (-k, R2) ∧ ok (f_X11_behind_J38 v w (-k) size there rb kind fig sc st ro we 0 R' g' kept pl tk ki) (A17 size there rb kind fig sc st ro we (fun a => a = -k)) := by
    intro k hk
    obtain ⟨B2, B3, hB2, hB3⟩ := p_ref hk R R'
    refine ⟨B2, hB2, ?_⟩
    unfold f_X11_behind_J38
    rw [hB3, zg_pos ⟨by omega, by omega⟩, if_neg (by omega), Option.bind_some]
    exact ok_some.mpr ⟨rfl, K9.refl⟩
  unfold f_X10_behind f_X11_behind f_X8_copyFrom
  rw [xhas hv zs, mnum hv zs, xstriker h.2.1.1]
  simp only [Option.bind_some]
  rw [zg10n, zg10n, zg_pos hw, zg_pos hw, zg_pos hw, zg_pos hw]
  by_cases c1 : 1 ≤ v ∧ v ≤ size
  · rw [if_pos c1, if_pos c1]
    by_cases c2 : 0 ≤ w
    · rw [if_pos c2, if_pos c2]
      by_cases c3 : w ≤ 60
      · rw [if_pos c3, if_pos c3]
        obtain ⟨th2, rb2, l2, g2, w2, r2, e2, g3, x1, x2, x3⟩ := bh_loop (v2 := w) ⟨c2, c3⟩ zF 0 there rb (zcp line m2 120) (zcp gone m3 120) (zcp went m4 121) ro we g' (by omega) (by omega) (by rw [zF_eq]; omega) (SB.cp (a := m1) (b := m2) (c := m4) h.sb)
        obtain ⟨p, y1, y2⟩ := xplace (line := l2) hv x3.t (z_of x3.hl)
        obtain ⟨p', y1', y2'⟩ := mplace (line := r2) hv x3.t (z_of x3.ml)
        have ep := place_eq x3.2.2.2.1 y2 y2'
        rw [x1, Option.bind_some]
        dsimp only
        rw [y1, Option.bind_some]
        refine ⟨_, rfl, ?_⟩
        unfold f_X11_behind_J38
        refine ok_zg.mpr ⟨⟨by omega, by omega⟩, ?_⟩
        rw [if_pos (show (0 : Int) ≤ 0 by omega)]
        refine ok_bind.mpr (mopen.mono (fun r hr => ?_))
        obtain ⟨q', rfl, hI⟩ := hr
        refine ok_bind.mpr (ok_of x2 ?_)
        refine ok_bind.mpr (ok_of y1' ?_)
        refine ok_bind.mpr ((mclose hI).mono (fun r hr => ?_))
        obtain ⟨st', ro', we', rfl, d1, d2, d3⟩ := hr
        exact ok_some.mpr ⟨ep.symm, rfl, rfl, rfl, rfl, rfl, rfl, d1, d2, d3⟩
      · obtain ⟨R2, q1, q2⟩ := RF 6 (by omega)
        rw [if_neg c3, if_neg c3, q1, Option.bind_some]
        exact ⟨_, rfl, q2⟩
    · obtain ⟨R2, q1, q2⟩ := RF 4 (by omega)
      rw [if_neg c2, if_neg c2, q1, Option.bind_some]
      exact ⟨_, rfl, q2⟩
  · obtain ⟨R2, q1, q2⟩ := RF 1 (by omega)
    rw [if_neg c1, if_neg c1, q1, Option.bind_some]
    exact ⟨_, rfl, q2⟩
theorem sd_loop {v1 size kind fig sc : Int} {steps st : Int → Int} (h1 : 0 ≤ v1 ∧ v1 ≤ 30) : ∀ (n : Nat) (v3 v4 there rb : Int) (line gone went ro we g' : Int → Int), 0 ≤ v4 → v4 ≤ v1 → v1 - v4 < n → SB (999 + v4) size there rb kind fig sc steps line went st ro we → ∃ th2 rb2 l2 g2 w2 r2 e2 g3, f_X10_seeds_L40 n v1 v3 v4 size there rb line gone went = some (th2, rb2, l2, g2, w2) ∧ f_X11_seeds_L42 n v1 v3 v4 there rb ro we g' = some (th2, rb2, r2, e2, g3) := by
  intro n
  induction n with
  | zero => intro v3 v4 there rb line gone went ro we g' h0 h1 h3; exact absurd h3 (by omega)
  | succ n ih =>
    intro v3 v4 there rb line gone went ro we g' h0 h2 h3 h
    have z : zR v4 ∧ zR v1 := ⟨⟨by omega, by omega⟩, ⟨by omega, by omega⟩⟩
    rw [f_X10_seeds_L40_s, f_X11_seeds_L42_s, zg_pos z, zg_pos z]
    by_cases c : v1 ≤ v4
    · rw [if_pos c, if_pos c]
      exact ⟨_, _, _, _, _, _, _, _, rfl, rfl⟩
    · rw [if_neg c, if_neg c]
      generalize hx : v3 * 1103515245 + 12345 = x
      have x1 : 0 ≤ x % 2147483648 := Int.emod_nonneg _ (by decide)
      have x2 : x % 2147483648 < 2147483648 := Int.emod_lt_of_pos _ (by decide)
      have y1 : 0 ≤ x % 2147483648 / 65536 := by omega
      have y2 : x % 2147483648 / 65536 ≤ 2147483647 := by omega
      have w1 : 0 ≤ x % 2147483648 / 65536 % 8 ∧ x % 2147483648 / 65536 % 8 < 8 := by omega
      have g1 : 0 ≤ x % 2147483648 ∧ x % 2147483648 ≤ 2147483647 ∧ (0 : Int) < 65536 ∧ (65536 : Int) ≤ 2147483647 := by omega
      have g2 : 0 ≤ x % 2147483648 / 65536 ∧ x % 2147483648 / 65536 ≤ 2147483647 ∧ (0 : Int) < 8 ∧ (8 : Int) ≤ 2147483647 := by omega
      rw [zg_pos g1, zg_pos g2, zg_pos g1, zg_pos g2]
      obtain ⟨⟨r1, r2, r3, r4, r5, r6⟩, hr, q1, q2, q3⟩ := xstrike (c := 2 + x % 2147483648 / 65536 % 8) (f := 2 + x % 2147483648 / 65536 % 8) (back := 0) (gone := gone) h.1 (by omega) ⟨by omega, by omega⟩ ⟨by omega, by omega⟩ (Or.inl rfl)
      obtain ⟨⟨s1, s2, s3, s4, s5, s6⟩, hs, t1, t2, t3, -⟩ := mstrike (c := 2 + x % 2147483648 / 65536 % 8) (back := 0) (fst := 0) (gone := g') h.mri (by omega) ⟨by omega, by omega⟩ (Or.inl rfl) (Or.inl rfl)
      dsimp only at q1 q2 q3 t1 t2 t3
      rw [if_pos rfl] at t3
      obtain ⟨e1, e2, e3⟩ := SK.same h.1 h.2.2.2.1 h.2.2.2.2 q3 t3
      have hri := SK.ri h.1 q3
      subst e1
      subst q2
      subst t2
      rw [hr, hs, Option.bind_some, Option.bind_some]
      exact ih x (v4 + 1) r2 (rb + 1) r4 r5 r6 s4 s5 s6 (by omega) (by omega) (by omega) ⟨by rw [show 999 + (v4 + 1) = 999 + v4 + 1 by omega]; exact hri, h.2.1, h.2.2.1, e2, e3⟩
theorem p_seeds {v w size there rb kind fig sc ms mt mr mk mf mc th pl tk ki : Int} {steps line gone went st ro we m1 m2 m3 m4 R R' g' kept : Int → Int} (hv : zR v) (h : SR size there rb kind fig sc steps line went st ro we) : ∃ r : T12, f_X10_seeds v w R size there rb kind fig sc steps line gone went ms mt mr mk mf mc m1 m2 m3 m4 = some r ∧ ok (f_X11_seeds v w size there rb kind fig sc st ro we th R' g' kept pl tk ki) (A17 size there rb kind fig sc st ro we (fun a => a = r.1)) := by
  have RF : ∀ k : Int, 1 ≤ k ∧ k < 7 → ∃ R2, f_X10_refuse k R = some (-k, R2) ∧ ok (f_X11_seeds_J29 (-k) size there rb kind fig sc st ro we 0 R' g' kept pl tk ki) (A17 size there rb kind fig sc st ro we (fun a => a = -k)) := by
    intro k hk
    obtain ⟨B2, B3, hB2, hB3⟩ := p_ref hk R R'
    refine ⟨B2, hB2, ?_⟩
    unfold f_X11_seeds_J29
    rw [hB3, Option.bind_some]
    exact ok_some.mpr ⟨rfl, K9.refl⟩
  unfold f_X10_seeds f_X11_seeds f_X8_copyFrom f_X11_seeds_J16
  simp only [zg_pos hv, Option.bind_some]
  by_cases c1 : 1 ≤ v
  · rw [if_pos c1, if_neg (show ¬ v < 1 by omega), if_pos c1]
    by_cases c2 : v ≤ 30
    · rw [if_pos c2, if_pos c2]
      obtain ⟨th2, rb2, l2, g2, w2, r2, e2, g3, x1, x2⟩ := sd_loop (v1 := v) ⟨by omega, c2⟩ zF w 0 there rb (zcp line m2 120) (zcp gone m3 120) (zcp went m4 121) ro we g' (by omega) (by omega) (by rw [zF_eq]; omega) (SB.cp (a := m1) (b := m2) (c := m4) h.sb)
      rw [x1, Option.bind_some]
      refine ⟨_, rfl, ?_⟩
      refine ok_bind.mpr (mopen.mono (fun r hr => ?_))
      obtain ⟨q', rfl, hI⟩ := hr
      refine ok_bind.mpr (ok_of x2 ?_)
      refine ok_bind.mpr ((mclose hI).mono (fun r hr => ?_))
      obtain ⟨st', ro', we', rfl, d1, d2, d3⟩ := hr
      exact ok_some.mpr ⟨rfl, rfl, rfl, rfl, rfl, rfl, rfl, d1, d2, d3⟩
    · obtain ⟨R2, q1, q2⟩ := RF 6 (by omega)
      rw [if_neg c2, if_neg c2, q1, Option.bind_some]
      exact ⟨_, rfl, q2⟩
  · obtain ⟨R2, q1, q2⟩ := RF 4 (by omega)
    rw [if_neg c1, if_pos (show v < 1 by omega), if_neg c1, q1, Option.bind_some]
    exact ⟨_, rfl, q2⟩
