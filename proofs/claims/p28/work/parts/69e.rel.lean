/-! two runs beside each other: places count, not who stands there -/
theorem CT_rel {kind fig fig' sc there r : Int} {steps line st ro sg : Int → Int} (hst : eqr 0 sc steps st) (hl : ∀ i, 0 ≤ i → i < there → ro i = sg (line i)) (hk : kind = 1 → ∀ x, sg x = x) (hf : kind = 2 ∨ kind = 4 → fig = fig') (hr : 1 ≤ r) : CT kind fig sc there r steps line = CT kind fig' sc there r st ro := by
  unfold CT
  by_cases k6 : kind = 6
  · rw [if_pos k6, if_pos k6]
  · rw [if_neg k6, if_neg k6]
    by_cases k2 : kind = 2
    · rw [if_pos k2, if_pos k2]; exact hf (Or.inl k2)
    · rw [if_neg k2, if_neg k2]
      by_cases k4 : kind = 4
      · rw [if_pos k4, if_pos k4]
        by_cases c1 : 0 < sc
        · rw [if_pos c1, if_pos c1]; exact hst _ (Int.emod_nonneg _ (by omega)) (Int.emod_lt_of_pos _ c1)
        · rw [if_neg c1, if_neg c1]; exact hf (Or.inr k4)
      · rw [if_neg k4, if_neg k4]
        by_cases k1 : kind = 1
        · rw [if_pos k1, if_pos k1]
          by_cases c2 : there < r
          · simp only [if_pos c2]
          · have e : ro (r - 1) = line (r - 1) := by rw [hl _ (by omega) (by omega), hk k1]
            rw [e]
        · rw [if_neg k1, if_neg k1]
theorem cu_rel {there a a' : Int} {line went l' line' went' l'' : Int → Int} (h : CuPost 0 0 there line went a l') (h' : CuPost 0 0 there line' went' a' l'') (ew : ∀ i, 0 ≤ i → i < there → (went (line i) = 0 ↔ went' (line' i) = 0)) : a = a' ∧ ∀ i, 0 ≤ i → i < a → ∃ j, 0 ≤ j ∧ j < there ∧ l' i = line j ∧ l'' i = line' j := by
  have rke : ∀ j, 0 ≤ j → j ≤ there → rk 0 0 line went j = rk 0 0 line' went' j := fun j p q => by
    unfold rk
    congr 1
    exact cn_congr _ (fun i i1 i2 => by rw [Int.zero_add]; exact ew i i1 (by omega))
  obtain ⟨b1, b2, b3, b4, b5⟩ := h
  obtain ⟨c1, c2, c3, c4, c5⟩ := h'
  have ha : a = a' := by
    by_cases h : there < 0
    · omega
    · rw [b5, c5, rke there (by omega) (Int.le_refl _)]
  refine ⟨ha, fun i p q => ?_⟩
  obtain ⟨j, j1, j2, j3, j4⟩ := b3 i p q
  have g := (b4 j j1 j2 j3).2
  have g' := (c4 j j1 j2 ((ew j j1 j2).mp j3)).2
  rw [← rke j j1 (by omega), ← j4] at g'
  rw [← j4] at g
  exact ⟨j, j1, j2, g, g'⟩
theorem SK.rel {B size there rb c f back a a' : Int} {line went l1 w1 row went' l2 w2 sg : Int → Int} (h : RI B size there rb line went) (h' : RI B size there rb row went') (hl : ∀ i, 0 ≤ i → i < there → row i = sg (line i)) (k : SK c f back there (rb + 1) line went a l1 w1) (k' : SK c f back there (rb + 1) row went' a' l2 w2) : a = a' ∧ ∀ i, 0 ≤ i → i < a → l2 i = sg (l1 i) := by
  obtain ⟨e1, e2⟩ := cu_rel k.2.2 k'.2.2 (fun i p q => (kept_iff h k.1 k.2.1 i p q).trans (kept_iff h' k'.1 k'.2.1 i p q).symm)
  refine ⟨e1, fun i p q => ?_⟩
  obtain ⟨j, j1, j2, j3, j4⟩ := e2 i p q
  rw [j3, j4, hl j j1 j2]
theorem rel_loop {kind fig fig' sc size idle : Int} {steps st sg : Int → Int} (hi : 1 ≤ idle ∧ idle ≤ 8) (hp : PI kind fig sc steps) (hp' : PI kind fig' sc st) (hst : eqr 0 sc steps st) (hk : kind = 1 → ∀ x, sg x = x) (hf : kind = 2 ∨ kind = 4 → fig = fig') : ∀ (n m : Nat) (v3 v4 v3m there rb gm B : Int) (line gone went ro we g' going : Int → Int) (X : Int × Int × Int × Int × (Int → Int) × (Int → Int) × (Int → Int)) (Y : Int × Int × Int × (Int → Int) × (Int → Int) × (Int → Int) × (Int → Int) × Int), f_X8_goToEnd_L11 n kind idle v3 v4 size there rb fig sc steps line gone went = some X → f_X11_runOut_L42 m idle v3 v3m there rb kind fig' sc st ro we g' going gm = some Y → 0 ≤ v3 → v3 ≤ idle → 0 ≤ v4 → v4 + (there * 8 + (idle - v3)) ≤ 1500 → B + (there * 8 + (idle - v3)) ≤ 79999 → RI B size there rb line went → RI B size there rb ro we → (∀ i, 0 ≤ i → i < there → ro i = sg (line i)) → Y.2.1 = X.2.2.1 ∧ ∀ i, 0 ≤ i → i < X.2.2.1 → Y.2.2.2.1 i = sg (X.2.2.2.2.1 i) := by
  intro n
  induction n with
  | zero => intro m v3 v4 v3m there rb gm B line gone went ro we g' going X Y h; exact absurd h (by rw [f_X8_goToEnd_L11_z]; intro q; cases q)
  | succ n ih =>
    intro m v3 v4 v3m there rb gm B line gone went ro we g' going X Y h h' a1 a2 a3 a4 a5 hX hY hl
    have b1 := hX.1
    have b2 := hX.2.1
    have b3 := hX.2.2.1
    cases m with
    | zero => exact absurd h' (by rw [f_X11_runOut_L42_z]; intro q; cases q)
    | succ m =>
      rw [f_X8_goToEnd_L11_s] at h
      rw [f_X11_runOut_L42_s] at h'
      obtain ⟨-, h⟩ := zg_some h
      obtain ⟨-, h'⟩ := zg_some h'
      rw [if_neg (show ¬ 2000 ≤ v4 by omega)] at h
      obtain ⟨-, h⟩ := zg_some h
      by_cases c : idle ≤ v3
      · rw [if_pos c] at h h'
        cases h
        cases h'
        exact ⟨rfl, hl⟩
      · rw [if_neg c] at h h'
        obtain ⟨⟨x1, x2, x3, x4, x5, x6⟩, f1, h⟩ := zb h
        obtain ⟨⟨y1, y2, y3, y4, y5, y6⟩, f2, h'⟩ := zb h'
        dsimp only at h h'
        obtain ⟨q1, k1, k2⟩ := (xround hX (by omega) hp).get f1
        obtain ⟨q2, ⟨k3, k4⟩, -⟩ := (mround hY (by omega) hp').get f2
        dsimp only at q1 k1 k2 q2 k3 k4
        rw [← CT_rel hst hl hk hf (by omega)] at k4
        obtain ⟨e1, e2⟩ := SK.rel hX hY hl k2 k4
        have r1 := SK.ri hX k2
        have r2 := SK.ri hY k4
        obtain ⟨⟨o1, o2⟩, -, h'⟩ := zb h'
        dsimp only at h'
        obtain ⟨-, h⟩ := zg_some h
        obtain ⟨-, h'⟩ := zg_some h'
        have hc := k2.2.2.1
        have ea : x1 = y1 := by omega
        subst e1 k1 k3 ea
        unfold f_X11_runOut_J107 at h'
        by_cases c2 : x1 = 0
        · rw [if_pos (show x1 ≤ 0 by omega)] at h
          rw [if_neg (show ¬ ¬ x1 = 0 from fun q => q c2)] at h'
          obtain ⟨-, h'⟩ := zg_some h'
          rw [if_neg (show ¬ ¬ x1 = 0 from fun q => q c2)] at h'
          exact ih m (v3 + 1) (v4 + 1) v3m x2 (rb + 1) o2 (B + 1) x4 x5 x6 y4 y5 y6 o1 X Y h h' (by omega) (by omega) (by omega) (by omega) (by omega) r1 r2 e2
        · rw [if_neg (show ¬ x1 ≤ 0 by omega)] at h
          rw [if_pos c2] at h'
          obtain ⟨-, h'⟩ := zg_some h'
          rw [if_pos c2] at h'
          exact ih m 0 (v4 + 1) _ x2 (rb + 1) o2 (B + 1) x4 x5 x6 y4 y5 y6 o1 X Y h h' (by omega) (by omega) (by omega) (by omega) (by omega) r1 r2 e2
theorem rel_run {B kind fig fig' sc size there rb gm : Int} {steps st sg line gone went ro we g' going : Int → Int} {X : Int × Int × Int × (Int → Int) × (Int → Int) × (Int → Int)} {Y : Int × Int × Int × (Int → Int) × (Int → Int) × (Int → Int) × (Int → Int) × Int} (hB : B ≤ 5000) (hp : PI kind fig sc steps) (hp' : PI kind fig' sc st) (hst : eqr 0 sc steps st) (hk : kind = 1 → ∀ x, sg x = x) (hf : kind = 2 ∨ kind = 4 → fig = fig') (hX : RI B size there rb line went) (hY : RI B size there rb ro we) (hl : ∀ i, 0 ≤ i → i < there → ro i = sg (line i)) (h : f_X8_goToEnd kind size there rb fig sc steps line gone went = some X) (h' : f_X11_runOut there rb kind fig' sc st ro we g' going gm = some Y) : Y.2.1 = X.2.1 ∧ ∀ i, 0 ≤ i → i < X.2.1 → Y.2.2.2.1 i = sg (X.2.2.2.1 i) := by
  have b1 := hX.1
  have b2 := hX.2.1
  have hkk := hp.1
  have hs := hp.2.2.1
  have hid : 1 ≤ (if kind = 4 ∧ 1 ≤ sc then sc else 1) ∧ (if kind = 4 ∧ 1 ≤ sc then sc else 1) ≤ 8 := by split <;> omega
  unfold f_X8_goToEnd at h
  rw [xidle hp, Option.bind_some] at h
  obtain ⟨⟨x1, x2, x3, x4, x5, x6, x7⟩, f1, h⟩ := zb h
  cases h
  have J : ∀ s0 : Int, s0 = (if kind = 4 ∧ 1 ≤ sc then sc else 1) → f_X11_runOut_J23 s0 there rb kind fig' sc st ro we g' going gm = some Y → Y.2.1 = x3 ∧ ∀ i, 0 ≤ i → i < x3 → Y.2.2.2.1 i = sg (x5 i) := by
    intro s0 hs0 h'
    subst hs0
    unfold f_X11_runOut_J23 at h'
    obtain ⟨⟨y1, y2, y3, y4, y5, y6, y7, y8⟩, f2, h'⟩ := zb h'
    cases h'
    exact rel_loop hid hp hp' hst hk hf zF zF 0 0 rb there rb 0 B line gone went ro we g' going (x1, x2, x3, x4, x5, x6, x7) (y1, y2, y3, y4, y5, y6, y7, y8) f1 f2 (by omega) (by omega) (by omega) (by omega) (by omega) hX hY hl
  unfold f_X11_runOut f_X11_runOut_J22 at h'
  obtain ⟨-, h'⟩ := zg_some h'
  by_cases c : kind = 4
  · rw [if_neg (show ¬ ¬ kind = 4 from fun q => q c)] at h'
    obtain ⟨-, h'⟩ := zg_some h'
    by_cases c2 : sc ≤ 0
    · rw [if_pos c2] at h'
      exact J 1 (by rw [if_neg (fun z => by omega)]) h'
    · rw [if_neg c2] at h'
      exact J sc (by rw [if_pos ⟨c, by omega⟩]) h'
  · rw [if_pos c] at h'
    exact J 1 (by rw [if_neg (fun z => c z.1)]) h'
/-! whether just the told ones stay -/
def SWx (a b x : Int) : Int := if x = a then b else if x = b then a else x
theorem SWx_0 (x : Int) : SWx 0 0 x = x := by
  unfold SWx
  by_cases h : x = 0
  · rw [if_pos h, h]
  · rw [if_neg h, if_neg h]
theorem SWP.sw {B size there rb v w : Int} {line went l' : Int → Int} (h : RI B size there rb line went) (hvw : v ≠ w) (k : SWP there v w line l') : ∀ x, 0 ≤ x → x < there → l' x = SWx v w (line x) := by
  obtain ⟨i, j, hi, hj, e1, e2, rfl⟩ := k
  have inj := h.2.2.2.2.1
  intro x x1 x2
  unfold SWx
  by_cases c : x = j
  · subst c
    rw [zup_same, e2, if_neg (fun q => hvw q.symm), if_pos rfl]
  · rw [zup_ne c]
    by_cases c2 : x = i
    · subst c2
      rw [zup_same, e1, if_pos rfl]
    · rw [zup_ne c2, if_neg (fun q => c2 (inj x i x1 x2 hi.1 hi.2 (by rw [q, e1]))), if_neg (fun q => c (inj x j x1 x2 hj.1 hj.2 (by rw [q, e2])))]
theorem xsat_Lv {v w tc : Int} {told line : Int → Int} : ∀ (n : Nat) (i r : Int), f_X10_stayAsTold_L18 n v w i told tc line = some r → (r = 0 ∨ r = 1) ∧ (r = 1 ↔ ∀ j, i ≤ j → j < tc → SWx v w (line j) = told j) := by
  intro n
  induction n with
  | zero => intro i r h; exact absurd h (by rw [f_X10_stayAsTold_L18_z]; intro q; cases q)
  | succ n ih =>
    intro i r h
    rw [f_X10_stayAsTold_L18_s] at h
    obtain ⟨-, h⟩ := zg_some h
    by_cases c : tc ≤ i
    · rw [if_pos c] at h
      cases h
      exact ⟨Or.inr rfl, ⟨fun _ j p q => absurd q (by omega), fun _ => rfl⟩⟩
    · rw [if_neg c] at h
      obtain ⟨-, h⟩ := zg_some h
      obtain ⟨-, h⟩ := zg_some h
      have J : ∀ s0, s0 = SWx v w (line i) → f_X10_stayAsTold_J59 (f_X10_stayAsTold_L18 n) v w i s0 told tc line = some r → (r = 0 ∨ r = 1) ∧ (r = 1 ↔ ∀ j, i ≤ j → j < tc → SWx v w (line j) = told j) := by
        intro s0 hs0 h
        unfold f_X10_stayAsTold_J59 at h
        obtain ⟨-, h⟩ := zg_some h
        obtain ⟨-, h⟩ := zg_some h
        by_cases e : s0 = told i
        · rw [if_pos e] at h
          obtain ⟨g1, g2⟩ := ih (i + 1) r h
          refine ⟨g1, g2.trans ⟨fun a j p q => ?_, fun a j p q => a j (by omega) q⟩⟩
          by_cases ej : j = i
          · rw [ej, ← hs0, e]
          · exact a j (by omega) q
        · rw [if_neg e] at h
          cases h
          exact ⟨Or.inl rfl, ⟨fun q => absurd q (by decide), fun a => absurd ((hs0.trans (a i (Int.le_refl _) (by omega)))) e⟩⟩
      by_cases c1 : line i = v
      · rw [if_neg (show ¬ ¬ line i = v from fun q => q c1)] at h
        exact J w (by unfold SWx; rw [if_pos c1]) h
      · rw [if_pos c1] at h
        obtain ⟨-, h⟩ := zg_some h
        by_cases c2 : line i = w
        · rw [if_neg (show ¬ ¬ line i = w from fun q => q c2)] at h
          exact J v (by unfold SWx; rw [if_neg c1, if_pos c2]) h
        · rw [if_pos c2] at h
          exact J (line i) (by unfold SWx; rw [if_neg c1, if_neg c2]) h
theorem xsat_v {v w tc there : Int} {told line : Int → Int} {r : Int} (h : f_X10_stayAsTold v w told tc there line = some r) : (r = 0 ∨ r = 1) ∧ (r = 1 ↔ there = tc ∧ ∀ j, 0 ≤ j → j < tc → SWx v w (line j) = told j) := by
  unfold f_X10_stayAsTold at h
  obtain ⟨-, h⟩ := zg_some h
  by_cases c : there = tc
  · rw [if_pos c] at h
    obtain ⟨g1, g2⟩ := xsat_Lv zF 0 r h
    exact ⟨g1, g2.trans ⟨fun a => ⟨c, a⟩, fun a => a.2⟩⟩
  · rw [if_neg c] at h
    cases h
    exact ⟨Or.inl rfl, ⟨fun q => absurd q (by decide), fun a => absurd a.1 c⟩⟩
theorem mtold_Lv {many : Int} {row told : Int → Int} : ∀ (n : Nat) (a i r : Int), f_X11_isTold_L24 n a i many row told = some r → (a = 0 ∨ a = 1) → (r = 0 ∨ r = 1) ∧ (r = 1 ↔ a = 1 ∧ ∀ j, i ≤ j → j < many → row j = told j) := by
  intro n
  induction n with
  | zero => intro a i r h; exact absurd h (by rw [f_X11_isTold_L24_z]; intro q; cases q)
  | succ n ih =>
    intro a i r h ha
    rw [f_X11_isTold_L24_s] at h
    obtain ⟨-, h⟩ := zg_some h
    by_cases c : many ≤ i
    · rw [if_pos c] at h
      cases h
      exact ⟨ha, ⟨fun q => ⟨q, fun j p q => absurd q (by omega)⟩, fun q => q.1⟩⟩
    · rw [if_neg c] at h
      obtain ⟨-, h⟩ := zg_some h
      by_cases c0 : a = 0
      · rw [if_pos c0] at h
        cases h
        exact ⟨Or.inl c0, ⟨fun q => absurd q (by omega), fun q => absurd q.1 (by omega)⟩⟩
      · rw [if_neg c0] at h
        obtain ⟨-, h⟩ := zg_some h
        obtain ⟨-, h⟩ := zg_some h
        obtain ⟨-, h⟩ := zg_some h
        by_cases c1 : row i = told i
        · rw [if_neg (show ¬ ¬ row i = told i from fun q => q c1)] at h
          obtain ⟨g1, g2⟩ := ih 1 (i + 1) r h (Or.inr rfl)
          refine ⟨g1, g2.trans ⟨fun q => ⟨by omega, fun j p p2 => ?_⟩, fun q => ⟨rfl, fun j p p2 => q.2 j (by omega) p2⟩⟩⟩
          by_cases ej : j = i
          · rw [ej]; exact c1
          · exact q.2 j (by omega) p2
        · rw [if_pos c1] at h
          obtain ⟨g1, g2⟩ := ih 0 (i + 1) r h (Or.inl rfl)
          exact ⟨g1, ⟨fun q => absurd (g2.mp q).1 (by decide), fun q => absurd (q.2 i (Int.le_refl _) (by omega)) c1⟩⟩
theorem mtold_v {many rounds kind fig sc gm tm : Int} {steps row went gone going told : Int → Int} {R : Int × Int × Int × (Int → Int) × (Int → Int) × (Int → Int) × (Int → Int) × Int} (h : f_X11_isTold many rounds kind fig sc steps row went gone going gm told tm = some R) : ∃ Y, f_X11_runOut many rounds kind fig sc steps row went gone going gm = some Y ∧ (R.1 = 0 ∨ R.1 = 1) ∧ (R.1 = 1 ↔ Y.2.1 = tm ∧ ∀ j, 0 ≤ j → j < tm → Y.2.2.2.1 j = told j) := by
  unfold f_X11_isTold at h
  obtain ⟨⟨y1, y2, y3, y4, y5, y6, y7, y8⟩, f1, h⟩ := zb h
  dsimp only at h
  refine ⟨_, f1, ?_⟩
  dsimp only
  obtain ⟨-, h⟩ := zg_some h
  unfold f_X11_isTold_J21 at h
  by_cases c : y2 = tm
  · rw [if_neg (show ¬ ¬ y2 = tm from fun q => q c)] at h
    obtain ⟨r, f2, h⟩ := zb h
    obtain ⟨-, h⟩ := zg_some h
    cases h
    obtain ⟨g1, g2⟩ := mtold_Lv zF 1 0 r f2 (Or.inr rfl)
    refine ⟨g1, g2.trans ⟨fun q => ⟨c, fun j p p2 => q.2 j p (by omega)⟩, fun q => ⟨rfl, fun j p p2 => q.2 j p (by omega)⟩⟩⟩
  · rw [if_pos c] at h
    obtain ⟨r, f2, h⟩ := zb h
    obtain ⟨-, h⟩ := zg_some h
    cases h
    obtain ⟨g1, g2⟩ := mtold_Lv zF 0 0 r f2 (Or.inl rfl)
    exact ⟨g1, ⟨fun q => absurd (g2.mp q).1 (by decide), fun q => absurd q.1 c⟩⟩
theorem gfb_v {k v w size fig sc a b c : Int} {steps line gone went : Int → Int} {r : Int × Int × Int × (Int → Int) × (Int → Int) × (Int → Int)} (hk : 0 ≤ k ∧ k ≤ 6) (hs : 1 ≤ size ∧ size ≤ 120) (hv : zR v) (hw : zR w) (h : f_X10_goToEndFromBeginning k v w size a b c fig sc steps line gone went = some r) : ∃ l l2 w0 X, BG size l w0 ∧ ((¬ CPc v w size 0 ∧ l2 = l) ∨ (CPc v w size 0 ∧ SWP size v w l l2)) ∧ f_X8_goToEnd k size size 0 fig sc steps l2 gone w0 = some X ∧ r.1 = size ∧ r.2.1 = X.2.1 ∧ r.2.2.2.1 = X.2.2.2.1 := by
  unfold f_X10_goToEndFromBeginning at h
  obtain ⟨qq, e1, h⟩ := zb h
  rcases (xbegin (v := size) ⟨by omega, by omega⟩).get e1 with ⟨n, -⟩ | ⟨-, l, g, e, hb⟩
  · exact absurd hs n
  subst e
  dsimp only at h
  obtain ⟨⟨z, l2⟩, e2, h⟩ := zb h
  dsimp only at h
  have hri := hb.ri (B := 999) hs (by omega)
  have hx := (xchange hri (by omega) hv hw).get e2
  rw [xstriker hk, Option.bind_some] at h
  obtain ⟨⟨x1, x2, x3, x4, x5, x6⟩, e3, h⟩ := zb h
  cases h
  refine ⟨l, l2, g, _, hb, ?_, e3, rfl, rfl, rfl⟩
  rcases hx with ⟨n, e⟩ | ⟨y, l', e, s⟩
  · cases e
    exact Or.inl ⟨n, rfl⟩
  · cases e
    exact Or.inr ⟨y, s⟩
theorem bit_eq {x y : Int} {P : Prop} (h1 : (x = 0 ∨ x = 1) ∧ (x = 1 ↔ P)) (h2 : (y = 0 ∨ y = 1) ∧ (y = 1 ↔ P)) : x = y := by
  rcases h1.1 with a | a
  · rcases h2.1 with b | b
    · rw [a, b]
    · exact absurd (h1.2.mpr (h2.2.mp b)) (by omega)
  · rw [a, h2.2.mpr (h1.2.mp a)]
