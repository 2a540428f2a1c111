/-! find and seen: each side answers -/
theorem xgfb {k v w size fig sc a b c : Int} {steps line gone went : Int → Int} (hp : PI k fig sc steps) (hs : 1 ≤ size ∧ size ≤ 120) (hv : zR v) (hw : zR w) : ok (f_X10_goToEndFromBeginning k v w size a b c fig sc steps line gone went) (fun r => r.1 = size ∧ RI 80000 size r.2.1 r.2.2.1 r.2.2.2.1 r.2.2.2.2.2) := by
  unfold f_X10_goToEndFromBeginning
  refine ok_bind.mpr ((xbegin (v := size) ⟨by omega, by omega⟩).mono (fun r hr => ?_))
  rcases hr with ⟨n, -⟩ | ⟨-, l, g, rfl, hb⟩
  · exact absurd hs n
  have hri := hb.ri (B := 999) hs (by omega)
  refine ok_bind.mpr ((xchange hri (by omega) hv hw).mono (fun r hr => ?_))
  have hri2 : ∃ z l', r = (z, l') ∧ RI 999 size size 0 l' g := by
    rcases hr with ⟨-, rfl⟩ | ⟨y, l', rfl, hs'⟩
    · exact ⟨0, l, rfl, hri⟩
    · exact ⟨1, l', rfl, hs'.ri hri y.2.2.1⟩
  obtain ⟨z, l', rfl, hri3⟩ := hri2
  refine ok_bind.mpr ?_
  rw [xstriker hp.1]
  refine ok_some.mpr (ok_bind.mpr ?_)
  refine (xend hp (by omega) hri3).mono (fun r hr => ?_)
  obtain ⟨r1, r2, r3, r4, r5, r6⟩ := r
  exact ok_some.mpr ⟨rfl, hr.1⟩
theorem xsat_L {v w tc : Int} {told line : Int → Int} (hv : zR v) (hw : zR w) (ht : 0 ≤ tc ∧ tc ≤ 24) (h1 : ∀ i, 0 ≤ i → i < tc → zR (told i)) (h2 : ∀ i, 0 ≤ i → i < tc → zR (line i)) : ∀ (n : Nat) (i : Int), 0 ≤ i → i ≤ tc → tc - i < n → ok (f_X10_stayAsTold_L18 n v w i told tc line) (fun r => r = 0 ∨ r = 1) := by
  intro n
  induction n with
  | zero => intro i h0 h1 h2; exact absurd h2 (by omega)
  | succ n ih =>
    intro i a0 a1 a2
    rw [f_X10_stayAsTold_L18_s]
    refine ok_zg.mpr ⟨⟨⟨by omega, by omega⟩, ⟨by omega, by omega⟩⟩, ok_ite.mpr ⟨fun c => ok_some.mpr (Or.inr rfl), fun c => ?_⟩⟩
    have zl := h2 i a0 (by omega)
    have J : ∀ s0, zR s0 → ok (f_X10_stayAsTold_J59 (f_X10_stayAsTold_L18 n) v w i s0 told tc line) (fun r => r = 0 ∨ r = 1) := by
      intro s0 hs0
      unfold f_X10_stayAsTold_J59
      exact ok_zg.mpr ⟨⟨by omega, by omega⟩, ok_zg.mpr ⟨⟨hs0, h1 i a0 (by omega)⟩, ok_ite.mpr ⟨fun _ => ih (i + 1) (by omega) (by omega) (by omega), fun _ => ok_some.mpr (Or.inl rfl)⟩⟩⟩
    exact ok_zg.mpr ⟨⟨by omega, by omega⟩, ok_zg.mpr ⟨⟨zl, hv⟩, ok_ite.mpr ⟨fun _ => ok_zg.mpr ⟨⟨zl, hw⟩, ok_ite.mpr ⟨fun _ => J _ zl, fun _ => J _ hv⟩⟩, fun _ => J _ hw⟩⟩⟩
theorem xsat {B v w tc size there rb : Int} {told line went : Int → Int} (hv : zR v) (hw : zR w) (ht : 0 ≤ tc ∧ tc ≤ 24) (h1 : ∀ i, 0 ≤ i → i < tc → 1 ≤ told i ∧ told i ≤ 120) (h : RI B size there rb line went) : ok (f_X10_stayAsTold v w told tc there line) (fun r => r = 0 ∨ r = 1) := by
  have b := h.t120
  unfold f_X10_stayAsTold
  refine ok_zg.mpr ⟨⟨⟨by omega, by omega⟩, ⟨by omega, by omega⟩⟩, ok_ite.mpr ⟨fun c => ?_, fun c => ok_some.mpr (Or.inl rfl)⟩⟩
  exact xsat_L hv hw ht (z_of h1) (fun i p q => h.zl i p (by omega)) zF 0 (by omega) ht.1 (by rw [zF_eq]; omega)
theorem xfbk_L {k v2 tc size sc : Int} {told steps : Int → Int} (hk : 0 ≤ k ∧ k ≤ 6) (h2 : 2 ≤ v2 ∧ v2 ≤ 9) (hsc : 0 ≤ sc ∧ sc ≤ 8) (hst : ∀ i, 0 ≤ i → i < sc → 2 ≤ steps i ∧ steps i ≤ 9) (hs : 1 ≤ size ∧ size ≤ 120) (ht : 0 ≤ tc ∧ tc ≤ 24) (h1 : ∀ i, 0 ≤ i → i < tc → 1 ≤ told i ∧ told i ≤ 120) : ∀ (n : Nat) (v3 a b c fig : Int) (line gone went : Int → Int), 2 ≤ v3 → v3 ≤ 10 → 10 - v3 < n → (2 ≤ fig ∧ fig ≤ 9) → ok (f_X10_findByKind_L14 n k v2 v3 told tc size a b c fig sc steps line gone went) (fun r => zR r.1 ∧ (2 ≤ r.2.2.2.2.1 ∧ r.2.2.2.2.1 ≤ 9)) := by
  intro n
  induction n with
  | zero => intro v3 a b c fig line gone went a1 a2 a3; exact absurd a3 (by omega)
  | succ n ih =>
    intro v3 a b c fig line gone went a1 a2 a3 hf
    rw [f_X10_findByKind_L14_s]
    by_cases hlt : v2 < v3
    · exact ok_zg.mpr ⟨⟨⟨by omega, by omega⟩, ⟨by omega, by omega⟩⟩, ok_ite.mpr ⟨fun _ => ok_some.mpr ⟨⟨by dsimp only; omega, by dsimp only; omega⟩, hf⟩, fun q => absurd hlt q⟩⟩
    · refine ok_zg.mpr ⟨⟨⟨by omega, by omega⟩, ⟨by omega, by omega⟩⟩, ok_ite.mpr ⟨fun q => absurd q hlt, fun _ => ?_⟩⟩
      refine ok_bind.mpr ((xgfb (k := k) (fig := v3) ⟨hk, ⟨by omega, by omega⟩, hsc, hst⟩ hs ⟨by omega, by omega⟩ ⟨by omega, by omega⟩).mono (fun r hr => ?_))
      obtain ⟨r1, r2, r3, r4, r5, r6⟩ := r
      refine ok_bind.mpr ((xsat ⟨by omega, by omega⟩ ⟨by omega, by omega⟩ ht h1 hr.2).mono (fun q hq => ?_))
      refine ok_zg.mpr ⟨⟨by omega, by omega⟩, ok_ite.mpr ⟨fun _ => ih (v3 + 1) _ _ _ _ _ _ _ (by omega) (by omega) (by omega) ⟨by omega, by omega⟩, fun _ => ok_zg.mpr ⟨⟨by omega, by omega⟩, ok_ite.mpr ⟨fun _ => ok_some.mpr ⟨⟨by dsimp only; omega, by dsimp only; omega⟩, by dsimp only; omega⟩, fun _ => ok_some.mpr ⟨⟨by dsimp only; omega, by dsimp only; omega⟩, by dsimp only; omega⟩⟩⟩⟩⟩
theorem xfind_L {tc size sc kk : Int} {told steps : Int → Int} (hsc : 0 ≤ sc ∧ sc ≤ 8) (hst : ∀ i, 0 ≤ i → i < sc → 2 ≤ steps i ∧ steps i ≤ 9) (hs : 1 ≤ size ∧ size ≤ 120) (ht : 0 ≤ tc ∧ tc ≤ 24) (h1 : ∀ i, 0 ≤ i → i < tc → 1 ≤ told i ∧ told i ≤ 120) : ∀ (n : Nat) (v1 a b c fig : Int) (line gone went : Int → Int), 0 ≤ v1 → v1 ≤ 7 → 7 - v1 < n → (2 ≤ fig ∧ fig ≤ 9) → ok (f_X10_find_L13 n v1 told tc size a b c kk fig sc steps line gone went) (fun _ => True) := by
  intro n
  induction n with
  | zero => intro v1 a b c fig line gone went a1 a2 a3; exact absurd a3 (by omega)
  | succ n ih =>
    intro v1 a b c fig line gone went a1 a2 a3 hf
    rw [f_X10_find_L13_s]
    refine ok_zg.mpr ⟨⟨by omega, by omega⟩, ok_ite.mpr ⟨fun _ => ok_some.mpr trivial, fun c1 => ?_⟩⟩
    have J : ∀ s0 a b c fig line gone went, zR s0 → (2 ≤ fig ∧ fig ≤ 9) → ok (f_X10_find_J34 (f_X10_find_L13 n) v1 s0 told tc size a b c kk fig sc steps line gone went) (fun _ => True) := by
      intro s0 a b c fig line gone went hs0 hf
      unfold f_X10_find_J34
      exact ok_zg.mpr ⟨hs0, ok_ite.mpr ⟨fun _ => ih (v1 + 1) a b c fig line gone went (by omega) (by omega) (by omega) hf, fun _ => ok_some.mpr trivial⟩⟩
    refine ok_zg.mpr ⟨⟨by omega, by omega⟩, ok_ite.mpr ⟨fun c2 => ?_, fun _ => J _ _ _ _ _ _ _ _ ⟨by omega, by omega⟩ hf⟩⟩
    unfold f_X10_findByKind f_X10_findByKind_J11
    refine ok_bind.mpr (ok_zg.mpr ⟨⟨by omega, by omega⟩, ok_ite.mpr ⟨fun _ => ?_, fun _ => ?_⟩⟩)
    · refine (xfbk_L ⟨a1, by omega⟩ (by omega) hsc hst hs ht h1 zF 2 a b c fig line gone went (by omega) (by omega) (by rw [zF_eq]; omega) hf).mono (fun r hr => ?_)
      obtain ⟨r1, r2, r3, r4, r5, r6, r7, r8⟩ := r
      exact J _ _ _ _ _ _ _ _ hr.1 hr.2
    · refine (xfbk_L ⟨a1, by omega⟩ (by omega) hsc hst hs ht h1 zF 2 a b c fig line gone went (by omega) (by omega) (by rw [zF_eq]; omega) hf).mono (fun r hr => ?_)
      obtain ⟨r1, r2, r3, r4, r5, r6, r7, r8⟩ := r
      exact J _ _ _ _ _ _ _ _ hr.1 hr.2
theorem xfind {B tc size there rb kind fig sc ms mt mr mk mf mc : Int} {told steps line gone went m1 m2 m3 m4 : Int → Int} (h : RI B size there rb line went) (hp : PI kind fig sc steps) (ht : 0 ≤ tc ∧ tc ≤ 24) (h1 : ∀ i, 0 ≤ i → i < tc → 1 ≤ told i ∧ told i ≤ 120) : ok (f_X10_find told tc size there rb kind fig sc steps line gone went ms mt mr mk mf mc m1 m2 m3 m4) (fun _ => True) := by
  unfold f_X10_find f_X8_copyFrom
  have hp2 : PI kind fig sc (zcp steps m1 8) := hp.congr (eqr_zcp (by omega) (by have := hp.2.2.1; omega)).symm
  exact ok_bind.mpr (ok_some.mpr (xfind_L hp2.2.2.1 hp2.2.2.2 h.1 ht h1 zF 0 _ _ _ _ _ _ _ (by omega) (by omega) (by rw [zF_eq]; omega) hp.2.1))
theorem xsbs {B v w tc size there rb kind fig sc : Int} {told steps line gone went : Int → Int} (hv : zR v) (hw : zR w) (hp : PI kind fig sc steps) (hB : B ≤ 80000) (h : RI B size there rb line went) (ht : 0 ≤ tc ∧ tc ≤ 24) (h1 : ∀ i, 0 ≤ i → i < tc → 1 ≤ told i ∧ told i ≤ 120) : ok (f_X10_stayBySwapped v w told tc size kind size there rb fig sc steps line gone went) (fun r => (r.1 = 0 ∨ r.1 = 1) ∧ r.2.1 = size ∧ RI 80000 size r.2.2.1 r.2.2.2.1 r.2.2.2.2.1 r.2.2.2.2.2.2) := by
  have hk := hp.1
  unfold f_X10_stayBySwapped
  refine ok_zg.mpr ⟨⟨by omega, by omega⟩, ok_ite.mpr ⟨fun _ => ?_, fun _ => ?_⟩⟩
  · exact ok_bind.mpr ((xsat hv hw ht h1 h).mono (fun r hr => ok_zg.mpr ⟨hr, ok_some.mpr ⟨hr, rfl, h.widen hB⟩⟩))
  · refine ok_bind.mpr ((xgfb (k := 1) ⟨⟨by omega, by omega⟩, hp.2⟩ h.1 hv hw).mono (fun r hr => ?_))
    obtain ⟨r1, r2, r3, r4, r5, r6⟩ := r
    obtain ⟨e1, e2⟩ := hr
    exact ok_bind.mpr ((xsat ⟨by omega, by omega⟩ ⟨by omega, by omega⟩ ht h1 e2).mono (fun q hq => ok_zg.mpr ⟨hq, ok_some.mpr ⟨hq, e1, e2⟩⟩))
theorem xseen_L84 {tc size kind fig sc v4 : Int} {told steps : Int → Int} (hp : PI kind fig sc steps) (hs : 1 ≤ size ∧ size ≤ 40) (h4 : 1 ≤ v4 ∧ v4 ≤ 40) (ht : 0 ≤ tc ∧ tc ≤ 24) (h1 : ∀ i, 0 ≤ i → i < tc → 1 ≤ told i ∧ told i ≤ 120) : ∀ (n : Nat) (v2 v3 v5 there rb : Int) (line gone went : Int → Int), 1 ≤ v5 → v5 ≤ 41 → 41 - v5 < n → 0 ≤ v2 → v2 ≤ 100 * v4 + v5 → RI 80000 size there rb line went → ok (f_X10_seen_L84 n v2 v3 v4 v5 told tc size kind size there rb fig sc steps line gone went) (fun r => (0 ≤ r.1 ∧ r.1 ≤ 100 * v4 + 41) ∧ r.2.2.1 = size ∧ RI 80000 size r.2.2.2.1 r.2.2.2.2.1 r.2.2.2.2.2.1 r.2.2.2.2.2.2.2) := by
  intro n
  induction n with
  | zero => intro v2 v3 v5 there rb line gone went a1 a2 a3; exact absurd a3 (by omega)
  | succ n ih =>
    intro v2 v3 v5 there rb line gone went a1 a2 a3 a4 a5 h
    rw [f_X10_seen_L84_s]
    refine ok_zg.mpr ⟨⟨⟨by omega, by omega⟩, ⟨by omega, by omega⟩⟩, ok_ite.mpr ⟨fun _ => ok_some.mpr ⟨by dsimp only; omega, rfl, h⟩, fun c => ?_⟩⟩
    refine ok_bind.mpr ((xsbs ⟨by omega, by omega⟩ ⟨by omega, by omega⟩ hp (Int.le_refl _) h ht h1).mono (fun r hr => ?_))
    obtain ⟨r1, r2, r3, r4, r5, r6, r7⟩ := r
    obtain ⟨e0, e1, e2⟩ := hr
    dsimp only at e0 e1 e2
    subst e1
    exact ok_zg.mpr ⟨⟨by omega, by omega⟩, ok_ite.mpr ⟨fun _ => ih v2 v3 (v5 + 1) r3 r4 r5 r6 r7 (by omega) (by omega) (by omega) a4 (by omega) e2, fun _ => ok_zg.mpr ⟨⟨by omega, by omega⟩, ok_ite.mpr ⟨fun _ => ih (v2 + 1) v3 (v5 + 1) r3 r4 r5 r6 r7 (by omega) (by omega) (by omega) (by omega) (by omega) e2, fun _ => ih (v2 + 1) _ (v5 + 1) r3 r4 r5 r6 r7 (by omega) (by omega) (by omega) (by omega) (by omega) e2⟩⟩⟩⟩
theorem xseen_L66 {tc size kind fig sc : Int} {told steps : Int → Int} (hp : PI kind fig sc steps) (hs : 1 ≤ size ∧ size ≤ 40) (ht : 0 ≤ tc ∧ tc ≤ 24) (h1 : ∀ i, 0 ≤ i → i < tc → 1 ≤ told i ∧ told i ≤ 120) : ∀ (n : Nat) (v2 v3 v4 there rb : Int) (line gone went : Int → Int), 1 ≤ v4 → v4 ≤ 41 → 41 - v4 < n → 0 ≤ v2 → v2 ≤ 100 * v4 → RI 80000 size there rb line went → ok (f_X10_seen_L66 n v2 v3 v4 told tc size kind size there rb fig sc steps line gone went) (fun _ => True) := by
  intro n
  induction n with
  | zero => intro v2 v3 v4 there rb line gone went a1 a2 a3; exact absurd a3 (by omega)
  | succ n ih =>
    intro v2 v3 v4 there rb line gone went a1 a2 a3 a4 a5 h
    rw [f_X10_seen_L66_s]
    refine ok_zg.mpr ⟨⟨⟨by omega, by omega⟩, ⟨by omega, by omega⟩⟩, ok_ite.mpr ⟨fun _ => ok_some.mpr trivial, fun c => ?_⟩⟩
    refine ok_bind.mpr ((xseen_L84 hp hs ⟨a1, by omega⟩ ht h1 zF v2 v3 (v4 + 1) there rb line gone went (by omega) (by omega) (by rw [zF_eq]; omega) a4 (by omega) h).mono (fun r hr => ?_))
    obtain ⟨r1, r2, r3, r4, r5, r6, r7, r8⟩ := r
    obtain ⟨e0, e1, e2⟩ := hr
    dsimp only at e0 e1 e2
    subst e1
    exact ih r1 r2 (v4 + 1) r4 r5 r6 r7 r8 (by omega) (by omega) (by omega) e0.1 (by omega) e2
theorem xseen {v tc size there rb kind fig sc ms mt mr mk mf mc : Int} {told steps line gone went m1 m2 m3 m4 R : Int → Int} (hv : zR v) (h : RI 999 size there rb line went) (hp : PI kind fig sc steps) (ht : 0 ≤ tc ∧ tc ≤ 24) (h1 : ∀ i, 0 ≤ i → i < tc → 1 ≤ told i ∧ told i ≤ 120) : ok (f_X10_seen v told tc R size there rb kind fig sc steps line gone went ms mt mr mk mf mc m1 m2 m3 m4) (fun _ => True) := by
  have hs := h.1
  have RF : ∀ k : Int, 0 ≤ k ∧ k < 7 → ok ((f_X10_refuse k R).bind (fun (r_46, t_refusals_47) => some (r_46, t_refusals_47, ms, mt, mr, mk, mf, mc, m1, m2, m3, m4))) (fun _ => True) := fun k hk => ok_bind.mpr ((xref hk R).mono (fun r _ => by obtain ⟨r1, r2⟩ := r; exact ok_some.mpr trivial))
  have hp2 : PI kind fig sc (zcp steps m1 8) := hp.congr (eqr_zcp (by omega) (by have := hp.2.2.1; omega)).symm
  unfold f_X10_seen f_X10_seen_J9 f_X8_copyFrom
  refine ok_zg.mpr ⟨hv, ok_ite.mpr ⟨fun _ => RF 2 (by omega), fun c1 => ok_zg.mpr ⟨hv, ok_ite.mpr ⟨fun c2 => ok_zg.mpr ⟨⟨by omega, by omega⟩, ok_ite.mpr ⟨fun c3 => ?_, fun _ => RF 6 (by omega)⟩⟩, fun _ => RF 2 (by omega)⟩⟩⟩⟩
  refine ok_bind.mpr (ok_some.mpr (ok_bind.mpr ((xgfb hp2 hs ⟨by omega, by omega⟩ ⟨by omega, by omega⟩).mono (fun r hr => ?_))))
  obtain ⟨r1, r2, r3, r4, r5, r6⟩ := r
  obtain ⟨e1, e2⟩ := hr
  dsimp only at e1 e2
  subst e1
  refine ok_bind.mpr ((xseen_L66 hp2 ⟨hs.1, c3⟩ ht h1 zF 0 (-9) 1 r2 r3 r4 r5 r6 (by omega) (by omega) (by rw [zF_eq]; omega) (by omega) (by omega) e2).mono (fun r _ => ?_))
  obtain ⟨s1, s2, s3, s4, s5, s6, s7, s8⟩ := r
  exact ok_zg.mpr ⟨hv, ok_ite.mpr ⟨fun _ => ok_some.mpr trivial, fun _ => ok_some.mpr trivial⟩⟩
