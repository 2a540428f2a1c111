/-! the class's methods that only look: each answers -/
section XS
variable {t_toldCount n_size n_there n_roundsBy n_kind n_figure n_stepCount m_size m_there m_roundsBy m_kind m_figure m_stepCount l_count : Int} {t_refusals t_toldOnes n_steps n_line n_gone n_wentIn m_steps m_line m_gone m_wentIn : Int → Int}
theorem xgte (h : RI 999 n_size n_there n_roundsBy n_line n_wentIn) (hp : PI n_kind n_figure n_stepCount n_steps) : ok (f_X10_goToEnd n_size n_there n_roundsBy n_kind n_figure n_stepCount n_steps n_line n_gone n_wentIn m_size m_there m_roundsBy m_kind m_figure m_stepCount m_steps m_line m_gone m_wentIn) (fun r => r.2.1 = n_size ∧ RI 80000 n_size r.2.2.1 r.2.2.2.1 r.2.2.2.2.2.2.2.2.1 r.2.2.2.2.2.2.2.2.2.2 ∧ r.2.2.1 ≤ n_there) := by
  have b1 := h.1
  have b2 := h.2.1
  have b3 := hp.2.2.1
  unfold f_X10_goToEnd f_X8_copyFrom
  refine ok_bind.mpr (ok_some.mpr (ok_bind.mpr ?_))
  rw [xstriker hp.1]
  refine ok_some.mpr (ok_bind.mpr ?_)
  refine (xend (B := 999) (hp.congr (eqr_zcp (by omega) (by omega)).symm) (by omega) (h.congr (eqr_zcp (by omega) (by omega)).symm (eqr_zcp (by omega) (by omega)).symm)).mono (fun r hr => ?_)
  obtain ⟨r1, r2, r3, r4, r5, r6⟩ := r
  exact ok_some.mpr ⟨rfl, hr⟩
theorem xrounds (h : RI 999 n_size n_there n_roundsBy n_line n_wentIn) (hp : PI n_kind n_figure n_stepCount n_steps) : ok (f_X10_rounds n_size n_there n_roundsBy n_kind n_figure n_stepCount n_steps n_line n_gone n_wentIn m_size m_there m_roundsBy m_kind m_figure m_stepCount m_steps m_line m_gone m_wentIn) (fun _ => True) := by
  unfold f_X10_rounds
  refine ok_bind.mpr ((xgte h hp).mono (fun r _ => ?_))
  obtain ⟨r1, r2, r3, r4, r5, r6, r7, r8, r9, r10, r11⟩ := r
  exact ok_some.mpr trivial
theorem xwhen {v : Int} (hv : zR v) (h : RI 999 n_size n_there n_roundsBy n_line n_wentIn) (hp : PI n_kind n_figure n_stepCount n_steps) : ok (f_X10_when v t_refusals n_size n_there n_roundsBy n_kind n_figure n_stepCount n_steps n_line n_gone n_wentIn m_size m_there m_roundsBy m_kind m_figure m_stepCount m_steps m_line m_gone m_wentIn) (fun _ => True) := by
  have b1 := h.1
  unfold f_X10_when
  rw [xhas hv ⟨by omega, by omega⟩]
  refine ok_bind.mpr (ok_some.mpr (ok_zg.mpr ⟨by split <;> decide, ok_ite.mpr ⟨fun c => ?_, fun c => ?_⟩⟩))
  · have hv2 : 1 ≤ v ∧ v ≤ n_size := by
      by_cases q : 1 ≤ v ∧ v ≤ n_size
      · exact q
      · rw [if_neg q] at c; exact absurd rfl c
    refine ok_bind.mpr ((xgte h hp).mono (fun r hr => ?_))
    obtain ⟨r1, r2, r3, r4, r5, r6, r7, r8, r9, r10, r11⟩ := r
    obtain ⟨e1, e2, e3⟩ := hr
    dsimp only at e1 e2 e3
    subst e1
    refine ok_bind.mpr ?_
    rw [xremains hv b1 (fun x p q => by have := e2.2.2.2.2.2.1 x p q; have := e2.2.2.1; exact ⟨by omega, by omega⟩)]
    refine ok_some.mpr (ok_zg.mpr ⟨by split <;> decide, ok_ite.mpr ⟨fun _ => ok_zg.mpr ⟨⟨by omega, by omega⟩, ok_some.mpr trivial⟩, fun _ => ok_some.mpr trivial⟩⟩)
  · refine ok_bind.mpr ((xref (by omega) t_refusals).mono (fun r _ => ?_))
    obtain ⟨r1, r2⟩ := r
    exact ok_some.mpr trivial
theorem xbehind_L {v2 k size fig sc : Int} {steps : Int → Int} (hp : PI k fig sc steps) (h2 : 0 ≤ v2 ∧ v2 ≤ 60) : ∀ (n : Nat) (v4 there rb : Int) (line gone went : Int → Int), 0 ≤ v4 → v4 ≤ v2 → v2 - v4 < n → RI (999 + v4) size there rb line went → ok (f_X10_behind_L66 n v2 k v4 size there rb fig sc steps line gone went) (fun r => RI 80000 size r.1 r.2.1 r.2.2.1 r.2.2.2.2) := by
  intro n
  induction n with
  | zero => intro v4 there rb line gone went h0 h1 h3; exact absurd h3 (by omega)
  | succ n ih =>
    intro v4 there rb line gone went h0 h1 h3 h
    rw [f_X10_behind_L66_s]
    refine ok_zg.mpr ⟨⟨⟨by omega, by omega⟩, ⟨by omega, by omega⟩⟩, ok_ite.mpr ⟨fun c => ok_some.mpr (h.widen (by omega)), fun c => ok_bind.mpr ?_⟩⟩
    refine (xround h (by omega) hp).mono (fun r hr => ?_)
    obtain ⟨r1, r2, r3, r4, r5, r6⟩ := r
    have hri := RO.ri h hr.2
    rw [show 999 + v4 + 1 = 999 + (v4 + 1) by omega] at hri
    exact ih (v4 + 1) r2 r3 r4 r5 r6 (by omega) (by omega) (by omega) hri
theorem RI.zl {B size there rb : Int} {line went : Int → Int} (h : RI B size there rb line went) : ∀ i, 0 ≤ i → i < there → zR (line i) := fun i p q => by
  have := h.2.2.2.1 i p q
  have := h.1
  exact ⟨by omega, by omega⟩
theorem RI.t120 {B size there rb : Int} {line went : Int → Int} (h : RI B size there rb line went) : 0 ≤ there ∧ there ≤ 120 := by
  have := h.1
  have := h.2.1
  omega
theorem xbehind {v w : Int} (hv : zR v) (hw : zR w) (h : RI 999 n_size n_there n_roundsBy n_line n_wentIn) (hp : PI n_kind n_figure n_stepCount n_steps) : ok (f_X10_behind v w t_refusals n_size n_there n_roundsBy n_kind n_figure n_stepCount n_steps n_line n_gone n_wentIn m_size m_there m_roundsBy m_kind m_figure m_stepCount m_steps m_line m_gone m_wentIn) (fun _ => True) := by
  have b1 := h.1
  have b2 := h.2.1
  have b3 := hp.2.2.1
  unfold f_X10_behind f_X8_copyFrom
  rw [xhas hv ⟨by omega, by omega⟩]
  have R : ∀ k : Int, 0 ≤ k ∧ k < 7 → ok ((f_X10_refuse k t_refusals).bind (fun (r_17, t_refusals_18) => some (r_17, t_refusals_18, m_size, m_there, m_roundsBy, m_kind, m_figure, m_stepCount, m_steps, m_line, m_gone, m_wentIn))) (fun _ => True) := fun k hk => ok_bind.mpr ((xref hk t_refusals).mono (fun r _ => by obtain ⟨r1, r2⟩ := r; exact ok_some.mpr trivial))
  refine ok_bind.mpr (ok_some.mpr (ok_zg.mpr ⟨by split <;> decide, ok_ite.mpr ⟨fun c => ?_, fun c => R 1 (by omega)⟩⟩))
  refine ok_zg.mpr ⟨hw, ok_ite.mpr ⟨fun c1 => ?_, fun c1 => R 4 (by omega)⟩⟩
  refine ok_zg.mpr ⟨hw, ok_ite.mpr ⟨fun c2 => ?_, fun c2 => R 6 (by omega)⟩⟩
  refine ok_bind.mpr (ok_some.mpr (ok_bind.mpr ?_))
  rw [xstriker hp.1]
  refine ok_some.mpr (ok_bind.mpr ?_)
  refine (xbehind_L (hp.congr (eqr_zcp (by omega) (by omega)).symm) ⟨c1, c2⟩ zF 0 _ _ _ _ _ (by omega) (by omega) (by rw [zF_eq]; omega) (h.congr (eqr_zcp (by omega) (by omega)).symm (eqr_zcp (by omega) (by omega)).symm)).mono (fun r hr => ?_)
  obtain ⟨r1, r2, r3, r4, r5⟩ := r
  refine ok_bind.mpr ((xplace hv hr.t120 hr.zl).mono (fun q _ => ok_some.mpr trivial))
theorem xstays {v : Int} (hv : zR v) (h : RI 999 n_size n_there n_roundsBy n_line n_wentIn) (hp : PI n_kind n_figure n_stepCount n_steps) : ok (f_X10_stays v t_refusals n_size n_there n_roundsBy n_kind n_figure n_stepCount n_steps n_line n_gone n_wentIn m_size m_there m_roundsBy m_kind m_figure m_stepCount m_steps m_line m_gone m_wentIn) (fun _ => True) := by
  unfold f_X10_stays
  refine ok_zg.mpr ⟨hv, ok_ite.mpr ⟨fun c => ok_bind.mpr ((xgte h hp).mono (fun r hr => ?_)), fun c => ok_bind.mpr ((xref (by omega) t_refusals).mono (fun r _ => ?_))⟩⟩
  · obtain ⟨r1, r2, r3, r4, r5, r6, r7, r8, r9, r10, r11⟩ := r
    refine ok_bind.mpr ?_
    rw [xnum hv hr.2.1.t120]
    exact ok_some.mpr (ok_some.mpr trivial)
  · obtain ⟨r1, r2⟩ := r
    exact ok_some.mpr trivial
theorem xgoes {v : Int} (hv : zR v) (h : RI 999 n_size n_there n_roundsBy n_line n_wentIn) (hp : PI n_kind n_figure n_stepCount n_steps) : ok (f_X10_goes v t_refusals n_size n_there n_roundsBy n_kind n_figure n_stepCount n_steps n_line n_gone n_wentIn m_size m_there m_roundsBy m_kind m_figure m_stepCount m_steps m_line m_gone m_wentIn) (fun _ => True) := by
  have b1 := h.1
  have b2 := h.2.1
  unfold f_X10_goes f_X8_goneCount
  refine ok_zg.mpr ⟨hv, ok_ite.mpr ⟨fun c => ok_bind.mpr ((xgte h hp).mono (fun r hr => ?_)), fun c => ok_bind.mpr ((xref (by omega) t_refusals).mono (fun r _ => ?_))⟩⟩
  · obtain ⟨r1, r2, r3, r4, r5, r6, r7, r8, r9, r10, r11⟩ := r
    obtain ⟨e1, e2, e3⟩ := hr
    dsimp only at e1 e2 e3
    have b4 := e2.2.1
    refine ok_zg.mpr ⟨⟨hv, ⟨by omega, by omega⟩⟩, ok_ite.mpr ⟨fun _ => ok_some.mpr trivial, fun c2 => ok_bind.mpr (ok_some.mpr (ok_zg.mpr ⟨⟨by omega, by omega⟩, ok_some.mpr trivial⟩))⟩⟩
  · obtain ⟨r1, r2⟩ := r
    exact ok_some.mpr trivial
theorem xbeside {v : Int} (hv : zR v) (h : RI 999 n_size n_there n_roundsBy n_line n_wentIn) (hp : PI n_kind n_figure n_stepCount n_steps) : ok (f_X10_beside v t_refusals n_size n_there n_roundsBy n_kind n_figure n_stepCount n_steps n_line n_gone n_wentIn m_size m_there m_roundsBy m_kind m_figure m_stepCount m_steps m_line m_gone m_wentIn) (fun _ => True) := by
  have b1 := h.1
  unfold f_X10_beside
  rw [xhas hv ⟨by omega, by omega⟩]
  refine ok_bind.mpr (ok_some.mpr (ok_zg.mpr ⟨by split <;> decide, ok_ite.mpr ⟨fun c => ok_bind.mpr ((xgte h hp).mono (fun r hr => ?_)), fun c => ok_bind.mpr ((xref (by omega) t_refusals).mono (fun r _ => ?_))⟩⟩))
  · obtain ⟨r1, r2, r3, r4, r5, r6, r7, r8, r9, r10, r11⟩ := r
    have ht := hr.2.1.t120
    dsimp only at ht
    refine ok_bind.mpr ((xplace hv hr.2.1.t120 hr.2.1.zl).mono (fun q hq => ?_))
    have hz : zR q := by rcases hq with ⟨q1, -⟩ | ⟨q1, q2, -⟩ <;> (dsimp only at *; exact ⟨by omega, by omega⟩)
    refine ok_zg.mpr ⟨hz, ok_ite.mpr ⟨fun _ => ok_bind.mpr ?_, fun _ => ok_some.mpr trivial⟩⟩
    rw [xnum hz hr.2.1.t120]
    exact ok_some.mpr (ok_some.mpr trivial)
  · obtain ⟨r1, r2⟩ := r
    exact ok_some.mpr trivial
theorem xgap_L {there : Int} {line : Int → Int} (ht : 0 ≤ there ∧ there ≤ 120) (hl : ∀ i, 0 ≤ i → i < there → 1 ≤ line i ∧ line i ≤ 120) : ∀ (n : Nat) (v2 v3 v4 : Int), 1 ≤ v4 → v4 ≤ 121 → 121 - v4 < n → (-9 ≤ v2 ∧ v2 ≤ 120) → ok (f_X10_gap_L29 n v2 v3 v4 there line) (fun _ => True) := by
  intro n
  induction n with
  | zero => intro v2 v3 v4 h0 h1 h2; exact absurd h2 (by omega)
  | succ n ih =>
    intro v2 v3 v4 h0 h1 h2 h3
    rw [f_X10_gap_L29_s]
    refine ok_zg.mpr ⟨⟨⟨by omega, by omega⟩, ⟨by omega, by omega⟩⟩, ok_ite.mpr ⟨fun _ => ok_some.mpr trivial, fun c => ?_⟩⟩
    have g1 := hl v4 (by omega) (by omega)
    have g2 := hl (v4 - 1) (by omega) (by omega)
    have g3 : 0 ≤ (if 0 ≤ ((line v4) - (line (v4 - 1))) then ((line v4) - (line (v4 - 1))) else -((line v4) - (line (v4 - 1)))) ∧ (if 0 ≤ ((line v4) - (line (v4 - 1))) then ((line v4) - (line (v4 - 1))) else -((line v4) - (line (v4 - 1)))) ≤ 120 := by split <;> omega
    refine ok_zg.mpr ⟨⟨by omega, by omega⟩, ok_zg.mpr ⟨⟨by omega, by omega⟩, ok_zg.mpr ⟨⟨by omega, by omega⟩, ok_zg.mpr ⟨⟨⟨by omega, by omega⟩, ⟨by omega, by omega⟩⟩, ok_ite.mpr ⟨fun _ => ih v2 v3 (v4 + 1) (by omega) (by omega) (by omega) h3, fun _ => ok_zg.mpr ⟨⟨by omega, by omega⟩, ih _ _ (v4 + 1) (by omega) (by omega) (by omega) ⟨by omega, by omega⟩⟩⟩⟩⟩⟩⟩
theorem RI.l120 {B size there rb : Int} {line went : Int → Int} (h : RI B size there rb line went) : ∀ i, 0 ≤ i → i < there → 1 ≤ line i ∧ line i ≤ 120 := fun i p q => by
  have := h.2.2.2.1 i p q
  have := h.1
  omega
theorem xgap {v : Int} (hv : zR v) (h : RI 999 n_size n_there n_roundsBy n_line n_wentIn) (hp : PI n_kind n_figure n_stepCount n_steps) : ok (f_X10_gap v t_refusals n_size n_there n_roundsBy n_kind n_figure n_stepCount n_steps n_line n_gone n_wentIn m_size m_there m_roundsBy m_kind m_figure m_stepCount m_steps m_line m_gone m_wentIn) (fun _ => True) := by
  have J : ok (f_X10_gap_J9 t_refusals m_size m_there m_roundsBy m_kind m_figure m_stepCount m_steps m_line m_gone m_wentIn) (fun _ => True) := by
    unfold f_X10_gap_J9
    exact ok_bind.mpr ((xref (by omega) t_refusals).mono (fun r _ => by obtain ⟨r1, r2⟩ := r; exact ok_some.mpr trivial))
  unfold f_X10_gap
  refine ok_zg.mpr ⟨hv, ok_ite.mpr ⟨fun _ => J, fun c => ok_zg.mpr ⟨hv, ok_ite.mpr ⟨fun c2 => ok_bind.mpr ((xgte h hp).mono (fun r hr => ?_)), fun _ => J⟩⟩⟩⟩
  obtain ⟨r1, r2, r3, r4, r5, r6, r7, r8, r9, r10, r11⟩ := r
  refine ok_bind.mpr ((xgap_L hr.2.1.t120 hr.2.1.l120 zF (-9) (-9) 1 (by omega) (by omega) (by rw [zF_eq]; omega) (by omega)).mono (fun q _ => ?_))
  obtain ⟨q1, q2⟩ := q
  exact ok_zg.mpr ⟨hv, ok_ite.mpr ⟨fun _ => ok_some.mpr trivial, fun _ => ok_some.mpr trivial⟩⟩
theorem xnear_L {v there : Int} {line : Int → Int} (hv : zR v) (ht : 0 ≤ there ∧ there ≤ 120) (hl : ∀ i, 0 ≤ i → i < there → zR (line i)) : ∀ (n : Nat) (v2 v3 : Int), 0 ≤ v3 → v3 ≤ 120 → 120 - v3 < n → ok (f_X10_near_L32 n v v2 v3 there line) (fun _ => True) := by
  intro n
  induction n with
  | zero => intro v2 v3 h0 h1 h2; exact absurd h2 (by omega)
  | succ n ih =>
    intro v2 v3 h0 h1 h2
    rw [f_X10_near_L32_s]
    exact ok_zg.mpr ⟨⟨⟨by omega, by omega⟩, ⟨by omega, by omega⟩⟩, ok_ite.mpr ⟨fun _ => ok_some.mpr trivial, fun c => ok_zg.mpr ⟨⟨by omega, by omega⟩, ok_zg.mpr ⟨⟨hl v3 (by omega) (by omega), hv⟩, ok_ite.mpr ⟨fun _ => ih v2 (v3 + 1) (by omega) (by omega) (by omega), fun _ => ih (v2 + 1) (v3 + 1) (by omega) (by omega) (by omega)⟩⟩⟩⟩⟩
theorem xnear {v : Int} (hv : zR v) (h : RI 999 n_size n_there n_roundsBy n_line n_wentIn) (hp : PI n_kind n_figure n_stepCount n_steps) : ok (f_X10_near v t_refusals n_size n_there n_roundsBy n_kind n_figure n_stepCount n_steps n_line n_gone n_wentIn m_size m_there m_roundsBy m_kind m_figure m_stepCount m_steps m_line m_gone m_wentIn) (fun _ => True) := by
  have R : ∀ k : Int, 0 ≤ k ∧ k < 7 → ok ((f_X10_refuse k t_refusals).bind (fun (r_17, t_refusals_18) => some (r_17, t_refusals_18, m_size, m_there, m_roundsBy, m_kind, m_figure, m_stepCount, m_steps, m_line, m_gone, m_wentIn))) (fun _ => True) := fun k hk => ok_bind.mpr ((xref hk t_refusals).mono (fun r _ => by obtain ⟨r1, r2⟩ := r; exact ok_some.mpr trivial))
  unfold f_X10_near
  refine ok_zg.mpr ⟨hv, ok_ite.mpr ⟨fun c => ok_zg.mpr ⟨hv, ok_ite.mpr ⟨fun c2 => ok_bind.mpr ((xgte h hp).mono (fun r hr => ?_)), fun _ => R 6 (by omega)⟩⟩, fun _ => R 4 (by omega)⟩⟩
  obtain ⟨r1, r2, r3, r4, r5, r6, r7, r8, r9, r10, r11⟩ := r
  exact ok_bind.mpr ((xnear_L hv hr.2.1.t120 hr.2.1.zl zF 0 0 (by omega) (by omega) (by rw [zF_eq]; omega)).mono (fun q _ => ok_some.mpr trivial))
theorem RI.zw {B size there rb : Int} {line went : Int → Int} (h : RI B size there rb line went) (hB : B ≤ 80000) : ∀ x, 1 ≤ x → x ≤ size → zR (went x) := fun x p q => by
  have := h.2.2.2.2.2.1 x p q
  have := h.2.2.1
  exact ⟨by omega, by omega⟩
theorem xfriends_L {there size mt mr mk mf ms : Int} {line mst mli mgo went : Int → Int} (ht : 0 ≤ there ∧ there ≤ 120) (hl : ∀ i, 0 ≤ i → i < there → zR (line i)) (hs : 1 ≤ size ∧ size ≤ 120) (hw : ∀ x, 1 ≤ x → x ≤ size → zR (went x)) : ∀ (n : Nat) (v1 : Int), 1 ≤ v1 → v1 ≤ 121 → 121 - v1 < n → ok (f_X10_friends_L7 n v1 there line size mt mr mk mf ms mst mli mgo went) (fun _ => True) := by
  intro n
  induction n with
  | zero => intro v1 h0 h1 h2; exact absurd h2 (by omega)
  | succ n ih =>
    intro v1 h0 h1 h2
    rw [f_X10_friends_L7_s]
    refine ok_zg.mpr ⟨⟨⟨by omega, by omega⟩, ⟨by omega, by omega⟩⟩, ok_ite.mpr ⟨fun _ => ok_some.mpr trivial, fun c => ok_zg.mpr ⟨⟨by omega, by omega⟩, ok_bind.mpr ?_⟩⟩⟩
    rw [xremains (hl (v1 - 1) (by omega) (by omega)) hs hw]
    refine ok_some.mpr (ok_zg.mpr ⟨by split <;> decide, ok_ite.mpr ⟨fun _ => ih (v1 + 1) (by omega) (by omega) (by omega), fun _ => ok_zg.mpr ⟨⟨by omega, by omega⟩, ok_bind.mpr ?_⟩⟩⟩)
    rw [xremains (hl v1 (by omega) (by omega)) hs hw]
    exact ok_some.mpr (ok_zg.mpr ⟨by split <;> decide, ok_ite.mpr ⟨fun _ => ih (v1 + 1) (by omega) (by omega) (by omega), fun _ => ok_some.mpr trivial⟩⟩)
theorem xfriends (h : RI 999 n_size n_there n_roundsBy n_line n_wentIn) (hp : PI n_kind n_figure n_stepCount n_steps) : ok (f_X10_friends n_size n_there n_roundsBy n_kind n_figure n_stepCount n_steps n_line n_gone n_wentIn m_size m_there m_roundsBy m_kind m_figure m_stepCount m_steps m_line m_gone m_wentIn) (fun _ => True) := by
  unfold f_X10_friends
  refine ok_bind.mpr ((xgte h hp).mono (fun r hr => ?_))
  obtain ⟨r1, r2, r3, r4, r5, r6, r7, r8, r9, r10, r11⟩ := r
  obtain ⟨e1, e2, e3⟩ := hr
  dsimp only at e1 e2 e3
  subst e1
  exact xfriends_L h.t120 h.zl h.1 (e2.zw (by omega)) zF 1 (by omega) (by omega) (by rw [zF_eq]; omega)
theorem xbyOther {v : Int} (hv : zR v) (h : RI 999 n_size n_there n_roundsBy n_line n_wentIn) (hp : PI n_kind n_figure n_stepCount n_steps) : ok (f_X10_byOther v t_refusals n_size n_there n_roundsBy n_kind n_figure n_stepCount n_steps n_line n_gone n_wentIn m_size m_there m_roundsBy m_kind m_figure m_stepCount m_steps m_line m_gone m_wentIn) (fun _ => True) := by
  have b1 := h.1
  have b2 := h.2.1
  have b3 := hp.2.2.1
  unfold f_X10_byOther f_X8_copyFrom
  rw [xkind hv]
  refine ok_bind.mpr (ok_some.mpr (ok_zg.mpr ⟨by split <;> decide, ok_ite.mpr ⟨fun c => ok_bind.mpr (ok_some.mpr (ok_bind.mpr ?_)), fun c => ok_bind.mpr ((xref (by omega) t_refusals).mono (fun r _ => by obtain ⟨r1, r2⟩ := r; exact ok_some.mpr trivial))⟩⟩))
  have hk : 0 ≤ v ∧ v ≤ 6 := by
    by_cases q : 0 ≤ v ∧ v ≤ 6
    · exact q
    · rw [if_neg q] at c; exact absurd rfl c
  rw [xstriker hk]
  refine ok_some.mpr (ok_bind.mpr ?_)
  have hp2 : PI v n_figure n_stepCount n_steps := ⟨hk, hp.2⟩
  refine (xend (B := 999) (hp2.congr (eqr_zcp (by omega) (by omega)).symm) (by omega) (h.congr (eqr_zcp (by omega) (by omega)).symm (eqr_zcp (by omega) (by omega)).symm)).mono (fun r hr => ?_)
  obtain ⟨r1, r2, r3, r4, r5, r6⟩ := r
  exact ok_some.mpr trivial
end XS
