/-! the class's methods that only look: they answer -/
theorem xref {v : Int} (h : 0 ≤ v ∧ v < 7) (R : Int → Int) : ok (f_X10_refuse v R) (fun r => r.1 = -v) := by
  unfold f_X10_refuse
  exact ok_zg.mpr ⟨⟨by omega, by omega⟩, ok_ite.mpr ⟨fun c => absurd c (by omega), fun _ => ok_zg.mpr ⟨⟨by omega, by omega⟩, ok_ite.mpr ⟨fun c => absurd c (by omega), fun _ => ok_zg.mpr ⟨⟨h.1, h.2⟩, ok_zg.mpr ⟨⟨h.1, h.2⟩, ok_some.mpr rfl⟩⟩⟩⟩⟩⟩
theorem xhas {v size : Int} (hv : zR v) (hs : zR size) : f_X8_hasNumber v size = some (if 1 ≤ v ∧ v ≤ size then 1 else 0) := by
  unfold f_X8_hasNumber
  rw [zg_pos hv]
  by_cases c : v < 1
  · rw [if_pos c, if_neg (by omega)]
  · rw [if_neg c, zg_pos ⟨hv, hs⟩]
    by_cases c2 : size < v
    · rw [if_pos c2, if_neg (by omega)]
    · rw [if_neg c2, if_pos (by omega)]
theorem xplace_L {v there : Int} {line : Int → Int} (hv : zR v) (ht : 0 ≤ there ∧ there ≤ 120) (hl : ∀ i, 0 ≤ i → i < there → zR (line i)) : ∀ (n : Nat) (i : Int), 0 ≤ i → i ≤ there → there - i < n → ok (f_X8_placeOf_L2 n v i there line) (fun r => (r = -9 ∧ ∀ j, i ≤ j → j < there → line j ≠ v) ∨ (i + 1 ≤ r ∧ r ≤ there ∧ line (r - 1) = v ∧ ∀ j, i ≤ j → j < r - 1 → line j ≠ v)) := by
  intro n
  induction n with
  | zero => intro i h0 h1 h2; exact absurd h2 (by omega)
  | succ n ih =>
    intro i h0 h1 h2
    rw [f_X8_placeOf_L2_s]
    refine ok_zg.mpr ⟨⟨⟨by omega, by omega⟩, ⟨by omega, by omega⟩⟩, ok_ite.mpr ⟨fun c => ok_some.mpr (Or.inl ⟨rfl, fun j p q => absurd q (by omega)⟩), fun c => ?_⟩⟩
    refine ok_zg.mpr ⟨⟨by omega, by omega⟩, ok_zg.mpr ⟨⟨hl i h0 (by omega), hv⟩, ok_ite.mpr ⟨fun c2 => ?_, fun c2 => ?_⟩⟩⟩
    · refine (ih (i + 1) (by omega) (by omega) (by omega)).mono (fun r hr => ?_)
      rcases hr with ⟨r1, r2⟩ | ⟨r1, r2, r3, r4⟩
      · left
        refine ⟨r1, fun j p q => ?_⟩
        by_cases hj : j = i
        · rw [hj]; exact c2
        · exact r2 j (by omega) q
      · right
        refine ⟨by omega, r2, r3, fun j p q => ?_⟩
        by_cases hj : j = i
        · rw [hj]; exact c2
        · exact r4 j (by omega) q
    · refine ok_some.mpr (Or.inr ⟨by omega, by omega, ?_, fun j p q => absurd q (by omega)⟩)
      rw [show i + 1 - 1 = i by omega]
      exact Decidable.of_not_not c2
theorem xplace {v there : Int} {line : Int → Int} (hv : zR v) (ht : 0 ≤ there ∧ there ≤ 120) (hl : ∀ i, 0 ≤ i → i < there → zR (line i)) : ok (f_X8_placeOf v there line) (fun r => (r = -9 ∧ ∀ j, 0 ≤ j → j < there → line j ≠ v) ∨ (1 ≤ r ∧ r ≤ there ∧ line (r - 1) = v ∧ ∀ j, 0 ≤ j → j < r - 1 → line j ≠ v)) := by
  unfold f_X8_placeOf
  exact xplace_L hv ht hl zF 0 (by omega) (by omega) (by rw [zF_eq]; omega)
theorem xnum {i there : Int} {line : Int → Int} (hi : zR i) (ht : 0 ≤ there ∧ there ≤ 120) : f_X8_numberAt i there line = some (if 0 ≤ i ∧ i < there then line i else -9) := by
  unfold f_X8_numberAt
  rw [zg_pos hi]
  by_cases c : i < 0
  · rw [if_pos c, if_neg (by omega)]
  · rw [if_neg c, zg_pos ⟨hi, ⟨by omega, by omega⟩⟩]
    by_cases c2 : there ≤ i
    · rw [if_pos c2, if_neg (by omega)]
    · rw [if_neg c2, zg_pos ⟨by omega, by omega⟩, if_pos (by omega)]
theorem xkind {v : Int} (hv : zR v) : f_X10_isKind v = some (if 0 ≤ v ∧ v ≤ 6 then 1 else 0) := by
  unfold f_X10_isKind
  rw [zg_pos hv]
  by_cases c : v < 0
  · rw [if_pos c, if_neg (by omega)]
  · rw [if_neg c, zg_pos hv]
    by_cases c2 : 7 ≤ v
    · rw [if_pos c2, if_neg (by omega)]
    · rw [if_neg c2, if_pos (by omega)]
theorem xfigure {v : Int} (hv : zR v) : f_X10_isFigure v = some (if 2 ≤ v ∧ v ≤ 9 then 1 else 0) := by
  unfold f_X10_isFigure
  rw [zg_pos hv]
  by_cases c : v < 2
  · rw [if_pos c, if_neg (by omega)]
  · rw [if_neg c, zg_pos hv]
    by_cases c2 : 9 < v
    · rw [if_pos c2, if_neg (by omega)]
    · rw [if_neg c2, if_pos (by omega)]
theorem xstriker {k : Int} (h : 0 ≤ k ∧ k ≤ 6) : f_X10_striker k = some k := by
  unfold f_X10_striker
  rw [xkind ⟨by omega, by omega⟩, if_pos h]
  show zg (zR 1) (if (1 : Int) = 0 then _ else _) = _
  rw [zg_pos ⟨by omega, by omega⟩, if_neg (by decide), zg_pos ⟨by omega, by omega⟩]
theorem xremains {v size : Int} {went : Int → Int} (hv : zR v) (hs : 1 ≤ size ∧ size ≤ 120) (hw : ∀ x, 1 ≤ x → x ≤ size → zR (went x)) : f_X8_remains v size went = some (if (1 ≤ v ∧ v ≤ size) ∧ went v = 0 then 1 else 0) := by
  unfold f_X8_remains
  rw [xhas hv ⟨by omega, by omega⟩]
  by_cases c : 1 ≤ v ∧ v ≤ size
  · rw [if_pos c]
    show zg (zR 1) (if (1 : Int) = 0 then _ else _) = _
    rw [zg_pos ⟨by omega, by omega⟩, if_neg (by decide), zg_pos ⟨by omega, by omega⟩, zg_pos (hw v c.1 c.2)]
    by_cases c2 : went v = 0
    · rw [if_neg (fun q => q c2), if_pos ⟨c, c2⟩]
    · rw [if_pos c2, if_neg (fun q => c2 q.2)]
  · rw [if_neg c, if_neg (show ¬ ((1 ≤ v ∧ v ≤ size) ∧ went v = 0) from fun q => c q.1)]
    show zg (zR 0) (if (0 : Int) = 0 then _ else _) = _
    rw [zg_pos ⟨by omega, by omega⟩, if_pos rfl]
/-- rounds to the end, tried: the row is a row again -/
theorem xend_L {kind fig sc size idle : Int} {steps : Int → Int} (hp : PI kind fig sc steps) (hi : 0 ≤ idle ∧ idle ≤ 100) (B : Int) (hB : B ≤ 5000) : ∀ (n : Nat) (v3 v4 there rb : Int) (line gone went : Int → Int), 0 ≤ v3 → v3 ≤ v4 → 0 ≤ v4 → v4 ≤ 2000 → 2000 - v4 < n → RI (B + v4) size there rb line went → ok (f_X8_goToEnd_L11 n kind idle v3 v4 size there rb fig sc steps line gone went) (fun r => RI 80000 size r.2.2.1 r.2.2.2.1 r.2.2.2.2.1 r.2.2.2.2.2.2 ∧ r.2.2.1 ≤ there) := by
  intro n
  induction n with
  | zero => intro v3 v4 there rb line gone went h0 h1 h2 h3 h4; exact absurd h4 (by omega)
  | succ n ih =>
    intro v3 v4 there rb line gone went h0 h1 h2 h3 h4 h
    rw [f_X8_goToEnd_L11_s]
    refine ok_zg.mpr ⟨⟨by omega, by omega⟩, ok_ite.mpr ⟨fun c => ok_some.mpr ⟨h.widen (by omega), Int.le_refl _⟩, fun c => ?_⟩⟩
    refine ok_zg.mpr ⟨⟨⟨by omega, by omega⟩, ⟨by omega, by omega⟩⟩, ok_ite.mpr ⟨fun c2 => ok_some.mpr ⟨h.widen (by omega), Int.le_refl _⟩, fun c2 => ok_bind.mpr ?_⟩⟩
    refine (xround h (by omega) hp).mono (fun r hr => ?_)
    obtain ⟨r1, r2, r3, r4, r5, r6⟩ := r
    obtain ⟨hr1, hr2⟩ := hr
    have hri := RO.ri h hr2
    have hri : RI (B + (v4 + 1)) size r2 r3 r4 r6 := by rw [show B + (v4 + 1) = B + v4 + 1 by omega]; exact hri
    have hle : r2 ≤ there := by
      have := hr2.2.2.2.1
      dsimp only at this
      omega
    have h0t : 0 ≤ r2 := hri.2.1.1
    have hth := h.2.1
    have hsz := h.1
    dsimp only at hr1
    refine ok_zg.mpr ⟨⟨by omega, by omega⟩, ok_ite.mpr ⟨fun c3 => ?_, fun c3 => ?_⟩⟩
    · exact (ih (v3 + 1) (v4 + 1) r2 r3 r4 r5 r6 (by omega) (by omega) (by omega) (by omega) (by omega) hri).mono (fun q hq => ⟨hq.1, by omega⟩)
    · exact (ih 0 (v4 + 1) r2 r3 r4 r5 r6 (by omega) (by omega) (by omega) (by omega) (by omega) hri).mono (fun q hq => ⟨hq.1, by omega⟩)
theorem xidle {kind fig sc : Int} {steps : Int → Int} (hp : PI kind fig sc steps) : fv_idleRoundsToEnd kind sc = some (if kind = 4 ∧ 1 ≤ sc then sc else 1) := by
  obtain ⟨p1, p2, p3, p4⟩ := hp
  rcases kinds p1 with rfl | rfl | rfl | rfl | rfl | rfl | rfl
  · simp [fv_idleRoundsToEnd, f_X6_idleRoundsToEnd]
  · simp [fv_idleRoundsToEnd, f_X6_idleRoundsToEnd]
  · simp [fv_idleRoundsToEnd, f_X6_idleRoundsToEnd]
  · simp [fv_idleRoundsToEnd, f_X6_idleRoundsToEnd]
  · have e : fv_idleRoundsToEnd 4 sc = f_X9_idleRoundsToEnd sc := by simp [fv_idleRoundsToEnd]
    rw [e]
    unfold f_X9_idleRoundsToEnd
    rw [zg_pos ⟨⟨by omega, by omega⟩, ⟨by omega, by omega⟩⟩]
    by_cases c : sc < 1
    · rw [if_pos c, if_neg (by omega)]
    · rw [if_neg c, if_pos ⟨rfl, by omega⟩]
  · simp [fv_idleRoundsToEnd, f_X6_idleRoundsToEnd]
  · simp [fv_idleRoundsToEnd, f_X6_idleRoundsToEnd]
theorem xend {B kind fig sc size there rb : Int} {steps line gone went : Int → Int} (hp : PI kind fig sc steps) (hB : B ≤ 5000) (h : RI B size there rb line went) : ok (f_X8_goToEnd kind size there rb fig sc steps line gone went) (fun r => RI 80000 size r.2.1 r.2.2.1 r.2.2.2.1 r.2.2.2.2.2 ∧ r.2.1 ≤ there) := by
  unfold f_X8_goToEnd
  rw [xidle hp]
  refine ok_bind.mpr (ok_some.mpr (ok_bind.mpr ?_))
  have hi : 0 ≤ (if kind = 4 ∧ 1 ≤ sc then sc else 1) ∧ (if kind = 4 ∧ 1 ≤ sc then sc else 1) ≤ 100 := by
    have := hp.2.2.1
    split <;> omega
  refine (xend_L hp hi B hB zF 0 0 there rb line gone went (by omega) (by omega) (by omega) (by omega) (by rw [zF_eq]; omega) (h.widen (by omega))).mono (fun r hr => ?_)
  obtain ⟨r1, r2, r3, r4, r5, r6, r7⟩ := r
  exact ok_some.mpr hr
