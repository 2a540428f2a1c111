/-! the class's row: closing up, striking -/
/-- the place that the j-th gets when the row closes up from v2 on, v1 being kept before -/
noncomputable def rk (v1 v2 : Int) (line went : Int → Int) (j : Int) : Int := v1 + cn (fun i => went (line (v2 + i)) = 0) (j - v2).toNat
theorem rk_0 (v1 v2 : Int) (line went : Int → Int) : rk v1 v2 line went v2 = v1 := by
  unfold rk
  rw [show (v2 - v2).toNat = 0 by omega]
  show v1 + 0 = v1
  omega
theorem rk_skip {v1 v2 j : Int} {line went : Int → Int} (hj : v2 < j) (hw : ¬ went (line v2) = 0) : rk v1 v2 line went j = rk v1 (v2 + 1) line went j := by
  unfold rk
  rw [show (j - v2).toNat = (j - (v2 + 1)).toNat + 1 by omega, cn_front, if_neg (by rw [Int.add_zero]; exact hw), Int.add_zero]
  congr 1
  exact cn_congr _ (fun i _ _ => by rw [show v2 + 1 + i = v2 + (i + 1) by omega])
theorem rk_keep {v1 v2 j : Int} {line went : Int → Int} (h1 : v1 ≤ v2) (hj : v2 < j) (hw : went (line v2) = 0) : rk v1 v2 line went j = rk (v1 + 1) (v2 + 1) (zup line v1 (line v2)) went j := by
  unfold rk
  rw [show (j - v2).toNat = (j - (v2 + 1)).toNat + 1 by omega, cn_front, if_pos (by rw [Int.add_zero]; exact hw)]
  have e : cn (fun i => went (zup line v1 (line v2) (v2 + 1 + i)) = 0) (j - (v2 + 1)).toNat = cn (fun i => went (line (v2 + (i + 1))) = 0) (j - (v2 + 1)).toNat := cn_congr _ (fun i p _ => by rw [zup_ne (show v2 + 1 + i ≠ v1 by omega), show v2 + 1 + i = v2 + (i + 1) by omega])
  rw [e]
  omega
def CuPost (v1 v2 there : Int) (line went : Int → Int) (a : Int) (l' : Int → Int) : Prop :=
  (v1 ≤ a ∧ a ≤ v1 + (there - v2)) ∧ eqr 0 v1 line l' ∧ (∀ i, v1 ≤ i → i < a → ∃ j, v2 ≤ j ∧ j < there ∧ went (line j) = 0 ∧ i = rk v1 v2 line went j) ∧ (∀ j, v2 ≤ j → j < there → went (line j) = 0 → (v1 ≤ rk v1 v2 line went j ∧ rk v1 v2 line went j < a) ∧ l' (rk v1 v2 line went j) = line j) ∧ a = rk v1 v2 line went there
theorem cu_end {v1 there : Int} {line went : Int → Int} : CuPost v1 there there line went v1 line :=
  ⟨⟨by omega, by omega⟩, eqr.rfl, fun i p q => absurd q (by omega), fun j p q => absurd q (by omega), (rk_0 v1 there line went).symm⟩
theorem cu_skip {v1 v2 there a : Int} {line went l' : Int → Int} (h2 : v2 < there) (hw : ¬ went (line v2) = 0) (h : CuPost v1 (v2 + 1) there line went a l') : CuPost v1 v2 there line went a l' := by
  obtain ⟨b1, b2, b3, b4, b5⟩ := h
  refine ⟨⟨b1.1, by omega⟩, b2, fun i p q => ?_, fun j p q e => ?_, ?_⟩
  · obtain ⟨j, j1, j2, j3, j4⟩ := b3 i p q
    exact ⟨j, by omega, j2, j3, by rw [rk_skip (by omega) hw]; exact j4⟩
  · by_cases hj : j = v2
    · subst hj; exact absurd e hw
    · rw [rk_skip (show v2 < j by omega) hw]
      exact b4 j (by omega) q e
  · rw [rk_skip h2 hw]; exact b5
theorem cu_keep {v1 v2 there a : Int} {line went l' : Int → Int} (h0 : 0 ≤ v1) (h1 : v1 ≤ v2) (h2 : v2 < there) (hw : went (line v2) = 0) (h : CuPost (v1 + 1) (v2 + 1) there (zup line v1 (line v2)) went a l') : CuPost v1 v2 there line went a l' := by
  obtain ⟨b1, b2, b3, b4, b5⟩ := h
  have un : ∀ i, v2 + 1 ≤ i → zup line v1 (line v2) i = line i := fun i p => zup_ne (by omega)
  have hv1 : l' v1 = line v2 := by rw [← b2 v1 h0 (by omega), zup_same]
  refine ⟨⟨by omega, by omega⟩, fun i p q => ?_, fun i p q => ?_, fun j p q e => ?_, ?_⟩
  · rw [← b2 i p (by omega), zup_ne (by omega)]
  · by_cases hi : i = v1
    · exact ⟨v2, by omega, h2, hw, by rw [rk_0]; exact hi⟩
    · obtain ⟨j, j1, j2, j3, j4⟩ := b3 i (by omega) q
      rw [un j j1] at j3
      exact ⟨j, by omega, j2, j3, by rw [rk_keep h1 (by omega) hw]; exact j4⟩
  · by_cases hj : j = v2
    · subst hj; rw [rk_0]; exact ⟨⟨by omega, by omega⟩, hv1⟩
    · have hg := b4 j (by omega) q (by rw [un j (by omega)]; exact e)
      rw [un j (by omega)] at hg
      rw [rk_keep h1 (show v2 < j by omega) hw]
      exact ⟨⟨by omega, hg.1.2⟩, hg.2⟩
  · rw [rk_keep h1 h2 hw]; exact b5
/-- the closed row holds just those who did not go, each once, as they stood -/
theorem rk_lt {v2 i j : Int} {v1 : Int} {line went : Int → Int} (h1 : v2 ≤ i) (h2 : i < j) (hw : went (line i) = 0) : rk v1 v2 line went i < rk v1 v2 line went j := by
  unfold rk
  have e1 : (fun k : Int => went (line (v2 + k)) = 0) (((i - v2).toNat : Nat) : Int) := by
    show went (line (v2 + (((i - v2).toNat : Nat) : Int))) = 0
    rw [show v2 + (((i - v2).toNat : Nat) : Int) = i by omega]; exact hw
  have e2 := cn_st (P := fun k : Int => went (line (v2 + k)) = 0) (n := (i - v2).toNat) e1
  have e3 := cn_mono (fun k : Int => went (line (v2 + k)) = 0) ((i - v2).toNat + 1) ((j - v2).toNat - ((i - v2).toNat + 1))
  rw [show (i - v2).toNat + 1 + ((j - v2).toNat - ((i - v2).toNat + 1)) = (j - v2).toNat by omega] at e3
  omega
theorem cu_closed {there a : Int} {line went l' : Int → Int} (h : CuPost 0 0 there line went a l') : Closed there line went a l' := by
  obtain ⟨b1, b2, b3, b4, b5⟩ := h
  refine ⟨⟨b1.1, by omega⟩, fun i p q => ?_, fun j p q e => ?_, fun hi i j p q p' q' e => ?_⟩
  · obtain ⟨j, j1, j2, j3, j4⟩ := b3 i p q
    exact ⟨j, j1, j2, by rw [j4]; exact (b4 j j1 j2 j3).2, j3⟩
  · exact ⟨_, (b4 j p q e).1.1, (b4 j p q e).1.2, (b4 j p q e).2⟩
  · obtain ⟨k, k1, k2, k3, k4⟩ := b3 i p q
    obtain ⟨m, m1, m2, m3, m4⟩ := b3 j p' q'
    rw [k4, m4, (b4 k k1 k2 k3).2, (b4 m m1 m2 m3).2] at e
    have := hi k m k1 k2 m1 m2 e
    rw [k4, m4, this]
/-- how the row closes up is settled -/
theorem cu_same {there a a' : Int} {line went l' line' went' l'' : Int → Int} (h : CuPost 0 0 there line went a l') (h' : CuPost 0 0 there line' went' a' l'') (e : eqr 0 there line line') (ew : ∀ i, 0 ≤ i → i < there → (went (line i) = 0 ↔ went' (line' i) = 0)) : a = a' ∧ eqr 0 a l' l'' := by
  have rke : ∀ j, 0 ≤ j → j ≤ there → rk 0 0 line went j = rk 0 0 line' went' j := fun j p q => by
    unfold rk
    congr 1
    exact cn_congr _ (fun i i1 i2 => by rw [Int.zero_add]; exact ew i i1 (by omega))
  obtain ⟨b1, b2, b3, b4, b5⟩ := h
  obtain ⟨c1, c2, c3, c4, c5⟩ := h'
  have ha : a = a' := by
    by_cases h : there < 0
    · omega
    · rw [b5, c5, rke there (by omega) (Int.le_refl _)]
  refine ⟨ha, fun i p q => ?_⟩
  obtain ⟨j, j1, j2, j3, j4⟩ := b3 i p q
  have g := (b4 j j1 j2 j3).2
  have g' := (c4 j j1 j2 ((ew j j1 j2).mp j3)).2
  rw [← rke j j1 (by omega), ← j4] at g'
  rw [← j4] at g
  rw [g, g', e j j1 j2]
theorem cu_count {there a : Int} {line went l' : Int → Int} (h : CuPost 0 0 there line went a l') : a = cn (fun i => went (line i) = 0) there.toNat := by
  rw [h.2.2.2.2]
  unfold rk
  rw [Int.zero_add, show there - 0 = there by omega]
  exact cn_congr _ (fun i _ _ => by rw [Int.zero_add])
theorem xcu_ok (there : Int) (went : Int → Int) : ∀ (n : Nat) (v1 v2 : Int) (line : Int → Int), 0 ≤ v1 → v1 ≤ v2 → v2 ≤ there → there ≤ 120 → there - v2 < n → (∀ i, v2 ≤ i → i < there → (0 ≤ line i ∧ line i < 121) ∧ zR (went (line i))) → ok (f_X8_closeUp_L4 n v1 v2 there line went) (fun r => CuPost v1 v2 there line went r.1 r.2) := by
  intro n
  induction n with
  | zero => intro v1 v2 line h0 h1 h2 h3 h4; exact absurd h4 (by omega)
  | succ n ih =>
    intro v1 v2 line h0 h1 h2 h3 h4 h5
    rw [f_X8_closeUp_L4_s]
    refine ok_zg.mpr ⟨⟨⟨by omega, by omega⟩, ⟨by omega, by omega⟩⟩, ok_ite.mpr ⟨fun c => ?_, fun c => ?_⟩⟩
    · have e : v2 = there := by omega
      subst e
      exact ok_some.mpr cu_end
    · have h6 := h5 v2 (by omega) (by omega)
      refine ok_zg.mpr ⟨⟨by omega, by omega⟩, ok_zg.mpr ⟨h6.1, ok_zg.mpr ⟨h6.2, ok_ite.mpr ⟨fun c2 => ?_, fun c2 => ?_⟩⟩⟩⟩
      · exact (ih v1 (v2 + 1) line h0 (by omega) (by omega) h3 (by omega) (fun i p q => h5 i (by omega) q)).mono (fun r h => cu_skip (by omega) c2 h)
      · have c3 : went (line v2) = 0 := Decidable.of_not_not c2
        refine ok_zg.mpr ⟨⟨by omega, by omega⟩, (ih (v1 + 1) (v2 + 1) (zup line v1 (line v2)) (by omega) (by omega) (by omega) h3 (by omega) (fun i p q => ?_)).mono (fun r h => cu_keep h0 h1 (by omega) c3 h)⟩
        rw [zup_ne (by omega)]
        exact h5 i (by omega) q
/-- the class's strike: the places hit, one by one -/
def ixp (back before p : Int) : Int := if back = 0 then p - 1 else before - p
theorem xst_ok (v3 v4 v5 rb : Int) (line : Int → Int) (hb : v3 = 0 ∨ v3 = 1) (h5 : 1 ≤ v5 ∧ v5 ≤ 100000) (h4 : 0 ≤ v4 ∧ v4 ≤ 120) (hl : ∀ i, 0 ≤ i → i < v4 → 0 ≤ line i ∧ line i < 121) : ∀ (n : Nat) (v6 v7 : Int) (gone went : Int → Int), 1 ≤ v7 → v7 ≤ 200000 → 0 ≤ v6 → v6 + (v4 - v7) + 1 ≤ 120 ∨ v4 < v7 → (0 < n ∧ v4 - v7 + 1 < n) → ok (f_X8_strike_L36 n v3 v4 v5 v6 v7 rb line gone went) (fun r => (∀ x, (∃ p, v7 ≤ p ∧ p ≤ v4 ∧ (p - v7) % v5 = 0 ∧ line (ixp v3 v4 p) = x) → r.2 x = rb) ∧ (∀ x, ¬ (∃ p, v7 ≤ p ∧ p ≤ v4 ∧ (p - v7) % v5 = 0 ∧ line (ixp v3 v4 p) = x) → r.2 x = went x)) := by
  intro n
  induction n with
  | zero => intro v6 v7 gone went a1 a2 a3 a4 a5; omega
  | succ n ih =>
    intro v6 v7 gone went a1 a2 a3 a4 a5
    rw [f_X8_strike_L36_s]
    refine ok_zg.mpr ⟨⟨⟨by omega, by omega⟩, ⟨by omega, by omega⟩⟩, ok_ite.mpr ⟨fun c => ?_, fun c => ?_⟩⟩
    · refine ok_some.mpr ⟨fun x hx => ?_, fun x _ => rfl⟩
      obtain ⟨p, p1, p2, -⟩ := hx
      omega
    · have step : ∀ s0, s0 = ixp v3 v4 v7 → ok (f_X8_strike_J59 (f_X8_strike_L36 n) v3 v4 v5 v6 v7 s0 rb line gone went) (fun r => (∀ x, (∃ p, v7 ≤ p ∧ p ≤ v4 ∧ (p - v7) % v5 = 0 ∧ line (ixp v3 v4 p) = x) → r.2 x = rb) ∧ (∀ x, ¬ (∃ p, v7 ≤ p ∧ p ≤ v4 ∧ (p - v7) % v5 = 0 ∧ line (ixp v3 v4 p) = x) → r.2 x = went x)) := by
        intro s0 hs0
        have hs : 0 ≤ s0 ∧ s0 < v4 := by
          rw [hs0]; unfold ixp
          split <;> omega
        unfold f_X8_strike_J59
        refine ok_zg.mpr ⟨⟨hs.1, by omega⟩, ok_zg.mpr ⟨hl s0 hs.1 hs.2, ok_zg.mpr ⟨⟨a3, by omega⟩, ?_⟩⟩⟩
        refine (ih (v6 + 1) (v7 + v5) _ _ (by omega) (by omega) (by omega) (by omega) (by omega)).mono (fun r h => ?_)
        obtain ⟨g1, g2⟩ := h
        have key : ∀ x, (∃ p, v7 ≤ p ∧ p ≤ v4 ∧ (p - v7) % v5 = 0 ∧ line (ixp v3 v4 p) = x) ↔ (line s0 = x ∨ ∃ p, v7 + v5 ≤ p ∧ p ≤ v4 ∧ (p - (v7 + v5)) % v5 = 0 ∧ line (ixp v3 v4 p) = x) := by
          intro x
          constructor
          · rintro ⟨p, p1, p2, p3, p4⟩
            by_cases hp : p = v7
            · left; rw [hs0, ← hp]; exact p4
            · right
              have e : (p - v7) % v5 = 0 := p3
              have hd : v5 ∣ (p - v7) := Int.dvd_of_emod_eq_zero e
              obtain ⟨q, hq⟩ := hd
              have hq1 : 1 ≤ q := by
                by_cases h : q < 1
                · have : v5 * q ≤ 0 := Int.mul_nonpos_of_nonneg_of_nonpos (by omega) (by omega)
                  omega
                · omega
              have hq2 : v5 * 1 ≤ v5 * q := Int.mul_le_mul_of_nonneg_left hq1 (by omega)
              refine ⟨p, by omega, p2, ?_, p4⟩
              have e2 : p - (v7 + v5) = v5 * (q - 1) := by rw [Int.mul_sub, ← hq]; omega
              rw [e2]
              exact Int.mul_emod_right v5 (q - 1)
          · rintro (h | ⟨p, p1, p2, p3, p4⟩)
            · exact ⟨v7, by omega, by omega, by rw [Int.sub_self]; exact Int.zero_emod _, by rw [← hs0]; exact h⟩
            · refine ⟨p, by omega, p2, ?_, p4⟩
              have e2 : p - v7 = (p - (v7 + v5)) + v5 := by omega
              rw [e2, Int.add_emod_right]
              exact p3
        refine ⟨fun x hx => ?_, fun x hx => ?_⟩
        · by_cases hy : ∃ p, v7 + v5 ≤ p ∧ p ≤ v4 ∧ (p - (v7 + v5)) % v5 = 0 ∧ line (ixp v3 v4 p) = x
          · exact g1 x hy
          · rw [g2 x hy]
            rcases (key x).mp hx with h | h
            · rw [← h, zup_same]
            · exact absurd h hy
        · rw [g2 x (fun hy => hx ((key x).mpr (Or.inr hy)))]
          exact zup_ne (fun e => hx ((key x).mpr (Or.inl e.symm)))
      refine ok_zg.mpr ⟨⟨by omega, by omega⟩, ok_ite.mpr ⟨fun c2 => step _ (by unfold ixp; rw [if_pos c2]), fun c2 => step _ (by unfold ixp; rw [if_neg c2])⟩⟩
