/-! the model's row -/
theorem min_ {v lo hi : Int} (hv : zR v) (h1 : zR lo) (h2 : zR hi) : f_X11_in v lo hi = some (if lo ≤ v ∧ v ≤ hi then 1 else 0) := by
  have z : ∀ a b : Int, zR (zcmp a b) := fun a b => by
    unfold zcmp
    split
    · exact ⟨by omega, by omega⟩
    · split <;> exact ⟨by omega, by omega⟩
  have L : ∀ a : Int, zR a → zL a := fun a h => ⟨by omega, by omega⟩
  have c1 : ∀ a b : Int, zcmp a b < 0 ↔ a < b := fun a b => by
    unfold zcmp
    split
    · omega
    · split <;> omega
  have c2 : ∀ a b : Int, 0 < zcmp a b ↔ b < a := fun a b => by
    unfold zcmp
    split
    · omega
    · split <;> omega
  unfold f_X11_in
  rw [zg_pos ⟨L _ hv, L _ h1⟩, zg_pos (z _ _)]
  by_cases q1 : v < lo
  · rw [if_pos ((c1 v lo).mpr q1), if_neg (by omega)]
  · rw [if_neg (fun q => q1 ((c1 v lo).mp q)), zg_pos ⟨L _ hv, L _ h2⟩, zg_pos (z _ _)]
    by_cases q2 : hi < v
    · rw [if_pos ((c2 v hi).mpr q2), if_neg (by omega)]
    · rw [if_neg (fun q => q2 ((c2 v hi).mp q)), if_pos (by omega)]
theorem mref {v : Int} (h : -7 < v ∧ v ≤ 0) (R : Int → Int) : ok (f_X11_refuse v R) (fun r => r.1 = v) := by
  unfold f_X11_refuse
  exact ok_zg.mpr ⟨⟨by omega, by omega⟩, ok_zg.mpr ⟨⟨by omega, by omega⟩, ok_some.mpr rfl⟩⟩
theorem mnum {v size : Int} (hv : zR v) (hs : zR size) : f_X11_isNumber v size = some (if 1 ≤ v ∧ v ≤ size then 1 else 0) := by
  unfold f_X11_isNumber
  rw [zg_pos hv, zg_pos hs, min_ hv ⟨by omega, by omega⟩ hs]
  show zg _ (some _) = _
  rw [zg_pos (by split <;> simp)]
theorem mct {kind fig sc there r : Int} {steps line : Int → Int} (hp : PI kind fig sc steps) (ht : 0 ≤ there ∧ there ≤ 120) (hl : ∀ i, 0 ≤ i → i < there → 1 ≤ line i ∧ line i ≤ 120) (hr : 1 ≤ r ∧ r ≤ 90000) : f_X11_countOf r there kind fig sc steps line = some (CT kind fig sc there r steps line) := by
  obtain ⟨p1, p2, p3, p4⟩ := hp
  have zk : zR kind := ⟨by omega, by omega⟩
  unfold f_X11_countOf CT
  rw [zg_pos zk]
  by_cases k6 : kind = 6
  · rw [if_neg (fun q => q k6), if_pos k6]
  · rw [if_pos k6, if_neg k6, zg_pos zk]
    by_cases k2 : kind = 2
    · rw [if_pos k2, if_pos k2]
      unfold f_X11_countOf_J27
      rw [zg_pos zk, if_pos (by omega)]
    · rw [if_neg k2, if_neg k2, zg_pos zk]
      by_cases k4 : kind = 4
      · rw [if_neg (fun q => q k4), if_pos k4]
        unfold f_X11_countOf_J27
        rw [zg_pos zk, if_neg (fun q => q k4), zg_pos ⟨by omega, by omega⟩]
        by_cases c : sc ≤ 0
        · rw [if_pos c, if_neg (show ¬ 0 < sc by omega)]
        · have h1 := Int.emod_nonneg (r - 1) (show sc ≠ 0 by omega)
          have h2 := Int.emod_lt_of_pos (r - 1) (show 0 < sc by omega)
          rw [if_neg c, if_pos (show 0 < sc by omega), zg_pos ⟨by omega, by omega, by omega, by omega⟩, zg_pos ⟨h1, by omega⟩]
      · rw [if_pos k4, if_neg k4, zg_pos zk]
        by_cases k1 : kind = 1
        · rw [if_neg (fun q => q k1), if_pos k1, zg_pos ⟨by omega, by omega⟩]
          by_cases c : r ≤ 1
          · rw [if_pos c, if_pos c, show r + 1 = 2 by omega]
          · rw [if_neg c, if_neg c, zg_pos ⟨⟨by omega, by omega⟩, ⟨by omega, by omega⟩⟩]
            have J : ∀ s0 : Int, zR s0 → f_X11_countOf_J101 s0 = some (if s0 < 2 then 2 else s0) := fun s0 h => by
              unfold f_X11_countOf_J101
              rw [zg_pos h]
              by_cases q : 2 ≤ s0
              · rw [if_pos q, if_neg (by omega)]
              · rw [if_neg q, if_pos (by omega)]
            by_cases c2 : there < r
            · rw [if_neg (show ¬ r ≤ there by omega), J _ ⟨by omega, by omega⟩]
              simp only [if_pos c2]
            · have h3 := hl (r - 1) (by omega) (by omega)
              rw [if_pos (show r ≤ there by omega), zg_pos ⟨by omega, by omega⟩, J _ ⟨by omega, by omega⟩]
              simp only [if_neg c2]
        · rw [if_pos k1, if_neg k1]
theorem mcu_ok (there : Int) (went : Int → Int) : ∀ (n : Nat) (v1 v2 : Int) (line : Int → Int), 0 ≤ v1 → v1 ≤ v2 → v2 ≤ there → there ≤ 120 → there - v2 < n → (∀ i, v2 ≤ i → i < there → (0 ≤ line i ∧ line i < 121) ∧ zR (went (line i))) → ok (f_X11_strike_L130 n v1 v2 there line went) (fun r => CuPost v1 v2 there line went r.1 r.2) := by
  intro n
  induction n with
  | zero => intro v1 v2 line h0 h1 h2 h3 h4; exact absurd h4 (by omega)
  | succ n ih =>
    intro v1 v2 line h0 h1 h2 h3 h4 h5
    rw [f_X11_strike_L130_s]
    refine ok_zg.mpr ⟨⟨⟨by omega, by omega⟩, ⟨by omega, by omega⟩⟩, ok_ite.mpr ⟨fun c => ?_, fun c => ?_⟩⟩
    · have e : v2 = there := by omega
      subst e
      exact ok_some.mpr cu_end
    · have h6 := h5 v2 (by omega) (by omega)
      refine ok_zg.mpr ⟨⟨by omega, by omega⟩, ok_zg.mpr ⟨h6.1, ok_zg.mpr ⟨h6.2, ok_ite.mpr ⟨fun c2 => ?_, fun c2 => ?_⟩⟩⟩⟩
      · exact (ih v1 (v2 + 1) line h0 (by omega) (by omega) h3 (by omega) (fun i p q => h5 i (by omega) q)).mono (fun r h => cu_skip (by omega) c2 h)
      · have c3 : went (line v2) = 0 := Decidable.of_not_not c2
        refine ok_zg.mpr ⟨⟨by omega, by omega⟩, ok_zg.mpr ⟨⟨by omega, by omega⟩, (ih (v1 + 1) (v2 + 1) (zup line v1 (line v2)) (by omega) (by omega) (by omega) h3 (by omega) (fun i p q => ?_)).mono (fun r h => cu_keep h0 h1 (by omega) c3 h)⟩⟩
        rw [zup_ne (by omega)]
        exact h5 i (by omega) q
/-- which of the model's places are hit -/
def HK (c fst k : Int) : Prop := if fst = 0 then (k + 1) % c = 0 else k % c = 0
def atk (back there k : Int) : Int := if back = 0 then k else (there - 1) - k
theorem hk_hit {c fst back there k : Int} (hc : 2 ≤ c) (hk : 0 ≤ k ∧ k < there) (hb : back = 0 ∨ back = 1) : HK c fst k ↔ Hit c (if fst = 0 then c else 1) back there (atk back there k) := by
  have e : (if back = 0 then atk back there k + 1 else there - atk back there k) = k + 1 := by
    unfold atk
    rcases hb with rfl | rfl
    · rw [if_pos rfl, if_pos rfl]
    · rw [if_neg (by decide), if_neg (by decide)]; omega
  unfold Hit HK
  rw [e]
  by_cases hf : fst = 0
  · rw [if_pos hf, if_pos hf]
    constructor
    · intro h
      have hd : c ∣ (k + 1) := Int.dvd_of_emod_eq_zero h
      have h1 : c ≤ k + 1 := Int.le_of_dvd (by omega) hd
      refine ⟨h1, ?_⟩
      rw [Int.sub_emod, h, Int.emod_self, Int.sub_self]
      exact Int.zero_emod _
    · rintro ⟨h1, h2⟩
      have e2 : k + 1 = (k + 1 - c) + c := by omega
      rw [e2, Int.add_emod_right]
      exact h2
  · rw [if_neg hf, if_neg hf, show k + 1 - 1 = k by omega]
    constructor
    · intro h; exact ⟨by omega, h⟩
    · intro h; exact h.2
theorem mst_ok (c back fst there rb : Int) (row : Int → Int) (hb : back = 0 ∨ back = 1) (hf : fst = 0 ∨ fst = 1) (hc : 2 ≤ c ∧ c ≤ 99999) (ht : 0 ≤ there ∧ there ≤ 120) (hl : ∀ i, 0 ≤ i → i < there → 1 ≤ row i ∧ row i ≤ 120) : ∀ (n : Nat) (v4 v5 : Int) (went gone : Int → Int), 0 ≤ v4 → v4 ≤ v5 → v5 ≤ there → there - v5 < n → (∀ j, 0 ≤ j → j < v4 → 1 ≤ gone j ∧ gone j ≤ 120) → ok (f_X11_strike_L16 n c back fst v4 v5 there rb row went gone) (fun r => (∀ x, (∃ k, v5 ≤ k ∧ k < there ∧ HK c fst k ∧ row (atk back there k) = x) → r.2.1 x = rb) ∧ (∀ x, ¬ (∃ k, v5 ≤ k ∧ k < there ∧ HK c fst k ∧ row (atk back there k) = x) → r.2.1 x = went x) ∧ r.1 = v4 + cn (fun j => HK c fst (v5 + j)) (there - v5).toNat ∧ (∀ j, 0 ≤ j → j < r.1 → 1 ≤ r.2.2 j ∧ r.2.2 j ≤ 120)) := by
  intro n
  induction n with
  | zero => intro v4 v5 went gone h0 h1 h2 h3; exact absurd h3 (by omega)
  | succ n ih =>
    intro v4 v5 went gone h0 h1 h2 h3 h4
    rw [f_X11_strike_L16_s]
    refine ok_zg.mpr ⟨⟨⟨by omega, by omega⟩, ⟨by omega, by omega⟩⟩, ok_ite.mpr ⟨fun q => ?_, fun q => ?_⟩⟩
    · refine ok_some.mpr ⟨fun x hx => ?_, fun x _ => rfl, ?_, h4⟩
      · obtain ⟨k, k1, k2, -⟩ := hx
        omega
      · rw [show (there - v5).toNat = 0 by omega]
        show v4 = v4 + 0
        omega
    · have hat : 0 ≤ atk back there v5 ∧ atk back there v5 < there := by
        unfold atk
        rcases hb with rfl | rfl
        · rw [if_pos rfl]; omega
        · rw [if_neg (by decide)]; omega
      have split : ∀ x, (∃ k, v5 ≤ k ∧ k < there ∧ HK c fst k ∧ row (atk back there k) = x) ↔ ((HK c fst v5 ∧ row (atk back there v5) = x) ∨ ∃ k, v5 + 1 ≤ k ∧ k < there ∧ HK c fst k ∧ row (atk back there k) = x) := by
        intro x
        constructor
        · rintro ⟨k, k1, k2, k3, k4⟩
          by_cases hk : k = v5
          · subst hk; exact Or.inl ⟨k3, k4⟩
          · exact Or.inr ⟨k, by omega, k2, k3, k4⟩
        · rintro (⟨g1, g2⟩ | ⟨k, k1, k2, k3, k4⟩)
          · exact ⟨v5, by omega, by omega, g1, g2⟩
          · exact ⟨k, by omega, k2, k3, k4⟩
      have cnt : cn (fun j => HK c fst (v5 + j)) (there - v5).toNat = cn (fun j => HK c fst (v5 + 1 + j)) (there - (v5 + 1)).toNat + @ite Int (HK c fst v5) (Classical.propDecidable _) 1 0 := by
        rw [show (there - v5).toNat = (there - (v5 + 1)).toNat + 1 by omega, cn_front]
        have e1 : cn (fun i => HK c fst (v5 + (i + 1))) (there - (v5 + 1)).toNat = cn (fun j => HK c fst (v5 + 1 + j)) (there - (v5 + 1)).toNat := cn_congr _ (fun i _ _ => by rw [show v5 + (i + 1) = v5 + 1 + i by omega])
        rw [e1]
        have e2 : v5 + 0 = v5 := by omega
        rw [e2]
      have yes : HK c fst v5 → ok (f_X11_strike_J78 (f_X11_strike_L16 n) c back fst v4 v5 (atk back there v5) 1 there rb row went gone) (fun r => (∀ x, (∃ k, v5 ≤ k ∧ k < there ∧ HK c fst k ∧ row (atk back there k) = x) → r.2.1 x = rb) ∧ (∀ x, ¬ (∃ k, v5 ≤ k ∧ k < there ∧ HK c fst k ∧ row (atk back there k) = x) → r.2.1 x = went x) ∧ r.1 = v4 + cn (fun j => HK c fst (v5 + j)) (there - v5).toNat ∧ (∀ j, 0 ≤ j → j < r.1 → 1 ≤ r.2.2 j ∧ r.2.2 j ≤ 120)) := by
        intro hy
        have hr := hl _ hat.1 hat.2
        unfold f_X11_strike_J78
        refine ok_zg.mpr ⟨⟨by omega, by omega⟩, ok_ite.mpr ⟨fun z => absurd z (by decide), fun _ => ok_zg.mpr ⟨⟨hat.1, by omega⟩, ok_zg.mpr ⟨⟨by omega, by omega⟩, ok_zg.mpr ⟨⟨hat.1, by omega⟩, ok_zg.mpr ⟨⟨by omega, by omega⟩, ?_⟩⟩⟩⟩⟩⟩
        refine (ih (v4 + 1) (v5 + 1) _ _ (by omega) (by omega) (by omega) (by omega) (fun j p q => ?_)).mono (fun r h => ?_)
        · by_cases hj : j = v4
          · rw [hj, zup_same]; exact hr
          · rw [zup_ne hj]; exact h4 j p (by omega)
        · obtain ⟨g1, g2, g3, g4⟩ := h
          refine ⟨fun x hx => ?_, fun x hx => ?_, ?_, g4⟩
          · by_cases hz : ∃ k, v5 + 1 ≤ k ∧ k < there ∧ HK c fst k ∧ row (atk back there k) = x
            · exact g1 x hz
            · rw [g2 x hz]
              rcases (split x).mp hx with h | h
              · rw [← h.2, zup_same]
              · exact absurd h hz
          · rw [g2 x (fun hz => hx ((split x).mpr (Or.inr hz)))]
            exact zup_ne (fun e => hx ((split x).mpr (Or.inl ⟨hy, e.symm⟩)))
          · rw [g3, cnt, if_pos hy]; omega
      have no : ¬ HK c fst v5 → ok (f_X11_strike_J78 (f_X11_strike_L16 n) c back fst v4 v5 (atk back there v5) 0 there rb row went gone) (fun r => (∀ x, (∃ k, v5 ≤ k ∧ k < there ∧ HK c fst k ∧ row (atk back there k) = x) → r.2.1 x = rb) ∧ (∀ x, ¬ (∃ k, v5 ≤ k ∧ k < there ∧ HK c fst k ∧ row (atk back there k) = x) → r.2.1 x = went x) ∧ r.1 = v4 + cn (fun j => HK c fst (v5 + j)) (there - v5).toNat ∧ (∀ j, 0 ≤ j → j < r.1 → 1 ≤ r.2.2 j ∧ r.2.2 j ≤ 120)) := by
        intro hy
        unfold f_X11_strike_J78
        refine ok_zg.mpr ⟨⟨by omega, by omega⟩, ok_ite.mpr ⟨fun _ => ?_, fun z => absurd rfl z⟩⟩
        refine (ih v4 (v5 + 1) went gone (by omega) (by omega) (by omega) (by omega) h4).mono (fun r h => ?_)
        obtain ⟨g1, g2, g3, g4⟩ := h
        refine ⟨fun x hx => ?_, fun x hx => ?_, ?_, g4⟩
        · rcases (split x).mp hx with h | h
          · exact absurd h.1 hy
          · exact g1 x h
        · exact g2 x (fun hz => hx ((split x).mpr (Or.inr hz)))
        · rw [g3, cnt, if_neg hy]; omega
      have step : ∀ s0, s0 = atk back there v5 → ok (f_X11_strike_J43 (f_X11_strike_L16 n) c back fst v4 v5 s0 there rb row went gone) (fun r => (∀ x, (∃ k, v5 ≤ k ∧ k < there ∧ HK c fst k ∧ row (atk back there k) = x) → r.2.1 x = rb) ∧ (∀ x, ¬ (∃ k, v5 ≤ k ∧ k < there ∧ HK c fst k ∧ row (atk back there k) = x) → r.2.1 x = went x) ∧ r.1 = v4 + cn (fun j => HK c fst (v5 + j)) (there - v5).toNat ∧ (∀ j, 0 ≤ j → j < r.1 → 1 ≤ r.2.2 j ∧ r.2.2 j ≤ 120)) := by
        intro s0 hs0
        subst hs0
        have m1 := Int.emod_nonneg (v5 + 1) (show c ≠ 0 by omega)
        have m2 := Int.emod_lt_of_pos (v5 + 1) (show 0 < c by omega)
        have m3 := Int.emod_nonneg v5 (show c ≠ 0 by omega)
        have m4 := Int.emod_lt_of_pos v5 (show 0 < c by omega)
        unfold f_X11_strike_J43
        refine ok_zg.mpr ⟨⟨by omega, by omega⟩, ok_ite.mpr ⟨fun z => ?_, fun z => ?_⟩⟩
        · have eh : HK c fst v5 ↔ (v5 + 1) % c = 0 := by unfold HK; rw [if_pos z]
          exact ok_zg.mpr ⟨⟨by omega, by omega, by omega, by omega⟩, ok_zg.mpr ⟨⟨by omega, by omega⟩, ok_ite.mpr ⟨fun y => no (fun q => y (eh.mp q)), fun y => yes (eh.mpr (Decidable.of_not_not y))⟩⟩⟩
        · have eh : HK c fst v5 ↔ v5 % c = 0 := by unfold HK; rw [if_neg z]
          exact ok_zg.mpr ⟨⟨by omega, by omega, by omega, by omega⟩, ok_zg.mpr ⟨⟨by omega, by omega⟩, ok_ite.mpr ⟨fun y => no (fun q => y (eh.mp q)), fun y => yes (eh.mpr (Decidable.of_not_not y))⟩⟩⟩
      refine ok_zg.mpr ⟨⟨by omega, by omega⟩, ok_ite.mpr ⟨fun z => step _ (by unfold atk; rw [if_pos z]), fun z => step _ (by unfold atk; rw [if_neg z])⟩⟩
