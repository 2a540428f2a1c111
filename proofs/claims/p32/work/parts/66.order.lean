/-! in which order they go: the lists of both sides -/
theorem mgone_L (c back fst there rb : Int) (row : Int → Int) (hb : back = 0 ∨ back = 1) (hf : fst = 0 ∨ fst = 1) (hc : 2 ≤ c ∧ c ≤ 99999) (ht : 0 ≤ there ∧ there ≤ 120) (hl : ∀ i, 0 ≤ i → i < there → 1 ≤ row i ∧ row i ≤ 120) : ∀ (n : Nat) (v4 v5 : Int) (went gone : Int → Int), 0 ≤ v4 → v4 ≤ v5 → v5 ≤ there → there - v5 < n → ok (f_X11_strike_L16 n c back fst v4 v5 there rb row went gone) (fun r => (∀ j, j < v4 → r.2.2 j = gone j) ∧ (∀ k, v5 ≤ k → k < there → HK c fst k → r.2.2 (v4 + cn (fun j => HK c fst (v5 + j)) (k - v5).toNat) = row (atk back there k))) := by
  intro n
  induction n with
  | zero => intro v4 v5 went gone h0 h1 h2 h3; exact absurd h3 (by omega)
  | succ n ih =>
    intro v4 v5 went gone h0 h1 h2 h3
    rw [f_X11_strike_L16_s]
    refine ok_zg.mpr ⟨⟨⟨by omega, by omega⟩, ⟨by omega, by omega⟩⟩, ok_ite.mpr ⟨fun q => ok_some.mpr ⟨fun j _ => rfl, fun k p q' => absurd q' (by omega)⟩, fun q => ?_⟩⟩
    have hat : 0 ≤ atk back there v5 ∧ atk back there v5 < there := by
      unfold atk
      rcases hb with rfl | rfl
      · rw [if_pos rfl]; omega
      · rw [if_neg (by decide)]; omega
    have cnt : ∀ k, v5 < k → cn (fun j => HK c fst (v5 + j)) (k - v5).toNat = cn (fun j => HK c fst (v5 + 1 + j)) (k - (v5 + 1)).toNat + @ite Int (HK c fst v5) (Classical.propDecidable _) 1 0 := by
      intro k hk
      rw [show (k - v5).toNat = (k - (v5 + 1)).toNat + 1 by omega, cn_front]
      have e1 : cn (fun i => HK c fst (v5 + (i + 1))) (k - (v5 + 1)).toNat = cn (fun j => HK c fst (v5 + 1 + j)) (k - (v5 + 1)).toNat := cn_congr _ (fun i _ _ => by rw [show v5 + (i + 1) = v5 + 1 + i by omega])
      rw [e1]
      have e2 : v5 + 0 = v5 := by omega
      rw [e2]
    have yes : HK c fst v5 → ok (f_X11_strike_J78 (f_X11_strike_L16 n) c back fst v4 v5 (atk back there v5) 1 there rb row went gone) (fun r => (∀ j, j < v4 → r.2.2 j = gone j) ∧ (∀ k, v5 ≤ k → k < there → HK c fst k → r.2.2 (v4 + cn (fun j => HK c fst (v5 + j)) (k - v5).toNat) = row (atk back there k))) := by
      intro hy
      have hr := hl _ hat.1 hat.2
      unfold f_X11_strike_J78
      refine ok_zg.mpr ⟨⟨by omega, by omega⟩, ok_ite.mpr ⟨fun z => absurd z (by decide), fun _ => ok_zg.mpr ⟨⟨hat.1, by omega⟩, ok_zg.mpr ⟨⟨by omega, by omega⟩, ok_zg.mpr ⟨⟨hat.1, by omega⟩, ok_zg.mpr ⟨⟨by omega, by omega⟩, ?_⟩⟩⟩⟩⟩⟩
      refine (ih (v4 + 1) (v5 + 1) _ _ (by omega) (by omega) (by omega) (by omega)).mono (fun r h => ?_)
      obtain ⟨g1, g2⟩ := h
      refine ⟨fun j hj => ?_, fun k p q' hk => ?_⟩
      · rw [g1 j (by omega), zup_ne (by omega)]
      · by_cases e : k = v5
        · subst e
          rw [show (k - k).toNat = 0 by omega]
          show r.2.2 (v4 + 0) = _
          rw [Int.add_zero, g1 v4 (by omega), zup_same]
        · have := g2 k (by omega) q' hk
          rw [cnt k (by omega), if_pos hy]
          rw [show v4 + (cn (fun j => HK c fst (v5 + 1 + j)) (k - (v5 + 1)).toNat + 1) = v4 + 1 + cn (fun j => HK c fst (v5 + 1 + j)) (k - (v5 + 1)).toNat by omega]
          exact this
    have no : ¬ HK c fst v5 → ok (f_X11_strike_J78 (f_X11_strike_L16 n) c back fst v4 v5 (atk back there v5) 0 there rb row went gone) (fun r => (∀ j, j < v4 → r.2.2 j = gone j) ∧ (∀ k, v5 ≤ k → k < there → HK c fst k → r.2.2 (v4 + cn (fun j => HK c fst (v5 + j)) (k - v5).toNat) = row (atk back there k))) := by
      intro hy
      unfold f_X11_strike_J78
      refine ok_zg.mpr ⟨⟨by omega, by omega⟩, ok_ite.mpr ⟨fun _ => ?_, fun z => absurd rfl z⟩⟩
      refine (ih v4 (v5 + 1) went gone (by omega) (by omega) (by omega) (by omega)).mono (fun r h => ?_)
      obtain ⟨g1, g2⟩ := h
      refine ⟨g1, fun k p q' hk => ?_⟩
      by_cases e : k = v5
      · subst e; exact absurd hk hy
      · have := g2 k (by omega) q' hk
        rw [cnt k (by omega), if_neg hy, Int.add_zero]
        exact this
    have step : ∀ s0, s0 = atk back there v5 → ok (f_X11_strike_J43 (f_X11_strike_L16 n) c back fst v4 v5 s0 there rb row went gone) (fun r => (∀ j, j < v4 → r.2.2 j = gone j) ∧ (∀ k, v5 ≤ k → k < there → HK c fst k → r.2.2 (v4 + cn (fun j => HK c fst (v5 + j)) (k - v5).toNat) = row (atk back there k))) := by
      intro s0 hs0
      subst hs0
      have m1 := Int.emod_nonneg (v5 + 1) (show c ≠ 0 by omega)
      have m2 := Int.emod_lt_of_pos (v5 + 1) (show 0 < c by omega)
      have m3 := Int.emod_nonneg v5 (show c ≠ 0 by omega)
      have m4 := Int.emod_lt_of_pos v5 (show 0 < c by omega)
      unfold f_X11_strike_J43
      refine ok_zg.mpr ⟨⟨by omega, by omega⟩, ok_ite.mpr ⟨fun z => ?_, fun z => ?_⟩⟩
      · have eh : HK c fst v5 ↔ (v5 + 1) % c = 0 := by unfold HK; rw [if_pos z]
        exact ok_zg.mpr ⟨⟨by omega, by omega, by omega, by omega⟩, ok_zg.mpr ⟨⟨by omega, by omega⟩, ok_ite.mpr ⟨fun y => no (fun q => y (eh.mp q)), fun y => yes (eh.mpr (Decidable.of_not_not y))⟩⟩⟩
      · have eh : HK c fst v5 ↔ v5 % c = 0 := by unfold HK; rw [if_neg z]
        exact ok_zg.mpr ⟨⟨by omega, by omega, by omega, by omega⟩, ok_zg.mpr ⟨⟨by omega, by omega⟩, ok_ite.mpr ⟨fun y => no (fun q => y (eh.mp q)), fun y => yes (eh.mpr (Decidable.of_not_not y))⟩⟩⟩
    exact ok_zg.mpr ⟨⟨by omega, by omega⟩, ok_ite.mpr ⟨fun z => step _ (by unfold atk; rw [if_pos z]), fun z => step _ (by unfold atk; rw [if_neg z])⟩⟩
/-- the list of those struck, in the model -/
def GL (c fst back there : Int) (row g : Int → Int) : Prop := ∀ k, 0 ≤ k → k < there → HK c fst k → g (cn (fun j => HK c fst j) k.toNat) = row (atk back there k)
theorem mgone {B size there rb c back fst : Int} {row gone went : Int → Int} (h : RI B size there rb row went) (hB : B ≤ 80000) (hc : 2 ≤ c ∧ c ≤ 99999) (hb : back = 0 ∨ back = 1) (hf : fst = 0 ∨ fst = 1) : ok (f_X11_strike c back fst there rb row went gone) (fun r => GL c fst back there row r.2.2.2.2.2 ∧ r.1 = cn (fun j => HK c fst j) there.toNat) := by
  have b1 := h.1
  have b2 := h.2.1
  obtain ⟨⟨r1, r2, r3, r4, r5, r6⟩, e, -⟩ := mstrike (gone := gone) h hB hc hb hf
  refine ⟨_, e, ?_⟩
  unfold f_X11_strike at e
  obtain ⟨⟨a1, a2, a3⟩, e1, e2⟩ := zb e
  dsimp only at e2
  obtain ⟨⟨b1', b2'⟩, e3, e4⟩ := zb e2
  cases e4
  have g := (mgone_L c back fst there (rb + 1) row hb hf hc ⟨b2.1, by omega⟩ (fun i p q => by have := h.2.2.2.1 i p q; omega) zF 0 0 went gone (by omega) (by omega) b2.1 (by rw [zF_eq]; omega)).get e1
  have g' := (mst_ok c back fst there (rb + 1) row hb hf hc ⟨b2.1, by omega⟩ (fun i p q => by have := h.2.2.2.1 i p q; omega) zF 0 0 went gone (by omega) (by omega) b2.1 (by rw [zF_eq]; omega) (fun j p q => absurd q (by omega))).get e1
  have e5 : ∀ n : Nat, cn (fun j => HK c fst (0 + j)) n = cn (fun j => HK c fst j) n := fun n => cn_congr _ (fun i _ _ => by rw [Int.zero_add])
  refine ⟨?_, by rw [g'.2.2.1, show (there - 0).toNat = there.toNat by omega, Int.zero_add, e5]⟩
  intro k p q hk
  have := g.2 k p q hk
  rw [show (k - 0).toNat = k.toNat by omega, Int.zero_add] at this
  rw [e5] at this
  exact this
/-- the i-th who is hit -/
theorem hk_i {c fst : Int} (hc : 2 ≤ c) (i : Nat) : HK c fst ((if fst = 0 then c else 1) - 1 + i * c) := by
  unfold HK
  by_cases h : fst = 0
  · rw [if_pos h, if_pos h, show c - 1 + (i : Int) * c + 1 = c * (i + 1) by rw [Int.mul_add, Int.mul_one, Int.mul_comm]; omega]
    exact Int.mul_emod_right c _
  · rw [if_neg h, if_neg h, show (1 : Int) - 1 + (i : Int) * c = c * i by rw [Int.mul_comm]; omega]
    exact Int.mul_emod_right c _
theorem cn_none {P : Int → Prop} {n : Nat} : ∀ (m : Nat), (∀ i : Int, (n : Int) ≤ i → i < (n : Int) + m → ¬ P i) → cn P (n + m) = cn P n := by
  intro m
  induction m with
  | zero => intro _; rfl
  | succ m ih =>
    intro h
    rw [show n + (m + 1) = (n + m) + 1 from rfl, cn_sf (h ((n + m : Nat) : Int) (by omega) (by omega)), ih (fun i p q => h i p (by omega))]
theorem hk_not {c fst k : Int} {i : Nat} (hc : 2 ≤ c) (h1 : (if fst = 0 then c else 1) - 1 + i * c < k) (h2 : k < (if fst = 0 then c else 1) - 1 + i * c + c) : ¬ HK c fst k := by
  have hm : (i : Int) * c = c * i := Int.mul_comm _ _
  unfold HK
  by_cases h : fst = 0
  · rw [if_pos h] at h1 h2 ⊢
    have e : k + 1 = (k + 1 - c * (i + 1)) + c * (i + 1) := by omega
    rw [e, Int.add_mul_emod_self_left]
    have e2 : c * ((i : Int) + 1) = c * i + c := by rw [Int.mul_add, Int.mul_one]
    rw [Int.emod_eq_of_lt (by omega) (by omega)]
    omega
  · rw [if_neg h] at h1 h2 ⊢
    have e : k = (k - c * i) + c * i := by omega
    rw [e, Int.add_mul_emod_self_left, Int.emod_eq_of_lt (by omega) (by omega)]
    omega
theorem hk_low {c fst k : Int} (hc : 2 ≤ c) (h0 : 0 ≤ k) (h1 : k < (if fst = 0 then c else 1) - 1) : ¬ HK c fst k := by
  unfold HK
  by_cases h : fst = 0
  · rw [if_pos h] at h1 ⊢
    rw [Int.emod_eq_of_lt (by omega) (by omega)]
    omega
  · rw [if_neg h] at h1
    omega
theorem hk_rank {c fst : Int} (hc : 2 ≤ c) : ∀ (i : Nat), cn (fun j => HK c fst j) ((if fst = 0 then c else 1) - 1 + i * c).toNat = i := by
  intro i
  induction i with
  | zero =>
    have e := cn_none (P := fun j => HK c fst j) (n := 0) ((if fst = 0 then c else 1) - 1 + ((0 : Nat) : Int) * c).toNat (fun k p q => hk_low hc (by omega) (by
      have : ((0 : Nat) : Int) * c = 0 := by rw [Int.natCast_zero, Int.zero_mul]
      rw [this] at q
      split at q <;> split <;> omega))
    rw [Nat.zero_add] at e
    exact e
  | succ i ih =>
    have hb : 1 ≤ (if fst = 0 then c else 1) := by split <;> omega
    have hm : ((i + 1 : Nat) : Int) * c = (i : Int) * c + c := by rw [Int.natCast_add, Int.add_mul]; omega
    have hn : 0 ≤ (i : Int) * c := Int.mul_nonneg (by omega) (by omega)
    generalize hp : (if fst = 0 then c else 1) - 1 + (i : Int) * c = p at ih
    rw [hm, show (if fst = 0 then c else 1) - 1 + ((i : Int) * c + c) = p + c by omega]
    have e1 : (p + c).toNat = (p.toNat + 1) + (c - 1).toNat := by omega
    have e2 : cn (fun j => HK c fst j) (p.toNat + 1) = cn (fun j => HK c fst j) p.toNat + 1 := cn_st (by
      show HK c fst ((p.toNat : Nat) : Int)
      rw [show ((p.toNat : Nat) : Int) = p by omega, ← hp]
      exact hk_i hc i)
    have e3 := cn_none (P := fun j => HK c fst j) (n := p.toNat + 1) (c - 1).toNat (fun k q1 q2 => hk_not (i := i) hc (by rw [hp]; omega) (by rw [hp]; omega))
    rw [e1, e3, e2, ih]
    omega
/-- the class's list -/
theorem xgone_L (v3 v4 v5 rb : Int) (line : Int → Int) (hb : v3 = 0 ∨ v3 = 1) (h5 : 1 ≤ v5 ∧ v5 ≤ 100000) (h4 : 0 ≤ v4 ∧ v4 ≤ 120) (hl : ∀ i, 0 ≤ i → i < v4 → 0 ≤ line i ∧ line i < 121) : ∀ (n : Nat) (v6 v7 : Int) (gone went : Int → Int), 1 ≤ v7 → v7 ≤ 200000 → 0 ≤ v6 → v6 + (v4 - v7) + 1 ≤ 120 ∨ v4 < v7 → (0 < n ∧ v4 - v7 + 1 < n) → ok (f_X8_strike_L36 n v3 v4 v5 v6 v7 rb line gone went) (fun r => (∀ j, j < v6 → r.1 j = gone j) ∧ (∀ i : Nat, v7 + i * v5 ≤ v4 → r.1 (v6 + i) = line (ixp v3 v4 (v7 + i * v5)))) := by
  intro n
  induction n with
  | zero => intro v6 v7 gone went a1 a2 a3 a4 a5; omega
  | succ n ih =>
    intro v6 v7 gone went a1 a2 a3 a4 a5
    have up : ∀ i : Nat, 0 ≤ (i : Int) * v5 := fun i => Int.mul_nonneg (by omega) (by omega)
    rw [f_X8_strike_L36_s]
    refine ok_zg.mpr ⟨⟨⟨by omega, by omega⟩, ⟨by omega, by omega⟩⟩, ok_ite.mpr ⟨fun c => ok_some.mpr ⟨fun j _ => rfl, fun i q => absurd q (by have := up i; omega)⟩, fun c => ?_⟩⟩
    have step : ∀ s0, s0 = ixp v3 v4 v7 → ok (f_X8_strike_J59 (f_X8_strike_L36 n) v3 v4 v5 v6 v7 s0 rb line gone went) (fun r => (∀ j, j < v6 → r.1 j = gone j) ∧ (∀ i : Nat, v7 + i * v5 ≤ v4 → r.1 (v6 + i) = line (ixp v3 v4 (v7 + i * v5)))) := by
      intro s0 hs0
      have hs : 0 ≤ s0 ∧ s0 < v4 := by
        rw [hs0]; unfold ixp
        split <;> omega
      unfold f_X8_strike_J59
      refine ok_zg.mpr ⟨⟨hs.1, by omega⟩, ok_zg.mpr ⟨hl s0 hs.1 hs.2, ok_zg.mpr ⟨⟨a3, by omega⟩, ?_⟩⟩⟩
      refine (ih (v6 + 1) (v7 + v5) _ _ (by omega) (by omega) (by omega) (by omega) (by omega)).mono (fun r h => ?_)
      obtain ⟨g1, g2⟩ := h
      refine ⟨fun j hj => by rw [g1 j (by omega), zup_ne (by omega)], fun i q => ?_⟩
      cases i with
      | zero =>
        rw [show v6 + ((0 : Nat) : Int) = v6 by omega, g1 v6 (by omega), zup_same, hs0, Int.natCast_zero, Int.zero_mul, Int.add_zero]
      | succ i =>
        have e : ((i + 1 : Nat) : Int) * v5 = v5 + (i : Int) * v5 := by rw [Int.natCast_add, Int.add_mul]; omega
        rw [e] at q ⊢
        have := g2 i (by omega)
        rw [show v6 + ((i + 1 : Nat) : Int) = v6 + 1 + i by omega, this, show v7 + v5 + (i : Int) * v5 = v7 + (v5 + i * v5) by omega]
    exact ok_zg.mpr ⟨⟨by omega, by omega⟩, ok_ite.mpr ⟨fun c2 => step _ (by unfold ixp; rw [if_pos c2]), fun c2 => step _ (by unfold ixp; rw [if_neg c2])⟩⟩
def XL (c f back size there : Int) (line gone g : Int → Int) : Prop := (∀ j, j < size - there → g j = gone j) ∧ (∀ i : Nat, f + i * c ≤ there → g (size - there + i) = line (ixp back there (f + i * c)))
theorem xgone {B size there rb c f back : Int} {line gone went : Int → Int} (h : RI B size there rb line went) (hB : B ≤ 80000) (hc : 1 ≤ c ∧ c ≤ 99999) (hf : 1 ≤ f ∧ f ≤ 99999) (hb : back = 0 ∨ back = 1) : ok (f_X8_strike c f back size there rb line gone went) (fun r => XL c f back size there line gone r.2.2.2.2.1) := by
  have b1 := h.1
  have b2 := h.2.1
  obtain ⟨⟨r1, r2, r3, r4, r5, r6⟩, e, -⟩ := xstrike (gone := gone) h hB hc hf hb
  refine ⟨_, e, ?_⟩
  unfold f_X8_strike f_X8_goneCount at e
  obtain ⟨-, e⟩ := zg_some e
  rw [Option.bind_some] at e
  obtain ⟨-, e⟩ := zg_some e
  obtain ⟨⟨a1, a2⟩, e1, e2⟩ := zb e
  dsimp only at e2
  obtain ⟨⟨b1', b2'⟩, e3, e4⟩ := zb e2
  cases e4
  rw [if_neg (show ¬ c < 1 by omega), if_neg (show ¬ f < 1 by omega)] at e1
  exact (xgone_L back there c (rb + 1) line hb ⟨hc.1, by omega⟩ ⟨b2.1, by omega⟩ (fun i p q => by have := h.2.2.2.1 i p q; omega) zF (size - there) f gone went hf.1 (by omega) (by omega) (by omega) (by rw [zF_eq]; omega)).get e1
