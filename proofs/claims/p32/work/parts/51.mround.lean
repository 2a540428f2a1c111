/-! the model's strike and round -/
theorem kept_iff {B size there rb c f back : Int} {row went w' : Int → Int} (h : RI B size there rb row went) (h1 : ∀ x, (∃ i, 0 ≤ i ∧ i < there ∧ Hit c f back there i ∧ row i = x) → w' x = rb + 1) (h2 : ∀ x, ¬ (∃ i, 0 ≤ i ∧ i < there ∧ Hit c f back there i ∧ row i = x) → w' x = went x) (i : Int) (p : 0 ≤ i) (q : i < there) : w' (row i) = 0 ↔ ¬ Hit c f back there i := by
  obtain ⟨a1, a2, a3, a4, a5, a6, a7, a8⟩ := h
  constructor
  · intro e hh
    rw [h1 (row i) ⟨i, p, q, hh, rfl⟩] at e
    omega
  · intro hh
    rw [h2 (row i) (fun ⟨j, j1, j2, j3, j4⟩ => hh (by rw [← a5 j i j1 j2 p q j4]; exact j3))]
    exact (a7 (row i) (a4 i p q).1 (a4 i p q).2).mpr ⟨i, p, q, rfl⟩
theorem mstrike {B size there rb c back fst : Int} {row gone went : Int → Int} (h : RI B size there rb row went) (hB : B ≤ 80000) (hc : 2 ≤ c ∧ c ≤ 99999) (hb : back = 0 ∨ back = 1) (hf : fst = 0 ∨ fst = 1) : ok (f_X11_strike c back fst there rb row went gone) (fun r => r.1 = there - r.2.1 ∧ r.2.2.1 = rb + 1 ∧ SK c (if fst = 0 then c else 1) back there (rb + 1) row went r.2.1 r.2.2.2.1 r.2.2.2.2.1 ∧ (∀ j, 0 ≤ j → j < r.1 → 1 ≤ r.2.2.2.2.2 j ∧ r.2.2.2.2.2 j ≤ 120)) := by
  obtain ⟨a1, a2, a3, a4, a5, a6, a7, a8⟩ := id h
  unfold f_X11_strike
  refine ok_bind.mpr ((mst_ok c back fst there (rb + 1) row hb hf hc ⟨a2.1, by omega⟩ (fun i p q => by have := a4 i p q; omega) zF 0 0 went gone (by omega) (by omega) a2.1 (by rw [zF_eq]; omega) (fun j p q => absurd q (by omega))).mono (fun r hr => ?_))
  obtain ⟨n', w', g'⟩ := r
  obtain ⟨h1, h2, h3, h4⟩ := hr
  dsimp only at h1 h2 h3 h4
  have fwd : ∀ x, (∃ i, 0 ≤ i ∧ i < there ∧ Hit c (if fst = 0 then c else 1) back there i ∧ row i = x) → (∃ k, 0 ≤ k ∧ k < there ∧ HK c fst k ∧ row (atk back there k) = x) := by
    rintro x ⟨i, i1, i2, i3, i4⟩
    have e : atk back there (atk back there i) = i := by
      unfold atk
      rcases hb with rfl | rfl
      · rw [if_pos rfl, if_pos rfl]
      · rw [if_neg (by decide), if_neg (by decide)]; omega
    have hr : 0 ≤ atk back there i ∧ atk back there i < there := by
      unfold atk
      rcases hb with rfl | rfl
      · rw [if_pos rfl]; omega
      · rw [if_neg (by decide)]; omega
    exact ⟨atk back there i, hr.1, hr.2, (hk_hit hc.1 hr hb).mpr (by rw [e]; exact i3), by rw [e]; exact i4⟩
  have bwd : ∀ x, (∃ k, 0 ≤ k ∧ k < there ∧ HK c fst k ∧ row (atk back there k) = x) → (∃ i, 0 ≤ i ∧ i < there ∧ Hit c (if fst = 0 then c else 1) back there i ∧ row i = x) := by
    rintro x ⟨k, k1, k2, k3, k4⟩
    have hr : 0 ≤ atk back there k ∧ atk back there k < there := by
      unfold atk
      rcases hb with rfl | rfl
      · rw [if_pos rfl]; omega
      · rw [if_neg (by decide)]; omega
    exact ⟨atk back there k, hr.1, hr.2, (hk_hit hc.1 ⟨k1, k2⟩ hb).mp k3, k4⟩
  have k1 : ∀ x, (∃ i, 0 ≤ i ∧ i < there ∧ Hit c (if fst = 0 then c else 1) back there i ∧ row i = x) → w' x = rb + 1 := fun x hx => h1 x (fwd x hx)
  have k2 : ∀ x, ¬ (∃ i, 0 ≤ i ∧ i < there ∧ Hit c (if fst = 0 then c else 1) back there i ∧ row i = x) → w' x = went x := fun x hx => h2 x (fun q => hx (bwd x q))
  have kz : ∀ x, 1 ≤ x → x ≤ size → zR (w' x) := fun x p q => by
    by_cases hx : ∃ i, 0 ≤ i ∧ i < there ∧ Hit c (if fst = 0 then c else 1) back there i ∧ row i = x
    · rw [k1 x hx]; exact ⟨by omega, by omega⟩
    · rw [k2 x hx]; have := a6 x p q; exact ⟨by omega, by omega⟩
  refine ok_bind.mpr ((mcu_ok there w' zF 0 0 row (by omega) (by omega) a2.1 (by omega) (by rw [zF_eq]; omega) (fun i p q => ?_)).mono (fun r hr => ?_))
  · have hq := a4 i p q
    exact ⟨by omega, kz _ hq.1 hq.2⟩
  · obtain ⟨a, l'⟩ := r
    refine ok_some.mpr ⟨?_, rfl, ⟨k1, k2, hr⟩, h4⟩
    show n' = there - a
    have e1 := cu_count hr
    dsimp only at e1
    have e2 : cn (fun i => w' (row i) = 0) there.toNat = cn (fun i => ¬ Hit c (if fst = 0 then c else 1) back there i) there.toNat := cn_congr _ (fun i p q => kept_iff h k1 k2 i p (by omega))
    have e3 : cn (fun j => HK c fst (0 + j)) (there - 0).toNat = cn (fun i => Hit c (if fst = 0 then c else 1) back there i) there.toNat := by
      rw [show there - 0 = there by omega]
      have f1 : cn (fun j => HK c fst (0 + j)) there.toNat = cn (fun k => Hit c (if fst = 0 then c else 1) back there (atk back there k)) there.toNat := cn_congr _ (fun i p q => by rw [Int.zero_add]; exact hk_hit hc.1 ⟨p, by omega⟩ hb)
      rw [f1]
      rcases hb with rfl | rfl
      · exact cn_congr _ (fun i p q => by unfold atk; rw [if_pos rfl])
      · rw [← cn_rev there.toNat (fun i => Hit c (if fst = 0 then c else 1) 1 there i)]
        exact cn_congr _ (fun i p q => by unfold atk; rw [if_neg (show ¬ (1 : Int) = 0 by decide), show ((there.toNat : Nat) : Int) = there by omega])
    have e4 := cn_not (fun i => Hit c (if fst = 0 then c else 1) back there i) there.toNat
    rw [h3, e3, e1, e2]
    omega
theorem mround {B size there rb kind fig sc : Int} {steps row gone went : Int → Int} (h : RI B size there rb row went) (hB : B ≤ 80000) (hp : PI kind fig sc steps) : ok (f_X11_roundOn there rb kind fig sc steps row went gone) (fun r => r.1 = there - r.2.1 ∧ RO kind fig sc size there rb steps row went r.2.1 r.2.2.1 r.2.2.2.1 r.2.2.2.2.1 ∧ (∀ j, 0 ≤ j → j < r.1 → 1 ≤ r.2.2.2.2.2 j ∧ r.2.2.2.2.2 j ≤ 120)) := by
  obtain ⟨a1, a2, a3, a4, a5, a6, a7, a8⟩ := id h
  have hl : ∀ i, 0 ≤ i → i < there → 1 ≤ row i ∧ row i ≤ 120 := fun i p q => by have := a4 i p q; omega
  have ht : 0 ≤ there ∧ there ≤ 120 := by omega
  have hr : 1 ≤ rb + 1 ∧ rb + 1 ≤ 90000 := by omega
  have hc := CT_rng hp ht hl hr
  have hk := hp.1
  have zk : zR kind := ⟨by omega, by omega⟩
  unfold f_X11_roundOn
  rw [mct hp ht hl hr]
  refine ok_bind.mpr (ok_some.mpr ?_)
  generalize hC : CT kind fig sc there (rb + 1) steps row = C at hc
  have S : ∀ fst : Int, (fst = 0 ∧ kind ≠ 5) ∨ (fst = 1 ∧ kind = 5) → ok (f_X11_roundOn_J54 C (BK kind (rb + 1)) fst there rb row went gone) (fun r => r.1 = there - r.2.1 ∧ RO kind fig sc size there rb steps row went r.2.1 r.2.2.1 r.2.2.2.1 r.2.2.2.2.1 ∧ (∀ j, 0 ≤ j → j < r.1 → 1 ≤ r.2.2.2.2.2 j ∧ r.2.2.2.2.2 j ≤ 120)) := by
    intro fst hfst
    unfold f_X11_roundOn_J54
    refine ok_bind.mpr ((mstrike h hB hc (BK_01 _ _) (by omega)).mono (fun r hr => ?_))
    obtain ⟨r1, r2, r3, r4, r5, r6⟩ := r
    obtain ⟨g1, g2, g3, g4⟩ := hr
    have ef : FP kind C = (if fst = 0 then C else 1) := by
      unfold FP
      rcases hfst with ⟨f1, f2⟩ | ⟨f1, f2⟩
      · rw [if_neg f2, if_pos f1]
      · rw [if_pos f2, if_neg (by omega)]
    refine ok_some.mpr ⟨g1, ⟨g2, ?_⟩, g4⟩
    rw [hC, ef]
    exact g3
  have J41 : ∀ bk : Int, bk = BK kind (rb + 1) → ok (f_X11_roundOn_J41 C bk there rb kind row went gone) (fun r => r.1 = there - r.2.1 ∧ RO kind fig sc size there rb steps row went r.2.1 r.2.2.1 r.2.2.2.1 r.2.2.2.2.1 ∧ (∀ j, 0 ≤ j → j < r.1 → 1 ≤ r.2.2.2.2.2 j ∧ r.2.2.2.2.2 j ≤ 120)) := by
    intro bk hbk
    subst hbk
    unfold f_X11_roundOn_J41
    exact ok_zg.mpr ⟨zk, ok_ite.mpr ⟨fun q => S 0 (Or.inl ⟨rfl, q⟩), fun q => S 1 (Or.inr ⟨rfl, Decidable.of_not_not q⟩)⟩⟩
  have J30 : (kind = 3 ∨ kind = 6) → ok (f_X11_roundOn_J30 (rb + 1) C there rb kind row went gone) (fun r => r.1 = there - r.2.1 ∧ RO kind fig sc size there rb steps row went r.2.1 r.2.2.1 r.2.2.2.1 r.2.2.2.2.1 ∧ (∀ j, 0 ≤ j → j < r.1 → 1 ≤ r.2.2.2.2.2 j ∧ r.2.2.2.2.2 j ≤ 120)) := by
    intro hk36
    unfold f_X11_roundOn_J30
    refine ok_zg.mpr ⟨⟨by omega, by omega, by omega, by omega⟩, ok_zg.mpr ⟨⟨by omega, by omega⟩, ok_ite.mpr ⟨fun q => ?_, fun q => ?_⟩⟩⟩
    · unfold f_X11_roundOn_J40
      exact J41 0 (by unfold BK; rw [if_neg (fun z => q z.2)])
    · exact J41 1 (by unfold BK; rw [if_pos ⟨hk36, Decidable.of_not_not q⟩])
  refine ok_zg.mpr ⟨zk, ok_ite.mpr ⟨fun q => J30 (Or.inl q), fun q => ok_zg.mpr ⟨zk, ok_ite.mpr ⟨fun q2 => ?_, fun q2 => J30 (Or.inr (Decidable.of_not_not q2))⟩⟩⟩⟩
  unfold f_X11_roundOn_J40
  exact J41 0 (by unfold BK; rw [if_neg (fun z => z.1.elim q q2)])
theorem mcp_ok {v5 : Int} {gone : Int → Int} (h5 : v5 ≤ 120) (hg : ∀ j, 0 ≤ j → j < v5 → 1 ≤ gone j ∧ gone j ≤ 120) : ∀ (n : Nat) (v6 gm : Int) (going : Int → Int), 0 ≤ v6 → v6 ≤ v5 → 0 ≤ gm → gm + (v5 - v6) ≤ 120 → v5 - v6 < n → (∀ j, 0 ≤ j → j < gm → 1 ≤ going j ∧ going j ≤ 120) → ok (f_X11_runOut_L56 n v5 v6 gone going gm) (fun r => r.2 = gm + (v5 - v6) ∧ (∀ j, 0 ≤ j → j < r.2 → 1 ≤ r.1 j ∧ r.1 j ≤ 120) ∧ (∀ j, 0 ≤ j → j < gm → r.1 j = going j) ∧ (∀ j, v6 ≤ j → j < v5 → r.1 (gm + (j - v6)) = gone j)) := by
  intro n
  induction n with
  | zero => intro v6 gm going h0 h1 h2 h3 h4; exact absurd h4 (by omega)
  | succ n ih =>
    intro v6 gm going h0 h1 h2 h3 h4 h6
    rw [f_X11_runOut_L56_s]
    refine ok_zg.mpr ⟨⟨⟨by omega, by omega⟩, ⟨by omega, by omega⟩⟩, ok_ite.mpr ⟨fun q => ok_some.mpr ⟨by omega, h6, fun j _ _ => rfl, fun j p q2 => absurd q2 (by omega)⟩, fun q => ok_zg.mpr ⟨⟨by omega, by omega⟩, ok_zg.mpr ⟨⟨by omega, by omega⟩, ?_⟩⟩⟩⟩
    refine (ih (v6 + 1) (gm + 1) (zup going gm (gone v6)) (by omega) (by omega) (by omega) (by omega) (by omega) (fun j p q2 => ?_)).mono (fun r hr => ?_)
    · by_cases hj : j = gm
      · rw [hj, zup_same]; exact hg v6 h0 (by omega)
      · rw [zup_ne hj]; exact h6 j p (by omega)
    · obtain ⟨g1, g2, g3, g4⟩ := hr
      refine ⟨by omega, g2, fun j p q2 => ?_, fun j p q2 => ?_⟩
      · rw [g3 j p (by omega), zup_ne (by omega)]
      · by_cases hj : j = v6
        · rw [hj, show gm + (v6 - v6) = gm by omega, g3 gm (by omega) (by omega), zup_same]
        · rw [show gm + (j - v6) = gm + 1 + (j - (v6 + 1)) by omega]
          exact g4 j (by omega) q2
/-- rounds to the end: they come to an end -/
theorem mrun_L {kind fig sc size idle : Int} {steps : Int → Int} (hp : PI kind fig sc steps) (hi : 1 ≤ idle ∧ idle ≤ 8) : ∀ (n : Nat) (v2 v3 there rb gm B : Int) (row went gone going : Int → Int), 0 ≤ v2 → v2 ≤ idle → zR v3 → 0 ≤ gm → gm + there ≤ 120 → (there * 8 + (idle - v2)) < n → B + (there * 8 + (idle - v2)) ≤ 79999 → RI B size there rb row went → (∀ j, 0 ≤ j → j < gm → 1 ≤ going j ∧ going j ≤ 120) → ok (f_X11_runOut_L42 n idle v2 v3 there rb kind fig sc steps row went gone going gm) (fun r => RI 80000 size r.2.1 r.2.2.1 r.2.2.2.1 r.2.2.2.2.1 ∧ r.2.1 ≤ there ∧ (0 ≤ r.2.2.2.2.2.2.2 ∧ r.2.2.2.2.2.2.2 ≤ 120) ∧ (∀ j, 0 ≤ j → j < r.2.2.2.2.2.2.2 → 1 ≤ r.2.2.2.2.2.2.1 j ∧ r.2.2.2.2.2.2.1 j ≤ 120)) := by
  intro n
  induction n with
  | zero =>
    intro v2 v3 there rb gm B row went gone going h0 h1 h2 h3 h4 h5 h6 h
    have := h.2.1
    exact absurd h5 (by omega)
  | succ n ih =>
    intro v2 v3 there rb gm B row went gone going h0 h1 h2 h3 h4 h5 h6 h h7
    have b1 := h.1
    have b2 := h.2.1
    have b3 := h.2.2.1
    rw [f_X11_runOut_L42_s]
    refine ok_zg.mpr ⟨⟨⟨by omega, by omega⟩, ⟨by omega, by omega⟩⟩, ok_ite.mpr ⟨fun q => ok_some.mpr ⟨h.widen (by omega), Int.le_refl _, ⟨by dsimp only; omega, by dsimp only; omega⟩, h7⟩, fun q => ok_bind.mpr ?_⟩⟩
    refine (mround h (by omega) hp).mono (fun r hr => ?_)
    obtain ⟨r1, r2, r3, r4, r5, r6⟩ := r
    obtain ⟨g1, g2, g3⟩ := hr
    have hri := RO.ri h g2
    dsimp only at g1 g2 g3 hri
    have hle : r2 ≤ there := by have := g2.2.2.2.1; omega
    have h0t := hri.2.1
    have hr3 := g2.1
    refine ok_bind.mpr ((mcp_ok (by omega) g3 zF 0 gm going (by omega) (by omega) h3 (by omega) (by rw [zF_eq]; omega) h7).mono (fun q2 hq => ?_))
    obtain ⟨q1, q2⟩ := q2
    obtain ⟨k1, k2, -, -⟩ := hq
    dsimp only at k1 k2
    refine ok_zg.mpr ⟨⟨by omega, by omega⟩, ok_ite.mpr ⟨fun c => ?_, fun c => ?_⟩⟩
    · unfold f_X11_runOut_J107
      refine ok_zg.mpr ⟨⟨by omega, by omega⟩, ok_ite.mpr ⟨fun c2 => ?_, fun c2 => absurd c2 (fun z => z c)⟩⟩
      exact (ih 0 r3 r2 r3 q2 (B + 1) r4 r5 r6 q1 (by omega) (by omega) ⟨by omega, by omega⟩ (by omega) (by omega) (by omega) (by omega) hri k2).mono (fun z hz => ⟨hz.1, by omega, hz.2.2⟩)
    · have c1 : r1 = 0 := Decidable.of_not_not c
      unfold f_X11_runOut_J107
      refine ok_zg.mpr ⟨⟨by omega, by omega⟩, ok_ite.mpr ⟨fun c2 => absurd c1 c2, fun c2 => ?_⟩⟩
      exact (ih (v2 + 1) v3 r2 r3 q2 (B + 1) r4 r5 r6 q1 (by omega) (by omega) h2 (by omega) (by omega) (by omega) (by omega) hri k2).mono (fun z hz => ⟨hz.1, by omega, hz.2.2⟩)
theorem mrun {B kind fig sc size there rb gm : Int} {steps row went gone going : Int → Int} (hp : PI kind fig sc steps) (hB : B ≤ 5000) (h : RI B size there rb row went) : ok (f_X11_runOut there rb kind fig sc steps row went gone going gm) (fun r => RI 80000 size r.2.1 r.2.2.1 r.2.2.2.1 r.2.2.2.2.1 ∧ r.2.1 ≤ there ∧ (0 ≤ r.2.2.2.2.2.2.2 ∧ r.2.2.2.2.2.2.2 ≤ 120) ∧ (∀ j, 0 ≤ j → j < r.2.2.2.2.2.2.2 → 1 ≤ r.2.2.2.2.2.2.1 j ∧ r.2.2.2.2.2.2.1 j ≤ 120)) := by
  have b1 := h.1
  have b2 := h.2.1
  have b3 := h.2.2.1
  have p1 := hp.1
  have p3 := hp.2.2.1
  have J : ∀ s0 : Int, 1 ≤ s0 ∧ s0 ≤ 8 → ok (f_X11_runOut_J23 s0 there rb kind fig sc steps row went gone going gm) (fun r => RI 80000 size r.2.1 r.2.2.1 r.2.2.2.1 r.2.2.2.2.1 ∧ r.2.1 ≤ there ∧ (0 ≤ r.2.2.2.2.2.2.2 ∧ r.2.2.2.2.2.2.2 ≤ 120) ∧ (∀ j, 0 ≤ j → j < r.2.2.2.2.2.2.2 → 1 ≤ r.2.2.2.2.2.2.1 j ∧ r.2.2.2.2.2.2.1 j ≤ 120)) := by
    intro s0 hs
    unfold f_X11_runOut_J23
    refine ok_bind.mpr ((mrun_L hp hs zF 0 rb there rb 0 B row went gone going (by omega) (by omega) ⟨by omega, by omega⟩ (by omega) (by omega) (by rw [zF_eq]; omega) (by omega) h (fun j p q => absurd q (by omega))).mono (fun r hr => ?_))
    obtain ⟨r1, r2, r3, r4, r5, r6, r7, r8⟩ := r
    exact ok_some.mpr hr
  unfold f_X11_runOut
  refine ok_zg.mpr ⟨⟨by omega, by omega⟩, ok_ite.mpr ⟨fun _ => ?_, fun _ => ok_zg.mpr ⟨⟨by omega, by omega⟩, ok_ite.mpr ⟨fun _ => ?_, fun c => J sc (by omega)⟩⟩⟩⟩
  · unfold f_X11_runOut_J22; exact J 1 (by omega)
  · unfold f_X11_runOut_J22; exact J 1 (by omega)
