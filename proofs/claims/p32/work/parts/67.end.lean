/-! rounds to the end, on both sides -/
theorem mround_g {B size there rb kind fig sc : Int} {steps row gone went : Int → Int} (h : RI B size there rb row went) (hB : B ≤ 80000) (hp : PI kind fig sc steps) : ok (f_X11_roundOn there rb kind fig sc steps row went gone) (fun r => GL (CT kind fig sc there (rb + 1) steps row) (if kind = 5 then 1 else 0) (BK kind (rb + 1)) there row r.2.2.2.2.2 ∧ r.1 = cn (fun j => HK (CT kind fig sc there (rb + 1) steps row) (if kind = 5 then 1 else 0) j) there.toNat) := by
  obtain ⟨a1, a2, a3, a4, a5, a6, a7, a8⟩ := id h
  have hl : ∀ i, 0 ≤ i → i < there → 1 ≤ row i ∧ row i ≤ 120 := fun i p q => by have := a4 i p q; omega
  have ht : 0 ≤ there ∧ there ≤ 120 := by omega
  have hr : 1 ≤ rb + 1 ∧ rb + 1 ≤ 90000 := by omega
  have hc := CT_rng hp ht hl hr
  have hk := hp.1
  have zk : zR kind := ⟨by omega, by omega⟩
  unfold f_X11_roundOn
  rw [mct hp ht hl hr]
  refine ok_bind.mpr (ok_some.mpr ?_)
  generalize hC : CT kind fig sc there (rb + 1) steps row = C at hc
  have S : ∀ fst : Int, (fst = 0 ∧ kind ≠ 5) ∨ (fst = 1 ∧ kind = 5) → ok (f_X11_roundOn_J54 C (BK kind (rb + 1)) fst there rb row went gone) (fun r => GL C (if kind = 5 then 1 else 0) (BK kind (rb + 1)) there row r.2.2.2.2.2 ∧ r.1 = cn (fun j => HK C (if kind = 5 then 1 else 0) j) there.toNat) := by
    intro fst hfst
    unfold f_X11_roundOn_J54
    have ef : (if kind = 5 then (1 : Int) else 0) = fst := by
      rcases hfst with ⟨f1, f2⟩ | ⟨f1, f2⟩
      · rw [if_neg f2, f1]
      · rw [if_pos f2, f1]
    rw [ef]
    refine ok_bind.mpr ((mgone h hB hc (BK_01 _ _) (by omega)).mono (fun r hr => ?_))
    obtain ⟨r1, r2, r3, r4, r5, r6⟩ := r
    exact ok_some.mpr hr
  have J41 : ∀ bk : Int, bk = BK kind (rb + 1) → ok (f_X11_roundOn_J41 C bk there rb kind row went gone) (fun r => GL C (if kind = 5 then 1 else 0) (BK kind (rb + 1)) there row r.2.2.2.2.2 ∧ r.1 = cn (fun j => HK C (if kind = 5 then 1 else 0) j) there.toNat) := by
    intro bk hbk
    subst hbk
    unfold f_X11_roundOn_J41
    exact ok_zg.mpr ⟨zk, ok_ite.mpr ⟨fun q => S 0 (Or.inl ⟨rfl, q⟩), fun q => S 1 (Or.inr ⟨rfl, Decidable.of_not_not q⟩)⟩⟩
  have J30 : (kind = 3 ∨ kind = 6) → ok (f_X11_roundOn_J30 (rb + 1) C there rb kind row went gone) (fun r => GL C (if kind = 5 then 1 else 0) (BK kind (rb + 1)) there row r.2.2.2.2.2 ∧ r.1 = cn (fun j => HK C (if kind = 5 then 1 else 0) j) there.toNat) := by
    intro hk36
    unfold f_X11_roundOn_J30
    refine ok_zg.mpr ⟨⟨by omega, by omega, by omega, by omega⟩, ok_zg.mpr ⟨⟨by omega, by omega⟩, ok_ite.mpr ⟨fun q => ?_, fun q => ?_⟩⟩⟩
    · unfold f_X11_roundOn_J40
      exact J41 0 (by unfold BK; rw [if_neg (fun z => q z.2)])
    · exact J41 1 (by unfold BK; rw [if_pos ⟨hk36, Decidable.of_not_not q⟩])
  refine ok_zg.mpr ⟨zk, ok_ite.mpr ⟨fun q => J30 (Or.inl q), fun q => ok_zg.mpr ⟨zk, ok_ite.mpr ⟨fun q2 => ?_, fun q2 => J30 (Or.inr (Decidable.of_not_not q2))⟩⟩⟩⟩
  unfold f_X11_roundOn_J40
  exact J41 0 (by unfold BK; rw [if_neg (fun z => z.1.elim q q2)])
theorem xround_g {B size there rb kind fig sc : Int} {steps line gone went : Int → Int} (h : RI B size there rb line went) (hB : B ≤ 80000) (hp : PI kind fig sc steps) : ok (f_X8_letRoundPass kind size there rb fig sc steps line gone went) (fun r => XL (CT kind fig sc there (rb + 1) steps line) (FP kind (CT kind fig sc there (rb + 1) steps line)) (BK kind (rb + 1)) size there line gone r.2.2.2.2.1) := by
  obtain ⟨a1, a2, a3, a4, a5, a6, a7, a8⟩ := id h
  have hl : ∀ i, 0 ≤ i → i < there → 1 ≤ line i ∧ line i ≤ 120 := fun i p q => by have := a4 i p q; omega
  have ht : 0 ≤ there ∧ there ≤ 120 := by omega
  have hr : 1 ≤ rb + 1 ∧ rb + 1 ≤ 90000 := by omega
  have hc := CT_rng hp ht hl hr
  unfold f_X8_letRoundPass
  rw [xct hp ht hl hr]
  refine ok_bind.mpr (ok_some.mpr (ok_bind.mpr ?_))
  rw [xfp hp.1]
  refine ok_some.mpr (ok_bind.mpr ?_)
  rw [xbk hp.1 hr]
  refine ok_some.mpr (ok_bind.mpr ?_)
  have hfp : 1 ≤ FP kind (CT kind fig sc there (rb + 1) steps line) ∧ FP kind (CT kind fig sc there (rb + 1) steps line) ≤ 99999 := by
    unfold FP; split <;> omega
  refine (xgone h hB ⟨by omega, hc.2⟩ hfp (BK_01 _ _)).mono (fun r hr => ?_)
  obtain ⟨r1, r2, r3, r4, r5, r6⟩ := r
  exact ok_some.mpr hr
theorem atk_ixp {back there k : Int} (hb : back = 0 ∨ back = 1) : ixp back there (k + 1) = atk back there k := by
  unfold ixp atk
  rcases hb with rfl | rfl
  · rw [if_pos rfl, if_pos rfl]; omega
  · rw [if_neg (by decide), if_neg (by decide)]; omega
/-- a round on both sides, with those who go -/
theorem rd_all {B size there rb kind fig sc : Int} {steps line gone went st ro we g' : Int → Int} (hB : B ≤ 80000) (h : SB B size there rb kind fig sc steps line went st ro we) : ∃ a th2 rb2 l2 g2 w2 r2 e2 g3, f_X8_letRoundPass kind size there rb fig sc steps line gone went = some (a, th2, rb2, l2, g2, w2) ∧ f_X11_roundOn there rb kind fig sc st ro we g' = some (a, th2, rb2, r2, e2, g3) ∧ SB (B + 1) size th2 rb2 kind fig sc steps l2 w2 st r2 e2 ∧ a = there - th2 ∧ (0 ≤ th2 ∧ th2 ≤ there) ∧ rb2 = rb + 1 ∧ (∀ j, 0 ≤ j → j < a → 1 ≤ g3 j ∧ g3 j ≤ 120) ∧ (∀ j, 0 ≤ j → j < a → g3 j = g2 (size - there + j)) ∧ (∀ j, j < size - there → g2 j = gone j) ∧ (∀ x, 1 ≤ x → x ≤ size → went x = 0 → w2 x ≠ 0 → ∃ j, 0 ≤ j ∧ j < a ∧ g3 j = x) ∧ (∀ x, 1 ≤ x → x ≤ size → went x ≠ 0 → w2 x = went x) := by
  have b3 := h.1.2.2.1
  have ht := h.t
  obtain ⟨⟨r1, r2, r3, r4, r5, r6⟩, hr, ⟨q1, q2⟩, qx⟩ := (xround (gone := gone) h.1 hB h.2.1).and (xround_g (gone := gone) h.1 hB h.2.1)
  obtain ⟨⟨s1, s2, s3, s4, s5, s6⟩, hs, ⟨q3, q4, q5⟩, qm1, qm2⟩ := (mround (gone := g') h.mri hB h.mpi).and (mround_g (gone := g') h.mri hB h.mpi)
  dsimp only at q1 q2 q3 q4 q5 qx qm1 qm2
  obtain ⟨k1, k2⟩ := q2
  obtain ⟨k3, k4⟩ := q4
  have hcr := CT_rng h.2.1 ht h.hl (r := rb + 1) ⟨by omega, by omega⟩
  rw [← CT_congr h.2.2.1 h.2.2.2.1 (by omega)] at k4 qm1 qm2
  generalize hC : CT kind fig sc there (rb + 1) steps line = C at *
  obtain ⟨e1, e2, e3⟩ := SK.same h.1 h.2.2.2.1 h.2.2.2.2 k2 k4
  have hri := SK.ri h.1 k2
  have hc := k2.2.2.1
  have hb := BK_01 kind (rb + 1)
  have ef : FP kind C = (if (if kind = 5 then (1 : Int) else 0) = 0 then C else 1) := by
    unfold FP
    by_cases z : kind = 5
    · rw [if_pos z, if_pos z, if_neg (by decide)]
    · rw [if_neg z, if_neg z, if_pos rfl]
  generalize hF : (if kind = 5 then (1 : Int) else 0) = fst at *
  rw [ef] at k2 k4 qx
  generalize hb0 : BK kind (rb + 1) = back at *
  refine ⟨r1, r2, r3, r4, r5, r6, s4, s5, s6, hr, ?_, ?_, q1, by omega, k1, ?_, ?_, qx.1, ?_, ?_⟩
  · rw [hs, q3, q1, ← e1, k1, k3]
  · rw [k1]
    exact ⟨hri, h.2.1, h.2.2.1, e2, e3⟩
  · intro j p q
    exact q5 j p (by omega)
  · intro j p q
    obtain ⟨i, rfl⟩ : ∃ i : Nat, j = (i : Int) := ⟨j.toNat, by omega⟩
    have hn : 0 ≤ (i : Int) * C := Int.mul_nonneg (by omega) (by omega)
    have hf1 : 1 ≤ (if fst = 0 then C else 1) := by split <;> omega
    have rank := hk_rank (fst := fst) hcr.1 i
    have hki := hk_i (fst := fst) hcr.1 i
    generalize hkk : (if fst = 0 then C else 1) - 1 + (i : Int) * C = k at rank hki
    have hlt : k < there := by
      by_cases z : k < there
      · exact z
      · have m := cn_mono (fun j => HK C fst j) there.toNat (k.toNat - there.toNat)
        rw [show there.toNat + (k.toNat - there.toNat) = k.toNat by omega, rank] at m
        omega
    have a := qm1 k (by omega) hlt hki
    rw [rank] at a
    have b := qx.2 i (by omega)
    rw [show (if fst = 0 then C else 1) + (i : Int) * C = k + 1 by omega, atk_ixp hb] at b
    have hat : 0 ≤ atk back there k ∧ atk back there k < there := by
      unfold atk
      rcases hb with rfl | rfl
      · rw [if_pos rfl]; omega
      · rw [if_neg (by decide)]; omega
    rw [a, b, h.2.2.2.1 _ hat.1 hat.2]
  · intro x p q hx hx2
    have hit : ∃ i, 0 ≤ i ∧ i < there ∧ Hit C (if fst = 0 then C else 1) back there i ∧ line i = x := by
      by_cases z : ∃ i, 0 ≤ i ∧ i < there ∧ Hit C (if fst = 0 then C else 1) back there i ∧ line i = x
      · exact z
      · rw [k2.2.1 x z] at hx2; exact absurd hx hx2
    obtain ⟨i, i1, i2, i3, i4⟩ := hit
    obtain ⟨k, hk1, hk2, hk3⟩ : ∃ k, 0 ≤ k ∧ k < there ∧ atk back there k = i := by
      refine ⟨atk back there i, ?_, ?_, ?_⟩
      · unfold atk; rcases hb with rfl | rfl
        · rw [if_pos rfl]; omega
        · rw [if_neg (by decide)]; omega
      · unfold atk; rcases hb with rfl | rfl
        · rw [if_pos rfl]; omega
        · rw [if_neg (by decide)]; omega
      · unfold atk; rcases hb with rfl | rfl
        · rw [if_pos rfl, if_pos rfl]
        · rw [if_neg (by decide), if_neg (by decide)]; omega
    have hkk : HK C fst k := (hk_hit hcr.1 ⟨hk1, hk2⟩ hb).mpr (by rw [hk3]; exact i3)
    have a := qm1 k hk1 hk2 hkk
    refine ⟨cn (fun j => HK C fst j) k.toNat, (cn_0le _ _).1, ?_, ?_⟩
    · have s := cn_st (P := fun j => HK C fst j) (n := k.toNat) (by show HK C fst ((k.toNat : Nat) : Int); rw [show ((k.toNat : Nat) : Int) = k by omega]; exact hkk)
      have m := cn_mono (fun j => HK C fst j) (k.toNat + 1) (there.toNat - (k.toNat + 1))
      rw [show k.toNat + 1 + (there.toNat - (k.toNat + 1)) = there.toNat by omega] at m
      omega
    · rw [a, hk3, ← h.2.2.2.1 i i1 i2, i4]
  · intro x p q hx
    refine k2.2.1 x (fun z => ?_)
    obtain ⟨i, i1, i2, -, i4⟩ := z
    exact hx ((h.1.2.2.2.2.2.2.1 x p q).mpr ⟨i, i1, i2, i4⟩)
/-- what holds while both run to the end: t0 those there at first, w0 their rounds at first -/
def GI (size t0 there gm : Int) (w0 went gone going : Int → Int) : Prop := gm = t0 - there ∧ (∀ j, 0 ≤ j → j < gm → 1 ≤ going j ∧ going j ≤ 120) ∧ (∀ j, 0 ≤ j → j < gm → going j = gone (size - t0 + j)) ∧ (∀ x, 1 ≤ x → x ≤ size → w0 x = 0 → went x ≠ 0 → ∃ j, 0 ≤ j ∧ j < gm ∧ going j = x) ∧ (∀ x, 1 ≤ x → x ≤ size → w0 x ≠ 0 → went x = w0 x)
theorem GI.step {size t0 there th2 gm a : Int} {w0 went w2 gone g2 going q1 g3 : Int → Int} (h : GI size t0 there gm w0 went gone going) (ht : there ≤ t0 ∧ t0 ≤ size ∧ 0 ≤ th2 ∧ th2 ≤ there) (ha : a = there - th2) (o0 : ∀ j, 0 ≤ j → j < a → 1 ≤ g3 j ∧ g3 j ≤ 120) (o1 : ∀ j, 0 ≤ j → j < a → g3 j = g2 (size - there + j)) (o2 : ∀ j, j < size - there → g2 j = gone j) (o3 : ∀ x, 1 ≤ x → x ≤ size → went x = 0 → w2 x ≠ 0 → ∃ j, 0 ≤ j ∧ j < a ∧ g3 j = x) (o4 : ∀ x, 1 ≤ x → x ≤ size → went x ≠ 0 → w2 x = went x) (c1 : ∀ j, 0 ≤ j → j < gm → q1 j = going j) (c2 : ∀ j, 0 ≤ j → j < a → q1 (gm + (j - 0)) = g3 j) : GI size t0 th2 (gm + a) w0 w2 g2 q1 := by
  obtain ⟨k1, k2, k3, k4, k5⟩ := h
  have late : ∀ j, gm ≤ j → j < gm + a → q1 j = g3 (j - gm) := fun j p q => by
    have := c2 (j - gm) (by omega) (by omega)
    rw [show gm + (j - gm - 0) = j by omega] at this
    exact this
  refine ⟨by omega, fun j p q => ?_, fun j p q => ?_, fun x p q hx hx2 => ?_, fun x p q hx => ?_⟩
  · by_cases c : j < gm
    · rw [c1 j p c]; exact k2 j p c
    · rw [late j (by omega) q]; exact o0 _ (by omega) (by omega)
  · by_cases c : j < gm
    · rw [c1 j p c, k3 j p c, o2 _ (by omega)]
    · rw [late j (by omega) q, o1 _ (by omega) (by omega), show size - there + (j - gm) = size - t0 + j by omega]
  · by_cases c : went x = 0
    · obtain ⟨j, j1, j2, j3⟩ := o3 x p q c hx2
      exact ⟨gm + j, by omega, by omega, by rw [late _ (by omega) (by omega), show gm + j - gm = j by omega]; exact j3⟩
    · obtain ⟨j, j1, j2, j3⟩ := k4 x p q hx c
      exact ⟨j, j1, by omega, by rw [c1 j j1 j2]; exact j3⟩
  · have := k5 x p q hx
    rw [o4 x p q (by rw [this]; exact hx), this]
theorem end_loop {kind fig sc size idle t0 : Int} {steps st w0 : Int → Int} (hi : 1 ≤ idle ∧ idle ≤ 8) (ht0 : t0 ≤ size) : ∀ (n m : Nat) (v3 v4 v3m there rb gm B : Int) (line gone went ro we g' going : Int → Int), 0 ≤ v3 → v3 ≤ idle → v3 ≤ v4 → v3m = rb - v3 → 0 ≤ v4 → there * 8 + (idle - v3) < n → there * 8 + (idle - v3) < m → v4 + (there * 8 + (idle - v3)) ≤ 1500 → B + (there * 8 + (idle - v3)) ≤ 79999 → there ≤ t0 → SB B size there rb kind fig sc steps line went st ro we → GI size t0 there gm w0 went gone going → ∃ v3' v4' th2 rb2 l2 g2 w2 v3m' r2 e2 g3 go2 gm2, f_X8_goToEnd_L11 n kind idle v3 v4 size there rb fig sc steps line gone went = some (v3', v4', th2, rb2, l2, g2, w2) ∧ f_X11_runOut_L42 m idle v3 v3m there rb kind fig sc st ro we g' going gm = some (v3m', th2, rb2, r2, e2, g3, go2, gm2) ∧ SB 80000 size th2 rb2 kind fig sc steps l2 w2 st r2 e2 ∧ v3m' = rb2 - v3' ∧ rb2 - rb = v4' - v4 ∧ th2 ≤ there ∧ GI size t0 th2 gm2 w0 w2 g2 go2 := by
  intro n
  induction n with
  | zero => intro m v3 v4 v3m there rb gm B line gone went ro we g' going a1 a2 a3 a4 a5 a6 a7 a8 a9 a10 h; have := h.1.2.1; exact absurd a6 (by omega)
  | succ n ih =>
    intro m v3 v4 v3m there rb gm B line gone went ro we g' going a1 a2 a3 a4 a5 a6 a7 a8 a9 a10 h hG
    have b1 := h.1.1
    have b2 := h.1.2.1
    have b3 := h.1.2.2.1
    obtain ⟨m, rfl⟩ : ∃ m', m = m' + 1 := ⟨m - 1, by omega⟩
    have z3 : zR v3 ∧ zR idle := ⟨⟨by omega, by omega⟩, ⟨by omega, by omega⟩⟩
    rw [f_X8_goToEnd_L11_s, f_X11_runOut_L42_s, zg_pos (p := zR v4) ⟨by omega, by omega⟩, if_neg (show ¬ 2000 ≤ v4 by omega), zg_pos z3, zg_pos z3]
    by_cases c : idle ≤ v3
    · rw [if_pos c, if_pos c]
      exact ⟨_, _, _, _, _, _, _, _, _, _, _, _, _, rfl, rfl, h.widen (by omega), a4, by omega, Int.le_refl _, hG⟩
    · obtain ⟨a, th2, rb2, l2, g2, w2, r2, e2, g3, x1, x2, x3, x4, x5, x6, o0, o1, o2, o3, o4⟩ := rd_all (gone := gone) (g' := g') (by omega) h
      have hgm : gm = t0 - there := hG.1
      obtain ⟨⟨q1, q2⟩, y1, y2, -, y4, y5⟩ := mcp_ok (v5 := a) (gone := g3) (by omega) o0 zF 0 gm going (by omega) (by omega) (by omega) (by omega) (by rw [zF_eq]; omega) hG.2.1
      dsimp only at y2 y4 y5
      rw [if_neg c, if_neg c, x1, x2, Option.bind_some, Option.bind_some]
      dsimp only
      rw [y1, Option.bind_some]
      dsimp only
      have za : zR a := ⟨by omega, by omega⟩
      rw [zg_pos za, zg_pos za]
      have hG2 : GI size t0 th2 (gm + a) w0 w2 g2 q1 := hG.step ⟨a10, ht0, x5.1, x5.2⟩ x4 o0 o1 o2 o3 o4 y4 y5
      have e9 : q2 = gm + a := by omega
      rw [e9]
      unfold f_X11_runOut_J107
      by_cases c2 : a = 0
      · rw [if_pos (show a ≤ 0 by omega), if_neg (show ¬ ¬ a = 0 from fun q => q c2), zg_pos za, if_neg (show ¬ ¬ a = 0 from fun q => q c2)]
        obtain ⟨v3', v4', th3, rb3, l3, g4, w3, v3m', r3, e3, g5, go2, gm2, z1, z2, z3, z4, z5, z6, z7⟩ := ih m (v3 + 1) (v4 + 1) v3m th2 rb2 (gm + a) (B + 1) l2 g2 w2 r2 e2 g3 q1 (by omega) (by omega) (by omega) (by omega) (by omega) (by omega) (by omega) (by omega) (by omega) (by omega) x3 hG2
        exact ⟨v3', v4', th3, rb3, l3, g4, w3, v3m', r3, e3, g5, go2, gm2, z1, z2, z3, z4, by omega, by omega, z7⟩
      · rw [if_neg (show ¬ a ≤ 0 by omega), if_pos (show ¬ a = 0 from c2), zg_pos za, if_pos (show ¬ a = 0 from c2)]
        obtain ⟨v3', v4', th3, rb3, l3, g4, w3, v3m', r3, e3, g5, go2, gm2, z1, z2, z3, z4, z5, z6, z7⟩ := ih m 0 (v4 + 1) rb2 th2 rb2 (gm + a) (B + 1) l2 g2 w2 r2 e2 g3 q1 (by omega) (by omega) (by omega) (by omega) (by omega) (by omega) (by omega) (by omega) (by omega) (by omega) x3 hG2
        exact ⟨v3', v4', th3, rb3, l3, g4, w3, v3m', r3, e3, g5, go2, gm2, z1, z2, z3, z4, by omega, by omega, z7⟩
/-- what the end is: the class's mind and what the model looked at -/
def EP (size t0 kind fig sc r th2 rb2 : Int) (steps l2 g2 w2 st w0 : Int → Int) (q : Int × Int × Int × (Int → Int) × (Int → Int) × (Int → Int) × (Int → Int) × Int) : Prop := q.1 = r ∧ q.2.1 = th2 ∧ SB 80000 size th2 rb2 kind fig sc steps l2 w2 st q.2.2.2.1 q.2.2.2.2.1 ∧ th2 ≤ t0 ∧ GI size t0 th2 q.2.2.2.2.2.2.2 w0 w2 g2 q.2.2.2.2.2.2.1
theorem end_both {B kind fig sc size there rb gm : Int} {steps line gone went st ro we g' going : Int → Int} (hB : B ≤ 5000) (h : SB B size there rb kind fig sc steps line went st ro we) : ∃ r th2 rb2 l2 g2 w2, f_X8_goToEnd kind size there rb fig sc steps line gone went = some (r, th2, rb2, l2, g2, w2) ∧ ok (f_X11_runOut there rb kind fig sc st ro we g' going gm) (EP size there kind fig sc r th2 rb2 steps l2 g2 w2 st went) := by
  have b1 := h.1.1
  have b2 := h.1.2.1
  have b3 := h.1.2.2.1
  have hk := h.2.1.1
  have hs := h.2.1.2.2.1
  have hid : 1 ≤ (if kind = 4 ∧ 1 ≤ sc then sc else 1) ∧ (if kind = 4 ∧ 1 ≤ sc then sc else 1) ≤ 8 := by split <;> omega
  have g0 : GI size there there 0 went went gone going := ⟨by omega, fun j p q => absurd q (by omega), fun j p q => absurd q (by omega), fun x p q a b => absurd a b, fun x _ _ _ => rfl⟩
  obtain ⟨v3', v4', th2, rb2, l2, g2, w2, v3m', r2, e2, g3, go2, gm2, x1, x2, x3, x4, x5, x6, x7⟩ := end_loop (t0 := there) (w0 := went) hid b2.2 zF zF 0 0 rb there rb 0 B line gone went ro we g' going (by omega) (by omega) (by omega) (by omega) (by omega) (by rw [zF_eq]; omega) (by rw [zF_eq]; omega) (by omega) (by omega) (Int.le_refl _) h g0
  refine ⟨v4' - v3', th2, rb2, l2, g2, w2, ?_, ?_⟩
  · unfold f_X8_goToEnd
    rw [xidle h.2.1, Option.bind_some, x1, Option.bind_some]
  · have J : ∀ s0 : Int, s0 = (if kind = 4 ∧ 1 ≤ sc then sc else 1) → ok (f_X11_runOut_J23 s0 there rb kind fig sc st ro we g' going gm) (EP size there kind fig sc (v4' - v3') th2 rb2 steps l2 g2 w2 st went) := by
      intro s0 hs0
      subst hs0
      unfold f_X11_runOut_J23
      refine ok_bind.mpr (ok_of x2 ?_)
      exact ok_some.mpr ⟨by dsimp only; omega, rfl, x3, x6, x7⟩
    unfold f_X11_runOut
    refine ok_zg.mpr ⟨⟨by omega, by omega⟩, ok_ite.mpr ⟨fun q => ?_, fun q => ok_zg.mpr ⟨⟨by omega, by omega⟩, ok_ite.mpr ⟨fun q2 => ?_, fun q2 => J sc (by rw [if_pos ⟨Decidable.of_not_not q, by omega⟩])⟩⟩⟩⟩
    · unfold f_X11_runOut_J22; exact J 1 (by rw [if_neg (fun z => q z.1)])
    · unfold f_X11_runOut_J22; exact J 1 (by rw [if_neg (fun z => by omega)])
