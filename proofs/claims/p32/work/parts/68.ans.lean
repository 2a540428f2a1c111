/-! the looks ahead answer alike -/
section AN
variable {size there rb kind fig sc ms mt mr mk mf mc gm pl tk ki stm th v : Int} {steps line gone went st ro we m1 m2 m3 m4 g' going kept stg wg R R' : Int → Int}
/-- both ends at once, for any kind -/
theorem p_end (h : SR size there rb kind fig sc steps line went st ro we) : ∃ r th2 rb2 l2 g2 w2, f_X10_goToEnd size there rb kind fig sc steps line gone went ms mt mr mk mf mc m1 m2 m3 m4 = some (r, size, th2, rb2, kind, fig, sc, zcp steps m1 8, l2, g2, w2) ∧ ok (f_X11_runOut there rb kind fig sc st ro we g' going gm) (EP size there kind fig sc r th2 rb2 (zcp steps m1 8) l2 g2 w2 st (zcp went m4 121)) := by
  obtain ⟨r, th2, rb2, l2, g2, w2, x1, x2⟩ := end_both (B := 999) (gone := zcp gone m3 120) (g' := g') (going := going) (gm := gm) (by omega) (SB.cp (a := m1) (b := m2) (c := m4) h.sb)
  refine ⟨r, th2, rb2, l2, g2, w2, ?_, x2⟩
  unfold f_X10_goToEnd f_X8_copyFrom
  rw [Option.bind_some]
  dsimp only
  rw [xstriker h.2.1.1, Option.bind_some, x1, Option.bind_some]
theorem w_zcp (h : SR size there rb kind fig sc steps line went st ro we) {x : Int} (hx : 1 ≤ x ∧ x ≤ size) : zcp went m4 121 x = we x := by
  have b1 := h.1.1
  rw [zcp_in (by omega) (by omega)]
  exact h.2.2.2.2 x hx.1 (by omega)
/-- what EP says -/
theorem EP.out {t0 r th2 rb2 ret stm rd2 gm : Int} {s2 l2 g2 w2 w0 ro2 we2 gn go : Int → Int} (h : EP size t0 kind fig sc r th2 rb2 s2 l2 g2 w2 st w0 (ret, stm, rd2, ro2, we2, gn, go, gm)) : ret = r ∧ stm = th2 ∧ SB 80000 size th2 rb2 kind fig sc s2 l2 w2 st ro2 we2 ∧ th2 ≤ t0 ∧ GI size t0 th2 gm w0 w2 g2 go := h
theorem IS_line {B th2 rb2 : Int} {s2 l2 w2 ro2 we2 stg : Int → Int} (h : SB B size th2 rb2 kind fig sc s2 l2 w2 st ro2 we2) (e : eqr 0 th2 stg ro2) {x : Int} (hx : 1 ≤ x ∧ x ≤ size) : IS x th2 stg = 1 ↔ w2 x = 0 := by
  rw [IS_1, h.1.2.2.2.2.2.2.1 x hx.1 hx.2]
  constructor
  · rintro ⟨i, i1, i2, i3⟩; exact ⟨i, i1, i2, by rw [h.2.2.2.1 i i1 i2, ← e i i1 i2]; exact i3⟩
  · rintro ⟨i, i1, i2, i3⟩; exact ⟨i, i1, i2, by rw [e i i1 i2, ← h.2.2.2.1 i i1 i2]; exact i3⟩
theorem p_when (hv : zR v) (h : SR size there rb kind fig sc steps line went st ro we) : ∃ r : T12, f_X10_when v R size there rb kind fig sc steps line gone went ms mt mr mk mf mc m1 m2 m3 m4 = some r ∧ ok (f_X11_when v size there rb kind fig sc st ro we th R' g' going gm kept pl tk ki stg stm wg) (A22 size there rb kind fig sc st ro we (fun a => a = r.1)) := by
  have b1 := h.1.1
  have zs : zR size := ⟨by omega, by omega⟩
  obtain ⟨r, th2, rb2, l2, g2, w2, x1, x2⟩ := p_end (gone := gone) (ms := ms) (mt := mt) (mr := mr) (mk := mk) (mf := mf) (mc := mc) (m1 := m1) (m2 := m2) (m3 := m3) (m4 := m4) (g' := g') (going := going) (gm := gm) h
  have M := mwhen (th := th) (R := R') (kept := kept) (pl := pl) (tk := tk) (ki := ki) (stg := stg) (stm := stm) (wg := wg) hv h.mri h.mpi x2
  unfold f_X10_when
  rw [xhas hv zs, Option.bind_some, zg10n]
  by_cases c : 1 ≤ v ∧ v ≤ size
  · rw [if_pos c, x1, Option.bind_some]
    dsimp only
    have hb : SB 80000 size th2 rb2 kind fig sc (zcp steps m1 8) l2 w2 st l2 w2 := by
      obtain ⟨q, -, hq⟩ := x2
      obtain ⟨-, -, q3, -⟩ := EP.out hq
      exact ⟨q3.1, q3.2.1, q3.2.2.1, eqr.rfl, eqr.rfl⟩
    rw [xremains hv b1 (fun x p q => hb.1.zw (by omega) x p q), Option.bind_some, zg10]
    have e0 := w_zcp (m4 := m4) h c
    by_cases c2 : w2 v = 0
    · rw [if_pos ⟨c, c2⟩]
      refine ⟨_, rfl, M.mono (fun q hq => ⟨?_, hq.2⟩)⟩
      rcases hq.1 with ⟨n, -⟩ | ⟨-, z1, z2⟩ | ⟨-, z1, ret, stm, gm, stg, going, wg, ⟨rd2, ro2, we2, gn, hP, e1, e2, -⟩, hz⟩
      · exact absurd c n
      · obtain ⟨p, -, hp⟩ := x2
        obtain ⟨-, -, -, -, hg⟩ := EP.out hp
        have := hg.2.2.2.2 v c.1 c.2 (by rw [e0]; omega)
        rw [e0] at this
        omega
      · obtain ⟨q1, q2, q3, q4, q5⟩ := EP.out hP
        subst q2
        have i := IS_line q3 e1 c
        rcases hz with ⟨-, y⟩ | ⟨y, -⟩
        · exact y
        · have := i.mpr c2; omega
    · rw [if_neg (fun z => c2 z.2), zg_pos ⟨by omega, by omega⟩]
      refine ⟨_, rfl, M.mono (fun q hq => ⟨?_, hq.2⟩)⟩
      rcases hq.1 with ⟨n, -⟩ | ⟨-, z1, z2⟩ | ⟨-, z1, ret, stm, gm, stg, going, wg, ⟨rd2, ro2, we2, gn, hP, e1, e2, -⟩, hz⟩
      · exact absurd c n
      · obtain ⟨p, -, hp⟩ := x2
        obtain ⟨-, -, -, -, hg⟩ := EP.out hp
        have := hg.2.2.2.2 v c.1 c.2 (by rw [e0]; omega)
        rw [z2]
        show we v = w2 v
        rw [this, e0]
      · obtain ⟨q1, q2, q3, q4, q5⟩ := EP.out hP
        subst q2
        have i := IS_line q3 e1 c
        rcases hz with ⟨y, -⟩ | ⟨-, y⟩
        · exact absurd (i.mp y) c2
        · obtain ⟨j, j1, j2, j3⟩ := q5.2.2.2.1 v c.1 c.2 (by rw [e0]; exact z1) c2
          rw [y]
          show wg v = w2 v
          have := e2 j j1 j2
          rw [j3] at this
          rw [this]
          exact (q3.2.2.2.2 v c.1 (by omega)).symm
  · rw [if_neg c]
    obtain ⟨B2, B3, hB2, hB3⟩ := p_ref (k := 1) (by omega) R R'
    rw [hB2, Option.bind_some]
    refine ⟨_, rfl, M.mono (fun q hq => ⟨?_, hq.2⟩)⟩
    rcases hq.1 with ⟨-, y⟩ | ⟨y, -⟩ | ⟨y, -⟩
    · exact y
    · exact absurd y c
    · exact absurd y c
theorem p_rounds (h : SR size there rb kind fig sc steps line went st ro we) : ∃ r : Int × Int × Int × Int × Int × Int × Int × (Int → Int) × (Int → Int) × (Int → Int) × (Int → Int), f_X10_rounds size there rb kind fig sc steps line gone went ms mt mr mk mf mc m1 m2 m3 m4 = some r ∧ ok (f_X11_rounds size there rb kind fig sc st ro we th g' going gm kept pl tk ki stg stm wg) (A21 size there rb kind fig sc st ro we (fun a => a = r.1)) := by
  obtain ⟨r, th2, rb2, l2, g2, w2, x1, x2⟩ := p_end (gone := gone) (ms := ms) (mt := mt) (mr := mr) (mk := mk) (mf := mf) (mc := mc) (m1 := m1) (m2 := m2) (m3 := m3) (m4 := m4) (g' := g') (going := going) (gm := gm) h
  have M := mrounds (th := th) (kept := kept) (pl := pl) (tk := tk) (ki := ki) (stg := stg) (stm := stm) (wg := wg) h.mri h.mpi x2
  unfold f_X10_rounds
  rw [x1, Option.bind_some]
  refine ⟨_, rfl, M.mono (fun q hq => ⟨?_, hq.2⟩)⟩
  obtain ⟨stm, gm, stg, going, wg, rd2, ro2, we2, gn, hP, -⟩ := hq.1
  exact (EP.out hP).1
theorem p_stays (hv : zR v) (h : SR size there rb kind fig sc steps line went st ro we) : ∃ r : T12, f_X10_stays v R size there rb kind fig sc steps line gone went ms mt mr mk mf mc m1 m2 m3 m4 = some r ∧ ok (f_X11_stays v size there rb kind fig sc st ro we th R' g' going gm kept pl tk ki stg stm wg) (A22 size there rb kind fig sc st ro we (fun a => a = r.1)) := by
  obtain ⟨r, th2, rb2, l2, g2, w2, x1, x2⟩ := p_end (gone := gone) (ms := ms) (mt := mt) (mr := mr) (mk := mk) (mf := mf) (mc := mc) (m1 := m1) (m2 := m2) (m3 := m3) (m4 := m4) (g' := g') (going := going) (gm := gm) h
  have M := mstays (th := th) (R := R') (kept := kept) (pl := pl) (tk := tk) (ki := ki) (stg := stg) (stm := stm) (wg := wg) hv h.mri h.mpi x2
  obtain ⟨B2, B3, hB2, hB3⟩ := p_ref (k := 4) (by omega) R R'
  have ht2 : 0 ≤ th2 ∧ th2 ≤ 120 := by
    obtain ⟨q, -, hq⟩ := x2
    exact (EP.out hq).2.2.1.t
  unfold f_X10_stays
  rw [zg_pos hv]
  by_cases c : 0 ≤ v
  · rw [if_pos c, x1, Option.bind_some]
    dsimp only
    rw [xnum hv ht2, Option.bind_some]
    refine ⟨_, rfl, M.mono (fun q hq => ⟨?_, hq.2⟩)⟩
    rcases hq.1 with ⟨y, -⟩ | ⟨-, ret, stm, gm, stg, going, wg, ⟨rd2, ro2, we2, gn, hP, e1, e2, -⟩, hz⟩
    · omega
    · obtain ⟨q1, q2, q3, q4, q5⟩ := EP.out hP
      subst q2
      rw [hz]
      dsimp only
      by_cases c2 : stm ≤ v
      · rw [if_pos c2, if_neg (by omega)]
      · rw [if_neg c2, if_pos ⟨c, by omega⟩, e1 v c (by omega), ← q3.2.2.2.1 v c (by omega)]
  · rw [if_neg c, hB2, Option.bind_some]
    refine ⟨_, rfl, M.mono (fun q hq => ⟨?_, hq.2⟩)⟩
    rcases hq.1 with ⟨-, y⟩ | ⟨y, -⟩
    · exact y
    · exact absurd y c
theorem p_goes (hv : zR v) (h : SR size there rb kind fig sc steps line went st ro we) : ∃ r : T12, f_X10_goes v R size there rb kind fig sc steps line gone went ms mt mr mk mf mc m1 m2 m3 m4 = some r ∧ ok (f_X11_goes v size there rb kind fig sc st ro we th R' g' going gm kept pl tk ki stg stm wg) (A22 size there rb kind fig sc st ro we (fun a => a = r.1)) := by
  obtain ⟨r, th2, rb2, l2, g2, w2, x1, x2⟩ := p_end (gone := gone) (ms := ms) (mt := mt) (mr := mr) (mk := mk) (mf := mf) (mc := mc) (m1 := m1) (m2 := m2) (m3 := m3) (m4 := m4) (g' := g') (going := going) (gm := gm) h
  have M := mgoes (th := th) (R := R') (kept := kept) (pl := pl) (tk := tk) (ki := ki) (stg := stg) (stm := stm) (wg := wg) hv h.mri h.mpi x2
  obtain ⟨B2, B3, hB2, hB3⟩ := p_ref (k := 4) (by omega) R R'
  have b1 := h.1.1
  have b2 := h.1.2.1
  have ht2 : (0 ≤ th2 ∧ th2 ≤ 120) ∧ th2 ≤ there := by
    obtain ⟨q, -, hq⟩ := x2
    exact ⟨(EP.out hq).2.2.1.t, (EP.out hq).2.2.2.1⟩
  unfold f_X10_goes
  rw [zg_pos hv]
  by_cases c : 0 ≤ v
  · rw [if_pos c, x1, Option.bind_some]
    dsimp only
    rw [zg_pos ⟨hv, ⟨by omega, by omega⟩⟩]
    by_cases c2 : there - th2 ≤ v
    · rw [if_pos c2]
      refine ⟨_, rfl, M.mono (fun q hq => ⟨?_, hq.2⟩)⟩
      rcases hq.1 with ⟨y, -⟩ | ⟨-, ret, stm, gm, stg, going, wg, ⟨rd2, ro2, we2, gn, hP, e1, e2, -⟩, hz⟩
      · omega
      · obtain ⟨q1, q2, q3, q4, q5⟩ := EP.out hP
        have := q5.1
        rw [hz, if_pos (by omega)]
    · unfold f_X8_goneCount
      rw [if_neg c2, Option.bind_some, zg_pos ⟨by omega, by omega⟩]
      refine ⟨_, rfl, M.mono (fun q hq => ⟨?_, hq.2⟩)⟩
      rcases hq.1 with ⟨y, -⟩ | ⟨-, ret, stm, gm, stg, going, wg, ⟨rd2, ro2, we2, gn, hP, e1, e2, -⟩, hz⟩
      · omega
      · obtain ⟨q1, q2, q3, q4, q5⟩ := EP.out hP
        have := q5.1
        rw [hz, if_neg (by omega)]
        exact q5.2.2.1 v c (by omega)
  · rw [if_neg c, hB2, Option.bind_some]
    refine ⟨_, rfl, M.mono (fun q hq => ⟨?_, hq.2⟩)⟩
    rcases hq.1 with ⟨-, y⟩ | ⟨y, -⟩
    · exact y
    · exact absurd y c
theorem p_beside (hv : zR v) (h : SR size there rb kind fig sc steps line went st ro we) : ∃ r : T12, f_X10_beside v R size there rb kind fig sc steps line gone went ms mt mr mk mf mc m1 m2 m3 m4 = some r ∧ ok (f_X11_beside v size there rb kind fig sc st ro we th R' g' going gm kept pl tk ki stg stm wg) (A22 size there rb kind fig sc st ro we (fun a => a = r.1)) := by
  have b1 := h.1.1
  have zs : zR size := ⟨by omega, by omega⟩
  obtain ⟨r, th2, rb2, l2, g2, w2, x1, x2⟩ := p_end (gone := gone) (ms := ms) (mt := mt) (mr := mr) (mk := mk) (mf := mf) (mc := mc) (m1 := m1) (m2 := m2) (m3 := m3) (m4 := m4) (g' := g') (going := going) (gm := gm) h
  have M := mbeside (th := th) (R := R') (kept := kept) (pl := pl) (tk := tk) (ki := ki) (stg := stg) (stm := stm) (wg := wg) hv h.mri h.mpi x2
  obtain ⟨B2, B3, hB2, hB3⟩ := p_ref (k := 1) (by omega) R R'
  have hb : RI 80000 size th2 rb2 l2 w2 := by
    obtain ⟨q, -, hq⟩ := x2
    exact (EP.out hq).2.2.1.1
  have ht2 := hb.t120
  unfold f_X10_beside
  rw [xhas hv zs, Option.bind_some, zg10n]
  by_cases c : 1 ≤ v ∧ v ≤ size
  · rw [if_pos c, x1, Option.bind_some]
    dsimp only
    obtain ⟨p, y1, y2⟩ := xplace (line := l2) hv ht2 hb.zl
    rw [y1, Option.bind_some, zg_pos ⟨by omega, by omega⟩]
    rcases y2 with ⟨z1, z2⟩ | ⟨z1, z2, z3, z4⟩
    · rw [if_neg (show ¬ ¬ p = -9 from fun q => q z1)]
      refine ⟨_, rfl, M.mono (fun q hq => ⟨?_, hq.2⟩)⟩
      rcases hq.1 with ⟨n, -⟩ | ⟨-, ret, stm, gm, stg, going, wg, ⟨rd2, ro2, we2, gn, hP, e1, e2, -⟩, hz⟩
      · exact absurd c n
      · obtain ⟨q1, q2, q3, q4, q5⟩ := EP.out hP
        subst q2
        rcases hz with ⟨k, k1, k2, k3, -⟩ | ⟨k1, -⟩
        · exact absurd (by rw [q3.2.2.2.1 k k1 (by omega), ← e1 k k1 (by omega)]; exact k3) (z2 k k1 (by omega))
        · exact k1
    · rw [if_pos (show ¬ p = -9 by omega), xnum ⟨by omega, by omega⟩ ht2, Option.bind_some]
      refine ⟨_, rfl, M.mono (fun q hq => ⟨?_, hq.2⟩)⟩
      rcases hq.1 with ⟨n, -⟩ | ⟨-, ret, stm, gm, stg, going, wg, ⟨rd2, ro2, we2, gn, hP, e1, e2, -⟩, hz⟩
      · exact absurd c n
      · obtain ⟨q1, q2, q3, q4, q5⟩ := EP.out hP
        subst q2
        dsimp only
        have e3 : ∀ k, 0 ≤ k → k < stm → stg k = l2 k := fun k p1 p2 => by rw [e1 k p1 p2, ← q3.2.2.2.1 k p1 p2]
        rcases hz with ⟨k, k1, k2, k3, k4⟩ | ⟨k1, k2⟩
        · have : k = p - 1 := hb.2.2.2.2.1 k (p - 1) k1 (by omega) (by omega) (by omega) (by rw [← e3 k k1 (by omega), k3, z3])
          rw [k4, if_pos ⟨by omega, by omega⟩, e3 _ (by omega) k2, this, show p - 1 + 1 = p by omega]
        · rw [k1]
          by_cases c3 : p < stm
          · exact absurd (by rw [e3 (p - 1) (by omega) (by omega)]; exact z3) (k2 (p - 1) (by omega) (by omega))
          · rw [if_neg (by omega)]
  · rw [if_neg c, hB2, Option.bind_some]
    refine ⟨_, rfl, M.mono (fun q hq => ⟨?_, hq.2⟩)⟩
    rcases hq.1 with ⟨-, y⟩ | ⟨y, -⟩
    · exact y
    · exact absurd y c
theorem gap_loop {t : Int} {l2 sg : Int → Int} (ht : 0 ≤ t ∧ t ≤ 120) (hl : ∀ i, 0 ≤ i → i < t → 1 ≤ l2 i ∧ l2 i ≤ 120) (e : ∀ i, 0 ≤ i → i < t → sg i = l2 i) : ∀ (n m : Nat) (v2 v3 i : Int), 0 ≤ i → i ≤ 121 → 130 - i < n → 130 - i < m → (-9 ≤ v2 ∧ v2 ≤ 200) → ∃ p, f_X10_gap_L29 n v2 v3 (i + 1) t l2 = some p ∧ f_X11_gap_L36 m v2 v3 i sg t = some p := by
  intro n
  induction n with
  | zero => intro m v2 v3 i a1 a2 a3; exact absurd a3 (by omega)
  | succ n ih =>
    intro m v2 v3 i a1 a2 a3 a4 a5
    obtain ⟨m, rfl⟩ : ∃ m', m = m' + 1 := ⟨m - 1, by omega⟩
    have z : zR (i + 1) ∧ zR t := ⟨⟨by omega, by omega⟩, ⟨by omega, by omega⟩⟩
    rw [f_X10_gap_L29_s, f_X11_gap_L36_s, zg_pos z, zg_pos z]
    by_cases c : t ≤ i + 1
    · rw [if_pos c, if_pos c]
      exact ⟨_, rfl, rfl⟩
    · have l0 := hl i a1 (by omega)
      have l1 := hl (i + 1) (by omega) (by omega)
      rw [if_neg c, if_neg c, show i + 1 - 1 = i by omega, e i a1 (by omega), e (i + 1) (by omega) (by omega)]
      have g1 : 0 ≤ i + 1 ∧ i + 1 < 120 := by omega
      have g2 : 0 ≤ i ∧ i < 120 := by omega
      have g3 : zR (l2 (i + 1) - l2 i) := ⟨by omega, by omega⟩
      simp only [zg_pos g1, zg_pos g2, zg_pos g3]
      generalize hd : (if 0 ≤ l2 (i + 1) - l2 i then l2 (i + 1) - l2 i else -(l2 (i + 1) - l2 i)) = d
      have hd2 : 0 ≤ d ∧ d ≤ 200 := by rw [← hd]; split <;> omega
      have g4 : zR d ∧ zR v2 := ⟨⟨by omega, by omega⟩, ⟨by omega, by omega⟩⟩
      have J : ∃ p, zg (zR d ∧ zR v2) (if d ≤ v2 then f_X10_gap_L29 n v2 v3 (i + 1 + 1) t l2 else f_X10_gap_L29 n d (l2 i) (i + 1 + 1) t l2) = some p ∧ f_X11_gap_J79 (f_X11_gap_L36 m) v2 v3 i d sg t = some p := by
        unfold f_X11_gap_J79 f_X11_gap_J98
        rw [zg_pos g4, zg_pos g4]
        by_cases c2 : d ≤ v2
        · rw [if_pos c2, if_pos c2, zg_pos g4, if_pos c2]
          exact ih m v2 v3 (i + 1) (by omega) (by omega) (by omega) (by omega) a5
        · rw [if_neg c2, if_neg c2, zg_pos g2, zg_pos g4, if_neg c2, e i a1 (by omega)]
          exact ih m d (l2 i) (i + 1) (by omega) (by omega) (by omega) (by omega) (by omega)
      obtain ⟨p, p1, p2⟩ := J
      refine ⟨p, p1, ?_⟩
      by_cases c3 : 0 ≤ l2 (i + 1) - l2 i
      · rw [if_pos c3]; rw [if_pos c3] at hd; rw [hd]; exact p2
      · rw [if_neg c3]; rw [if_neg c3] at hd; rw [hd]; exact p2
theorem p_gap (hv : zR v) (h : SR size there rb kind fig sc steps line went st ro we) : ∃ r : T12, f_X10_gap v R size there rb kind fig sc steps line gone went ms mt mr mk mf mc m1 m2 m3 m4 = some r ∧ ok (f_X11_gap v size there rb kind fig sc st ro we th R' g' going gm kept pl tk ki stg stm wg) (A22 size there rb kind fig sc st ro we (fun a => a = r.1)) := by
  obtain ⟨r, th2, rb2, l2, g2, w2, x1, x2⟩ := p_end (gone := gone) (ms := ms) (mt := mt) (mr := mr) (mk := mk) (mf := mf) (mc := mc) (m1 := m1) (m2 := m2) (m3 := m3) (m4 := m4) (g' := g') (going := going) (gm := gm) h
  have M := mgap (th := th) (R := R') (kept := kept) (pl := pl) (tk := tk) (ki := ki) (stg := stg) (stm := stm) (wg := wg) hv h.mri h.mpi x2
  obtain ⟨B2, B3, hB2, hB3⟩ := p_ref (k := 2) (by omega) R R'
  have hb : RI 80000 size th2 rb2 l2 w2 := by
    obtain ⟨q, -, hq⟩ := x2
    exact (EP.out hq).2.2.1.1
  have ht2 := hb.t120
  have no : ¬ (0 ≤ v ∧ v ≤ 1) → ∃ r : T12, f_X10_gap_J9 R ms mt mr mk mf mc m1 m2 m3 m4 = some r ∧ ok (f_X11_gap v size there rb kind fig sc st ro we th R' g' going gm kept pl tk ki stg stm wg) (A22 size there rb kind fig sc st ro we (fun a => a = r.1)) := by
    intro n
    unfold f_X10_gap_J9
    rw [hB2, Option.bind_some]
    refine ⟨_, rfl, M.mono (fun q hq => ⟨?_, hq.2⟩)⟩
    rcases hq.1 with ⟨-, y⟩ | ⟨y, -⟩
    · exact y
    · exact absurd y n
  unfold f_X10_gap
  rw [zg_pos hv, zg_pos hv]
  by_cases c1 : v < 0
  · rw [if_pos c1]; exact no (by omega)
  · rw [if_neg c1]
    by_cases c2 : v ≤ 1
    · obtain ⟨p, y1, -⟩ := gap_loop (sg := l2) ht2 hb.l120 (fun i _ _ => rfl) zF zF (-9) (-9) 0 (by omega) (by omega) (by rw [zF_eq]; omega) (by rw [zF_eq]; omega) (by omega)
      rw [Int.zero_add] at y1
      rw [if_pos c2, x1, Option.bind_some]
      dsimp only
      rw [y1, Option.bind_some, zg_pos hv]
      have H : ∀ a : Int, (∃ ret stm gm stg going wg, EI (EP size there kind fig sc r th2 rb2 (zcp steps m1 8) l2 g2 w2 st (zcp went m4 121)) ret stm gm stg going wg ∧ ∃ p, f_X11_gap_L36 zF (-9) (-9) 0 stg stm = some p ∧ a = if v = 0 then p.1 else p.2) → a = if v = 0 then p.1 else p.2 := by
        rintro a ⟨ret, stm, gm, stg, going, wg, ⟨rd2, ro2, we2, gn, hP, e1, e2, -⟩, p', hp', ha⟩
        obtain ⟨q1, q2, q3, q4, q5⟩ := EP.out hP
        subst q2
        obtain ⟨p2, z1, z2⟩ := gap_loop (sg := stg) ht2 hb.l120 (fun i p q => by rw [e1 i p q, ← q3.2.2.2.1 i p q]) zF zF (-9) (-9) 0 (by omega) (by omega) (by rw [zF_eq]; omega) (by rw [zF_eq]; omega) (by omega)
        rw [Int.zero_add, y1] at z1
        cases z1
        rw [hp'] at z2
        cases z2
        exact ha
      by_cases c3 : v = 0
      · rw [if_neg (show ¬ ¬ v = 0 from fun q => q c3)]
        refine ⟨_, rfl, M.mono (fun q hq => ⟨?_, hq.2⟩)⟩
        rcases hq.1 with ⟨n, -⟩ | ⟨-, hz⟩
        · exact absurd ⟨by omega, c2⟩ n
        · have := H _ hz
          rw [if_pos c3] at this
          exact this
      · rw [if_pos c3]
        refine ⟨_, rfl, M.mono (fun q hq => ⟨?_, hq.2⟩)⟩
        rcases hq.1 with ⟨n, -⟩ | ⟨-, hz⟩
        · exact absurd ⟨by omega, c2⟩ n
        · have := H _ hz
          rw [if_neg c3] at this
          exact this
    · rw [if_neg c2]; exact no (by omega)
theorem near_loop {t : Int} {l2 sg : Int → Int} (hv : zR v) (ht : 0 ≤ t ∧ t ≤ 120) (hl : ∀ i, 0 ≤ i → i < t → 1 ≤ l2 i ∧ l2 i ≤ 120) (e : ∀ i, 0 ≤ i → i < t → sg i = l2 i) : ∀ (n m : Nat) (v2 i : Int), 0 ≤ i → i ≤ 121 → 130 - i < n → 130 - i < m → ∃ p, f_X10_near_L32 n v v2 i t l2 = some p ∧ f_X11_near_L40 m v v2 i sg t = some p := by
  intro n
  induction n with
  | zero => intro m v2 i a1 a2 a3; exact absurd a3 (by omega)
  | succ n ih =>
    intro m v2 i a1 a2 a3 a4
    obtain ⟨m, rfl⟩ : ∃ m', m = m' + 1 := ⟨m - 1, by omega⟩
    have z : zR i ∧ zR t := ⟨⟨by omega, by omega⟩, ⟨by omega, by omega⟩⟩
    rw [f_X10_near_L32_s, f_X11_near_L40_s, zg_pos z, zg_pos z]
    by_cases c : t ≤ i
    · rw [if_pos c, if_pos c]
      exact ⟨_, rfl, rfl⟩
    · have l0 := hl i a1 (by omega)
      have g1 : 0 ≤ i ∧ i < 120 := by omega
      have g2 : zR (l2 i) ∧ zR v := ⟨⟨by omega, by omega⟩, hv⟩
      rw [if_neg c, if_neg c, e i a1 (by omega), zg_pos g1, zg_pos g2, zg_pos g1, zg_pos g2]
      by_cases c2 : v < l2 i
      · rw [if_pos c2, if_pos c2, Int.add_zero]
        exact ih m v2 (i + 1) (by omega) (by omega) (by omega) (by omega)
      · rw [if_neg c2, if_neg c2]
        exact ih m (v2 + 1) (i + 1) (by omega) (by omega) (by omega) (by omega)
theorem p_near (hv : zR v) (h : SR size there rb kind fig sc steps line went st ro we) : ∃ r : T12, f_X10_near v R size there rb kind fig sc steps line gone went ms mt mr mk mf mc m1 m2 m3 m4 = some r ∧ ok (f_X11_near v size there rb kind fig sc st ro we th R' g' going gm kept pl tk ki stg stm wg) (A22 size there rb kind fig sc st ro we (fun a => a = r.1)) := by
  obtain ⟨r, th2, rb2, l2, g2, w2, x1, x2⟩ := p_end (gone := gone) (ms := ms) (mt := mt) (mr := mr) (mk := mk) (mf := mf) (mc := mc) (m1 := m1) (m2 := m2) (m3 := m3) (m4 := m4) (g' := g') (going := going) (gm := gm) h
  have M := mnear (th := th) (R := R') (kept := kept) (pl := pl) (tk := tk) (ki := ki) (stg := stg) (stm := stm) (wg := wg) hv h.mri h.mpi x2
  obtain ⟨B2, B3, hB2, hB3⟩ := p_ref (k := 4) (by omega) R R'
  obtain ⟨C2, C3, hC2, hC3⟩ := p_ref (k := 6) (by omega) R R'
  have hb : RI 80000 size th2 rb2 l2 w2 := by
    obtain ⟨q, -, hq⟩ := x2
    exact (EP.out hq).2.2.1.1
  have ht2 := hb.t120
  unfold f_X10_near
  rw [zg_pos hv, zg_pos hv]
  by_cases c1 : 0 ≤ v
  · rw [if_pos c1]
    by_cases c2 : v ≤ 120
    · obtain ⟨p, y1, -⟩ := near_loop (sg := l2) hv ht2 hb.l120 (fun i _ _ => rfl) zF zF 0 0 (by omega) (by omega) (by rw [zF_eq]; omega) (by rw [zF_eq]; omega)
      rw [if_pos c2, x1, Option.bind_some]
      dsimp only
      rw [y1, Option.bind_some]
      refine ⟨_, rfl, M.mono (fun q hq => ⟨?_, hq.2⟩)⟩
      rcases hq.1 with ⟨n, -⟩ | ⟨n, -⟩ | ⟨-, ret, stm, gm, stg, going, wg, ⟨rd2, ro2, we2, gn, hP, e1, e2, -⟩, ha⟩
      · omega
      · omega
      · obtain ⟨q1, q2, q3, q4, q5⟩ := EP.out hP
        subst q2
        obtain ⟨p2, z1, z2⟩ := near_loop (sg := stg) hv ht2 hb.l120 (fun i p q => by rw [e1 i p q, ← q3.2.2.2.1 i p q]) zF zF 0 0 (by omega) (by omega) (by rw [zF_eq]; omega) (by rw [zF_eq]; omega)
        rw [y1] at z1
        cases z1
        rw [ha] at z2
        cases z2
        rfl
    · rw [if_neg c2, hC2, Option.bind_some]
      refine ⟨_, rfl, M.mono (fun q hq => ⟨?_, hq.2⟩)⟩
      rcases hq.1 with ⟨n, -⟩ | ⟨-, y⟩ | ⟨y, -⟩
      · omega
      · exact y
      · omega
  · rw [if_neg c1, hB2, Option.bind_some]
    refine ⟨_, rfl, M.mono (fun q hq => ⟨?_, hq.2⟩)⟩
    rcases hq.1 with ⟨-, y⟩ | ⟨y, -⟩ | ⟨y, -⟩
    · exact y
    · omega
    · omega
theorem p_byOther (hv : zR v) (h : SR size there rb kind fig sc steps line went st ro we) : ∃ r : T12, f_X10_byOther v R size there rb kind fig sc steps line gone went ms mt mr mk mf mc m1 m2 m3 m4 = some r ∧ ok (f_X11_byOther v size there rb kind fig sc st ro we th R' g' going gm kept pl tk ki stg stm wg) (A22 size there rb kind fig sc st ro we (fun a => a = r.1)) := by
  obtain ⟨B2, B3, hB2, hB3⟩ := p_ref (k := 2) (by omega) R R'
  unfold f_X10_byOther f_X8_copyFrom
  rw [xkind hv, Option.bind_some, zg10n]
  by_cases c : 0 ≤ v ∧ v ≤ 6
  · have h' : SR size there rb v fig sc steps line went st ro we := ⟨h.1, ⟨c, h.2.1.2⟩, h.2.2⟩
    obtain ⟨r, th2, rb2, l2, g2, w2, x1, x2⟩ := end_both (B := 999) (gone := zcp gone m3 120) (g' := g') (going := going) (gm := gm) (by omega) (SB.cp (a := m1) (b := m2) (c := m4) h'.sb)
    have M := mbyOther (th := th) (R := R') (kept := kept) (pl := pl) (tk := tk) (ki := ki) (stg := stg) (stm := stm) (wg := wg) hv h.mri h.mpi (fun _ => x2)
    rw [if_pos c, Option.bind_some]
    dsimp only
    rw [xstriker c, Option.bind_some, x1, Option.bind_some]
    refine ⟨_, rfl, M.mono (fun q hq => ⟨?_, hq.2⟩)⟩
    rcases hq.1 with ⟨n, -⟩ | ⟨-, ret, gm, stg, going, wg, rd2, ro2, we2, gn, hP, -⟩
    · exact absurd c n
    · exact (EP.out hP).2.1
  · have M := mbyOther (th := th) (R := R') (kept := kept) (pl := pl) (tk := tk) (ki := ki) (stg := stg) (stm := stm) (wg := wg) (P := fun _ => True) (gone := g') (going := going) (gm := gm) hv h.mri h.mpi (fun z => absurd z c)
    rw [if_neg c, hB2, Option.bind_some]
    refine ⟨_, rfl, M.mono (fun q hq => ⟨?_, hq.2⟩)⟩
    rcases hq.1 with ⟨-, y⟩ | ⟨y, -⟩
    · exact y
    · exact absurd y c
end AN
