/-! row on both sides -/
theorem co_loop {s : Int → Int} {c T : Int} {pl lt fi se ps kept steps0 row0 went0 : Int → Int} {size0 many0 rounds0 kind0 fig0 sc0 th lm ata bad : Int} (h : LI c s) (hT : T ≤ 24) (hI : IMG kept size0 many0 rounds0 kind0 fig0 sc0 steps0 row0 went0) : ∀ (n m : Nat) (k size there rb kind fig sc vb f w pl0 tk ki : Int) (steps line went st ro we : Int → Int), 0 ≤ k → k ≤ T → T - k < n → T - k < m → TB s c k T pl lt fi se ps → SR size there rb kind fig sc steps line went st ro we →
    ∃ R size' there' rb' kind' fig' sc' steps' line' went' at' vb' f' w' size2 there2 rb2 kind2 fig2 sc2 st2 ro2 we2 pl2 tk2 ki2, f_X10_carryOutStatements_L12 n k k size there rb kind fig sc steps line went s c (ps k) vb f w = some (R, size', there', rb', kind', fig', sc', steps', line', went', at', vb', f', w') ∧ f_X11_row_L79 m k size there rb kind fig sc st ro we th kept pl0 tk ki lm ata bad T pl lt fi se = some (R, size2, there2, rb2, kind2, fig2, sc2, st2, ro2, we2, th, kept, pl2, tk2, ki2, lm, ata, bad, T, pl, lt, fi, se) ∧ zR R ∧ ((R = T ∧ size2 = size' ∧ there2 = there' ∧ rb2 = rb' ∧ kind2 = kind' ∧ fig2 = fig' ∧ sc2 = sc' ∧ SR size' there' rb' kind' fig' sc' steps' line' went' st2 ro2 we2) ∨ (R ≤ 0 ∧ size2 = size0 ∧ there2 = many0 ∧ rb2 = rounds0 ∧ kind2 = kind0 ∧ fig2 = fig0 ∧ sc2 = sc0 ∧ eqr 0 8 steps0 st2 ∧ eqr 0 120 row0 ro2 ∧ eqr 0 121 went0 we2)) := by
  intro n
  induction n with
  | zero => intro m k size there rb kind fig sc vb f w pl0 tk ki steps line went st ro we h0 h1 h2; exact absurd h2 (by omega)
  | succ n ih =>
    intro m k size there rb kind fig sc vb f w pl0 tk ki steps line went st ro we h0 h1 h2 h3 hTB hS
    obtain ⟨m, rfl⟩ : ∃ m', m = m' + 1 := ⟨m - 1, by omega⟩
    have hc := h.1
    rw [f_X10_carryOutStatements_L12_s, f_X11_row_L79_s]
    rw [zg_pos (p := zR k) ⟨by omega, by omega⟩, if_neg (show ¬ 48 ≤ k by omega), zg_pos (p := zR k ∧ zR T) ⟨⟨by omega, by omega⟩, ⟨by omega, by omega⟩⟩]
    by_cases e : k = T
    · obtain ⟨t1, t2⟩ := hTB
      subst e
      rw [zg_pos (p := zR (ps k) ∧ zR c) ⟨⟨by omega, by omega⟩, ⟨by omega, by omega⟩⟩, if_pos t1.1, if_pos (Int.le_refl _)]
      exact ⟨k, size, there, rb, kind, fig, sc, steps, line, went, ps k, vb, f, w, size, there, rb, kind, fig, sc, st, ro, we, pl0, tk, ki, rfl, rfl, ⟨by omega, by omega⟩, Or.inl ⟨rfl, rfl, rfl, rfl, rfl, rfl, rfl, hS⟩⟩
    · obtain ⟨t1, t2⟩ := hTB
      obtain ⟨j1, j2, j3, j4, j5, j6, j7⟩ := t2 k (Int.le_refl _) (by omega)
      rw [zg_pos (p := zR (ps k) ∧ zR c) ⟨⟨by omega, by omega⟩, ⟨by omega, by omega⟩⟩, if_neg (show ¬ c ≤ ps k by omega), if_neg (show ¬ T ≤ k by omega), xrs h ⟨j1.1, by omega⟩]
      have ef : RS s c (ps k) f = RS s c (ps k) 0 := RS_f j3
      have g := (RS_ok (f := 0) h (p := ps k) ⟨j1.1, by omega⟩).2.2 j3
      rw [ef]
      dsimp only [Option.bind_some]
      rw [j3, zg_pos (p := zR 1) ⟨by omega, by omega⟩, if_neg (by decide)]
      obtain ⟨z, size', there', rb', kind', fig', sc', steps', line', went', st', ro', we', x1, x2, x3, x4⟩ := co_step (k := k) (lt := lt) (fi := fi) (se := se) hS ⟨h0, by omega⟩ j5 j6 j7 g.2.2.1 g.2.2.2.1 g.2.2.2.2.1 g.2.2.2.2.2
      rw [x1, x2]
      dsimp only [Option.bind_some]
      have zz : zR z := ⟨by omega, by omega⟩
      rw [zg_pos (p := zR z) zz, zg_pos (p := zR z) zz]
      by_cases ez : z = 0
      · rw [if_neg (show ¬ ¬ z = 0 from fun q => q ez), if_neg (show ¬ ¬ z = 0 from fun q => q ez)]
        obtain ⟨r, hr, st2, ro2, we2, rfl, c1, c2, c3⟩ := mclose (size := size') (many := there') (rounds := rb') (kind := kind') (fig := fig') (sc := sc') (place := pl0) (tk := tk) (ki := ki) (steps := st') (row := ro') (went := we') hI
        rw [hr]
        dsimp only [Option.bind_some]
        rw [zg_pos (p := 0 ≤ k ∧ k < 25) ⟨h0, by omega⟩, j2]
        exact ⟨_, size', there', rb', kind', fig', sc', steps', line', went', _, _, _, _, _, _, _, _, _, _, st2, ro2, we2, _, _, _, rfl, rfl, ⟨by omega, by omega⟩, Or.inr ⟨by omega, rfl, rfl, rfl, rfl, rfl, rfl, c1, c2, c3⟩⟩
      · rw [if_pos (show ¬ z = 0 from ez), if_pos (show ¬ z = 0 from ez), j4]
        exact ih m (k + 1) size' there' rb' kind' fig' sc' _ _ _ pl0 tk ki steps' line' went' st' ro' we' (by omega) (by omega) (by omega) (by omega) ⟨t1, fun j a b => t2 j (by omega) b⟩ x4
theorem SR.cp {size there rb kind fig sc : Int} {steps line went st ro we a b c : Int → Int} (h : SR size there rb kind fig sc steps line went st ro we) : SR size there rb kind fig sc (zcp steps a 8) (zcp line b 120) (zcp went c 121) st ro we := by
  obtain ⟨h1, h2, h3, h4, h5⟩ := h
  have b1 := h1.1
  have b2 := h1.2.1
  have b3 := h2.2.2.1
  have e1 : eqr 0 sc steps (zcp steps a 8) := (eqr_zcp (by omega) (by omega)).symm
  have e2 : eqr 0 there line (zcp line b 120) := (eqr_zcp (by omega) (by omega)).symm
  have e3 : eqr 1 (size + 1) went (zcp went c 121) := (eqr_zcp (by omega) (by omega)).symm
  exact ⟨h1.congr e2 e3, h2.congr e1, e1.symm.trans h3, e2.symm.trans h4, e3.symm.trans h5⟩
theorem SR.m {size there rb kind fig sc : Int} {steps line went st ro we st' ro' we' : Int → Int} (h : SR size there rb kind fig sc steps line went st ro we) (c1 : eqr 0 8 st st') (c2 : eqr 0 120 ro ro') (c3 : eqr 0 121 we we') : SR size there rb kind fig sc steps line went st' ro' we' := by
  obtain ⟨h1, h2, h3, h4, h5⟩ := h
  have b1 := h1.1
  have b2 := h1.2.1
  have b3 := h2.2.2.1
  exact ⟨h1, h2, h3.trans (c1.cut (by omega) (by omega)), h4.trans (c2.cut (by omega) (by omega)), h5.trans (c3.cut (by omega) (by omega))⟩
/-- the answers alike, the rows alike, the letters gone -/
def RowQ (r : Int × Int × Int × Int × Int × Int × Int × (Int → Int) × (Int → Int) × (Int → Int) × (Int → Int) × Int × Int × Int × Int × Int × Int × (Int → Int) × (Int → Int) × (Int → Int) × (Int → Int) × Int × Int × Int × Int × Int) (q : Int × Int × Int × Int × Int × Int × Int × (Int → Int) × (Int → Int) × (Int → Int) × Int × (Int → Int) × Int × Int × Int × Int × Int × Int × Int × (Int → Int) × (Int → Int) × (Int → Int) × (Int → Int)) : Prop :=
  match r, q with
  | (R, size, there, rb, kind, fig, sc, steps, line, _, went, _, _, _, _, _, _, _, _, _, _, lc, _, _, _, _), (Q, y1, y2, y3, y4, y5, y6, st, ro, we, _, _, _, _, _, lm, _, _, _, _, _, _, _) => Q = R ∧ y1 = size ∧ y2 = there ∧ y3 = rb ∧ y4 = kind ∧ y5 = fig ∧ y6 = sc ∧ lc = 0 ∧ lm = 0 ∧ SR size there rb kind fig sc steps line went st ro we
theorem row_all {n_size n_there n_roundsBy n_kind n_figure n_stepCount m_size m_there m_roundsBy m_kind m_figure m_stepCount l_count l_readAt l_verb l_first l_second t_thrown t_place t_isTaking t_keptIn t_at t_isBad t_statements : Int} {n_steps n_line n_gone n_wentIn m_steps m_line m_gone m_wentIn l_signs t_steps t_row t_went t_kept t_letters t_placeOf t_letterOf t_first t_second : Int → Int} (hS : SR n_size n_there n_roundsBy n_kind n_figure n_stepCount n_steps n_line n_wentIn t_steps t_row t_went) (hL : LI l_count l_signs) (eL : eqr 0 l_count l_signs t_letters) : ∃ r, f_X10_row n_size n_there n_roundsBy n_kind n_figure n_stepCount n_steps n_line n_gone n_wentIn m_size m_there m_roundsBy m_kind m_figure m_stepCount m_steps m_line m_gone m_wentIn l_signs l_count l_readAt l_verb l_first l_second = some r ∧ ∃ q, f_X11_row n_size n_there n_roundsBy n_kind n_figure n_stepCount t_steps t_row t_went t_thrown t_kept t_place t_isTaking t_keptIn t_letters l_count t_at t_isBad t_statements t_placeOf t_letterOf t_first t_second = some q ∧ RowQ r q := by
  have hc := hL.1
  have hz : (100 : Int) < ((zF : Nat) : Int) := by rw [zF_eq]; omega
  obtain ⟨R, at', vb', f', w', at2, bad, T, pl', lt', fi', se', i1, i2, i3, i4, i5, i6⟩ := rd_loop hL eL zF zF 0 0 l_verb l_first l_second t_placeOf t_letterOf t_first t_second (by omega) (by omega) hc.1 (by omega) (by omega) (Or.inl rfl)
  rcases i6 with ⟨a1, a2, a3, a4⟩ | ⟨a1, a2, a3, ps, a4, a5⟩
  · have X : f_X10_row n_size n_there n_roundsBy n_kind n_figure n_stepCount n_steps n_line n_gone n_wentIn m_size m_there m_roundsBy m_kind m_figure m_stepCount m_steps m_line m_gone m_wentIn l_signs l_count l_readAt l_verb l_first l_second = some (-1000 - at2, n_size, n_there, n_roundsBy, n_kind, n_figure, n_stepCount, n_steps, n_line, n_gone, n_wentIn, m_size, m_there, m_roundsBy, m_kind, m_figure, m_stepCount, m_steps, m_line, m_gone, m_wentIn, 0, at', vb', f', w') := by
      unfold f_X10_row f_X4_faultPlace
      rw [i1, a2]
      dsimp only [Option.bind_some]
      rw [zg_pos (p := zR at2) ⟨by omega, by omega⟩, if_neg (show ¬ at2 < 0 by omega)]
    have Y : f_X11_row n_size n_there n_roundsBy n_kind n_figure n_stepCount t_steps t_row t_went t_thrown t_kept t_place t_isTaking t_keptIn t_letters l_count t_at t_isBad t_statements t_placeOf t_letterOf t_first t_second = some (-1000 - at2, n_size, n_there, n_roundsBy, n_kind, n_figure, n_stepCount, t_steps, t_row, t_went, 0, t_kept, t_place, t_isTaking, t_keptIn, 0, at2, 1, T, pl', lt', fi', se') := by
      unfold f_X11_row
      rw [i2, a1]
      dsimp only [Option.bind_some]
      rw [zg_pos (p := zR 1) ⟨by omega, by omega⟩, if_neg (by decide)]
    exact ⟨_, X, _, Y, rfl, rfl, rfl, rfl, rfl, rfl, rfl, rfl, rfl, hS⟩
  · obtain ⟨r, hr, q', rfl, hIm⟩ := mopen (size := n_size) (many := n_there) (rounds := n_roundsBy) (kind := n_kind) (fig := n_figure) (sc := n_stepCount) (place := t_place) (tk := t_isTaking) (ki := t_keptIn) (steps := t_steps) (row := t_row) (went := t_went) (kept := t_kept)
    obtain ⟨R, size', there', rb', kind', fig', sc', steps', line', went', at3, vb3, f3, w3, size2, there2, rb2, kind2, fig2, sc2, st2, ro2, we2, pl2, tk2, ki2, x1, x2, x3, x4⟩ := co_loop (T := T) (th := 0) (lm := 0) (ata := at2) (bad := 0) hL i5 hIm zF zF 0 n_size n_there n_roundsBy n_kind n_figure n_stepCount vb' f' w' 255 1 1 (zcp n_steps m_steps 8) (zcp n_line m_line 120) (zcp n_wentIn m_wentIn 121) t_steps t_row t_went (by omega) (by omega) (by omega) (by omega) a5 hS.cp
    rw [a4] at x1
    have Y : f_X11_row n_size n_there n_roundsBy n_kind n_figure n_stepCount t_steps t_row t_went t_thrown t_kept t_place t_isTaking t_keptIn t_letters l_count t_at t_isBad t_statements t_placeOf t_letterOf t_first t_second = some (R, size2, there2, rb2, kind2, fig2, sc2, st2, ro2, we2, 0, q', pl2, tk2, ki2, 0, at2, 0, T, pl', lt', fi', se') := by
      unfold f_X11_row
      revert i2 x2
      generalize zF = N
      intro i2 x2
      rw [i2, Option.bind_some, a1]
      show zg _ _ = _
      rw [zg_pos (p := zR 0) ⟨by omega, by omega⟩, if_pos rfl, hr, Option.bind_some]
      exact x2
    rcases x4 with ⟨b1, b2, b3, b4, b5, b6, b7, b8⟩ | ⟨b1, b2, b3, b4, b5, b6, b7, b8, b9, b10⟩
    · have X : f_X10_row n_size n_there n_roundsBy n_kind n_figure n_stepCount n_steps n_line n_gone n_wentIn m_size m_there m_roundsBy m_kind m_figure m_stepCount m_steps m_line m_gone m_wentIn l_signs l_count l_readAt l_verb l_first l_second = some (R, size', there', rb', kind', fig', sc', zcp steps' n_steps 8, zcp line' n_line 120, zcp (zcp n_gone m_gone 120) n_gone 120, zcp went' n_wentIn 121, size', there', rb', kind', fig', sc', steps', line', zcp n_gone m_gone 120, went', 0, at3, vb3, f3, w3) := by
        unfold f_X10_row f_X4_faultPlace
        rw [i1, a2]
        dsimp only [Option.bind_some]
        rw [zg_pos (p := zR (-9)) ⟨by omega, by omega⟩, if_pos (show (-9 : Int) < 0 by omega)]
        unfold f_X8_copyFrom f_X10_carryOutStatements
        dsimp only [Option.bind_some]
        rw [x1]
        dsimp only [Option.bind_some]
        rw [zg_pos x3, if_neg (show ¬ R ≤ 0 by omega)]
      exact ⟨_, X, _, Y, rfl, b2, b3, b4, b5, b6, b7, rfl, rfl, b8.cp⟩
    · have X : f_X10_row n_size n_there n_roundsBy n_kind n_figure n_stepCount n_steps n_line n_gone n_wentIn m_size m_there m_roundsBy m_kind m_figure m_stepCount m_steps m_line m_gone m_wentIn l_signs l_count l_readAt l_verb l_first l_second = some (R, n_size, n_there, n_roundsBy, n_kind, n_figure, n_stepCount, n_steps, n_line, n_gone, n_wentIn, size', there', rb', kind', fig', sc', steps', line', zcp n_gone m_gone 120, went', 0, at3, vb3, f3, w3) := by
        unfold f_X10_row f_X4_faultPlace
        rw [i1, a2]
        dsimp only [Option.bind_some]
        rw [zg_pos (p := zR (-9)) ⟨by omega, by omega⟩, if_pos (show (-9 : Int) < 0 by omega)]
        unfold f_X8_copyFrom f_X10_carryOutStatements
        dsimp only [Option.bind_some]
        rw [x1]
        dsimp only [Option.bind_some]
        rw [zg_pos x3, if_pos b1]
      exact ⟨_, X, _, Y, rfl, b2, b3, b4, b5, b6, b7, rfl, rfl, hS.m b8 b9 b10⟩
