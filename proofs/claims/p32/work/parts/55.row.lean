/-! statements carried out, on both sides -/
/-- the class's standing and the model's: alike -/
def SR (size there rb kind fig sc : Int) (steps line went st ro we : Int → Int) : Prop := RI 999 size there rb line went ∧ PI kind fig sc steps ∧ eqr 0 sc steps st ∧ eqr 0 there line ro ∧ eqr 1 (size + 1) went we
theorem SR.mri {size there rb kind fig sc : Int} {steps line went st ro we : Int → Int} (h : SR size there rb kind fig sc steps line went st ro we) : RI 999 size there rb ro we := h.1.congr h.2.2.2.1 h.2.2.2.2
theorem SR.mpi {size there rb kind fig sc : Int} {steps line went st ro we : Int → Int} (h : SR size there rb kind fig sc steps line went st ro we) : PI kind fig sc st := h.2.1.congr h.2.2.1
def CC (X : Option (Int × Int × Int × Int × Int × Int × Int × (Int → Int) × (Int → Int) × (Int → Int))) (Y : Option (Int × Int × Int × Int × Int × Int × Int × (Int → Int) × (Int → Int) × (Int → Int))) : Prop :=
  ∃ z size there rb kind fig sc steps line went st ro we, X = some (z, size, there, rb, kind, fig, sc, steps, line, went) ∧ Y = some (z, size, there, rb, kind, fig, sc, st, ro, we) ∧ (z = 0 ∨ z = 1) ∧ SR size there rb kind fig sc steps line went st ro we
section CO
variable {size there rb kind fig sc k v f w : Int} {steps line went st ro we lt fi se : Int → Int}
theorem co_110 (h : SR size there rb kind fig sc steps line went st ro we) (hk : 0 ≤ k ∧ k < 25) (e1 : lt k = 110) (e2 : fi k = f) (hf : 0 ≤ f ∧ f ≤ 999) : CC (f_X10_carryOut size there rb kind fig sc steps line went 110 f w) (f_X11_comes k size there rb kind fig sc st ro we lt fi se) := by
  unfold f_X10_carryOut f_X11_comes
  rw [zg_pos ⟨by omega, by omega⟩, if_pos rfl, zg_pos hk, zg_pos hk, zg_pos hk, e1, e2, zg_pos ⟨by omega, by omega⟩, if_neg (fun q => q rfl), zg_pos ⟨by omega, by omega⟩, min_ ⟨by omega, by omega⟩ ⟨by omega, by omega⟩ ⟨by omega, by omega⟩]
  obtain ⟨r, hr, hr2⟩ := xbegin (v := f) (a := size) (b := there) (c := rb) (line := line) (went := went) ⟨by omega, by omega⟩
  rcases hr2 with ⟨n, rfl⟩ | ⟨y, l, g, rfl, hb⟩
  · rw [hr, if_neg n]
    dsimp only [Option.bind_some]
    rw [zg_pos (Or.inl rfl), zg_pos ⟨by omega, by omega⟩, if_pos rfl, zg_pos (Or.inl rfl)]
    exact ⟨0, size, there, rb, kind, fig, sc, steps, line, went, st, ro, we, rfl, rfl, Or.inl rfl, h⟩
  · obtain ⟨r', hr', l', g', rfl, hb'⟩ := mbegin (v := f) (a := size) (b := there) (c := rb) (row := ro) (went := we) y
    rw [hr, if_pos y]
    dsimp only [Option.bind_some]
    rw [zg_pos (Or.inr rfl), zg_pos ⟨by omega, by omega⟩, if_neg (by decide), hr']
    dsimp only [Option.bind_some]
    rw [zg_pos (Or.inr rfl)]
    obtain ⟨s1, s2⟩ := hb.same hb'
    exact ⟨1, f, f, 0, kind, fig, sc, steps, l, g, st, l', g', rfl, rfl, Or.inr rfl, hb.ri y (by omega), h.2.1, h.2.2.1, s1, s2 y.2⟩
theorem co_115 (h : SR size there rb kind fig sc steps line went st ro we) (hk : 0 ≤ k ∧ k < 25) (e1 : lt k = 115) (e2 : fi k = f) (e3 : se k = w) (hf : 0 ≤ f ∧ f ≤ 9) (hw : 0 ≤ w ∧ w ≤ 9) : CC (f_X10_carryOut size there rb kind fig sc steps line went 115 f w) (f_X11_comes k size there rb kind fig sc st ro we lt fi se) := by
  have zf : zR f := ⟨by omega, by omega⟩
  have zw : zR w := ⟨by omega, by omega⟩
  unfold f_X10_carryOut f_X11_comes
  rw [zg_pos ⟨by omega, by omega⟩, if_neg (by decide), if_pos rfl, xkind zf, zg_pos hk, zg_pos hk, zg_pos hk, e1, e2, e3, zg_pos ⟨by omega, by omega⟩, if_pos (show ¬ (115 : Int) = 110 by decide), zg_pos hk, zg_pos ⟨by omega, by omega⟩, if_neg (show ¬ ¬ (115 : Int) = 115 from fun q => q rfl), zg_pos zf]
  dsimp only [Option.bind_some]
  rw [zg10]
  have N : CC (some (0, size, there, rb, kind, fig, sc, steps, line, went)) (f_X11_comes_J75 f w size there rb kind fig sc st ro we) := by
    unfold f_X11_comes_J75 f_X11_comes_J76 f_X11_comes_J92
    rw [zg_pos ⟨by omega, by omega⟩, if_pos rfl, zg_pos ⟨by omega, by omega⟩, if_pos rfl, zg_pos (Or.inl rfl)]
    exact ⟨0, size, there, rb, kind, fig, sc, steps, line, went, st, ro, we, rfl, rfl, Or.inl rfl, h⟩
  by_cases c1 : 0 ≤ f ∧ f ≤ 6
  · rw [if_pos c1, if_neg (show ¬ 7 ≤ f by omega), xfigure zw, zg_pos zw]
    dsimp only [Option.bind_some]
    rw [zg10n]
    by_cases c2 : 2 ≤ w ∧ w ≤ 9
    · rw [if_pos c2, if_neg (show ¬ w ≤ 1 by omega)]
      unfold f_X11_comes_J76 f_X11_comes_J92
      rw [zg_pos ⟨by omega, by omega⟩, if_neg (by decide), zg_pos ⟨by omega, by omega⟩, if_neg (by decide), zg_pos (Or.inr rfl)]
      exact ⟨1, size, there, rb, f, w, sc, steps, line, went, st, ro, we, rfl, rfl, Or.inr rfl, h.1, ⟨c1, c2, h.2.1.2.2⟩, h.2.2⟩
    · rw [if_neg c2, if_pos (show w ≤ 1 by omega)]
      exact N
  · rw [if_neg c1, if_pos (show 7 ≤ f by omega)]
    exact N
theorem xadd {v sc : Int} {steps : Int → Int} (hv : zR v) (hs : 0 ≤ sc ∧ sc ≤ 8) : f_X8_addStep v sc steps = some (if (2 ≤ v ∧ v ≤ 9) ∧ sc < 8 then (1, sc + 1, zup steps sc v) else (0, sc, steps)) := by
  unfold f_X8_addStep
  rw [xfigure hv]
  dsimp only [Option.bind_some]
  rw [zg10]
  by_cases c1 : 2 ≤ v ∧ v ≤ 9
  · rw [if_pos c1, zg_pos ⟨by omega, by omega⟩]
    by_cases c2 : sc < 8
    · rw [if_pos c2, if_pos ⟨c1, c2⟩, zg_pos ⟨by omega, by omega⟩]
    · rw [if_neg c2, if_neg (fun q => c2 q.2)]
  · rw [if_neg c1, if_neg (fun q => c1 q.1)]
theorem SR.step (h : SR size there rb kind fig sc steps line went st ro we) (hv : 2 ≤ v ∧ v ≤ 9) (hc : sc < 8) : SR size there rb kind fig (sc + 1) (zup steps sc v) line went (zup st sc v) ro we := by
  obtain ⟨h1, ⟨p1, p2, p3, p4⟩, h3, h4, h5⟩ := h
  refine ⟨h1, ⟨p1, p2, ⟨by omega, by omega⟩, fun i a b => ?_⟩, fun i a b => ?_, h4, h5⟩
  · by_cases e : i = sc
    · rw [e, zup_same]; exact hv
    · rw [zup_ne e]; exact p4 i a (by omega)
  · by_cases e : i = sc
    · rw [e, zup_same, zup_same]
    · rw [zup_ne e, zup_ne e]; exact h3 i a (by omega)
theorem co_116 (h : SR size there rb kind fig sc steps line went st ro we) (hk : 0 ≤ k ∧ k < 25) (e1 : lt k = 116) (e2 : fi k = f) (hf : 0 ≤ f ∧ f ≤ 9) : CC (f_X10_carryOut size there rb kind fig sc steps line went 116 f w) (f_X11_comes k size there rb kind fig sc st ro we lt fi se) := by
  have zf : zR f := ⟨by omega, by omega⟩
  have hs := h.2.1.2.2.1
  unfold f_X10_carryOut f_X11_comes
  rw [zg_pos ⟨by omega, by omega⟩, if_neg (by decide), if_neg (by decide), if_pos rfl, xadd zf hs, zg_pos hk, zg_pos hk, zg_pos hk, e1, e2, zg_pos ⟨by omega, by omega⟩, if_pos (show ¬ (116 : Int) = 110 by decide), zg_pos hk, zg_pos ⟨by omega, by omega⟩, if_pos (show ¬ (116 : Int) = 115 by decide), zg_pos hk, zg_pos ⟨by omega, by omega⟩, if_neg (show ¬ ¬ (116 : Int) = 116 from fun q => q rfl), zg_pos zf]
  dsimp only [Option.bind_some]
  have N : CC (some (0, size, there, rb, kind, fig, sc, steps, line, went)) (f_X11_comes_J144 f size there rb kind fig sc st ro we) := by
    unfold f_X11_comes_J144 f_X11_comes_J145
    rw [zg_pos ⟨by omega, by omega⟩, if_pos rfl, zg_pos (Or.inl rfl)]
    exact ⟨0, size, there, rb, kind, fig, sc, steps, line, went, st, ro, we, rfl, rfl, Or.inl rfl, h⟩
  by_cases c1 : f ≤ 1
  · rw [if_neg (show ¬ ((2 ≤ f ∧ f ≤ 9) ∧ sc < 8) by omega), if_pos c1]
    dsimp only
    rw [zg_pos (Or.inl rfl)]
    exact N
  · rw [if_neg c1, zg_pos (p := zR sc) ⟨by omega, by omega⟩]
    by_cases c2 : 8 ≤ sc
    · rw [if_neg (show ¬ ((2 ≤ f ∧ f ≤ 9) ∧ sc < 8) by omega), if_pos c2]
      dsimp only
      rw [zg_pos (Or.inl rfl)]
      exact N
    · rw [if_pos (show ((2 ≤ f ∧ f ≤ 9) ∧ sc < 8) by omega), if_neg c2]
      dsimp only
      unfold f_X11_comes_J145
      rw [zg_pos (p := (1 : Int) = 0 ∨ (1 : Int) = 1) (Or.inr rfl), zg_pos (p := zR 1) ⟨by omega, by omega⟩, if_neg (by decide), zg_pos (p := 0 ≤ sc ∧ sc < 8) ⟨by omega, by omega⟩]
      exact ⟨1, size, there, rb, kind, fig, sc + 1, zup steps sc f, line, went, zup st sc f, ro, we, rfl, rfl, Or.inr rfl, h.step (by omega) (by omega)⟩
theorem co_120 (h : SR size there rb kind fig sc steps line went st ro we) (hk : 0 ≤ k ∧ k < 25) (e1 : lt k = 120) (e2 : fi k = f) (e3 : se k = w) (hf : 0 ≤ f ∧ f ≤ 999) (hw : 0 ≤ w ∧ w ≤ 999) : CC (f_X10_carryOut size there rb kind fig sc steps line went 120 f w) (f_X11_comes k size there rb kind fig sc st ro we lt fi se) := by
  have zf : zR f := ⟨by omega, by omega⟩
  have zw : zR w := ⟨by omega, by omega⟩
  have b1 := h.1.1
  have b3 := h.1.2.2.1
  unfold f_X10_carryOut f_X11_comes
  rw [zg_pos ⟨by omega, by omega⟩, if_neg (by decide), if_neg (by decide), if_neg (by decide), if_pos rfl, zg_pos hk, zg_pos hk, zg_pos hk, e1, e2, e3, zg_pos ⟨by omega, by omega⟩, if_pos (by decide), zg_pos hk, zg_pos ⟨by omega, by omega⟩, if_pos (by decide), zg_pos hk, zg_pos ⟨by omega, by omega⟩, if_pos (by decide), mnum zf ⟨by omega, by omega⟩, mnum zw ⟨by omega, by omega⟩]
  dsimp only [Option.bind_some]
  rw [zg10, zg10]
  obtain ⟨r, hr, hr2⟩ := xchange h.1 (by omega) zf zw
  rw [hr]
  rcases hr2 with ⟨n, rfl⟩ | ⟨y, l', rfl, hs⟩
  · have N : CC (some (0, size, there, rb, kind, fig, sc, steps, line, went)) (f_X11_comes_J207 f w size there rb kind fig sc st ro we) := by
      unfold f_X11_comes_J207 f_X11_comes_J208
      rw [zg_pos ⟨by omega, by omega⟩, if_pos rfl, zg_pos (Or.inl rfl)]
      exact ⟨0, size, there, rb, kind, fig, sc, steps, line, went, st, ro, we, rfl, rfl, Or.inl rfl, h⟩
    dsimp only [Option.bind_some]
    rw [zg_pos (Or.inl rfl)]
    by_cases c1 : 1 ≤ f ∧ f ≤ size
    · rw [if_pos c1]
      by_cases c2 : 1 ≤ w ∧ w ≤ size
      · rw [if_pos c2, zg_pos ⟨zf, zw⟩]
        by_cases c3 : f = w
        · rw [if_pos c3]; exact N
        · rw [if_neg c3, zg_pos ⟨by omega, by omega⟩, if_pos (show ¬ rb = 0 from fun q => n ⟨c1, c2, c3, by omega⟩)]
          exact N
      · rw [if_neg c2]; exact N
    · rw [if_neg c1]; exact N
  · dsimp only [Option.bind_some]
    rw [zg_pos (Or.inr rfl), if_pos y.1, if_pos y.2.1, zg_pos ⟨zf, zw⟩, if_neg y.2.2.1, zg_pos ⟨by omega, by omega⟩, if_neg (show ¬ ¬ rb = 0 from fun q => q (by have := y.2.2.2; omega))]
    unfold f_X11_comes_J208
    obtain ⟨m', hm, hm2⟩ := mchange h.mri zf zw y
    rw [zg_pos ⟨by omega, by omega⟩, if_neg (by decide), hm]
    dsimp only [Option.bind_some]
    rw [zg_pos (Or.inr rfl)]
    exact ⟨1, size, there, rb, kind, fig, sc, steps, l', went, st, m', we, rfl, rfl, Or.inr rfl, hs.ri h.1 y.2.2.1, h.2.1, h.2.2.1, hs.same h.1 h.2.2.2.1 hm2, h.2.2.2.2⟩
theorem co_step (h : SR size there rb kind fig sc steps line went st ro we) (hk : 0 ≤ k ∧ k < 25) (e1 : lt k = v) (e2 : fi k = f) (e3 : se k = w) (hv : v = 110 ∨ v = 115 ∨ v = 116 ∨ v = 120) (hf : 0 ≤ f ∧ f ≤ 999) (hw : 0 ≤ w ∧ w ≤ 999) (h9 : (v = 115 ∨ v = 116) → f ≤ 9 ∧ w ≤ 9) : CC (f_X10_carryOut size there rb kind fig sc steps line went v f w) (f_X11_comes k size there rb kind fig sc st ro we lt fi se) := by
  rcases hv with rfl | rfl | rfl | rfl
  · exact co_110 h hk e1 e2 hf
  · have := h9 (Or.inl rfl)
    exact co_115 h hk e1 e2 e3 ⟨hf.1, this.1⟩ ⟨hw.1, this.2⟩
  · have := h9 (Or.inr rfl)
    exact co_116 h hk e1 e2 ⟨hf.1, this.1⟩
  · exact co_120 h hk e1 e2 e3 hf hw
end CO
theorem RS_f {s : Int → Int} {c p f f' : Int} (h : (RS s c p f).1 = 1) : RS s c p f' = RS s c p f := by
  unfold RS at h ⊢
  by_cases q1 : sg s c p = 110
  · rw [if_pos q1, if_pos q1]
  by_cases q2 : sg s c p = 115
  · rw [if_neg q1, if_neg q1, if_pos q2, if_pos q2]
  by_cases q3 : sg s c p = 116
  · rw [if_neg q1, if_neg q1, if_neg q2, if_neg q2, if_pos q3, if_pos q3]
  by_cases q4 : sg s c p = 120
  · rw [if_neg q1, if_neg q1, if_neg q2, if_neg q2, if_neg q3, if_neg q3, if_pos q4, if_pos q4]
  · rw [if_neg q1, if_neg q2, if_neg q3, if_neg q4] at h
    exact absurd (show (0 : Int) = 1 from h) (by decide)
/-- the list of statements that the model keeps -/
def TB (s : Int → Int) (c k T : Int) (pl lt fi se : Int → Int) (ps : Int → Int) : Prop :=
  (c ≤ ps T ∧ ps T ≤ 48) ∧ ∀ j, k ≤ j → j < T → (0 ≤ ps j ∧ ps j < c) ∧ pl j = ps j ∧ (RS s c (ps j) 0).1 = 1 ∧ (RS s c (ps j) 0).2.1 = ps (j + 1) ∧ lt j = (RS s c (ps j) 0).2.2.1 ∧ fi j = (RS s c (ps j) 0).2.2.2.1 ∧ se j = (RS s c (ps j) 0).2.2.2.2
theorem rn_ge {s : Int → Int} {c : Int} : ∀ (k : Nat) (v p : Int), p ≤ (rn s c k v p).2 := by
  intro k
  induction k with
  | zero => intro v p; exact Int.le_refl _
  | succ k ih =>
    intro v p
    unfold rn
    by_cases q : 48 ≤ sg s c p ∧ sg s c p ≤ 57
    · rw [if_pos q]
      have := ih ((if v < 0 then 0 else v) * 10 + sg s c p - 48) (p + 1)
      omega
    · rw [if_neg q]
      exact Int.le_refl _
theorem rn_congr {s s' : Int → Int} {c : Int} (e : eqr 0 c s s') : ∀ (k : Nat) (v p : Int), 0 ≤ p → rn s c k v p = rn s' c k v p := by
  intro k
  induction k with
  | zero => intro v p _; rfl
  | succ k ih =>
    intro v p hp
    unfold rn
    rw [sg_congr e hp, ih _ (p + 1) (by omega)]
theorem RS_congr {s s' : Int → Int} {c p f : Int} (e : eqr 0 c s s') (hp : 0 ≤ p) : RS s c p f = RS s' c p f := by
  have a3 := rn_ge (s := s') (c := c) 3 (-9) (p + 1)
  have a1 := rn_ge (s := s') (c := c) 1 (-9) (p + 1)
  have b1 := rn_ge (s := s') (c := c) 1 (-9) (rn s' c 1 (-9) (p + 1)).2
  have b3 := rn_ge (s := s') (c := c) 3 (-9) ((rn s' c 3 (-9) (p + 1)).2 + 1)
  unfold RS
  rw [sg_congr e hp, rn_congr e 3 (-9) (p + 1) (by omega), rn_congr e 1 (-9) (p + 1) (by omega), rn_congr e 1 (-9) (rn s' c 1 (-9) (p + 1)).2 (by omega), rn_congr e 3 (-9) ((rn s' c 3 (-9) (p + 1)).2 + 1) (by omega), sg_congr e (show 0 ≤ (rn s' c 3 (-9) (p + 1)).2 by omega), sg_congr e (show 0 ≤ (rn s' c 1 (-9) (p + 1)).2 by omega), sg_congr e (show 0 ≤ (rn s' c 1 (-9) (rn s' c 1 (-9) (p + 1)).2).2 by omega), sg_congr e (show 0 ≤ (rn s' c 3 (-9) ((rn s' c 3 (-9) (p + 1)).2 + 1)).2 by omega)]
theorem LI.congr {c : Int} {s s' : Int → Int} (h : LI c s) (e : eqr 0 c s s') : LI c s' := ⟨h.1, fun i p q => by rw [← e i p q]; exact h.2 i p q⟩
/-- both read on: the class counts, the model keeps -/
theorem rd_loop {s s' : Int → Int} {c : Int} (h : LI c s) (es : eqr 0 c s s') : ∀ (n m : Nat) (k p vb f w : Int) (pl lt fi se : Int → Int), 0 ≤ k → 2 * k ≤ p → p ≤ c → 60 - p < n → 60 - p + 1 < m → (k = 0 ∨ 0 < c) → ∃ R at' vb' f' w' at2 bad T pl' lt' fi' se', f_X4_faultPlace_L7 n k s c p vb f w = some (R, at', vb', f', w') ∧ f_X11_row_L20 m s' c p 0 k pl lt fi se = some (at2, bad, T, pl', lt', fi', se') ∧ (∀ j, j < k → pl' j = pl j ∧ lt' j = lt j ∧ fi' j = fi j ∧ se' j = se j) ∧ k ≤ T ∧ T ≤ 24 ∧ ((bad = 1 ∧ R = at2 ∧ 0 ≤ at2 ∧ at2 ≤ 48) ∨ (bad = 0 ∧ R = -9 ∧ 1 ≤ T ∧ ∃ ps, ps k = p ∧ TB s c k T pl' lt' fi' se' ps)) := by
  intro n
  induction n with
  | zero => intro m k p vb f w pl lt fi se h0 h1 h2 h3; have := h.1; exact absurd h3 (by omega)
  | succ n ih =>
    intro m k p vb f w pl lt fi se h0 h1 h2 h3 h4 h5
    have hc := h.1
    have h' := h.congr es
    have hk : k ≤ 24 := by omega
    obtain ⟨m, rfl⟩ : ∃ m', m = m' + 1 := ⟨m - 1, by omega⟩
    have zk : zR k := ⟨by omega, by omega⟩
    have zpc : zR p ∧ zR c := ⟨⟨by omega, by omega⟩, ⟨by omega, by omega⟩⟩
    rw [f_X4_faultPlace_L7_s, f_X11_row_L20_s]
    simp only [zg_pos zk, zg_pos (p := zR 0) ⟨by omega, by omega⟩, if_neg (show ¬ 48 < k by omega), if_neg (show ¬ ¬ (0 : Int) = 0 from fun q => q rfl), zg_pos zpc]
    have hp : 0 ≤ p ∧ p ≤ c := ⟨by omega, h2⟩
    by_cases e : ¬ k = 0 ∧ c ≤ p
    · simp only [if_neg e.1, if_pos e.2]
      exact ⟨-9, p, vb, f, w, p, 0, k, pl, lt, fi, se, rfl, rfl, fun j _ => ⟨rfl, rfl, rfl, rfl⟩, Int.le_refl _, hk, Or.inr ⟨rfl, rfl, by omega, fun _ => p, rfl, ⟨e.2, by dsimp only; omega⟩, fun j a b => absurd b (by omega)⟩⟩
    · have J : ∀ (X : Option (Int × Int × Int × Int × Int)) (Y : Option (Int × Int × Int × (Int → Int) × (Int → Int) × (Int → Int) × (Int → Int))), X = f_X4_faultPlace_J28 (f_X4_faultPlace_L7 n) k s c p vb f w → Y = f_X11_row_J45 (f_X11_row_L20 m) s' c p 0 k pl lt fi se → ∃ R at' vb' f' w' at2 bad T pl' lt' fi' se', X = some (R, at', vb', f', w') ∧ Y = some (at2, bad, T, pl', lt', fi', se') ∧ (∀ j, j < k → pl' j = pl j ∧ lt' j = lt j ∧ fi' j = fi j ∧ se' j = se j) ∧ k ≤ T ∧ T ≤ 24 ∧ ((bad = 1 ∧ R = at2 ∧ 0 ≤ at2 ∧ at2 ≤ 48) ∨ (bad = 0 ∧ R = -9 ∧ 1 ≤ T ∧ ∃ ps, ps k = p ∧ TB s c k T pl' lt' fi' se' ps)) := by
        intro X Y hX hY
        rw [hX, hY]
        unfold f_X4_faultPlace_J28 f_X11_row_J45
        rw [xrs h hp]
        obtain ⟨r, hrr, fi1, se1, rfl, k1, k2, k3⟩ := mrs (f := 0) (pl := pl) (lt := lt) (fi := fi) (se := se) h' hp (st := k) ⟨h0, by omega⟩
        rw [hrr]
        rw [← RS_congr es hp.1] at k3
        rw [← RS_congr es hp.1]
        dsimp only [Option.bind_some]
        have g := RS_ok (f := 0) h hp
        have g' := RS_ok (f := f) h hp
        by_cases q : (RS s c p f).1 = 0
        · have q0 : (RS s c p 0).1 = 0 := by
            rcases g.1 with a | a
            · exact a
            · have := RS_f (f' := f) a; rw [this, a] at q; exact absurd q (by decide)
          have ep : (RS s c p f).2.1 = (RS s c p 0).2.1 := by
            unfold RS
            by_cases q1 : sg s c p = 110
            · rw [if_pos q1, if_pos q1]
            by_cases q2 : sg s c p = 115
            · rw [if_neg q1, if_neg q1, if_pos q2, if_pos q2]
            by_cases q3 : sg s c p = 116
            · rw [if_neg q1, if_neg q1, if_neg q2, if_neg q2, if_pos q3, if_pos q3]
            by_cases q4 : sg s c p = 120
            · rw [if_neg q1, if_neg q1, if_neg q2, if_neg q2, if_neg q3, if_neg q3, if_pos q4, if_pos q4]
            · rw [if_neg q1, if_neg q1, if_neg q2, if_neg q2, if_neg q3, if_neg q3, if_neg q4, if_neg q4]
          obtain ⟨m', rfl⟩ : ∃ m', m = m' + 1 := ⟨m - 1, by omega⟩
          rw [q, q0, zg_pos ⟨by omega, by omega⟩, if_neg (fun a => a rfl), f_X11_row_L20_s, zg_pos ⟨by omega, by omega⟩, if_pos (by decide), ep]
          exact ⟨_, _, _, _, _, _, _, _, _, _, _, _, rfl, rfl, fun j hj => ⟨zup_ne (by omega), zup_ne (by omega), k1 j (by omega), k2 j (by omega)⟩, by omega, by omega, Or.inl ⟨by decide, rfl, by omega, by omega⟩⟩
        · have q1 : (RS s c p f).1 = 1 := by rcases g'.1 with a | a; exact absurd a q; exact a
          have e0 : RS s c p 0 = RS s c p f := RS_f q1
          have g2 := g'.2.2 q1
          rw [e0, q1, zg_pos ⟨by omega, by omega⟩, if_pos (by decide)]
          rw [e0] at k3
          obtain ⟨R, at', vb', f', w', at2, bad, T, pl', lt', fi', se', i1, i2, i3, i4, i5, i6⟩ := ih m (k + 1) (RS s c p f).2.1 (RS s c p f).2.2.1 (RS s c p f).2.2.2.1 (RS s c p f).2.2.2.2 (zup pl k p) (zup lt k (hr s' c p)) fi1 se1 (by omega) (by omega) (by omega) (by omega) (by omega) (Or.inr (by omega))
          refine ⟨R, at', vb', f', w', at2, bad, T, pl', lt', fi', se', i1, i2, fun j hj => ?_, by omega, i5, ?_⟩
          · obtain ⟨j1, j2, j3, j4⟩ := i3 j (by omega)
            rw [j1, j2, j3, j4]
            exact ⟨zup_ne (by omega), zup_ne (by omega), k1 j (by omega), k2 j (by omega)⟩
          · rcases i6 with a | ⟨a1, a2, a3, ps, a4, a5, a6⟩
            · exact Or.inl a
            · refine Or.inr ⟨a1, a2, a3, fun j => if j = k then p else ps j, if_pos rfl, ?_, fun j b1 b2 => ?_⟩
              · show c ≤ (if T = k then p else ps T) ∧ (if T = k then p else ps T) ≤ 48
                rw [if_neg (show ¬ T = k by omega)]; exact a5
              · dsimp only
                by_cases ej : j = k
                · rw [ej, if_pos rfl, if_neg (show ¬ k + 1 = k by omega), a4, e0]
                  obtain ⟨j1, j2, j3, j4⟩ := i3 k (by omega)
                  rw [j1, j2, j3, j4, zup_same, zup_same, (k3 q1).1, (k3 q1).2]
                  refine ⟨⟨hp.1, g2.2.1⟩, rfl, q1, rfl, ?_, rfl, rfl⟩
                  have e1 : (RS s c p f).2.2.1 = sg s c p := by
                    unfold RS
                    by_cases q1 : sg s c p = 110
                    · rw [if_pos q1]; split <;> (try split) <;> rfl
                    by_cases q2 : sg s c p = 115
                    · rw [if_neg q1, if_pos q2]; split <;> (try split) <;> (try split) <;> rfl
                    by_cases q3 : sg s c p = 116
                    · rw [if_neg q1, if_neg q2, if_pos q3]; split <;> (try split) <;> rfl
                    by_cases q4 : sg s c p = 120
                    · rw [if_neg q1, if_neg q2, if_neg q3, if_pos q4]; split <;> (try split) <;> (try split) <;> (try split) <;> rfl
                    · rw [if_neg q1, if_neg q2, if_neg q3, if_neg q4]
                  rw [e1]
                  have := g2.2.2.1
                  rw [e1] at this
                  have e5 := sg_congr es hp.1
                  rw [e5]
                  exact (hr_sg h' hp.1).2.2.1 (by omega)
                · rw [if_neg ej, if_neg (show ¬ j + 1 = k by omega)]
                  exact a6 j (by omega) b2
      by_cases e0 : k = 0
      · simp only [if_pos e0]; exact J _ _ rfl rfl
      · simp only [if_neg e0, if_neg (show ¬ c ≤ p from fun q => e ⟨e0, q⟩)]
        exact J _ _ rfl rfl
