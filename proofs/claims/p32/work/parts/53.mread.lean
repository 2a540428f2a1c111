/-! the model's letters: what it reads -/
noncomputable def hr (s : Int → Int) (c p : Int) : Int := if p < c then s p else -1
theorem hr_sg {c p : Int} {s : Int → Int} (h : LI c s) (hp : 0 ≤ p) : -1 ≤ hr s c p ∧ hr s c p ≤ 255 ∧ (0 ≤ sg s c p → hr s c p = sg s c p) ∧ (0 ≤ hr s c p → hr s c p = sg s c p) := by
  unfold hr sg
  by_cases q : p < c
  · rw [if_pos q, if_pos q]; have := h.2 p hp q; exact ⟨by omega, by omega, fun _ => rfl, fun _ => rfl⟩
  · rw [if_neg q, if_neg q]; exact ⟨by omega, by omega, fun a => absurd a (by omega), fun a => absurd a (by omega)⟩
theorem hr_eq {c p v : Int} {s : Int → Int} (h : LI c s) (hp : 0 ≤ p) (hv : 0 ≤ v) : hr s c p = v ↔ sg s c p = v := by
  obtain ⟨-, -, a, b⟩ := hr_sg h hp
  constructor
  · intro e; rw [← b (by omega)]; exact e
  · intro e; rw [a (by omega)]; exact e
theorem mhere {c p : Int} {s : Int → Int} (h : LI c s) (hp : 0 ≤ p ∧ p ≤ 1000) : f_X11_here s c p = some (hr s c p) := by
  have := h.1
  unfold f_X11_here hr
  rw [zg_pos ⟨⟨by omega, by omega⟩, ⟨by omega, by omega⟩⟩]
  by_cases q : p < c
  · rw [if_pos q, if_neg (show ¬ c ≤ p by omega), zg_pos ⟨by omega, by omega⟩]
  · rw [if_neg q, if_pos (show c ≤ p by omega)]
theorem mrdJ0 {c p b : Int} {s : Int → Int} (h : 0 ≤ p ∧ p < 48) : f_X11_readDigit_J30 0 s p b = some (s p - 48, p + 1, 0) := by
  unfold f_X11_readDigit_J30
  rw [zg_pos (Or.inl rfl), zg_pos ⟨by omega, by omega⟩, if_pos rfl, zg_pos ⟨by omega, by omega⟩, show p + 1 - 1 = p by omega]
theorem mrdJ1 {p b : Int} {s : Int → Int} : f_X11_readDigit_J25 s p b = some (0, p, 1) := by
  unfold f_X11_readDigit_J25 f_X11_readDigit_J30
  rw [zg_pos (Or.inr rfl), zg_pos ⟨by omega, by omega⟩, if_neg (by decide)]
theorem mrd1 {c p : Int} {s : Int → Int} : f_X11_readDigit s c p 1 = some (0, p, 1) := by
  unfold f_X11_readDigit
  rw [zg_pos ⟨by omega, by omega⟩, if_pos (by decide), mrdJ1]
theorem mrd0 {c p : Int} {s : Int → Int} (h : LI c s) (hp : 0 ≤ p ∧ p ≤ c) : f_X11_readDigit s c p 0 = some (if 48 ≤ sg s c p ∧ sg s c p ≤ 57 then (sg s c p - 48, p + 1, 0) else (0, p, 1)) := by
  have hc := h.1
  have hh := hr_sg h hp.1
  unfold f_X11_readDigit
  rw [zg_pos ⟨by omega, by omega⟩, if_neg (fun q => q rfl), mhere h ⟨hp.1, by omega⟩]
  dsimp only [Option.bind_some]
  rw [zg_pos ⟨by omega, by omega⟩, min_ ⟨by omega, by omega⟩ ⟨by omega, by omega⟩ ⟨by omega, by omega⟩]
  dsimp only [Option.bind_some]
  rw [zg10n]
  by_cases q : 48 ≤ sg s c p ∧ sg s c p ≤ 57
  · have e := hh.2.2.1 (by omega)
    have hl : p < c := sg_lt (s := s) (by omega)
    rw [if_pos (by omega), if_pos q, mrdJ0 (c := c) ⟨hp.1, by omega⟩]
    have e2 : sg s c p = s p := by unfold sg; rw [if_pos hl]
    rw [e2]
  · rw [if_neg (fun a => q (by have := hh.2.2.2 (by omega); omega)), if_neg q, mrdJ1]
theorem mrn_L1 {c v2 p v : Int} {s : Int → Int} {n : Nat} (hv : zR v2) : f_X11_readNumber_L7 (n + 1) v v2 s c p 1 = some (v, p, 1) := by
  rw [f_X11_readNumber_L7_s, zg_pos hv]
  by_cases q : 3 ≤ v2
  · rw [if_pos q]
  · rw [if_neg q, zg_pos ⟨by omega, by omega⟩, if_pos (by decide)]
theorem mrn_L {c : Int} {s : Int → Int} (h : LI c s) : ∀ (k : Nat) (n : Nat) (v v2 p : Int), 3 - v2 = k → 0 ≤ v2 → k < n → 0 ≤ v → 0 ≤ p → p ≤ c → f_X11_readNumber_L7 n v v2 s c p 0 = some ((rn s c k v p).1, (rn s c k v p).2, 0) := by
  intro k
  induction k with
  | zero =>
    intro n v v2 p a1 a2 a3 a4 a6 a7
    obtain ⟨m, rfl⟩ : ∃ m, n = m + 1 := ⟨n - 1, by omega⟩
    rw [f_X11_readNumber_L7_s, zg_pos ⟨by omega, by omega⟩, if_pos (by omega)]
    rfl
  | succ k ih =>
    intro n v v2 p a1 a2 a3 a4 a6 a7
    have hc := h.1
    have hh := hr_sg h a6
    obtain ⟨m, rfl⟩ : ∃ m, n = m + 1 := ⟨n - 1, by omega⟩
    rw [f_X11_readNumber_L7_s, zg_pos ⟨by omega, by omega⟩, if_neg (by omega), zg_pos ⟨by omega, by omega⟩, if_neg (fun q => q rfl), mhere h ⟨a6, by omega⟩]
    dsimp only [Option.bind_some]
    rw [zg_pos ⟨by omega, by omega⟩, min_ ⟨by omega, by omega⟩ ⟨by omega, by omega⟩ ⟨by omega, by omega⟩]
    dsimp only [Option.bind_some]
    rw [zg10]
    unfold rn
    by_cases q : 48 ≤ sg s c p ∧ sg s c p ≤ 57
    · have e := hh.2.2.1 (by omega)
      have hl : p < c := sg_lt (s := s) (by omega)
      rw [if_pos (by omega), if_pos q, mrd0 h ⟨a6, a7⟩, if_pos q]
      dsimp only [Option.bind_some]
      have e2 : 10 * v + (sg s c p - 48) = (if v < 0 then 0 else v) * 10 + sg s c p - 48 := by rw [if_neg (by omega)]; omega
      rw [e2]
      exact ih m _ (v2 + 1) (p + 1) (by omega) (by omega) (by omega) (by rw [← e2]; omega) (by omega) (by omega)
    · rw [if_neg (fun a => q (by have := hh.2.2.2 (by omega); omega)), if_neg q]
theorem rn_no {c p : Int} {s : Int → Int} {k : Nat} (q : ¬ (48 ≤ sg s c p ∧ sg s c p ≤ 57)) : rn s c (k + 1) (-9) p = (-9, p) := by
  unfold rn
  rw [if_neg q]
theorem rn_yes {c p : Int} {s : Int → Int} {k : Nat} (q : 48 ≤ sg s c p ∧ sg s c p ≤ 57) : rn s c (k + 1) (-9) p = rn s c k (sg s c p - 48) (p + 1) := by
  rw [rn, if_pos q, if_pos (by omega), show (0 : Int) * 10 + sg s c p - 48 = sg s c p - 48 by omega]
theorem rn_lt0 {c p : Int} {s : Int → Int} {k : Nat} : (rn s c (k + 1) (-9) p).1 < 0 ↔ ¬ (48 ≤ sg s c p ∧ sg s c p ≤ 57) := by
  constructor
  · intro a q
    rw [rn_yes q] at a
    have := rn_neg (s := s) (c := c) k (sg s c p - 48) (p + 1) (by omega)
    omega
  · intro q
    rw [rn_no q]; dsimp only; omega
/-- number or digit, the flag first -/
noncomputable def rb3 (a : Int × Int) : Int × Int × Int := if a.1 < 0 then (0, a.2, 1) else (a.1, a.2, 0)
theorem mrn0 {c p : Int} {s : Int → Int} (h : LI c s) (hp : 0 ≤ p ∧ p ≤ c) : f_X11_readNumber s c p 0 = some (rb3 (rn s c 3 (-9) p)) := by
  unfold f_X11_readNumber rb3
  rw [mrd0 h hp]
  by_cases q : 48 ≤ sg s c p ∧ sg s c p ≤ 57
  · have hl : p < c := sg_lt (s := s) (by omega)
    have n := fun a => (rn_lt0 (s := s) (c := c) (p := p) (k := 2)).mp a q
    rw [if_pos q, if_neg n, rn_yes q]
    dsimp only [Option.bind_some]
    rw [mrn_L h 2 zF _ 1 (p + 1) (by omega) (by omega) (by rw [zF_eq]; omega) (by omega) (by omega) (by omega)]
    rfl
  · rw [if_neg q, if_pos (rn_lt0.mpr q), rn_no q]
    dsimp only [Option.bind_some]
    rw [show zF = 3999 + 1 from rfl, mrn_L1 ⟨by omega, by omega⟩]
    rfl
theorem mrn1 {c p : Int} {s : Int → Int} : f_X11_readNumber s c p 1 = some (0, p, 1) := by
  unfold f_X11_readNumber
  rw [mrd1]
  dsimp only [Option.bind_some]
  rw [show zF = 3999 + 1 from rfl, mrn_L1 ⟨by omega, by omega⟩]
  rfl
theorem mdg0 {c p : Int} {s : Int → Int} (h : LI c s) (hp : 0 ≤ p ∧ p ≤ c) : f_X11_readDigit s c p 0 = some (rb3 (rn s c 1 (-9) p)) := by
  rw [mrd0 h hp]
  unfold rb3
  by_cases q : 48 ≤ sg s c p ∧ sg s c p ≤ 57
  · rw [if_pos q, if_neg (fun a => (rn_lt0 (s := s) (c := c) (p := p) (k := 0)).mp a q), rn_yes q]
    rfl
  · rw [if_neg q, if_pos (rn_lt0.mpr q), rn_no q]
theorem mtk0 {c v p : Int} {s : Int → Int} (h : LI c s) (hv : 0 ≤ v ∧ v ≤ 1000) (hp : 0 ≤ p ∧ p ≤ c) : f_X11_take v s c p 0 = some (if sg s c p = v then (p + 1, 0) else (p, 1)) := by
  have hc := h.1
  have hh := hr_sg h hp.1
  have he := hr_eq h hp.1 hv.1
  unfold f_X11_take
  rw [zg_pos ⟨by omega, by omega⟩, if_neg (fun q => q rfl), mhere h ⟨hp.1, by omega⟩]
  dsimp only [Option.bind_some]
  rw [zg_pos ⟨⟨by omega, by omega⟩, ⟨by omega, by omega⟩⟩]
  by_cases q : sg s c p = v
  · rw [if_pos (he.mpr q), if_pos q]
    unfold f_X11_take_J21
    rw [zg_pos (Or.inl rfl), zg_pos ⟨by omega, by omega⟩, if_pos rfl]
  · rw [if_neg (fun a => q (he.mp a)), if_neg q]
    unfold f_X11_take_J16 f_X11_take_J21
    rw [zg_pos (Or.inr rfl), zg_pos ⟨by omega, by omega⟩, if_neg (by decide), Int.add_zero]
theorem mtk1 {c v p : Int} {s : Int → Int} : f_X11_take v s c p 1 = some (p, 1) := by
  unfold f_X11_take
  rw [zg_pos ⟨by omega, by omega⟩, if_pos (by decide)]
  unfold f_X11_take_J16 f_X11_take_J21
  rw [zg_pos (Or.inr rfl), zg_pos ⟨by omega, by omega⟩, if_neg (by decide), Int.add_zero]
section MS
variable {c p st v2 : Int} {s pl lt fi se : Int → Int}
/-- what comes of the lists: only the place st is written -/
def At1 (st : Int) (f g : Int → Int) : Prop := ∀ j, j ≠ st → g j = f j
theorem At1.refl {st : Int} {f : Int → Int} : At1 st f f := fun _ _ => rfl
theorem At1.up {st v : Int} {f g : Int → Int} (h : At1 st f g) : At1 st f (zup g st v) := fun j hj => by rw [zup_ne hj]; exact h j hj
theorem At1.of_up {st v : Int} {f g : Int → Int} (h : At1 st (zup f st v) g) : At1 st f g := fun j hj => by rw [h j hj, zup_ne hj]
theorem m162b : f_X11_readStatement_J162 s c p 1 st pl lt fi se = some (p, 1, st + 1, pl, lt, fi, se) := by
  unfold f_X11_readStatement_J162
  rw [mtk1]
  rfl
theorem m162g (h : LI c s) (hp : 0 ≤ p ∧ p ≤ c) : f_X11_readStatement_J162 s c p 0 st pl lt fi se = some (if sg s c p = 59 then p + 1 else p, if sg s c p = 59 then 0 else 1, st + 1, pl, lt, fi, se) := by
  unfold f_X11_readStatement_J162
  rw [mtk0 h ⟨by omega, by omega⟩ hp]
  by_cases q : sg s c p = 59
  · simp only [if_pos q]; rfl
  · simp only [if_neg q]; rfl
theorem m146b (hst : 0 ≤ st ∧ st < 25) (hv : zR v2) : ok (f_X11_readStatement_J146 st v2 s c p 1 st pl lt fi se) (fun r => ∃ se', r = (p, 1, st + 1, pl, lt, fi, se') ∧ At1 st se se') := by
  unfold f_X11_readStatement_J146
  refine ok_zg.mpr ⟨hv, ok_ite.mpr ⟨fun _ => ?_, fun _ => ?_⟩⟩
  · rw [m162b]; exact ok_some.mpr ⟨se, rfl, At1.refl⟩
  · rw [mrd1]
    refine ok_bind.mpr (ok_some.mpr (ok_zg.mpr ⟨hst, ?_⟩))
    rw [m162b]; exact ok_some.mpr ⟨_, rfl, At1.refl.up⟩
theorem m116b {s2 : Int} (hst : 0 ≤ st ∧ st < 25) (hv : zR v2) : ok (f_X11_readStatement_J116 st v2 st s2 s c p 1 st pl lt fi se) (fun r => ∃ fi' se', r = (p, 1, st + 1, pl, lt, fi', se') ∧ At1 st fi fi' ∧ At1 st se se') := by
  unfold f_X11_readStatement_J116
  refine ok_zg.mpr ⟨hst, ok_zg.mpr ⟨hst, ok_zg.mpr ⟨hv, ok_ite.mpr ⟨fun _ => ?_, fun _ => ?_⟩⟩⟩⟩
  · refine (m146b hst hv).mono (fun r hr => ?_)
    obtain ⟨se', e, k⟩ := hr
    exact ⟨_, se', e, At1.refl.up, k.of_up⟩
  · rw [mtk1]
    refine ok_bind.mpr (ok_some.mpr (ok_bind.mpr ?_))
    dsimp only
    rw [mrn1]
    refine ok_some.mpr (ok_zg.mpr ⟨hst, ?_⟩)
    refine (m146b hst hv).mono (fun r hr => ?_)
    obtain ⟨se', e, k⟩ := hr
    exact ⟨_, se', e, At1.refl.up, k.of_up.of_up⟩
theorem m105b (hst : 0 ≤ st ∧ st < 25) (hv : zR v2) : ok (f_X11_readStatement_J105 st v2 st s c p 1 st pl lt fi se) (fun r => ∃ fi' se', r = (p, 1, st + 1, pl, lt, fi', se') ∧ At1 st fi fi' ∧ At1 st se se') := by
  unfold f_X11_readStatement_J105
  rw [mrn1]
  exact ok_bind.mpr (ok_some.mpr (m116b hst hv))
theorem m59b (hst : 0 ≤ st ∧ st < 25) (hv : zR v2) {b : Int} : ok (f_X11_readStatement_J59 st v2 s c p b st pl lt fi se) (fun r => ∃ fi' se', r = (p, 1, st + 1, pl, lt, fi', se') ∧ At1 st fi fi' ∧ At1 st se se') := by
  unfold f_X11_readStatement_J59 f_X11_readStatement_J64
  refine ok_zg.mpr ⟨Or.inr rfl, ok_zg.mpr ⟨⟨by omega, by omega⟩, ok_ite.mpr ⟨fun q => absurd q (by decide), fun _ => ?_⟩⟩⟩
  unfold f_X11_readStatement_J84
  rw [Int.add_zero]
  refine ok_zg.mpr ⟨hv, ok_ite.mpr ⟨fun _ => m105b hst hv, fun _ => ok_zg.mpr ⟨hv, ok_ite.mpr ⟨fun _ => ?_, fun _ => m105b hst hv⟩⟩⟩⟩
  rw [mrd1]
  exact ok_bind.mpr (ok_some.mpr (m116b hst hv))
/-- a statement read by the model is what the class reads -/
def MSp (s : Int → Int) (c p st : Int) (pl lt fi se : Int → Int) (R : Int × Int × Int × Int × Int) (r : Int × Int × Int × (Int → Int) × (Int → Int) × (Int → Int) × (Int → Int)) : Prop :=
  ∃ fi' se', r = (R.2.1, 1 - R.1, st + 1, pl, lt, fi', se') ∧ At1 st fi fi' ∧ At1 st se se' ∧ (R.1 = 1 → fi' st = R.2.2.2.1 ∧ se' st = R.2.2.2.2)
theorem MSp.bad {R : Int × Int × Int × Int × Int} {r : Int × Int × Int × (Int → Int) × (Int → Int) × (Int → Int) × (Int → Int)} (hR : R.1 = 0) {q : Int} (hq : R.2.1 = q) (h : ∃ fi' se', r = (q, 1, st + 1, pl, lt, fi', se') ∧ At1 st fi fi' ∧ At1 st se se') : MSp s c p st pl lt fi se R r := by
  obtain ⟨fi', se', e, k1, k2⟩ := h
  refine ⟨fi', se', ?_, k1, k2, fun a => ?_⟩
  · rw [e, hR, hq]; rfl
  · rw [hR] at a; exact absurd a (by decide)
theorem mrs {f : Int} (h : LI c s) (hp : 0 ≤ p ∧ p ≤ c) (hst : 0 ≤ st ∧ st < 25) : ok (f_X11_readStatement s c p 0 st pl lt fi se) (MSp s c p st (zup pl st p) (zup lt st (hr s c p)) fi se (RS s c p f)) := by
  have hc := h.1
  have hh := hr_sg h hp.1
  have zh : zR (hr s c p) := ⟨by omega, by omega⟩
  have hq := fun v hv => hr_eq (v := v) h hp.1 hv
  unfold f_X11_readStatement
  rw [mhere h ⟨hp.1, by omega⟩]
  refine ok_bind.mpr (ok_some.mpr (ok_zg.mpr ⟨hst, ok_zg.mpr ⟨hst, ok_zg.mpr ⟨⟨by omega, by omega⟩, ?_⟩⟩⟩))
  rw [if_neg (fun q => q rfl)]
  generalize hpl : zup pl st p = pl'
  generalize hlt : zup lt st (hr s c p) = lt'
  have G : ∀ v, (v = 110 ∨ v = 115 ∨ v = 116 ∨ v = 120) → sg s c p = v → ok (f_X11_readStatement_J63 st v s c p 0 st pl' lt' fi se) (MSp s c p st pl' lt' fi se (RS s c p f)) := by
    intro v hv hg
    have zv : zR v := ⟨by omega, by omega⟩
    have hl := sg_in hg (by omega)
    unfold f_X11_readStatement_J63 f_X11_readStatement_J64
    refine ok_zg.mpr ⟨Or.inl rfl, ok_zg.mpr ⟨⟨by omega, by omega⟩, ok_ite.mpr ⟨fun _ => ?_, fun q => absurd rfl q⟩⟩⟩
    unfold f_X11_readStatement_J84
    unfold RS
    rw [hg]
    rcases hv with rfl | rfl | rfl | rfl
    · have r := rn3 (s := s) (c := c) (p := p + 1) ⟨by omega, by omega⟩
      refine ok_zg.mpr ⟨zv, ?_⟩
      rw [if_pos rfl, if_pos rfl]
      unfold f_X11_readStatement_J105
      rw [mrn0 h ⟨by omega, by omega⟩]
      unfold rb3
      by_cases q1 : (rn s c 3 (-9) (p + 1)).1 < 0
      · rw [if_pos q1, if_pos q1]
        exact ok_bind.mpr (ok_some.mpr ((m116b hst zv).mono (fun r hr => MSp.bad rfl rfl hr)))
      · rw [if_neg q1, if_neg q1]
        refine ok_bind.mpr (ok_some.mpr ?_)
        unfold f_X11_readStatement_J116 f_X11_readStatement_J146
        dsimp only
        refine ok_zg.mpr ⟨hst, ok_zg.mpr ⟨hst, ok_zg.mpr ⟨zv, ?_⟩⟩⟩
        rw [if_pos (by decide)]
        refine ok_zg.mpr ⟨zv, ?_⟩
        rw [if_pos (by decide), m162g h ⟨by omega, by omega⟩]
        by_cases q2 : sg s c (rn s c 3 (-9) (p + 1)).2 = 59
        · simp only [if_pos q2]
          exact ok_some.mpr ⟨_, _, rfl, At1.refl.up, At1.refl.up, fun _ => ⟨zup_same _ _ _, zup_same _ _ _⟩⟩
        · simp only [if_neg q2]
          exact ok_some.mpr (MSp.bad rfl rfl ⟨_, _, rfl, At1.refl.up, At1.refl.up⟩)
    · have r := rn1 (s := s) (c := c) (p := p + 1) ⟨by omega, by omega⟩
      have r2 := rn1 (s := s) (c := c) (p := (rn s c 1 (-9) (p + 1)).2) ⟨by omega, by omega⟩
      refine ok_zg.mpr ⟨zv, ?_⟩
      rw [if_neg (show ¬ (115 : Int) = 110 by decide), if_neg (show ¬ (115 : Int) = 110 by decide), if_pos (show (115 : Int) = 115 from rfl)]
      refine ok_zg.mpr ⟨zv, ?_⟩
      rw [if_pos (by decide), mdg0 h ⟨by omega, by omega⟩]
      unfold rb3
      by_cases q1 : (rn s c 1 (-9) (p + 1)).1 < 0
      · rw [if_pos q1, if_pos q1]
        exact ok_bind.mpr (ok_some.mpr ((m116b hst zv).mono (fun r hr => MSp.bad rfl rfl hr)))
      · rw [if_neg q1, if_neg q1]
        refine ok_bind.mpr (ok_some.mpr ?_)
        unfold f_X11_readStatement_J116 f_X11_readStatement_J146
        dsimp only
        refine ok_zg.mpr ⟨hst, ok_zg.mpr ⟨hst, ok_zg.mpr ⟨zv, ?_⟩⟩⟩
        rw [if_pos (by decide)]
        refine ok_zg.mpr ⟨zv, ?_⟩
        rw [if_neg (by decide), mdg0 h ⟨by omega, by omega⟩]
        unfold rb3
        by_cases q2 : (rn s c 1 (-9) (rn s c 1 (-9) (p + 1)).2).1 < 0
        · rw [if_pos q2, if_pos q2]
          refine ok_bind.mpr (ok_some.mpr (ok_zg.mpr ⟨hst, ?_⟩))
          dsimp only
          rw [m162b]
          exact ok_some.mpr (MSp.bad rfl rfl ⟨_, _, rfl, At1.refl.up, At1.refl.up.up⟩)
        · rw [if_neg q2, if_neg q2]
          refine ok_bind.mpr (ok_some.mpr (ok_zg.mpr ⟨hst, ?_⟩))
          dsimp only
          rw [m162g h ⟨by omega, by omega⟩]
          by_cases q3 : sg s c (rn s c 1 (-9) (rn s c 1 (-9) (p + 1)).2).2 = 59
          · simp only [if_pos q3]
            exact ok_some.mpr ⟨_, _, rfl, At1.refl.up, At1.refl.up.up, fun _ => ⟨zup_same _ _ _, zup_same _ _ _⟩⟩
          · simp only [if_neg q3]
            exact ok_some.mpr (MSp.bad rfl rfl ⟨_, _, rfl, At1.refl.up, At1.refl.up.up⟩)
    · have r := rn1 (s := s) (c := c) (p := p + 1) ⟨by omega, by omega⟩
      refine ok_zg.mpr ⟨zv, ?_⟩
      rw [if_neg (show ¬ (116 : Int) = 110 by decide), if_neg (show ¬ (116 : Int) = 110 by decide), if_neg (show ¬ (116 : Int) = 115 by decide), if_pos (show (116 : Int) = 116 from rfl)]
      refine ok_zg.mpr ⟨zv, ?_⟩
      rw [if_pos (by decide), mdg0 h ⟨by omega, by omega⟩]
      unfold rb3
      by_cases q1 : (rn s c 1 (-9) (p + 1)).1 < 0
      · rw [if_pos q1, if_pos q1]
        exact ok_bind.mpr (ok_some.mpr ((m116b hst zv).mono (fun r hr => MSp.bad rfl rfl hr)))
      · rw [if_neg q1, if_neg q1]
        refine ok_bind.mpr (ok_some.mpr ?_)
        unfold f_X11_readStatement_J116 f_X11_readStatement_J146
        dsimp only
        refine ok_zg.mpr ⟨hst, ok_zg.mpr ⟨hst, ok_zg.mpr ⟨zv, ?_⟩⟩⟩
        rw [if_pos (by decide)]
        refine ok_zg.mpr ⟨zv, ?_⟩
        rw [if_pos (by decide), m162g h ⟨by omega, by omega⟩]
        by_cases q2 : sg s c (rn s c 1 (-9) (p + 1)).2 = 59
        · simp only [if_pos q2]
          exact ok_some.mpr ⟨_, _, rfl, At1.refl.up, At1.refl.up, fun _ => ⟨zup_same _ _ _, zup_same _ _ _⟩⟩
        · simp only [if_neg q2]
          exact ok_some.mpr (MSp.bad rfl rfl ⟨_, _, rfl, At1.refl.up, At1.refl.up⟩)
    · have r := rn3 (s := s) (c := c) (p := p + 1) ⟨by omega, by omega⟩
      refine ok_zg.mpr ⟨zv, ?_⟩
      rw [if_neg (show ¬ (120 : Int) = 110 by decide), if_neg (show ¬ (120 : Int) = 110 by decide), if_neg (show ¬ (120 : Int) = 115 by decide), if_neg (show ¬ (120 : Int) = 116 by decide), if_pos (show (120 : Int) = 120 from rfl)]
      refine ok_zg.mpr ⟨zv, ?_⟩
      rw [if_neg (by decide)]
      unfold f_X11_readStatement_J105
      rw [mrn0 h ⟨by omega, by omega⟩]
      unfold rb3
      by_cases q1 : (rn s c 3 (-9) (p + 1)).1 < 0
      · rw [if_pos q1, if_pos q1]
        exact ok_bind.mpr (ok_some.mpr ((m116b hst zv).mono (fun r hr => MSp.bad rfl rfl hr)))
      · rw [if_neg q1, if_neg q1]
        refine ok_bind.mpr (ok_some.mpr ?_)
        unfold f_X11_readStatement_J116
        dsimp only
        refine ok_zg.mpr ⟨hst, ok_zg.mpr ⟨hst, ok_zg.mpr ⟨zv, ?_⟩⟩⟩
        rw [if_neg (by decide), mtk0 h ⟨by omega, by omega⟩ ⟨by omega, by omega⟩]
        by_cases q2 : sg s c (rn s c 3 (-9) (p + 1)).2 = 44
        · have hl2 := sg_in q2 (by omega)
          have r2 := rn3 (s := s) (c := c) (p := (rn s c 3 (-9) (p + 1)).2 + 1) ⟨by omega, by omega⟩
          simp only [if_pos q2]
          refine ok_bind.mpr (ok_some.mpr (ok_bind.mpr ?_))
          dsimp only
          rw [mrn0 h ⟨by omega, by omega⟩]
          unfold rb3
          by_cases q3 : (rn s c 3 (-9) ((rn s c 3 (-9) (p + 1)).2 + 1)).1 < 0
          · rw [if_pos q3, if_pos q3]
            refine ok_some.mpr (ok_zg.mpr ⟨hst, ?_⟩)
            refine (m146b hst zv).mono (fun r hr => ?_)
            obtain ⟨se', e, k⟩ := hr
            exact MSp.bad rfl rfl ⟨_, se', e, At1.refl.up, k.of_up.of_up⟩
          · rw [if_neg q3, if_neg q3]
            refine ok_some.mpr (ok_zg.mpr ⟨hst, ?_⟩)
            dsimp only
            unfold f_X11_readStatement_J146
            refine ok_zg.mpr ⟨zv, ?_⟩
            rw [if_pos (by decide), m162g h ⟨by omega, by omega⟩]
            by_cases q4 : sg s c (rn s c 3 (-9) ((rn s c 3 (-9) (p + 1)).2 + 1)).2 = 59
            · simp only [if_pos q4]
              exact ok_some.mpr ⟨_, _, rfl, At1.refl.up, At1.refl.up.up, fun _ => ⟨zup_same _ _ _, zup_same _ _ _⟩⟩
            · simp only [if_neg q4]
              exact ok_some.mpr (MSp.bad rfl rfl ⟨_, _, rfl, At1.refl.up, At1.refl.up.up⟩)
        · simp only [if_neg q2]
          refine ok_bind.mpr (ok_some.mpr (ok_bind.mpr ?_))
          dsimp only
          rw [mrn1]
          refine ok_some.mpr (ok_zg.mpr ⟨hst, ?_⟩)
          refine (m146b hst zv).mono (fun r hr => ?_)
          obtain ⟨se', e, k⟩ := hr
          exact MSp.bad rfl rfl ⟨_, se', e, At1.refl.up, k.of_up.of_up⟩
  have K : ∀ v, 0 ≤ v → hr s c p = v → (v = 110 ∨ v = 115 ∨ v = 116 ∨ v = 120) → ok (f_X11_readStatement_J63 st (hr s c p) s c p 0 st pl' lt' fi se) (MSp s c p st pl' lt' fi se (RS s c p f)) := fun v hv e hk => by
    rw [e]; exact G v hk ((hq v hv).mp e)
  refine ok_zg.mpr ⟨zh, ok_ite.mpr ⟨fun a => K 110 (by omega) a (by omega), fun n1 => ?_⟩⟩
  refine ok_zg.mpr ⟨zh, ok_ite.mpr ⟨fun a => K 115 (by omega) a (by omega), fun n2 => ?_⟩⟩
  refine ok_zg.mpr ⟨zh, ok_ite.mpr ⟨fun a => K 116 (by omega) a (by omega), fun n3 => ?_⟩⟩
  refine ok_zg.mpr ⟨zh, ok_ite.mpr ⟨fun a => K 120 (by omega) a (by omega), fun n4 => ?_⟩⟩
  refine (m59b hst zh).mono (fun r hr => ?_)
  have e : RS s c p f = (0, p, sg s c p, f, 0) := by
    unfold RS
    rw [if_neg (fun a => n1 ((hq _ (by omega)).mpr a)), if_neg (fun a => n2 ((hq _ (by omega)).mpr a)), if_neg (fun a => n3 ((hq _ (by omega)).mpr a)), if_neg (fun a => n4 ((hq _ (by omega)).mpr a))]
  rw [e]
  exact MSp.bad rfl rfl hr
end MS
