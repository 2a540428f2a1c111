/-! the letters: what both sides read -/
def LI (c : Int) (s : Int → Int) : Prop := (0 ≤ c ∧ c ≤ 48) ∧ ∀ i, 0 ≤ i → i < c → 0 ≤ s i ∧ s i ≤ 255
noncomputable def sg (s : Int → Int) (c p : Int) : Int := if p < c then s p else -9
theorem sg_rng {c p : Int} {s : Int → Int} (h : LI c s) (hp : 0 ≤ p) : -9 ≤ sg s c p ∧ sg s c p ≤ 255 := by
  unfold sg
  by_cases q : p < c
  · rw [if_pos q]; have := h.2 p hp q; omega
  · rw [if_neg q]; omega
theorem sg_in {c p v : Int} {s : Int → Int} (h : sg s c p = v) (hv : 0 ≤ v) : p < c := by
  unfold sg at h
  by_cases q : p < c
  · exact q
  · rw [if_neg q] at h; omega
theorem sg_lt {c p : Int} {s : Int → Int} (h : 0 ≤ sg s c p) : p < c := sg_in rfl h
theorem sg_congr {c p : Int} {s s' : Int → Int} (h : eqr 0 c s s') (hp : 0 ≤ p) : sg s c p = sg s' c p := by
  unfold sg
  by_cases q : p < c
  · rw [if_pos q, if_pos q]; exact h p hp q
  · rw [if_neg q, if_neg q]
theorem xsign {c p : Int} {s : Int → Int} (h : LI c s) (hp : 0 ≤ p ∧ p ≤ 1000) : f_X4_sign s c p = some (sg s c p) := by
  have := h.1
  unfold f_X4_sign sg
  rw [zg_pos ⟨by omega, by omega⟩, if_neg (show ¬ p < 0 by omega), zg_pos ⟨⟨by omega, by omega⟩, ⟨by omega, by omega⟩⟩]
  by_cases q : p < c
  · rw [if_pos q, if_neg (show ¬ c ≤ p by omega), zg_pos ⟨by omega, by omega⟩, if_neg (show ¬ 48 ≤ p by omega), zg_pos ⟨by omega, by omega⟩]
  · rw [if_neg q, if_pos (show c ≤ p by omega)]
theorem xdig {x : Int} (h : zR x) : f_X4_isDigit x = some (if 48 ≤ x ∧ x ≤ 57 then 1 else 0) := by
  unfold f_X4_isDigit
  rw [zg_pos h]
  by_cases c : x < 48
  · rw [if_pos c, if_neg (by omega)]
  · rw [if_neg c, zg_pos h]
    by_cases c2 : 57 < x
    · rw [if_pos c2, if_neg (by omega)]
    · rw [if_neg c2, if_pos (by omega)]
/-- a number of at most k digits read on -/
noncomputable def rn (s : Int → Int) (c : Int) : Nat → Int → Int → Int × Int
  | 0, v, p => (v, p)
  | k + 1, v, p => if 48 ≤ sg s c p ∧ sg s c p ≤ 57 then rn s c k ((if v < 0 then 0 else v) * 10 + sg s c p - 48) (p + 1) else (v, p)
def bb (k : Nat) : Int := if k = 0 then 999 else if k = 1 then 99 else if k = 2 then 9 else 0
theorem bb_step {k : Nat} {v x : Int} (hk : k + 1 ≤ 3) (hv : v ≤ bb (k + 1)) (hx : x ≤ 57) : (if v < 0 then 0 else v) * 10 + x - 48 ≤ bb k := by
  have h : k = 0 ∨ k = 1 ∨ k = 2 := by omega
  rcases h with rfl | rfl | rfl
  · have e : bb (0 + 1) = 99 := rfl
    have e2 : bb 0 = 999 := rfl
    rw [e] at hv; rw [e2]; split <;> omega
  · have e : bb (1 + 1) = 9 := rfl
    have e2 : bb 1 = 99 := rfl
    rw [e] at hv; rw [e2]; split <;> omega
  · have e : bb (2 + 1) = 0 := rfl
    have e2 : bb 2 = 9 := rfl
    rw [e] at hv; rw [e2]; split <;> omega
theorem bb_le (k : Nat) : bb k ≤ 999 := by
  unfold bb
  split
  · omega
  · split
    · omega
    · split <;> omega
theorem rn_rng {c : Int} {s : Int → Int} : ∀ (k : Nat) (v p : Int), k ≤ 3 → -9 ≤ v → v ≤ bb k → 0 ≤ p → (-9 ≤ (rn s c k v p).1 ∧ (rn s c k v p).1 ≤ 999) ∧ p ≤ (rn s c k v p).2 ∧ (p ≤ c → (rn s c k v p).2 ≤ c) := by
  intro k
  induction k with
  | zero =>
    intro v p _ h1 h2 h3
    have e : bb 0 = 999 := rfl
    rw [e] at h2
    exact ⟨⟨h1, h2⟩, Int.le_refl _, fun q => q⟩
  | succ k ih =>
    intro v p hk h1 h2 h3
    unfold rn
    by_cases q : 48 ≤ sg s c p ∧ sg s c p ≤ 57
    · rw [if_pos q]
      have hp : p < c := sg_lt (s := s) (by omega)
      have i := ih ((if v < 0 then 0 else v) * 10 + sg s c p - 48) (p + 1) (by omega) (by split <;> omega) (bb_step hk h2 q.2) (by omega)
      exact ⟨i.1, by omega, fun _ => i.2.2 (by omega)⟩
    · rw [if_neg q]
      have := bb_le (k + 1)
      exact ⟨⟨h1, by dsimp only; omega⟩, Int.le_refl _, fun q => q⟩
theorem rn_neg {c : Int} {s : Int → Int} : ∀ (k : Nat) (v p : Int), 0 ≤ v → 0 ≤ (rn s c k v p).1 := by
  intro k
  induction k with
  | zero => intro v p h; exact h
  | succ k ih =>
    intro v p h
    unfold rn
    by_cases q : 48 ≤ sg s c p ∧ sg s c p ≤ 57
    · rw [if_pos q]; exact ih _ _ (by split <;> omega)
    · rw [if_neg q]; exact h
theorem xrn_L {c v1 : Int} {s : Int → Int} (h : LI c s) (h1 : v1 ≤ 3) : ∀ (k : Nat) (n : Nat) (v v3 p : Int), v1 - v3 = k → 0 ≤ v3 → k < n → -9 ≤ v → v ≤ bb k → 0 ≤ p → p ≤ c → f_X4_readNumber_L5 n v1 v v3 s c p = some (rn s c k v p) := by
  intro k
  induction k with
  | zero =>
    intro n v v3 p a1 a2 a3 a4 a5 a6 a7
    obtain ⟨m, rfl⟩ : ∃ m, n = m + 1 := ⟨n - 1, by omega⟩
    rw [f_X4_readNumber_L5_s, zg_pos ⟨⟨by omega, by omega⟩, ⟨by omega, by omega⟩⟩, if_pos (by omega)]
    rfl
  | succ k ih =>
    intro n v v3 p a1 a2 a3 a4 a5 a6 a7
    have hc := h.1
    have hs := sg_rng h a6
    have hb := bb_le (k + 1)
    obtain ⟨m, rfl⟩ : ∃ m, n = m + 1 := ⟨n - 1, by omega⟩
    rw [f_X4_readNumber_L5_s, zg_pos ⟨⟨by omega, by omega⟩, ⟨by omega, by omega⟩⟩, if_neg (by omega), xsign h ⟨a6, by omega⟩]
    show (f_X4_isDigit (sg s c p)).bind _ = _
    rw [xdig ⟨by omega, by omega⟩]
    unfold rn
    by_cases q : 48 ≤ sg s c p ∧ sg s c p ≤ 57
    · rw [if_pos q, if_pos q]
      show zg (zR 1) (if (1 : Int) = 0 then _ else _) = _
      rw [zg_pos ⟨by omega, by omega⟩, if_neg (by decide), zg_pos ⟨⟨by omega, by omega⟩, ⟨by omega, by omega⟩⟩]
      have hp : p < c := sg_lt (s := s) (by omega)
      show f_X4_readNumber_L5 m v1 ((((if v < 0 then 0 else v) * 10) + sg s c p) - 48) (v3 + 1) s c (p + 1) = _
      exact ih m _ (v3 + 1) (p + 1) (by omega) (by omega) (by omega) (by split <;> omega) (bb_step (by omega) a5 q.2) (by omega) (by omega)
    · rw [if_neg q, if_neg q]
      show zg (zR 0) (if (0 : Int) = 0 then _ else _) = _
      rw [zg_pos ⟨by omega, by omega⟩, if_pos rfl]
theorem xrn {c v1 p : Int} {s : Int → Int} (h : LI c s) (h1 : 0 ≤ v1 ∧ v1 ≤ 3) (hp : 0 ≤ p ∧ p ≤ c) : f_X4_readNumber v1 s c p = some (rn s c v1.toNat (-9) p) := by
  unfold f_X4_readNumber
  have hb : -9 ≤ bb v1.toNat := by
    unfold bb
    split
    · omega
    · split
      · omega
      · split <;> omega
  rw [xrn_L h h1.2 v1.toNat zF (-9) 0 p (by omega) (by omega) (by rw [zF_eq]; omega) (by omega) hb hp.1 hp.2]
  rfl
/-- first or second number: 1 if there is one -/
theorem xrfirst {c v1 p f : Int} {s : Int → Int} (h : LI c s) (h1 : 0 ≤ v1 ∧ v1 ≤ 3) (hp : 0 ≤ p ∧ p ≤ c) : f_X4_readFirst v1 s c p f = some (if (rn s c v1.toNat (-9) p).1 < 0 then 0 else 1, (rn s c v1.toNat (-9) p).2, (rn s c v1.toNat (-9) p).1) := by
  unfold f_X4_readFirst
  rw [xrn h h1 hp]
  have hb : -9 ≤ bb v1.toNat := by
    unfold bb
    split
    · omega
    · split
      · omega
      · split <;> omega
  have r := rn_rng (s := s) (c := c) v1.toNat (-9) p (by omega) (by omega) hb hp.1
  show zg (zR (rn s c v1.toNat (-9) p).1) _ = _
  rw [zg_pos ⟨by omega, by omega⟩]
  by_cases q : (rn s c v1.toNat (-9) p).1 < 0
  · rw [if_pos q, if_pos q]
  · rw [if_neg q, if_neg q]
theorem xrsecond {c v1 p f : Int} {s : Int → Int} (h : LI c s) (h1 : 0 ≤ v1 ∧ v1 ≤ 3) (hp : 0 ≤ p ∧ p ≤ c) : f_X4_readSecond v1 s c p f = some (if (rn s c v1.toNat (-9) p).1 < 0 then 0 else 1, (rn s c v1.toNat (-9) p).2, (rn s c v1.toNat (-9) p).1) := xrfirst (f := f) h h1 hp
theorem xtake {c v p : Int} {s : Int → Int} (h : LI c s) (hv : zR v) (hp : 0 ≤ p ∧ p ≤ c) : f_X4_take v s c p = some (if sg s c p = v then 1 else 0, if sg s c p = v then p + 1 else p) := by
  have := h.1
  have hs := sg_rng h hp.1
  unfold f_X4_take
  rw [xsign h ⟨hp.1, by omega⟩]
  show zg (zR (sg s c p) ∧ zR v) _ = _
  rw [zg_pos ⟨⟨by omega, by omega⟩, hv⟩]
  by_cases q : sg s c p = v
  · rw [if_pos q, if_pos q, if_pos q]
  · rw [if_neg q, if_neg q, if_neg q]
/-- a statement: (read well, the place behind or of the fault, verb, first, second) -/
noncomputable def RS (s : Int → Int) (c p f0 : Int) : Int × Int × Int × Int × Int :=
  if sg s c p = 110 then
    (if (rn s c 3 (-9) (p + 1)).1 < 0 then (0, (rn s c 3 (-9) (p + 1)).2, sg s c p, (rn s c 3 (-9) (p + 1)).1, 0)
     else if sg s c (rn s c 3 (-9) (p + 1)).2 = 59 then (1, (rn s c 3 (-9) (p + 1)).2 + 1, sg s c p, (rn s c 3 (-9) (p + 1)).1, 0)
     else (0, (rn s c 3 (-9) (p + 1)).2, sg s c p, (rn s c 3 (-9) (p + 1)).1, 0))
  else if sg s c p = 115 then
    (if (rn s c 1 (-9) (p + 1)).1 < 0 then (0, (rn s c 1 (-9) (p + 1)).2, sg s c p, (rn s c 1 (-9) (p + 1)).1, 0)
     else if (rn s c 1 (-9) (rn s c 1 (-9) (p + 1)).2).1 < 0 then (0, (rn s c 1 (-9) (rn s c 1 (-9) (p + 1)).2).2, sg s c p, (rn s c 1 (-9) (p + 1)).1, (rn s c 1 (-9) (rn s c 1 (-9) (p + 1)).2).1)
     else if sg s c (rn s c 1 (-9) (rn s c 1 (-9) (p + 1)).2).2 = 59 then (1, (rn s c 1 (-9) (rn s c 1 (-9) (p + 1)).2).2 + 1, sg s c p, (rn s c 1 (-9) (p + 1)).1, (rn s c 1 (-9) (rn s c 1 (-9) (p + 1)).2).1)
     else (0, (rn s c 1 (-9) (rn s c 1 (-9) (p + 1)).2).2, sg s c p, (rn s c 1 (-9) (p + 1)).1, (rn s c 1 (-9) (rn s c 1 (-9) (p + 1)).2).1))
  else if sg s c p = 116 then
    (if (rn s c 1 (-9) (p + 1)).1 < 0 then (0, (rn s c 1 (-9) (p + 1)).2, sg s c p, (rn s c 1 (-9) (p + 1)).1, 0)
     else if sg s c (rn s c 1 (-9) (p + 1)).2 = 59 then (1, (rn s c 1 (-9) (p + 1)).2 + 1, sg s c p, (rn s c 1 (-9) (p + 1)).1, 0)
     else (0, (rn s c 1 (-9) (p + 1)).2, sg s c p, (rn s c 1 (-9) (p + 1)).1, 0))
  else if sg s c p = 120 then
    (if (rn s c 3 (-9) (p + 1)).1 < 0 then (0, (rn s c 3 (-9) (p + 1)).2, sg s c p, (rn s c 3 (-9) (p + 1)).1, 0)
     else if sg s c (rn s c 3 (-9) (p + 1)).2 = 44 then
       (if (rn s c 3 (-9) ((rn s c 3 (-9) (p + 1)).2 + 1)).1 < 0 then (0, (rn s c 3 (-9) ((rn s c 3 (-9) (p + 1)).2 + 1)).2, sg s c p, (rn s c 3 (-9) (p + 1)).1, (rn s c 3 (-9) ((rn s c 3 (-9) (p + 1)).2 + 1)).1)
        else if sg s c (rn s c 3 (-9) ((rn s c 3 (-9) (p + 1)).2 + 1)).2 = 59 then (1, (rn s c 3 (-9) ((rn s c 3 (-9) (p + 1)).2 + 1)).2 + 1, sg s c p, (rn s c 3 (-9) (p + 1)).1, (rn s c 3 (-9) ((rn s c 3 (-9) (p + 1)).2 + 1)).1)
        else (0, (rn s c 3 (-9) ((rn s c 3 (-9) (p + 1)).2 + 1)).2, sg s c p, (rn s c 3 (-9) (p + 1)).1, (rn s c 3 (-9) ((rn s c 3 (-9) (p + 1)).2 + 1)).1))
     else (0, (rn s c 3 (-9) (p + 1)).2, sg s c p, (rn s c 3 (-9) (p + 1)).1, 0))
  else (0, p, sg s c p, f0, 0)
theorem zg01 {α : Type} {a b : Option α} {q : Prop} [Decidable q] : zg (zR (if q then (0 : Int) else 1)) (if (if q then (0 : Int) else 1) = 0 then a else b) = if q then a else b := by
  by_cases h : q
  · rw [if_pos h, if_pos h, zg_pos ⟨by omega, by omega⟩, if_pos rfl]
  · rw [if_neg h, if_neg h, zg_pos ⟨by omega, by omega⟩, if_neg (by decide)]
theorem zg10 {α : Type} {a b : Option α} {q : Prop} [Decidable q] : zg (zR (if q then (1 : Int) else 0)) (if (if q then (1 : Int) else 0) = 0 then a else b) = if q then b else a := by
  by_cases h : q
  · rw [if_pos h, if_pos h, zg_pos ⟨by omega, by omega⟩, if_neg (by decide)]
  · rw [if_neg h, if_neg h, zg_pos ⟨by omega, by omega⟩, if_pos rfl]
theorem zg10n {α : Type} {a b : Option α} {q : Prop} [Decidable q] : zg (zR (if q then (1 : Int) else 0)) (if ¬ (if q then (1 : Int) else 0) = 0 then a else b) = if q then a else b := by
  by_cases h : q
  · rw [if_pos h, if_pos h, zg_pos ⟨by omega, by omega⟩, if_pos (by decide)]
  · rw [if_neg h, if_neg h, zg_pos ⟨by omega, by omega⟩, if_neg (by decide)]
theorem xrf3 {c p f : Int} {s : Int → Int} (h : LI c s) (hp : 0 ≤ p ∧ p ≤ c) : f_X4_readFirst 3 s c p f = some (if (rn s c 3 (-9) p).1 < 0 then 0 else 1, (rn s c 3 (-9) p).2, (rn s c 3 (-9) p).1) := xrfirst h ⟨by omega, by omega⟩ hp
theorem xrf1 {c p f : Int} {s : Int → Int} (h : LI c s) (hp : 0 ≤ p ∧ p ≤ c) : f_X4_readFirst 1 s c p f = some (if (rn s c 1 (-9) p).1 < 0 then 0 else 1, (rn s c 1 (-9) p).2, (rn s c 1 (-9) p).1) := xrfirst h ⟨by omega, by omega⟩ hp
theorem xrs3 {c p f : Int} {s : Int → Int} (h : LI c s) (hp : 0 ≤ p ∧ p ≤ c) : f_X4_readSecond 3 s c p f = some (if (rn s c 3 (-9) p).1 < 0 then 0 else 1, (rn s c 3 (-9) p).2, (rn s c 3 (-9) p).1) := xrsecond h ⟨by omega, by omega⟩ hp
theorem xrs1 {c p f : Int} {s : Int → Int} (h : LI c s) (hp : 0 ≤ p ∧ p ≤ c) : f_X4_readSecond 1 s c p f = some (if (rn s c 1 (-9) p).1 < 0 then 0 else 1, (rn s c 1 (-9) p).2, (rn s c 1 (-9) p).1) := xrsecond h ⟨by omega, by omega⟩ hp
theorem rn3 {c p : Int} {s : Int → Int} (hp : 0 ≤ p ∧ p ≤ c) : (-9 ≤ (rn s c 3 (-9) p).1 ∧ (rn s c 3 (-9) p).1 ≤ 999) ∧ p ≤ (rn s c 3 (-9) p).2 ∧ (rn s c 3 (-9) p).2 ≤ c := by
  have r := rn_rng (s := s) (c := c) 3 (-9) p (by omega) (by omega) (by decide) hp.1
  exact ⟨r.1, r.2.1, r.2.2 hp.2⟩
theorem rn1 {c p : Int} {s : Int → Int} (hp : 0 ≤ p ∧ p ≤ c) : (-9 ≤ (rn s c 1 (-9) p).1 ∧ (rn s c 1 (-9) p).1 ≤ 999) ∧ p ≤ (rn s c 1 (-9) p).2 ∧ (rn s c 1 (-9) p).2 ≤ c := by
  have r := rn_rng (s := s) (c := c) 1 (-9) p (by omega) (by omega) (by decide) hp.1
  exact ⟨r.1, r.2.1, r.2.2 hp.2⟩
theorem xrs {c p vb f w : Int} {s : Int → Int} (h : LI c s) (hp : 0 ≤ p ∧ p ≤ c) : f_X4_readStatement s c p vb f w = some (RS s c p f) := by
  have hc := h.1
  have hs := sg_rng h hp.1
  unfold f_X4_readStatement RS
  rw [xsign h ⟨hp.1, by omega⟩]
  dsimp only [Option.bind_some]
  rw [zg_pos ⟨by omega, by omega⟩]
  have t59 : ∀ a, 0 ≤ a ∧ a ≤ c → f_X4_take 59 s c a = some (if sg s c a = 59 then 1 else 0, if sg s c a = 59 then a + 1 else a) := fun a ha => xtake h ⟨by omega, by omega⟩ ha
  have t44 : ∀ a, 0 ≤ a ∧ a ≤ c → f_X4_take 44 s c a = some (if sg s c a = 44 then 1 else 0, if sg s c a = 44 then a + 1 else a) := fun a ha => xtake h ⟨by omega, by omega⟩ ha
  by_cases q : sg s c p = 110
  · have hl := sg_in q (by omega)
    have r := rn3 (s := s) (c := c) (p := p + 1) ⟨by omega, by omega⟩
    rw [if_pos q, if_pos q, xrf3 h ⟨by omega, by omega⟩]
    dsimp only [Option.bind_some]
    rw [zg01]
    by_cases q1 : (rn s c 3 (-9) (p + 1)).1 < 0
    · rw [if_pos q1, if_pos q1]
    · rw [if_neg q1, if_neg q1, t59 _ ⟨by omega, by omega⟩]
      dsimp only [Option.bind_some]
      rw [zg10]
      by_cases q2 : sg s c (rn s c 3 (-9) (p + 1)).2 = 59
      · simp only [if_pos q2]
      · simp only [if_neg q2]
  rw [if_neg q, if_neg q]
  by_cases q : sg s c p = 115
  · have hl := sg_in q (by omega)
    have r := rn1 (s := s) (c := c) (p := p + 1) ⟨by omega, by omega⟩
    have r2 := rn1 (s := s) (c := c) (p := (rn s c 1 (-9) (p + 1)).2) ⟨by omega, by omega⟩
    rw [if_pos q, if_pos q, xrf1 h ⟨by omega, by omega⟩]
    dsimp only [Option.bind_some]
    rw [zg01]
    by_cases q1 : (rn s c 1 (-9) (p + 1)).1 < 0
    · rw [if_pos q1, if_pos q1]
    · rw [if_neg q1, if_neg q1, xrs1 h ⟨by omega, by omega⟩]
      dsimp only [Option.bind_some]
      rw [zg01]
      by_cases q2 : (rn s c 1 (-9) (rn s c 1 (-9) (p + 1)).2).1 < 0
      · rw [if_pos q2, if_pos q2]
      · rw [if_neg q2, if_neg q2, t59 _ ⟨by omega, by omega⟩]
        dsimp only [Option.bind_some]
        rw [zg10]
        by_cases q3 : sg s c (rn s c 1 (-9) (rn s c 1 (-9) (p + 1)).2).2 = 59
        · simp only [if_pos q3]
        · simp only [if_neg q3]
  rw [if_neg q, if_neg q]
  by_cases q : sg s c p = 116
  · have hl := sg_in q (by omega)
    have r := rn1 (s := s) (c := c) (p := p + 1) ⟨by omega, by omega⟩
    rw [if_pos q, if_pos q, xrf1 h ⟨by omega, by omega⟩]
    dsimp only [Option.bind_some]
    rw [zg01]
    by_cases q1 : (rn s c 1 (-9) (p + 1)).1 < 0
    · rw [if_pos q1, if_pos q1]
    · rw [if_neg q1, if_neg q1, t59 _ ⟨by omega, by omega⟩]
      dsimp only [Option.bind_some]
      rw [zg10]
      by_cases q2 : sg s c (rn s c 1 (-9) (p + 1)).2 = 59
      · simp only [if_pos q2]
      · simp only [if_neg q2]
  rw [if_neg q, if_neg q]
  by_cases q : sg s c p = 120
  · have hl := sg_in q (by omega)
    have r := rn3 (s := s) (c := c) (p := p + 1) ⟨by omega, by omega⟩
    rw [if_pos q, if_pos q, xrf3 h ⟨by omega, by omega⟩]
    dsimp only [Option.bind_some]
    rw [zg01]
    by_cases q1 : (rn s c 3 (-9) (p + 1)).1 < 0
    · rw [if_pos q1, if_pos q1]
    · rw [if_neg q1, if_neg q1, t44 _ ⟨by omega, by omega⟩]
      dsimp only [Option.bind_some]
      rw [zg10]
      by_cases q2 : sg s c (rn s c 3 (-9) (p + 1)).2 = 44
      · have hl2 := sg_in q2 (by omega)
        have r2 := rn3 (s := s) (c := c) (p := (rn s c 3 (-9) (p + 1)).2 + 1) ⟨by omega, by omega⟩
        simp only [if_pos q2]
        rw [xrs3 h ⟨by omega, by omega⟩]
        dsimp only [Option.bind_some]
        rw [zg01]
        by_cases q3 : (rn s c 3 (-9) ((rn s c 3 (-9) (p + 1)).2 + 1)).1 < 0
        · rw [if_pos q3, if_pos q3]
        · rw [if_neg q3, if_neg q3, t59 _ ⟨by omega, by omega⟩]
          dsimp only [Option.bind_some]
          rw [zg10]
          by_cases q4 : sg s c (rn s c 3 (-9) ((rn s c 3 (-9) (p + 1)).2 + 1)).2 = 59
          · simp only [if_pos q4]
          · simp only [if_neg q4]
      · simp only [if_neg q2]
  rw [if_neg q, if_neg q]
/-- what a statement that was read is -/
theorem RS_ok {c p f : Int} {s : Int → Int} (h : LI c s) (hp : 0 ≤ p ∧ p ≤ c) : ((RS s c p f).1 = 0 ∨ (RS s c p f).1 = 1) ∧ (p ≤ (RS s c p f).2.1 ∧ (RS s c p f).2.1 ≤ c) ∧ ((RS s c p f).1 = 1 → p + 2 ≤ (RS s c p f).2.1 ∧ p < c ∧ ((RS s c p f).2.2.1 = 110 ∨ (RS s c p f).2.2.1 = 115 ∨ (RS s c p f).2.2.1 = 116 ∨ (RS s c p f).2.2.1 = 120) ∧ (0 ≤ (RS s c p f).2.2.2.1 ∧ (RS s c p f).2.2.2.1 ≤ 999) ∧ (0 ≤ (RS s c p f).2.2.2.2 ∧ (RS s c p f).2.2.2.2 ≤ 999) ∧ (((RS s c p f).2.2.1 = 115 ∨ (RS s c p f).2.2.1 = 116) → (RS s c p f).2.2.2.1 ≤ 9 ∧ (RS s c p f).2.2.2.2 ≤ 9)) := by
  have hs := sg_rng h hp.1
  have d1 : ∀ a, 0 ≤ a ∧ a ≤ c → (rn s c 1 (-9) a).1 ≤ 9 := fun a ha => by
    show (if 48 ≤ sg s c a ∧ sg s c a ≤ 57 then ((if (-9 : Int) < 0 then 0 else (-9)) * 10 + sg s c a - 48, a + 1) else ((-9 : Int), a)).1 ≤ 9
    by_cases q : 48 ≤ sg s c a ∧ sg s c a ≤ 57
    · rw [if_pos q, if_pos (by decide)]; dsimp only; omega
    · rw [if_neg q]; dsimp only; omega
  unfold RS
  by_cases q : sg s c p = 110
  · have hl := sg_in q (by omega)
    have r := rn3 (s := s) (c := c) (p := p + 1) ⟨by omega, by omega⟩
    rw [if_pos q]
    by_cases q1 : (rn s c 3 (-9) (p + 1)).1 < 0
    · rw [if_pos q1]; dsimp only; omega
    · rw [if_neg q1]
      by_cases q2 : sg s c (rn s c 3 (-9) (p + 1)).2 = 59
      · have := sg_in q2 (by omega)
        rw [if_pos q2]; dsimp only; omega
      · rw [if_neg q2]; dsimp only; omega
  rw [if_neg q]
  by_cases q : sg s c p = 115
  · have hl := sg_in q (by omega)
    have r := rn1 (s := s) (c := c) (p := p + 1) ⟨by omega, by omega⟩
    have r2 := rn1 (s := s) (c := c) (p := (rn s c 1 (-9) (p + 1)).2) ⟨by omega, by omega⟩
    have e1 := d1 (p + 1) ⟨by omega, by omega⟩
    have e2 := d1 (rn s c 1 (-9) (p + 1)).2 ⟨by omega, by omega⟩
    rw [if_pos q]
    by_cases q1 : (rn s c 1 (-9) (p + 1)).1 < 0
    · rw [if_pos q1]; dsimp only; omega
    · rw [if_neg q1]
      by_cases q2 : (rn s c 1 (-9) (rn s c 1 (-9) (p + 1)).2).1 < 0
      · rw [if_pos q2]; dsimp only; omega
      · rw [if_neg q2]
        by_cases q3 : sg s c (rn s c 1 (-9) (rn s c 1 (-9) (p + 1)).2).2 = 59
        · have := sg_in q3 (by omega)
          rw [if_pos q3]; dsimp only; omega
        · rw [if_neg q3]; dsimp only; omega
  rw [if_neg q]
  by_cases q : sg s c p = 116
  · have hl := sg_in q (by omega)
    have r := rn1 (s := s) (c := c) (p := p + 1) ⟨by omega, by omega⟩
    have e1 := d1 (p + 1) ⟨by omega, by omega⟩
    rw [if_pos q]
    by_cases q1 : (rn s c 1 (-9) (p + 1)).1 < 0
    · rw [if_pos q1]; dsimp only; omega
    · rw [if_neg q1]
      by_cases q2 : sg s c (rn s c 1 (-9) (p + 1)).2 = 59
      · have := sg_in q2 (by omega)
        rw [if_pos q2]; dsimp only; omega
      · rw [if_neg q2]; dsimp only; omega
  rw [if_neg q]
  by_cases q : sg s c p = 120
  · have hl := sg_in q (by omega)
    have r := rn3 (s := s) (c := c) (p := p + 1) ⟨by omega, by omega⟩
    rw [if_pos q]
    by_cases q1 : (rn s c 3 (-9) (p + 1)).1 < 0
    · rw [if_pos q1]; dsimp only; omega
    · rw [if_neg q1]
      by_cases q2 : sg s c (rn s c 3 (-9) (p + 1)).2 = 44
      · have hl2 := sg_in q2 (by omega)
        have r2 := rn3 (s := s) (c := c) (p := (rn s c 3 (-9) (p + 1)).2 + 1) ⟨by omega, by omega⟩
        rw [if_pos q2]
        by_cases q3 : (rn s c 3 (-9) ((rn s c 3 (-9) (p + 1)).2 + 1)).1 < 0
        · rw [if_pos q3]; dsimp only; omega
        · rw [if_neg q3]
          by_cases q4 : sg s c (rn s c 3 (-9) ((rn s c 3 (-9) (p + 1)).2 + 1)).2 = 59
          · have := sg_in q4 (by omega)
            rw [if_pos q4]; dsimp only; omega
          · rw [if_neg q4]; dsimp only; omega
      · rw [if_neg q2]; dsimp only; omega
  rw [if_neg q]
  dsimp only; omega
