/-! the model looks ahead -/
def K9 (size many rounds kind fig sc : Int) (steps row went : Int → Int) (a1 a2 a3 a4 a5 a6 : Int) (st ro we : Int → Int) : Prop := a1 = size ∧ a2 = many ∧ a3 = rounds ∧ a4 = kind ∧ a5 = fig ∧ a6 = sc ∧ eqr 0 8 steps st ∧ eqr 0 120 row ro ∧ eqr 0 121 went we
theorem K9.refl {size many rounds kind fig sc : Int} {steps row went : Int → Int} : K9 size many rounds kind fig sc steps row went size many rounds kind fig sc steps row went := ⟨rfl, rfl, rfl, rfl, rfl, rfl, eqr.rfl, eqr.rfl, eqr.rfl⟩
theorem mla19 {many : Int} {row : Int → Int} (hm : many ≤ 120) : ∀ (n : Nat) (v2 : Int) (stg : Int → Int), 0 ≤ v2 → v2 ≤ many → many - v2 < n → ok (f_X11_lookAhead_L19 n v2 many row stg) (fun r => (∀ i, v2 ≤ i → i < many → r i = row i) ∧ (∀ i, i < v2 → r i = stg i)) := by
  intro n
  induction n with
  | zero => intro v2 q h0 h1 h2; exact absurd h2 (by omega)
  | succ n ih =>
    intro v2 q h0 h2 h3
    rw [f_X11_lookAhead_L19_s]
    refine ok_zg.mpr ⟨⟨⟨by omega, by omega⟩, ⟨by omega, by omega⟩⟩, ok_ite.mpr ⟨fun c => ok_some.mpr ⟨fun i a b => absurd b (by omega), fun i _ => rfl⟩, fun c => ok_zg.mpr ⟨⟨by omega, by omega⟩, ok_zg.mpr ⟨⟨by omega, by omega⟩, ?_⟩⟩⟩⟩
    refine (ih (v2 + 1) _ (by omega) (by omega) (by omega)).mono (fun r hr => ?_)
    refine ⟨fun i a b => ?_, fun i a => ?_⟩
    · by_cases e : i = v2
      · rw [hr.2 i (by omega), e, zup_same]
      · exact hr.1 i (by omega) b
    · rw [hr.2 i (by omega), zup_ne (by omega)]
theorem mla47 {gm : Int} {went going : Int → Int} (hm : gm ≤ 120) (hg : ∀ j, 0 ≤ j → j < gm → 1 ≤ going j ∧ going j ≤ 120) : ∀ (n : Nat) (v2 : Int) (wg : Int → Int), 0 ≤ v2 → v2 ≤ gm → gm - v2 < n → ok (f_X11_lookAhead_L47 n v2 went going gm wg) (fun r => (∀ j, v2 ≤ j → j < gm → r (going j) = went (going j)) ∧ (∀ x, r x = went x ∨ r x = wg x)) := by
  intro n
  induction n with
  | zero => intro v2 q h0 h1 h2; exact absurd h2 (by omega)
  | succ n ih =>
    intro v2 q h0 h2 h3
    rw [f_X11_lookAhead_L47_s]
    refine ok_zg.mpr ⟨⟨⟨by omega, by omega⟩, ⟨by omega, by omega⟩⟩, ok_ite.mpr ⟨fun c => ok_some.mpr ⟨fun i a b => absurd b (by omega), fun i => Or.inr rfl⟩, fun c => ?_⟩⟩
    have g := hg v2 h0 (by omega)
    refine ok_zg.mpr ⟨⟨by omega, by omega⟩, ok_zg.mpr ⟨⟨by omega, by omega⟩, ok_zg.mpr ⟨⟨by omega, by omega⟩, ok_zg.mpr ⟨⟨by omega, by omega⟩, ?_⟩⟩⟩⟩
    refine (ih (v2 + 1) _ (by omega) (by omega) (by omega)).mono (fun r hr => ?_)
    refine ⟨fun j a b => ?_, fun x => ?_⟩
    · by_cases e : j = v2
      · rw [e]
        rcases hr.2 (going v2) with q | q
        · exact q
        · rw [q, zup_same]
      · exact hr.1 j (by omega) b
    · rcases hr.2 x with a | a
      · exact Or.inl a
      · by_cases e : x = going v2
        · rw [e] at a ⊢; rw [a, zup_same]; exact Or.inl rfl
        · rw [a, zup_ne e]; exact Or.inr rfl
section ML
variable {size many rounds kind fig sc gm pl tk ki stm th v : Int} {steps row went gone going kept stg wg R : Int → Int}
/-- what lookAhead leaves: the row as it was, those who stay, those who go; P tells of the end that it ran to -/
def LAq (size many rounds kind fig sc : Int) (steps row went : Int → Int) (P : Int × Int × Int × (Int → Int) × (Int → Int) × (Int → Int) × (Int → Int) × Int → Prop) (r : Int × Int × Int × Int × Int × Int × Int × (Int → Int) × (Int → Int) × (Int → Int) × (Int → Int) × (Int → Int) × Int × (Int → Int) × Int × Int × Int × (Int → Int) × Int × (Int → Int)) : Prop :=
  ∃ ret st ro we gone' going' gm' kept' stg stm wg rd2 ro2 we2, r = (ret, size, many, rounds, kind, fig, sc, st, ro, we, gone', going', gm', kept', 255, 0, 1, stg, stm, wg) ∧ K9 size many rounds kind fig sc steps row went size many rounds kind fig sc st ro we ∧ (0 ≤ stm ∧ stm ≤ 120) ∧ (∀ i, 0 ≤ i → i < stm → 1 ≤ stg i ∧ stg i ≤ 120) ∧ (0 ≤ gm' ∧ gm' ≤ 120) ∧ (∀ j, 0 ≤ j → j < gm' → 1 ≤ going' j ∧ going' j ≤ 120) ∧ eqr 0 stm stg ro2 ∧ (∀ j, 0 ≤ j → j < gm' → wg (going' j) = we2 (going' j)) ∧ P (ret, stm, rd2, ro2, we2, gone', going', gm')
theorem mlook {P : Int × Int × Int × (Int → Int) × (Int → Int) × (Int → Int) × (Int → Int) × Int → Prop} (h : RI 999 size many rounds row went) (hp : PI kind fig sc steps) (hP : ok (f_X11_runOut many rounds kind fig sc steps row went gone going gm) P) : ok (f_X11_lookAhead size many rounds kind fig sc steps row went gone going gm kept pl tk ki stg stm wg) (LAq size many rounds kind fig sc steps row went P) := by
  unfold f_X11_lookAhead
  refine ok_bind.mpr (mopen.mono (fun r hr => ?_))
  obtain ⟨q', rfl, hI⟩ := hr
  refine ok_bind.mpr (((mrun hp (by omega) h).and hP).mono (fun r hr => ?_))
  obtain ⟨r1, r2, r3, r4, r5, r6, r7, r8⟩ := r
  obtain ⟨⟨e1, e2, e3, e4⟩, e5⟩ := hr
  dsimp only at e1 e2 e3 e4
  have b1 := h.1
  have b2 := h.2.1
  have b3 := e1.2.1
  refine ok_bind.mpr ((mla19 (by omega) zF 0 stg (by omega) b3.1 (by rw [zF_eq]; omega)).mono (fun s1 hs1 => ?_))
  refine ok_bind.mpr ((mla47 e3.2 e4 zF 0 wg (by omega) e3.1 (by rw [zF_eq]; omega)).mono (fun s2 hs2 => ?_))
  refine ok_bind.mpr ((mclose hI).mono (fun r hr => ?_))
  obtain ⟨st, ro, we, rfl, c1, c2, c3⟩ := hr
  refine ok_some.mpr ⟨r1, st, ro, we, r6, r7, r8, q', s1, r2, s2, r3, r4, r5, rfl, ⟨rfl, rfl, rfl, rfl, rfl, rfl, c1, c2, c3⟩, ⟨by omega, by omega⟩, fun i p q => ?_, e3, e4, fun i p q => hs1.1 i p q, fun j p q => hs2.1 j p q, e5⟩
  rw [hs1.1 i p q]
  have := e1.2.2.2.1 i p q
  omega
/-- is v among those who stay -/
noncomputable def IS (v stm : Int) (stg : Int → Int) : Int := @ite Int (∃ i, 0 ≤ i ∧ i < stm ∧ stg i = v) (Classical.propDecidable _) 1 0
theorem IS_01 {v stm : Int} {stg : Int → Int} : IS v stm stg = 0 ∨ IS v stm stg = 1 := by
  unfold IS
  by_cases h : ∃ i, 0 ≤ i ∧ i < stm ∧ stg i = v
  · rw [if_pos h]; exact Or.inr rfl
  · rw [if_neg h]; exact Or.inl rfl
theorem IS_1 {v stm : Int} {stg : Int → Int} : IS v stm stg = 1 ↔ ∃ i, 0 ≤ i ∧ i < stm ∧ stg i = v := by
  unfold IS
  by_cases h : ∃ i, 0 ≤ i ∧ i < stm ∧ stg i = v
  · rw [if_pos h]; exact ⟨fun _ => h, fun _ => rfl⟩
  · rw [if_neg h]; exact ⟨fun q => absurd q (by decide), fun q => absurd q h⟩
theorem mstay_L {v stm : Int} {stg : Int → Int} (hv : zR v) (hs : stm ≤ 120) (hg : ∀ i, 0 ≤ i → i < stm → zR (stg i)) : ∀ (n : Nat) (a i : Int), 0 ≤ i → i ≤ stm → stm - i < n → (a = 0 ∨ a = 1) → (a = 1 ↔ ∃ k, 0 ≤ k ∧ k < i ∧ stg k = v) → ok (f_X11_isStaying_L4 n v a i stg stm) (fun r => (r = 0 ∨ r = 1) ∧ (r = 1 ↔ ∃ k, 0 ≤ k ∧ k < stm ∧ stg k = v)) := by
  intro n
  induction n with
  | zero => intro a i h0 h1 h2; exact absurd h2 (by omega)
  | succ n ih =>
    intro a i h0 h1 h2 ha hk
    rw [f_X11_isStaying_L4_s]
    refine ok_zg.mpr ⟨⟨⟨by omega, by omega⟩, ⟨by omega, by omega⟩⟩, ok_ite.mpr ⟨fun c => ?_, fun c => ?_⟩⟩
    · have e : i = stm := by omega
      subst e
      exact ok_some.mpr ⟨ha, hk⟩
    · refine ok_zg.mpr ⟨⟨by omega, by omega⟩, ok_ite.mpr ⟨fun c2 => ?_, fun c2 => ?_⟩⟩
      · unfold f_X11_isStaying_J26
        obtain ⟨k, k1, k2, k3⟩ := hk.mp (by omega)
        exact ih 1 (i + 1) (by omega) (by omega) (by omega) (Or.inr rfl) ⟨fun _ => ⟨k, k1, by omega, k3⟩, fun _ => rfl⟩
      · have a0 : a = 0 := Decidable.of_not_not c2
        refine ok_zg.mpr ⟨⟨by omega, by omega⟩, ok_zg.mpr ⟨⟨hg i h0 (by omega), hv⟩, ok_ite.mpr ⟨fun c3 => ?_, fun c3 => ?_⟩⟩⟩
        · refine ih 0 (i + 1) (by omega) (by omega) (by omega) (Or.inl rfl) ⟨fun q => absurd q (by decide), ?_⟩
          rintro ⟨k, k1, k2, k3⟩
          by_cases e : k = i
          · rw [e] at k3; exact absurd k3 c3
          · have := hk.mpr ⟨k, k1, by omega, k3⟩; omega
        · unfold f_X11_isStaying_J26
          exact ih 1 (i + 1) (by omega) (by omega) (by omega) (Or.inr rfl) ⟨fun _ => ⟨i, h0, by omega, Decidable.of_not_not c3⟩, fun _ => rfl⟩
theorem mstay {v stm : Int} {stg : Int → Int} (hv : zR v) (hs : 0 ≤ stm ∧ stm ≤ 120) (hg : ∀ i, 0 ≤ i → i < stm → zR (stg i)) : f_X11_isStaying v stg stm = some (IS v stm stg) := by
  have : ok (f_X11_isStaying v stg stm) (fun r => r = IS v stm stg) := by
    unfold f_X11_isStaying
    refine ok_bind.mpr ((mstay_L hv hs.2 hg zF 0 0 (by omega) hs.1 (by rw [zF_eq]; omega) (Or.inl rfl) ⟨fun q => absurd q (by decide), fun ⟨k, k1, k2, _⟩ => absurd k2 (by omega)⟩).mono (fun r hr => ok_zg.mpr ⟨hr.1, ok_some.mpr ?_⟩))
    rcases hr.1 with a | a
    · rcases IS_01 (v := v) (stm := stm) (stg := stg) with b | b
      · rw [a, b]
      · have := hr.2.mpr (IS_1.mp b); omega
    · rw [a, IS_1.mpr (hr.2.mp a)]
  obtain ⟨r, h1, h2⟩ := this
  rw [h1, h2]
abbrev T22 : Type := Int × Int × Int × Int × Int × Int × Int × (Int → Int) × (Int → Int) × (Int → Int) × Int × (Int → Int) × (Int → Int) × (Int → Int) × Int × (Int → Int) × Int × Int × Int × (Int → Int) × Int × (Int → Int)
/-- an answer a, and the row as it was -/
def A22 (size many rounds kind fig sc : Int) (steps row went : Int → Int) (A : Int → Prop) (r : T22) : Prop := A r.1 ∧ K9 size many rounds kind fig sc steps row went r.2.1 r.2.2.1 r.2.2.2.1 r.2.2.2.2.1 r.2.2.2.2.2.1 r.2.2.2.2.2.2.1 r.2.2.2.2.2.2.2.1 r.2.2.2.2.2.2.2.2.1 r.2.2.2.2.2.2.2.2.2.1
/-- the same, the kept refusals in twelfth place missing -/
def A21 (size many rounds kind fig sc : Int) (steps row went : Int → Int) (A : Int → Prop) (r : Int × Int × Int × Int × Int × Int × Int × (Int → Int) × (Int → Int) × (Int → Int) × Int × (Int → Int) × (Int → Int) × Int × (Int → Int) × Int × Int × Int × (Int → Int) × Int × (Int → Int)) : Prop := A r.1 ∧ K9 size many rounds kind fig sc steps row went r.2.1 r.2.2.1 r.2.2.2.1 r.2.2.2.2.1 r.2.2.2.2.2.1 r.2.2.2.2.2.2.1 r.2.2.2.2.2.2.2.1 r.2.2.2.2.2.2.2.2.1 r.2.2.2.2.2.2.2.2.2.1
/-- a refusal -/
theorem mref22 {A : Int → Prop} {k : Int} (hk : -7 < k ∧ k ≤ 0) (hA : A k) : ok ((f_X11_refuse k R).bind (fun (r_26, t_refusals_27) => some (r_26, size, many, rounds, kind, fig, sc, steps, row, went, th, t_refusals_27, gone, going, gm, kept, pl, tk, ki, stg, stm, wg))) (A22 size many rounds kind fig sc steps row went A) := by
  refine ok_bind.mpr ((mref hk R).mono (fun r hr => ?_))
  obtain ⟨r1, r2⟩ := r
  dsimp only at hr
  exact ok_some.mpr ⟨by rw [hr]; exact hA, K9.refl⟩
theorem mtrue (h : RI 999 size many rounds row went) (hp : PI kind fig sc steps) : ok (f_X11_runOut many rounds kind fig sc steps row went gone going gm) (fun _ => True) := (mrun hp (by omega) h).mono (fun _ _ => trivial)
/-- the end that was looked at -/
def EI (P : Int × Int × Int × (Int → Int) × (Int → Int) × (Int → Int) × (Int → Int) × Int → Prop) (ret stm gm : Int) (stg going wg : Int → Int) : Prop := ∃ rd2 ro2 we2 gone, P (ret, stm, rd2, ro2, we2, gone, going, gm) ∧ eqr 0 stm stg ro2 ∧ (∀ j, 0 ≤ j → j < gm → wg (going j) = we2 (going j)) ∧ (0 ≤ stm ∧ stm ≤ 120) ∧ (∀ i, 0 ≤ i → i < stm → 1 ≤ stg i ∧ stg i ≤ 120) ∧ (0 ≤ gm ∧ gm ≤ 120) ∧ (∀ j, 0 ≤ j → j < gm → 1 ≤ going j ∧ going j ≤ 120)
theorem mwhen (hv : zR v) (h : RI 999 size many rounds row went) (hp : PI kind fig sc steps) {P : Int × Int × Int × (Int → Int) × (Int → Int) × (Int → Int) × (Int → Int) × Int → Prop} (hP : ok (f_X11_runOut many rounds kind fig sc steps row went gone going gm) P) : ok (f_X11_when v size many rounds kind fig sc steps row went th R gone going gm kept pl tk ki stg stm wg) (A22 size many rounds kind fig sc steps row went (fun a => (¬ (1 ≤ v ∧ v ≤ size) ∧ a = -1) ∨ ((1 ≤ v ∧ v ≤ size) ∧ 0 < went v ∧ a = went v) ∨ ((1 ≤ v ∧ v ≤ size) ∧ went v = 0 ∧ ∃ ret stm gm stg going wg, EI P ret stm gm stg going wg ∧ ((IS v stm stg = 1 ∧ a = -9) ∨ (IS v stm stg = 0 ∧ a = wg v))))) := by
  have b1 := h.1
  unfold f_X11_when
  rw [mnum hv ⟨by omega, by omega⟩]
  refine ok_bind.mpr (ok_some.mpr ?_)
  rw [zg10n]
  refine ok_ite.mpr ⟨fun c => ?_, fun c => mref22 (by omega) (Or.inl ⟨c, rfl⟩)⟩
  have w := h.2.2.2.2.2.1 v c.1 c.2
  have b3 := h.2.2.1
  refine ok_zg.mpr ⟨⟨by omega, by omega⟩, ok_zg.mpr ⟨⟨by omega, by omega⟩, ok_ite.mpr ⟨fun c2 => ?_, fun c2 => ?_⟩⟩⟩
  · refine ok_bind.mpr ((mlook h hp hP).mono (fun r hr => ?_))
    obtain ⟨ret, st, ro, we, gone', going', gm', kept', stg, stm, wg, rd2, ro2, we2, rfl, k1, k2, k3, k4, k5, k6, k7, k8⟩ := hr
    refine ok_bind.mpr ?_
    rw [mstay hv k2 (fun i p q => by have := k3 i p q; exact ⟨by omega, by omega⟩)]
    have i01 := IS_01 (v := v) (stm := stm) (stg := stg)
    refine ok_some.mpr (ok_zg.mpr ⟨⟨by omega, by omega⟩, ok_ite.mpr ⟨fun c3 => ok_zg.mpr ⟨⟨by omega, by omega⟩, ok_some.mpr ⟨Or.inr (Or.inr ⟨c, by omega, ret, stm, gm', stg, going', wg, ⟨rd2, ro2, we2, gone', k8, k6, k7, k2, k3, k4, k5⟩, Or.inr ⟨c3, rfl⟩⟩), k1⟩⟩, fun c3 => ok_some.mpr ⟨Or.inr (Or.inr ⟨c, by omega, ret, stm, gm', stg, going', wg, ⟨rd2, ro2, we2, gone', k8, k6, k7, k2, k3, k4, k5⟩, Or.inl ⟨by omega, rfl⟩⟩), k1⟩⟩⟩)
  · exact ok_zg.mpr ⟨⟨by omega, by omega⟩, ok_some.mpr ⟨Or.inr (Or.inl ⟨c, by omega, rfl⟩), K9.refl⟩⟩
theorem mrounds (h : RI 999 size many rounds row went) (hp : PI kind fig sc steps) {P : Int × Int × Int × (Int → Int) × (Int → Int) × (Int → Int) × (Int → Int) × Int → Prop} (hP : ok (f_X11_runOut many rounds kind fig sc steps row went gone going gm) P) : ok (f_X11_rounds size many rounds kind fig sc steps row went th gone going gm kept pl tk ki stg stm wg) (A21 size many rounds kind fig sc steps row went (fun a => ∃ stm gm stg going wg, EI P a stm gm stg going wg)) := by
  unfold f_X11_rounds
  refine ok_bind.mpr ((mlook h hp hP).mono (fun r hr => ?_))
  obtain ⟨ret, st, ro, we, gone', going', gm', kept', stg, stm, wg, rd2, ro2, we2, rfl, k1, k2, k3, k4, k5, k6, k7, k8⟩ := hr
  exact ok_some.mpr ⟨⟨stm, gm', stg, going', wg, ⟨rd2, ro2, we2, gone', k8, k6, k7, k2, k3, k4, k5⟩⟩, k1⟩
theorem mstays (hv : zR v) (h : RI 999 size many rounds row went) (hp : PI kind fig sc steps) {P : Int × Int × Int × (Int → Int) × (Int → Int) × (Int → Int) × (Int → Int) × Int → Prop} (hP : ok (f_X11_runOut many rounds kind fig sc steps row went gone going gm) P) : ok (f_X11_stays v size many rounds kind fig sc steps row went th R gone going gm kept pl tk ki stg stm wg) (A22 size many rounds kind fig sc steps row went (fun a => (v < 0 ∧ a = -4) ∨ (0 ≤ v ∧ ∃ ret stm gm stg going wg, EI P ret stm gm stg going wg ∧ a = if stm ≤ v then -9 else stg v))) := by
  unfold f_X11_stays
  refine ok_zg.mpr ⟨hv, ok_ite.mpr ⟨fun c => ?_, fun c => mref22 (by omega) (Or.inl ⟨by omega, rfl⟩)⟩⟩
  refine ok_bind.mpr ((mlook h hp hP).mono (fun r hr => ?_))
  obtain ⟨ret, st, ro, we, gone', going', gm', kept', stg, stm, wg, rd2, ro2, we2, rfl, k1, k2, k3, k4, k5, k6, k7, k8⟩ := hr
  refine ok_zg.mpr ⟨⟨hv, ⟨by omega, by omega⟩⟩, ok_ite.mpr ⟨fun c2 => ok_some.mpr ⟨Or.inr ⟨c, ret, stm, gm', stg, going', wg, ⟨rd2, ro2, we2, gone', k8, k6, k7, k2, k3, k4, k5⟩, by rw [if_pos c2]⟩, k1⟩, fun c2 => ok_zg.mpr ⟨⟨by omega, by omega⟩, ok_some.mpr ⟨Or.inr ⟨c, ret, stm, gm', stg, going', wg, ⟨rd2, ro2, we2, gone', k8, k6, k7, k2, k3, k4, k5⟩, by rw [if_neg c2]⟩, k1⟩⟩⟩⟩
theorem mgoes (hv : zR v) (h : RI 999 size many rounds row went) (hp : PI kind fig sc steps) {P : Int × Int × Int × (Int → Int) × (Int → Int) × (Int → Int) × (Int → Int) × Int → Prop} (hP : ok (f_X11_runOut many rounds kind fig sc steps row went gone going gm) P) : ok (f_X11_goes v size many rounds kind fig sc steps row went th R gone going gm kept pl tk ki stg stm wg) (A22 size many rounds kind fig sc steps row went (fun a => (v < 0 ∧ a = -4) ∨ (0 ≤ v ∧ ∃ ret stm gm stg going wg, EI P ret stm gm stg going wg ∧ a = if gm ≤ v then -9 else going v))) := by
  unfold f_X11_goes
  refine ok_zg.mpr ⟨hv, ok_ite.mpr ⟨fun c => ?_, fun c => mref22 (by omega) (Or.inl ⟨by omega, rfl⟩)⟩⟩
  refine ok_bind.mpr ((mlook h hp hP).mono (fun r hr => ?_))
  obtain ⟨ret, st, ro, we, gone', going', gm', kept', stg, stm, wg, rd2, ro2, we2, rfl, k1, k2, k3, k4, k5, k6, k7, k8⟩ := hr
  refine ok_zg.mpr ⟨⟨hv, ⟨by omega, by omega⟩⟩, ok_ite.mpr ⟨fun c2 => ok_some.mpr ⟨Or.inr ⟨c, ret, stm, gm', stg, going', wg, ⟨rd2, ro2, we2, gone', k8, k6, k7, k2, k3, k4, k5⟩, by rw [if_pos c2]⟩, k1⟩, fun c2 => ok_zg.mpr ⟨⟨by omega, by omega⟩, ok_some.mpr ⟨Or.inr ⟨c, ret, stm, gm', stg, going', wg, ⟨rd2, ro2, we2, gone', k8, k6, k7, k2, k3, k4, k5⟩, by rw [if_neg c2]⟩, k1⟩⟩⟩⟩
theorem mbeside_L (hv : zR v) (hs : 0 ≤ stm ∧ stm ≤ 120) (hg : ∀ i, 0 ≤ i → i < stm → 1 ≤ stg i ∧ stg i ≤ 120) : ∀ (n : Nat) (i : Int), 0 ≤ i → i ≤ 121 → 130 - i < n → ok (f_X11_beside_L26 n v i size many rounds kind fig sc steps row went th R gone going gm kept pl tk ki stg stm wg) (A22 size many rounds kind fig sc steps row went (fun a => (∃ k, i ≤ k ∧ k + 1 < stm ∧ stg k = v ∧ a = stg (k + 1)) ∨ (a = -9 ∧ ∀ k, i ≤ k → k + 1 < stm → stg k ≠ v))) := by
  intro n
  induction n with
  | zero => intro i h0 h1 h2; exact absurd h2 (by omega)
  | succ n ih =>
    intro i h0 h1 h2
    rw [f_X11_beside_L26_s]
    refine ok_zg.mpr ⟨⟨⟨by omega, by omega⟩, ⟨by omega, by omega⟩⟩, ok_ite.mpr ⟨fun c => ok_some.mpr ⟨Or.inr ⟨rfl, fun k p q => absurd q (by omega)⟩, K9.refl⟩, fun c => ?_⟩⟩
    have g := hg i h0 (by omega)
    refine ok_zg.mpr ⟨⟨by omega, by omega⟩, ok_zg.mpr ⟨⟨⟨by omega, by omega⟩, hv⟩, ok_ite.mpr ⟨fun c2 => ?_, fun c2 => ?_⟩⟩⟩
    · refine (ih (i + 1) (by omega) (by omega) (by omega)).mono (fun r hr => ⟨?_, hr.2⟩)
      rcases hr.1 with ⟨k, q1, q2, q3, q4⟩ | ⟨q1, q2⟩
      · exact Or.inl ⟨k, by omega, q2, q3, q4⟩
      · refine Or.inr ⟨q1, fun k p q => ?_⟩
        by_cases e : k = i
        · rw [e]; exact c2
        · exact q2 k (by omega) q
    · exact ok_zg.mpr ⟨⟨by omega, by omega⟩, ok_some.mpr ⟨Or.inl ⟨i, by omega, by omega, Decidable.of_not_not c2, rfl⟩, K9.refl⟩⟩
theorem K9.trans {a1 a2 a3 a4 a5 a6 b1 b2 b3 b4 b5 b6 c1 c2 c3 c4 c5 c6 : Int} {f1 f2 f3 g1 g2 g3 k1 k2 k3 : Int → Int} (h : K9 a1 a2 a3 a4 a5 a6 f1 f2 f3 b1 b2 b3 b4 b5 b6 g1 g2 g3) (g : K9 b1 b2 b3 b4 b5 b6 g1 g2 g3 c1 c2 c3 c4 c5 c6 k1 k2 k3) : K9 a1 a2 a3 a4 a5 a6 f1 f2 f3 c1 c2 c3 c4 c5 c6 k1 k2 k3 := by
  obtain ⟨rfl, rfl, rfl, rfl, rfl, rfl, h1, h2, h3⟩ := h
  obtain ⟨rfl, rfl, rfl, rfl, rfl, rfl, h4, h5, h6⟩ := g
  exact ⟨rfl, rfl, rfl, rfl, rfl, rfl, h1.trans h4, h2.trans h5, h3.trans h6⟩
theorem mbeside (hv : zR v) (h : RI 999 size many rounds row went) (hp : PI kind fig sc steps) {P : Int × Int × Int × (Int → Int) × (Int → Int) × (Int → Int) × (Int → Int) × Int → Prop} (hP : ok (f_X11_runOut many rounds kind fig sc steps row went gone going gm) P) : ok (f_X11_beside v size many rounds kind fig sc steps row went th R gone going gm kept pl tk ki stg stm wg) (A22 size many rounds kind fig sc steps row went (fun a => (¬ (1 ≤ v ∧ v ≤ size) ∧ a = -1) ∨ ((1 ≤ v ∧ v ≤ size) ∧ ∃ ret stm gm stg going wg, EI P ret stm gm stg going wg ∧ ((∃ k, 0 ≤ k ∧ k + 1 < stm ∧ stg k = v ∧ a = stg (k + 1)) ∨ (a = -9 ∧ ∀ k, 0 ≤ k → k + 1 < stm → stg k ≠ v))))) := by
  have b1 := h.1
  unfold f_X11_beside
  rw [mnum hv ⟨by omega, by omega⟩]
  refine ok_bind.mpr (ok_some.mpr ?_)
  rw [zg10n]
  refine ok_ite.mpr ⟨fun c => ?_, fun c => mref22 (by omega) (Or.inl ⟨c, rfl⟩)⟩
  refine ok_bind.mpr ((mlook h hp hP).mono (fun r hr => ?_))
  obtain ⟨ret, st, ro, we, gone', going', gm', kept', stg, stm, wg, rd2, ro2, we2, rfl, k1, k2, k3, k4, k5, k6, k7, k8⟩ := hr
  exact (mbeside_L hv k2 k3 zF 0 (by omega) (by omega) (by rw [zF_eq]; omega)).mono (fun r hr => ⟨Or.inr ⟨c, ret, stm, gm', stg, going', wg, ⟨rd2, ro2, we2, gone', k8, k6, k7, k2, k3, k4, k5⟩, hr.1⟩, k1.trans hr.2⟩)
theorem mgap_L (hs : 0 ≤ stm ∧ stm ≤ 120) (hg : ∀ i, 0 ≤ i → i < stm → 1 ≤ stg i ∧ stg i ≤ 120) : ∀ (n : Nat) (v2 v3 i : Int), 0 ≤ i → i ≤ 121 → 130 - i < n → -9 ≤ v2 ∧ v2 ≤ 200 → ok (f_X11_gap_L36 n v2 v3 i stg stm) (fun _ => True) := by
  intro n
  induction n with
  | zero => intro v2 v3 i h0 h1 h2; exact absurd h2 (by omega)
  | succ n ih =>
    intro v2 v3 i h0 h1 h2 h3
    rw [f_X11_gap_L36_s]
    refine ok_zg.mpr ⟨⟨⟨by omega, by omega⟩, ⟨by omega, by omega⟩⟩, ok_ite.mpr ⟨fun c => ok_some.mpr trivial, fun c => ?_⟩⟩
    have g := hg i h0 (by omega)
    have g2 := hg (i + 1) (by omega) (by omega)
    have S : ∀ s0 : Int, 0 ≤ s0 ∧ s0 ≤ 200 → ok (f_X11_gap_J79 (f_X11_gap_L36 n) v2 v3 i s0 stg stm) (fun _ => True) := by
      intro s0 hs0
      have Q : ∀ z, ok (f_X11_gap_J98 (f_X11_gap_L36 n) v2 i s0 z stg stm) (fun _ => True) := by
        intro z
        unfold f_X11_gap_J98
        exact ok_zg.mpr ⟨⟨⟨by omega, by omega⟩, ⟨by omega, by omega⟩⟩, ok_ite.mpr ⟨fun _ => ih v2 z (i + 1) (by omega) (by omega) (by omega) h3, fun _ => ih s0 z (i + 1) (by omega) (by omega) (by omega) (by omega)⟩⟩
      unfold f_X11_gap_J79
      exact ok_zg.mpr ⟨⟨⟨by omega, by omega⟩, ⟨by omega, by omega⟩⟩, ok_ite.mpr ⟨fun _ => Q v3, fun _ => ok_zg.mpr ⟨⟨by omega, by omega⟩, Q _⟩⟩⟩
    exact ok_zg.mpr ⟨⟨by omega, by omega⟩, ok_zg.mpr ⟨⟨by omega, by omega⟩, ok_zg.mpr ⟨⟨by omega, by omega⟩, ok_ite.mpr ⟨fun c2 => S _ (by omega), fun c2 => S _ (by omega)⟩⟩⟩⟩
theorem mgap (hv : zR v) (h : RI 999 size many rounds row went) (hp : PI kind fig sc steps) {P : Int × Int × Int × (Int → Int) × (Int → Int) × (Int → Int) × (Int → Int) × Int → Prop} (hP : ok (f_X11_runOut many rounds kind fig sc steps row went gone going gm) P) : ok (f_X11_gap v size many rounds kind fig sc steps row went th R gone going gm kept pl tk ki stg stm wg) (A22 size many rounds kind fig sc steps row went (fun a => (¬ (0 ≤ v ∧ v ≤ 1) ∧ a = -2) ∨ ((0 ≤ v ∧ v ≤ 1) ∧ ∃ ret stm gm stg going wg, EI P ret stm gm stg going wg ∧ ∃ p, f_X11_gap_L36 zF (-9) (-9) 0 stg stm = some p ∧ a = if v = 0 then p.1 else p.2))) := by
  unfold f_X11_gap
  refine ok_zg.mpr ⟨hv, ?_⟩
  rw [min_ hv ⟨by omega, by omega⟩ ⟨by omega, by omega⟩]
  refine ok_bind.mpr (ok_some.mpr ?_)
  rw [zg10n]
  refine ok_ite.mpr ⟨fun c => ?_, fun c => mref22 (by omega) (Or.inl ⟨c, rfl⟩)⟩
  refine ok_bind.mpr ((mlook h hp hP).mono (fun r hr => ?_))
  obtain ⟨ret, st, ro, we, gone', going', gm', kept', stg, stm, wg, rd2, ro2, we2, rfl, k1, k2, k3, k4, k5, k6, k7, k8⟩ := hr
  obtain ⟨p, hp1, -⟩ := mgap_L k2 k3 zF (-9) (-9) 0 (by omega) (by omega) (by rw [zF_eq]; omega) (by omega)
  refine ok_bind.mpr (ok_of hp1 ?_)
  refine ok_zg.mpr ⟨hv, ok_ite.mpr ⟨fun c2 => ok_some.mpr ⟨Or.inr ⟨c, ret, stm, gm', stg, going', wg, ⟨rd2, ro2, we2, gone', k8, k6, k7, k2, k3, k4, k5⟩, p, hp1, by rw [if_neg c2]⟩, k1⟩, fun c2 => ok_some.mpr ⟨Or.inr ⟨c, ret, stm, gm', stg, going', wg, ⟨rd2, ro2, we2, gone', k8, k6, k7, k2, k3, k4, k5⟩, p, hp1, by rw [if_pos (Decidable.of_not_not c2)]⟩, k1⟩⟩⟩
theorem mnear_L (hv : zR v) (hs : 0 ≤ stm ∧ stm ≤ 120) (hg : ∀ i, 0 ≤ i → i < stm → 1 ≤ stg i ∧ stg i ≤ 120) : ∀ (n : Nat) (v2 i : Int), 0 ≤ i → i ≤ 121 → 130 - i < n → ok (f_X11_near_L40 n v v2 i stg stm) (fun _ => True) := by
  intro n
  induction n with
  | zero => intro v2 i h0 h1 h2; exact absurd h2 (by omega)
  | succ n ih =>
    intro v2 i h0 h1 h2
    rw [f_X11_near_L40_s]
    by_cases hc : stm ≤ i
    · exact ok_zg.mpr ⟨⟨⟨by omega, by omega⟩, ⟨by omega, by omega⟩⟩, ok_ite.mpr ⟨fun c => ok_some.mpr trivial, fun c => absurd hc c⟩⟩
    · have g := hg i h0 (by omega)
      exact ok_zg.mpr ⟨⟨⟨by omega, by omega⟩, ⟨by omega, by omega⟩⟩, ok_ite.mpr ⟨fun c => ok_some.mpr trivial, fun c => ok_zg.mpr ⟨⟨by omega, by omega⟩, ok_zg.mpr ⟨⟨⟨by omega, by omega⟩, hv⟩, ok_ite.mpr ⟨fun _ => ih _ (i + 1) (by omega) (by omega) (by omega), fun _ => ih _ (i + 1) (by omega) (by omega) (by omega)⟩⟩⟩⟩⟩
theorem mnear (hv : zR v) (h : RI 999 size many rounds row went) (hp : PI kind fig sc steps) {P : Int × Int × Int × (Int → Int) × (Int → Int) × (Int → Int) × (Int → Int) × Int → Prop} (hP : ok (f_X11_runOut many rounds kind fig sc steps row went gone going gm) P) : ok (f_X11_near v size many rounds kind fig sc steps row went th R gone going gm kept pl tk ki stg stm wg) (A22 size many rounds kind fig sc steps row went (fun a => (v < 0 ∧ a = -4) ∨ (120 < v ∧ a = -6) ∨ ((0 ≤ v ∧ v ≤ 120) ∧ ∃ ret stm gm stg going wg, EI P ret stm gm stg going wg ∧ f_X11_near_L40 zF v 0 0 stg stm = some a))) := by
  have J : ∀ k : Int, -7 < k ∧ k ≤ 0 → ((v < 0 ∧ k = -4) ∨ (120 < v ∧ k = -6)) → ok (f_X11_near_J27 k size many rounds kind fig sc steps row went 0 R gone going gm kept pl tk ki stg stm wg) (A22 size many rounds kind fig sc steps row went (fun a => (v < 0 ∧ a = -4) ∨ (120 < v ∧ a = -6) ∨ ((0 ≤ v ∧ v ≤ 120) ∧ ∃ ret stm gm stg going wg, EI P ret stm gm stg going wg ∧ f_X11_near_L40 zF v 0 0 stg stm = some a))) := by
    intro k hk hh
    unfold f_X11_near_J27
    exact mref22 hk (by rcases hh with q | q; exact Or.inl q; exact Or.inr (Or.inl q))
  unfold f_X11_near f_X11_near_J15
  refine ok_zg.mpr ⟨hv, ok_ite.mpr ⟨fun c => ok_zg.mpr ⟨hv, ok_ite.mpr ⟨fun c1 => absurd c (by omega), fun _ => J _ (by omega) (Or.inl ⟨c, rfl⟩)⟩⟩, fun c => ok_zg.mpr ⟨hv, ok_ite.mpr ⟨fun c2 => ?_, fun c2 => ok_zg.mpr ⟨hv, ok_ite.mpr ⟨fun _ => J _ (by omega) (Or.inr ⟨by omega, rfl⟩), fun c3 => absurd c3 (by omega)⟩⟩⟩⟩⟩⟩
  refine ok_bind.mpr ((mlook h hp hP).mono (fun r hr => ?_))
  obtain ⟨ret, st, ro, we, gone', going', gm', kept', stg, stm, wg, rd2, ro2, we2, rfl, k1, k2, k3, k4, k5, k6, k7, k8⟩ := hr
  obtain ⟨p, hp1, -⟩ := mnear_L hv k2 k3 zF 0 0 (by omega) (by omega) (by rw [zF_eq]; omega)
  exact ok_bind.mpr (ok_of hp1 (ok_some.mpr ⟨Or.inr (Or.inr ⟨⟨by omega, by omega⟩, ret, stm, gm', stg, going', wg, ⟨rd2, ro2, we2, gone', k8, k6, k7, k2, k3, k4, k5⟩, hp1⟩), k1⟩))
theorem mfriends_L (hm : 0 ≤ many ∧ many ≤ 120) (hr : ∀ i, 0 ≤ i → i < many → zR (row i)) (hs : 0 ≤ stm ∧ stm ≤ 120) (hg : ∀ i, 0 ≤ i → i < stm → 1 ≤ stg i ∧ stg i ≤ 120) : ∀ (n : Nat) (i : Int), 0 ≤ i → i ≤ 121 → 130 - i < n → ok (f_X11_friends_L12 n i size many rounds kind fig sc steps row went th gone going gm kept pl tk ki stg stm wg) (A21 size many rounds kind fig sc steps row went (fun a => (a = -9 ∧ ∀ k, i ≤ k → k + 1 < many → ¬ (IS (row k) stm stg = 1 ∧ IS (row (k + 1)) stm stg = 1)) ∨ (i + 1 ≤ a ∧ a < many ∧ (IS (row (a - 1)) stm stg = 1 ∧ IS (row a) stm stg = 1) ∧ ∀ k, i ≤ k → k + 1 < a → ¬ (IS (row k) stm stg = 1 ∧ IS (row (k + 1)) stm stg = 1)))) := by
  intro n
  induction n with
  | zero => intro i h0 h1 h2; exact absurd h2 (by omega)
  | succ n ih =>
    intro i h0 h1 h2
    rw [f_X11_friends_L12_s]
    refine ok_zg.mpr ⟨⟨⟨by omega, by omega⟩, ⟨by omega, by omega⟩⟩, ok_ite.mpr ⟨fun c => ok_some.mpr ⟨Or.inl ⟨rfl, fun k p q => absurd q (by omega)⟩, K9.refl⟩, fun c => ok_zg.mpr ⟨⟨by omega, by omega⟩, ok_bind.mpr ?_⟩⟩⟩
    have zs : ∀ j, 0 ≤ j → j < stm → zR (stg j) := fun j p q => by have := hg j p q; exact ⟨by omega, by omega⟩
    have nx : ¬ (IS (row i) stm stg = 1 ∧ IS (row (i + 1)) stm stg = 1) → ok (f_X11_friends_L12 n (i + 1) size many rounds kind fig sc steps row went th gone going gm kept pl tk ki stg stm wg) (A21 size many rounds kind fig sc steps row went (fun a => (a = -9 ∧ ∀ k, i ≤ k → k + 1 < many → ¬ (IS (row k) stm stg = 1 ∧ IS (row (k + 1)) stm stg = 1)) ∨ (i + 1 ≤ a ∧ a < many ∧ (IS (row (a - 1)) stm stg = 1 ∧ IS (row a) stm stg = 1) ∧ ∀ k, i ≤ k → k + 1 < a → ¬ (IS (row k) stm stg = 1 ∧ IS (row (k + 1)) stm stg = 1)))) := by
      intro ne
      refine (ih (i + 1) (by omega) (by omega) (by omega)).mono (fun r hr => ⟨?_, hr.2⟩)
      rcases hr.1 with ⟨q1, q2⟩ | ⟨q1, q2, q3, q4⟩
      · refine Or.inl ⟨q1, fun k p q => ?_⟩
        by_cases e : k = i
        · rw [e]; exact ne
        · exact q2 k (by omega) q
      · refine Or.inr ⟨by omega, q2, q3, fun k p q => ?_⟩
        by_cases e : k = i
        · rw [e]; exact ne
        · exact q4 k (by omega) q
    rw [mstay (hr i h0 (by omega)) hs zs]
    have i01 := IS_01 (v := row i) (stm := stm) (stg := stg)
    refine ok_some.mpr (ok_zg.mpr ⟨⟨by omega, by omega⟩, ok_ite.mpr ⟨fun c2 => nx (fun q => absurd q.1 (by omega)), fun c2 => ok_zg.mpr ⟨⟨by omega, by omega⟩, ok_bind.mpr ?_⟩⟩⟩)
    rw [mstay (hr (i + 1) (by omega) (by omega)) hs zs]
    have i02 := IS_01 (v := row (i + 1)) (stm := stm) (stg := stg)
    refine ok_some.mpr (ok_zg.mpr ⟨⟨by omega, by omega⟩, ok_ite.mpr ⟨fun c3 => nx (fun q => absurd q.2 (by omega)), fun c3 => ok_some.mpr ⟨Or.inr ⟨Int.le_refl _, by omega, ⟨by dsimp only; rw [show i + 1 - 1 = i by omega]; omega, by dsimp only; omega⟩, fun k p q => absurd q (by dsimp only at q; omega)⟩, K9.refl⟩⟩⟩)
theorem mfriends (h : RI 999 size many rounds row went) (hp : PI kind fig sc steps) {P : Int × Int × Int × (Int → Int) × (Int → Int) × (Int → Int) × (Int → Int) × Int → Prop} (hP : ok (f_X11_runOut many rounds kind fig sc steps row went gone going gm) P) : ok (f_X11_friends size many rounds kind fig sc steps row went th gone going gm kept pl tk ki stg stm wg) (A21 size many rounds kind fig sc steps row went (fun a => ∃ ret stm gm stg going wg ro, EI P ret stm gm stg going wg ∧ eqr 0 120 row ro ∧ ((a = -9 ∧ ∀ k, 0 ≤ k → k + 1 < many → ¬ (IS (ro k) stm stg = 1 ∧ IS (ro (k + 1)) stm stg = 1)) ∨ (0 + 1 ≤ a ∧ a < many ∧ (IS (ro (a - 1)) stm stg = 1 ∧ IS (ro a) stm stg = 1) ∧ ∀ k, 0 ≤ k → k + 1 < a → ¬ (IS (ro k) stm stg = 1 ∧ IS (ro (k + 1)) stm stg = 1))))) := by
  have b1 := h.1
  have b2 := h.2.1
  unfold f_X11_friends
  refine ok_bind.mpr ((mlook h hp hP).mono (fun r hr => ?_))
  obtain ⟨ret, st, ro, we, gone', going', gm', kept', stg, stm, wg, rd2, ro2, we2, rfl, k1, k2, k3, k4, k5, k6, k7, k8⟩ := hr
  have e8 := k1.2.2.2.2.2.2.2.1
  exact (mfriends_L ⟨b2.1, by omega⟩ (fun i p q => by have := h.2.2.2.1 i p q; rw [← e8 i p (by omega)]; exact ⟨by omega, by omega⟩) k2 k3 zF 0 (by omega) (by omega) (by rw [zF_eq]; omega)).mono (fun r hr => ⟨⟨ret, stm, gm', stg, going', wg, ro, ⟨rd2, ro2, we2, gone', k8, k6, k7, k2, k3, k4, k5⟩, e8, hr.1⟩, k1.trans hr.2⟩)
theorem mbyOther (hv : zR v) (h : RI 999 size many rounds row went) (hp : PI kind fig sc steps) {P : Int × Int × Int × (Int → Int) × (Int → Int) × (Int → Int) × (Int → Int) × Int → Prop} (hP : (0 ≤ v ∧ v ≤ 6) → ok (f_X11_runOut many rounds v fig sc steps row went gone going gm) P) : ok (f_X11_byOther v size many rounds kind fig sc steps row went th R gone going gm kept pl tk ki stg stm wg) (A22 size many rounds kind fig sc steps row went (fun a => (¬ (0 ≤ v ∧ v ≤ 6) ∧ a = -2) ∨ ((0 ≤ v ∧ v ≤ 6) ∧ ∃ ret gm stg going wg, EI P ret a gm stg going wg))) := by
  unfold f_X11_byOther
  refine ok_zg.mpr ⟨hv, ?_⟩
  rw [min_ hv ⟨by omega, by omega⟩ ⟨by omega, by omega⟩]
  refine ok_bind.mpr (ok_some.mpr ?_)
  rw [zg10n]
  refine ok_ite.mpr ⟨fun c => ?_, fun c => mref22 (by omega) (Or.inl ⟨c, rfl⟩)⟩
  refine ok_bind.mpr ((mlook h ⟨c, hp.2⟩ (hP c)).mono (fun r hr => ?_))
  obtain ⟨ret, st, ro, we, gone', going', gm', kept', stg, stm, wg, rd2, ro2, we2, rfl, k1, k2, k3, k4, k5, k6, k7, k8⟩ := hr
  exact ok_some.mpr ⟨Or.inr ⟨c, ret, gm', stg, going', wg, ⟨rd2, ro2, we2, gone', k8, k6, k7, k2, k3, k4, k5⟩⟩, rfl, rfl, rfl, rfl, rfl, rfl, k1.2.2.2.2.2.2⟩
end ML
