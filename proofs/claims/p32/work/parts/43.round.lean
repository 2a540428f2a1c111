/-! COUNT, first place, from the back -/
noncomputable def CT (kind fig sc there r : Int) (steps line : Int → Int) : Int :=
  if kind = 6 then 2 else if kind = 2 then fig else if kind = 4 then (if 0 < sc then steps ((r - 1) % sc) else fig) else if kind = 1 then (if r ≤ 1 then 2 else (if (if there < r then there + 1 else line (r - 1)) < 2 then 2 else (if there < r then there + 1 else line (r - 1)))) else r + 1
noncomputable def FP (kind c : Int) : Int := if kind = 5 then 1 else c
noncomputable def BK (kind r : Int) : Int := if (kind = 3 ∨ kind = 6) ∧ r % 2 = 0 then 1 else 0
theorem kinds {kind : Int} (h : 0 ≤ kind ∧ kind ≤ 6) : kind = 0 ∨ kind = 1 ∨ kind = 2 ∨ kind = 3 ∨ kind = 4 ∨ kind = 5 ∨ kind = 6 := by omega
theorem CT_congr {kind fig sc there r : Int} {steps line steps' line' : Int → Int} (h1 : eqr 0 sc steps steps') (h2 : eqr 0 there line line') (hr : 1 ≤ r) : CT kind fig sc there r steps line = CT kind fig sc there r steps' line' := by
  unfold CT
  have e1 : 0 < sc → steps ((r - 1) % sc) = steps' ((r - 1) % sc) := fun h => h1 _ (Int.emod_nonneg _ (by omega)) (Int.emod_lt_of_pos _ h)
  have e2 : ¬ there < r → line (r - 1) = line' (r - 1) := fun h => h2 _ (by omega) (by omega)
  by_cases c1 : 0 < sc
  · by_cases c2 : there < r
    · rw [e1 c1]; simp only [if_pos c2]
    · rw [e1 c1, e2 c2]
  · by_cases c2 : there < r
    · simp only [if_pos c2, if_neg c1]
    · rw [e2 c2]; simp only [if_neg c1]
theorem CT_rng {kind fig sc there r : Int} {steps line : Int → Int} (hp : PI kind fig sc steps) (ht : 0 ≤ there ∧ there ≤ 120) (hl : ∀ i, 0 ≤ i → i < there → 1 ≤ line i ∧ line i ≤ 120) (hr : 1 ≤ r ∧ r ≤ 90000) : 2 ≤ CT kind fig sc there r steps line ∧ CT kind fig sc there r steps line ≤ 99999 := by
  obtain ⟨p1, p2, p3, p4⟩ := hp
  unfold CT
  have e1 : 0 < sc → 2 ≤ steps ((r - 1) % sc) ∧ steps ((r - 1) % sc) ≤ 9 := fun h => p4 _ (Int.emod_nonneg _ (by omega)) (Int.emod_lt_of_pos _ h)
  have e2 : ¬ there < r → 1 ≤ line (r - 1) ∧ line (r - 1) ≤ 120 := fun h => hl _ (by omega) (by omega)
  split
  · omega
  · split
    · omega
    · split
      · split
        · rename_i h; have := e1 h; omega
        · omega
      · split
        · split
          · omega
          · by_cases c : there < r
            · simp only [if_pos c]
              split <;> omega
            · simp only [if_neg c]
              have := e2 c
              split <;> omega
        · omega
theorem xct {kind fig sc there r : Int} {steps line : Int → Int} (hp : PI kind fig sc steps) (ht : 0 ≤ there ∧ there ≤ 120) (hl : ∀ i, 0 ≤ i → i < there → 1 ≤ line i ∧ line i ≤ 120) (hr : 1 ≤ r ∧ r ≤ 90000) : fv_countIn kind r there fig sc steps line = some (CT kind fig sc there r steps line) := by
  obtain ⟨p1, p2, p3, p4⟩ := hp
  rcases kinds p1 with rfl | rfl | rfl | rfl | rfl | rfl | rfl
  · simp [fv_countIn, f_X6_countIn, CT]
  · have e : fv_countIn 1 r there fig sc steps line = f_X5_countIn r there line := by simp [fv_countIn]
    rw [e]
    unfold f_X5_countIn CT
    simp only [show ¬ (1 : Int) = 6 by decide, show ¬ (1 : Int) = 2 by decide, show ¬ (1 : Int) = 4 by decide, if_true, if_false]
    rw [zg_pos ⟨by omega, by omega⟩]
    by_cases c : 1 < r
    · rw [if_pos c, zg_pos ⟨⟨by omega, by omega⟩, ⟨by omega, by omega⟩⟩, if_neg (show ¬ r ≤ 1 by omega)]
      by_cases c2 : there < r
      · simp only [if_pos c2]
        unfold f_X5_countIn_J31
        rw [zg_pos ⟨⟨by omega, by omega⟩, ⟨by omega, by omega⟩⟩]
      · simp only [if_neg c2]
        have h3 := hl (r - 1) (by omega) (by omega)
        unfold f_X8_numberAt
        rw [zg_pos ⟨by omega, by omega⟩, if_neg (show ¬ r - 1 < 0 by omega), zg_pos ⟨⟨by omega, by omega⟩, ⟨by omega, by omega⟩⟩, if_neg (show ¬ there ≤ r - 1 by omega), zg_pos ⟨by omega, by omega⟩]
        show f_X5_countIn_J31 (line (r - 1)) = _
        unfold f_X5_countIn_J31
        rw [zg_pos ⟨⟨by omega, by omega⟩, ⟨by omega, by omega⟩⟩]
    · rw [if_neg c, if_pos (show r ≤ 1 by omega)]
  · simp [fv_countIn, f_X7_countIn, CT]
  · simp [fv_countIn, f_X6_countIn, CT]
  · have e : fv_countIn 4 r there fig sc steps line = f_X9_countIn r fig sc steps := by simp [fv_countIn]
    rw [e]
    unfold f_X9_countIn CT
    simp only [show ¬ (4 : Int) = 6 by decide, show ¬ (4 : Int) = 2 by decide, if_true, if_false]
    rw [zg_pos ⟨by omega, by omega⟩]
    by_cases c : sc ≤ 0
    · rw [if_pos c, if_neg (show ¬ 0 < sc by omega)]
      rfl
    · rw [if_neg c, if_pos (show 0 < sc by omega), zg_pos ⟨by omega, by omega⟩, if_pos (show 1 ≤ r by omega), zg_pos ⟨by omega, by omega, by omega, by omega⟩]
      have h1 := Int.emod_nonneg (r - 1) (show sc ≠ 0 by omega)
      have h2 := Int.emod_lt_of_pos (r - 1) (show 0 < sc by omega)
      rw [zg_pos ⟨h1, by omega⟩]
  · simp [fv_countIn, f_X6_countIn, CT]
  · simp [fv_countIn, f_X3_countIn, CT]
theorem xfp {kind c : Int} (h : 0 ≤ kind ∧ kind ≤ 6) : fv_firstPlace kind c = some (FP kind c) := by
  rcases kinds h with rfl | rfl | rfl | rfl | rfl | rfl | rfl <;> simp [fv_firstPlace, f_X6_firstPlace, f_X2_firstPlace, FP]
theorem xbk1 {r : Int} (hr : 1 ≤ r ∧ r ≤ 90000) : f_X1_isFromBack r = some (if r % 2 = 0 then 1 else 0) := by
  unfold f_X1_isFromBack
  rw [zg_pos ⟨by omega, by omega, by omega, by omega⟩, zg_pos ⟨by omega, by omega⟩]
  by_cases c : r % 2 = 0
  · rw [if_neg (fun q => q c), if_pos c]
  · rw [if_pos c, if_neg c]
theorem xbk {kind r : Int} (h : 0 ≤ kind ∧ kind ≤ 6) (hr : 1 ≤ r ∧ r ≤ 90000) : fv_isFromBack kind r = some (BK kind r) := by
  have e := xbk1 hr
  rcases kinds h with rfl | rfl | rfl | rfl | rfl | rfl | rfl <;> simp [fv_isFromBack, f_X6_isFromBack, BK, e]
theorem BK_01 (kind r : Int) : BK kind r = 0 ∨ BK kind r = 1 := by
  unfold BK
  split
  · exact Or.inr rfl
  · exact Or.inl rfl
/-! a strike: who is hit -/
def Hit (c f back there i : Int) : Prop := f ≤ (if back = 0 then i + 1 else there - i) ∧ ((if back = 0 then i + 1 else there - i) - f) % c = 0
def SK (c f back there rb' : Int) (line went : Int → Int) (there' : Int) (line' went' : Int → Int) : Prop :=
  (∀ x, (∃ i, 0 ≤ i ∧ i < there ∧ Hit c f back there i ∧ line i = x) → went' x = rb') ∧ (∀ x, ¬ (∃ i, 0 ≤ i ∧ i < there ∧ Hit c f back there i ∧ line i = x) → went' x = went x) ∧ CuPost 0 0 there line went' there' line'
theorem hit_places {c f back there x : Int} {line : Int → Int} (hf : 1 ≤ f) (hb : back = 0 ∨ back = 1) : (∃ p, f ≤ p ∧ p ≤ there ∧ (p - f) % c = 0 ∧ line (ixp back there p) = x) ↔ (∃ i, 0 ≤ i ∧ i < there ∧ Hit c f back there i ∧ line i = x) := by
  rcases hb with rfl | rfl
  · constructor
    · rintro ⟨p, p1, p2, p3, p4⟩
      unfold ixp at p4
      rw [if_pos rfl] at p4
      refine ⟨p - 1, by omega, by omega, ?_, p4⟩
      unfold Hit
      rw [if_pos rfl, show p - 1 + 1 = p by omega]
      exact ⟨p1, p3⟩
    · rintro ⟨i, i1, i2, i3, i4⟩
      unfold Hit at i3
      rw [if_pos rfl] at i3
      refine ⟨i + 1, i3.1, by omega, i3.2, ?_⟩
      unfold ixp
      rw [if_pos rfl, show i + 1 - 1 = i by omega]
      exact i4
  · constructor
    · rintro ⟨p, p1, p2, p3, p4⟩
      unfold ixp at p4
      rw [if_neg (by decide)] at p4
      refine ⟨there - p, by omega, by omega, ?_, p4⟩
      unfold Hit
      rw [if_neg (by decide), show there - (there - p) = p by omega]
      exact ⟨p1, p3⟩
    · rintro ⟨i, i1, i2, i3, i4⟩
      unfold Hit at i3
      rw [if_neg (by decide)] at i3
      refine ⟨there - i, i3.1, by omega, i3.2, ?_⟩
      unfold ixp
      rw [if_neg (by decide), show there - (there - i) = i by omega]
      exact i4
theorem SK.ri {B size there rb c f back there' : Int} {line went line' went' : Int → Int} (h : RI B size there rb line went) (k : SK c f back there (rb + 1) line went there' line' went') : RI (B + 1) size there' (rb + 1) line' went' := RI.struck h k.1 k.2.1 (cu_closed k.2.2)
/-- who is struck is settled -/
theorem SK.same {B size there rb c f back a a' : Int} {line went l1 w1 row went' l2 w2 : Int → Int} (h : RI B size there rb line went) (e1 : eqr 0 there line row) (e2 : eqr 1 (size + 1) went went') (k : SK c f back there (rb + 1) line went a l1 w1) (k' : SK c f back there (rb + 1) row went' a' l2 w2) : a = a' ∧ eqr 0 a l1 l2 ∧ eqr 1 (size + 1) w1 w2 := by
  have iff : ∀ x, (∃ i, 0 ≤ i ∧ i < there ∧ Hit c f back there i ∧ line i = x) ↔ (∃ i, 0 ≤ i ∧ i < there ∧ Hit c f back there i ∧ row i = x) := by
    intro x
    constructor
    · rintro ⟨i, i1, i2, i3, i4⟩; exact ⟨i, i1, i2, i3, by rw [← e1 i i1 i2]; exact i4⟩
    · rintro ⟨i, i1, i2, i3, i4⟩; exact ⟨i, i1, i2, i3, by rw [e1 i i1 i2]; exact i4⟩
  have ew : eqr 1 (size + 1) w1 w2 := by
    intro x p q
    by_cases hx : ∃ i, 0 ≤ i ∧ i < there ∧ Hit c f back there i ∧ line i = x
    · rw [k.1 x hx, k'.1 x ((iff x).mp hx)]
    · rw [k.2.1 x hx, k'.2.1 x (fun q => hx ((iff x).mpr q))]; exact e2 x p q
  obtain ⟨c1, c2⟩ := cu_same k.2.2 k'.2.2 e1 (fun i p q => by
    have hl := h.2.2.2.1 i p q
    rw [← e1 i p q, ew (line i) hl.1 (by omega)])
  exact ⟨c1, c2, ew⟩
theorem xstrike {B size there rb c f back : Int} {line gone went : Int → Int} (h : RI B size there rb line went) (hB : B ≤ 80000) (hc : 1 ≤ c ∧ c ≤ 99999) (hf : 1 ≤ f ∧ f ≤ 99999) (hb : back = 0 ∨ back = 1) : ok (f_X8_strike c f back size there rb line gone went) (fun r => r.1 = there - r.2.1 ∧ r.2.2.1 = rb + 1 ∧ SK c f back there (rb + 1) line went r.2.1 r.2.2.2.1 r.2.2.2.2.2) := by
  obtain ⟨a1, a2, a3, a4, a5, a6, a7, a8⟩ := id h
  unfold f_X8_strike f_X8_goneCount
  refine ok_zg.mpr ⟨⟨⟨by omega, by omega⟩, ⟨by omega, by omega⟩⟩, ok_bind.mpr (ok_some.mpr (ok_zg.mpr ⟨⟨⟨by omega, by omega⟩, ⟨by omega, by omega⟩⟩, ok_bind.mpr ?_⟩))⟩
  rw [if_neg (show ¬ c < 1 by omega), if_neg (show ¬ f < 1 by omega)]
  refine (xst_ok back there c (rb + 1) line hb ⟨hc.1, by omega⟩ ⟨a2.1, by omega⟩ (fun i p q => by have := a4 i p q; omega) zF (size - there) f gone went hf.1 (by omega) (by omega) (by omega) (by rw [zF_eq]; omega)).mono (fun r hr => ?_)
  obtain ⟨g', w'⟩ := r
  obtain ⟨h1, h2⟩ := hr
  have k1 : ∀ x, (∃ i, 0 ≤ i ∧ i < there ∧ Hit c f back there i ∧ line i = x) → w' x = rb + 1 := fun x hx => h1 x ((hit_places hf.1 hb).mpr hx)
  have k2 : ∀ x, ¬ (∃ i, 0 ≤ i ∧ i < there ∧ Hit c f back there i ∧ line i = x) → w' x = went x := fun x hx => h2 x (fun q => hx ((hit_places hf.1 hb).mp q))
  have kz : ∀ x, 1 ≤ x → x ≤ size → zR (w' x) := fun x p q => by
    by_cases hx : ∃ i, 0 ≤ i ∧ i < there ∧ Hit c f back there i ∧ line i = x
    · rw [k1 x hx]; exact ⟨by omega, by omega⟩
    · rw [k2 x hx]; have := a6 x p q; exact ⟨by omega, by omega⟩
  refine ok_bind.mpr ?_
  unfold f_X8_closeUp
  refine ok_bind.mpr ((xcu_ok there w' zF 0 0 line (by omega) (by omega) a2.1 (by omega) (by rw [zF_eq]; omega) (fun i p q => ?_)).mono (fun r hr => ?_))
  · have hq := a4 i p q
    exact ⟨by omega, kz _ hq.1 hq.2⟩
  · obtain ⟨a, l'⟩ := r
    exact ok_some.mpr (ok_some.mpr ⟨rfl, rfl, k1, k2, hr⟩)
/-- a round of the class's -/
def RO (kind fig sc size there rb : Int) (steps line went : Int → Int) (there' rb' : Int) (line' went' : Int → Int) : Prop :=
  rb' = rb + 1 ∧ SK (CT kind fig sc there (rb + 1) steps line) (FP kind (CT kind fig sc there (rb + 1) steps line)) (BK kind (rb + 1)) there (rb + 1) line went there' line' went'
theorem xround {B size there rb kind fig sc : Int} {steps line gone went : Int → Int} (h : RI B size there rb line went) (hB : B ≤ 80000) (hp : PI kind fig sc steps) : ok (f_X8_letRoundPass kind size there rb fig sc steps line gone went) (fun r => r.1 = there - r.2.1 ∧ RO kind fig sc size there rb steps line went r.2.1 r.2.2.1 r.2.2.2.1 r.2.2.2.2.2) := by
  obtain ⟨a1, a2, a3, a4, a5, a6, a7, a8⟩ := id h
  have hl : ∀ i, 0 ≤ i → i < there → 1 ≤ line i ∧ line i ≤ 120 := fun i p q => by have := a4 i p q; omega
  have ht : 0 ≤ there ∧ there ≤ 120 := by omega
  have hr : 1 ≤ rb + 1 ∧ rb + 1 ≤ 90000 := by omega
  have hc := CT_rng hp ht hl hr
  unfold f_X8_letRoundPass
  rw [xct hp ht hl hr]
  refine ok_bind.mpr (ok_some.mpr (ok_bind.mpr ?_))
  rw [xfp hp.1]
  refine ok_some.mpr (ok_bind.mpr ?_)
  rw [xbk hp.1 hr]
  refine ok_some.mpr (ok_bind.mpr ?_)
  have hfp : 1 ≤ FP kind (CT kind fig sc there (rb + 1) steps line) ∧ FP kind (CT kind fig sc there (rb + 1) steps line) ≤ 99999 := by
    unfold FP; split <;> omega
  refine (xstrike h hB ⟨by omega, hc.2⟩ hfp (BK_01 _ _)).mono (fun r hr => ?_)
  obtain ⟨r1, r2, r3, r4, r5, r6⟩ := r
  exact ok_some.mpr ⟨hr.1, hr.2.1, hr.2.2⟩
theorem RO.ri {B size there rb kind fig sc there' rb' : Int} {steps line went line' went' : Int → Int} (h : RI B size there rb line went) (k : RO kind fig sc size there rb steps line went there' rb' line' went') : RI (B + 1) size there' rb' line' went' := by
  obtain ⟨k1, k2⟩ := k
  rw [k1]
  exact SK.ri h k2
