/-! the model's find and seen -/
theorem mtold_L {many : Int} {row told : Int → Int} (hm : 0 ≤ many) (h1 : ∀ i, 0 ≤ i → i < many → zR (row i)) (hm2 : many ≤ 120) : ∀ (n : Nat) (a i : Int), 0 ≤ i → i ≤ many → many - i < n → ((a = 0 ∨ a = 1) ∧ (a = 0 ∨ (many ≤ 24 ∧ ∀ j, 0 ≤ j → j < many → zR (told j)))) → ok (f_X11_isTold_L24 n a i many row told) (fun r => r = 0 ∨ r = 1) := by
  intro n
  induction n with
  | zero => intro a i a1 a2 a3; exact absurd a3 (by omega)
  | succ n ih =>
    intro a i a1 a2 a3 ha
    rw [f_X11_isTold_L24_s]
    refine ok_zg.mpr ⟨⟨⟨by omega, by omega⟩, ⟨by omega, by omega⟩⟩, ok_ite.mpr ⟨fun _ => ok_some.mpr ha.1, fun c => ok_zg.mpr ⟨⟨by omega, by omega⟩, ok_ite.mpr ⟨fun _ => ok_some.mpr ha.1, fun c2 => ?_⟩⟩⟩⟩
    rcases ha.2 with q | ⟨q1, q2⟩
    · exact absurd q c2
    · exact ok_zg.mpr ⟨⟨by omega, by omega⟩, ok_zg.mpr ⟨⟨by omega, by omega⟩, ok_zg.mpr ⟨⟨h1 i a1 (by omega), q2 i a1 (by omega)⟩, ok_ite.mpr ⟨fun _ => ih 0 (i + 1) (by omega) (by omega) (by omega) ⟨Or.inl rfl, Or.inl rfl⟩, fun _ => ih 1 (i + 1) (by omega) (by omega) (by omega) ⟨Or.inr rfl, Or.inr ⟨q1, q2⟩⟩⟩⟩⟩⟩
theorem mtold {size many rounds kind fig sc gm tm : Int} {steps row went gone going told : Int → Int} (h : RI 999 size many rounds row went) (hp : PI kind fig sc steps) (ht : 0 ≤ tm ∧ tm ≤ 24) (h1 : ∀ i, 0 ≤ i → i < tm → 1 ≤ told i ∧ told i ≤ 120) : ok (f_X11_isTold many rounds kind fig sc steps row went gone going gm told tm) (fun r => r.1 = 0 ∨ r.1 = 1) := by
  unfold f_X11_isTold
  refine ok_bind.mpr ((mrun hp (by omega) h).mono (fun r hr => ?_))
  obtain ⟨r1, r2, r3, r4, r5, r6, r7, r8⟩ := r
  have e1 : RI 80000 size r2 r3 r4 r5 := hr.1
  have b := e1.t120
  have J : ∀ s0 : Int, (s0 = 0 ∨ (s0 = 1 ∧ r2 = tm)) → ok (f_X11_isTold_J21 s0 r2 r3 r4 r5 r6 r7 r8 told) (fun r => r.1 = 0 ∨ r.1 = 1) := by
    intro s0 hs
    unfold f_X11_isTold_J21
    refine ok_bind.mpr ((mtold_L b.1 e1.zl b.2 zF s0 0 (by omega) b.1 (by rw [zF_eq]; omega) ⟨by omega, ?_⟩).mono (fun q hq => ok_zg.mpr ⟨hq, ok_some.mpr hq⟩))
    rcases hs with q | ⟨q1, q2⟩
    · exact Or.inl q
    · exact Or.inr ⟨by omega, fun j p q => z_of h1 j p (by omega)⟩
  exact ok_zg.mpr ⟨⟨⟨by omega, by omega⟩, ⟨by omega, by omega⟩⟩, ok_ite.mpr ⟨fun _ => J 0 (Or.inl rfl), fun c => J 1 (Or.inr ⟨rfl, Decidable.of_not_not c⟩)⟩⟩
theorem mfind_L {size sc tm : Int} {steps told : Int → Int} (hs : 1 ≤ size ∧ size ≤ 120) (hsc : 0 ≤ sc ∧ sc ≤ 8) (hst : ∀ i, 0 ≤ i → i < sc → 2 ≤ steps i ∧ steps i ≤ 9) (ht : 0 ≤ tm ∧ tm ≤ 24) (h1 : ∀ i, 0 ≤ i → i < tm → 1 ≤ told i ∧ told i ≤ 120) : ∀ (n : Nat) (v1 v2 many rounds kind fig gm : Int) (row went gone going : Int → Int), zR v1 → 0 ≤ v2 → v2 ≤ 70 → 70 - v2 < n → (2 ≤ fig ∧ fig ≤ 9) → ok (f_X11_find_L14 n v1 v2 size many rounds kind fig sc steps row went gone going gm told tm) (fun _ => True) := by
  intro n
  induction n with
  | zero => intro v1 v2 many rounds kind fig gm row went gone going a0 a1 a2 a3; exact absurd a3 (by omega)
  | succ n ih =>
    intro v1 v2 many rounds kind fig gm row went gone going a0 a1 a2 a3 hf
    have g10 : 0 ≤ v2 ∧ v2 ≤ 2147483647 ∧ (0 : Int) < 10 ∧ (10 : Int) ≤ 2147483647 := by omega
    have z1 : zR (v2 / 10) := ⟨by omega, by omega⟩
    have z2 : zR (v2 % 10) := ⟨by omega, by omega⟩
    rw [f_X11_find_L14_s]
    refine ok_zg.mpr ⟨⟨by omega, by omega⟩, ok_ite.mpr ⟨fun _ => ok_some.mpr trivial, fun c => ok_zg.mpr ⟨a0, ok_ite.mpr ⟨fun _ => ok_some.mpr trivial, fun c2 => ?_⟩⟩⟩⟩
    have N : ∀ s0, ok (f_X11_find_J72 (f_X11_find_L14 n) v1 v2 s0 size many rounds kind fig sc steps row went gone going gm told tm) (fun _ => True) := by
      intro s0
      unfold f_X11_find_J72 f_X11_find_J73
      exact ok_zg.mpr ⟨⟨by omega, by omega⟩, ok_ite.mpr ⟨fun _ => ih v1 (v2 + 1) many rounds kind fig gm row went gone going a0 (by omega) (by omega) (by omega) hf, fun q => absurd rfl q⟩⟩
    have Y : ∀ s0 : Int, (s0 = 0 ∨ (s0 = 1 ∧ 2 ≤ v2 % 10)) → ok (f_X11_find_J68 (f_X11_find_L14 n) v1 v2 s0 size many rounds kind fig sc steps row went gone going gm told tm) (fun _ => True) := by
      intro s0 h0
      have E : ∀ (f2 : Int) (l w : Int → Int), (2 ≤ f2 ∧ f2 ≤ 9) → BG size l w → ok (f_X11_find_J112 (f_X11_find_L14 n) v2 f2 size size 0 (v2 / 10) fig sc steps l w gone going gm told tm) (fun _ => True) := by
        intro f2 l w hf2 hb
        unfold f_X11_find_J112
        refine ok_bind.mpr ((mtold (hb.ri hs (by omega)) ⟨by omega, hf2, hsc, hst⟩ ht h1).mono (fun r hr => ?_))
        obtain ⟨r1, r2, r3, r4, r5, r6, r7, r8⟩ := r
        dsimp only at hr
        exact ok_zg.mpr ⟨⟨by omega, by omega⟩, ok_ite.mpr ⟨fun _ => ih (-9) (v2 + 1) _ _ _ f2 _ _ _ _ _ ⟨by omega, by omega⟩ (by omega) (by omega) (by omega) hf2, fun _ => ih v2 (v2 + 1) _ _ _ f2 _ _ _ _ _ ⟨by omega, by omega⟩ (by omega) (by omega) (by omega) hf2⟩⟩
      unfold f_X11_find_J68 f_X11_find_J73
      refine ok_zg.mpr ⟨⟨by omega, by omega⟩, ok_ite.mpr ⟨fun q => absurd q (by decide), fun _ => ?_⟩⟩
      refine ok_bind.mpr ((mbegin hs).mono (fun r hr => ?_))
      obtain ⟨l, w, rfl, hb⟩ := hr
      refine ok_zg.mpr ⟨g10, ok_zg.mpr ⟨⟨by omega, by omega⟩, ok_ite.mpr ⟨fun _ => E fig l w hf hb, fun q => ok_zg.mpr ⟨g10, E (v2 % 10) l w (by omega) hb⟩⟩⟩⟩
    have J : ∀ s0 : Int, (s0 = 0 ∨ s0 = 1) → ok (f_X11_find_J37 (f_X11_find_L14 n) v1 v2 s0 size many rounds kind fig sc steps row went gone going gm told tm) (fun _ => True) := by
      intro s0 h0
      unfold f_X11_find_J37
      refine ok_zg.mpr ⟨g10, ok_zg.mpr ⟨z1, ok_ite.mpr ⟨fun _ => N s0, fun _ => ok_zg.mpr ⟨⟨by omega, by omega⟩, ok_ite.mpr ⟨fun q => ok_zg.mpr ⟨g10, ok_zg.mpr ⟨z2, ok_ite.mpr ⟨fun _ => N s0, fun _ => Y s0 (Or.inl q)⟩⟩⟩, fun q => ok_zg.mpr ⟨g10, ok_zg.mpr ⟨z2, ok_ite.mpr ⟨fun _ => N s0, fun q2 => Y s0 (Or.inr ⟨by omega, by omega⟩)⟩⟩⟩⟩⟩⟩⟩⟩
    exact ok_zg.mpr ⟨g10, ok_zg.mpr ⟨z1, ok_ite.mpr ⟨fun _ => J 0 (Or.inl rfl), fun _ => J 1 (Or.inr rfl)⟩⟩⟩
abbrev T18 : Type := Int × Int × Int × Int × Int × Int × Int × (Int → Int) × (Int → Int) × (Int → Int) × Int × (Int → Int) × (Int → Int) × Int × (Int → Int) × Int × Int × Int
def A18 (size many rounds kind fig sc : Int) (steps row went : Int → Int) (A : Int → Prop) (r : T18) : Prop := A r.1 ∧ K9 size many rounds kind fig sc steps row went r.2.1 r.2.2.1 r.2.2.2.1 r.2.2.2.2.1 r.2.2.2.2.2.1 r.2.2.2.2.2.2.1 r.2.2.2.2.2.2.2.1 r.2.2.2.2.2.2.2.2.1 r.2.2.2.2.2.2.2.2.2.1
abbrev T19 : Type := Int × Int × Int × Int × Int × Int × Int × (Int → Int) × (Int → Int) × (Int → Int) × Int × (Int → Int) × (Int → Int) × (Int → Int) × Int × (Int → Int) × Int × Int × Int
def A19 (size many rounds kind fig sc : Int) (steps row went : Int → Int) (A : Int → Prop) (r : T19) : Prop := A r.1 ∧ K9 size many rounds kind fig sc steps row went r.2.1 r.2.2.1 r.2.2.2.1 r.2.2.2.2.1 r.2.2.2.2.2.1 r.2.2.2.2.2.2.1 r.2.2.2.2.2.2.2.1 r.2.2.2.2.2.2.2.2.1 r.2.2.2.2.2.2.2.2.2.1
theorem mfind {size many rounds kind fig sc th gm pl tk ki tm : Int} {steps row went gone going kept told : Int → Int} (h : RI 999 size many rounds row went) (hp : PI kind fig sc steps) (ht : 0 ≤ tm ∧ tm ≤ 24) (h1 : ∀ i, 0 ≤ i → i < tm → 1 ≤ told i ∧ told i ≤ 120) : ok (f_X11_find size many rounds kind fig sc steps row went th gone going gm kept pl tk ki told tm) (A18 size many rounds kind fig sc steps row went (fun _ => True)) := by
  unfold f_X11_find
  refine ok_bind.mpr (mopen.mono (fun r hr => ?_))
  obtain ⟨q', rfl, hI⟩ := hr
  refine ok_bind.mpr ((mfind_L h.1 hp.2.2.1 hp.2.2.2 ht h1 zF (-9) 0 many rounds kind fig gm row went gone going ⟨by omega, by omega⟩ (by omega) (by omega) (by rw [zF_eq]; omega) hp.2.1).mono (fun r hr => ?_))
  obtain ⟨r1, r2, r3, r4, r5, r6, r7, r8, r9, r10, r11⟩ := r
  refine ok_bind.mpr ((mclose hI).mono (fun r hr => ?_))
  obtain ⟨st', ro', we', rfl, d1, d2, d3⟩ := hr
  exact ok_some.mpr ⟨trivial, rfl, rfl, rfl, rfl, rfl, rfl, d1, d2, d3⟩
theorem mseen_L65 {size kind fig sc tm v4 : Int} {steps told : Int → Int} (hs : 1 ≤ size ∧ size ≤ 40) (hp : PI kind fig sc steps) (h4 : 1 ≤ v4 ∧ v4 ≤ 40) (ht : 0 ≤ tm ∧ tm ≤ 24) (h1 : ∀ i, 0 ≤ i → i < tm → 1 ≤ told i ∧ told i ≤ 120) : ∀ (n : Nat) (v2 v3 v5 many rounds gm : Int) (row went gone going : Int → Int), v4 < v5 → v5 ≤ 41 → 41 - v5 < n → zR v3 → ok (f_X11_seen_L65 n v2 v3 v4 v5 size many rounds kind fig sc steps row went gone going gm told tm) (fun r => r.2.2.1 = size ∧ zR r.2.1) := by
  intro n
  induction n with
  | zero => intro v2 v3 v5 many rounds gm row went gone going a1 a2 a3; exact absurd a3 (by omega)
  | succ n ih =>
    intro v2 v3 v5 many rounds gm row went gone going a1 a2 a3 a4
    rw [f_X11_seen_L65_s]
    refine ok_zg.mpr ⟨⟨⟨by omega, by omega⟩, ⟨by omega, by omega⟩⟩, ok_ite.mpr ⟨fun _ => ok_some.mpr ⟨rfl, a4⟩, fun c => ?_⟩⟩
    refine ok_bind.mpr ((mbegin ⟨hs.1, by omega⟩).mono (fun r hr => ?_))
    obtain ⟨l, w, rfl, hb⟩ := hr
    refine ok_zg.mpr ⟨⟨by omega, by omega⟩, ok_zg.mpr ⟨⟨by omega, by omega⟩, ?_⟩⟩
    have sw : SWP size v4 v5 l (zup (zup l (v4 - 1) v5) (v5 - 1) v4) := ⟨v4 - 1, v5 - 1, ⟨by omega, by omega⟩, ⟨by omega, by omega⟩, by rw [hb.1 _ (by omega) (by omega)]; omega, by rw [hb.1 _ (by omega) (by omega)]; omega, rfl⟩
    have hri := sw.ri (hb.ri (B := 999) ⟨hs.1, by omega⟩ (by omega)) (by omega)
    refine ok_bind.mpr ((mtold hri hp ht h1).mono (fun r hr => ?_))
    obtain ⟨r1, r2, r3, r4, r5, r6, r7, r8⟩ := r
    dsimp only at hr
    exact ok_zg.mpr ⟨⟨by omega, by omega⟩, ok_ite.mpr ⟨fun _ => ih v2 v3 (v5 + 1) _ _ _ _ _ _ _ (by omega) (by omega) (by omega) a4, fun _ => ok_zg.mpr ⟨a4, ok_ite.mpr ⟨fun _ => ih (v2 + 1) v3 (v5 + 1) _ _ _ _ _ _ _ (by omega) (by omega) (by omega) a4, fun _ => ih (v2 + 1) _ (v5 + 1) _ _ _ _ _ _ _ (by omega) (by omega) (by omega) ⟨by omega, by omega⟩⟩⟩⟩⟩
theorem mseen_L50 {size kind fig sc tm : Int} {steps told : Int → Int} (hs : 1 ≤ size ∧ size ≤ 40) (hp : PI kind fig sc steps) (ht : 0 ≤ tm ∧ tm ≤ 24) (h1 : ∀ i, 0 ≤ i → i < tm → 1 ≤ told i ∧ told i ≤ 120) : ∀ (n : Nat) (v2 v3 v4 many rounds gm : Int) (row went gone going : Int → Int), 1 ≤ v4 → v4 ≤ 41 → 41 - v4 < n → zR v3 → ok (f_X11_seen_L50 n v2 v3 v4 size many rounds kind fig sc steps row went gone going gm told tm) (fun _ => True) := by
  intro n
  induction n with
  | zero => intro v2 v3 v4 many rounds gm row went gone going a1 a2 a3; exact absurd a3 (by omega)
  | succ n ih =>
    intro v2 v3 v4 many rounds gm row went gone going a1 a2 a3 a4
    rw [f_X11_seen_L50_s]
    refine ok_zg.mpr ⟨⟨⟨by omega, by omega⟩, ⟨by omega, by omega⟩⟩, ok_ite.mpr ⟨fun _ => ok_some.mpr trivial, fun c => ?_⟩⟩
    refine ok_bind.mpr ((mseen_L65 hs hp ⟨a1, by omega⟩ ht h1 zF v2 v3 (v4 + 1) many rounds gm row went gone going (by omega) (by omega) (by rw [zF_eq]; omega) a4).mono (fun r hr => ?_))
    obtain ⟨r1, r2, r3, r4, r5, r6, r7, r8, r9, r10⟩ := r
    obtain ⟨e1, e2⟩ := hr
    dsimp only at e1 e2
    subst e1
    exact ih r1 r2 (v4 + 1) _ _ _ _ _ _ _ (by omega) (by omega) (by omega) e2
theorem mseen {v size many rounds kind fig sc th gm pl tk ki tm : Int} {steps row went gone going kept told R : Int → Int} (hv : zR v) (h : RI 999 size many rounds row went) (hp : PI kind fig sc steps) (ht : 0 ≤ tm ∧ tm ≤ 24) (h1 : ∀ i, 0 ≤ i → i < tm → 1 ≤ told i ∧ told i ≤ 120) : ok (f_X11_seen v size many rounds kind fig sc steps row went th R gone going gm kept pl tk ki told tm) (A19 size many rounds kind fig sc steps row went (fun _ => True)) := by
  have hs := h.1
  have RF : ∀ k : Int, -7 < k ∧ k ≤ 0 → ok ((f_X11_refuse k R).bind (fun (r_66, t_refusals_67) => some (r_66, size, many, rounds, kind, fig, sc, steps, row, went, (0 : Int), t_refusals_67, gone, going, gm, kept, pl, tk, ki))) (A19 size many rounds kind fig sc steps row went (fun _ => True)) := fun k hk => ok_bind.mpr ((mref hk R).mono (fun r _ => by obtain ⟨r1, r2⟩ := r; exact ok_some.mpr ⟨trivial, K9.refl⟩))
  unfold f_X11_seen
  refine ok_zg.mpr ⟨hv, ?_⟩
  rw [min_ hv ⟨by omega, by omega⟩ ⟨by omega, by omega⟩]
  refine ok_bind.mpr (ok_some.mpr ?_)
  rw [zg10n]
  refine ok_ite.mpr ⟨fun c => ok_zg.mpr ⟨⟨by omega, by omega⟩, ok_ite.mpr ⟨fun c2 => ?_, fun _ => RF (-6) (by omega)⟩⟩, fun _ => RF (-2) (by omega)⟩
  refine ok_bind.mpr (mopen.mono (fun r hr => ?_))
  obtain ⟨q', rfl, hI⟩ := hr
  refine ok_bind.mpr ((mseen_L50 ⟨hs.1, c2⟩ hp ht h1 zF 0 (-9) 1 many rounds gm row went gone going (by omega) (by omega) (by rw [zF_eq]; omega) ⟨by omega, by omega⟩).mono (fun r hr => ?_))
  obtain ⟨r1, r2, r3, r4, r5, r6, r7, r8, r9, r10⟩ := r
  refine ok_bind.mpr ((mclose hI).mono (fun r hr => ?_))
  obtain ⟨st', ro', we', rfl, d1, d2, d3⟩ := hr
  exact ok_zg.mpr ⟨hv, ok_ite.mpr ⟨fun _ => ok_some.mpr ⟨trivial, rfl, rfl, rfl, rfl, rfl, rfl, d1, d2, d3⟩, fun _ => ok_some.mpr ⟨trivial, rfl, rfl, rfl, rfl, rfl, rfl, d1, d2, d3⟩⟩⟩
