/-! find: both sides answer alike -/
/-- by the kind and the figure, from the beginning, just the told ones stay -/
def TT (size k f sc : Int) (steps told : Int → Int) (tc : Int) : Prop := ∀ Y, f_X11_runOut size 0 k f sc steps (fun i => i + 1) (fun _ => 0) (fun _ => 0) (fun _ => 0) 0 = some Y → Y.2.1 = tc ∧ ∀ j, 0 ≤ j → j < tc → Y.2.2.2.1 j = told j
theorem BG.can {size : Int} : BG size (fun i => i + 1) (fun _ => 0) := ⟨fun _ _ _ => rfl, fun _ _ _ => rfl⟩
theorem TT_x {size k f sc tc : Int} {steps told l gone w : Int → Int} {X : Int × Int × Int × (Int → Int) × (Int → Int) × (Int → Int)} (hs : 1 ≤ size ∧ size ≤ 120) (hp : PI k f sc steps) (hb : BG size l w) (h : f_X8_goToEnd k size size 0 f sc steps l gone w = some X) : (X.2.1 = tc ∧ ∀ j, 0 ≤ j → j < tc → X.2.2.2.1 j = told j) ↔ TT size k f sc steps told tc := by
  have hri := hb.ri (B := 999) hs (by omega)
  have hci := (BG.can (size := size)).ri (B := 999) hs (by omega)
  have rel : ∀ Y, f_X11_runOut size 0 k f sc steps (fun i => i + 1) (fun _ => 0) (fun _ => 0) (fun _ => 0) 0 = some Y → Y.2.1 = X.2.1 ∧ ∀ i, 0 ≤ i → i < X.2.1 → Y.2.2.2.1 i = X.2.2.2.1 i := fun Y hY => rel_run (sg := fun x => x) (by omega) hp hp eqr.rfl (fun _ _ => rfl) (fun _ => rfl) hri hci (fun i p q => (hb.1 i p q).symm) h hY
  constructor
  · intro a Y hY
    obtain ⟨e1, e2⟩ := rel Y hY
    exact ⟨by rw [e1]; exact a.1, fun j p q => by rw [e2 j p (by omega)]; exact a.2 j p q⟩
  · intro a
    obtain ⟨Y, hY, -⟩ := mrun (gone := fun _ => 0) (going := fun _ => 0) (gm := 0) hp (by omega) hci
    obtain ⟨e1, e2⟩ := rel Y hY
    obtain ⟨a1, a2⟩ := a Y hY
    exact ⟨by omega, fun j p q => by rw [← e2 j p (by omega)]; exact a2 j p q⟩
theorem TT_m {size k f f' sc tc tm gm : Int} {steps st told toldm ro we g' going : Int → Int} {Y : Int × Int × Int × (Int → Int) × (Int → Int) × (Int → Int) × (Int → Int) × Int} (hs : 1 ≤ size ∧ size ≤ 120) (hp : PI k f sc steps) (hp' : PI k f' sc st) (hst : eqr 0 sc steps st) (hf : k = 2 ∨ k = 4 → f = f') (ht : tm = tc) (he : eqr 0 tc told toldm) (hb : BG size ro we) (h : f_X11_runOut size 0 k f' sc st ro we g' going gm = some Y) : (Y.2.1 = tm ∧ ∀ j, 0 ≤ j → j < tm → Y.2.2.2.1 j = toldm j) ↔ TT size k f sc steps told tc := by
  have hri := hb.ri (B := 999) hs (by omega)
  have hci := (BG.can (size := size)).ri (B := 999) hs (by omega)
  obtain ⟨X, hX, -⟩ := xend (gone := fun _ => 0) hp (by omega) hci
  rw [← TT_x (told := told) (tc := tc) hs hp BG.can hX]
  obtain ⟨e1, e2⟩ := rel_run (sg := fun x => x) (by omega) hp hp' hst (fun _ _ => rfl) hf hci hri (fun i p q => hb.1 i p q) hX h
  subst ht
  constructor
  · intro a
    exact ⟨by omega, fun j p q => by rw [← e2 j p (by omega), he j p q]; exact a.2 j p q⟩
  · intro a
    exact ⟨by omega, fun j p q => by rw [e2 j p (by omega), ← he j p q]; exact a.2 j p q⟩
theorem xfbk_v {k v2 tc size sc : Int} {told steps : Int → Int} (hk : 0 ≤ k ∧ k ≤ 6) (h2 : 2 ≤ v2 ∧ v2 ≤ 9) (hsc : 0 ≤ sc ∧ sc ≤ 8) (hst : ∀ i, 0 ≤ i → i < sc → 2 ≤ steps i ∧ steps i ≤ 9) (hs : 1 ≤ size ∧ size ≤ 120) : ∀ (n : Nat) (v3 a b c fig : Int) (line gone went : Int → Int) (r : Int × Int × Int × Int × Int × (Int → Int) × (Int → Int) × (Int → Int)), f_X10_findByKind_L14 n k v2 v3 told tc size a b c fig sc steps line gone went = some r → 2 ≤ v3 → (r.1 = -9 ∧ ∀ f, v3 ≤ f → f ≤ v2 → ¬ TT size k f sc steps told tc) ∨ (∃ f, v3 ≤ f ∧ f ≤ v2 ∧ TT size k f sc steps told tc ∧ (∀ g, v3 ≤ g → g < f → ¬ TT size k g sc steps told tc) ∧ r.1 = 10 * k + (if k = 2 then f else 0)) := by
  intro n
  induction n with
  | zero => intro v3 a b c fig line gone went r h; exact absurd h (by rw [f_X10_findByKind_L14_z]; intro q; cases q)
  | succ n ih =>
    intro v3 a b c fig line gone went r h h3
    rw [f_X10_findByKind_L14_s] at h
    obtain ⟨-, h⟩ := zg_some h
    by_cases c1 : v2 < v3
    · rw [if_pos c1] at h
      cases h
      exact Or.inl ⟨rfl, fun f p q => absurd q (by omega)⟩
    · rw [if_neg c1] at h
      obtain ⟨⟨x1, x2, x3, x4, x5, x6⟩, e1, h⟩ := zb h
      dsimp only at h
      obtain ⟨r8, e2, h⟩ := zb h
      obtain ⟨-, h⟩ := zg_some h
      have hp : PI k v3 sc steps := ⟨hk, ⟨h3, by omega⟩, hsc, hst⟩
      obtain ⟨l, l2, w0, X, hb, hsw, hX, g1, g2, g3⟩ := gfb_v hk hs ⟨by omega, by omega⟩ ⟨by omega, by omega⟩ e1
      dsimp only at g1 g2 g3
      have el : l2 = l := by
        rcases hsw with ⟨-, e⟩ | ⟨y, -⟩
        · exact e
        · exact absurd y.1.1 (by omega)
      rw [el] at hX
      have T := TT_x (told := told) (tc := tc) hs hp hb hX
      obtain ⟨s1, s2⟩ := xsat_v e2
      rw [g2, g3] at s2
      have S : r8 = 1 ↔ TT size k v3 sc steps told tc := s2.trans (Iff.trans ⟨fun z => ⟨z.1, fun j p q => by rw [← z.2 j p q, SWx_0]⟩, fun z => ⟨z.1, fun j p q => by rw [SWx_0]; exact z.2 j p q⟩⟩ T)
      by_cases c2 : r8 = 0
      · rw [if_pos c2] at h
        have nT : ¬ TT size k v3 sc steps told tc := fun z => by have := S.mpr z; omega
        rcases ih (v3 + 1) _ _ _ _ _ _ _ r h (by omega) with ⟨i1, i2⟩ | ⟨f, i1, i2, i3, i4, i5⟩
        · refine Or.inl ⟨i1, fun f p q => ?_⟩
          by_cases e : f = v3
          · rw [e]; exact nT
          · exact i2 f (by omega) q
        · refine Or.inr ⟨f, by omega, i2, i3, fun g p q => ?_, i5⟩
          by_cases e : g = v3
          · rw [e]; exact nT
          · exact i4 g (by omega) q
      · rw [if_neg c2] at h
        obtain ⟨-, h⟩ := zg_some h
        refine Or.inr ⟨v3, Int.le_refl _, by omega, S.mp (by omega), fun g p q => absurd q (by omega), ?_⟩
        by_cases c3 : k = 2
        · rw [if_neg (show ¬ ¬ k = 2 from fun q => q c3)] at h
          cases h
          rw [if_pos c3]
        · rw [if_pos c3] at h
          cases h
          rw [if_neg c3]
/-- the numbers that find may answer, and the first of them that fits -/
def CCf (size sc : Int) (steps told : Int → Int) (tc c : Int) : Prop := ¬ c / 10 = 4 ∧ (if c / 10 = 2 then 2 ≤ c % 10 else c % 10 = 0) ∧ TT size (c / 10) (if c / 10 = 2 then c % 10 else 2) sc steps told tc
def FI (size sc : Int) (steps told : Int → Int) (tc v r : Int) : Prop := (r = -9 ∧ ∀ c, v ≤ c → c < 70 → ¬ CCf size sc steps told tc c) ∨ ((v ≤ r ∧ r < 70) ∧ CCf size sc steps told tc r ∧ ∀ c, v ≤ c → c < r → ¬ CCf size sc steps told tc c)
theorem FI.uni {size sc tc r r' : Int} {steps told : Int → Int} (h : FI size sc steps told tc 0 r) (h' : FI size sc steps told tc 0 r') : r = r' := by
  rcases h with ⟨a1, a2⟩ | ⟨a1, a2, a3⟩
  · rcases h' with ⟨b1, b2⟩ | ⟨b1, b2, b3⟩
    · rw [a1, b1]
    · exact absurd b2 (a2 r' b1.1 b1.2)
  · rcases h' with ⟨b1, b2⟩ | ⟨b1, b2, b3⟩
    · exact absurd a2 (b2 r a1.1 a1.2)
    · by_cases c : r < r'
      · exact absurd a2 (b3 r a1.1 c)
      · by_cases c' : r' < r
        · exact absurd b2 (a3 r' b1.1 c')
        · omega
theorem FI.ext {size sc tc v w r : Int} {steps told : Int → Int} (h : FI size sc steps told tc w r) (hv : v ≤ w) (n : ∀ c, v ≤ c → c < w → ¬ CCf size sc steps told tc c) : FI size sc steps told tc v r := by
  rcases h with ⟨a1, a2⟩ | ⟨a1, a2, a3⟩
  · refine Or.inl ⟨a1, fun c p q => ?_⟩
    by_cases e : c < w
    · exact n c p e
    · exact a2 c (by omega) q
  · refine Or.inr ⟨⟨by omega, a1.2⟩, a2, fun c p q => ?_⟩
    by_cases e : c < w
    · exact n c p e
    · exact a3 c (by omega) q
theorem xfind_v {tc size sc kk : Int} {told steps : Int → Int} (hsc : 0 ≤ sc ∧ sc ≤ 8) (hst : ∀ i, 0 ≤ i → i < sc → 2 ≤ steps i ∧ steps i ≤ 9) (hs : 1 ≤ size ∧ size ≤ 120) : ∀ (n : Nat) (v1 a b c fig : Int) (line gone went : Int → Int) (r : Int × Int × Int × Int × Int × Int × Int × (Int → Int) × (Int → Int) × (Int → Int) × (Int → Int)), f_X10_find_L13 n v1 told tc size a b c kk fig sc steps line gone went = some r → 0 ≤ v1 → v1 ≤ 7 → FI size sc steps told tc (10 * v1) r.1 := by
  intro n
  induction n with
  | zero => intro v1 a b c fig line gone went r h; exact absurd h (by rw [f_X10_find_L13_z]; intro q; cases q)
  | succ n ih =>
    intro v1 a b c fig line gone went r h a1 a2
    rw [f_X10_find_L13_s] at h
    obtain ⟨-, h⟩ := zg_some h
    by_cases c1 : 7 ≤ v1
    · rw [if_pos c1] at h
      cases h
      exact Or.inl ⟨rfl, fun c p q => absurd q (by omega)⟩
    · rw [if_neg c1] at h
      obtain ⟨-, h⟩ := zg_some h
      by_cases c2 : v1 = 4
      · rw [if_neg (show ¬ ¬ v1 = 4 from fun q => q c2)] at h
        unfold f_X10_find_J34 at h
        obtain ⟨-, h⟩ := zg_some h
        rw [if_pos (show (-9 : Int) = -9 from rfl)] at h
        exact FI.ext (ih (v1 + 1) _ _ _ _ _ _ _ r h (by omega) (by omega)) (by omega) (fun c p q z => z.1 (by omega))
      · rw [if_pos c2] at h
        obtain ⟨⟨x1, x2, x3, x4, x5, x6, x7, x8⟩, e1, h⟩ := zb h
        dsimp only at h
        unfold f_X10_find_J34 at h
        obtain ⟨-, h⟩ := zg_some h
        have K : ∃ v2, (v2 = if v1 = 2 then 9 else 2) ∧ f_X10_findByKind_L14 zF v1 v2 2 told tc size a b c fig sc steps line gone went = some (x1, x2, x3, x4, x5, x6, x7, x8) := by
          unfold f_X10_findByKind f_X10_findByKind_J11 at e1
          obtain ⟨-, e1⟩ := zg_some e1
          by_cases c3 : v1 = 2
          · rw [if_neg (show ¬ ¬ v1 = 2 from fun q => q c3)] at e1
            exact ⟨9, by rw [if_pos c3], e1⟩
          · rw [if_pos c3] at e1
            exact ⟨2, by rw [if_neg c3], e1⟩
        obtain ⟨v2, ev, e2⟩ := K
        have hv2 : 2 ≤ v2 ∧ v2 ≤ 9 := by rw [ev]; split <;> omega
        rcases xfbk_v ⟨a1, by omega⟩ hv2 hsc hst hs zF 2 a b c fig line gone went _ e2 (by omega) with ⟨i1, i2⟩ | ⟨f, i1, i2, i3, i4, i5⟩
        · dsimp only at i1
          rw [if_pos i1] at h
          refine FI.ext (ih (v1 + 1) _ _ _ _ _ _ _ r h (by omega) (by omega)) (by omega) (fun c p q z => ?_)
          obtain ⟨z1, z2, z3⟩ := z
          have ec : c / 10 = v1 := by omega
          rw [ec] at z2 z3
          by_cases c3 : v1 = 2
          · rw [if_pos c3] at z2 z3 ev
            exact i2 _ z2 (by omega) z3
          · rw [if_neg c3] at z3
            exact i2 _ (Int.le_refl _) hv2.1 z3
        · dsimp only at i5
          have hf0 : 0 ≤ (if v1 = 2 then f else 0) ∧ (if v1 = 2 then f else 0) ≤ 9 := by split <;> omega
          rw [if_neg (show ¬ x1 = -9 by omega)] at h
          cases h
          dsimp only
          have ec : x1 / 10 = v1 := by omega
          have em : x1 % 10 = (if v1 = 2 then f else 0) := by omega
          refine Or.inr ⟨⟨by omega, by omega⟩, ⟨by omega, ?_, ?_⟩, fun c p q z => ?_⟩
          · rw [ec, em]
            by_cases c3 : v1 = 2
            · rw [if_pos c3, if_pos c3]; exact i1
            · rw [if_neg c3, if_neg c3]
          · rw [ec, em]
            by_cases c3 : v1 = 2
            · rw [if_pos c3, if_pos c3]; exact i3
            · rw [if_neg c3]
              rw [if_neg c3] at ev
              have ef : f = 2 := by omega
              rw [← ef]
              exact i3
          · obtain ⟨z1, z2, z3⟩ := z
            have ec2 : c / 10 = v1 := by omega
            rw [ec2] at z2 z3
            by_cases c3 : v1 = 2
            · rw [if_pos c3] at z2 z3 i5
              exact i4 _ z2 (by omega) z3
            · rw [if_neg c3] at i5
              omega
theorem mfind_v {size sc tm tc : Int} {steps st told toldm : Int → Int} (hs : 1 ≤ size ∧ size ≤ 120) (hsc : 0 ≤ sc ∧ sc ≤ 8) (hst : ∀ i, 0 ≤ i → i < sc → 2 ≤ steps i ∧ steps i ≤ 9) (hse : eqr 0 sc steps st) (ht : tm = tc) (he : eqr 0 tc told toldm) : ∀ (n : Nat) (v1 v2 many rounds kind fig gm : Int) (row went gone going : Int → Int) (r : Int × Int × Int × Int × Int × Int × (Int → Int) × (Int → Int) × (Int → Int) × (Int → Int) × Int), f_X11_find_L14 n v1 v2 size many rounds kind fig sc st row went gone going gm toldm tm = some r → 0 ≤ v2 → (2 ≤ fig ∧ fig ≤ 9) → (v1 = -9 → v2 ≤ 70 → FI size sc steps told tc v2 r.1) ∧ (0 ≤ v1 → r.1 = v1) := by
  have hst' : ∀ i, 0 ≤ i → i < sc → 2 ≤ st i ∧ st i ≤ 9 := fun i p q => by rw [← hse i p q]; exact hst i p q
  intro n
  induction n with
  | zero => intro v1 v2 many rounds kind fig gm row went gone going r h; exact absurd h (by rw [f_X11_find_L14_z]; intro q; cases q)
  | succ n ih =>
    intro v1 v2 many rounds kind fig gm row went gone going r h a1 hf
    rw [f_X11_find_L14_s] at h
    obtain ⟨-, h⟩ := zg_some h
    by_cases c1 : 70 ≤ v2
    · rw [if_pos c1] at h
      cases h
      exact ⟨fun e _ => Or.inl ⟨e, fun c p q => absurd q (by omega)⟩, fun _ => rfl⟩
    · rw [if_neg c1] at h
      obtain ⟨-, h⟩ := zg_some h
      by_cases c2 : 0 ≤ v1
      · rw [if_pos c2] at h
        cases h
        exact ⟨fun e => absurd c2 (by omega), fun _ => rfl⟩
      · rw [if_neg c2] at h
        refine ⟨fun e9 _ => ?_, fun q => absurd q c2⟩
        obtain ⟨-, h⟩ := zg_some h
        obtain ⟨-, h⟩ := zg_some h
        have N : ∀ s0, f_X11_find_J72 (f_X11_find_L14 n) v1 v2 s0 size many rounds kind fig sc st row went gone going gm toldm tm = some r → ¬ CCf size sc steps told tc v2 → FI size sc steps told tc v2 r.1 := by
          intro s0 h nc
          unfold f_X11_find_J72 f_X11_find_J73 at h
          obtain ⟨-, h⟩ := zg_some h
          rw [if_pos (show (0 : Int) = 0 from rfl)] at h
          exact FI.ext ((ih v1 (v2 + 1) _ _ _ _ _ _ _ _ _ r h (by omega) hf).1 e9 (by omega)) (by omega) (fun c p q => by rw [show c = v2 by omega]; exact nc)
        have Y : ∀ s0 : Int, ((s0 = 0 ∧ ¬ v2 / 10 = 2 ∧ v2 % 10 = 0) ∨ (s0 = 1 ∧ v2 / 10 = 2 ∧ 2 ≤ v2 % 10)) → ¬ v2 / 10 = 4 → f_X11_find_J68 (f_X11_find_L14 n) v1 v2 s0 size many rounds kind fig sc st row went gone going gm toldm tm = some r → FI size sc steps told tc v2 r.1 := by
          intro s0 h0 n4 h
          have E : ∀ (f2 : Int) (l w : Int → Int), (2 ≤ f2 ∧ f2 ≤ 9) → (v2 / 10 = 2 → f2 = v2 % 10) → BG size l w → f_X11_find_J112 (f_X11_find_L14 n) v2 f2 size size 0 (v2 / 10) fig sc st l w gone going gm toldm tm = some r → FI size sc steps told tc v2 r.1 := by
            intro f2 l w hf2 ef hb h
            unfold f_X11_find_J112 at h
            obtain ⟨⟨y1, y2, y3, y4, y5, y6, y7, y8⟩, e1, h⟩ := zb h
            dsimp only at h
            obtain ⟨-, h⟩ := zg_some h
            obtain ⟨Z, hZ, s1, s2⟩ := mtold_v e1
            dsimp only at s1 s2
            have g2 : 2 ≤ (if v2 / 10 = 2 then v2 % 10 else 2) ∧ (if v2 / 10 = 2 then v2 % 10 else 2) ≤ 9 := by split <;> omega
            have T := TT_m (told := told) (tc := tc) (f := if v2 / 10 = 2 then v2 % 10 else 2) hs ⟨⟨by omega, by omega⟩, g2, hsc, hst⟩ ⟨⟨by omega, by omega⟩, hf2, hsc, hst'⟩ hse (fun q => by
              have q2 : v2 / 10 = 2 := by omega
              rw [if_pos q2, ef q2]) ht he hb hZ
            have S : y1 = 1 ↔ CCf size sc steps told tc v2 := (s2.trans T).trans ⟨fun z => ⟨n4, by
              rcases h0 with ⟨-, k2, k3⟩ | ⟨-, k2, k3⟩
              · rw [if_neg k2]; exact k3
              · rw [if_pos k2]; exact k3, z⟩, fun z => z.2.2⟩
            by_cases c3 : y1 = 0
            · rw [if_pos c3] at h
              exact FI.ext ((ih (-9) (v2 + 1) _ _ _ _ _ _ _ _ _ r h (by omega) hf2).1 rfl (by omega)) (by omega) (fun c p q z => by
                rw [show c = v2 by omega] at z
                have := S.mpr z
                omega)
            · rw [if_neg c3] at h
              have e := (ih v2 (v2 + 1) _ _ _ _ _ _ _ _ _ r h (by omega) hf2).2 a1
              rw [e]
              exact Or.inr ⟨⟨Int.le_refl _, by omega⟩, S.mp (by omega), fun c p q => absurd q (by omega)⟩
          unfold f_X11_find_J68 f_X11_find_J73 at h
          obtain ⟨-, h⟩ := zg_some h
          rw [if_neg (show ¬ (1 : Int) = 0 by decide)] at h
          obtain ⟨q, e1, h⟩ := zb h
          obtain ⟨l, w, e, hb⟩ := (mbegin hs).get e1
          subst e
          dsimp only at h
          obtain ⟨-, h⟩ := zg_some h
          obtain ⟨-, h⟩ := zg_some h
          by_cases c3 : s0 = 0
          · rw [if_pos c3] at h
            exact E fig l w hf (fun q => by omega) hb h
          · rw [if_neg c3] at h
            obtain ⟨-, h⟩ := zg_some h
            exact E (v2 % 10) l w (by omega) (fun _ => rfl) hb h
        have J : ∀ s0 : Int, ((s0 = 0 ∧ ¬ v2 / 10 = 2) ∨ (s0 = 1 ∧ v2 / 10 = 2)) → f_X11_find_J37 (f_X11_find_L14 n) v1 v2 s0 size many rounds kind fig sc st row went gone going gm toldm tm = some r → FI size sc steps told tc v2 r.1 := by
          intro s0 h0 h
          unfold f_X11_find_J37 at h
          obtain ⟨-, h⟩ := zg_some h
          obtain ⟨-, h⟩ := zg_some h
          by_cases c4 : v2 / 10 = 4
          · rw [if_pos c4] at h
            exact N s0 h (fun z => z.1 c4)
          · rw [if_neg c4] at h
            obtain ⟨-, h⟩ := zg_some h
            by_cases c5 : s0 = 0
            · rw [if_pos c5] at h
              obtain ⟨-, h⟩ := zg_some h
              obtain ⟨-, h⟩ := zg_some h
              have k2 : ¬ v2 / 10 = 2 := by omega
              by_cases c6 : v2 % 10 = 0
              · rw [if_neg (show ¬ ¬ v2 % 10 = 0 from fun q => q c6)] at h
                exact Y s0 (Or.inl ⟨c5, k2, c6⟩) c4 h
              · rw [if_pos c6] at h
                exact N s0 h (fun z => by
                  have z2 := z.2.1
                  rw [if_neg k2] at z2
                  exact c6 z2)
            · rw [if_neg c5] at h
              obtain ⟨-, h⟩ := zg_some h
              obtain ⟨-, h⟩ := zg_some h
              have k2 : v2 / 10 = 2 := by omega
              by_cases c6 : v2 % 10 ≤ 1
              · rw [if_pos c6] at h
                exact N s0 h (fun z => by
                  have z2 := z.2.1
                  rw [if_pos k2] at z2
                  omega)
              · rw [if_neg c6] at h
                exact Y s0 (Or.inr ⟨by omega, k2, by omega⟩) c4 h
        by_cases c3 : v2 / 10 = 2
        · rw [if_neg (show ¬ ¬ v2 / 10 = 2 from fun q => q c3)] at h
          exact J 1 (Or.inr ⟨rfl, c3⟩) h
        · rw [if_pos c3] at h
          exact J 0 (Or.inl ⟨rfl, c3⟩) h
theorem find_v {tc size there rb kind fig sc ms mt mr mk mf mc th gm pl tk ki tm : Int} {told steps line gone went m1 m2 m3 m4 st ro we g' going kept toldm : Int → Int} {r : Int × Int × Int × Int × Int × Int × Int × (Int → Int) × (Int → Int) × (Int → Int) × (Int → Int)} {q : T18} (h : SR size there rb kind fig sc steps line went st ro we) (hT : TL tc told tm toldm) (X : f_X10_find told tc size there rb kind fig sc steps line gone went ms mt mr mk mf mc m1 m2 m3 m4 = some r) (Y : f_X11_find size there rb kind fig sc st ro we th g' going gm kept pl tk ki toldm tm = some q) : r.1 = q.1 := by
  obtain ⟨t1, t2, t3, t4⟩ := hT
  have hp := h.2.1
  have hp2 : PI kind fig sc (zcp steps m1 8) := hp.congr (eqr_zcp (by omega) (by have := hp.2.2.1; omega)).symm
  have hse : eqr 0 sc (zcp steps m1 8) st := (eqr_zcp (by omega) (by have := hp.2.2.1; omega)).trans h.2.2.1
  unfold f_X10_find f_X8_copyFrom at X
  rw [Option.bind_some] at X
  dsimp only at X
  have F1 := xfind_v hp2.2.2.1 hp2.2.2.2 h.1.1 zF 0 _ _ _ _ _ _ _ r X (by omega) (by omega)
  unfold f_X11_find at Y
  obtain ⟨o, e1, Y⟩ := zb Y
  obtain ⟨q', e, -⟩ := mopen.get e1
  subst e
  dsimp only at Y
  obtain ⟨⟨y1, y2, y3, y4, y5, y6, y7, y8, y9, y10, y11⟩, e2, Y⟩ := zb Y
  dsimp only at Y
  have F2 := (mfind_v h.1.1 hp2.2.2.1 hp2.2.2.2 hse t1 t4 zF (-9) 0 _ _ _ _ _ _ _ _ _ _ e2 (by omega) hp.2.1).1 rfl (by omega)
  obtain ⟨⟨d1, d2, d3, d4, d5, d6, d7, d8, d9, d10, d11, d12, d13⟩, -, Y⟩ := zb Y
  cases Y
  exact FI.uni F1 F2
