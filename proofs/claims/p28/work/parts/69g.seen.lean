/-! seen: both sides answer alike -/
/-- the row at the beginning, a and b having changed places -/
def SWR (a b : Int) : Int → Int := zup (zup (fun i => i + 1) (a - 1) b) (b - 1) a
theorem SWR_p {size a b : Int} (h : 1 ≤ a ∧ a < b ∧ b ≤ size) : SWP size a b (fun i => i + 1) (SWR a b) := ⟨a - 1, b - 1, ⟨by omega, by omega⟩, ⟨by omega, by omega⟩, show a - 1 + 1 = a by omega, show b - 1 + 1 = b by omega, rfl⟩
/-- with a and b having changed places at the beginning just the told ones stay -/
def TS (size k f sc : Int) (steps told : Int → Int) (tc a b : Int) : Prop := ∀ Y, f_X11_runOut size 0 k f sc steps (SWR a b) (fun _ => 0) (fun _ => 0) (fun _ => 0) 0 = some Y → Y.2.1 = tc ∧ ∀ j, 0 ≤ j → j < tc → Y.2.2.2.1 j = told j
theorem TS_x {size k f sc tc a b : Int} {steps told sg line gone w : Int → Int} {X : Int × Int × Int × (Int → Int) × (Int → Int) × (Int → Int)} (hs : 1 ≤ size ∧ size ≤ 120) (hab : 1 ≤ a ∧ a < b ∧ b ≤ size) (hp : PI k f sc steps) (hk : k = 1 → ∀ x, sg x = x) (hr : RI 999 size size 0 line w) (hl : ∀ i, 0 ≤ i → i < size → SWx a b (i + 1) = sg (line i)) (h : f_X8_goToEnd k size size 0 f sc steps line gone w = some X) : (X.2.1 = tc ∧ ∀ j, 0 ≤ j → j < tc → sg (X.2.2.2.1 j) = told j) ↔ TS size k f sc steps told tc a b := by
  have hb0 := (BG.can (size := size)).ri (B := 999) hs (by omega)
  have hci := (SWR_p hab).ri hb0 (show a ≠ b by omega)
  have hsw := SWP.sw hb0 (show a ≠ b by omega) (SWR_p hab)
  have rel : ∀ Y, f_X11_runOut size 0 k f sc steps (SWR a b) (fun _ => 0) (fun _ => 0) (fun _ => 0) 0 = some Y → Y.2.1 = X.2.1 ∧ ∀ i, 0 ≤ i → i < X.2.1 → Y.2.2.2.1 i = sg (X.2.2.2.1 i) := fun Y hY => rel_run (sg := sg) (by omega) hp hp eqr.rfl hk (fun _ => rfl) hr hci (fun i p q => (hsw i p q).trans (hl i p q)) h hY
  constructor
  · intro z Y hY
    obtain ⟨e1, e2⟩ := rel Y hY
    exact ⟨by rw [e1]; exact z.1, fun j p q => by rw [e2 j p (by omega)]; exact z.2 j p q⟩
  · intro z
    obtain ⟨Y, hY, -⟩ := mrun (gone := fun _ => 0) (going := fun _ => 0) (gm := 0) hp (by omega) hci
    obtain ⟨e1, e2⟩ := rel Y hY
    obtain ⟨a1, a2⟩ := z Y hY
    exact ⟨by omega, fun j p q => by rw [← e2 j p (by omega)]; exact a2 j p q⟩
theorem TS_m {size k f sc tc tm gm a b : Int} {steps st told toldm ro we g' going : Int → Int} {Y : Int × Int × Int × (Int → Int) × (Int → Int) × (Int → Int) × (Int → Int) × Int} (hs : 1 ≤ size ∧ size ≤ 120) (hab : 1 ≤ a ∧ a < b ∧ b ≤ size) (hp : PI k f sc steps) (hp' : PI k f sc st) (hst : eqr 0 sc steps st) (ht : tm = tc) (he : eqr 0 tc told toldm) (hr : RI 999 size size 0 ro we) (hl : ∀ i, 0 ≤ i → i < size → ro i = SWx a b (i + 1)) (h : f_X11_runOut size 0 k f sc st ro we g' going gm = some Y) : (Y.2.1 = tm ∧ ∀ j, 0 ≤ j → j < tm → Y.2.2.2.1 j = toldm j) ↔ TS size k f sc steps told tc a b := by
  have hb0 := (BG.can (size := size)).ri (B := 999) hs (by omega)
  have hci := (SWR_p hab).ri hb0 (show a ≠ b by omega)
  have hsw := SWP.sw hb0 (show a ≠ b by omega) (SWR_p hab)
  obtain ⟨X, hX, -⟩ := xend (gone := fun _ => 0) hp (by omega) hci
  have T : (X.2.1 = tc ∧ ∀ j, 0 ≤ j → j < tc → X.2.2.2.1 j = told j) ↔ TS size k f sc steps told tc a b := TS_x (sg := fun x => x) hs hab hp (fun _ _ => rfl) hci (fun i p q => (hsw i p q).symm) hX
  have rel : Y.2.1 = X.2.1 ∧ ∀ i, 0 ≤ i → i < X.2.1 → Y.2.2.2.1 i = X.2.2.2.1 i := rel_run (sg := fun x => x) (by omega) hp hp' hst (fun _ _ => rfl) (fun _ => rfl) hci hr (fun i p q => (hl i p q).trans (hsw i p q).symm) hX h
  obtain ⟨e1, e2⟩ := rel
  rw [← T]
  subst ht
  constructor
  · intro z
    exact ⟨by omega, fun j p q => by rw [← e2 j p (by omega), he j p q]; exact z.2 j p q⟩
  · intro z
    exact ⟨by omega, fun j p q => by rw [e2 j p (by omega), ← he j p q]; exact z.2 j p q⟩
/-- but by luck the program keeps the row of the end, from the beginning as it is -/
def CI (size kind fig sc : Int) (steps : Int → Int) (mt : Int) (line : Int → Int) : Prop := kind = 1 ∨ ∃ (l w gone : Int → Int) (X : Int × Int × Int × (Int → Int) × (Int → Int) × (Int → Int)), BG size l w ∧ f_X8_goToEnd kind size size 0 fig sc steps l gone w = some X ∧ mt = X.2.1 ∧ line = X.2.2.2.1
theorem sbs_v {a b tc size kind ms mt mr fig sc : Int} {told steps line gone went : Int → Int} {r : Int × Int × Int × Int × (Int → Int) × (Int → Int) × (Int → Int)} (hs : 1 ≤ size ∧ size ≤ 40) (hab : 1 ≤ a ∧ a < b ∧ b ≤ size) (hp : PI kind fig sc steps) (hc : CI size kind fig sc steps mt line) (h : f_X10_stayBySwapped a b told tc size kind ms mt mr fig sc steps line gone went = some r) : ((r.1 = 0 ∨ r.1 = 1) ∧ (r.1 = 1 ↔ TS size kind fig sc steps told tc a b)) ∧ CI size kind fig sc steps r.2.2.1 r.2.2.2.2.1 := by
  have hs2 : 1 ≤ size ∧ size ≤ 120 := ⟨hs.1, by omega⟩
  unfold f_X10_stayBySwapped at h
  obtain ⟨-, h⟩ := zg_some h
  by_cases c : kind = 1
  · rw [if_neg (show ¬ ¬ kind = 1 from fun q => q c)] at h
    subst c
    obtain ⟨⟨x1, x2, x3, x4, x5, x6⟩, e1, h⟩ := zb h
    dsimp only at h
    obtain ⟨r8, e2, h⟩ := zb h
    obtain ⟨-, h⟩ := zg_some h
    cases h
    refine ⟨?_, Or.inl rfl⟩
    obtain ⟨l, l2, w0, X, hb, hsw, hX, g1, g2, g3⟩ := gfb_v ⟨by omega, by omega⟩ hs2 ⟨by omega, by omega⟩ ⟨by omega, by omega⟩ e1
    dsimp only at g1 g2 g3
    have hri := hb.ri (B := 999) hs2 (by omega)
    obtain ⟨s1, s2⟩ := xsat_v e2
    rw [g2, g3] at s2
    rcases hsw with ⟨n, -⟩ | ⟨-, sw⟩
    · exact absurd (show CPc a b size 0 from ⟨⟨by omega, by omega⟩, ⟨by omega, by omega⟩, by omega, by omega⟩) n
    · have T : (X.2.1 = tc ∧ ∀ j, 0 ≤ j → j < tc → X.2.2.2.1 j = told j) ↔ TS size 1 fig sc steps told tc a b := TS_x (sg := fun x => x) hs2 hab hp (fun _ _ => rfl) (sw.ri hri (show a ≠ b by omega)) (fun i p q => show SWx a b (i + 1) = l2 i by rw [SWP.sw hri (show a ≠ b by omega) sw i p q, hb.1 i p q]) hX
      exact ⟨s1, s2.trans (Iff.trans ⟨fun z => ⟨z.1, fun j p q => by rw [← z.2 j p q, SWx_0]⟩, fun z => ⟨z.1, fun j p q => by rw [SWx_0]; exact z.2 j p q⟩⟩ T)⟩
  · rw [if_pos c] at h
    obtain ⟨r1, e1, h⟩ := zb h
    obtain ⟨-, h⟩ := zg_some h
    cases h
    rcases hc with n | ⟨l, w, g, X, hb, hX, e2, e3⟩
    · exact absurd n c
    · refine ⟨?_, Or.inr ⟨l, w, g, X, hb, hX, e2, e3⟩⟩
      obtain ⟨s1, s2⟩ := xsat_v e1
      rw [e2, e3] at s2
      exact ⟨s1, s2.trans (TS_x (sg := SWx a b) hs2 hab hp (fun q => absurd q c) (hb.ri (B := 999) hs2 (by omega)) (fun i p q => by rw [hb.1 i p q]) hX)⟩
theorem seen_in {size kind fig sc tc tm v4 : Int} {told toldm steps st : Int → Int} (hs : 1 ≤ size ∧ size ≤ 40) (h4 : 1 ≤ v4) (hp : PI kind fig sc steps) (hp' : PI kind fig sc st) (hst : eqr 0 sc steps st) (ht : tm = tc) (he : eqr 0 tc told toldm) : ∀ (n m : Nat) (v2 v3 v5 ms mt mr many rounds gm : Int) (line gone went row we g' going : Int → Int) (X : Int × Int × Int × Int × Int × (Int → Int) × (Int → Int) × (Int → Int)) (Y : Int × Int × Int × Int × Int × (Int → Int) × (Int → Int) × (Int → Int) × (Int → Int) × Int), f_X10_seen_L84 n v2 v3 v4 v5 told tc size kind ms mt mr fig sc steps line gone went = some X → f_X11_seen_L65 m v2 v3 v4 v5 size many rounds kind fig sc st row we g' going gm toldm tm = some Y → v4 < v5 → 0 ≤ v2 → (v2 = 0 ↔ v3 < 0) → CI size kind fig sc steps mt line → X.1 = Y.1 ∧ X.2.1 = Y.2.1 ∧ 0 ≤ X.1 ∧ (X.1 = 0 ↔ X.2.1 < 0) ∧ CI size kind fig sc steps X.2.2.2.1 X.2.2.2.2.2.1 ∧ Y.2.2.1 = size := by
  have hs2 : 1 ≤ size ∧ size ≤ 120 := ⟨hs.1, by omega⟩
  intro n
  induction n with
  | zero => intro m v2 v3 v5 ms mt mr many rounds gm line gone went row we g' going X Y h; exact absurd h (by rw [f_X10_seen_L84_z]; intro q; cases q)
  | succ n ih =>
    intro m v2 v3 v5 ms mt mr many rounds gm line gone went row we g' going X Y h h' a1 a2 a3 hc
    cases m with
    | zero => exact absurd h' (by rw [f_X11_seen_L65_z]; intro q; cases q)
    | succ m =>
      rw [f_X10_seen_L84_s] at h
      rw [f_X11_seen_L65_s] at h'
      obtain ⟨-, h⟩ := zg_some h
      obtain ⟨-, h'⟩ := zg_some h'
      by_cases c : size < v5
      · rw [if_pos c] at h h'
        cases h
        cases h'
        exact ⟨rfl, rfl, a2, a3, hc, rfl⟩
      · rw [if_neg c] at h h'
        obtain ⟨⟨x1, x2, x3, x4, x5, x6, x7⟩, e1, h⟩ := zb h
        obtain ⟨q, e2, h'⟩ := zb h'
        obtain ⟨l, w, e, hb⟩ := (mbegin hs2).get e2
        subst e
        dsimp only at h h'
        obtain ⟨-, h'⟩ := zg_some h'
        obtain ⟨-, h'⟩ := zg_some h'
        obtain ⟨⟨y1, y2, y3, y4, y5, y6, y7, y8⟩, e3, h'⟩ := zb h'
        dsimp only at h'
        obtain ⟨Z, hZ, s1, s2⟩ := mtold_v e3
        dsimp only at s1 s2
        have hab : 1 ≤ v4 ∧ v4 < v5 ∧ v5 ≤ size := ⟨h4, a1, by omega⟩
        obtain ⟨⟨b1, b2⟩, b3⟩ := sbs_v hs hab hp hc e1
        dsimp only at b1 b2 b3
        have hb0 := hb.ri (B := 999) hs2 (by omega)
        have sw : SWP size v4 v5 l (zup (zup l (v4 - 1) v5) (v5 - 1) v4) := ⟨v4 - 1, v5 - 1, ⟨by omega, by omega⟩, ⟨by omega, by omega⟩, by rw [hb.1 _ (by omega) (by omega)]; omega, by rw [hb.1 _ (by omega) (by omega)]; omega, rfl⟩
        have T := TS_m (told := told) (tc := tc) (a := v4) (b := v5) hs2 hab hp hp' hst ht he (sw.ri hb0 (show v4 ≠ v5 by omega)) (fun i p q => by rw [SWP.sw hb0 (show v4 ≠ v5 by omega) sw i p q, hb.1 i p q]) hZ
        have E : x1 = y1 := bit_eq ⟨b1, b2⟩ ⟨s1, s2.trans T⟩
        subst E
        obtain ⟨-, h⟩ := zg_some h
        obtain ⟨-, h'⟩ := zg_some h'
        by_cases c2 : x1 = 0
        · rw [if_pos c2] at h h'
          exact ih m v2 v3 (v5 + 1) _ _ _ _ _ _ _ _ _ _ _ _ _ X Y h h' (by omega) a2 a3 b3
        · rw [if_neg c2] at h h'
          obtain ⟨-, h⟩ := zg_some h
          obtain ⟨-, h'⟩ := zg_some h'
          by_cases c3 : v2 = 0
          · have n3 := a3.mp c3
            rw [if_neg (show ¬ ¬ v2 = 0 from fun q => q c3)] at h
            rw [if_neg (show ¬ 0 ≤ v3 by omega)] at h'
            exact ih m (v2 + 1) (1000 * v4 + v5) (v5 + 1) _ _ _ _ _ _ _ _ _ _ _ _ _ X Y h h' (by omega) (by omega) ⟨fun q => by omega, fun q => by omega⟩ b3
          · have n3 : ¬ v3 < 0 := fun q => c3 (a3.mpr q)
            rw [if_pos c3] at h
            rw [if_pos (show 0 ≤ v3 by omega)] at h'
            exact ih m (v2 + 1) v3 (v5 + 1) _ _ _ _ _ _ _ _ _ _ _ _ _ X Y h h' (by omega) (by omega) ⟨fun q => by omega, fun q => by omega⟩ b3
theorem seen_out {size kind fig sc tc tm : Int} {told toldm steps st : Int → Int} (hs : 1 ≤ size ∧ size ≤ 40) (hp : PI kind fig sc steps) (hp' : PI kind fig sc st) (hst : eqr 0 sc steps st) (ht : tm = tc) (he : eqr 0 tc told toldm) : ∀ (n m : Nat) (v2 v3 v4 ms mt mr many rounds gm : Int) (line gone went row we g' going : Int → Int) (X : Int × Int × Int × Int × Int × (Int → Int) × (Int → Int) × (Int → Int)) (Y : Int × Int × Int × Int × Int × (Int → Int) × (Int → Int) × (Int → Int) × (Int → Int) × Int), f_X10_seen_L66 n v2 v3 v4 told tc size kind ms mt mr fig sc steps line gone went = some X → f_X11_seen_L50 m v2 v3 v4 size many rounds kind fig sc st row we g' going gm toldm tm = some Y → 1 ≤ v4 → v4 ≤ size → 0 ≤ v2 → (v2 = 0 ↔ v3 < 0) → CI size kind fig sc steps mt line → X.1 = Y.1 ∧ X.2.1 = Y.2.1 := by
  intro n
  induction n with
  | zero => intro m v2 v3 v4 ms mt mr many rounds gm line gone went row we g' going X Y h; exact absurd h (by rw [f_X10_seen_L66_z]; intro q; cases q)
  | succ n ih =>
    intro m v2 v3 v4 ms mt mr many rounds gm line gone went row we g' going X Y h h' a1 a2 a3 a4 hc
    cases m with
    | zero => exact absurd h' (by rw [f_X11_seen_L50_z]; intro q; cases q)
    | succ m =>
      rw [f_X10_seen_L66_s] at h
      rw [f_X11_seen_L50_s] at h'
      obtain ⟨-, h⟩ := zg_some h
      obtain ⟨-, h'⟩ := zg_some h'
      rw [if_neg (show ¬ size < v4 by omega)] at h'
      obtain ⟨⟨y1, y2, y3, y4, y5, y6, y7, y8, y9, y10⟩, e2, h'⟩ := zb h'
      dsimp only at h'
      by_cases c : size ≤ v4
      · rw [if_pos c] at h
        cases h
        obtain ⟨k, hk⟩ : ∃ k, zF = k + 1 := ⟨3999, by rw [zF_eq]⟩
        rw [hk, f_X11_seen_L65_s] at e2
        obtain ⟨-, e2⟩ := zg_some e2
        rw [if_pos (show size < v4 + 1 by omega)] at e2
        cases e2
        cases m with
        | zero => exact absurd h' (by rw [f_X11_seen_L50_z]; intro q; cases q)
        | succ m =>
          rw [f_X11_seen_L50_s] at h'
          obtain ⟨-, h'⟩ := zg_some h'
          rw [if_pos (show size < v4 + 1 by omega)] at h'
          cases h'
          exact ⟨rfl, rfl⟩
      · rw [if_neg c] at h
        obtain ⟨⟨x1, x2, x3, x4, x5, x6, x7, x8⟩, e1, h⟩ := zb h
        dsimp only at h
        obtain ⟨i1, i2, i3, i4, i5, i6⟩ := seen_in hs a1 hp hp' hst ht he zF zF v2 v3 (v4 + 1) _ _ _ _ _ _ _ _ _ _ _ _ _ _ _ e1 e2 (by omega) a3 a4 hc
        dsimp only at i1 i2 i3 i4 i5 i6
        rw [i6] at h'
        subst i1 i2
        exact ih m x1 x2 (v4 + 1) _ _ _ _ _ _ _ _ _ _ _ _ _ X Y h h' (by omega) (by omega) i3 i4 i5
theorem seen_v {v tc size there rb kind fig sc ms mt mr mk mf mc th gm pl tk ki tm : Int} {told steps line gone went m1 m2 m3 m4 R st ro we R' g' going kept toldm : Int → Int} {r : Int × (Int → Int) × Int × Int × Int × Int × Int × Int × (Int → Int) × (Int → Int) × (Int → Int) × (Int → Int)} {q : T19} (hv : zR v) (h : SR size there rb kind fig sc steps line went st ro we) (hT : TL tc told tm toldm) (X : f_X10_seen v told tc R size there rb kind fig sc steps line gone went ms mt mr mk mf mc m1 m2 m3 m4 = some r) (Y : f_X11_seen v size there rb kind fig sc st ro we th R' g' going gm kept pl tk ki toldm tm = some q) : r.1 = q.1 := by
  obtain ⟨t1, t2, t3, t4⟩ := hT
  have hs := h.1.1
  have hp := h.2.1
  have hp2 : PI kind fig sc (zcp steps m1 8) := hp.congr (eqr_zcp (by omega) (by have := hp.2.2.1; omega)).symm
  have hse : eqr 0 sc (zcp steps m1 8) st := (eqr_zcp (by omega) (by have := hp.2.2.1; omega)).trans h.2.2.1
  have RX : ∀ k : Int, 0 ≤ k ∧ k < 7 → (f_X10_refuse k R).bind (fun (r_46, t_refusals_47) => some (r_46, t_refusals_47, ms, mt, mr, mk, mf, mc, m1, m2, m3, m4)) = some r → r.1 = -k := fun k hk e => by
    obtain ⟨⟨q1, q2⟩, e1, e2⟩ := zb e
    cases e2
    exact (xref hk R).get e1
  have RM : ∀ k : Int, -7 < k ∧ k ≤ 0 → (f_X11_refuse k R').bind (fun (r_66, t_refusals_67) => some (r_66, size, there, rb, kind, fig, sc, st, ro, we, (0 : Int), t_refusals_67, g', going, gm, kept, pl, tk, ki)) = some q → q.1 = k := fun k hk e => by
    obtain ⟨⟨q1, q2⟩, e1, e2⟩ := zb e
    cases e2
    exact (mref hk R').get e1
  unfold f_X10_seen f_X10_seen_J9 f_X8_copyFrom at X
  unfold f_X11_seen at Y
  obtain ⟨-, X⟩ := zg_some X
  obtain ⟨-, Y⟩ := zg_some Y
  rw [min_ hv ⟨by omega, by omega⟩ ⟨by omega, by omega⟩, Option.bind_some, zg10n] at Y
  by_cases c1 : v < 0
  · rw [if_pos c1] at X
    rw [if_neg (show ¬ (0 ≤ v ∧ v ≤ 1) by omega)] at Y
    rw [RX 2 (by omega) X, RM (-2) (by omega) Y]
  · rw [if_neg c1] at X
    obtain ⟨-, X⟩ := zg_some X
    by_cases c2 : v ≤ 1
    · rw [if_pos c2] at X
      rw [if_pos (show 0 ≤ v ∧ v ≤ 1 from ⟨by omega, c2⟩)] at Y
      obtain ⟨-, X⟩ := zg_some X
      obtain ⟨-, Y⟩ := zg_some Y
      by_cases c3 : size ≤ 40
      · rw [if_pos c3] at X Y
        rw [Option.bind_some] at X
        dsimp only at X
        obtain ⟨⟨x1, x2, x3, x4, x5, x6⟩, e1, X⟩ := zb X
        dsimp only at X
        obtain ⟨⟨u1, u2, u3, u4, u5, u6, u7, u8⟩, e2, X⟩ := zb X
        dsimp only at X
        obtain ⟨-, X⟩ := zg_some X
        obtain ⟨o, e3, Y⟩ := zb Y
        obtain ⟨q', e, -⟩ := mopen.get e3
        subst e
        dsimp only at Y
        obtain ⟨⟨w1, w2, w3, w4, w5, w6, w7, w8, w9, w10⟩, e4, Y⟩ := zb Y
        dsimp only at Y
        obtain ⟨⟨d1, d2, d3, d4, d5, d6, d7, d8, d9, d10, d11, d12, d13⟩, -, Y⟩ := zb Y
        dsimp only at Y
        obtain ⟨-, Y⟩ := zg_some Y
        obtain ⟨l, l2, w0, Z, hb, hsw, hZ, g1, g2, g3⟩ := gfb_v hp.1 hs ⟨by omega, by omega⟩ ⟨by omega, by omega⟩ e1
        dsimp only at g1 g2 g3
        have hC : CI size kind fig sc (zcp steps m1 8) x2 x4 := by
          rcases hsw with ⟨-, el⟩ | ⟨y, -⟩
          · rw [el] at hZ
            exact Or.inr ⟨l, w0, _, Z, hb, hZ, g2, g3⟩
          · exact absurd y.1.1 (by omega)
        obtain ⟨k1, k2⟩ := seen_out ⟨hs.1, c3⟩ hp2 h.mpi hse t1 t4 zF zF 0 (-9) 1 _ _ _ _ _ _ _ _ _ _ _ _ _ _ _ e2 e4 (by omega) hs.1 (by omega) ⟨fun _ => by omega, fun _ => rfl⟩ hC
        dsimp only at k1 k2
        by_cases c4 : v = 0
        · rw [if_neg (show ¬ ¬ v = 0 from fun q => q c4)] at X Y
          cases X
          cases Y
          exact k1
        · rw [if_pos c4] at X Y
          cases X
          cases Y
          exact k2
      · rw [if_neg c3] at X Y
        rw [RX 6 (by omega) X, RM (-6) (by omega) Y]
    · rw [if_neg c2] at X
      rw [if_neg (show ¬ (0 ≤ v ∧ v ≤ 1) by omega)] at Y
      rw [RX 2 (by omega) X, RM (-2) (by omega) Y]
