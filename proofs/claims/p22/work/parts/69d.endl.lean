/-! endless and endlessWhen answer alike -/
noncomputable def EA (v w fig : Int) (luck : Int → Int) : Int := if v = 2 then (if w < fig then w else -9) else if v = 1 then GU luck 64 w else GU (fun i => i + 1) w.toNat w
noncomputable def EX (v w top a : Int) : Int := if 0 ≤ v ∧ v ≤ 2 then (if 1 ≤ w then (if w ≤ top then a else -6) else -4) else -2
theorem xnws {v w fig : Int} {luck : Int → Int} (hv : 0 ≤ v ∧ v ≤ 2) (hw : 1 ≤ w ∧ w ≤ 200) (hf : 2 ≤ fig ∧ fig ≤ 9) (hL : LK 64 luck) (hS : LUS 64 luck) {a : Int} (h : f_X0_numberWhoStays v fig w luck = some a) : a = EA v w fig luck := by
  obtain ⟨K, eK⟩ : ∃ K : Nat, w = (K : Int) := ⟨w.toNat, by omega⟩
  have tn : w.toNat = K := by omega
  unfold f_X0_numberWhoStays f_X0_numberWhoStays_J13 f_X0_numberWhoStays_J28 at h
  obtain ⟨-, h⟩ := zg_some h
  unfold EA
  have H : v = 0 ∨ v = 1 ∨ v = 2 := by omega
  rcases H with rfl | rfl | rfl
  · rw [if_pos (show ¬ (0 : Int) = 2 by decide)] at h
    obtain ⟨-, h⟩ := zg_some h
    rw [if_pos (show ¬ (0 : Int) = 1 by decide)] at h
    obtain ⟨a', h, e⟩ := zb h
    cases e
    rw [if_neg (show ¬ (0 : Int) = 2 by decide), if_neg (show ¬ (0 : Int) = 1 by decide), tn]
    exact xgo (c := fun i => i + 1) eK hw (by omega) (fun i p q => ⟨xcount0, show 2 ≤ i + 1 ∧ i + 1 ≤ 1000000 by omega⟩) (fun i j p q s => show i + 1 ≤ j + 1 by omega) h
  · rw [if_pos (show ¬ (1 : Int) = 2 by decide)] at h
    obtain ⟨-, h⟩ := zg_some h
    rw [if_neg (show ¬ ¬ (1 : Int) = 1 from fun q => q rfl)] at h
    obtain ⟨a', h, e⟩ := zb h
    cases e
    rw [if_neg (show ¬ (1 : Int) = 2 by decide), if_pos (show (1 : Int) = 1 from rfl)]
    exact xgo (K := 64) (c := luck) (by omega) hw (by omega) (fun i p q => ⟨xcount1 ⟨p, by omega⟩ fig, by have := hL i p (by omega); omega, by have := hL i p (by omega); omega⟩) (fun i j p q s => hS.mono2 hL i j p q (by omega)) h
  · rw [if_neg (show ¬ ¬ (2 : Int) = 2 from fun q => q rfl)] at h
    obtain ⟨-, h⟩ := zg_some h
    rw [if_pos (show (2 : Int) = 2 from rfl)]
    by_cases c : w < fig
    · rw [if_pos c] at h
      obtain ⟨-, h⟩ := zg_some h
      rw [if_pos (show ¬ (2 : Int) = 1 by decide)] at h
      obtain ⟨a', h, e⟩ := zb h
      cases e
      have g := xgo (c := fun _ => fig) eK hw (by omega) (fun i p q => ⟨xcount2, show 2 ≤ fig ∧ fig ≤ 1000000 by omega⟩) (fun i j p q s => Int.le_refl _) h
      have s := GU_skip (c := fun _ => fig) (k := 0) hw.1 K (fun i _ _ => c)
      rw [Nat.zero_add, GU_z] at s
      rw [if_pos c, g, s]
    · rw [if_neg c] at h
      cases h
      rw [if_neg c]
theorem xen_v {v w fig : Int} {luck R : Int → Int} {r : Int × (Int → Int)} (hf : 2 ≤ fig ∧ fig ≤ 9) (hL : LK 64 luck) (hS : LUS 64 luck) (h : f_X10_endless v w R fig luck = some r) : r.1 = EX v w 200 (EA v w fig luck) := by
  have RF : ∀ k : Int, 0 ≤ k ∧ k < 7 → (f_X10_refuse k R).bind (fun (r_1, t_refusals_2) => some (r_1, t_refusals_2)) = some r → r.1 = -k := fun k hk e => by
    obtain ⟨⟨q1, q2⟩, e1, e2⟩ := zb e
    cases e2
    exact (xref hk R).get e1
  unfold f_X10_endless f_X10_endless_J9 at h
  unfold EX
  obtain ⟨-, h⟩ := zg_some h
  by_cases c1 : v < 0
  · rw [if_pos c1] at h
    rw [if_neg (show ¬ (0 ≤ v ∧ v ≤ 2) by omega)]
    exact RF 2 (by omega) h
  · rw [if_neg c1] at h
    obtain ⟨-, h⟩ := zg_some h
    by_cases c2 : v ≤ 2
    · rw [if_pos c2] at h
      obtain ⟨-, h⟩ := zg_some h
      rw [if_pos (show 0 ≤ v ∧ v ≤ 2 from ⟨by omega, c2⟩)]
      by_cases c3 : 1 ≤ w
      · rw [if_pos c3] at h ⊢
        obtain ⟨-, h⟩ := zg_some h
        by_cases c4 : w ≤ 200
        · rw [if_pos c4] at h ⊢
          obtain ⟨a, e1, e2⟩ := zb h
          cases e2
          exact xnws ⟨by omega, c2⟩ ⟨c3, c4⟩ hf hL hS e1
        · rw [if_neg c4] at h ⊢
          exact RF 6 (by omega) h
      · rw [if_neg c3] at h ⊢
        exact RF 4 (by omega) h
    · rw [if_neg c2] at h
      rw [if_neg (show ¬ (0 ≤ v ∧ v ≤ 2) by omega)]
      exact RF 2 (by omega) h
theorem mel_v : ∀ (n k : Nat) (v4 v5 r : Int), f_X11_endless_L68 n v4 v5 = some r → v5 = (k : Int) + 1 → r = GU (fun i => i + 1) k v4 := by
  intro n
  induction n with
  | zero => intro k v4 v5 r h; exact absurd h (by unfold f_X11_endless_L68; intro q; cases q)
  | succ n ih =>
    intro k v4 v5 r h e
    rw [f_X11_endless_L68_s] at h
    obtain ⟨-, h⟩ := zg_some h
    cases k with
    | zero =>
      rw [if_pos (show v5 ≤ 1 by omega)] at h
      cases h
      rfl
    | succ k =>
      rw [if_neg (show ¬ v5 ≤ 1 by omega)] at h
      obtain ⟨-, h⟩ := zg_some h
      have := ih k _ _ r h (by omega)
      have e2 : GU (fun i => i + 1) (k + 1) v4 = GU (fun i => i + 1) k (v4 + (v4 - 1) / (v5 - 1)) := by
        show GU (fun i => i + 1) k (v4 + (v4 - 1) / (((k + 1 : Nat) : Int) + 1 - 1)) = _
        rw [show ((k + 1 : Nat) : Int) + 1 - 1 = v5 - 1 by omega]
      rw [e2]
      exact this
theorem men_v {v w fig th many : Int} {R lucky unlucky luck : Int → Int} {r : Int × Int × (Int → Int) × (Int → Int) × (Int → Int) × Int} (hv : zR v) (hw : zR w) (hL : LK 64 luck) (hS : LUS 64 luck) (h : f_X11_endless v w fig th R lucky unlucky many = some r) : r.1 = EX v w 200 (EA v w fig luck) := by
  have RF : ∀ k : Int, -7 < k ∧ k ≤ 0 → (f_X11_refuse k R).bind (fun (r_8, t_refusals_9) => some (r_8, (0 : Int), t_refusals_9, lucky, unlucky, many)) = some r → r.1 = k := fun k hk e => by
    obtain ⟨⟨q1, q2⟩, e1, e2⟩ := zb e
    cases e2
    exact (mref hk R).get e1
  unfold f_X11_endless at h
  rw [mwrong hv hw ⟨by omega, by omega⟩, Option.bind_some] at h
  obtain ⟨-, h⟩ := zg_some h
  unfold EX
  by_cases c1 : 0 ≤ v ∧ v ≤ 2
  · rw [if_pos c1] at h ⊢
    by_cases c2 : 1 ≤ w
    · rw [if_pos c2] at h ⊢
      by_cases c3 : w ≤ 200
      · rw [if_pos c3] at h ⊢
        rw [if_pos (show (0 : Int) ≤ 0 by decide)] at h
        obtain ⟨-, h⟩ := zg_some h
        unfold EA
        by_cases c4 : v = 2
        · rw [if_neg (show ¬ ¬ v = 2 from fun q => q c4)] at h
          obtain ⟨-, h⟩ := zg_some h
          rw [if_pos c4]
          by_cases c5 : fig ≤ w
          · rw [if_pos c5] at h
            cases h
            rw [if_neg (show ¬ w < fig by omega)]
          · rw [if_neg c5] at h
            cases h
            rw [if_pos (show w < fig by omega)]
        · rw [if_pos c4] at h
          obtain ⟨-, h⟩ := zg_some h
          rw [if_neg c4]
          by_cases c5 : v = 1
          · rw [if_neg (show ¬ ¬ v = 1 from fun q => q c5)] at h
            obtain ⟨⟨l1, u1, n1⟩, e1, h⟩ := zb h
            dsimp only at h
            obtain ⟨-, h⟩ := zg_some h
            cases h
            rw [if_pos c5]
            have O : OI luck 52 276 l1 u1 := mlucky_v hL hS e1
            show l1 (w - 1) = _
            rw [O.1 w c2 (by omega)]
            refine (GU_skip (c := luck) (k := 52) c2 12 (fun i p q => ?_)).symm
            have a := hS.mono2 hL 53 i (by omega) (by omega) (by omega)
            have b := lu_all hS 64 (by omega) 53 (by omega) (by omega)
            rw [mL_end.2.1] at b
            omega
          · rw [if_pos c5] at h
            obtain ⟨a, e1, h⟩ := zb h
            cases h
            rw [if_neg c5]
            have g := mel_v zF (w.toNat - 1) w w a e1 (by omega)
            have s := GU_skip (c := fun i => i + 1) (k := w.toNat - 1) (p := w) c2 1 (fun i p q => show w < i + 1 by omega)
            rw [show w.toNat - 1 + 1 = w.toNat by omega] at s
            rw [s]
            exact g
      · rw [if_neg c3] at h ⊢
        rw [if_neg (show ¬ (0 : Int) ≤ -6 by decide)] at h
        exact RF (-6) (by omega) h
    · rw [if_neg c2] at h ⊢
      rw [if_neg (show ¬ (0 : Int) ≤ -4 by decide)] at h
      exact RF (-4) (by omega) h
  · rw [if_neg c1] at h ⊢
    rw [if_neg (show ¬ (0 : Int) ≤ -2 by decide)] at h
    exact RF (-2) (by omega) h
theorem p_endless {v w fig th many : Int} {R R' luck lucky unlucky : Int → Int} (hv : zR v) (hw : zR w) (hf : 2 ≤ fig ∧ fig ≤ 9) (hE : f_X0_init = some luck) : ∃ a R2 t2 R3 l u m, f_X10_endless v w R fig luck = some (a, R2) ∧ f_X11_endless v w fig th R' lucky unlucky many = some (a, t2, R3, l, u, m) := by
  obtain ⟨hL, hS⟩ := xinit2.get hE
  obtain ⟨⟨a, R2⟩, X, -⟩ := xendless (R := R) hv hw hf hL
  obtain ⟨⟨b, t2, R3, l, u, m⟩, Y, -⟩ := mendless (th := th) (R := R') (lucky := lucky) (unlucky := unlucky) (many := many) hv hw hf
  have e1 := xen_v hf hL hS X
  have e2 := men_v hv hw hL hS Y
  dsimp only at e1 e2
  have e3 : a = b := by rw [e1, e2]
  subst e3
  exact ⟨_, _, _, _, _, _, _, X, Y⟩
/-! the round in which a number goes -/
def WK (c : Int → Int) : Nat → Int → Int → Int
  | 0, _, _ => -9
  | n + 1, r, p => if p < c r then -9 else if p % c r = 0 then r else WK c n (r + 1) (p - p / c r)
theorem WK_s (c : Int → Int) (n : Nat) (r p : Int) : WK c (n + 1) r p = if p < c r then -9 else if p % c r = 0 then r else WK c n (r + 1) (p - p / c r) := rfl
theorem dv_ar {c p : Int} (hc : 2 ≤ c) (hp : c ≤ p) : 1 ≤ p - p / c ∧ 1 ≤ p / c := by
  have d1 : p / c * c ≤ p := Int.ediv_mul_le p (by omega)
  have d2 : 1 ≤ p / c := by rw [Int.le_ediv_iff_mul_le (by omega)]; omega
  have d3 : p / c * 2 ≤ p / c * c := Int.mul_le_mul_of_nonneg_left (by omega) (by omega)
  omega
theorem xwk {v f v3 : Int} {luck c : Int → Int} (h3 : v3 ≤ 1500) (hc : ∀ i, 1 ≤ i → i ≤ 1501 → f_X0_countIn v f i luck = some (c i) ∧ 2 ≤ c i) : ∀ (n : Nat) (v4 v5 a : Int), f_X0_roundOfGoing_L6 n v f v3 v4 v5 luck = some a → 1 ≤ v4 → 1 ≤ v5 → v4 + v5 ≤ v3 + 1 → a = WK c n v5 v4 := by
  intro n
  induction n with
  | zero => intro v4 v5 a h; exact absurd h (by unfold f_X0_roundOfGoing_L6; intro q; cases q)
  | succ n ih =>
    intro v4 v5 a h a1 a2 a3
    rw [f_X0_roundOfGoing_L6_s] at h
    obtain ⟨-, h⟩ := zg_some h
    obtain ⟨g1, g2⟩ := hc v5 a2 (by omega)
    rw [if_neg (show ¬ v3 < v5 by omega), g1, Option.bind_some] at h
    obtain ⟨-, h⟩ := zg_some h
    rw [if_neg (show ¬ c v5 < 2 by omega)] at h
    obtain ⟨-, h⟩ := zg_some h
    rw [WK_s]
    by_cases c3 : c v5 ≤ v4
    · rw [if_pos c3] at h
      obtain ⟨-, h⟩ := zg_some h
      obtain ⟨-, h⟩ := zg_some h
      rw [if_neg (show ¬ v4 < c v5 by omega)]
      by_cases c4 : v4 % c v5 = 0
      · rw [if_neg (show ¬ ¬ v4 % c v5 = 0 from fun q => q c4)] at h
        cases h
        rw [if_pos c4]
      · rw [if_pos c4] at h
        obtain ⟨-, h⟩ := zg_some h
        rw [if_neg c4]
        have d := dv_ar g2 c3
        exact ih _ _ a h (by omega) (by omega) (by omega)
    · rw [if_neg c3] at h
      cases h
      rw [if_pos (show v4 < c v5 by omega)]
theorem mwk {v fig th many : Int} {R lucky unlucky c : Int → Int} (hc : ∀ i, 1 ≤ i → c i = if v = 2 then fig else i + 1) : ∀ (n : Nat) (v4 v5 v6 : Int) (r : Int × Int × (Int → Int) × (Int → Int) × (Int → Int) × Int), f_X11_endlessWhen_L75 n v v4 v5 v6 fig th R lucky unlucky many = some r → v6 = c v5 → 1 ≤ v5 → r.1 = WK c n v5 v4 := by
  intro n
  induction n with
  | zero => intro v4 v5 v6 r h; exact absurd h (by unfold f_X11_endlessWhen_L75; intro q; cases q)
  | succ n ih =>
    intro v4 v5 v6 r h e6 h5
    rw [f_X11_endlessWhen_L75_s] at h
    obtain ⟨-, h⟩ := zg_some h
    rw [WK_s, ← e6]
    by_cases c1 : v4 < v6
    · rw [if_pos c1] at h ⊢
      cases h
      rfl
    · rw [if_neg c1] at h ⊢
      obtain ⟨-, h⟩ := zg_some h
      obtain ⟨-, h⟩ := zg_some h
      by_cases c2 : v4 % v6 = 0
      · rw [if_neg (show ¬ ¬ v4 % v6 = 0 from fun q => q c2)] at h
        cases h
        rw [if_pos c2]
      · rw [if_pos c2] at h
        rw [if_neg c2]
        obtain ⟨-, h⟩ := zg_some h
        obtain ⟨-, h⟩ := zg_some h
        by_cases c3 : v = 2
        · rw [if_neg (show ¬ ¬ v = 2 from fun q => q c3)] at h
          exact ih _ _ _ r h (by rw [hc (v5 + 1) (by omega), if_pos c3]) (by omega)
        · rw [if_pos c3] at h
          exact ih _ _ _ r h (by rw [hc (v5 + 1) (by omega), if_neg c3]) (by omega)
theorem WK_one {c : Int → Int} {r p : Int} (n : Nat) (hp : 1 ≤ p) (h2 : 2 ≤ c r) (hm : c r ≤ c (r + 1)) : WK c (n + 1) r (p + (p - 1) / (c r - 1)) = WK c n (r + 1) p := by
  obtain ⟨y1, y2⟩ := up_ar h2 hp
  have d0 : 0 ≤ (p - 1) / (c r - 1) := Int.ediv_nonneg (by omega) (by omega)
  rw [WK_s]
  by_cases z : p + (p - 1) / (c r - 1) < c r
  · rw [if_pos z]
    cases n with
    | zero => rfl
    | succ n => rw [WK_s, if_pos (show p < c (r + 1) by omega)]
  · rw [if_neg z, if_neg y1, y2]
theorem WK_up {c : Int → Int} (K : Nat) (hc : ∀ i, 1 ≤ i → i ≤ (K : Int) → 2 ≤ c i ∧ c i ≤ c (i + 1)) : ∀ (k n : Nat) (p : Int), k ≤ K → 1 ≤ p → WK c (n + k) 1 (GU c k p) = WK c n ((k : Int) + 1) p := by
  intro k
  induction k with
  | zero => intro n p _ _; rw [GU_z, show ((0 : Nat) : Int) + 1 = 1 by omega, Nat.add_zero]
  | succ k ih =>
    intro n p hk hp
    have h := hc ((k + 1 : Nat) : Int) (by omega) (by omega)
    have d0 : 0 ≤ (p - 1) / (c ((k + 1 : Nat) : Int) - 1) := Int.ediv_nonneg (by omega) (by omega)
    rw [GU_s, show n + (k + 1) = (n + 1) + k by omega, ih (n + 1) _ (by omega) (by omega), show (k : Int) + 1 = ((k + 1 : Nat) : Int) by omega]
    exact WK_one n hp h.1 h.2
def cW (luck : Int → Int) (i : Int) : Int := if i ≤ 64 then luck i else 1000000
theorem luck_when {luck l u : Int → Int} {m : Int} (hL : LK 64 luck) (hS : LUS 64 luck) (O : OI luck 52 276 l u) (hm : 1 ≤ m ∧ m ≤ 2000) : (if u m ≤ 0 then -9 else u m) = WK (cW luck) zF 1 m := by
  have hc : ∀ i, 1 ≤ i → i ≤ ((60 : Nat) : Int) → 2 ≤ cW luck i ∧ cW luck i ≤ cW luck (i + 1) := fun i p q => by
    unfold cW
    rw [if_pos (show i ≤ 64 by omega), if_pos (show i + 1 ≤ 64 by omega)]
    have a := hL i p (by omega)
    have b := hS.mono2 hL i (i + 1) p (by omega) (by omega)
    omega
  have cg : ∀ (j : Nat) (p : Int), j ≤ 64 → GU luck j p = GU (cW luck) j p := fun j p hj => GU_congr j p (fun i a b => by unfold cW; rw [if_pos (show i ≤ 64 by omega)])
  rcases O.2.2 m hm.1 hm.2 with ⟨u0, p, p1, p2, p3⟩ | ⟨j, p, j1, j2, j3, j4, j5⟩
  · obtain ⟨n, hn⟩ : ∃ n, zF = (n + 1) + 52 := ⟨3947, by rw [zF_eq]⟩
    have c53 : cW luck (((52 : Nat) : Int) + 1) = 283 := by
      unfold cW
      rw [if_pos (by omega), lu_all hS 64 (by omega) (((52 : Nat) : Int) + 1) (by omega) (by omega)]
      exact mL_end.2.1
    rw [u0, if_pos (Int.le_refl _), p3, cg 52 p (by omega), hn, WK_up 60 hc 52 (n + 1) p (by omega) p1, WK_s, if_pos (show p < cW luck (((52 : Nat) : Int) + 1) by omega)]
  · have c0 : cW luck ((j : Int) + 1) = luck ((j : Int) + 1) := by
      unfold cW
      rw [if_pos (by omega)]
    have hb := hL ((j : Int) + 1) (by omega) (by omega)
    obtain ⟨n, hn⟩ : ∃ n, zF = (n + 1) + j := ⟨3999 - j, by rw [zF_eq]; omega⟩
    rw [j2, if_neg (show ¬ (j : Int) + 1 ≤ 0 by omega), j3, cg j p (by omega), hn, WK_up 60 hc j (n + 1) p (by omega) (by omega), WK_s, c0, if_neg (show ¬ p < luck ((j : Int) + 1) by omega), if_pos j5]
noncomputable def WC (v fig : Int) (luck : Int → Int) (i : Int) : Int := if v = 2 then fig else if v = 1 then cW luck i else i + 1
theorem xew_v {v w fig : Int} {luck R : Int → Int} {r : Int × (Int → Int)} (hf : 2 ≤ fig ∧ fig ≤ 9) (hL : LK 64 luck) (h : f_X10_endlessWhen v w R fig luck = some r) : r.1 = EX v w 1500 (WK (WC v fig luck) zF 1 w) := by
  have RF : ∀ k : Int, 0 ≤ k ∧ k < 7 → (f_X10_refuse k R).bind (fun (r_1, t_refusals_2) => some (r_1, t_refusals_2)) = some r → r.1 = -k := fun k hk e => by
    obtain ⟨⟨q1, q2⟩, e1, e2⟩ := zb e
    cases e2
    exact (xref hk R).get e1
  unfold f_X10_endlessWhen f_X10_endlessWhen_J9 at h
  unfold EX
  obtain ⟨-, h⟩ := zg_some h
  by_cases c1 : v < 0
  · rw [if_pos c1] at h
    rw [if_neg (show ¬ (0 ≤ v ∧ v ≤ 2) by omega)]
    exact RF 2 (by omega) h
  · rw [if_neg c1] at h
    obtain ⟨-, h⟩ := zg_some h
    by_cases c2 : v ≤ 2
    · rw [if_pos c2] at h
      obtain ⟨-, h⟩ := zg_some h
      rw [if_pos (show 0 ≤ v ∧ v ≤ 2 from ⟨by omega, c2⟩)]
      by_cases c3 : 1 ≤ w
      · rw [if_pos c3] at h ⊢
        obtain ⟨-, h⟩ := zg_some h
        by_cases c4 : w ≤ 1500
        · rw [if_pos c4] at h ⊢
          obtain ⟨a, e1, e2⟩ := zb h
          cases e2
          unfold f_X0_roundOfGoing at e1
          refine xwk (c := WC v fig luck) c4 (fun i p q => ?_) zF w 1 a e1 c3 (by omega) (by omega)
          have H : v = 0 ∨ v = 1 ∨ v = 2 := by omega
          unfold WC
          rcases H with rfl | rfl | rfl
          · rw [if_neg (show ¬ (0 : Int) = 2 by decide), if_neg (show ¬ (0 : Int) = 1 by decide)]
            exact ⟨xcount0, by omega⟩
          · rw [if_neg (show ¬ (1 : Int) = 2 by decide), if_pos (show (1 : Int) = 1 from rfl)]
            unfold cW
            by_cases c : i ≤ 64
            · rw [if_pos c]
              have := hL i p c
              exact ⟨xcount1 ⟨p, c⟩ fig, by omega⟩
            · rw [if_neg c]
              refine ⟨?_, by omega⟩
              unfold f_X0_countIn
              rw [zg_pos ⟨by omega, by omega⟩, if_neg (show ¬ ¬ (1 : Int) = 1 from fun q => q rfl), zg_pos ⟨by omega, by omega⟩, if_neg (by omega), zg_pos ⟨by omega, by omega⟩, if_pos (by omega)]
          · rw [if_pos (show (2 : Int) = 2 from rfl)]
            exact ⟨xcount2, by omega⟩
        · rw [if_neg c4] at h ⊢
          exact RF 6 (by omega) h
      · rw [if_neg c3] at h ⊢
        exact RF 4 (by omega) h
    · rw [if_neg c2] at h
      rw [if_neg (show ¬ (0 ≤ v ∧ v ≤ 2) by omega)]
      exact RF 2 (by omega) h
theorem mew_v {v w fig th many : Int} {R lucky unlucky luck : Int → Int} {r : Int × Int × (Int → Int) × (Int → Int) × (Int → Int) × Int} (hv : zR v) (hw : zR w) (hL : LK 64 luck) (hS : LUS 64 luck) (h : f_X11_endlessWhen v w fig th R lucky unlucky many = some r) : r.1 = EX v w 1500 (WK (WC v fig luck) zF 1 w) := by
  have RF : ∀ k : Int, -7 < k ∧ k ≤ 0 → (f_X11_refuse k R).bind (fun (r_8, t_refusals_9) => some (r_8, (0 : Int), t_refusals_9, lucky, unlucky, many)) = some r → r.1 = k := fun k hk e => by
    obtain ⟨⟨q1, q2⟩, e1, e2⟩ := zb e
    cases e2
    exact (mref hk R).get e1
  unfold f_X11_endlessWhen f_X11_endlessWhen_J73 at h
  rw [mwrong hv hw ⟨by omega, by omega⟩, Option.bind_some] at h
  obtain ⟨-, h⟩ := zg_some h
  unfold EX
  by_cases c1 : 0 ≤ v ∧ v ≤ 2
  · rw [if_pos c1] at h ⊢
    by_cases c2 : 1 ≤ w
    · rw [if_pos c2] at h ⊢
      by_cases c3 : w ≤ 1500
      · rw [if_pos c3] at h ⊢
        rw [if_pos (show (0 : Int) ≤ 0 by decide)] at h
        obtain ⟨-, h⟩ := zg_some h
        by_cases c4 : v = 1
        · rw [if_neg (show ¬ ¬ v = 1 from fun q => q c4)] at h
          obtain ⟨⟨l1, u1, n1⟩, e1, h⟩ := zb h
          dsimp only at h
          obtain ⟨-, h⟩ := zg_some h
          obtain ⟨-, h⟩ := zg_some h
          have O : OI luck 52 276 l1 u1 := mlucky_v hL hS e1
          have g := luck_when (m := w) hL hS O ⟨c2, by omega⟩
          have ef : WC v fig luck = cW luck := by
            funext i
            unfold WC
            rw [if_neg (show ¬ v = 2 by omega), if_pos c4]
          rw [ef, ← g]
          by_cases c5 : u1 w ≤ 0
          · rw [if_pos c5] at h ⊢
            cases h
            rfl
          · rw [if_neg c5] at h ⊢
            obtain ⟨-, h⟩ := zg_some h
            cases h
            rfl
        · rw [if_pos c4] at h
          obtain ⟨-, h⟩ := zg_some h
          have hc : ∀ i, 1 ≤ i → WC v fig luck i = if v = 2 then fig else i + 1 := fun i _ => by
            unfold WC
            rw [if_neg c4]
          by_cases c5 : v = 2
          · rw [if_neg (show ¬ ¬ v = 2 from fun q => q c5)] at h
            exact mwk hc zF w 1 fig r h (by rw [hc 1 (by omega), if_pos c5]) (by omega)
          · rw [if_pos c5] at h
            exact mwk hc zF w 1 2 r h (by rw [hc 1 (by omega), if_neg c5]; omega) (by omega)
      · rw [if_neg c3] at h ⊢
        rw [if_neg (show ¬ (0 : Int) ≤ -6 by decide)] at h
        exact RF (-6) (by omega) h
    · rw [if_neg c2] at h ⊢
      rw [if_neg (show ¬ (0 : Int) ≤ -4 by decide)] at h
      exact RF (-4) (by omega) h
  · rw [if_neg c1] at h ⊢
    rw [if_neg (show ¬ (0 : Int) ≤ -2 by decide)] at h
    exact RF (-2) (by omega) h
theorem p_endlessWhen {v w fig th many : Int} {R R' luck lucky unlucky : Int → Int} (hv : zR v) (hw : zR w) (hf : 2 ≤ fig ∧ fig ≤ 9) (hE : f_X0_init = some luck) : ∃ a R2 t2 R3 l u m, f_X10_endlessWhen v w R fig luck = some (a, R2) ∧ f_X11_endlessWhen v w fig th R' lucky unlucky many = some (a, t2, R3, l, u, m) := by
  obtain ⟨hL, hS⟩ := xinit2.get hE
  obtain ⟨⟨a, R2⟩, X, -⟩ := xendlessWhen (R := R) hv hw hf hL
  obtain ⟨⟨b, t2, R3, l, u, m⟩, Y, -⟩ := mendlessWhen (th := th) (R := R') (lucky := lucky) (unlucky := unlucky) (many := many) hv hw hf
  have e1 := xew_v hf hL X
  have e2 := mew_v hv hw hL hS Y
  dsimp only at e1 e2
  have e3 : a = b := by rw [e1, e2]
  subst e3
  exact ⟨_, _, _, _, _, _, _, X, Y⟩
