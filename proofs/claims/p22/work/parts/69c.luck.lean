/-! the endless row: both sides answer alike -/
theorem dm_uni {a b q r : Int} (hb : 0 < b) (h : r + b * q = a) (h0 : 0 ≤ r) (h1 : r < b) : a / b = q ∧ a % b = r := (Int.ediv_emod_unique hb).mpr ⟨h, h0, h1⟩
/-- who is on place p behind a round with the count c stood on p + (p - 1) / (c - 1) -/
theorem up_ar {c p : Int} (hc : 2 ≤ c) (hp : 1 ≤ p) : ¬ (p + (p - 1) / (c - 1)) % c = 0 ∧ (p + (p - 1) / (c - 1)) - (p + (p - 1) / (c - 1)) / c = p := by
  have e := Int.emod_add_mul_ediv (p - 1) (c - 1)
  have m0 := Int.emod_nonneg (p - 1) (show c - 1 ≠ 0 by omega)
  have m1 := Int.emod_lt_of_pos (p - 1) (show 0 < c - 1 by omega)
  generalize (p - 1) % (c - 1) = s at e m0 m1
  generalize (p - 1) / (c - 1) = q at e ⊢
  have d : (c - 1) * q = c * q - q := by rw [Int.sub_mul, Int.one_mul]
  obtain ⟨h1, h2⟩ := dm_uni (a := p + q) (b := c) (q := q) (r := 1 + s) (by omega) (by omega) (by omega) (by omega)
  rw [h1, h2]
  exact ⟨by omega, by omega⟩
theorem dn_ar {c v : Int} (hc : 2 ≤ c) : (¬ (v + 1) % c = 0 → (v + 1) / c = v / c ∧ (v - v / c) + (v - v / c) / (c - 1) = v) ∧ ((v + 1) % c = 0 → (v + 1) / c = v / c + 1) := by
  have e := Int.emod_add_mul_ediv v c
  have m0 := Int.emod_nonneg v (show c ≠ 0 by omega)
  have m1 := Int.emod_lt_of_pos v (show 0 < c by omega)
  generalize v % c = s at e m0 m1
  generalize v / c = q at e ⊢
  have d : (c - 1) * q = c * q - q := by rw [Int.sub_mul, Int.one_mul]
  by_cases h : s = c - 1
  · obtain ⟨h1, h2⟩ := dm_uni (a := v + 1) (b := c) (q := q + 1) (r := 0) (by omega) (by rw [Int.mul_add, Int.mul_one]; omega) (by omega) (by omega)
    exact ⟨fun n => absurd h2 n, fun _ => h1⟩
  · obtain ⟨h1, h2⟩ := dm_uni (a := v + 1) (b := c) (q := q) (r := s + 1) (by omega) (by omega) (by omega) (by omega)
    obtain ⟨h3, -⟩ := dm_uni (a := v - q) (b := c - 1) (q := q) (r := s) (by omega) (by omega) (by omega) (by omega)
    exact ⟨fun _ => ⟨h1, by rw [h3]; omega⟩, fun n => absurd n (by rw [h2]; omega)⟩
theorem fmono {c v : Int} (hc : 2 ≤ c) : ∀ (d : Nat), v - v / c ≤ (v + d) - (v + d) / c := by
  intro d
  induction d with
  | zero => exact Int.le_of_eq (by rw [show v + ((0 : Nat) : Int) = v by omega])
  | succ d ih =>
    have ar := dn_ar (c := c) (v := v + d) hc
    rw [show v + ((d + 1 : Nat) : Int) = v + d + 1 by omega]
    by_cases h : (v + d + 1) % c = 0
    · have := ar.2 h; omega
    · have := (ar.1 h).1; omega
theorem fmono2 {c v w : Int} (hc : 2 ≤ c) (h : v ≤ w) : v - v / c ≤ w - w / c := by
  have := fmono (c := c) (v := v) hc (w - v).toNat
  rw [show v + (((w - v).toNat : Nat) : Int) = w by omega] at this
  exact this
/-- the number on place p behind k rounds with the counts c 1 .. c k -/
def GU (c : Int → Int) : Nat → Int → Int
  | 0, p => p
  | k + 1, p => GU c k (p + (p - 1) / (c ((k + 1 : Nat) : Int) - 1))
theorem GU_z (c : Int → Int) (p : Int) : GU c 0 p = p := rfl
theorem GU_s (c : Int → Int) (k : Nat) (p : Int) : GU c (k + 1) p = GU c k (p + (p - 1) / (c ((k + 1 : Nat) : Int) - 1)) := rfl
theorem GU_congr {c c' : Int → Int} : ∀ (k : Nat) (p : Int), (∀ i, 1 ≤ i → i ≤ (k : Int) → c i = c' i) → GU c k p = GU c' k p := by
  intro k
  induction k with
  | zero => intro p _; rfl
  | succ k ih =>
    intro p h
    have e := h ((k + 1 : Nat) : Int) (by omega) (Int.le_refl _)
    rw [GU_s, GU_s c', e]
    exact ih _ (fun i a b => h i a (by omega))
theorem GU_lt {c : Int → Int} : ∀ (k : Nat) (p q : Int), (∀ i, 1 ≤ i → i ≤ (k : Int) → 2 ≤ c i) → p < q → GU c k p < GU c k q := by
  intro k
  induction k with
  | zero => intro p q _ h; exact h
  | succ k ih =>
    intro p q hc h
    rw [GU_s, GU_s]
    have h2 := hc ((k + 1 : Nat) : Int) (by omega) (Int.le_refl _)
    have d : (p - 1) / (c ((k + 1 : Nat) : Int) - 1) ≤ (q - 1) / (c ((k + 1 : Nat) : Int) - 1) := Int.ediv_le_ediv (by omega) (by omega)
    exact ih _ _ (fun i a b => hc i a (by omega)) (by omega)
theorem GU_inj {c : Int → Int} {k : Nat} {p q : Int} (hc : ∀ i, 1 ≤ i → i ≤ (k : Int) → 2 ≤ c i) (h : GU c k p = GU c k q) : p = q := by
  by_cases h1 : p < q
  · have := GU_lt k p q hc h1; omega
  · by_cases h2 : q < p
    · have := GU_lt k q p hc h2; omega
    · omega
theorem GU_skip {c : Int → Int} {k : Nat} {p : Int} (hp : 1 ≤ p) : ∀ (m : Nat), (∀ i, (k : Int) < i → i ≤ (k : Int) + m → p < c i) → GU c (k + m) p = GU c k p := by
  intro m
  induction m with
  | zero => intro _; rfl
  | succ m ih =>
    intro h
    have h1 := h (((k + m) + 1 : Nat) : Int) (by omega) (by omega)
    have e : (p - 1) / (c (((k + m) + 1 : Nat) : Int) - 1) = 0 := Int.ediv_eq_zero_of_lt (by omega) (by omega)
    show GU c ((k + m) + 1) p = _
    rw [GU_s, e, Int.add_zero]
    exact ih (fun i a b => h i a (by omega))
theorem GU_two {c : Int → Int} (h1 : c 1 = 2) : ∀ (k : Nat) (p : Int), 1 ≤ k → 1 ≤ p → (∀ i, 1 ≤ i → i ≤ (k : Int) → 2 ≤ c i) → 2 * p - 1 ≤ GU c k p := by
  intro k
  induction k with
  | zero => intro p a; exact absurd a (by omega)
  | succ k ih =>
    intro p _ hp hc
    rw [GU_s]
    have h2 := hc ((k + 1 : Nat) : Int) (by omega) (Int.le_refl _)
    have d0 : 0 ≤ (p - 1) / (c ((k + 1 : Nat) : Int) - 1) := Int.ediv_nonneg (by omega) (by omega)
    by_cases hk : k = 0
    · have e1 : ((k + 1 : Nat) : Int) = 1 := by omega
      rw [e1, h1, hk, GU_z, show (2 : Int) - 1 = 1 by omega, Int.ediv_one]
      omega
    · have := ih (p + (p - 1) / (c ((k + 1 : Nat) : Int) - 1)) (by omega) (by omega) (fun i a b => hc i a (by omega))
      omega
/-! the side of the program: going up -/
theorem xup33v {v1 f : Int} {luck c : Int → Int} : ∀ (n k : Nat) (v5 v6 r : Int), f_X0_goUp_L33 n v1 f v5 v6 luck = some r → v5 = (k : Int) → (∀ i, 1 ≤ i → i ≤ (k : Int) → f_X0_countIn v1 f i luck = some (c i) ∧ 2 ≤ c i) → r = GU c k v6 := by
  intro n
  induction n with
  | zero => intro k v5 v6 r h; exact absurd h (by rw [f_X0_goUp_L33_z]; intro q; cases q)
  | succ n ih =>
    intro k v5 v6 r h e5 hc
    rw [f_X0_goUp_L33_s] at h
    obtain ⟨-, h⟩ := zg_some h
    cases k with
    | zero =>
      rw [if_pos (show v5 < 1 by omega)] at h
      cases h
      rfl
    | succ k =>
      rw [if_neg (show ¬ v5 < 1 by omega)] at h
      obtain ⟨h1, h2⟩ := hc v5 (by omega) (by omega)
      rw [h1, Option.bind_some] at h
      obtain ⟨-, h⟩ := zg_some h
      obtain ⟨-, h⟩ := zg_some h
      rw [if_neg (show ¬ c v5 - 1 < 1 by omega)] at h
      have := ih k _ _ r h (by omega) (fun i p q => hc i p (by omega))
      rw [GU_s, ← e5]
      exact this
theorem xgo {v1 f place v4 : Int} {K : Nat} {luck c : Int → Int} (e4 : v4 = (K : Int)) (hp : 1 ≤ place ∧ place ≤ 200) (hK : (K : Int) ≤ 1000) (hc : ∀ i, 1 ≤ i → i ≤ (K : Int) → f_X0_countIn v1 f i luck = some (c i) ∧ (2 ≤ c i ∧ c i ≤ 1000000)) (hm : ∀ i j, 1 ≤ i → i ≤ j → j ≤ (K : Int) → c i ≤ c j) {r : Int} (h : f_X0_goUp v1 f place v4 luck = some r) : r = GU c K place := by
  unfold f_X0_goUp at h
  obtain ⟨s, hs, s1, s2, s3, -⟩ := xup3 (v1 := v1) (f := f) (v3 := place) (v4 := v4) (luck := luck) ⟨by omega, by omega⟩ ⟨by omega, by omega⟩ (fun i p q => ⟨_, (hc i p (by omega)).1, by have := (hc i p (by omega)).2; exact ⟨by omega, by omega⟩⟩) zF 0 (by omega) (by omega) (by rw [zF_eq]; omega)
  rw [hs, Option.bind_some] at h
  obtain ⟨r', h1, h2⟩ := zb h
  cases h2
  obtain ⟨k, ek⟩ : ∃ k : Nat, s = (k : Int) := ⟨s.toNat, by omega⟩
  have e := xup33v (c := c) zF k s place _ h1 ek (fun i p q => ⟨(hc i p (by omega)).1, (hc i p (by omega)).2.1⟩)
  rw [e]
  obtain ⟨m, em⟩ : ∃ m, K = k + m := ⟨K - k, by omega⟩
  rw [em]
  refine (GU_skip hp.1 m (fun i a b => ?_)).symm
  obtain ⟨x, x1, x2⟩ := s3 (by omega)
  have hx := (hc (s + 1) (by omega) (by omega)).1
  rw [x1] at hx
  cases hx
  have := hm (s + 1) i (by omega) (by omega) (by omega)
  omega
/-- each count is the number on its place behind the rounds before -/
def LUS (K : Int) (luck : Int → Int) : Prop := luck 1 = 2 ∧ ∀ k : Nat, 1 ≤ k → (k : Int) + 1 ≤ K → luck ((k : Int) + 1) = GU luck k ((k : Int) + 1)
theorem LUS.step {K : Int} {luck : Int → Int} (h : LUS K luck) (hL : LK K luck) (k : Nat) (h1 : 1 ≤ k) (h2 : (k : Int) + 1 ≤ K) : luck (k : Int) ≤ luck ((k : Int) + 1) := by
  by_cases hk : k = 1
  · have a := hL ((k : Int) + 1) (by omega) h2
    have e : luck (k : Int) = 2 := by rw [hk]; exact h.1
    omega
  · obtain ⟨j, ej⟩ : ∃ j, k = j + 1 := ⟨k - 1, by omega⟩
    have a := h.2 j (by omega) (by omega)
    have b := h.2 k h1 h2
    have ek : (k : Int) = (j : Int) + 1 := by omega
    rw [b, ek, a, ej, GU_s]
    have g := hL ((j + 1 : Nat) : Int) (by omega) (by omega)
    have d0 : 0 ≤ ((j : Int) + 1 + 1 - 1) / (luck ((j + 1 : Nat) : Int) - 1) := Int.ediv_nonneg (by omega) (by omega)
    exact Int.le_of_lt (GU_lt j _ _ (fun i p q => by have := hL i p (by omega); omega) (by omega))
theorem LUS.mono {K : Int} {luck : Int → Int} (h : LUS K luck) (hL : LK K luck) : ∀ (d : Nat) (i : Int), 1 ≤ i → i + d ≤ K → luck i ≤ luck (i + d) := by
  intro d
  induction d with
  | zero => intro i _ _; exact Int.le_of_eq (congrArg luck (by omega))
  | succ d ih =>
    intro i h1 h2
    have a := ih i h1 (by omega)
    have b := h.step hL (i + d).toNat (by omega) (by omega)
    rw [show (((i + d).toNat : Nat) : Int) = i + d by omega] at b
    rw [show i + ((d + 1 : Nat) : Int) = i + d + 1 by omega]
    omega
theorem LUS.mono2 {K : Int} {luck : Int → Int} (h : LUS K luck) (hL : LK K luck) (i j : Int) (p : 1 ≤ i) (q : i ≤ j) (s : j ≤ K) : luck i ≤ luck j := by
  have := h.mono hL (j - i).toNat i p (by omega)
  rw [show i + (((j - i).toNat : Nat) : Int) = j by omega] at this
  exact this
theorem xinit_LS : ∀ (n : Nat) (v1 : Int) (luck : Int → Int), 2 ≤ v1 → v1 ≤ 65 → 65 - v1 < n → LK (v1 - 1) luck → LUS (v1 - 1) luck → ok (f_X0_init_L21 n v1 luck) (fun r => LK 64 r ∧ LUS 64 r) := by
  intro n
  induction n with
  | zero => intro v1 luck a1 a2 a3; exact absurd a3 (by omega)
  | succ n ih =>
    intro v1 luck a1 a2 a3 hL hS
    rw [f_X0_init_L21_s]
    refine ok_zg.mpr ⟨⟨by omega, by omega⟩, ok_ite.mpr ⟨fun c => ?_, fun c => ?_⟩⟩
    · have e64 : v1 - 1 = 64 := by omega
      rw [e64] at hL hS
      exact ok_some.mpr ⟨hL, hS⟩
    obtain ⟨r, hr, hr1, hr2⟩ := xup1 (f := 2) (v3 := v1) hL ⟨by omega, by omega⟩ ⟨by omega, by omega⟩
    obtain ⟨k, hk⟩ : ∃ k : Nat, v1 - 1 = (k : Int) := ⟨(v1 - 1).toNat, by omega⟩
    have hr' : r = GU luck k v1 := xgo (c := luck) hk ⟨by omega, by omega⟩ (by omega) (fun i p q => ⟨xcount1 ⟨p, by omega⟩ 2, by have := hL i p (by omega); omega, by have := hL i p (by omega); omega⟩) (fun i j p q s => hS.mono2 hL i j p q (by omega)) hr
    have hgt : v1 + 1 ≤ r := by
      have := GU_two hS.1 k v1 (by omega) (by omega) (fun i p q => by have := hL i p (by omega); omega)
      omega
    refine ok_bind.mpr (ok_of hr (ok_zg.mpr ⟨⟨by omega, by omega⟩, ih (v1 + 1) _ (by omega) (by omega) (by omega) (fun i p q => ?_) ⟨?_, fun j p q => ?_⟩⟩))
    · by_cases e : i = v1
      · rw [e, zup_same]; omega
      · rw [zup_ne e]; exact hL i p (by omega)
    · rw [zup_ne (by omega)]; exact hS.1
    · have cg : GU (zup luck v1 r) j ((j : Int) + 1) = GU luck j ((j : Int) + 1) := GU_congr j _ (fun i a b => zup_ne (by omega))
      rw [cg]
      by_cases e : (j : Int) + 1 = v1
      · rw [e, zup_same, hr', show j = k by omega]
      · rw [zup_ne e]; exact hS.2 j p (by omega)
theorem xinit2 : ok f_X0_init (fun r => LK 64 r ∧ LUS 64 r) := by
  unfold f_X0_init
  refine ok_zg.mpr ⟨⟨by omega, by omega⟩, ok_bind.mpr ((xinit_LS zF 2 _ (by omega) (by omega) (by rw [zF_eq]; omega) (fun i p q => ?_) ⟨zup_same _ _ _, fun j p q => absurd q (by omega)⟩).mono (fun r hr => ok_some.mpr hr))⟩
  rw [show i = 1 by omega, zup_same]; omega
/-! the counts, and how many are left of 2000 -/
def luL : List Int := [0, 2, 3, 7, 9, 13, 15, 21, 25, 31, 33, 37, 43, 49, 51, 63, 67, 69, 73, 75, 79, 87, 93, 99, 105, 111, 115, 127, 129, 133, 135, 141, 151, 159, 163, 169, 171, 189, 193, 195, 201, 205, 211, 219, 223, 231, 235, 237, 241, 259, 261, 267, 273, 283, 285, 289, 297, 303, 307, 319, 321, 327, 331, 339, 349]
def mmL : List Int := [2000, 1000, 667, 572, 509, 470, 439, 419, 403, 390, 379, 369, 361, 354, 348, 343, 338, 334, 330, 326, 322, 319, 316, 313, 311, 309, 307, 305, 303, 301, 299, 297, 296, 295, 294, 293, 292, 291, 290, 289, 288, 287, 286, 285, 284, 283, 282, 281, 280, 279, 278, 277, 276]
def cL (i : Int) : Int := luL.getD i.toNat 0
def mL (k : Nat) : Int := mmL.getD k 0
set_option maxRecDepth 20000 in
theorem cL_ok : ∀ k : Nat, k < 64 → 1 ≤ k → cL ((k : Int) + 1) = GU cL k ((k : Int) + 1) := by decide +kernel
theorem mL_go : ∀ k : Nat, k < 52 → cL ((k : Int) + 1) ≤ mL k ∧ mL (k + 1) = mL k - mL k / cL ((k : Int) + 1) ∧ 200 ≤ mL (k + 1) := by decide +kernel
theorem mL_end : mL 52 = 276 ∧ cL 53 = 283 ∧ cL 1 = 2 ∧ mL 0 = 2000 := by decide +kernel
theorem lu_all {luck : Int → Int} (h : LUS 64 luck) : ∀ (n : Nat), n ≤ 64 → ∀ i, 1 ≤ i → i ≤ (n : Int) → luck i = cL i := by
  intro n
  induction n with
  | zero => intro _ i a b; exact absurd b (by omega)
  | succ n ih =>
    intro hn i a b
    by_cases e : i ≤ (n : Int)
    · exact ih (by omega) i a e
    · by_cases hz : n = 0
      · rw [show i = 1 by omega, h.1, mL_end.2.2.1]
      · rw [show i = (n : Int) + 1 by omega, h.2 n (by omega) (by omega), cL_ok n (by omega) (by omega)]
        exact GU_congr n _ (fun i a b => ih (by omega) i a b)
/-! the model's sieve -/
/-- behind v4 looked at: those kept stand in front, those struck have the round -/
def SV (v1 c v4 : Int) (l0 u0 l u : Int → Int) : Prop := (∀ j, 0 ≤ j → j < v4 - v4 / c → l j = l0 (j + j / (c - 1))) ∧ (∀ j, v4 ≤ j → l j = l0 j) ∧ (∀ j, 0 ≤ j → j < v4 → (j + 1) % c = 0 → u (l0 j) = v1) ∧ (∀ x, (¬ ∃ j, 0 ≤ j ∧ j < v4 ∧ (j + 1) % c = 0 ∧ l0 j = x) → u x = u0 x)
theorem mfl57v {v1 c many : Int} {l0 u0 : Int → Int} (hc : 2 ≤ c) : ∀ (n : Nat) (v3 v4 : Int) (l u : Int → Int) (r : Int × (Int → Int) × (Int → Int)), f_X11_findLucky_L57 n v1 c v3 v4 l u many = some r → v3 = v4 - v4 / c → 0 ≤ v4 → v4 ≤ many → SV v1 c v4 l0 u0 l u → r.1 = many - many / c ∧ SV v1 c many l0 u0 r.2.1 r.2.2 := by
  intro n
  induction n with
  | zero => intro v3 v4 l u r h; exact absurd h (by rw [f_X11_findLucky_L57_z]; intro q; cases q)
  | succ n ih =>
    intro v3 v4 l u r h e3 h0 hm hS
    rw [f_X11_findLucky_L57_s] at h
    obtain ⟨-, h⟩ := zg_some h
    by_cases c1 : many ≤ v4
    · rw [if_pos c1] at h
      cases h
      have e : many = v4 := by omega
      rw [e]
      exact ⟨e3, hS⟩
    · rw [if_neg c1] at h
      obtain ⟨-, h⟩ := zg_some h
      obtain ⟨-, h⟩ := zg_some h
      have ar := dn_ar (c := c) (v := v4) hc
      obtain ⟨s1, s2, s3, s4⟩ := hS
      have d0 : 0 ≤ v4 / c := Int.ediv_nonneg h0 (by omega)
      have d1 : v4 / c ≤ v4 := Int.ediv_le_self c h0
      by_cases c2 : (v4 + 1) % c = 0
      · rw [if_neg (fun q => q c2)] at h
        obtain ⟨-, h⟩ := zg_some h
        obtain ⟨-, h⟩ := zg_some h
        have a := ar.2 c2
        refine ih v3 (v4 + 1) l _ r h (by omega) (by omega) (by omega) ⟨fun j p q => s1 j p (by omega), fun j p => s2 j (by omega), fun j p q m => ?_, fun x hx => ?_⟩
        · rw [s2 v4 (Int.le_refl _)]
          by_cases e : l0 j = l0 v4
          · rw [e, zup_same]
          · rw [zup_ne e]
            have hj : j ≠ v4 := fun z => e (by rw [z])
            exact s3 j p (by omega) m
        · rw [s2 v4 (Int.le_refl _), zup_ne (fun e => hx ⟨v4, h0, by omega, c2, e.symm⟩)]
          exact s4 x (fun ⟨j, j1, j2, j3, j4⟩ => hx ⟨j, j1, by omega, j3, j4⟩)
      · rw [if_pos c2] at h
        obtain ⟨-, h⟩ := zg_some h
        obtain ⟨-, h⟩ := zg_some h
        obtain ⟨a, b⟩ := ar.1 c2
        refine ih (v3 + 1) (v4 + 1) _ u r h (by omega) (by omega) (by omega) ⟨fun j p q => ?_, fun j p => ?_, fun j p q m => ?_, fun x hx => ?_⟩
        · by_cases e : j = v3
          · rw [e, zup_same, s2 v4 (Int.le_refl _), e3, b]
          · rw [zup_ne e]; exact s1 j p (by omega)
        · rw [zup_ne (by omega)]; exact s2 j (by omega)
        · have hj : j ≠ v4 := fun z => c2 (by rw [← z]; exact m)
          exact s3 j p (by omega) m
        · exact s4 x (fun ⟨j, j1, j2, j3, j4⟩ => hx ⟨j, j1, by omega, j3, j4⟩)
/-- behind k rounds: who stands where, and in which round who went -/
def OI (c : Int → Int) (k : Nat) (many : Int) (l u : Int → Int) : Prop := (∀ p, 1 ≤ p → p ≤ many → l (p - 1) = GU c k p) ∧ (∀ p, 1 ≤ p → p ≤ many → u (l (p - 1)) = 0) ∧ (∀ m, 1 ≤ m → m ≤ 2000 → (u m = 0 ∧ ∃ p, 1 ≤ p ∧ p ≤ many ∧ m = GU c k p) ∨ (∃ (j : Nat) (p : Int), j < k ∧ u m = (j : Int) + 1 ∧ m = GU c j p ∧ c ((j : Int) + 1) ≤ p ∧ p % c ((j : Int) + 1) = 0))
theorem OI.step {c : Int → Int} {k : Nat} {many C : Int} {l u l' u' : Int → Int} (hC : C = c ((k : Int) + 1)) (hc : ∀ i, 1 ≤ i → i ≤ (k : Int) + 1 → 2 ≤ c i) (h : OI c k many l u) (hs : SV ((k : Int) + 1) C many l u l' u') : OI c (k + 1) (many - many / C) l' u' := by
  obtain ⟨a1, a2, a3⟩ := h
  obtain ⟨s1, s2, s3, s4⟩ := hs
  have h2 : 2 ≤ C := by rw [hC]; exact hc ((k : Int) + 1) (by omega) (Int.le_refl _)
  have ek : c ((k + 1 : Nat) : Int) = C := by rw [hC, show ((k + 1 : Nat) : Int) = (k : Int) + 1 by omega]
  have inj : ∀ p q, 1 ≤ p → p ≤ many → 1 ≤ q → q ≤ many → l (p - 1) = l (q - 1) → p = q := fun p q p1 p2 q1 q2 e => by
    rw [a1 p p1 p2, a1 q q1 q2] at e
    exact GU_inj (fun i x y => hc i x (by omega)) e
  have ns : ∀ x, 1 ≤ x → x ≤ many → ¬ x % C = 0 → u' (l (x - 1)) = u (l (x - 1)) := fun x x1 x2 x3 => s4 _ (fun ⟨j, j1, j2, j3, j4⟩ => by
    have := inj (j + 1) x (by omega) (by omega) x1 x2 (by rw [show j + 1 - 1 = j by omega]; exact j4)
    rw [this] at j3
    exact x3 j3)
  have key : ∀ p, 1 ≤ p → p ≤ many - many / C → (1 ≤ p + (p - 1) / (C - 1) ∧ p + (p - 1) / (C - 1) ≤ many) ∧ ¬ (p + (p - 1) / (C - 1)) % C = 0 ∧ l' (p - 1) = l (p + (p - 1) / (C - 1) - 1) := fun p p1 p2 => by
    obtain ⟨y1, y2⟩ := up_ar h2 p1
    have d0 : 0 ≤ (p - 1) / (C - 1) := Int.ediv_nonneg (by omega) (by omega)
    have e : l' (p - 1) = l (p - 1 + (p - 1) / (C - 1)) := s1 (p - 1) (by omega) (by omega)
    rw [show p - 1 + (p - 1) / (C - 1) = p + (p - 1) / (C - 1) - 1 by omega] at e
    refine ⟨⟨by omega, ?_⟩, y1, e⟩
    generalize p + (p - 1) / (C - 1) = x at y1 y2 ⊢
    by_cases z : x ≤ many
    · exact z
    · have m := fmono2 (c := C) (v := many) (w := x - 1) h2 (by omega)
      have ar := ((dn_ar (c := C) (v := x - 1) h2).1 (by rw [show x - 1 + 1 = x by omega]; exact y1)).1
      rw [show x - 1 + 1 = x by omega] at ar
      omega
  refine ⟨fun p p1 p2 => ?_, fun p p1 p2 => ?_, fun m m1 m2 => ?_⟩
  · obtain ⟨k1, k2, k3⟩ := key p p1 p2
    rw [k3, a1 _ k1.1 k1.2, GU_s, ek]
  · obtain ⟨k1, k2, k3⟩ := key p p1 p2
    rw [k3, ns _ k1.1 k1.2 k2]
    exact a2 _ k1.1 k1.2
  · rcases a3 m m1 m2 with ⟨u0, p, p1, p2, p3⟩ | ⟨j, p, j1, j2, j3, j4, j5⟩
    · have em : l (p - 1) = m := by rw [a1 p p1 p2, p3]
      by_cases q : p % C = 0
      · right
        refine ⟨k, p, by omega, ?_, p3, ?_, by rw [← hC]; exact q⟩
        · rw [← em]; exact s3 (p - 1) (by omega) (by omega) (by rw [show p - 1 + 1 = p by omega]; exact q)
        · rw [← hC]
          by_cases z : C ≤ p
          · exact z
          · rw [Int.emod_eq_of_lt (by omega) (by omega)] at q; omega
      · left
        have n := ns p p1 p2 q
        rw [em] at n
        obtain ⟨b1, b2⟩ := (dn_ar (c := C) (v := p - 1) h2).1 (by rw [show p - 1 + 1 = p by omega]; exact q)
        rw [show p - 1 + 1 = p by omega] at b1
        have f := fmono2 (c := C) (v := p) (w := many) h2 p2
        have g : (p - 1) / C ≤ p - 1 := Int.ediv_le_self C (by omega)
        refine ⟨by rw [n]; exact u0, (p - 1) - (p - 1) / C + 1, by omega, by omega, ?_⟩
        rw [GU_s, ek, show p - 1 - (p - 1) / C + 1 - 1 = p - 1 - (p - 1) / C by omega, show p - 1 - (p - 1) / C + 1 + (p - 1 - (p - 1) / C) / (C - 1) = p by omega]
        exact p3
    · right
      refine ⟨j, p, by omega, ?_, j3, j4, j5⟩
      rw [s4 m (fun ⟨i, i1, i2, i3, i4⟩ => by
        have := a2 (i + 1) (by omega) (by omega)
        rw [show i + 1 - 1 = i by omega, i4, j2] at this
        omega)]
      exact j2
theorem mfl44v {luck : Int → Int} (hL : LK 64 luck) (hS : LUS 64 luck) : ∀ (n k : Nat) (v1 v2 many : Int) (l u : Int → Int) (r : (Int → Int) × (Int → Int) × Int), f_X11_findLucky_L44 n v1 v2 l u many = some r → v1 = (k : Int) + 1 → v2 = luck ((k : Int) + 1) → many = mL k → k ≤ 52 → OI luck k many l u → OI luck 52 276 r.1 r.2.1 := by
  have lu := lu_all hS 64 (by omega)
  intro n
  induction n with
  | zero => intro k v1 v2 many l u r h; exact absurd h (by unfold f_X11_findLucky_L44; intro q; cases q)
  | succ n ih =>
    intro k v1 v2 many l u r h e1 e2 e3 hk hO
    have ec : v2 = cL ((k : Int) + 1) := by rw [e2]; exact lu _ (by omega) (by omega)
    rw [f_X11_findLucky_L44_s] at h
    obtain ⟨-, h⟩ := zg_some h
    by_cases c1 : many < v2
    · rw [if_pos c1] at h
      cases h
      have e52 : k = 52 := by
        by_cases z : k = 52
        · exact z
        · have := (mL_go k (by omega)).1; omega
      rw [e52] at hO e3
      rw [mL_end.1] at e3
      rw [e3] at hO
      exact hO
    · rw [if_neg c1] at h
      have k52 : k < 52 := by
        by_cases z : k = 52
        · rw [z] at e3 ec
          rw [mL_end.1] at e3
          have : cL (((52 : Nat) : Int) + 1) = 283 := mL_end.2.1
          omega
        · omega
      obtain ⟨⟨r1, r2, r3⟩, f1, f2⟩ := zb h
      dsimp only at f2
      have h2 : 2 ≤ v2 := by rw [e2]; have := hL ((k : Int) + 1) (by omega) (by omega); omega
      have m0 : 0 ≤ many := by omega
      have z0 : (0 : Int) / v2 = 0 := Int.zero_ediv v2
      obtain ⟨g1, g2⟩ := mfl57v (l0 := l) (u0 := u) h2 zF 0 0 l u _ f1 (by omega) (by omega) m0 ⟨fun j p q => absurd q (by omega), fun _ _ => rfl, fun j p q => absurd q (by omega), fun _ _ => rfl⟩
      dsimp only at g1 g2
      rw [e1] at g2
      have hO2 := OI.step e2 (fun i p q => by have := hL i p (by omega); omega) hO g2
      obtain ⟨t1, t2, t3⟩ := mL_go k k52
      have er : r1 = mL (k + 1) := by rw [g1, t2, e3, ec]
      rw [← g1] at hO2
      obtain ⟨-, f2⟩ := zg_some f2
      rw [if_pos (show v1 + 1 ≤ r1 by omega)] at f2
      obtain ⟨-, f2⟩ := zg_some f2
      unfold f_X11_findLucky_J146 at f2
      obtain ⟨-, f2⟩ := zg_some f2
      have ev : r2 (v1 + 1 - 1) = luck (((k + 1 : Nat) : Int) + 1) := by
        rw [show v1 + 1 - 1 = (((k + 1 : Nat) : Int) + 1) - 1 by omega, hO2.1 _ (by omega) (by omega)]
        exact (hS.2 (k + 1) (by omega) (by omega)).symm
      have hb := hL (((k + 1 : Nat) : Int) + 1) (by omega) (by omega)
      rw [ev, if_pos (show 2 ≤ luck (((k + 1 : Nat) : Int) + 1) by omega)] at f2
      exact ih (k + 1) _ _ _ _ _ r f2 (by omega) rfl er (by omega) hO2
theorem mfl9v : ∀ (n : Nat) (v1 : Int) (l u : Int → Int) (r : (Int → Int) × (Int → Int)), f_X11_findLucky_L9 n v1 l u = some r → 0 ≤ v1 → v1 ≤ 2000 → (∀ i, 0 ≤ i → i < v1 → l i = i + 1) → (∀ x, 1 ≤ x → x ≤ v1 → u x = 0) → (∀ i, 0 ≤ i → i < 2000 → r.1 i = i + 1) ∧ (∀ x, 1 ≤ x → x ≤ 2000 → r.2 x = 0) := by
  intro n
  induction n with
  | zero => intro v1 l u r h; exact absurd h (by unfold f_X11_findLucky_L9; intro q; cases q)
  | succ n ih =>
    intro v1 l u r h a1 a2 h1 h2
    rw [f_X11_findLucky_L9_s] at h
    obtain ⟨-, h⟩ := zg_some h
    by_cases c : 2000 ≤ v1
    · rw [if_pos c] at h
      cases h
      exact ⟨fun i p q => h1 i p (by omega), fun x p q => h2 x p (by omega)⟩
    · rw [if_neg c] at h
      obtain ⟨-, h⟩ := zg_some h
      obtain ⟨-, h⟩ := zg_some h
      refine ih (v1 + 1) _ _ r h (by omega) (by omega) (fun i p q => ?_) (fun x p q => ?_)
      · by_cases e : i = v1
        · rw [e, zup_same]
        · rw [zup_ne e]; exact h1 i p (by omega)
      · by_cases e : x = v1 + 1
        · rw [e, zup_same]
        · rw [zup_ne e]; exact h2 x p (by omega)
theorem mlucky_v {luck l u : Int → Int} {many : Int} (hL : LK 64 luck) (hS : LUS 64 luck) {r : (Int → Int) × (Int → Int) × Int} (h : f_X11_findLucky l u many = some r) : OI luck 52 276 r.1 r.2.1 := by
  unfold f_X11_findLucky at h
  obtain ⟨⟨l1, u1⟩, e1, h⟩ := zb h
  dsimp only at h
  obtain ⟨⟨l2, u2, m2⟩, e2, h⟩ := zb h
  dsimp only at h
  cases h
  obtain ⟨g1, g2⟩ := mfl9v zF 0 l u _ e1 (by omega) (by omega) (fun i p q => absurd q (by omega)) (fun x p q => absurd q (by omega))
  dsimp only at g1 g2
  refine mfl44v hL hS zF 0 1 2 2000 l1 u1 _ e2 (by omega) hS.1.symm mL_end.2.2.2.symm (by omega) ⟨fun p p1 p2 => ?_, fun p p1 p2 => ?_, fun m m1 m2 => ?_⟩
  · rw [g1 (p - 1) (by omega) (by omega), GU_z]; omega
  · rw [g1 (p - 1) (by omega) (by omega), g2 _ (by omega) (by omega)]
  · exact Or.inl ⟨g2 m m1 m2, m, m1, m2, (GU_z luck m).symm⟩
