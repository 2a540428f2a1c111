/-! pure: what an answer that is there says -/
def ok {α : Type} (x : Option α) (P : α → Prop) : Prop := ∃ r, x = some r ∧ P r
theorem ok_some {α : Type} {r : α} {P : α → Prop} : ok (some r) P ↔ P r := ⟨fun ⟨q, h, hp⟩ => by cases h; exact hp, fun h => ⟨r, rfl, h⟩⟩
theorem ok_zg {α : Type} {p : Prop} [Decidable p] {x : Option α} {P : α → Prop} : ok (zg p x) P ↔ p ∧ ok x P := by
  constructor
  · rintro ⟨r, h, hp⟩
    obtain ⟨h1, h2⟩ := zg_some h
    exact ⟨h1, r, h2, hp⟩
  · rintro ⟨h1, h2⟩
    rw [zg_pos h1]
    exact h2
theorem ok_ite {α : Type} {c : Prop} [Decidable c] {a b : Option α} {P : α → Prop} : ok (if c then a else b) P ↔ (c → ok a P) ∧ (¬ c → ok b P) := by
  by_cases h : c
  · rw [if_pos h]; exact ⟨fun q => ⟨fun _ => q, fun n => absurd h n⟩, fun q => q.1 h⟩
  · rw [if_neg h]; exact ⟨fun q => ⟨fun n => absurd n h, fun _ => q⟩, fun q => q.2 h⟩
theorem ok_bind {α β : Type} {x : Option α} {f : α → Option β} {P : β → Prop} : ok (x.bind f) P ↔ ok x (fun r => ok (f r) P) := by
  constructor
  · rintro ⟨r, h, hp⟩
    obtain ⟨v, h1, h2⟩ := zb h
    exact ⟨v, h1, r, h2, hp⟩
  · rintro ⟨v, h1, r, h2, hp⟩
    rw [h1]
    exact ⟨r, h2, hp⟩
theorem ok.mono {α : Type} {x : Option α} {P Q : α → Prop} (h : ok x P) (hq : ∀ r, P r → Q r) : ok x Q := by
  obtain ⟨r, h1, h2⟩ := h
  exact ⟨r, h1, hq r h2⟩
theorem ok.and {α : Type} {x : Option α} {P Q : α → Prop} (h : ok x P) (g : ok x Q) : ok x (fun r => P r ∧ Q r) := by
  obtain ⟨r, h1, h2⟩ := h
  obtain ⟨r', g1, g2⟩ := g
  rw [h1] at g1
  cases g1
  exact ⟨r, h1, h2, g2⟩
theorem ok_of {α : Type} {x : Option α} {r : α} {P : α → Prop} (h : x = some r) (hp : P r) : ok x P := ⟨r, h, hp⟩
theorem ok.get {α : Type} {x : Option α} {r : α} {P : α → Prop} (h : ok x P) (e : x = some r) : P r := by
  obtain ⟨q, h1, h2⟩ := h
  rw [h1] at e
  cases e
  exact h2
theorem zup_same (g : Int → Int) (i v : Int) : zup g i v i = v := if_pos rfl
theorem zup_ne {g : Int → Int} {i v j : Int} (h : j ≠ i) : zup g i v j = g j := if_neg h
theorem zcp_in {f g : Int → Int} {n j : Int} (h : 0 ≤ j) (h2 : j < n) : zcp f g n j = f j := if_pos ⟨h, h2⟩
theorem zR_of {a : Int} (h : -2147483648 ≤ a) (h2 : a ≤ 2147483647) : zR a := ⟨h, h2⟩
theorem zF_eq : zF = 4000 := rfl
