/-! a row begun, two who change places, on both sides -/
theorem fill_L {v1 : Int} : ∀ (n : Nat) (v2 : Int) (q : Int → Int), 0 ≤ v2 → v2 ≤ 121 → 121 - v2 < n → ok (f_J7_fill_53178_L5 n v1 v2 121 q) (fun r => (∀ i, v2 ≤ i → i < 121 → r i = v1) ∧ (∀ i, i < v2 → r i = q i)) := by
  intro n
  induction n with
  | zero => intro v2 q h0 h1 h2; exact absurd h2 (by omega)
  | succ n ih =>
    intro v2 q h0 h1 h2
    rw [f_J7_fill_53178_L5_s]
    refine ok_zg.mpr ⟨⟨⟨by omega, by omega⟩, ⟨by omega, by omega⟩⟩, ok_ite.mpr ⟨fun c => ok_some.mpr ⟨fun i a b => absurd b (by omega), fun i _ => rfl⟩, fun c => ok_zg.mpr ⟨⟨by omega, by omega⟩, ?_⟩⟩⟩
    refine (ih (v2 + 1) _ (by omega) (by omega) (by omega)).mono (fun r hr => ?_)
    refine ⟨fun i a b => ?_, fun i a => ?_⟩
    · by_cases e : i = v2
      · rw [hr.2 i (by omega), e, zup_same]
      · exact hr.1 i (by omega) b
    · rw [hr.2 i (by omega), zup_ne (by omega)]
theorem xbeg_L {v1 : Int} (h1 : v1 ≤ 120) : ∀ (n : Nat) (v2 : Int) (q : Int → Int), 0 ≤ v2 → v2 ≤ v1 → v1 - v2 < n → ok (f_X8_beginWith_L38 n v1 v2 q) (fun r => (∀ i, v2 ≤ i → i < v1 → r i = i + 1) ∧ (∀ i, i < v2 → r i = q i)) := by
  intro n
  induction n with
  | zero => intro v2 q h0 h1 h2; exact absurd h2 (by omega)
  | succ n ih =>
    intro v2 q h0 h2 h3
    rw [f_X8_beginWith_L38_s]
    refine ok_zg.mpr ⟨⟨⟨by omega, by omega⟩, ⟨by omega, by omega⟩⟩, ok_ite.mpr ⟨fun c => ok_some.mpr ⟨fun i a b => absurd b (by omega), fun i _ => rfl⟩, fun c => ok_zg.mpr ⟨⟨by omega, by omega⟩, ?_⟩⟩⟩
    refine (ih (v2 + 1) _ (by omega) (by omega) (by omega)).mono (fun r hr => ?_)
    refine ⟨fun i a b => ?_, fun i a => ?_⟩
    · by_cases e : i = v2
      · rw [hr.2 i (by omega), e, zup_same]
      · exact hr.1 i (by omega) b
    · rw [hr.2 i (by omega), zup_ne (by omega)]
theorem mbeg_L {v1 : Int} (h1 : v1 ≤ 120) : ∀ (n : Nat) (v2 : Int) (q : Int → Int), 0 ≤ v2 → v2 ≤ v1 → v1 - v2 < n → ok (f_X11_begin_L17 n v1 v2 q) (fun r => (∀ i, v2 ≤ i → i < v1 → r i = i + 1) ∧ (∀ i, i < v2 → r i = q i)) := by
  intro n
  induction n with
  | zero => intro v2 q h0 h1 h2; exact absurd h2 (by omega)
  | succ n ih =>
    intro v2 q h0 h2 h3
    rw [f_X11_begin_L17_s]
    refine ok_zg.mpr ⟨⟨⟨by omega, by omega⟩, ⟨by omega, by omega⟩⟩, ok_ite.mpr ⟨fun c => ok_some.mpr ⟨fun i a b => absurd b (by omega), fun i _ => rfl⟩, fun c => ok_zg.mpr ⟨⟨by omega, by omega⟩, ?_⟩⟩⟩
    refine (ih (v2 + 1) _ (by omega) (by omega) (by omega)).mono (fun r hr => ?_)
    refine ⟨fun i a b => ?_, fun i a => ?_⟩
    · by_cases e : i = v2
      · rw [hr.2 i (by omega), e, zup_same]
      · exact hr.1 i (by omega) b
    · rw [hr.2 i (by omega), zup_ne (by omega)]
theorem mbegw_L : ∀ (n : Nat) (v2 : Int) (q : Int → Int), 0 ≤ v2 → v2 ≤ 121 → 121 - v2 < n → ok (f_X11_begin_L39 n v2 q) (fun r => (∀ i, v2 ≤ i → i < 121 → r i = 0) ∧ (∀ i, i < v2 → r i = q i)) := by
  intro n
  induction n with
  | zero => intro v2 q h0 h1 h2; exact absurd h2 (by omega)
  | succ n ih =>
    intro v2 q h0 h1 h2
    rw [f_X11_begin_L39_s]
    refine ok_zg.mpr ⟨⟨by omega, by omega⟩, ok_ite.mpr ⟨fun c => ok_some.mpr ⟨fun i a b => absurd b (by omega), fun i _ => rfl⟩, fun c => ok_zg.mpr ⟨⟨by omega, by omega⟩, ?_⟩⟩⟩
    refine (ih (v2 + 1) _ (by omega) (by omega) (by omega)).mono (fun r hr => ?_)
    refine ⟨fun i a b => ?_, fun i a => ?_⟩
    · by_cases e : i = v2
      · rw [hr.2 i (by omega), e, zup_same]
      · exact hr.1 i (by omega) b
    · rw [hr.2 i (by omega), zup_ne (by omega)]
def BG (v : Int) (line went : Int → Int) : Prop := (∀ i, 0 ≤ i → i < v → line i = i + 1) ∧ (∀ x, 0 ≤ x → x < 121 → went x = 0)
theorem BG.ri {v B : Int} {line went : Int → Int} (hv : 1 ≤ v ∧ v ≤ 120) (hB : 0 ≤ B) (h : BG v line went) : RI B v v 0 line went := by
  obtain ⟨h1, h2⟩ := h
  refine ⟨hv, ⟨by omega, by omega⟩, ⟨by omega, hB⟩, fun i p q => ?_, fun i j p q p' q' e => ?_, fun x p q => ?_, fun x p q => ?_, fun _ => rfl⟩
  · rw [h1 i p q]; omega
  · rw [h1 i p q, h1 j p' q'] at e; omega
  · rw [h2 x (by omega) (by omega)]; omega
  · rw [h2 x (by omega) (by omega)]
    exact ⟨fun _ => ⟨x - 1, by omega, by omega, by rw [h1 _ (by omega) (by omega)]; omega⟩, fun _ => rfl⟩
theorem xbegin {v a b c : Int} {line went : Int → Int} (hv : zR v) : ok (f_X8_beginWith v a b c line went) (fun r => (¬ (1 ≤ v ∧ v ≤ 120) ∧ r = (0, a, b, c, line, went)) ∨ ((1 ≤ v ∧ v ≤ 120) ∧ ∃ l w, r = (1, v, v, 0, l, w) ∧ BG v l w)) := by
  unfold f_X8_beginWith
  refine ok_zg.mpr ⟨hv, ok_ite.mpr ⟨fun c1 => ok_some.mpr (Or.inl ⟨by omega, rfl⟩), fun c1 => ok_zg.mpr ⟨hv, ok_ite.mpr ⟨fun c2 => ?_, fun c2 => ok_some.mpr (Or.inl ⟨by omega, rfl⟩)⟩⟩⟩⟩
  unfold f_J7_fill_53178
  refine ok_bind.mpr (ok_bind.mpr ((fill_L zF 0 went (by omega) (by omega) (by rw [zF_eq]; omega)).mono (fun w hw => ok_some.mpr (ok_bind.mpr ?_))))
  refine (xbeg_L c2 zF 0 line (by omega) (by omega) (by rw [zF_eq]; omega)).mono (fun l hl => ok_some.mpr (Or.inr ⟨⟨by omega, c2⟩, l, w, rfl, hl.1, hw.1⟩))
theorem mbegin {v a b c : Int} {row went : Int → Int} (hv : 1 ≤ v ∧ v ≤ 120) : ok (f_X11_begin v a b c row went) (fun r => ∃ l w, r = (v, v, 0, l, w) ∧ BG v l w) := by
  unfold f_X11_begin
  refine ok_bind.mpr ((mbeg_L hv.2 zF 0 row (by omega) (by omega) (by rw [zF_eq]; omega)).mono (fun l hl => ok_bind.mpr ?_))
  exact (mbegw_L zF 0 went (by omega) (by omega) (by rw [zF_eq]; omega)).mono (fun w hw => ok_some.mpr ⟨l, w, rfl, hl.1, hw.1⟩)
theorem BG.same {v : Int} {line went line' went' : Int → Int} (h : BG v line went) (h' : BG v line' went') : eqr 0 v line line' ∧ (v ≤ 120 → eqr 1 (v + 1) went went') :=
  ⟨fun i p q => by rw [h.1 i p q, h'.1 i p q], fun hv i p q => by rw [h.2 i (by omega) (by omega), h'.2 i (by omega) (by omega)]⟩
/-! changing places -/
def SWP (there v w : Int) (line l' : Int → Int) : Prop := ∃ i j, (0 ≤ i ∧ i < there) ∧ (0 ≤ j ∧ j < there) ∧ line i = v ∧ line j = w ∧ l' = zup (zup line i w) j v
theorem SWP.ri {B size there rb v w : Int} {line went l' : Int → Int} (h : RI B size there rb line went) (hvw : v ≠ w) (k : SWP there v w line l') : RI B size there rb l' went := by
  obtain ⟨i, j, hi, hj, e1, e2, rfl⟩ := k
  obtain ⟨a1, a2, a3, a4, a5, a6, a7, a8⟩ := h
  have hij : i ≠ j := fun e => hvw (by rw [← e1, ← e2, e])
  have V : ∀ k, zup (zup line i w) j v k = if k = j then line i else if k = i then line j else line k := by
    intro k
    by_cases kj : k = j
    · rw [if_pos kj, kj, zup_same, e1]
    · rw [if_neg kj, zup_ne kj]
      by_cases ki : k = i
      · rw [if_pos ki, ki, zup_same, e2]
      · rw [if_neg ki, zup_ne ki]
  have G : ∀ k, 0 ≤ k → k < there → ∃ m, 0 ≤ m ∧ m < there ∧ zup (zup line i w) j v k = line m ∧ (m = if k = j then i else if k = i then j else k) := by
    intro k k1 k2
    rw [V k]
    by_cases kj : k = j
    · exact ⟨i, hi.1, hi.2, by rw [if_pos kj], by rw [if_pos kj]⟩
    · by_cases ki : k = i
      · exact ⟨j, hj.1, hj.2, by rw [if_neg kj, if_pos ki], by rw [if_neg kj, if_pos ki]⟩
      · exact ⟨k, k1, k2, by rw [if_neg kj, if_neg ki], by rw [if_neg kj, if_neg ki]⟩
  refine ⟨a1, a2, a3, fun k p q => ?_, fun k m p q p' q' e => ?_, a6, fun x p q => ?_, a8⟩
  · obtain ⟨m, m1, m2, m3, -⟩ := G k p q
    rw [m3]; exact a4 m m1 m2
  · obtain ⟨k', k1, k2, k3, k4⟩ := G k p q
    obtain ⟨m', m1, m2, m3, m4⟩ := G m p' q'
    rw [k3, m3] at e
    have := a5 k' m' k1 k2 m1 m2 e
    rw [k4, m4] at this
    by_cases kj : k = j
    · rw [if_pos kj] at this
      by_cases mj : m = j
      · omega
      · rw [if_neg mj] at this
        by_cases mi : m = i
        · rw [if_pos mi] at this; omega
        · rw [if_neg mi] at this; omega
    · rw [if_neg kj] at this
      by_cases ki : k = i
      · rw [if_pos ki] at this
        by_cases mj : m = j
        · rw [if_pos mj] at this; omega
        · rw [if_neg mj] at this
          by_cases mi : m = i
          · omega
          · rw [if_neg mi] at this; omega
      · rw [if_neg ki] at this
        by_cases mj : m = j
        · rw [if_pos mj] at this; omega
        · rw [if_neg mj] at this
          by_cases mi : m = i
          · rw [if_pos mi] at this; omega
          · rw [if_neg mi] at this; exact this
  · rw [a7 x p q]
    constructor
    · rintro ⟨k, k1, k2, k3⟩
      by_cases kj : k = j
      · exact ⟨i, hi.1, hi.2, by rw [V i, if_neg hij, if_pos rfl, ← kj]; exact k3⟩
      · by_cases ki : k = i
        · exact ⟨j, hj.1, hj.2, by rw [V j, if_pos rfl, ← ki]; exact k3⟩
        · exact ⟨k, k1, k2, by rw [V k, if_neg kj, if_neg ki]; exact k3⟩
    · rintro ⟨k, k1, k2, k3⟩
      obtain ⟨m, m1, m2, m3, -⟩ := G k k1 k2
      exact ⟨m, m1, m2, by rw [← m3]; exact k3⟩
theorem SWP.same {B size there rb v w : Int} {line went l' row r' : Int → Int} (h : RI B size there rb line went) (e : eqr 0 there line row) (k : SWP there v w line l') (k' : SWP there v w row r') : eqr 0 there l' r' := by
  obtain ⟨i, j, hi, hj, e1, e2, rfl⟩ := k
  obtain ⟨i', j', hi', hj', e1', e2', rfl⟩ := k'
  have q1 : i = i' := h.2.2.2.2.1 i i' hi.1 hi.2 hi'.1 hi'.2 (by rw [e i' hi'.1 hi'.2, e1, e1'])
  have q2 : j = j' := h.2.2.2.2.1 j j' hj.1 hj.2 hj'.1 hj'.2 (by rw [e j' hj'.1 hj'.2, e2, e2'])
  rw [← q1, ← q2]
  intro k p q
  by_cases kj : k = j
  · rw [kj, zup_same, zup_same]
  · rw [zup_ne kj, zup_ne kj]
    by_cases ki : k = i
    · rw [ki, zup_same, zup_same]
    · rw [zup_ne ki, zup_ne ki]; exact e k p q
/-- all are there when no round has passed -/
theorem RI.all {B size there rb x : Int} {line went : Int → Int} (h : RI B size there rb line went) (hr : rb ≤ 0) (hx : 1 ≤ x ∧ x ≤ size) : ∃ i, 0 ≤ i ∧ i < there ∧ line i = x := by
  obtain ⟨a1, a2, a3, a4, a5, a6, a7, a8⟩ := h
  have := a6 x hx.1 hx.2
  exact (a7 x hx.1 hx.2).mp (by omega)
def CPc (v w size rb : Int) : Prop := (1 ≤ v ∧ v ≤ size) ∧ (1 ≤ w ∧ w ≤ size) ∧ v ≠ w ∧ rb ≤ 0
theorem xchange {B size there rb v w : Int} {line went : Int → Int} (h : RI B size there rb line went) (hB : B ≤ 80000) (hv : zR v) (hw : zR w) : ok (f_X8_changePlaces v w size there rb line) (fun r => (¬ CPc v w size rb ∧ r = (0, line)) ∨ (CPc v w size rb ∧ ∃ l', r = (1, l') ∧ SWP there v w line l')) := by
  have b1 := h.1
  have b2 := h.2.1
  have b3 := h.2.2.1
  have hl : ∀ i, 0 ≤ i → i < there → zR (line i) := fun i p q => by have := h.2.2.2.1 i p q; exact ⟨by omega, by omega⟩
  unfold f_X8_changePlaces
  rw [xhas hv ⟨by omega, by omega⟩]
  refine ok_bind.mpr (ok_some.mpr ?_)
  rw [zg10]
  refine ok_ite.mpr ⟨fun c1 => ?_, fun c1 => ok_some.mpr (Or.inl ⟨fun q => c1 q.1, rfl⟩)⟩
  rw [xhas hw ⟨by omega, by omega⟩]
  refine ok_bind.mpr (ok_some.mpr ?_)
  rw [zg10]
  refine ok_ite.mpr ⟨fun c2 => ?_, fun c2 => ok_some.mpr (Or.inl ⟨fun q => c2 q.2.1, rfl⟩)⟩
  refine ok_zg.mpr ⟨⟨hv, hw⟩, ok_ite.mpr ⟨fun c3 => ok_some.mpr (Or.inl ⟨fun q => q.2.2.1 c3, rfl⟩), fun c3 => ?_⟩⟩
  refine ok_zg.mpr ⟨⟨by omega, by omega⟩, ok_ite.mpr ⟨fun c4 => ?_, fun c4 => ok_some.mpr (Or.inl ⟨fun q => c4 q.2.2.2, rfl⟩)⟩⟩
  refine ok_bind.mpr ((xplace hv ⟨b2.1, by omega⟩ hl).mono (fun p hp => ok_bind.mpr ((xplace hw ⟨b2.1, by omega⟩ hl).mono (fun q hq => ?_))))
  obtain ⟨i, i1, i2, i3⟩ := h.all c4 c1
  obtain ⟨j, j1, j2, j3⟩ := h.all c4 c2
  rcases hp with ⟨-, hp⟩ | ⟨p1, p2, p3, -⟩
  · exact absurd i3 (hp i i1 i2)
  rcases hq with ⟨-, hq⟩ | ⟨q1, q2, q3, -⟩
  · exact absurd j3 (hq j j1 j2)
  refine ok_zg.mpr ⟨⟨by omega, by omega⟩, ok_ite.mpr ⟨fun n => absurd n (by omega), fun _ => ok_zg.mpr ⟨⟨by omega, by omega⟩, ok_ite.mpr ⟨fun _ => ok_zg.mpr ⟨⟨by omega, by omega⟩, ok_zg.mpr ⟨⟨by omega, by omega⟩, ok_some.mpr (Or.inr ⟨⟨c1, c2, c3, c4⟩, _, rfl, p - 1, q - 1, ⟨by omega, by omega⟩, ⟨by omega, by omega⟩, p3, q3, rfl⟩)⟩⟩, fun n => absurd q1 n⟩⟩⟩⟩
/-- the model's: the places where the two stand -/
theorem mchange_L {v w many : Int} {row : Int → Int} (hv : zR v) (hw : zR w) (hm : 0 ≤ many ∧ many ≤ 120) (hl : ∀ i, 0 ≤ i → i < many → zR (row i)) : ∀ (n : Nat) (a b i : Int), 0 ≤ i → i ≤ many → many - i < n → ((0 ≤ a ∧ a < i ∧ row a = v) ∨ (a = 0 ∧ ∀ k, 0 ≤ k → k < i → row k ≠ v)) → ((0 ≤ b ∧ b < i ∧ row b = w) ∨ (b = 0 ∧ ∀ k, 0 ≤ k → k < i → row k ≠ w)) → ok (f_X11_change_L8 n v w a b i many row) (fun r => ((0 ≤ r.1 ∧ r.1 < many ∧ row r.1 = v) ∨ (r.1 = 0 ∧ ∀ k, 0 ≤ k → k < many → row k ≠ v)) ∧ ((0 ≤ r.2 ∧ r.2 < many ∧ row r.2 = w) ∨ (r.2 = 0 ∧ ∀ k, 0 ≤ k → k < many → row k ≠ w))) := by
  intro n
  induction n with
  | zero => intro a b i h0 h1 h2; exact absurd h2 (by omega)
  | succ n ih =>
    intro a b i h0 h1 h2 ha hb
    rw [f_X11_change_L8_s]
    refine ok_zg.mpr ⟨⟨⟨by omega, by omega⟩, ⟨by omega, by omega⟩⟩, ok_ite.mpr ⟨fun c => ?_, fun c => ?_⟩⟩
    · have e : i = many := by omega
      subst e
      exact ok_some.mpr ⟨ha, hb⟩
    · have hi : 0 ≤ i ∧ i < 120 := by omega
      have zi := hl i h0 (by omega)
      have nx : ∀ x y : Int, row i ≠ x → ((0 ≤ y ∧ y < i ∧ row y = x) ∨ (y = 0 ∧ ∀ k, 0 ≤ k → k < i → row k ≠ x)) → ((0 ≤ y ∧ y < i + 1 ∧ row y = x) ∨ (y = 0 ∧ ∀ k, 0 ≤ k → k < i + 1 → row k ≠ x)) := by
        intro x y ne hh
        rcases hh with ⟨h1, h2, h3⟩ | ⟨h1, h2⟩
        · exact Or.inl ⟨h1, by omega, h3⟩
        · refine Or.inr ⟨h1, fun k p q => ?_⟩
          by_cases e : k = i
          · rw [e]; exact ne
          · exact h2 k p (by omega)
      have S : ∀ a' : Int, ((0 ≤ a' ∧ a' < i + 1 ∧ row a' = v) ∨ (a' = 0 ∧ ∀ k, 0 ≤ k → k < i + 1 → row k ≠ v)) → ok (f_X11_change_J34 (f_X11_change_L8 n) v w b i a' many row) (fun r => ((0 ≤ r.1 ∧ r.1 < many ∧ row r.1 = v) ∨ (r.1 = 0 ∧ ∀ k, 0 ≤ k → k < many → row k ≠ v)) ∧ ((0 ≤ r.2 ∧ r.2 < many ∧ row r.2 = w) ∨ (r.2 = 0 ∧ ∀ k, 0 ≤ k → k < many → row k ≠ w))) := by
        intro a' ha'
        unfold f_X11_change_J34
        refine ok_zg.mpr ⟨hi, ok_zg.mpr ⟨⟨zi, hw⟩, ok_ite.mpr ⟨fun ne => ?_, fun e => ?_⟩⟩⟩
        · exact ih a' b (i + 1) (by omega) (by omega) (by omega) ha' (nx w b ne hb)
        · exact ih a' i (i + 1) (by omega) (by omega) (by omega) ha' (Or.inl ⟨h0, by omega, Decidable.of_not_not e⟩)
      refine ok_zg.mpr ⟨hi, ok_zg.mpr ⟨⟨zi, hv⟩, ok_ite.mpr ⟨fun ne => S a (nx v a ne ha), fun e => S i (Or.inl ⟨h0, by omega, Decidable.of_not_not e⟩)⟩⟩⟩
theorem mchange {B size there rb v w : Int} {row went : Int → Int} (h : RI B size there rb row went) (hv : zR v) (hw : zR w) (c : CPc v w size rb) : ok (f_X11_change v w there row) (fun l' => SWP there v w row l') := by
  have b1 := h.1
  have b2 := h.2.1
  have hl : ∀ i, 0 ≤ i → i < there → zR (row i) := fun i p q => by have := h.2.2.2.1 i p q; exact ⟨by omega, by omega⟩
  unfold f_X11_change
  refine ok_bind.mpr ((mchange_L hv hw ⟨b2.1, by omega⟩ hl zF 0 0 0 (by omega) b2.1 (by rw [zF_eq]; omega) (Or.inr ⟨rfl, fun k p q => absurd q (by omega)⟩) (Or.inr ⟨rfl, fun k p q => absurd q (by omega)⟩)).mono (fun r hr => ?_))
  obtain ⟨a, b⟩ := r
  obtain ⟨i, i1, i2, i3⟩ := h.all c.2.2.2 c.1
  obtain ⟨j, j1, j2, j3⟩ := h.all c.2.2.2 c.2.1
  obtain ⟨ha, hb⟩ := hr
  dsimp only at ha hb
  rcases ha with ⟨p1, p2, p3⟩ | ⟨-, hp⟩
  · rcases hb with ⟨q1, q2, q3⟩ | ⟨-, hq⟩
    · exact ok_zg.mpr ⟨⟨p1, by omega⟩, ok_zg.mpr ⟨⟨q1, by omega⟩, ok_some.mpr ⟨a, b, ⟨p1, p2⟩, ⟨q1, q2⟩, p3, q3, rfl⟩⟩⟩
    · exact absurd j3 (hq j j1 j2)
  · exact absurd i3 (hp i i1 i2)
