/-! a call that writes some cells of a world and leaves the others where they stand -/
def zlk (k : Nat) : List Nat → va_W → Option (Nat × va_E)
  | i :: is, x :: xs => cond (Nat.beq i k) (some x) (zlk k is xs)
  | _, _ => none
def zrep (k : Nat) : va_W → List Nat → va_W → va_W
  | [], _, _ => []
  | w :: ws, is, xs => (zlk k is xs).getD w :: zrep (k + 1) ws is xs
theorem zlk_at {k : Nat} : ∀ (is : List Nat) (xs : va_W), is.length = xs.length → (∃ j : Nat, ∃ x, is[j]? = some k ∧ xs[j]? = some x ∧ zlk k is xs = some x) ∨ (k ∉ is ∧ zlk k is xs = none) := by
  intro is
  induction is with
  | nil => intro xs _; exact Or.inr ⟨List.not_mem_nil, by cases xs <;> rfl⟩
  | cons i is ih =>
    intro xs hl
    cases xs with
    | nil => exact absurd hl (by simp)
    | cons x xs =>
      have e : zlk k (i :: is) (x :: xs) = cond (Nat.beq i k) (some x) (zlk k is xs) := rfl
      by_cases h : i = k
      · refine Or.inl ⟨0, x, by rw [List.getElem?_cons_zero, h], by rw [List.getElem?_cons_zero], ?_⟩
        rw [e, h, show Nat.beq k k = true from Nat.beq_refl k]; rfl
      · have hb : Nat.beq i k = false := by
          cases hq : Nat.beq i k with
          | false => rfl
          | true => exact absurd (Nat.eq_of_beq_eq_true hq) h
        rw [e, hb]
        rcases ih xs (by simpa using hl) with ⟨j, y, h1, h2, h3⟩ | ⟨h1, h2⟩
        · exact Or.inl ⟨j + 1, y, by rw [List.getElem?_cons_succ]; exact h1, by rw [List.getElem?_cons_succ]; exact h2, h3⟩
        · exact Or.inr ⟨fun hm => by rcases List.mem_cons.mp hm with a | a; exact h a.symm; exact h1 a, h2⟩
theorem zrep_at' {is : List Nat} {xs : va_W} (hl : is.length = xs.length) : ∀ (ws : va_W) (k n : Nat) (q : Nat × va_E), (zrep k ws is xs)[n]? = some q → (∃ j : Nat, is[j]? = some (k + n) ∧ xs[j]? = some q) ∨ (k + n ∉ is ∧ ws[n]? = some q) := by
  intro ws
  induction ws with
  | nil => intro k n q h; exact absurd h (by intro h; cases h)
  | cons w ws ih =>
    intro k n q h
    cases n with
    | zero =>
      have h' : some ((zlk k is xs).getD w) = some q := h
      rcases zlk_at (k := k) is xs hl with ⟨j, x, h1, h2, h3⟩ | ⟨h1, h2⟩
      · rw [h3] at h'
        exact Or.inl ⟨j, h1, by rw [h2]; exact h'⟩
      · rw [h2] at h'
        exact Or.inr ⟨h1, h'⟩
    | succ n =>
      have h' : (zrep (k + 1) ws is xs)[n]? = some q := h
      have := ih (k + 1) n q h'
      rw [show k + 1 + n = k + (n + 1) by omega] at this
      exact this
theorem zrep_at {ws : va_W} (is : List Nat) (xs : va_W) (hl : is.length = xs.length) (k : Nat) (q : Nat × va_E) (h : (zrep 0 ws is xs)[k]? = some q) : (∃ j : Nat, is[j]? = some k ∧ xs[j]? = some q) ∨ (k ∉ is ∧ ws[k]? = some q) := by
  have := zrep_at' hl ws 0 k q h
  rw [Nat.zero_add] at this
  exact this
section ZU
variable {p : Program} {l : Launch} {e : Env} {R : Room} {s : State} {m : MethodId} {args : Array Value} {below : List Frame} {meth : Method} {c : Code} {H : Heap} {locs : List Loc} {cells slots : Nat} {Q : State → Prop}
variable {cc : ByteArray} {pc : Nat} {ls : Array Slot} {rest : List Value} {D : va_G} {A : Nat → Prop} {ws : va_W} {H0 : Heap}
theorem z_joinU {wc wc' : va_W} {H1 : Heap} (hP : va_P D vwCl ws H) (hD : va_D A ws) (hS : va_S A H0 H locs) (hA : ∀ q, H0.size ≤ q → A q) (isC : List Nat) (hC : isC.map (fun i => ws[i]?) = wc.map some) (hlen : isC.length = wc'.length) (hk : ∀ q : Nat, q < H.size → ¬ va_A wc H.size q → H1[q]? = H[q]?) (hP1 : va_P D vwCl wc' H1) (hD1 : va_D (va_A wc H.size) wc') : va_P D vwCl (zrep 0 ws isC wc') H1 ∧ va_D A (zrep 0 ws isC wc') := by
  have hF := va_free hD hS hA isC hC
  have hw := zrep_at (ws := ws) isC wc' hlen
  have at' : ∀ (k : Nat) (q : Nat × va_E), wc[k]? = some q → ∃ i : Nat, isC[k]? = some i ∧ ws[i]? = some q := by
    intro k q hq
    have h1 : (isC.map (fun i => ws[i]?))[k]? = some (some q) := by rw [hC, List.getElem?_map, hq]; rfl
    rw [List.getElem?_map] at h1
    cases hi : isC[k]? with
    | none => rw [hi] at h1; cases h1
    | some i => rw [hi] at h1; exact ⟨i, rfl, Option.some.inj h1⟩
  have apart : ∀ (k : Nat) (q : Nat × va_E), k ∉ isC → ws[k]? = some q → q.1 < H.size ∧ ¬ va_A wc H.size q.1 := by
    intro k q hn hq
    have hl := (hP k q hq).lt
    refine ⟨hl, fun h => ?_⟩
    rcases h with ⟨k2, e, h⟩ | h
    · obtain ⟨j, h3, h4⟩ := at' k2 (q.1, e) h
      have hij := hD.1 k j q (q.1, e) hq h4 rfl
      subst hij
      exact hn (List.mem_of_getElem? h3)
    · omega
  refine ⟨fun k q hq => ?_, fun i j x y hx hy hxy => ?_, fun k q hq => ?_⟩
  · rcases hw k q hq with ⟨j, -, h2⟩ | ⟨h1, h2⟩
    · exact hP1 j q h2
    · obtain ⟨g1, g2⟩ := apart k q h1 h2
      exact (hP k q h2).kept (hk q.1 g1 g2)
  · rcases hw i x hx with ⟨j1, a1, a2⟩ | ⟨a1, a2⟩
    · rcases hw j y hy with ⟨j2, b1, b2⟩ | ⟨b1, b2⟩
      · have := hD1.1 j1 j2 x y a2 b2 hxy
        subst this
        rw [a1] at b1
        exact Option.some.inj b1
      · exact absurd (by rw [← hxy]; exact hD1.2 j1 x a2) (apart j y b1 b2).2
    · rcases hw j y hy with ⟨j2, b1, b2⟩ | ⟨b1, b2⟩
      · exact absurd (by rw [hxy]; exact hD1.2 j2 y b2) (apart i x a1 a2).2
      · exact hD.1 i j x y a2 b2 hxy
  · rcases hw k q hq with ⟨j, -, h2⟩ | ⟨h1, h2⟩
    · exact hF q.1 (hD1.2 j q h2)
    · exact hD.2 k q h2
theorem z_calliU {wc wc' ws' : va_W} {st0 : List Value} {av : Array Value} {res : Int} (hr : va_Run p l e R s m args below meth c H locs cells slots 0 0 (F0 m pc ls st0) rest (zQi D wc' res (va_A wc H.size) av) (va_A wc H.size)) (hP : va_P D vwCl ws H) (hD : va_D A ws) (hS : va_S A H0 H locs) (hA : ∀ q, H0.size ≤ q → A q) (isC : List Nat) (hC : isC.map (fun i => ws[i]?) = wc.map some) (hlen : isC.length = wc'.length) (hw' : zrep 0 ws isC wc' = ws')
    (kk : ∀ (H1 : Heap) (locs1 : List Loc), va_P D vwCl ws' H1 → va_D A ws' → va_S A H0 H1 locs1 → W p l e R s m args below meth c H1 locs1 cells slots Q (F0 m (pc + 3) ls (.int (zi res) :: rest))) : W p l e R s m args below meth c H locs cells slots Q (F0 m pc ls st0) := by
  have hFc := va_free hD hS hA isC hC
  refine va_calli hr hS (fun q _ h => hFc q h) hFc (fun r1 _ t H1 locs1 ht hvm hw hB hz1 hk1 hS1 => ?_)
  obtain ⟨hB1, hB2⟩ := hB
  rw [ht] at hB1
  obtain ⟨g1, g2⟩ := z_joinU hP hD hS hA isC hC hlen hk1 hB1 hB2
  rw [hw'] at g1 g2
  subst hw
  exact kk H1 locs1 g1 g2 hS1
theorem z_calllU {wc wc' ws' : va_W} {st0 : List Value} {av : Array Value} {res : Int} (hr : va_Run p l e R s m args below meth c H locs cells slots 0 0 (F0 m pc ls st0) rest (zQl D wc' res (va_A wc H.size) av) (va_A wc H.size)) (hP : va_P D vwCl ws H) (hD : va_D A ws) (hS : va_S A H0 H locs) (hA : ∀ q, H0.size ≤ q → A q) (isC : List Nat) (hC : isC.map (fun i => ws[i]?) = wc.map some) (hlen : isC.length = wc'.length) (hw' : zrep 0 ws isC wc' = ws')
    (kk : ∀ (H1 : Heap) (locs1 : List Loc), va_P D vwCl ws' H1 → va_D A ws' → va_S A H0 H1 locs1 → W p l e R s m args below meth c H1 locs1 cells slots Q (F0 m (pc + 3) ls (.long (zl res) :: rest))) : W p l e R s m args below meth c H locs cells slots Q (F0 m pc ls st0) := by
  have hFc := va_free hD hS hA isC hC
  refine va_calll hr hS (fun q _ h => hFc q h) hFc (fun r1 _ t H1 locs1 ht hvm hw hB hz1 hk1 hS1 => ?_)
  obtain ⟨hB1, hB2⟩ := hB
  rw [ht] at hB1
  obtain ⟨g1, g2⟩ := z_joinU hP hD hS hA isC hC hlen hk1 hB1 hB2
  rw [hw'] at g1 g2
  subst hw
  exact kk H1 locs1 g1 g2 hS1
theorem z_callvU {wc wc' ws' : va_W} {st0 : List Value} {av : Array Value}  (hr : va_Run p l e R s m args below meth c H locs cells slots 0 0 (F0 m pc ls st0) rest (zQv D wc'  (va_A wc H.size) av) (va_A wc H.size)) (hP : va_P D vwCl ws H) (hD : va_D A ws) (hS : va_S A H0 H locs) (hA : ∀ q, H0.size ≤ q → A q) (isC : List Nat) (hC : isC.map (fun i => ws[i]?) = wc.map some) (hlen : isC.length = wc'.length) (hw' : zrep 0 ws isC wc' = ws')
    (kk : ∀ (H1 : Heap) (locs1 : List Loc), va_P D vwCl ws' H1 → va_D A ws' → va_S A H0 H1 locs1 → W p l e R s m args below meth c H1 locs1 cells slots Q (F0 m (pc + 3) ls (rest))) : W p l e R s m args below meth c H locs cells slots Q (F0 m pc ls st0) := by
  have hFc := va_free hD hS hA isC hC
  refine va_callv hr hS (fun q _ h => hFc q h) hFc (fun _ t H1 locs1 ht hvm hw hB hz1 hk1 hS1 => ?_)
  obtain ⟨hB1, hB2⟩ := hB
  rw [ht] at hB1
  obtain ⟨g1, g2⟩ := z_joinU hP hD hS hA isC hC hlen hk1 hB1 hB2
  rw [hw'] at g1 g2
  skip
  exact kk H1 locs1 g1 g2 hS1
theorem z_callrU {wc wc' ws' : va_W} {st0 : List Value} {av : Array Value} {ra : Nat} (hr : va_Run p l e R s m args below meth c H locs cells slots 0 0 (F0 m pc ls st0) rest (zQr D wc' ra (va_A wc H.size) av) (va_A wc H.size)) (hP : va_P D vwCl ws H) (hD : va_D A ws) (hS : va_S A H0 H locs) (hA : ∀ q, H0.size ≤ q → A q) (isC : List Nat) (hC : isC.map (fun i => ws[i]?) = wc.map some) (hlen : isC.length = wc'.length) (hw' : zrep 0 ws isC wc' = ws')
    (kk : ∀ (H1 : Heap) (locs1 : List Loc), va_P D vwCl ws' H1 → va_D A ws' → va_S A H0 H1 locs1 → W p l e R s m args below meth c H1 locs1 cells slots Q (F0 m (pc + 3) ls (.ref ra :: rest))) : W p l e R s m args below meth c H locs cells slots Q (F0 m pc ls st0) := by
  have hFc := va_free hD hS hA isC hC
  refine va_callr hr hS (fun q _ h => hFc q h) hFc (fun _ r1 t H1 locs1 ht hvm hw hB hz1 hk1 hS1 => ?_)
  obtain ⟨hB0, hB1, hB2⟩ := hB
  rw [ht] at hB1
  obtain ⟨g1, g2⟩ := z_joinU hP hD hS hA isC hC hlen hk1 hB1 hB2
  rw [hw'] at g1 g2
  subst hB0
  exact kk H1 locs1 g1 g2 hS1
end ZU
