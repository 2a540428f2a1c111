/-! friends answer alike -/
theorem xfr_L {there size mt mr mk mf mc : Int} {line ms ml mg w2 : Int → Int} (ht : 0 ≤ there ∧ there ≤ 120) (hl : ∀ i, 0 ≤ i → i < there → 1 ≤ line i ∧ line i ≤ size) (hs : 1 ≤ size ∧ size ≤ 120) (hw : ∀ x, 1 ≤ x → x ≤ size → zR (w2 x)) : ∀ (n : Nat) (v : Int), 1 ≤ v → v ≤ 121 → 130 - v < n → ok (f_X10_friends_L7 n v there line size mt mr mk mf mc ms ml mg w2) (fun r => (r.1 = -9 ∧ ∀ k, v - 1 ≤ k → k + 1 < there → ¬ (w2 (line k) = 0 ∧ w2 (line (k + 1)) = 0)) ∨ (v ≤ r.1 ∧ r.1 < there ∧ (w2 (line (r.1 - 1)) = 0 ∧ w2 (line r.1) = 0) ∧ ∀ k, v - 1 ≤ k → k + 1 < r.1 → ¬ (w2 (line k) = 0 ∧ w2 (line (k + 1)) = 0))) := by
  intro n
  induction n with
  | zero => intro v a1 a2 a3; exact absurd a3 (by omega)
  | succ n ih =>
    intro v a1 a2 a3
    rw [f_X10_friends_L7_s]
    refine ok_zg.mpr ⟨⟨⟨by omega, by omega⟩, ⟨by omega, by omega⟩⟩, ok_ite.mpr ⟨fun c => ok_some.mpr (Or.inl ⟨rfl, fun k p q => absurd q (by omega)⟩), fun c => ok_zg.mpr ⟨⟨by omega, by omega⟩, ok_bind.mpr ?_⟩⟩⟩
    have l0 := hl (v - 1) (by omega) (by omega)
    have l1 := hl v (by omega) (by omega)
    have nx : ¬ (w2 (line (v - 1)) = 0 ∧ w2 (line v) = 0) → ok (f_X10_friends_L7 n (v + 1) there line size mt mr mk mf mc ms ml mg w2) (fun r => (r.1 = -9 ∧ ∀ k, v - 1 ≤ k → k + 1 < there → ¬ (w2 (line k) = 0 ∧ w2 (line (k + 1)) = 0)) ∨ (v ≤ r.1 ∧ r.1 < there ∧ (w2 (line (r.1 - 1)) = 0 ∧ w2 (line r.1) = 0) ∧ ∀ k, v - 1 ≤ k → k + 1 < r.1 → ¬ (w2 (line k) = 0 ∧ w2 (line (k + 1)) = 0))) := by
      intro ne
      refine (ih (v + 1) (by omega) (by omega) (by omega)).mono (fun r hr => ?_)
      rcases hr with ⟨q1, q2⟩ | ⟨q1, q2, q3, q4⟩
      · refine Or.inl ⟨q1, fun k p q => ?_⟩
        by_cases e : k = v - 1
        · rw [e, show v - 1 + 1 = v by omega]; exact ne
        · exact q2 k (by omega) q
      · refine Or.inr ⟨by omega, q2, q3, fun k p q => ?_⟩
        by_cases e : k = v - 1
        · rw [e, show v - 1 + 1 = v by omega]; exact ne
        · exact q4 k (by omega) q
    rw [xremains ⟨by omega, by omega⟩ hs hw]
    refine ok_some.mpr ?_
    rw [zg10]
    refine ok_ite.mpr ⟨fun c2 => ok_zg.mpr ⟨⟨by omega, by omega⟩, ok_bind.mpr ?_⟩, fun c2 => nx (fun q => c2 ⟨l0, q.1⟩)⟩
    rw [xremains ⟨by omega, by omega⟩ hs hw]
    refine ok_some.mpr ?_
    rw [zg10]
    exact ok_ite.mpr ⟨fun c3 => ok_some.mpr (Or.inr ⟨Int.le_refl _, by dsimp only; omega, ⟨c2.2, c3.2⟩, fun k p q => absurd q (by dsimp only at q; omega)⟩), fun c3 => nx (fun q => c3 ⟨l1, q.2⟩)⟩
theorem p_friends {size there rb kind fig sc ms mt mr mk mf mc gm pl tk ki stm th : Int} {steps line gone went st ro we m1 m2 m3 m4 g' going kept stg wg : Int → Int} (h : SR size there rb kind fig sc steps line went st ro we) : ∃ r : Int × Int × Int × Int × Int × Int × Int × (Int → Int) × (Int → Int) × (Int → Int) × (Int → Int), f_X10_friends size there rb kind fig sc steps line gone went ms mt mr mk mf mc m1 m2 m3 m4 = some r ∧ ok (f_X11_friends size there rb kind fig sc st ro we th g' going gm kept pl tk ki stg stm wg) (A21 size there rb kind fig sc st ro we (fun a => a = r.1)) := by
  have b1 := h.1.1
  obtain ⟨r, th2, rb2, l2, g2, w2, x1, x2⟩ := p_end (gone := gone) (ms := ms) (mt := mt) (mr := mr) (mk := mk) (mf := mf) (mc := mc) (m1 := m1) (m2 := m2) (m3 := m3) (m4 := m4) (g' := g') (going := going) (gm := gm) h
  have M := mfriends (th := th) (kept := kept) (pl := pl) (tk := tk) (ki := ki) (stg := stg) (stm := stm) (wg := wg) h.mri h.mpi x2
  have hb : RI 80000 size th2 rb2 l2 w2 := by
    obtain ⟨q, -, hq⟩ := x2
    exact (EP.out hq).2.2.1.1
  obtain ⟨p, y1, y2⟩ := xfr_L (mt := th2) (mr := rb2) (mk := kind) (mf := fig) (mc := sc) (ms := zcp steps m1 8) (ml := l2) (mg := g2) h.t (fun i p q => h.1.2.2.2.1 i p q) b1 (fun x p q => hb.zw (by omega) x p q) zF 1 (by omega) (by omega) (by rw [zF_eq]; omega)
  unfold f_X10_friends
  rw [x1, Option.bind_some]
  dsimp only
  refine ⟨p, y1, M.mono (fun q hq => ⟨?_, hq.2⟩)⟩
  obtain ⟨ret, stm, gm, stg, going, wg, ro', ⟨rd2, ro2, we2, gn, hP, e1, e2, -⟩, er, hz⟩ := hq.1
  obtain ⟨q1, q2, q3, q4, q5⟩ := EP.out hP
  subst q2
  have ht := h.t
  have key : ∀ k, 0 ≤ k → k < there → (IS (ro' k) stm stg = 1 ↔ w2 (line k) = 0) := by
    intro k k1 k2
    rw [← er k k1 (by omega), ← h.2.2.2.1 k k1 k2]
    exact IS_line q3 e1 (h.1.2.2.2.1 k k1 k2)
  rcases hz with ⟨z1, z2⟩ | ⟨z1, z2, z3, z4⟩
  · rcases y2 with ⟨w1, -⟩ | ⟨w1, w2', w3, -⟩
    · rw [z1, w1]
    · refine absurd ⟨?_, ?_⟩ (z2 (p.1 - 1) (by omega) (by omega))
      · exact (key _ (by omega) (by omega)).mpr w3.1
      · rw [show p.1 - 1 + 1 = p.1 by omega]; exact (key _ (by omega) w2').mpr w3.2
  · rcases y2 with ⟨w1, w2'⟩ | ⟨w1, w2', w3, w4⟩
    · refine absurd ⟨?_, ?_⟩ (w2' (q.1 - 1) (by omega) (by omega))
      · exact (key _ (by omega) (by omega)).mp z3.1
      · rw [show q.1 - 1 + 1 = q.1 by omega]; exact (key _ (by omega) z2).mp z3.2
    · by_cases c : q.1 < p.1
      · refine absurd ⟨?_, ?_⟩ (w4 (q.1 - 1) (by omega) (by omega))
        · exact (key _ (by omega) (by omega)).mp z3.1
        · rw [show q.1 - 1 + 1 = q.1 by omega]; exact (key _ (by omega) z2).mp z3.2
      · by_cases c2 : p.1 < q.1
        · refine absurd ⟨?_, ?_⟩ (z4 (p.1 - 1) (by omega) (by omega))
          · exact (key _ (by omega) (by omega)).mpr w3.1
          · rw [show p.1 - 1 + 1 = p.1 by omega]; exact (key _ (by omega) w2').mpr w3.2
        · omega
