/-! count: each side answers -/
theorem xcountm {v tc size there rb kind fig sc ms mt mr mk mf mc lc : Int} {R steps line gone went m1 m2 m3 m4 : Int → Int} (hv : zR v) (h : RI 999 size there rb line went) (hp : PI kind fig sc steps) : ok (f_X10_count v tc R size there rb kind fig sc steps line gone went ms mt mr mk mf mc m1 m2 m3 m4 lc) (fun _ => True) := by
  have J : ok (f_X10_count_J22 v tc size there rb kind fig sc steps line gone went ms mt mr mk mf mc m1 m2 m3 m4 lc) (fun _ => True) := by
    unfold f_X10_count_J22
    refine ok_zg.mpr ⟨hv, ok_ite.mpr ⟨fun _ => ok_some.mpr trivial, fun _ => ok_ite.mpr ⟨fun _ => ok_some.mpr trivial, fun _ => ok_ite.mpr ⟨fun _ => ok_some.mpr trivial, fun _ => ok_ite.mpr ⟨fun _ => ok_some.mpr trivial, fun _ => ok_ite.mpr ⟨fun _ => ok_some.mpr trivial, fun _ => ok_ite.mpr ⟨fun _ => ok_some.mpr trivial, fun _ => ok_ite.mpr ⟨fun _ => ok_some.mpr trivial, fun _ => ok_ite.mpr ⟨fun _ => ok_some.mpr trivial, fun _ => ok_ite.mpr ⟨fun _ => ?_, fun _ => ok_some.mpr trivial⟩⟩⟩⟩⟩⟩⟩⟩⟩⟩
    refine ok_bind.mpr ((xgte h hp).mono (fun r _ => ?_))
    obtain ⟨r1, r2, r3, r4, r5, r6, r7, r8, r9, r10, r11⟩ := r
    exact ok_some.mpr trivial
  unfold f_X10_count
  exact ok_zg.mpr ⟨hv, ok_ite.mpr ⟨fun _ => J, fun c => ok_zg.mpr ⟨hv, ok_ite.mpr ⟨fun _ => J, fun c2 => ok_zg.mpr ⟨⟨by omega, by omega⟩, ok_some.mpr trivial⟩⟩⟩⟩⟩
theorem mcountm {v size many rounds kind fig sc th gm pl tk ki stm lm tm : Int} {R steps row went gone going kept stg wg : Int → Int} (hv : zR v) (h : RI 999 size many rounds row went) (hp : PI kind fig sc steps) : ok (f_X11_count v size many rounds kind fig sc steps row went th R gone going gm kept pl tk ki stg stm wg lm tm) (A21 size many rounds kind fig sc steps row went (fun _ => True)) := by
  unfold f_X11_count
  have E : ∀ a : Int, ok (some (a, size, many, rounds, kind, fig, sc, steps, row, went, (0 : Int), gone, going, gm, kept, pl, tk, ki, stg, stm, wg)) (A21 size many rounds kind fig sc steps row went (fun _ => True)) := fun a => ok_some.mpr ⟨trivial, K9.refl⟩
  refine ok_zg.mpr ⟨hv, ok_ite.mpr ⟨fun _ => E _, fun _ => ok_ite.mpr ⟨fun _ => E _, fun _ => ok_ite.mpr ⟨fun _ => E _, fun _ => ok_ite.mpr ⟨fun _ => E _, fun _ => ok_ite.mpr ⟨fun _ => E _, fun _ => ok_ite.mpr ⟨fun _ => E _, fun _ => ok_ite.mpr ⟨fun _ => E _, fun _ => ok_ite.mpr ⟨fun _ => E _, fun _ => ok_ite.mpr ⟨fun _ => ?_, fun _ => ?_⟩⟩⟩⟩⟩⟩⟩⟩⟩⟩
  · refine ok_bind.mpr ((mlook h hp (mtrue h hp)).mono (fun r hr => ?_))
    obtain ⟨ret, st, ro, we, gone', going', gm', kept', stg, stm, wg, rd2, ro2, we2, rfl, k1, -⟩ := hr
    exact ok_some.mpr ⟨trivial, k1⟩
  · refine ok_zg.mpr ⟨hv, ?_⟩
    rw [min_ hv ⟨by omega, by omega⟩ ⟨by omega, by omega⟩]
    refine ok_bind.mpr (ok_some.mpr ?_)
    rw [zg10]
    refine ok_ite.mpr ⟨fun c => ok_zg.mpr ⟨⟨by omega, by omega⟩, E _⟩, fun _ => E _⟩
theorem LT.nil {s l : Int → Int} : LT 0 s 0 l := ⟨rfl, ⟨⟨by omega, by omega⟩, fun i p q => absurd q (by omega)⟩, fun i p q => absurd q (by omega)⟩
theorem TL.m {tc tm : Int} {told toldm : Int → Int} (h : TL tc told tm toldm) : (0 ≤ tm ∧ tm ≤ 24) ∧ ∀ i, 0 ≤ i → i < tm → 1 ≤ toldm i ∧ toldm i ≤ 120 := by
  obtain ⟨rfl, h1, h2, h3⟩ := h
  exact ⟨h1, fun i p q => by rw [← h3 i p q]; exact h2 i p q⟩
