/-! making: rows for constructors -/
def zQu {S : Type} (D : va_G) (B : S → va_W) (A : Nat → Prop) : Array Value → State → Outcome → State → Prop := va_Qv (fun (_ : S) => True) (fun u t => va_P D vwCl (B u) t.heap ∧ va_D A (B u)) A
section ZN
variable {p : Program} {l : Launch} {e : Env} {R : Room} {s : State} {m : MethodId} {args : Array Value} {below : List Frame} {meth : Method} {c : Code} {H : Heap} {locs : List Loc} {cells slots : Nat} {Q : State → Prop}
variable {cc : ByteArray} {pc : Nat} {ls : Array Slot} {rest : List Value} {D : va_G} {A : Nat → Prop} {a : Nat} {tys : List (ClassId × FieldType)} {ws : va_W} {H0 : Heap}
theorem z_uret {S : Type} {B : S → va_W} (u : S) (hexec : p.tables.exec = Jvm.exec) (hb : c.code = cc) (hr : meth.sig.returnType = none) (hlocks : meth.locks = false) (hP : va_P D vwCl (B u) H) (hD : va_D A (B u)) (hS : va_S A s.heap H locs) (hdg : decode cc pc = .ok (.return_, 1)) : W p l e R s m args below meth c H locs cells slots (MQ below (zQu D B A) args s cells slots A) (F0 m pc ls []) :=
  W.vret hexec hb hr (fun t ht _ => ⟨⟨u, rfl, trivial, by rw [ht]; exact hP, hD⟩, hS.F ht⟩) hS.2.2 hdg hlocks
theorem z_newa (hexec : p.tables.exec = Jvm.exec) (hb : c.code = cc) (harr : (Cond.arrayClass .int).before args s = true) (hK : va_K D vwCl tys s) (t0 : Nat) {cA : ClassId} (ht : tys[t0]? = some (cA, .int)) (hP : va_P D vwCl ws H) (hD : va_D A ws) (hS : va_S A H0 H locs) (hA : ∀ q, H0.size ≤ q → A q)
    {n : Int} {N : Nat} (hn : n = (N : Int)) (hN : N ≤ 100000) (hcells : cells + 1 ≤ R.cells) (hslots : slots + N ≤ R.slots) (hdg : decode cc pc = .ok (.newarray .int, 2))
    (kk : ∀ (q : Nat) (H1 : Heap), va_P D vwCl (ws ++ [kI cA q N (fun _ => 0)]) H1 → va_D A (ws ++ [kI cA q N (fun _ => 0)]) → va_S A H0 H1 locs → W p l e R s m args below meth c H1 locs (cells + 1) (slots + N) Q (F0 m (pc + 2) ls (.ref q :: rest))) : W p l e R s m args below meth c H locs cells slots Q (F0 m pc ls (.int (zi n) :: rest)) := by
  subst hn
  refine va_newa (atype := .int) (ty := .int) (a0 := (N, .inl (za (fun _ => 0)))) hexec hb harr rfl hK hP hD hS hA (fun cA => rfl) (by rw [zi_lt0 ⟨by omega, by omega⟩]; omega) (by rw [zi_clamp (by omega) (by omega)]; exact Int.toNat_natCast N) (by show N * 4 ≤ _; omega) hcells hslots hdg (fun q cA' H1 hK' hP' hD' hS' => ?_)
  have e1 : s.vm.findClass ("[" ++ FieldType.int.toString) = some cA' := (hK'.2 tys.length (cA', .int) (by simp)).2
  have e2 : s.vm.findClass ("[" ++ FieldType.int.toString) = some cA := (hK.2 t0 _ ht).2
  have e3 : cA' = cA := Option.some.inj (e1.symm.trans e2)
  subst e3
  exact kk q H1 hP' hD' hS'
theorem z_newq (hexec : p.tables.exec = Jvm.exec) (hb : c.code = cc) {own : String} {index : Nat} (hown : s.vm.findClass own = some m.cls) (hclink : (Cond.classLink own index "EachSecondStruck$Next").before args s = true) (hE : zE s) (hK : va_K D vwCl tys s) (t0 : Nat) {cN : ClassId} (ht : tys[t0]? = some (cN, .object "EachSecondStruck$Next")) (hP : va_P D vwCl ws H) (hD : va_D A ws) (hS : va_S A H0 H locs) (hA : ∀ q, H0.size ≤ q → A q)
    (hcells : cells + 1 ≤ R.cells) (hslots : slots + 7 ≤ R.slots) (hdg : decode cc pc = .ok (.anewarray index, 3))
    (kk : ∀ (q : Nat) (H1 : Heap), va_P D vwCl (ws ++ [(q, .inl (cN, 7, .inr (.inr (.inr (.inr (fun _ => none))))))]) H1 → va_D A (ws ++ [(q, .inl (cN, 7, .inr (.inr (.inr (.inr (fun _ => none))))))]) → va_S A H0 H1 locs → W p l e R s m args below meth c H1 locs (cells + 1) (slots + 7) Q (F0 m (pc + 3) ls (.ref q :: rest))) : W p l e R s m args below meth c H locs cells slots Q (F0 m pc ls (.int (zi 7) :: rest)) := by
  refine va_newq (N' := 7) hexec hb hown hclink hE.2.2 hK hP hD hS hA (by decide) (by decide) (by decide) hcells hslots hdg (fun q cA' H1 hK' hP' hD' hS' => ?_)
  obtain ⟨kA, comp, -, -, -, e1⟩ := (hK'.2 tys.length (cA', .object "EachSecondStruck$Next") (by simp)).2
  obtain ⟨kA2, comp2, -, -, -, e2⟩ := (hK.2 t0 _ ht).2
  have e3 : cA' = cN := Option.some.inj (e1.symm.trans e2)
  subst e3
  exact kk q H1 hP' hD' hS'
theorem z_callu {S : Type} {B : S → va_W} {wc wr : va_W} {st0 : List Value} {av : Array Value} {mc ms : Nat} (hr : va_Run p l e R s m args below meth c H locs cells slots mc ms (F0 m pc ls st0) rest (zQu D B (va_A wc H.size) av) (va_A wc H.size)) (hP : va_P D vwCl ws H) (hD : va_D A ws) (hS : va_S A H0 H locs) (hA : ∀ q, H0.size ≤ q → A q) (isC isR : List Nat) (hC : isC.map (fun i => ws[i]?) = wc.map some) (hR : isR.map (fun i => ws[i]?) = wr.map some) (hn : va_nd isR = true) (hdis : ∀ i ∈ isR, i ∉ isC)
    (kk : ∀ (u : S) (H1 : Heap) (locs1 : List Loc), va_P D vwCl (wr ++ B u) H1 → va_D A (wr ++ B u) → va_S A H0 H1 locs1 → W p l e R s m args below meth c H1 locs1 (cells + mc) (slots + ms) Q (F0 m (pc + 3) ls rest)) : W p l e R s m args below meth c H locs cells slots Q (F0 m pc ls st0) := by
  have hFc := va_free hD hS hA isC hC
  refine va_callv hr hS (fun q _ h => hFc q h) hFc (fun u t H1 locs1 ht hvm hw hB hz1 hk1 hS1 => ?_)
  obtain ⟨hB1, hB2⟩ := hB
  rw [ht] at hB1
  obtain ⟨g1, g2⟩ := va_join hP hD isC isR hC hR hn hdis hk1 hFc hB1 hB2
  exact kk u H1 locs1 g1 g2 hS1
theorem z_aast0 (hexec : p.tables.exec = Jvm.exec) (hb : c.code = cc) (hK : va_K D vwCl tys s) (hP : va_P D vwCl ws H) (hD : va_D A ws) (hS : va_S A H0 H locs) (q0 t0 qk : Nat) {cN : ClassId} {v : Nat} {f : Nat → Option Nat} (ha : ws[q0]? = some (a, .inl (cN, 7, .inr (.inr (.inr (.inr f)))))) (ht : tys[t0]? = some (cN, .object "EachSecondStruck$Next")) (hv : ws[qk]? = some (v, .inr (6, []))) {i : Int} (h1 : 0 ≤ i) (h2 : i < 7) (hdg : decode cc pc = .ok (.aastore, 1))
    (kk : ∀ (H1 : Heap) (locs1 : List Loc), va_P D vwCl (ws.set q0 (a, .inl (cN, 7, .inr (.inr (.inr (.inr (va_up f i.toNat (some v)))))))) H1 → va_D A (ws.set q0 (a, .inl (cN, 7, .inr (.inr (.inr (.inr (va_up f i.toNat (some v)))))))) → va_S A H0 H1 locs1 → W p l e R s m args below meth c H1 locs1 cells slots Q (F0 m (pc + 1) ls rest)) : W p l e R s m args below meth c H locs cells slots Q (F0 m pc ls (.ref v :: .int (zi i) :: .ref a :: rest)) := by
  refine va_astq (r := (RX6, TX6, 0)) hexec hb hK hP hD hS q0 t0 qk 6 ha ht hv rfl (zi_in h1 h2 (by decide)) hdg (fun H1 locs1 hP1 hD1 hS1 => ?_)
  rw [zi_clamp h1 (by omega)] at hP1 hD1
  exact kk H1 locs1 hP1 hD1 hS1
theorem z_aastO (hexec : p.tables.exec = Jvm.exec) (hb : c.code = cc) (hK : va_K D vwCl tys s) (hP : va_P D vwCl ws H) (hD : va_D A ws) (hS : va_S A H0 H locs) (q0 t0 qk ci : Nat) {cN : ClassId} {v : Nat} {r : vw_C} {f : Nat → Option Nat} (ha : ws[q0]? = some (a, .inl (cN, 7, .inr (.inr (.inr (.inr f)))))) (ht : tys[t0]? = some (cN, .object "EachSecondStruck$Next")) (hca : va_Nw (.castable r.1 "EachSecondStruck$Next") s) (hv : ws[qk]? = some (v, .inr (ci, []))) (hc : vwCl[ci]? = some r) {i : Int} (h1 : 0 ≤ i) (h2 : i < 7) (hdg : decode cc pc = .ok (.aastore, 1))
    (kk : ∀ (H1 : Heap) (locs1 : List Loc), va_P D vwCl (ws.set q0 (a, .inl (cN, 7, .inr (.inr (.inr (.inr (va_up f i.toNat (some v)))))))) H1 → va_D A (ws.set q0 (a, .inl (cN, 7, .inr (.inr (.inr (.inr (va_up f i.toNat (some v)))))))) → va_S A H0 H1 locs1 → W p l e R s m args below meth c H1 locs1 cells slots Q (F0 m (pc + 1) ls rest)) : W p l e R s m args below meth c H locs cells slots Q (F0 m pc ls (.ref v :: .int (zi i) :: .ref a :: rest)) := by
  refine va_astqO hexec hb hK hP hD hS q0 t0 qk ci ha ht hca hv hc (zi_in h1 h2 (by decide)) hdg (fun H1 locs1 hP1 hD1 hS1 => ?_)
  rw [zi_clamp h1 (by omega)] at hP1 hD1
  exact kk H1 locs1 hP1 hD1 hS1
theorem z_recell {i : Nat} {cx : ClassId} {x y : vp_A} (hP : va_P D vwCl ws H) (hD : va_D A ws) (hi : ws[i]? = some (a, .inl (cx, x))) (he : vp_cell cx x = vp_cell cx y) : va_P D vwCl (ws.set i (a, .inl (cx, y))) H ∧ va_D A (ws.set i (a, .inl (cx, y))) := by
  refine ⟨hP.set hD hi ?_ (fun q _ => rfl), hD.set hi⟩
  show H[a]? = some (vp_cell cx y)
  rw [← he]
  exact hP i _ hi
end ZN
def zad (q : List Nat) : Nat → Nat := fun j => q.getD j 0
theorem z_strs (cN : ClassId) (q0 q1 q2 q3 q4 q5 q6 : Nat) (sa : Nat → Nat) (h0 : sa 0 = q0) (h1 : sa 1 = q1) (h2 : sa 2 = q2) (h3 : sa 3 = q3) (h4 : sa 4 = q4) (h5 : sa 5 = q5) (h6 : sa 6 = q6) : vp_cell cN (7, .inr (.inr (.inr (.inr (va_up (va_up (va_up (va_up (va_up (va_up (va_up (fun _ => none) (Int.toNat 0) (some q0)) (Int.toNat 1) (some q1)) (Int.toNat 2) (some q2)) (Int.toNat 3) (some q3)) (Int.toNat 4) (some q4)) (Int.toNat 5) (some q5)) (Int.toNat 6) (some q6)))))) = vp_cell cN (7, .inr (.inr (.inr (.inr (fun j => some (sa j)))))) := by
  subst h0; subst h1; subst h2; subst h3; subst h4; subst h5; subst h6
  rw [vp_cell_q, vp_cell_q]
  unfold arrV
  congr 2
  funext j
  obtain ⟨j, hj⟩ := j
  rcases (show j = 0 ∨ j = 1 ∨ j = 2 ∨ j = 3 ∨ j = 4 ∨ j = 5 ∨ j = 6 by omega) with rfl | rfl | rfl | rfl | rfl | rfl | rfl <;> rfl
