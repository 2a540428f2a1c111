abbrev zT (cA cN : ClassId) : List (ClassId × FieldType) := [(cA, .int), (cN, .object "EachSecondStruck$Next")]
def zF : Nat := 4000
/-- the model's field that holds one of two rows, or none yet -/
def zk (ak ai : Nat) (k : Int) : Value := if k = 1 then .ref ak else if k = 2 then .ref ai else .null
abbrev kI (cA : ClassId) (a n : Nat) (f : Int → Int) : Nat × va_E := (a, .inl (cA, n, .inl (za f)))
abbrev kN (cN : ClassId) (a : Nat) (sa : Nat → Nat) : Nat × va_E := (a, .inl (cN, 7, .inr (.inr (.inr (.inr (fun j => some (sa j)))))))
abbrev kX8 (h a_steps a_line a_gone a_wentIn : Nat) (x_size x_there x_roundsBy x_kind x_figure x_stepCount : Int) : Nat × va_E := (h, .inr (8, [.int (zi x_size), .int (zi x_there), .int (zi x_roundsBy), .int (zi x_kind), .int (zi x_figure), .int (zi x_stepCount), .ref a_steps, .ref a_line, .ref a_gone, .ref a_wentIn]))
abbrev kX4 (h a_signs : Nat) (x_count x_readAt x_verb x_first x_second : Int) : Nat × va_E := (h, .inr (4, [.ref a_signs, .int (zi x_count), .int (zi x_readAt), .int (zi x_verb), .int (zi x_first), .int (zi x_second)]))
abbrev kX0 (h a_luckCounts : Nat) : Nat × va_E := (h, .inr (0, [.ref a_luckCounts]))
abbrev kX10 (h a_strikers a_now a_mind a_kept a_letters a_endlessRow a_toldOnes a_refusals : Nat) (x_hasImage x_toldCount : Int) : Nat × va_E := (h, .inr (10, [.ref a_strikers, .ref a_now, .ref a_mind, .ref a_kept, .int (zi x_hasImage), .ref a_letters, .ref a_endlessRow, .ref a_toldOnes, .int (zi x_toldCount), .ref a_refusals]))
abbrev kX11 (h a_steps a_row a_went a_refusals a_gone a_going a_kept a_staying a_whenGone a_letters a_placeOf a_letterOf a_first a_second a_lucky a_unlucky a_sums a_told a_imaged : Nat) (kin : Value) (x_size x_many x_rounds x_kind x_figure x_stepMany x_thrown x_goingMany x_place x_isTaking x_stayMany x_letterMany x_at x_isBad x_statements x_luckyMany x_toldMany x_hasImage : Int) : Nat × va_E := (h, .inr (11, [.int (zi x_size), .int (zi x_many), .int (zi x_rounds), .int (zi x_kind), .int (zi x_figure), .int (zi x_stepMany), .ref a_steps, .ref a_row, .ref a_went, .int (zi x_thrown), .ref a_refusals, .ref a_gone, .ref a_going, .int (zi x_goingMany), .ref a_kept, .int (zi x_place), .int (zi x_isTaking), kin, .ref a_staying, .int (zi x_stayMany), .ref a_whenGone, .ref a_letters, .int (zi x_letterMany), .int (zi x_at), .int (zi x_isBad), .int (zi x_statements), .ref a_placeOf, .ref a_letterOf, .ref a_first, .ref a_second, .ref a_lucky, .ref a_unlucky, .int (zi x_luckyMany), .ref a_sums, .ref a_told, .int (zi x_toldMany), .int (zi x_hasImage), .ref a_imaged]))
theorem z_nz {x : Int} (h : x = 0 ∨ x = 1) : narrow .boolean (.int (zi x)) = .int (zi x) := by rcases h with rfl | rfl <;> decide
theorem z_fz {x : Int} (h : x = 0 ∨ x = 1) : fits .boolean (.int (zi x)) = true := by rcases h with rfl | rfl <;> decide
theorem z_classAt {D : va_G} {tys : List (ClassId × FieldType)} {s : State} {ci : Nat} {q : vw_C} (hK : va_K D vwCl tys s) (hc : vwCl[ci]? = some q) : ClassAt s q.1 (D.1 ci) := (hK.1 ci q hc).2
section ZC
variable {p : Program} {l : Launch} {e : Env} {R : Room} {s : State} {m : MethodId} {args : Array Value} {below : List Frame} {meth : Method} {c : Code} {H : Heap} {locs : List Loc} {cells slots : Nat} {Q : State → Prop}
variable {cc : ByteArray} {pc : Nat} {ls : Array Slot} {rest : List Value} {D : va_G} {A : Nat → Prop} {a : Nat} {tys : List (ClassId × FieldType)} {ws : va_W} {H0 : Heap} {α : Type} {X Y : Option α} {r : α}
theorem z_aald (hexec : p.tables.exec = Jvm.exec) (hb : c.code = cc) (hK : va_K D vwCl tys s) (hP : va_P D vwCl ws H) (q0 t0 : Nat) {cA : ClassId} {C : String} {sa : Nat → Nat} (ha : ws[q0]? = some (a, .inl (cA, 7, .inr (.inr (.inr (.inr (fun j => some (sa j)))))))) (ht : tys[t0]? = some (cA, .object C)) {i : Int} (hdg : decode cc pc = .ok (.aaload, 1)) (h : zg (0 ≤ i ∧ i < 7) X = some r)
    (kk : X = some r → W p l e R s m args below meth c H locs cells slots Q (F0 m (pc + 1) ls (.ref (sa i.toNat) :: rest))) : W p l e R s m args below meth c H locs cells slots Q (F0 m pc ls (.int (zi i) :: .ref a :: rest)) := by
  obtain ⟨⟨h1, h2⟩, h⟩ := zg_some h
  refine va_aldq hexec hb hK hP q0 t0 ha ht (zi_in h1 h2 (by decide)) hdg ?_
  rw [zi_clamp h1 (by omega)]
  exact kk h
theorem z_copy (hexec : p.tables.exec = Jvm.exec) (hb : c.code = cc) (hml : c.maxLocals = ls.size) {own : String} {index : Nat} (hown : s.vm.findClass own = some m.cls) (hlink : (Cond.methodLink own index arraycopyName).before args s = true) (hnat : (Cond.native arraycopyName).before args s = true) (hstat : (Cond.static arraycopyName).before args s = true) (hini : (Cond.initialized "java/lang/System").before args s = true)
    (hK : va_K D vwCl tys s) (hP : va_P D vwCl ws H) (hD : va_D A ws) (hS : va_S A H0 H locs) (q0 q1 t0 t1 : Nat) {a0 : Nat} {c0 c1 : ClassId} {n0 n1 : Nat} {f g : Int → Int} (ha0 : ws[q0]? = some (a0, .inl (c0, n0, .inl (za f)))) (ha1 : ws[q1]? = some (a, .inl (c1, n1, .inl (za g)))) (ht0 : tys[t0]? = some (c0, .int)) (ht1 : tys[t1]? = some (c1, .int))
    {N : Nat} (hN : N < 2147483648) (hn0 : N ≤ n0) (hn1 : N ≤ n1) (hframes : 1 ≤ R.frames) (hlocals : (rest.map fun v => v.category).sum + 18 ≤ R.locals) (hdg : decode cc pc = .ok (.invokestatic index, 3))
    (kk : ∀ (H1 : Heap) (locs1 : List Loc), va_P D vwCl (ws.set q1 (a, .inl (c1, n1, .inl (za (zcp f g (N : Int)))))) H1 → va_D A (ws.set q1 (a, .inl (c1, n1, .inl (za (zcp f g (N : Int)))))) → va_S A H0 H1 locs1 → W p l e R s m args below meth c H1 locs1 cells slots Q (F0 m (pc + 3) ls rest)) : W p l e R s m args below meth c H locs cells slots Q (F0 m pc ls (.int (zi (N : Int)) :: .int (zi 0) :: .ref a :: .int (zi 0) :: .ref a0 :: rest)) := by
  have e0 : (zi 0).toNatClampNeg = 0 := by decide
  have eN : (zi (N : Int)).toNatClampNeg = N := by rw [zi_clamp (by omega) (by omega)]; exact Int.toNat_natCast N
  refine va_copyi (ty := .int) hexec hb hml hown hlink hnat hstat hini hK hP hD hS q0 q1 t0 t1 ha0 ha1 ht0 ht1 (by decide) (by decide) (by decide) (by rw [zi_lt0 ⟨by omega, by omega⟩]; omega) (by rw [e0, eN]; omega) (by rw [e0, eN]; omega) (fun i _ => rfl) hframes hlocals hdg (fun H1 locs1 hP1 hD1 hS1 => ?_)
  rw [e0, eN, zcp_eq] at hP1 hD1
  exact kk H1 locs1 hP1 hD1 hS1
end ZC
theorem zinj1 {A0 : Type} {a0 b0 : A0} (h : some a0 = some b0) : b0 = a0 := by
  cases h
  exact rfl
theorem zinj2 {A0 : Type} {A1 : Type} {a0 b0 : A0} {a1 b1 : A1} (h : some (a0, a1) = some (b0, b1)) : b0 = a0 ∧ b1 = a1 := by
  cases h
  exact ⟨rfl, rfl⟩
theorem zinj3 {A0 : Type} {A1 : Type} {A2 : Type} {a0 b0 : A0} {a1 b1 : A1} {a2 b2 : A2} (h : some (a0, a1, a2) = some (b0, b1, b2)) : b0 = a0 ∧ b1 = a1 ∧ b2 = a2 := by
  cases h
  exact ⟨rfl, rfl, rfl⟩
theorem zinj4 {A0 : Type} {A1 : Type} {A2 : Type} {A3 : Type} {a0 b0 : A0} {a1 b1 : A1} {a2 b2 : A2} {a3 b3 : A3} (h : some (a0, a1, a2, a3) = some (b0, b1, b2, b3)) : b0 = a0 ∧ b1 = a1 ∧ b2 = a2 ∧ b3 = a3 := by
  cases h
  exact ⟨rfl, rfl, rfl, rfl⟩
theorem zinj5 {A0 : Type} {A1 : Type} {A2 : Type} {A3 : Type} {A4 : Type} {a0 b0 : A0} {a1 b1 : A1} {a2 b2 : A2} {a3 b3 : A3} {a4 b4 : A4} (h : some (a0, a1, a2, a3, a4) = some (b0, b1, b2, b3, b4)) : b0 = a0 ∧ b1 = a1 ∧ b2 = a2 ∧ b3 = a3 ∧ b4 = a4 := by
  cases h
  exact ⟨rfl, rfl, rfl, rfl, rfl⟩
theorem zinj6 {A0 : Type} {A1 : Type} {A2 : Type} {A3 : Type} {A4 : Type} {A5 : Type} {a0 b0 : A0} {a1 b1 : A1} {a2 b2 : A2} {a3 b3 : A3} {a4 b4 : A4} {a5 b5 : A5} (h : some (a0, a1, a2, a3, a4, a5) = some (b0, b1, b2, b3, b4, b5)) : b0 = a0 ∧ b1 = a1 ∧ b2 = a2 ∧ b3 = a3 ∧ b4 = a4 ∧ b5 = a5 := by
  cases h
  exact ⟨rfl, rfl, rfl, rfl, rfl, rfl⟩
theorem zinj7 {A0 : Type} {A1 : Type} {A2 : Type} {A3 : Type} {A4 : Type} {A5 : Type} {A6 : Type} {a0 b0 : A0} {a1 b1 : A1} {a2 b2 : A2} {a3 b3 : A3} {a4 b4 : A4} {a5 b5 : A5} {a6 b6 : A6} (h : some (a0, a1, a2, a3, a4, a5, a6) = some (b0, b1, b2, b3, b4, b5, b6)) : b0 = a0 ∧ b1 = a1 ∧ b2 = a2 ∧ b3 = a3 ∧ b4 = a4 ∧ b5 = a5 ∧ b6 = a6 := by
  cases h
  exact ⟨rfl, rfl, rfl, rfl, rfl, rfl, rfl⟩
theorem zinj8 {A0 : Type} {A1 : Type} {A2 : Type} {A3 : Type} {A4 : Type} {A5 : Type} {A6 : Type} {A7 : Type} {a0 b0 : A0} {a1 b1 : A1} {a2 b2 : A2} {a3 b3 : A3} {a4 b4 : A4} {a5 b5 : A5} {a6 b6 : A6} {a7 b7 : A7} (h : some (a0, a1, a2, a3, a4, a5, a6, a7) = some (b0, b1, b2, b3, b4, b5, b6, b7)) : b0 = a0 ∧ b1 = a1 ∧ b2 = a2 ∧ b3 = a3 ∧ b4 = a4 ∧ b5 = a5 ∧ b6 = a6 ∧ b7 = a7 := by
  cases h
  exact ⟨rfl, rfl, rfl, rfl, rfl, rfl, rfl, rfl⟩
theorem zinj9 {A0 : Type} {A1 : Type} {A2 : Type} {A3 : Type} {A4 : Type} {A5 : Type} {A6 : Type} {A7 : Type} {A8 : Type} {a0 b0 : A0} {a1 b1 : A1} {a2 b2 : A2} {a3 b3 : A3} {a4 b4 : A4} {a5 b5 : A5} {a6 b6 : A6} {a7 b7 : A7} {a8 b8 : A8} (h : some (a0, a1, a2, a3, a4, a5, a6, a7, a8) = some (b0, b1, b2, b3, b4, b5, b6, b7, b8)) : b0 = a0 ∧ b1 = a1 ∧ b2 = a2 ∧ b3 = a3 ∧ b4 = a4 ∧ b5 = a5 ∧ b6 = a6 ∧ b7 = a7 ∧ b8 = a8 := by
  cases h
  exact ⟨rfl, rfl, rfl, rfl, rfl, rfl, rfl, rfl, rfl⟩
theorem zinj10 {A0 : Type} {A1 : Type} {A2 : Type} {A3 : Type} {A4 : Type} {A5 : Type} {A6 : Type} {A7 : Type} {A8 : Type} {A9 : Type} {a0 b0 : A0} {a1 b1 : A1} {a2 b2 : A2} {a3 b3 : A3} {a4 b4 : A4} {a5 b5 : A5} {a6 b6 : A6} {a7 b7 : A7} {a8 b8 : A8} {a9 b9 : A9} (h : some (a0, a1, a2, a3, a4, a5, a6, a7, a8, a9) = some (b0, b1, b2, b3, b4, b5, b6, b7, b8, b9)) : b0 = a0 ∧ b1 = a1 ∧ b2 = a2 ∧ b3 = a3 ∧ b4 = a4 ∧ b5 = a5 ∧ b6 = a6 ∧ b7 = a7 ∧ b8 = a8 ∧ b9 = a9 := by
  cases h
  exact ⟨rfl, rfl, rfl, rfl, rfl, rfl, rfl, rfl, rfl, rfl⟩
theorem zinj11 {A0 : Type} {A1 : Type} {A2 : Type} {A3 : Type} {A4 : Type} {A5 : Type} {A6 : Type} {A7 : Type} {A8 : Type} {A9 : Type} {A10 : Type} {a0 b0 : A0} {a1 b1 : A1} {a2 b2 : A2} {a3 b3 : A3} {a4 b4 : A4} {a5 b5 : A5} {a6 b6 : A6} {a7 b7 : A7} {a8 b8 : A8} {a9 b9 : A9} {a10 b10 : A10} (h : some (a0, a1, a2, a3, a4, a5, a6, a7, a8, a9, a10) = some (b0, b1, b2, b3, b4, b5, b6, b7, b8, b9, b10)) : b0 = a0 ∧ b1 = a1 ∧ b2 = a2 ∧ b3 = a3 ∧ b4 = a4 ∧ b5 = a5 ∧ b6 = a6 ∧ b7 = a7 ∧ b8 = a8 ∧ b9 = a9 ∧ b10 = a10 := by
  cases h
  exact ⟨rfl, rfl, rfl, rfl, rfl, rfl, rfl, rfl, rfl, rfl, rfl⟩
theorem zinj12 {A0 : Type} {A1 : Type} {A2 : Type} {A3 : Type} {A4 : Type} {A5 : Type} {A6 : Type} {A7 : Type} {A8 : Type} {A9 : Type} {A10 : Type} {A11 : Type} {a0 b0 : A0} {a1 b1 : A1} {a2 b2 : A2} {a3 b3 : A3} {a4 b4 : A4} {a5 b5 : A5} {a6 b6 : A6} {a7 b7 : A7} {a8 b8 : A8} {a9 b9 : A9} {a10 b10 : A10} {a11 b11 : A11} (h : some (a0, a1, a2, a3, a4, a5, a6, a7, a8, a9, a10, a11) = some (b0, b1, b2, b3, b4, b5, b6, b7, b8, b9, b10, b11)) : b0 = a0 ∧ b1 = a1 ∧ b2 = a2 ∧ b3 = a3 ∧ b4 = a4 ∧ b5 = a5 ∧ b6 = a6 ∧ b7 = a7 ∧ b8 = a8 ∧ b9 = a9 ∧ b10 = a10 ∧ b11 = a11 := by
  cases h
  exact ⟨rfl, rfl, rfl, rfl, rfl, rfl, rfl, rfl, rfl, rfl, rfl, rfl⟩
