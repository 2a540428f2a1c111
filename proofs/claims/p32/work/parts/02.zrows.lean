/-! whole numbers beside the machine's: zi, zl make an int, a long of a whole number; za an int array of a function -/
def zi (a : Int) : Int32 := Int32.ofInt a
def zl (a : Int) : Int64 := Int64.ofInt a
def za (g : Int → Int) : Nat → Int32 := fun j => zi (g (j : Int))
def zup (g : Int → Int) (i v : Int) : Int → Int := fun j => if j = i then v else g j
abbrev zR (a : Int) : Prop := -2147483648 ≤ a ∧ a ≤ 2147483647
abbrev zL (a : Int) : Prop := -9223372036854775808 ≤ a ∧ a ≤ 9223372036854775807
def zg {α : Type} (p : Prop) [Decidable p] (x : Option α) : Option α := if p then x else none
theorem zg_some {α : Type} {p : Prop} [Decidable p] {x : Option α} {r : α} (h : zg p x = some r) : p ∧ x = some r := by
  unfold zg at h
  by_cases hp : p
  · rw [if_pos hp] at h; exact ⟨hp, h⟩
  · rw [if_neg hp] at h; cases h
theorem zg_pos {α : Type} {p : Prop} [Decidable p] {x : Option α} (hp : p) : zg p x = x := if_pos hp
theorem zb {α β : Type} {x : Option α} {f : α → Option β} {r : β} (h : x.bind f = some r) : ∃ v, x = some v ∧ f v = some r := by
  cases x with
  | none => cases h
  | some v => exact ⟨v, rfl, h⟩
theorem zit {α : Type} {p : Prop} [Decidable p] {A B : Option α} {r : α} (h : (if p then A else B) = some r) (hp : p) : A = some r := by rw [if_pos hp] at h; exact h
theorem zif {α : Type} {p : Prop} [Decidable p] {A B : Option α} {r : α} (h : (if p then A else B) = some r) (hp : ¬ p) : B = some r := by rw [if_neg hp] at h; exact h
theorem zi_toInt {a : Int} (h : zR a) : (zi a).toInt = a := Int32.toInt_ofInt_of_le (by have := h.1; omega) (by have := h.2; omega)
theorem zl_toInt {a : Int} (h : zL a) : (zl a).toInt = a := Int64.toInt_ofInt_of_le (by have := h.1; omega) (by have := h.2; omega)
theorem zi_of (x : Int32) : zi x.toInt = x := Int32.ofInt_toInt x
theorem zi_rng (x : Int32) : zR x.toInt := ⟨by have := Int32.le_toInt x; omega, by have := Int32.toInt_lt x; omega⟩
theorem zi_add (a b : Int) : zi a + zi b = zi (a + b) := (Int32.ofInt_add a b).symm
theorem zi_sub (a b : Int) : zi a - zi b = zi (a - b) := (Int32.ofInt_sub a b).symm
theorem zi_mul (a b : Int) : zi a * zi b = zi (a * b) := (Int32.ofInt_mul a b).symm
theorem zi_neg (a : Int) : -zi a = zi (-a) := (Int32.ofInt_neg a).symm
theorem zl_add (a b : Int) : zl a + zl b = zl (a + b) := (Int64.ofInt_add a b).symm
theorem zl_sub (a b : Int) : zl a - zl b = zl (a - b) := (Int64.ofInt_sub a b).symm
theorem zl_mul (a b : Int) : zl a * zl b = zl (a * b) := (Int64.ofInt_mul a b).symm
theorem zl_neg (a : Int) : -zl a = zl (-a) := (Int64.ofInt_neg a).symm
theorem zi_lt {a b : Int} (ha : zR a) (hb : zR b) : zi a < zi b ↔ a < b := by rw [Int32.lt_iff_toInt_lt, zi_toInt ha, zi_toInt hb]
theorem zi_le {a b : Int} (ha : zR a) (hb : zR b) : zi a ≤ zi b ↔ a ≤ b := by rw [Int32.le_iff_toInt_le, zi_toInt ha, zi_toInt hb]
theorem zi_eq {a b : Int} (ha : zR a) (hb : zR b) : zi a = zi b ↔ a = b := by rw [← Int32.toInt_inj, zi_toInt ha, zi_toInt hb]
theorem zi_eq0 {a : Int} (ha : zR a) : zi a = 0 ↔ a = 0 := by rw [← Int32.toInt_inj, zi_toInt ha, Int32.toInt_zero]
theorem zi_lt0 {a : Int} (ha : zR a) : zi a < 0 ↔ a < 0 := by rw [Int32.lt_iff_toInt_lt, zi_toInt ha, Int32.toInt_zero]
theorem zi_le0 {a : Int} (ha : zR a) : zi a ≤ 0 ↔ a ≤ 0 := by rw [Int32.le_iff_toInt_le, zi_toInt ha, Int32.toInt_zero]
theorem zi_gt0 {a : Int} (ha : zR a) : 0 < zi a ↔ 0 < a := by rw [Int32.lt_iff_toInt_lt, zi_toInt ha, Int32.toInt_zero]
theorem zi_ge0 {a : Int} (ha : zR a) : 0 ≤ zi a ↔ 0 ≤ a := by rw [Int32.le_iff_toInt_le, zi_toInt ha, Int32.toInt_zero]
theorem zl_lt {a b : Int} (ha : zL a) (hb : zL b) : zl a < zl b ↔ a < b := by rw [Int64.lt_iff_toInt_lt, zl_toInt ha, zl_toInt hb]
theorem zl_eq {a b : Int} (ha : zL a) (hb : zL b) : zl a = zl b ↔ a = b := by rw [← Int64.toInt_inj, zl_toInt ha, zl_toInt hb]
theorem zl_eq0 {a : Int} (ha : zL a) : zl a = 0 ↔ a = 0 := by rw [← Int64.toInt_inj, zl_toInt ha, Int64.toInt_zero]
theorem zi_clamp {i : Int} (h0 : 0 ≤ i) (h1 : i < 2147483648) : (zi i).toNatClampNeg = i.toNat := Int32.toNatClampNeg_ofInt_of_le (by omega) (by omega)
theorem zi_in {i : Int} {n : Nat} (h0 : 0 ≤ i) (h1 : i < (n : Int)) (hn : n < 2147483648) : vp_in (zi i) n := by
  rw [vp_in_iff, zi_toInt ⟨by omega, by omega⟩]
  exact ⟨h0, h1⟩
theorem za_at {g : Int → Int} {i : Int} (h0 : 0 ≤ i) (h1 : i < 2147483648) : za g (zi i).toNatClampNeg = zi (g i) := by
  unfold za
  rw [zi_clamp h0 h1, Int.toNat_of_nonneg h0]
theorem za_up {g : Int → Int} {i v : Int} (h0 : 0 ≤ i) (h1 : i < 2147483648) : upd (za g) (zi i).toNatClampNeg (zi v) = za (zup g i v) := by
  funext j
  unfold upd za zup
  rw [zi_clamp h0 h1]
  by_cases h : j = i.toNat
  · subst h
    rw [if_pos rfl, Int.toNat_of_nonneg h0, if_pos rfl]
  · rw [if_neg h, if_neg (by omega)]
theorem zi_dv {a b : Int} (ha : 0 ≤ a) (ha2 : a ≤ 2147483647) (hb : 0 < b) (hb2 : b ≤ 2147483647) : zi a / zi b = zi (a / b) := by
  have h1 := Int32.ofInt_tdiv (a := a) (b := b) (by show -2147483648 ≤ a; omega) (by show a ≤ 2147483647; omega) (by show -2147483648 ≤ b; omega) (by show b ≤ 2147483647; omega)
  unfold zi
  rw [← h1, Int.tdiv_eq_ediv_of_nonneg ha]
theorem zi_rm {a b : Int} (ha : 0 ≤ a) (ha2 : a ≤ 2147483647) (hb : 0 < b) (hb2 : b ≤ 2147483647) : zi a - zi a / zi b * zi b = zi (a % b) := by
  rw [zi_dv ha ha2 hb hb2, zi_mul, zi_sub, Int.emod_def, Int.mul_comm]
theorem zl_dv {a b : Int} (ha : 0 ≤ a) (ha2 : a ≤ 9223372036854775807) (hb : 0 < b) (hb2 : b ≤ 9223372036854775807) : zl a / zl b = zl (a / b) := by
  have h1 := Int64.ofInt_tdiv (a := a) (b := b) (by show -9223372036854775808 ≤ a; omega) (by show a ≤ 9223372036854775807; omega) (by show -9223372036854775808 ≤ b; omega) (by show b ≤ 9223372036854775807; omega)
  unfold zl
  rw [← h1, Int.tdiv_eq_ediv_of_nonneg ha]
theorem zl_rm {a b : Int} (ha : 0 ≤ a) (ha2 : a ≤ 9223372036854775807) (hb : 0 < b) (hb2 : b ≤ 9223372036854775807) : zl a - zl a / zl b * zl b = zl (a % b) := by
  rw [zl_dv ha ha2 hb hb2, zl_mul, zl_sub, Int.emod_def, Int.mul_comm]
theorem zi_ne0 {b : Int} (hb : 0 < b) (hb2 : b ≤ 2147483647) : ¬ zi b = 0 := by rw [zi_eq0 ⟨by omega, hb2⟩]; omega
theorem zl_ne0 {b : Int} (hb : 0 < b) (hb2 : b ≤ 9223372036854775807) : ¬ zl b = 0 := by rw [zl_eq0 ⟨by omega, hb2⟩]; omega
theorem zi_wide {a : Int} (h : zR a) : (zi a).toInt64 = zl a := Int32.toInt64_ofInt (by show -2147483648 ≤ a; exact h.1) (by show a ≤ 2147483647; exact h.2)
theorem zi_toNat (a : Int) : (zi a).toBitVec.toNat = (a % 4294967296).toNat := by
  show (BitVec.ofInt 32 a).toNat = _
  rw [BitVec.toNat_ofInt]
  rfl
theorem zi_nI (n : Nat) : nI n = zi (n : Int) := (Int32.ofInt_eq_ofNat).symm
theorem zi_and (a : Int) {m : Int32} (k : Nat) (hm : m.toBitVec.toNat = 2 ^ k - 1) (hk : k ≤ 32) : zi a &&& m = zi (a % (2 ^ k : Nat)) := by
  rw [pk_and (zi a) k hm, zi_toNat, zi_nI]
  congr 1
  have hd : ((2 ^ k : Nat) : Int) ∣ 4294967296 := by
    have h2 : (2 : Nat) ^ k ∣ 2 ^ 32 := Nat.pow_dvd_pow 2 hk
    have h3 : ((2 ^ k : Nat) : Int) ∣ ((2 ^ 32 : Nat) : Int) := Int.natCast_dvd_natCast.mpr h2
    exact h3
  have h0 : 0 ≤ a % 4294967296 := Int.emod_nonneg _ (by decide)
  rw [Int.natCast_emod, Int.toNat_of_nonneg h0, Int.emod_emod_of_dvd _ hd]
/-- what every contract takes with it beside its world: the links of nest mates, the casts of the strikers, their array's class -/
def zNl : List (String × Nat × MethodName × String) := [(RX8, 55, yX10_isFigure, "EachSecondStruck"), (RX10, 17, yX8_init, "EachSecondStruck"), (RX10, 30, yX4_init, "EachSecondStruck"), (RX10, 49, yX6_init, "EachSecondStruck"), (RX10, 52, yX5_init, "EachSecondStruck"), (RX10, 55, yX7_init, "EachSecondStruck"), (RX10, 58, yX1_init, "EachSecondStruck"), (RX10, 61, yX9_init, "EachSecondStruck"), (RX10, 64, yX2_init, "EachSecondStruck"), (RX10, 67, yX3_init, "EachSecondStruck"), (RX5, 1, yX6_init, "EachSecondStruck"), (RX7, 1, yX6_init, "EachSecondStruck"), (RX1, 1, yX6_init, "EachSecondStruck"), (RX9, 1, yX7_init, "EachSecondStruck"), (RX2, 1, yX6_init, "EachSecondStruck"), (RX3, 1, yX1_init, "EachSecondStruck")]
def zCl : List String := [RX5, RX7, RX1, RX9, RX2, RX3]
def zE (U : State) : Prop := (∀ q ∈ zNl, va_Nw (.methodLinkNest q.1 q.2.1 q.2.2.1 q.2.2.2) U) ∧ (∀ C ∈ zCl, va_Nw (.castable C "EachSecondStruck$Next") U) ∧ va_AO "EachSecondStruck$Next" U
theorem zE.warm {s U : State} (hW : s.WarmedH U.vm) (h : zE s) : zE U := ⟨fun q hq => va_Nw.warmM hW (h.1 q hq), fun C hC => va_Nw.warmC hW (h.2.1 C hC), va_AO.moved hW.alike h.2.2⟩
theorem zE.call {U : State} {g : JFrame} {mk : MethodId} {a : Array Value} (h : zE U) : zE (U.calling g mk a) := ⟨fun q hq => va_Nw.same rfl rfl (h.1 q hq), fun C hC => va_Nw.same rfl rfl (h.2.1 C hC), va_AO.moved (u := U) (U := U.calling g mk a) (Vm.Alike.refl U.vm) h.2.2⟩
theorem zE.nest {U : State} (h : zE U) {i : Nat} {q : String × Nat × MethodName × String} (hq : zNl[i]? = some q) : va_Nw (.methodLinkNest q.1 q.2.1 q.2.2.1 q.2.2.2) U := h.1 q (List.mem_of_getElem? hq)
theorem zE.cast {U : State} (h : zE U) {i : Nat} {C : String} (hq : zCl[i]? = some C) : va_Nw (.castable C "EachSecondStruck$Next") U := h.2.1 C (List.mem_of_getElem? hq)
/-- a contract's start, and its ends -/
def zPc (D : va_G) (tys : List (ClassId × FieldType)) (wc : va_W) (av : List Value) (sz : Nat) : Array Value → State → Prop :=
  va_Pc av (fun U => U.heap.size = sz ∧ va_P D vwCl wc U.heap ∧ va_K D vwCl tys U ∧ va_D (fun _ => True) wc ∧ zE U)
def zB (D : va_G) (wc' : va_W) (A : Nat → Prop) : Unit → State → Prop := fun _ t => va_P D vwCl wc' t.heap ∧ va_D A wc'
def zQi (D : va_G) (wc' : va_W) (res : Int) (A : Nat → Prop) : Array Value → State → Outcome → State → Prop := va_Qi (fun r (_ : Unit) => r = zi res) (zB D wc' A) A
def zQl (D : va_G) (wc' : va_W) (res : Int) (A : Nat → Prop) : Array Value → State → Outcome → State → Prop := va_Ql (fun r (_ : Unit) => r = zl res) (zB D wc' A) A
def zQv (D : va_G) (wc' : va_W) (A : Nat → Prop) : Array Value → State → Outcome → State → Prop := va_Qv (fun (_ : Unit) => True) (zB D wc' A) A
def zQr (D : va_G) (wc' : va_W) (ra : Nat) (A : Nat → Prop) : Array Value → State → Outcome → State → Prop := va_Qr (fun (_ : Unit) => True) (fun _ a t => a = ra ∧ va_P D vwCl wc' t.heap ∧ va_D A wc') A
theorem zPc.blind {D : va_G} {tys : List (ClassId × FieldType)} {wc : va_W} {av : List Value} {sz : Nat} : FrameBlind (zPc D tys wc av sz) := by
  intro a U g mk q
  obtain ⟨q1, q2, q3, q4, q5, q6⟩ := q
  exact ⟨q1, q2, q3, va_K.moved (u := U) (U := U.calling g mk a) (Vm.Alike.refl U.vm) q4, q5, zE.call q6⟩
theorem z_in {ws wc : va_W} {isC : List Nat} (hC : isC.map (fun i => ws[i]?) = wc.map some) : isC.filterMap (fun i => ws[i]?) = wc := by
  have h : ∀ (l : List Nat) (w : va_W), l.map (fun i => ws[i]?) = w.map some → l.filterMap (fun i => ws[i]?) = w := by
    intro l
    induction l with
    | nil => intro w h; cases w with
      | nil => rfl
      | cons a b => cases h
    | cons i l ih => intro w h; cases w with
      | nil => cases h
      | cons a b =>
        simp only [List.map_cons, List.cons.injEq] at h
        rw [List.filterMap_cons, h.1]
        simp only
        rw [ih b h.2]
  exact h isC wc hC
theorem zPc.pre {D : va_G} {tys : List (ClassId × FieldType)} {ws wc : va_W} {av : List Value} {s : State} {H : Heap} {A : Nat → Prop} (hK : va_K D vwCl tys s) (hE : zE s) (hP : va_P D vwCl ws H) (hD : va_D A ws) (isC : List Nat) (hn : va_nd isC = true) (hC : isC.map (fun i => ws[i]?) = wc.map some) : PreS s H (zPc D tys wc av H.size) av := by
  refine ⟨zPc.blind, fun U hU hW => ⟨rfl, by rw [hU], by rw [hU]; exact hP.sub isC (z_in hC), va_K.moved hW.alike hK, (hD.sub isC hn hC).weaken (fun _ _ _ _ => trivial), hE.warm hW⟩⟩
theorem zPc.preV {D : va_G} {tys : List (ClassId × FieldType)} {ws wc : va_W} {As : List Value} {b : Nat} {s : State} {H : Heap} {A : Nat → Prop} (hK : va_K D vwCl tys s) (hE : zE s) (hP : va_P D vwCl ws H) (hD : va_D A ws) (isC : List Nat) (hn : va_nd isC = true) (hC : isC.map (fun i => ws[i]?) = wc.map some) {ci q0 : Nat} {q : vw_C} {fs : List Value} (hc : vwCl[ci]? = some q) (he : ws[q0]? = some (b, .inr (ci, fs))) : PreV s H q.1 b (zPc D tys wc (.ref b :: As) H.size) As := by
  have h := zPc.pre (av := .ref b :: As) hK hE hP hD isC hn hC
  exact ⟨h.1, va_recv hK hP hc he, h.2⟩
section ZR
variable {p : Program} {l : Launch} {e : Env} {R : Room} {s : State} {m : MethodId} {args : Array Value} {below : List Frame} {meth : Method} {c : Code} {H : Heap} {locs : List Loc} {cells slots : Nat} {Q : State → Prop}
variable {cc : ByteArray} {pc : Nat} {ls : Array Slot} {rest : List Value} {D : va_G} {A : Nat → Prop} {a : Nat} {tys : List (ClassId × FieldType)} {ws : va_W} {H0 : Heap}
theorem z_ofW {y : MethodName} {wd wd' : List Cond} {rm : Room} {maxL : Nat} {ret : Option FieldType} {wc : va_W} {av : List Value} {sz mc ms : Nat} {QF : (Nat → Prop) → Array Value → State → Outcome → State → Prop} (hy : plainName y.cls = true) (hw : wd = Cond.code y cc maxL ret :: wd') (hlen : (lg_sl av).length ≤ maxL)
    (body : ∀ (p : Program) (e : Env) (s : State) (m : MethodId) (below : List Frame) (meth : Method) (c : Code) (ls : Array Slot) (A : Nat → Prop), p.tables.exec = Jvm.exec → c.code = cc → c.maxLocals = maxL → meth.sig.returnType = ret → meth.locks = false → meth.name = y.name → (∀ w ∈ wd, w.before av.toArray s = true) → s.vm.findClass y.cls = some m.cls → va_K D vwCl tys s → va_P D vwCl wc s.heap → va_D A wc → zE s → s.heap.size = sz → (∀ q : Nat, s.heap.size ≤ q → A q) → va_S A s.heap s.heap [] → lv_has ls maxL (lv_args 0 av) →
      W p l e rm s m av.toArray below meth c s.heap [] 0 0 (MQ below (QF A) av.toArray s mc ms A) (F0 m 0 ls [])) : Met l y wd rm (zPc D tys wc av sz) (QF (va_A wc sz)) mc ms (va_A wc sz) := by
  refine Met.ofW (cc := cc) (maxL := maxL) (ret := ret) hy hw ?_
  intro p e s m args below meth c s₁ B hml hv
  obtain ⟨rfl, hsz, hP, hK, hD0, hE⟩ := hv
  have hts := atoms_spec (ws := wd) B.pre
  have hl := lv_entry av (n := maxL) hlen
  rw [lg_entry_eq]
  exact body p e s m below meth c _ (va_A wc sz) B.exec B.bytes hml B.returns B.notSynchronized (name_of_methodNamed B.named B.method).1 hts (findClass_of_methodNamed B.named) hK hP hD0.self hE hsz (fun q h => Or.inr (by rw [← hsz]; exact h)) va_S.rf hl
theorem z_iret {D : va_G} {wc' : va_W} {v : Int} (hexec : p.tables.exec = Jvm.exec) (hb : c.code = cc) (hr : meth.sig.returnType = some .int) (hlocks : meth.locks = false) (hP : va_P D vwCl wc' H) (hD : va_D A wc') (hS : va_S A s.heap H locs) (hdg : decode cc pc = .ok (.ireturn, 1)) : W p l e R s m args below meth c H locs cells slots (MQ below (zQi D wc' v A) args s cells slots A) (F0 m pc ls [.int (zi v)]) :=
  W.iret (v := zi v) hexec hb hr (fun t ht _ => ⟨⟨zi v, (), rfl, rfl, by rw [ht]; exact hP, hD⟩, hS.F ht⟩) hS.2.2 hdg hlocks
theorem z_zret {D : va_G} {wc' : va_W} {v : Int} (hexec : p.tables.exec = Jvm.exec) (hb : c.code = cc) (hr : meth.sig.returnType = some .boolean) (hlocks : meth.locks = false) (hv : v = 0 ∨ v = 1) (hP : va_P D vwCl wc' H) (hD : va_D A wc') (hS : va_S A s.heap H locs) (hdg : decode cc pc = .ok (.ireturn, 1)) : W p l e R s m args below meth c H locs cells slots (MQ below (zQi D wc' v A) args s cells slots A) (F0 m pc ls [.int (zi v)]) :=
  W.zret (v := zi v) hexec hb hr (by rcases hv with rfl | rfl <;> decide) (fun t ht _ => ⟨⟨zi v, (), rfl, rfl, by rw [ht]; exact hP, hD⟩, hS.F ht⟩) hS.2.2 hdg hlocks
theorem z_lret {D : va_G} {wc' : va_W} {v : Int} (hexec : p.tables.exec = Jvm.exec) (hb : c.code = cc) (hr : meth.sig.returnType = some .long) (hlocks : meth.locks = false) (hP : va_P D vwCl wc' H) (hD : va_D A wc') (hS : va_S A s.heap H locs) (hdg : decode cc pc = .ok (.lreturn, 1)) : W p l e R s m args below meth c H locs cells slots (MQ below (zQl D wc' v A) args s cells slots A) (F0 m pc ls [.long (zl v)]) :=
  W.lret (v := zl v) hexec hb hr (fun t ht _ => ⟨⟨zl v, (), rfl, rfl, by rw [ht]; exact hP, hD⟩, hS.F ht⟩) hS.2.2 hdg hlocks
theorem z_vret {D : va_G} {wc' : va_W} (hexec : p.tables.exec = Jvm.exec) (hb : c.code = cc) (hr : meth.sig.returnType = none) (hlocks : meth.locks = false) (hP : va_P D vwCl wc' H) (hD : va_D A wc') (hS : va_S A s.heap H locs) (hdg : decode cc pc = .ok (.return_, 1)) : W p l e R s m args below meth c H locs cells slots (MQ below (zQv D wc' A) args s cells slots A) (F0 m pc ls []) :=
  W.vret hexec hb hr (fun t ht _ => ⟨⟨(), rfl, trivial, by rw [ht]; exact hP, hD⟩, hS.F ht⟩) hS.2.2 hdg hlocks
theorem z_aret {D : va_G} {wc' : va_W} {ra : Nat} {C : String} (hexec : p.tables.exec = Jvm.exec) (hb : c.code = cc) (hr : meth.sig.returnType = some (.object C)) (hlocks : meth.locks = false) (hP : va_P D vwCl wc' H) (hD : va_D A wc') (hS : va_S A s.heap H locs) (hdg : decode cc pc = .ok (.areturn, 1)) : W p l e R s m args below meth c H locs cells slots (MQ below (zQr D wc' ra A) args s cells slots A) (F0 m pc ls [.ref ra]) :=
  W.aret (v := .ref ra) hexec hb hr (Or.inl ⟨_, rfl⟩) (Or.inr ⟨_, rfl⟩) (fun t ht _ => ⟨⟨(), ra, rfl, trivial, rfl, by rw [ht]; exact hP, hD⟩, hS.F ht⟩) hS.2.2 hdg hlocks
end ZR
