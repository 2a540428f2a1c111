theorem mz_n0 : Cond.methodLinkNest RX8 55 yX10_isFigure "EachSecondStruck" ∈ lw_tbl := List.mem_of_getElem? (i := 333) (by decide +kernel)
theorem mz_n1 : Cond.methodLinkNest RX10 17 yX8_init "EachSecondStruck" ∈ lw_tbl := List.mem_of_getElem? (i := 72) (by decide +kernel)
theorem mz_n2 : Cond.methodLinkNest RX10 30 yX4_init "EachSecondStruck" ∈ lw_tbl := List.mem_of_getElem? (i := 123) (by decide +kernel)
theorem mz_n3 : Cond.methodLinkNest RX10 49 yX6_init "EachSecondStruck" ∈ lw_tbl := List.mem_of_getElem? (i := 174) (by decide +kernel)
theorem mz_n4 : Cond.methodLinkNest RX10 52 yX5_init "EachSecondStruck" ∈ lw_tbl := List.mem_of_getElem? (i := 181) (by decide +kernel)
theorem mz_n5 : Cond.methodLinkNest RX10 55 yX7_init "EachSecondStruck" ∈ lw_tbl := List.mem_of_getElem? (i := 188) (by decide +kernel)
theorem mz_n6 : Cond.methodLinkNest RX10 58 yX1_init "EachSecondStruck" ∈ lw_tbl := List.mem_of_getElem? (i := 195) (by decide +kernel)
theorem mz_n7 : Cond.methodLinkNest RX10 61 yX9_init "EachSecondStruck" ∈ lw_tbl := List.mem_of_getElem? (i := 202) (by decide +kernel)
theorem mz_n8 : Cond.methodLinkNest RX10 64 yX2_init "EachSecondStruck" ∈ lw_tbl := List.mem_of_getElem? (i := 209) (by decide +kernel)
theorem mz_n9 : Cond.methodLinkNest RX10 67 yX3_init "EachSecondStruck" ∈ lw_tbl := List.mem_of_getElem? (i := 216) (by decide +kernel)
theorem mz_n10 : Cond.methodLinkNest RX5 1 yX6_init "EachSecondStruck" ∈ lw_tbl := List.mem_of_getElem? (i := 184) (by decide +kernel)
theorem mz_n11 : Cond.methodLinkNest RX7 1 yX6_init "EachSecondStruck" ∈ lw_tbl := List.mem_of_getElem? (i := 191) (by decide +kernel)
theorem mz_n12 : Cond.methodLinkNest RX1 1 yX6_init "EachSecondStruck" ∈ lw_tbl := List.mem_of_getElem? (i := 198) (by decide +kernel)
theorem mz_n13 : Cond.methodLinkNest RX9 1 yX7_init "EachSecondStruck" ∈ lw_tbl := List.mem_of_getElem? (i := 205) (by decide +kernel)
theorem mz_n14 : Cond.methodLinkNest RX2 1 yX6_init "EachSecondStruck" ∈ lw_tbl := List.mem_of_getElem? (i := 212) (by decide +kernel)
theorem mz_n15 : Cond.methodLinkNest RX3 1 yX1_init "EachSecondStruck" ∈ lw_tbl := List.mem_of_getElem? (i := 219) (by decide +kernel)
theorem mz_c0 : Cond.castable RX5 "EachSecondStruck$Next" ∈ lw_tbl := List.mem_of_getElem? (i := 989) (by decide +kernel)
theorem mz_c1 : Cond.castable RX7 "EachSecondStruck$Next" ∈ lw_tbl := List.mem_of_getElem? (i := 990) (by decide +kernel)
theorem mz_c2 : Cond.castable RX1 "EachSecondStruck$Next" ∈ lw_tbl := List.mem_of_getElem? (i := 991) (by decide +kernel)
theorem mz_c3 : Cond.castable RX9 "EachSecondStruck$Next" ∈ lw_tbl := List.mem_of_getElem? (i := 992) (by decide +kernel)
theorem mz_c4 : Cond.castable RX2 "EachSecondStruck$Next" ∈ lw_tbl := List.mem_of_getElem? (i := 993) (by decide +kernel)
theorem mz_c5 : Cond.castable RX3 "EachSecondStruck$Next" ∈ lw_tbl := List.mem_of_getElem? (i := 994) (by decide +kernel)
theorem mz_a : Cond.arrayOver (.object "EachSecondStruck$Next") ∈ lw_tbl := List.mem_of_getElem? (i := 69) (by decide +kernel)
theorem mz_i : Cond.arrayClass .int ∈ lw_tbl := List.mem_of_getElem? (i := 120) (by decide +kernel)
theorem mz_k0 : Cond.instantiable RX0 1 ∈ lw_tbl := List.mem_of_getElem? (i := 152) (by decide +kernel)
theorem mz_k1 : Cond.instantiable RX1 0 ∈ lw_tbl := List.mem_of_getElem? (i := 194) (by decide +kernel)
theorem mz_k2 : Cond.instantiable RX2 0 ∈ lw_tbl := List.mem_of_getElem? (i := 208) (by decide +kernel)
theorem mz_k3 : Cond.instantiable RX3 0 ∈ lw_tbl := List.mem_of_getElem? (i := 215) (by decide +kernel)
theorem mz_k4 : Cond.instantiable RX4 6 ∈ lw_tbl := List.mem_of_getElem? (i := 122) (by decide +kernel)
theorem mz_k5 : Cond.instantiable RX5 0 ∈ lw_tbl := List.mem_of_getElem? (i := 180) (by decide +kernel)
theorem mz_k6 : Cond.instantiable RX6 0 ∈ lw_tbl := List.mem_of_getElem? (i := 173) (by decide +kernel)
theorem mz_k7 : Cond.instantiable RX7 0 ∈ lw_tbl := List.mem_of_getElem? (i := 187) (by decide +kernel)
theorem mz_k8 : Cond.instantiable RX8 10 ∈ lw_tbl := List.mem_of_getElem? (i := 71) (by decide +kernel)
theorem mz_k9 : Cond.instantiable RX9 0 ∈ lw_tbl := List.mem_of_getElem? (i := 201) (by decide +kernel)
theorem mz_k10 : Cond.instantiable RX10 10 ∈ lw_tbl := List.mem_of_getElem? (i := 61) (by decide +kernel)
theorem mz_k11 : Cond.instantiable RX11 38 ∈ lw_tbl := List.mem_of_getElem? (i := 631) (by decide +kernel)
theorem zE_at {s : State} {args : Array Value} (hts0 : ∀ w ∈ lw_tbl, w.before args s = true) : zE s := by
  refine ⟨?_, ?_, hts0 _ mz_a⟩
  · exact List.forall_mem_cons.mpr ⟨va_Nw.of rfl (hts0 _ mz_n0), List.forall_mem_cons.mpr ⟨va_Nw.of rfl (hts0 _ mz_n1), List.forall_mem_cons.mpr ⟨va_Nw.of rfl (hts0 _ mz_n2), List.forall_mem_cons.mpr ⟨va_Nw.of rfl (hts0 _ mz_n3), List.forall_mem_cons.mpr ⟨va_Nw.of rfl (hts0 _ mz_n4), List.forall_mem_cons.mpr ⟨va_Nw.of rfl (hts0 _ mz_n5), List.forall_mem_cons.mpr ⟨va_Nw.of rfl (hts0 _ mz_n6), List.forall_mem_cons.mpr ⟨va_Nw.of rfl (hts0 _ mz_n7), List.forall_mem_cons.mpr ⟨va_Nw.of rfl (hts0 _ mz_n8), List.forall_mem_cons.mpr ⟨va_Nw.of rfl (hts0 _ mz_n9), List.forall_mem_cons.mpr ⟨va_Nw.of rfl (hts0 _ mz_n10), List.forall_mem_cons.mpr ⟨va_Nw.of rfl (hts0 _ mz_n11), List.forall_mem_cons.mpr ⟨va_Nw.of rfl (hts0 _ mz_n12), List.forall_mem_cons.mpr ⟨va_Nw.of rfl (hts0 _ mz_n13), List.forall_mem_cons.mpr ⟨va_Nw.of rfl (hts0 _ mz_n14), List.forall_mem_cons.mpr ⟨va_Nw.of rfl (hts0 _ mz_n15), fun _ h => absurd h List.not_mem_nil⟩⟩⟩⟩⟩⟩⟩⟩⟩⟩⟩⟩⟩⟩⟩⟩
  · exact List.forall_mem_cons.mpr ⟨va_Nw.of rfl (hts0 _ mz_c0), List.forall_mem_cons.mpr ⟨va_Nw.of rfl (hts0 _ mz_c1), List.forall_mem_cons.mpr ⟨va_Nw.of rfl (hts0 _ mz_c2), List.forall_mem_cons.mpr ⟨va_Nw.of rfl (hts0 _ mz_c3), List.forall_mem_cons.mpr ⟨va_Nw.of rfl (hts0 _ mz_c4), List.forall_mem_cons.mpr ⟨va_Nw.of rfl (hts0 _ mz_c5), fun _ h => absurd h List.not_mem_nil⟩⟩⟩⟩⟩⟩
theorem zK_at {s : State} {args : Array Value} (hts0 : ∀ w ∈ lw_tbl, w.before args s = true) : ∃ (dC : Nat → ClassId) (dI : Nat → Nat → Nat) (cA cN : ClassId), va_K (dC, dI) vwCl (zT cA cN) s := by
  obtain ⟨c0, i0, h0⟩ := u_known (C := RX0) (T := TX0) (N := 1) (n := 1) hts0 inX0 (hts0 _ mz_k0)
  obtain ⟨c1, i1, h1⟩ := u_known (C := RX1) (T := TX1) (N := 0) (n := 0) hts0 inX1 (hts0 _ mz_k1)
  obtain ⟨c2, i2, h2⟩ := u_known (C := RX2) (T := TX2) (N := 0) (n := 0) hts0 inX2 (hts0 _ mz_k2)
  obtain ⟨c3, i3, h3⟩ := u_known (C := RX3) (T := TX3) (N := 0) (n := 0) hts0 inX3 (hts0 _ mz_k3)
  obtain ⟨c4, i4, h4⟩ := u_known (C := RX4) (T := TX4) (N := 6) (n := 6) hts0 inX4 (hts0 _ mz_k4)
  obtain ⟨c5, i5, h5⟩ := u_known (C := RX5) (T := TX5) (N := 0) (n := 0) hts0 inX5 (hts0 _ mz_k5)
  obtain ⟨c6, i6, h6⟩ := u_known (C := RX6) (T := TX6) (N := 0) (n := 0) hts0 inX6 (hts0 _ mz_k6)
  obtain ⟨c7, i7, h7⟩ := u_known (C := RX7) (T := TX7) (N := 0) (n := 0) hts0 inX7 (hts0 _ mz_k7)
  obtain ⟨c8, i8, h8⟩ := u_known (C := RX8) (T := TX8) (N := 10) (n := 10) hts0 inX8 (hts0 _ mz_k8)
  obtain ⟨c9, i9, h9⟩ := u_known (C := RX9) (T := TX9) (N := 0) (n := 0) hts0 inX9 (hts0 _ mz_k9)
  obtain ⟨c10, i10, h10⟩ := u_known (C := RX10) (T := TX10) (N := 10) (n := 10) hts0 inX10 (hts0 _ mz_k10)
  obtain ⟨c11, i11, h11⟩ := u_known (C := RX11) (T := TX11) (N := 38) (n := 38) hts0 inX11 (hts0 _ mz_k11)
  obtain ⟨cA, kA, comp, e1, e2, e3⟩ := Cond.arrayClass_spec (type := .int) (hts0 _ mz_i)
  obtain ⟨comp2, cN, kN, f1, f2, f3, f4, f5⟩ := Cond.arrayOver_spec (hts0 _ mz_a)
  refine ⟨fun k => [c0, c1, c2, c3, c4, c5, c6, c7, c8, c9, c10, c11].getD k c0, fun k => [i0, i1, i2, i3, i4, i5, i6, i7, i8, i9, i10, i11].getD k i0, cA, cN, ?_, ?_⟩
  · intro k q hq
    match k, hq with
    | 0, hq => cases hq; exact h0
    | 1, hq => cases hq; exact h1
    | 2, hq => cases hq; exact h2
    | 3, hq => cases hq; exact h3
    | 4, hq => cases hq; exact h4
    | 5, hq => cases hq; exact h5
    | 6, hq => cases hq; exact h6
    | 7, hq => cases hq; exact h7
    | 8, hq => cases hq; exact h8
    | 9, hq => cases hq; exact h9
    | 10, hq => cases hq; exact h10
    | 11, hq => cases hq; exact h11
    | k + 12, hq => simp [vwCl] at hq
  · intro k q hq
    match k, hq with
    | 0, hq => cases hq; exact ⟨fun n z => ⟨fun k h => (by cases h), kA, e2, comp, e3⟩, e1⟩
    | 1, hq => cases hq; exact ⟨fun n z => ⟨fun k h => (by cases h), kN, f3, comp2, f4⟩, kN, comp2, f3, f4, f1, f5⟩
    | k + 2, hq => simp [zT] at hq
set_option maxHeartbeats 4000000 in
set_option maxRecDepth 100000 in
theorem whole_start {p : Program} {e : Env} {s : State} {m : MethodId} {below : List Frame} {meth : Method} {c : Code} (l : Launch) (hflags : l.flags = flags0) {b L : Nat} {xs : Nat → Int32} (hL : L ≤ 1536) (C0 : lw_At p s m meth c b L xs) : W p l e room_1 s m #[Value.ref b] below meth c s.heap [] 0 0 (lw_Z below #[Value.ref b] s) (entryFrame m ([Value.ref b] : List Value).toArray 4) := by
  obtain ⟨hx, hb, hr, hml, hown, hts0, hX, hbl, hlocks, hgv⟩ := id C0
  have hown : s.vm.findClass RL = some m.cls := hown
  have hts : ∀ w ∈ wsL_law, w.before #[Value.ref b] s = true := fun w h => hts0 w (wsL_law_in w h)
  have hA : ∀ q : Nat, s.heap.size ≤ q → (fun q : Nat => s.heap.size ≤ q) q := fun _ h => h
  obtain ⟨dC, dI, cA, cN, hK⟩ := zK_at hts0
  have hE := zE_at hts0
  have hS : va_S (fun q : Nat => s.heap.size ≤ q) s.heap s.heap [] := va_S.rf
  have hP : va_P (dC, dI) vwCl [] s.heap := fun k q h => by simp at h
  have hD : va_D (fun q : Nat => s.heap.size ≤ q) [] := ⟨fun i j p q h => by simp at h, fun k q h => by simp at h⟩
  have hl := lv_entry ([.ref b]) (n := 4) (Nat.le_of_ble_eq_true rfl)
  rw [lg_entry_eq]
  generalize (lg_sl ([.ref b]) ++ List.replicate (4 - (lg_sl ([.ref b])).length) Slot.unset).toArray = ls at hl ⊢
  have hl : lv_has ls 4 [(0, .ref b)] := hl
  obtain ⟨x9_e_luckCounts, x9_r9, x9_t_size9, x9_t_there9, x9_t_roundsBy9, x9_t_line9, x9_t_wentIn9, y9_t_size9, y9_t_many9, y9_t_rounds9, y9_t_row9, y9_t_went9, hc0, hc1, hc2, hI⟩ := zs_init
  refine va_new (ci := 10) (fs := [.null, .null, .null, .null, .int (zi 0), .null, .null, .null, .int (zi 0), .null]) (C := RX10) (T := TX10) (N := 10) hx hb hts0 inX10 tyX10 tyX10_ok hown (hts0 (Cond.classLink RL 7 RX10) (wsL_law_r1_in _ (by decide +kernel))) (hts0 (Cond.instantiable RX10 10) (wsL_law_r1_in _ (by decide +kernel))) (hts0 (Cond.initialized RX10) (wsL_law_r1_in _ (by decide +kernel))) hK hP hD hS hA rfl (fun j hj => by rcases (show j = 0 ∨ j = 1 ∨ j = 2 ∨ j = 3 ∨ j = 4 ∨ j = 5 ∨ j = 6 ∨ j = 7 ∨ j = 8 ∨ j = 9 by omega) with rfl | rfl | rfl | rfl | rfl | rfl | rfl | rfl | rfl | rfl <;> first | rfl | decide) (Nat.le_of_ble_eq_true rfl) (Nat.le_of_ble_eq_true rfl) dL_law_0 (fun hx1 H hP hD hS => ?_)
  have hP : va_P (dC, dI) vwCl [(hx1, .inr (10, [.null, .null, .null, .null, .int (zi 0), .null, .null, .null, .int (zi 0), .null]))] H := hP
  have hD : va_D (fun q : Nat => s.heap.size ≤ q) [(hx1, .inr (10, [.null, .null, .null, .null, .int (zi 0), .null, .null, .null, .int (zi 0), .null]))] := hD
  refine lv_dup hx hb dL_law_3 rfl ?_
  refine z_callu (S := Nat → Nat) (wr := []) (va_runI (As := []) (rest := [.ref hx1]) ⟨hx, hb, hml, hown, hts⟩ (c_X10_init l dC dI cA cN _ hx1 x9_e_luckCounts x9_r9 x9_t_size9 x9_t_there9 x9_t_roundsBy9 x9_t_line9 x9_t_wentIn9 hc0 hc1) (cwI 0 hts gL_law_X10_init rfl rfl rfl (hts0 (Cond.initialized RX10) (wsL_law_r1_in _ (by decide +kernel))) (hts0 (Cond.methodLink RL 9 yX10_init) (wsL_law_r1_in _ (by decide +kernel))) (hts0 (Cond.instanceMethod yX10_init) (wsL_law_r1_in _ (by decide +kernel))) rfl (by decide +kernel) ⟨(Nat.le_of_ble_eq_true rfl), (Nat.le_of_ble_eq_true rfl)⟩) (zPc.pre hK hE hP hD [0] rfl rfl) rfl rfl hl.1 rfl (lv_room (Nat.le_of_ble_eq_true rfl)) dL_law_4 ⟨(Nat.le_of_ble_eq_true rfl), (Nat.le_of_ble_eq_true rfl)⟩) hP hD hS hA [0] [] rfl rfl rfl (by decide) (fun u H locs hP hD hS => ?_)
  have hP : va_P (dC, dI) vwCl (wX cA cN hx1 u 0 0 x9_t_size9 x9_t_there9 x9_t_roundsBy9 0 2 0 0 0 0 0 0 0 0 0 0 0 0 0 0 0 0 0 0 (fun _ => 0) (fun _ => 0) (fun _ => 0) x9_t_line9 (fun _ => 0) x9_t_wentIn9 (fun _ => 0) (fun _ => 0) (fun _ => 0) (fun _ => 0) (fun _ => 0) (fun _ => 0) (fun _ => 0) (fun _ => 0) (fun _ => 0) x9_e_luckCounts) H := hP
  have hD : va_D (fun q : Nat => s.heap.size ≤ q) (wX cA cN hx1 u 0 0 x9_t_size9 x9_t_there9 x9_t_roundsBy9 0 2 0 0 0 0 0 0 0 0 0 0 0 0 0 0 0 0 0 0 (fun _ => 0) (fun _ => 0) (fun _ => 0) x9_t_line9 (fun _ => 0) x9_t_wentIn9 (fun _ => 0) (fun _ => 0) (fun _ => 0) (fun _ => 0) (fun _ => 0) (fun _ => 0) (fun _ => 0) (fun _ => 0) (fun _ => 0) x9_e_luckCounts) := hD
  refine lv_astore_n (lv' := [(1, .ref hx1), (0, .ref b)]) hx hb dL_law_7 rfl hl (by decide) rfl (fun ls hl => ?_)
  refine va_new (ci := 11) (fs := [.int (zi 0), .int (zi 0), .int (zi 0), .int (zi 0), .int (zi 0), .int (zi 0), .null, .null, .null, .int (zi 0), .null, .null, .null, .int (zi 0), .null, .int (zi 0), .int (zi 0), .null, .null, .int (zi 0), .null, .null, .int (zi 0), .int (zi 0), .int (zi 0), .int (zi 0), .null, .null, .null, .null, .null, .null, .int (zi 0), .null, .null, .int (zi 0), .int (zi 0), .null]) (C := RX11) (T := TX11) (N := 38) hx hb hts0 inX11 tyX11 tyX11_ok hown (hts0 (Cond.classLink RL 10 RX11) (wsL_law_r1_in _ (by decide +kernel))) (hts0 (Cond.instantiable RX11 38) (wsL_law_r1_in _ (by decide +kernel))) (hts0 (Cond.initialized RX11) (wsL_law_r1_in _ (by decide +kernel))) hK hP hD hS hA rfl (fun j hj => by rcases (show j = 0 ∨ j = 1 ∨ j = 2 ∨ j = 3 ∨ j = 4 ∨ j = 5 ∨ j = 6 ∨ j = 7 ∨ j = 8 ∨ j = 9 ∨ j = 10 ∨ j = 11 ∨ j = 12 ∨ j = 13 ∨ j = 14 ∨ j = 15 ∨ j = 16 ∨ j = 17 ∨ j = 18 ∨ j = 19 ∨ j = 20 ∨ j = 21 ∨ j = 22 ∨ j = 23 ∨ j = 24 ∨ j = 25 ∨ j = 26 ∨ j = 27 ∨ j = 28 ∨ j = 29 ∨ j = 30 ∨ j = 31 ∨ j = 32 ∨ j = 33 ∨ j = 34 ∨ j = 35 ∨ j = 36 ∨ j = 37 by omega) with rfl | rfl | rfl | rfl | rfl | rfl | rfl | rfl | rfl | rfl | rfl | rfl | rfl | rfl | rfl | rfl | rfl | rfl | rfl | rfl | rfl | rfl | rfl | rfl | rfl | rfl | rfl | rfl | rfl | rfl | rfl | rfl | rfl | rfl | rfl | rfl | rfl | rfl <;> first | rfl | decide) (Nat.le_of_ble_eq_true rfl) (Nat.le_of_ble_eq_true rfl) dL_law_8 (fun hy1 H hP hD hS => ?_)
  have hP : va_P (dC, dI) vwCl (wX cA cN hx1 u 0 0 x9_t_size9 x9_t_there9 x9_t_roundsBy9 0 2 0 0 0 0 0 0 0 0 0 0 0 0 0 0 0 0 0 0 (fun _ => 0) (fun _ => 0) (fun _ => 0) x9_t_line9 (fun _ => 0) x9_t_wentIn9 (fun _ => 0) (fun _ => 0) (fun _ => 0) (fun _ => 0) (fun _ => 0) (fun _ => 0) (fun _ => 0) (fun _ => 0) (fun _ => 0) x9_e_luckCounts ++ [(hy1, .inr (11, [.int (zi 0), .int (zi 0), .int (zi 0), .int (zi 0), .int (zi 0), .int (zi 0), .null, .null, .null, .int (zi 0), .null, .null, .null, .int (zi 0), .null, .int (zi 0), .int (zi 0), .null, .null, .int (zi 0), .null, .null, .int (zi 0), .int (zi 0), .int (zi 0), .int (zi 0), .null, .null, .null, .null, .null, .null, .int (zi 0), .null, .null, .int (zi 0), .int (zi 0), .null]))]) H := hP
  have hD : va_D (fun q : Nat => s.heap.size ≤ q) (wX cA cN hx1 u 0 0 x9_t_size9 x9_t_there9 x9_t_roundsBy9 0 2 0 0 0 0 0 0 0 0 0 0 0 0 0 0 0 0 0 0 (fun _ => 0) (fun _ => 0) (fun _ => 0) x9_t_line9 (fun _ => 0) x9_t_wentIn9 (fun _ => 0) (fun _ => 0) (fun _ => 0) (fun _ => 0) (fun _ => 0) (fun _ => 0) (fun _ => 0) (fun _ => 0) (fun _ => 0) x9_e_luckCounts ++ [(hy1, .inr (11, [.int (zi 0), .int (zi 0), .int (zi 0), .int (zi 0), .int (zi 0), .int (zi 0), .null, .null, .null, .int (zi 0), .null, .null, .null, .int (zi 0), .null, .int (zi 0), .int (zi 0), .null, .null, .int (zi 0), .null, .null, .int (zi 0), .int (zi 0), .int (zi 0), .int (zi 0), .null, .null, .null, .null, .null, .null, .int (zi 0), .null, .null, .int (zi 0), .int (zi 0), .null]))]) := hD
  refine lv_dup hx hb dL_law_11 rfl ?_
  refine z_callu (S := Nat → Nat) (wr := (wX cA cN hx1 u 0 0 x9_t_size9 x9_t_there9 x9_t_roundsBy9 0 2 0 0 0 0 0 0 0 0 0 0 0 0 0 0 0 0 0 0 (fun _ => 0) (fun _ => 0) (fun _ => 0) x9_t_line9 (fun _ => 0) x9_t_wentIn9 (fun _ => 0) (fun _ => 0) (fun _ => 0) (fun _ => 0) (fun _ => 0) (fun _ => 0) (fun _ => 0) (fun _ => 0) (fun _ => 0) x9_e_luckCounts)) (va_runI (As := []) (rest := [.ref hy1]) ⟨hx, hb, hml, hown, hts⟩ (c_X11_init l dC dI cA cN _ hy1 y9_t_size9 y9_t_many9 y9_t_rounds9 y9_t_row9 y9_t_went9 hc2) (cwI 0 hts gL_law_X11_init rfl rfl rfl (hts0 (Cond.initialized RX11) (wsL_law_r1_in _ (by decide +kernel))) (hts0 (Cond.methodLink RL 12 yX11_init) (wsL_law_r5_in _ (by decide +kernel))) (hts0 (Cond.instanceMethod yX11_init) (wsL_law_r5_in _ (by decide +kernel))) rfl (by decide +kernel) ⟨(Nat.le_of_ble_eq_true rfl), (Nat.le_of_ble_eq_true rfl)⟩) (zPc.pre hK hE hP hD [30] rfl rfl) rfl rfl hl.1 rfl (lv_room (Nat.le_of_ble_eq_true rfl)) dL_law_12 ⟨(Nat.le_of_ble_eq_true rfl), (Nat.le_of_ble_eq_true rfl)⟩) hP hD hS hA [30] [0, 1, 2, 3, 4, 5, 6, 7, 8, 9, 10, 11, 12, 13, 14, 15, 16, 17, 18, 19, 20, 21, 22, 23, 24, 25, 26, 27, 28, 29] rfl rfl rfl (by decide) (fun w H locs hP hD hS => ?_)
  have hP : va_P (dC, dI) vwCl (wX cA cN hx1 u 0 0 x9_t_size9 x9_t_there9 x9_t_roundsBy9 0 2 0 0 0 0 0 0 0 0 0 0 0 0 0 0 0 0 0 0 (fun _ => 0) (fun _ => 0) (fun _ => 0) x9_t_line9 (fun _ => 0) x9_t_wentIn9 (fun _ => 0) (fun _ => 0) (fun _ => 0) (fun _ => 0) (fun _ => 0) (fun _ => 0) (fun _ => 0) (fun _ => 0) (fun _ => 0) x9_e_luckCounts ++ wY cA hy1 w y9_t_size9 y9_t_many9 y9_t_rounds9 0 2 0 0 0 0 0 0 0 0 0 0 0 0 0 0 (fun _ => 0) (fun _ => 0) (fun _ => 0) (fun _ => 0) (fun _ => 0) (fun _ => 0) (fun _ => 0) (fun _ => 0) (fun _ => 0) (fun _ => 0) y9_t_row9 (fun _ => 0) (fun _ => 0) (fun _ => 0) (fun _ => 0) (fun _ => 0) (fun _ => 0) y9_t_went9 (fun _ => 0)) H := hP
  have hD : va_D (fun q : Nat => s.heap.size ≤ q) (wX cA cN hx1 u 0 0 x9_t_size9 x9_t_there9 x9_t_roundsBy9 0 2 0 0 0 0 0 0 0 0 0 0 0 0 0 0 0 0 0 0 (fun _ => 0) (fun _ => 0) (fun _ => 0) x9_t_line9 (fun _ => 0) x9_t_wentIn9 (fun _ => 0) (fun _ => 0) (fun _ => 0) (fun _ => 0) (fun _ => 0) (fun _ => 0) (fun _ => 0) (fun _ => 0) (fun _ => 0) x9_e_luckCounts ++ wY cA hy1 w y9_t_size9 y9_t_many9 y9_t_rounds9 0 2 0 0 0 0 0 0 0 0 0 0 0 0 0 0 (fun _ => 0) (fun _ => 0) (fun _ => 0) (fun _ => 0) (fun _ => 0) (fun _ => 0) (fun _ => 0) (fun _ => 0) (fun _ => 0) (fun _ => 0) y9_t_row9 (fun _ => 0) (fun _ => 0) (fun _ => 0) (fun _ => 0) (fun _ => 0) (fun _ => 0) y9_t_went9 (fun _ => 0)) := hD
  refine lv_astore_n (lv' := [(2, .ref hy1), (1, .ref hx1), (0, .ref b)]) hx hb dL_law_15 rfl hl (by decide) rfl (fun ls hl => ?_)
  refine z_iconst hx hb dL_law_16 ?_
  refine lv_istore_n (lv' := [(3, .int (zi 0)), (2, .ref hy1), (1, .ref hx1), (0, .ref b)]) hx hb dL_law_17 rfl hl (by decide) rfl (fun ls hl => ?_)
  refine W.widen (k := 50) (n := 6866) (Nat.le_of_ble_eq_true rfl) (Nat.le_of_ble_eq_true rfl) ?_
  exact law_loop ⟨hx, hb, hr, hml, hown, hts, hX, hbl, hlocks, hK, hE, hL⟩ (L + 4) 0 (by omega) (by omega) (by omega) _ _ _ _ _ _ _ _ _ _ _ _ _ _ _ _ _ _ _ _ _ _ _ _ _ _ _ _ _ _ _ _ _ _ _ _ _ _ _ _ _ _ _ _ _ _ _ _ _ _ _ _ _ _ _ _ _ _ _ _ _ _ _ _ _ _ _ _ _ _ _ _ _ _ _ _ _ _ _ hI H locs ls hP hD hS (lv_sub hl [3, 2, 1, 0] rfl)
