-- X8_numberAt
theorem dX8_numberAt_0 : decode cX8_numberAt 0 = .ok (.iload_n 1, 1) := by decide +kernel
theorem dX8_numberAt_1 : decode cX8_numberAt 1 = .ok (.ifCond .lt 20, 3) := by decide +kernel
theorem dX8_numberAt_4 : decode cX8_numberAt 4 = .ok (.iload_n 1, 1) := by decide +kernel
theorem dX8_numberAt_5 : decode cX8_numberAt 5 = .ok (.aload_n 0, 1) := by decide +kernel
theorem dX8_numberAt_6 : decode cX8_numberAt 6 = .ok (.getfield 28, 3) := by decide +kernel
theorem dX8_numberAt_9 : decode cX8_numberAt 9 = .ok (.if_icmp .ge 12, 3) := by decide +kernel
theorem dX8_numberAt_12 : decode cX8_numberAt 12 = .ok (.aload_n 0, 1) := by decide +kernel
theorem dX8_numberAt_13 : decode cX8_numberAt 13 = .ok (.getfield 15, 3) := by decide +kernel
theorem dX8_numberAt_16 : decode cX8_numberAt 16 = .ok (.iload_n 1, 1) := by decide +kernel
theorem dX8_numberAt_17 : decode cX8_numberAt 17 = .ok (.iaload, 1) := by decide +kernel
theorem dX8_numberAt_18 : decode cX8_numberAt 18 = .ok (.goto 5, 3) := by decide +kernel
theorem dX8_numberAt_21 : decode cX8_numberAt 21 = .ok (.bipush (-9), 2) := by decide +kernel
theorem dX8_numberAt_23 : decode cX8_numberAt 23 = .ok (.ireturn, 1) := by decide +kernel
noncomputable def f_X8_numberAt (v1 : Int) (t_there : Int) (t_line : Int → Int) : Option (Int) := zg (zR v1) (if v1 < 0 then some (-9) else zg (zR v1 ∧ zR t_there) (if t_there ≤ v1 then some (-9) else zg ((0 : Int) ≤ v1 ∧ v1 < (120 : Int)) (some (t_line v1))))
theorem q_X8_numberAt_0 : Cond.fieldLink RX8 28 "EachSecondStruck$Standing" "there" "I" ∈ wsX8_numberAt := by decide +kernel
theorem q_X8_numberAt_1 : Cond.fieldLink RX8 15 "EachSecondStruck$Standing" "line" "[I" ∈ wsX8_numberAt := by decide +kernel
theorem in_X8_numberAt_X8 : ∀ w ∈ u_ws RX8 TX8 10, w ∈ wsX8_numberAt := by decide +kernel
set_option maxHeartbeats 4000000 in
set_option maxRecDepth 100000 in
theorem c_X8_numberAt (l : Launch) (dC : Nat → ClassId) (dI : Nat → Nat → Nat) (cA cN : ClassId) (sz : Nat) (ad_t : Nat) (ad_t_steps : Nat) (ad_t_line : Nat) (ad_t_gone : Nat) (ad_t_wentIn : Nat) (t_size : Int) (t_there : Int) (t_roundsBy : Int) (t_kind : Int) (t_figure : Int) (t_stepCount : Int) (t_line : Int → Int) (v1 : Int) (r0 : Int) (h : f_X8_numberAt v1 t_there t_line = some r0) : Met l yX8_numberAt wsX8_numberAt { frames := 0, cells := 0, slots := 0, locals := 0 } (zPc (dC, dI) (zT cA cN) [kX8 ad_t ad_t_steps ad_t_line ad_t_gone ad_t_wentIn t_size t_there t_roundsBy t_kind t_figure t_stepCount, kI cA ad_t_line 120 t_line] [.ref ad_t, .int (zi v1)] sz) (zQi (dC, dI) [kX8 ad_t ad_t_steps ad_t_line ad_t_gone ad_t_wentIn t_size t_there t_roundsBy t_kind t_figure t_stepCount, kI cA ad_t_line 120 t_line] r0 (va_A [kX8 ad_t ad_t_steps ad_t_line ad_t_gone ad_t_wentIn t_size t_there t_roundsBy t_kind t_figure t_stepCount, kI cA ad_t_line 120 t_line] sz)) 0 0 (va_A [kX8 ad_t ad_t_steps ad_t_line ad_t_gone ad_t_wentIn t_size t_there t_roundsBy t_kind t_figure t_stepCount, kI cA ad_t_line 120 t_line] sz) := by
  refine z_ofW (QF := fun A => zQi (dC, dI) [kX8 ad_t ad_t_steps ad_t_line ad_t_gone ad_t_wentIn t_size t_there t_roundsBy t_kind t_figure t_stepCount, kI cA ad_t_line 120 t_line] r0 A) (by decide) rfl (Nat.le_of_ble_eq_true rfl) ?_
  intro p e s m below meth c ls A hx hb hml hr hlocks hnm hts hown hK hP hD hE hsz hA hS hl
  have hl : lv_has ls 2 [(0, .ref ad_t), (1, .int (zi v1))] := hl
  unfold f_X8_numberAt at h
  refine lv_iload_n hx hb dX8_numberAt_0 rfl (lv_at hl 1 rfl) ?_
  refine z_if_lt (tgt := 21) hx hb dX8_numberAt_1 (by decide) h (fun h => ?_) (fun h => ?_)
  · refine z_bipush hx hb (by decide +kernel) dX8_numberAt_21 ?_
    cases h
    exact z_iret hx hb hr hlocks hP hD hS dX8_numberAt_23
  · refine lv_iload_n hx hb dX8_numberAt_4 rfl (lv_at hl 1 rfl) ?_
    refine lv_aload_n hx hb dX8_numberAt_5 rfl (lv_at hl 0 rfl) ?_
    refine va_get (D := (dC, dI)) (ci := 8) (v := .int (zi t_there)) (C := RX8) (T := TX8) (N := 10) hx hb hts in_X8_numberAt_X8 hown hK hP 0 rfl rfl 1 (by decide) (hts _ q_X8_numberAt_0) (fun _ h9 => h9) rfl dX8_numberAt_6 ?_
    refine z_icmp_ge (tgt := 21) hx hb dX8_numberAt_9 (by decide) h (fun q => q) (fun h => ?_) (fun h => ?_)
    · refine z_bipush hx hb (by decide +kernel) dX8_numberAt_21 ?_
      cases h
      exact z_iret hx hb hr hlocks hP hD hS dX8_numberAt_23
    · refine lv_aload_n hx hb dX8_numberAt_12 rfl (lv_at hl 0 rfl) ?_
      refine va_get (D := (dC, dI)) (ci := 8) (v := .ref ad_t_line) (C := RX8) (T := TX8) (N := 10) hx hb hts in_X8_numberAt_X8 hown hK hP 0 rfl rfl 7 (by decide) (hts _ q_X8_numberAt_1) (fun _ h9 => h9) rfl dX8_numberAt_13 ?_
      refine lv_iload_n hx hb dX8_numberAt_16 rfl (lv_at hl 1 rfl) ?_
      refine z_iald (N := 120) hx hb hK hP 1 0 rfl rfl rfl (by decide) dX8_numberAt_17 h (fun h => ?_)
      refine lv_goto (tgt := 23) hx hb dX8_numberAt_18 (by decide) ?_
      cases h
      exact z_iret hx hb hr hlocks hP hD hS dX8_numberAt_23
-- X5_countIn
theorem dX5_countIn_0 : decode cX5_countIn 0 = .ok (.iload_n 2, 1) := by decide +kernel
theorem dX5_countIn_1 : decode cX5_countIn 1 = .ok (.iconst 1, 1) := by decide +kernel
theorem dX5_countIn_2 : decode cX5_countIn 2 = .ok (.if_icmp .gt 5, 3) := by decide +kernel
theorem dX5_countIn_5 : decode cX5_countIn 5 = .ok (.iconst 2, 1) := by decide +kernel
theorem dX5_countIn_6 : decode cX5_countIn 6 = .ok (.ireturn, 1) := by decide +kernel
theorem dX5_countIn_7 : decode cX5_countIn 7 = .ok (.iload_n 2, 1) := by decide +kernel
theorem dX5_countIn_8 : decode cX5_countIn 8 = .ok (.aload_n 1, 1) := by decide +kernel
theorem dX5_countIn_9 : decode cX5_countIn 9 = .ok (.getfield 7, 3) := by decide +kernel
theorem dX5_countIn_12 : decode cX5_countIn 12 = .ok (.if_icmp .gt 13, 3) := by decide +kernel
theorem dX5_countIn_15 : decode cX5_countIn 15 = .ok (.aload_n 1, 1) := by decide +kernel
theorem dX5_countIn_16 : decode cX5_countIn 16 = .ok (.iload_n 2, 1) := by decide +kernel
theorem dX5_countIn_17 : decode cX5_countIn 17 = .ok (.iconst 1, 1) := by decide +kernel
theorem dX5_countIn_18 : decode cX5_countIn 18 = .ok (.isub, 1) := by decide +kernel
theorem dX5_countIn_19 : decode cX5_countIn 19 = .ok (.invokevirtual 13, 3) := by decide +kernel
theorem dX5_countIn_22 : decode cX5_countIn 22 = .ok (.goto 9, 3) := by decide +kernel
theorem dX5_countIn_25 : decode cX5_countIn 25 = .ok (.aload_n 1, 1) := by decide +kernel
theorem dX5_countIn_26 : decode cX5_countIn 26 = .ok (.getfield 7, 3) := by decide +kernel
theorem dX5_countIn_29 : decode cX5_countIn 29 = .ok (.iconst 1, 1) := by decide +kernel
theorem dX5_countIn_30 : decode cX5_countIn 30 = .ok (.iadd, 1) := by decide +kernel
theorem dX5_countIn_31 : decode cX5_countIn 31 = .ok (.istore_n 3, 1) := by decide +kernel
theorem dX5_countIn_32 : decode cX5_countIn 32 = .ok (.iload_n 3, 1) := by decide +kernel
theorem dX5_countIn_33 : decode cX5_countIn 33 = .ok (.iconst 2, 1) := by decide +kernel
theorem dX5_countIn_34 : decode cX5_countIn 34 = .ok (.invokestatic 17, 3) := by decide +kernel
theorem dX5_countIn_37 : decode cX5_countIn 37 = .ok (.ireturn, 1) := by decide +kernel
set_option maxRecDepth 20000 in
theorem ggX5_countIn_X8_numberAt : GoodIn wsX5_countIn wsX8_numberAt := goodIn_r _ [10, 11, 12, 13, 14, 15, 16, 17, 18, 19, 20, 21, 22] rfl (by decide +kernel)
set_option maxRecDepth 20000 in
theorem gX5_countIn_X8_numberAt : GoodIn wsX5_countIn (wsV RX5 13 RX8 yX8_numberAt wsX8_numberAt) := goodIn_app (goodIn_of _ (by decide +kernel)) ggX5_countIn_X8_numberAt
noncomputable def f_X5_countIn_J31 (s0 : Int) : Option (Int) := zg (zR s0 ∧ zR 2) (some (if s0 < 2 then 2 else s0))
noncomputable def f_X5_countIn (v2 : Int) (o_there : Int) (o_line : Int → Int) : Option (Int) := zg (zR v2) (if 1 < v2 then zg (zR v2 ∧ zR o_there) (if o_there < v2 then f_X5_countIn_J31 (o_there + 1) else (f_X8_numberAt (v2 - 1) o_there o_line).bind (fun r_1 => f_X5_countIn_J31 r_1)) else some 2)
theorem q_X5_countIn_0 : Cond.fieldLink RX5 7 "EachSecondStruck$Standing" "there" "I" ∈ wsX5_countIn := by decide +kernel
theorem q_X5_countIn_1 : Cond.methodLink RX5 17 Lib.Math.max.name ∈ wsX5_countIn := by decide +kernel
theorem q_X5_countIn_2 : Cond.static Lib.Math.max.name ∈ wsX5_countIn := by decide +kernel
theorem q_X5_countIn_3 : Cond.initialized "java/lang/Math" ∈ wsX5_countIn := by decide +kernel
theorem q_X5_countIn_4 : Cond.code Lib.Math.max.name Lib.Math.max.code 2 (some .int) ∈ wsX5_countIn := by decide +kernel
theorem in_X5_countIn_X8 : ∀ w ∈ u_ws RX8 TX8 10, w ∈ wsX5_countIn := by decide +kernel
set_option maxHeartbeats 4000000 in
set_option maxRecDepth 100000 in
theorem c_X5_countIn (l : Launch) (dC : Nat → ClassId) (dI : Nat → Nat → Nat) (cA cN : ClassId) (sz : Nat) (ad_o : Nat) (ad_o_steps : Nat) (ad_o_line : Nat) (ad_o_gone : Nat) (ad_o_wentIn : Nat) (ad_t : Nat) (o_size : Int) (o_there : Int) (o_roundsBy : Int) (o_kind : Int) (o_figure : Int) (o_stepCount : Int) (o_line : Int → Int) (v2 : Int) (r0 : Int) (h : f_X5_countIn v2 o_there o_line = some r0) : Met l yX5_countIn wsX5_countIn { frames := 1, cells := 0, slots := 0, locals := 21 } (zPc (dC, dI) (zT cA cN) [kX8 ad_o ad_o_steps ad_o_line ad_o_gone ad_o_wentIn o_size o_there o_roundsBy o_kind o_figure o_stepCount, kI cA ad_o_line 120 o_line] [.ref ad_t, .ref ad_o, .int (zi v2)] sz) (zQi (dC, dI) [kX8 ad_o ad_o_steps ad_o_line ad_o_gone ad_o_wentIn o_size o_there o_roundsBy o_kind o_figure o_stepCount, kI cA ad_o_line 120 o_line] r0 (va_A [kX8 ad_o ad_o_steps ad_o_line ad_o_gone ad_o_wentIn o_size o_there o_roundsBy o_kind o_figure o_stepCount, kI cA ad_o_line 120 o_line] sz)) 0 0 (va_A [kX8 ad_o ad_o_steps ad_o_line ad_o_gone ad_o_wentIn o_size o_there o_roundsBy o_kind o_figure o_stepCount, kI cA ad_o_line 120 o_line] sz) := by
  refine z_ofW (QF := fun A => zQi (dC, dI) [kX8 ad_o ad_o_steps ad_o_line ad_o_gone ad_o_wentIn o_size o_there o_roundsBy o_kind o_figure o_stepCount, kI cA ad_o_line 120 o_line] r0 A) (by decide) rfl (Nat.le_of_ble_eq_true rfl) ?_
  intro p e s m below meth c ls A hx hb hml hr hlocks hnm hts hown hK hP hD hE hsz hA hS hl
  have hl : lv_has ls 4 [(0, .ref ad_t), (1, .ref ad_o), (2, .int (zi v2))] := hl
  unfold f_X5_countIn at h
  refine lv_iload_n hx hb dX5_countIn_0 rfl (lv_at hl 2 rfl) ?_
  refine z_iconst hx hb dX5_countIn_1 ?_
  refine z_icmp_gt (tgt := 7) hx hb dX5_countIn_2 (by decide) h (fun q => ⟨q, by decide⟩) (fun h => ?_) (fun h => ?_)
  · refine lv_iload_n hx hb dX5_countIn_7 rfl (lv_at hl 2 rfl) ?_
    refine lv_aload_n hx hb dX5_countIn_8 rfl (lv_at hl 1 rfl) ?_
    refine va_get (D := (dC, dI)) (ci := 8) (v := .int (zi o_there)) (C := RX8) (T := TX8) (N := 10) hx hb hts in_X5_countIn_X8 hown hK hP 0 rfl rfl 1 (by decide) (hts _ q_X5_countIn_0) (fun _ h9 => h9) rfl dX5_countIn_9 ?_
    have hj31 : ∀ (s0_3 : Int) (H : Heap) (locs : List Loc) (ls : Array Slot), f_X5_countIn_J31 s0_3 = some r0 → va_P (dC, dI) vwCl [kX8 ad_o ad_o_steps ad_o_line ad_o_gone ad_o_wentIn o_size o_there o_roundsBy o_kind o_figure o_stepCount, kI cA ad_o_line 120 o_line] H → va_D A [kX8 ad_o ad_o_steps ad_o_line ad_o_gone ad_o_wentIn o_size o_there o_roundsBy o_kind o_figure o_stepCount, kI cA ad_o_line 120 o_line] → va_S A s.heap H locs → lv_has ls 4 [] → W p l e { frames := 1, cells := 0, slots := 0, locals := 21 } s m ([.ref ad_t, .ref ad_o, .int (zi v2)] : List Value).toArray below meth c H locs 0 0 (MQ below (zQi (dC, dI) [kX8 ad_o ad_o_steps ad_o_line ad_o_gone ad_o_wentIn o_size o_there o_roundsBy o_kind o_figure o_stepCount, kI cA ad_o_line 120 o_line] r0 A) ([.ref ad_t, .ref ad_o, .int (zi v2)] : List Value).toArray s 0 0 A) (F0 m 31 ls [.int (zi s0_3)]) := by
      intro s0_3 H locs ls h hP hD hS hl
      unfold f_X5_countIn_J31 at h
      refine lv_istore_n (lv' := [(3, .int (zi s0_3))]) hx hb dX5_countIn_31 rfl hl (by decide) rfl (fun ls hl => ?_)
      refine lv_iload_n hx hb dX5_countIn_32 rfl (lv_at hl 0 rfl) ?_
      refine z_iconst hx hb dX5_countIn_33 ?_
      refine z_mmax hx hb (hml.trans hl.1.symm) hown (hts _ q_X5_countIn_1) (hts _ q_X5_countIn_2) (hts _ q_X5_countIn_3) (hts _ q_X5_countIn_4) (Nat.le_of_ble_eq_true rfl) (Nat.le_of_ble_eq_true rfl) (Nat.le_of_ble_eq_true rfl) (Nat.le_of_ble_eq_true rfl) dX5_countIn_34 h (fun h => ?_)
      cases h
      exact z_iret hx hb hr hlocks hP hD hS dX5_countIn_37
    refine z_icmp_gt (tgt := 25) hx hb dX5_countIn_12 (by decide) h (fun q => q) (fun h => ?_) (fun h => ?_)
    · refine lv_aload_n hx hb dX5_countIn_25 rfl (lv_at hl 1 rfl) ?_
      refine va_get (D := (dC, dI)) (ci := 8) (v := .int (zi o_there)) (C := RX8) (T := TX8) (N := 10) hx hb hts in_X5_countIn_X8 hown hK hP 0 rfl rfl 1 (by decide) (hts _ q_X5_countIn_0) (fun _ h9 => h9) rfl dX5_countIn_26 ?_
      refine z_iconst hx hb dX5_countIn_29 ?_
      refine z_iadd hx hb dX5_countIn_30 ?_
      exact hj31 _ _ _ _ h hP hD hS (lv_sub hl [] rfl)
    · refine lv_aload_n hx hb dX5_countIn_15 rfl (lv_at hl 1 rfl) ?_
      refine lv_iload_n hx hb dX5_countIn_16 rfl (lv_at hl 2 rfl) ?_
      refine z_iconst hx hb dX5_countIn_17 ?_
      refine z_isub hx hb dX5_countIn_18 ?_
      obtain ⟨r_4, hc_5, h⟩ := zb h
      try dsimp only at h
      refine z_calliU (wc := [kX8 ad_o ad_o_steps ad_o_line ad_o_gone ad_o_wentIn o_size o_there o_roundsBy o_kind o_figure o_stepCount, kI cA ad_o_line 120 o_line]) (wc' := [kX8 ad_o ad_o_steps ad_o_line ad_o_gone ad_o_wentIn o_size o_there o_roundsBy o_kind o_figure o_stepCount, kI cA ad_o_line 120 o_line]) (ws' := [kX8 ad_o ad_o_steps ad_o_line ad_o_gone ad_o_wentIn o_size o_there o_roundsBy o_kind o_figure o_stepCount, kI cA ad_o_line 120 o_line]) (va_runV (As := [.int (zi (v2 - 1))]) (rest := []) ⟨hx, hb, hml, hown, hts⟩ (c_X8_numberAt l dC dI cA cN _ ad_o ad_o_steps ad_o_line ad_o_gone ad_o_wentIn o_size o_there o_roundsBy o_kind o_figure o_stepCount o_line (v2 - 1) r_4 hc_5) (cwV 1 hts gX5_countIn_X8_numberAt rfl rfl rfl (by decide +kernel) ⟨Nat.le_of_ble_eq_true rfl, Nat.le_of_ble_eq_true rfl⟩) (zPc.preV hK hE hP hD [0, 1] rfl rfl (ci := 8) (q0 := 0) rfl rfl) rfl rfl hl.1 rfl (lv_room (Nat.le_of_ble_eq_true rfl)) dX5_countIn_19 ⟨Nat.le_of_ble_eq_true rfl, Nat.le_of_ble_eq_true rfl⟩) hP hD hS hA [0, 1] rfl rfl rfl (fun H locs hP hD hS => ?_)
      refine lv_goto (tgt := 31) hx hb dX5_countIn_22 (by decide) ?_
      exact hj31 _ _ _ _ h hP hD hS (lv_sub hl [] rfl)
  · refine z_iconst hx hb dX5_countIn_5 ?_
    cases h
    exact z_iret hx hb hr hlocks hP hD hS dX5_countIn_6
-- X6_countIn
theorem dX6_countIn_0 : decode cX6_countIn 0 = .ok (.iload_n 2, 1) := by decide +kernel
theorem dX6_countIn_1 : decode cX6_countIn 1 = .ok (.iconst 1, 1) := by decide +kernel
theorem dX6_countIn_2 : decode cX6_countIn 2 = .ok (.iadd, 1) := by decide +kernel
theorem dX6_countIn_3 : decode cX6_countIn 3 = .ok (.ireturn, 1) := by decide +kernel
noncomputable def f_X6_countIn (v2 : Int) : Option (Int) := some (v2 + 1)
set_option maxHeartbeats 4000000 in
set_option maxRecDepth 100000 in
theorem c_X6_countIn (l : Launch) (dC : Nat → ClassId) (dI : Nat → Nat → Nat) (cA cN : ClassId) (sz : Nat) (ad_t : Nat) (ad_o : Nat) (v2 : Int) (r0 : Int) (h : f_X6_countIn v2 = some r0) : Met l yX6_countIn wsX6_countIn { frames := 0, cells := 0, slots := 0, locals := 0 } (zPc (dC, dI) (zT cA cN) [] [.ref ad_t, .ref ad_o, .int (zi v2)] sz) (zQi (dC, dI) [] r0 (va_A [] sz)) 0 0 (va_A [] sz) := by
  refine z_ofW (QF := fun A => zQi (dC, dI) [] r0 A) (by decide) rfl (Nat.le_of_ble_eq_true rfl) ?_
  intro p e s m below meth c ls A hx hb hml hr hlocks hnm hts hown hK hP hD hE hsz hA hS hl
  have hl : lv_has ls 3 [(0, .ref ad_t), (1, .ref ad_o), (2, .int (zi v2))] := hl
  unfold f_X6_countIn at h
  refine lv_iload_n hx hb dX6_countIn_0 rfl (lv_at hl 2 rfl) ?_
  refine z_iconst hx hb dX6_countIn_1 ?_
  refine z_iadd hx hb dX6_countIn_2 ?_
  cases h
  exact z_iret hx hb hr hlocks hP hD hS dX6_countIn_3
-- X6_isFromBack
theorem dX6_isFromBack_0 : decode cX6_isFromBack 0 = .ok (.iconst 0, 1) := by decide +kernel
theorem dX6_isFromBack_1 : decode cX6_isFromBack 1 = .ok (.ireturn, 1) := by decide +kernel
noncomputable def f_X6_isFromBack (v1 : Int) : Option (Int) := some 0
set_option maxHeartbeats 4000000 in
set_option maxRecDepth 100000 in
theorem c_X6_isFromBack (l : Launch) (dC : Nat → ClassId) (dI : Nat → Nat → Nat) (cA cN : ClassId) (sz : Nat) (ad_t : Nat) (v1 : Int) (r0 : Int) (h : f_X6_isFromBack v1 = some r0) : Met l yX6_isFromBack wsX6_isFromBack { frames := 0, cells := 0, slots := 0, locals := 0 } (zPc (dC, dI) (zT cA cN) [] [.ref ad_t, .int (zi v1)] sz) (zQi (dC, dI) [] r0 (va_A [] sz)) 0 0 (va_A [] sz) := by
  refine z_ofW (QF := fun A => zQi (dC, dI) [] r0 A) (by decide) rfl (Nat.le_of_ble_eq_true rfl) ?_
  intro p e s m below meth c ls A hx hb hml hr hlocks hnm hts hown hK hP hD hE hsz hA hS hl
  have hl : lv_has ls 2 [(0, .ref ad_t), (1, .int (zi v1))] := hl
  unfold f_X6_isFromBack at h
  refine z_iconst hx hb dX6_isFromBack_0 ?_
  cases h
  exact z_zret hx hb hr hlocks (by decide) hP hD hS dX6_isFromBack_1
-- X6_firstPlace
theorem dX6_firstPlace_0 : decode cX6_firstPlace 0 = .ok (.iload_n 1, 1) := by decide +kernel
theorem dX6_firstPlace_1 : decode cX6_firstPlace 1 = .ok (.ireturn, 1) := by decide +kernel
noncomputable def f_X6_firstPlace (v1 : Int) : Option (Int) := some v1
set_option maxHeartbeats 4000000 in
set_option maxRecDepth 100000 in
theorem c_X6_firstPlace (l : Launch) (dC : Nat → ClassId) (dI : Nat → Nat → Nat) (cA cN : ClassId) (sz : Nat) (ad_t : Nat) (v1 : Int) (r0 : Int) (h : f_X6_firstPlace v1 = some r0) : Met l yX6_firstPlace wsX6_firstPlace { frames := 0, cells := 0, slots := 0, locals := 0 } (zPc (dC, dI) (zT cA cN) [] [.ref ad_t, .int (zi v1)] sz) (zQi (dC, dI) [] r0 (va_A [] sz)) 0 0 (va_A [] sz) := by
  refine z_ofW (QF := fun A => zQi (dC, dI) [] r0 A) (by decide) rfl (Nat.le_of_ble_eq_true rfl) ?_
  intro p e s m below meth c ls A hx hb hml hr hlocks hnm hts hown hK hP hD hE hsz hA hS hl
  have hl : lv_has ls 2 [(0, .ref ad_t), (1, .int (zi v1))] := hl
  unfold f_X6_firstPlace at h
  refine lv_iload_n hx hb dX6_firstPlace_0 rfl (lv_at hl 1 rfl) ?_
  cases h
  exact z_iret hx hb hr hlocks hP hD hS dX6_firstPlace_1
-- X6_idleRoundsToEnd
theorem dX6_idleRoundsToEnd_0 : decode cX6_idleRoundsToEnd 0 = .ok (.iconst 1, 1) := by decide +kernel
theorem dX6_idleRoundsToEnd_1 : decode cX6_idleRoundsToEnd 1 = .ok (.ireturn, 1) := by decide +kernel
noncomputable def f_X6_idleRoundsToEnd : Option (Int) := some 1
set_option maxHeartbeats 4000000 in
set_option maxRecDepth 100000 in
theorem c_X6_idleRoundsToEnd (l : Launch) (dC : Nat → ClassId) (dI : Nat → Nat → Nat) (cA cN : ClassId) (sz : Nat) (ad_t : Nat) (ad_o : Nat)  (r0 : Int) (h : f_X6_idleRoundsToEnd  = some r0) : Met l yX6_idleRoundsToEnd wsX6_idleRoundsToEnd { frames := 0, cells := 0, slots := 0, locals := 0 } (zPc (dC, dI) (zT cA cN) [] [.ref ad_t, .ref ad_o] sz) (zQi (dC, dI) [] r0 (va_A [] sz)) 0 0 (va_A [] sz) := by
  refine z_ofW (QF := fun A => zQi (dC, dI) [] r0 A) (by decide) rfl (Nat.le_of_ble_eq_true rfl) ?_
  intro p e s m below meth c ls A hx hb hml hr hlocks hnm hts hown hK hP hD hE hsz hA hS hl
  have hl : lv_has ls 2 [(0, .ref ad_t), (1, .ref ad_o)] := hl
  unfold f_X6_idleRoundsToEnd at h
  refine z_iconst hx hb dX6_idleRoundsToEnd_0 ?_
  cases h
  exact z_iret hx hb hr hlocks hP hD hS dX6_idleRoundsToEnd_1
-- X7_countIn
theorem dX7_countIn_0 : decode cX7_countIn 0 = .ok (.aload_n 1, 1) := by decide +kernel
theorem dX7_countIn_1 : decode cX7_countIn 1 = .ok (.getfield 7, 3) := by decide +kernel
theorem dX7_countIn_4 : decode cX7_countIn 4 = .ok (.ireturn, 1) := by decide +kernel
noncomputable def f_X7_countIn (v2 : Int) (o_figure : Int) : Option (Int) := some o_figure
theorem q_X7_countIn_0 : Cond.fieldLink RX7 7 "EachSecondStruck$Standing" "figure" "I" ∈ wsX7_countIn := by decide +kernel
theorem in_X7_countIn_X8 : ∀ w ∈ u_ws RX8 TX8 10, w ∈ wsX7_countIn := by decide +kernel
set_option maxHeartbeats 4000000 in
set_option maxRecDepth 100000 in
theorem c_X7_countIn (l : Launch) (dC : Nat → ClassId) (dI : Nat → Nat → Nat) (cA cN : ClassId) (sz : Nat) (ad_o : Nat) (ad_o_steps : Nat) (ad_o_line : Nat) (ad_o_gone : Nat) (ad_o_wentIn : Nat) (ad_t : Nat) (o_size : Int) (o_there : Int) (o_roundsBy : Int) (o_kind : Int) (o_figure : Int) (o_stepCount : Int) (v2 : Int) (r0 : Int) (h : f_X7_countIn v2 o_figure = some r0) : Met l yX7_countIn wsX7_countIn { frames := 0, cells := 0, slots := 0, locals := 0 } (zPc (dC, dI) (zT cA cN) [kX8 ad_o ad_o_steps ad_o_line ad_o_gone ad_o_wentIn o_size o_there o_roundsBy o_kind o_figure o_stepCount] [.ref ad_t, .ref ad_o, .int (zi v2)] sz) (zQi (dC, dI) [kX8 ad_o ad_o_steps ad_o_line ad_o_gone ad_o_wentIn o_size o_there o_roundsBy o_kind o_figure o_stepCount] r0 (va_A [kX8 ad_o ad_o_steps ad_o_line ad_o_gone ad_o_wentIn o_size o_there o_roundsBy o_kind o_figure o_stepCount] sz)) 0 0 (va_A [kX8 ad_o ad_o_steps ad_o_line ad_o_gone ad_o_wentIn o_size o_there o_roundsBy o_kind o_figure o_stepCount] sz) := by
  refine z_ofW (QF := fun A => zQi (dC, dI) [kX8 ad_o ad_o_steps ad_o_line ad_o_gone ad_o_wentIn o_size o_there o_roundsBy o_kind o_figure o_stepCount] r0 A) (by decide) rfl (Nat.le_of_ble_eq_true rfl) ?_
  intro p e s m below meth c ls A hx hb hml hr hlocks hnm hts hown hK hP hD hE hsz hA hS hl
  have hl : lv_has ls 3 [(0, .ref ad_t), (1, .ref ad_o), (2, .int (zi v2))] := hl
  unfold f_X7_countIn at h
  refine lv_aload_n hx hb dX7_countIn_0 rfl (lv_at hl 1 rfl) ?_
  refine va_get (D := (dC, dI)) (ci := 8) (v := .int (zi o_figure)) (C := RX8) (T := TX8) (N := 10) hx hb hts in_X7_countIn_X8 hown hK hP 0 rfl rfl 4 (by decide) (hts _ q_X7_countIn_0) (fun _ h9 => h9) rfl dX7_countIn_1 ?_
  cases h
  exact z_iret hx hb hr hlocks hP hD hS dX7_countIn_4
-- X8_copyFrom
theorem dX8_copyFrom_0 : decode cX8_copyFrom 0 = .ok (.aload_n 0, 1) := by decide +kernel
theorem dX8_copyFrom_1 : decode cX8_copyFrom 1 = .ok (.aload_n 1, 1) := by decide +kernel
theorem dX8_copyFrom_2 : decode cX8_copyFrom 2 = .ok (.getfield 24, 3) := by decide +kernel
theorem dX8_copyFrom_5 : decode cX8_copyFrom 5 = .ok (.putfield 24, 3) := by decide +kernel
theorem dX8_copyFrom_8 : decode cX8_copyFrom 8 = .ok (.aload_n 0, 1) := by decide +kernel
theorem dX8_copyFrom_9 : decode cX8_copyFrom 9 = .ok (.aload_n 1, 1) := by decide +kernel
theorem dX8_copyFrom_10 : decode cX8_copyFrom 10 = .ok (.getfield 28, 3) := by decide +kernel
theorem dX8_copyFrom_13 : decode cX8_copyFrom 13 = .ok (.putfield 28, 3) := by decide +kernel
theorem dX8_copyFrom_16 : decode cX8_copyFrom 16 = .ok (.aload_n 0, 1) := by decide +kernel
theorem dX8_copyFrom_17 : decode cX8_copyFrom 17 = .ok (.aload_n 1, 1) := by decide +kernel
theorem dX8_copyFrom_18 : decode cX8_copyFrom 18 = .ok (.getfield 31, 3) := by decide +kernel
theorem dX8_copyFrom_21 : decode cX8_copyFrom 21 = .ok (.putfield 31, 3) := by decide +kernel
theorem dX8_copyFrom_24 : decode cX8_copyFrom 24 = .ok (.aload_n 0, 1) := by decide +kernel
theorem dX8_copyFrom_25 : decode cX8_copyFrom 25 = .ok (.aload_n 1, 1) := by decide +kernel
theorem dX8_copyFrom_26 : decode cX8_copyFrom 26 = .ok (.getfield 34, 3) := by decide +kernel
theorem dX8_copyFrom_29 : decode cX8_copyFrom 29 = .ok (.putfield 34, 3) := by decide +kernel
theorem dX8_copyFrom_32 : decode cX8_copyFrom 32 = .ok (.aload_n 0, 1) := by decide +kernel
theorem dX8_copyFrom_33 : decode cX8_copyFrom 33 = .ok (.aload_n 1, 1) := by decide +kernel
theorem dX8_copyFrom_34 : decode cX8_copyFrom 34 = .ok (.getfield 37, 3) := by decide +kernel
theorem dX8_copyFrom_37 : decode cX8_copyFrom 37 = .ok (.putfield 37, 3) := by decide +kernel
theorem dX8_copyFrom_40 : decode cX8_copyFrom 40 = .ok (.aload_n 0, 1) := by decide +kernel
theorem dX8_copyFrom_41 : decode cX8_copyFrom 41 = .ok (.aload_n 1, 1) := by decide +kernel
theorem dX8_copyFrom_42 : decode cX8_copyFrom 42 = .ok (.getfield 40, 3) := by decide +kernel
theorem dX8_copyFrom_45 : decode cX8_copyFrom 45 = .ok (.putfield 40, 3) := by decide +kernel
theorem dX8_copyFrom_48 : decode cX8_copyFrom 48 = .ok (.aload_n 1, 1) := by decide +kernel
theorem dX8_copyFrom_49 : decode cX8_copyFrom 49 = .ok (.getfield 9, 3) := by decide +kernel
theorem dX8_copyFrom_52 : decode cX8_copyFrom 52 = .ok (.iconst 0, 1) := by decide +kernel
theorem dX8_copyFrom_53 : decode cX8_copyFrom 53 = .ok (.aload_n 0, 1) := by decide +kernel
theorem dX8_copyFrom_54 : decode cX8_copyFrom 54 = .ok (.getfield 9, 3) := by decide +kernel
theorem dX8_copyFrom_57 : decode cX8_copyFrom 57 = .ok (.iconst 0, 1) := by decide +kernel
theorem dX8_copyFrom_58 : decode cX8_copyFrom 58 = .ok (.bipush 8, 2) := by decide +kernel
theorem dX8_copyFrom_60 : decode cX8_copyFrom 60 = .ok (.invokestatic 43, 3) := by decide +kernel
theorem dX8_copyFrom_63 : decode cX8_copyFrom 63 = .ok (.aload_n 1, 1) := by decide +kernel
theorem dX8_copyFrom_64 : decode cX8_copyFrom 64 = .ok (.getfield 15, 3) := by decide +kernel
theorem dX8_copyFrom_67 : decode cX8_copyFrom 67 = .ok (.iconst 0, 1) := by decide +kernel
theorem dX8_copyFrom_68 : decode cX8_copyFrom 68 = .ok (.aload_n 0, 1) := by decide +kernel
theorem dX8_copyFrom_69 : decode cX8_copyFrom 69 = .ok (.getfield 15, 3) := by decide +kernel
theorem dX8_copyFrom_72 : decode cX8_copyFrom 72 = .ok (.iconst 0, 1) := by decide +kernel
theorem dX8_copyFrom_73 : decode cX8_copyFrom 73 = .ok (.bipush 120, 2) := by decide +kernel
theorem dX8_copyFrom_75 : decode cX8_copyFrom 75 = .ok (.invokestatic 43, 3) := by decide +kernel
theorem dX8_copyFrom_78 : decode cX8_copyFrom 78 = .ok (.aload_n 1, 1) := by decide +kernel
theorem dX8_copyFrom_79 : decode cX8_copyFrom 79 = .ok (.getfield 18, 3) := by decide +kernel
theorem dX8_copyFrom_82 : decode cX8_copyFrom 82 = .ok (.iconst 0, 1) := by decide +kernel
theorem dX8_copyFrom_83 : decode cX8_copyFrom 83 = .ok (.aload_n 0, 1) := by decide +kernel
theorem dX8_copyFrom_84 : decode cX8_copyFrom 84 = .ok (.getfield 18, 3) := by decide +kernel
theorem dX8_copyFrom_87 : decode cX8_copyFrom 87 = .ok (.iconst 0, 1) := by decide +kernel
theorem dX8_copyFrom_88 : decode cX8_copyFrom 88 = .ok (.bipush 120, 2) := by decide +kernel
theorem dX8_copyFrom_90 : decode cX8_copyFrom 90 = .ok (.invokestatic 43, 3) := by decide +kernel
theorem dX8_copyFrom_93 : decode cX8_copyFrom 93 = .ok (.aload_n 1, 1) := by decide +kernel
theorem dX8_copyFrom_94 : decode cX8_copyFrom 94 = .ok (.getfield 21, 3) := by decide +kernel
theorem dX8_copyFrom_97 : decode cX8_copyFrom 97 = .ok (.iconst 0, 1) := by decide +kernel
theorem dX8_copyFrom_98 : decode cX8_copyFrom 98 = .ok (.aload_n 0, 1) := by decide +kernel
theorem dX8_copyFrom_99 : decode cX8_copyFrom 99 = .ok (.getfield 21, 3) := by decide +kernel
theorem dX8_copyFrom_102 : decode cX8_copyFrom 102 = .ok (.iconst 0, 1) := by decide +kernel
theorem dX8_copyFrom_103 : decode cX8_copyFrom 103 = .ok (.bipush 121, 2) := by decide +kernel
theorem dX8_copyFrom_105 : decode cX8_copyFrom 105 = .ok (.invokestatic 43, 3) := by decide +kernel
theorem dX8_copyFrom_108 : decode cX8_copyFrom 108 = .ok (.return_, 1) := by decide +kernel
noncomputable def f_X8_copyFrom (t_size : Int) (t_there : Int) (t_roundsBy : Int) (t_kind : Int) (t_figure : Int) (t_stepCount : Int) (t_steps : Int → Int) (t_line : Int → Int) (t_gone : Int → Int) (t_wentIn : Int → Int) (o_size : Int) (o_there : Int) (o_roundsBy : Int) (o_kind : Int) (o_figure : Int) (o_stepCount : Int) (o_steps : Int → Int) (o_line : Int → Int) (o_gone : Int → Int) (o_wentIn : Int → Int) : Option (Int × Int × Int × Int × Int × Int × (Int → Int) × (Int → Int) × (Int → Int) × (Int → Int)) := some (o_size, o_there, o_roundsBy, o_kind, o_figure, o_stepCount, (zcp o_steps t_steps 8), (zcp o_line t_line 120), (zcp o_gone t_gone 120), (zcp o_wentIn t_wentIn 121))
theorem q_X8_copyFrom_0 : Cond.fieldLink RX8 24 "EachSecondStruck$Standing" "size" "I" ∈ wsX8_copyFrom := by decide +kernel
theorem q_X8_copyFrom_1 : Cond.fieldLink RX8 28 "EachSecondStruck$Standing" "there" "I" ∈ wsX8_copyFrom := by decide +kernel
theorem q_X8_copyFrom_2 : Cond.fieldLink RX8 31 "EachSecondStruck$Standing" "roundsBy" "I" ∈ wsX8_copyFrom := by decide +kernel
theorem q_X8_copyFrom_3 : Cond.fieldLink RX8 34 "EachSecondStruck$Standing" "kind" "I" ∈ wsX8_copyFrom := by decide +kernel
theorem q_X8_copyFrom_4 : Cond.fieldLink RX8 37 "EachSecondStruck$Standing" "figure" "I" ∈ wsX8_copyFrom := by decide +kernel
theorem q_X8_copyFrom_5 : Cond.fieldLink RX8 40 "EachSecondStruck$Standing" "stepCount" "I" ∈ wsX8_copyFrom := by decide +kernel
theorem q_X8_copyFrom_6 : Cond.fieldLink RX8 9 "EachSecondStruck$Standing" "steps" "[I" ∈ wsX8_copyFrom := by decide +kernel
theorem q_X8_copyFrom_7 : Cond.methodLink RX8 43 arraycopyName ∈ wsX8_copyFrom := by decide +kernel
theorem q_X8_copyFrom_8 : Cond.native arraycopyName ∈ wsX8_copyFrom := by decide +kernel
theorem q_X8_copyFrom_9 : Cond.static arraycopyName ∈ wsX8_copyFrom := by decide +kernel
theorem q_X8_copyFrom_10 : Cond.initialized "java/lang/System" ∈ wsX8_copyFrom := by decide +kernel
theorem q_X8_copyFrom_11 : Cond.fieldLink RX8 15 "EachSecondStruck$Standing" "line" "[I" ∈ wsX8_copyFrom := by decide +kernel
theorem q_X8_copyFrom_12 : Cond.fieldLink RX8 18 "EachSecondStruck$Standing" "gone" "[I" ∈ wsX8_copyFrom := by decide +kernel
theorem q_X8_copyFrom_13 : Cond.fieldLink RX8 21 "EachSecondStruck$Standing" "wentIn" "[I" ∈ wsX8_copyFrom := by decide +kernel
theorem in_X8_copyFrom_X8 : ∀ w ∈ u_ws RX8 TX8 10, w ∈ wsX8_copyFrom := by decide +kernel
set_option maxHeartbeats 4000000 in
set_option maxRecDepth 100000 in
theorem c_X8_copyFrom (l : Launch) (dC : Nat → ClassId) (dI : Nat → Nat → Nat) (cA cN : ClassId) (sz : Nat) (ad_t : Nat) (ad_t_steps : Nat) (ad_t_line : Nat) (ad_t_gone : Nat) (ad_t_wentIn : Nat) (ad_o : Nat) (ad_o_steps : Nat) (ad_o_line : Nat) (ad_o_gone : Nat) (ad_o_wentIn : Nat) (t_size : Int) (t_there : Int) (t_roundsBy : Int) (t_kind : Int) (t_figure : Int) (t_stepCount : Int) (o_size : Int) (o_there : Int) (o_roundsBy : Int) (o_kind : Int) (o_figure : Int) (o_stepCount : Int) (t_gone : Int → Int) (t_line : Int → Int) (t_steps : Int → Int) (t_wentIn : Int → Int) (o_gone : Int → Int) (o_line : Int → Int) (o_steps : Int → Int) (o_wentIn : Int → Int)  (t_size9 : Int) (t_there9 : Int) (t_roundsBy9 : Int) (t_kind9 : Int) (t_figure9 : Int) (t_stepCount9 : Int) (t_steps9 : Int → Int) (t_line9 : Int → Int) (t_gone9 : Int → Int) (t_wentIn9 : Int → Int) (h : f_X8_copyFrom t_size t_there t_roundsBy t_kind t_figure t_stepCount t_steps t_line t_gone t_wentIn o_size o_there o_roundsBy o_kind o_figure o_stepCount o_steps o_line o_gone o_wentIn = some (t_size9, t_there9, t_roundsBy9, t_kind9, t_figure9, t_stepCount9, t_steps9, t_line9, t_gone9, t_wentIn9)) : Met l yX8_copyFrom wsX8_copyFrom { frames := 1, cells := 0, slots := 0, locals := 18 } (zPc (dC, dI) (zT cA cN) [kX8 ad_t ad_t_steps ad_t_line ad_t_gone ad_t_wentIn t_size t_there t_roundsBy t_kind t_figure t_stepCount, kI cA ad_t_steps 8 t_steps, kI cA ad_t_line 120 t_line, kI cA ad_t_gone 120 t_gone, kI cA ad_t_wentIn 121 t_wentIn, kX8 ad_o ad_o_steps ad_o_line ad_o_gone ad_o_wentIn o_size o_there o_roundsBy o_kind o_figure o_stepCount, kI cA ad_o_steps 8 o_steps, kI cA ad_o_line 120 o_line, kI cA ad_o_gone 120 o_gone, kI cA ad_o_wentIn 121 o_wentIn] [.ref ad_t, .ref ad_o] sz) (zQv (dC, dI) [kX8 ad_t ad_t_steps ad_t_line ad_t_gone ad_t_wentIn t_size9 t_there9 t_roundsBy9 t_kind9 t_figure9 t_stepCount9, kI cA ad_t_steps 8 t_steps9, kI cA ad_t_line 120 t_line9, kI cA ad_t_gone 120 t_gone9, kI cA ad_t_wentIn 121 t_wentIn9, kX8 ad_o ad_o_steps ad_o_line ad_o_gone ad_o_wentIn o_size o_there o_roundsBy o_kind o_figure o_stepCount, kI cA ad_o_steps 8 o_steps, kI cA ad_o_line 120 o_line, kI cA ad_o_gone 120 o_gone, kI cA ad_o_wentIn 121 o_wentIn] (va_A [kX8 ad_t ad_t_steps ad_t_line ad_t_gone ad_t_wentIn t_size t_there t_roundsBy t_kind t_figure t_stepCount, kI cA ad_t_steps 8 t_steps, kI cA ad_t_line 120 t_line, kI cA ad_t_gone 120 t_gone, kI cA ad_t_wentIn 121 t_wentIn, kX8 ad_o ad_o_steps ad_o_line ad_o_gone ad_o_wentIn o_size o_there o_roundsBy o_kind o_figure o_stepCount, kI cA ad_o_steps 8 o_steps, kI cA ad_o_line 120 o_line, kI cA ad_o_gone 120 o_gone, kI cA ad_o_wentIn 121 o_wentIn] sz)) 0 0 (va_A [kX8 ad_t ad_t_steps ad_t_line ad_t_gone ad_t_wentIn t_size t_there t_roundsBy t_kind t_figure t_stepCount, kI cA ad_t_steps 8 t_steps, kI cA ad_t_line 120 t_line, kI cA ad_t_gone 120 t_gone, kI cA ad_t_wentIn 121 t_wentIn, kX8 ad_o ad_o_steps ad_o_line ad_o_gone ad_o_wentIn o_size o_there o_roundsBy o_kind o_figure o_stepCount, kI cA ad_o_steps 8 o_steps, kI cA ad_o_line 120 o_line, kI cA ad_o_gone 120 o_gone, kI cA ad_o_wentIn 121 o_wentIn] sz) := by
  refine z_ofW (QF := fun A => zQv (dC, dI) [kX8 ad_t ad_t_steps ad_t_line ad_t_gone ad_t_wentIn t_size9 t_there9 t_roundsBy9 t_kind9 t_figure9 t_stepCount9, kI cA ad_t_steps 8 t_steps9, kI cA ad_t_line 120 t_line9, kI cA ad_t_gone 120 t_gone9, kI cA ad_t_wentIn 121 t_wentIn9, kX8 ad_o ad_o_steps ad_o_line ad_o_gone ad_o_wentIn o_size o_there o_roundsBy o_kind o_figure o_stepCount, kI cA ad_o_steps 8 o_steps, kI cA ad_o_line 120 o_line, kI cA ad_o_gone 120 o_gone, kI cA ad_o_wentIn 121 o_wentIn] A) (by decide) rfl (Nat.le_of_ble_eq_true rfl) ?_
  intro p e s m below meth c ls A hx hb hml hr hlocks hnm hts hown hK hP hD hE hsz hA hS hl
  have hl : lv_has ls 2 [(0, .ref ad_t), (1, .ref ad_o)] := hl
  unfold f_X8_copyFrom at h
  refine lv_aload_n hx hb dX8_copyFrom_0 rfl (lv_at hl 0 rfl) ?_
  refine lv_aload_n hx hb dX8_copyFrom_1 rfl (lv_at hl 1 rfl) ?_
  refine va_get (D := (dC, dI)) (ci := 8) (v := .int (zi o_size)) (C := RX8) (T := TX8) (N := 10) hx hb hts in_X8_copyFrom_X8 hown hK hP 5 rfl rfl 0 (by decide) (hts _ q_X8_copyFrom_0) (fun _ h9 => h9) rfl dX8_copyFrom_2 ?_
  refine va_put (D := (dC, dI)) (ci := 8) (v := .int (zi o_size)) (ty := .int) (C := RX8) (T := TX8) (N := 10) hx hb hts in_X8_copyFrom_X8 tyX8 tyX8_ok nmX8 hown hK hP hD hS 0 rfl rfl 0 (by decide) (hts _ q_X8_copyFrom_0) (fun _ h9 => h9) rfl (by decide +kernel) rfl rfl (Nat.le_of_ble_eq_true rfl) dX8_copyFrom_5 (fun H locs hP hD hS => ?_)
  have hP : va_P (dC, dI) vwCl [kX8 ad_t ad_t_steps ad_t_line ad_t_gone ad_t_wentIn o_size t_there t_roundsBy t_kind t_figure t_stepCount, kI cA ad_t_steps 8 t_steps, kI cA ad_t_line 120 t_line, kI cA ad_t_gone 120 t_gone, kI cA ad_t_wentIn 121 t_wentIn, kX8 ad_o ad_o_steps ad_o_line ad_o_gone ad_o_wentIn o_size o_there o_roundsBy o_kind o_figure o_stepCount, kI cA ad_o_steps 8 o_steps, kI cA ad_o_line 120 o_line, kI cA ad_o_gone 120 o_gone, kI cA ad_o_wentIn 121 o_wentIn] H := hP
  have hD : va_D A [kX8 ad_t ad_t_steps ad_t_line ad_t_gone ad_t_wentIn o_size t_there t_roundsBy t_kind t_figure t_stepCount, kI cA ad_t_steps 8 t_steps, kI cA ad_t_line 120 t_line, kI cA ad_t_gone 120 t_gone, kI cA ad_t_wentIn 121 t_wentIn, kX8 ad_o ad_o_steps ad_o_line ad_o_gone ad_o_wentIn o_size o_there o_roundsBy o_kind o_figure o_stepCount, kI cA ad_o_steps 8 o_steps, kI cA ad_o_line 120 o_line, kI cA ad_o_gone 120 o_gone, kI cA ad_o_wentIn 121 o_wentIn] := hD
  refine lv_aload_n hx hb dX8_copyFrom_8 rfl (lv_at hl 0 rfl) ?_
  refine lv_aload_n hx hb dX8_copyFrom_9 rfl (lv_at hl 1 rfl) ?_
  refine va_get (D := (dC, dI)) (ci := 8) (v := .int (zi o_there)) (C := RX8) (T := TX8) (N := 10) hx hb hts in_X8_copyFrom_X8 hown hK hP 5 rfl rfl 1 (by decide) (hts _ q_X8_copyFrom_1) (fun _ h9 => h9) rfl dX8_copyFrom_10 ?_
  refine va_put (D := (dC, dI)) (ci := 8) (v := .int (zi o_there)) (ty := .int) (C := RX8) (T := TX8) (N := 10) hx hb hts in_X8_copyFrom_X8 tyX8 tyX8_ok nmX8 hown hK hP hD hS 0 rfl rfl 1 (by decide) (hts _ q_X8_copyFrom_1) (fun _ h9 => h9) rfl (by decide +kernel) rfl rfl (Nat.le_of_ble_eq_true rfl) dX8_copyFrom_13 (fun H locs hP hD hS => ?_)
  have hP : va_P (dC, dI) vwCl [kX8 ad_t ad_t_steps ad_t_line ad_t_gone ad_t_wentIn o_size o_there t_roundsBy t_kind t_figure t_stepCount, kI cA ad_t_steps 8 t_steps, kI cA ad_t_line 120 t_line, kI cA ad_t_gone 120 t_gone, kI cA ad_t_wentIn 121 t_wentIn, kX8 ad_o ad_o_steps ad_o_line ad_o_gone ad_o_wentIn o_size o_there o_roundsBy o_kind o_figure o_stepCount, kI cA ad_o_steps 8 o_steps, kI cA ad_o_line 120 o_line, kI cA ad_o_gone 120 o_gone, kI cA ad_o_wentIn 121 o_wentIn] H := hP
  have hD : va_D A [kX8 ad_t ad_t_steps ad_t_line ad_t_gone ad_t_wentIn o_size o_there t_roundsBy t_kind t_figure t_stepCount, kI cA ad_t_steps 8 t_steps, kI cA ad_t_line 120 t_line, kI cA ad_t_gone 120 t_gone, kI cA ad_t_wentIn 121 t_wentIn, kX8 ad_o ad_o_steps ad_o_line ad_o_gone ad_o_wentIn o_size o_there o_roundsBy o_kind o_figure o_stepCount, kI cA ad_o_steps 8 o_steps, kI cA ad_o_line 120 o_line, kI cA ad_o_gone 120 o_gone, kI cA ad_o_wentIn 121 o_wentIn] := hD
  refine lv_aload_n hx hb dX8_copyFrom_16 rfl (lv_at hl 0 rfl) ?_
  refine lv_aload_n hx hb dX8_copyFrom_17 rfl (lv_at hl 1 rfl) ?_
  refine va_get (D := (dC, dI)) (ci := 8) (v := .int (zi o_roundsBy)) (C := RX8) (T := TX8) (N := 10) hx hb hts in_X8_copyFrom_X8 hown hK hP 5 rfl rfl 2 (by decide) (hts _ q_X8_copyFrom_2) (fun _ h9 => h9) rfl dX8_copyFrom_18 ?_
  refine va_put (D := (dC, dI)) (ci := 8) (v := .int (zi o_roundsBy)) (ty := .int) (C := RX8) (T := TX8) (N := 10) hx hb hts in_X8_copyFrom_X8 tyX8 tyX8_ok nmX8 hown hK hP hD hS 0 rfl rfl 2 (by decide) (hts _ q_X8_copyFrom_2) (fun _ h9 => h9) rfl (by decide +kernel) rfl rfl (Nat.le_of_ble_eq_true rfl) dX8_copyFrom_21 (fun H locs hP hD hS => ?_)
  have hP : va_P (dC, dI) vwCl [kX8 ad_t ad_t_steps ad_t_line ad_t_gone ad_t_wentIn o_size o_there o_roundsBy t_kind t_figure t_stepCount, kI cA ad_t_steps 8 t_steps, kI cA ad_t_line 120 t_line, kI cA ad_t_gone 120 t_gone, kI cA ad_t_wentIn 121 t_wentIn, kX8 ad_o ad_o_steps ad_o_line ad_o_gone ad_o_wentIn o_size o_there o_roundsBy o_kind o_figure o_stepCount, kI cA ad_o_steps 8 o_steps, kI cA ad_o_line 120 o_line, kI cA ad_o_gone 120 o_gone, kI cA ad_o_wentIn 121 o_wentIn] H := hP
  have hD : va_D A [kX8 ad_t ad_t_steps ad_t_line ad_t_gone ad_t_wentIn o_size o_there o_roundsBy t_kind t_figure t_stepCount, kI cA ad_t_steps 8 t_steps, kI cA ad_t_line 120 t_line, kI cA ad_t_gone 120 t_gone, kI cA ad_t_wentIn 121 t_wentIn, kX8 ad_o ad_o_steps ad_o_line ad_o_gone ad_o_wentIn o_size o_there o_roundsBy o_kind o_figure o_stepCount, kI cA ad_o_steps 8 o_steps, kI cA ad_o_line 120 o_line, kI cA ad_o_gone 120 o_gone, kI cA ad_o_wentIn 121 o_wentIn] := hD
  refine lv_aload_n hx hb dX8_copyFrom_24 rfl (lv_at hl 0 rfl) ?_
  refine lv_aload_n hx hb dX8_copyFrom_25 rfl (lv_at hl 1 rfl) ?_
  refine va_get (D := (dC, dI)) (ci := 8) (v := .int (zi o_kind)) (C := RX8) (T := TX8) (N := 10) hx hb hts in_X8_copyFrom_X8 hown hK hP 5 rfl rfl 3 (by decide) (hts _ q_X8_copyFrom_3) (fun _ h9 => h9) rfl dX8_copyFrom_26 ?_
  refine va_put (D := (dC, dI)) (ci := 8) (v := .int (zi o_kind)) (ty := .int) (C := RX8) (T := TX8) (N := 10) hx hb hts in_X8_copyFrom_X8 tyX8 tyX8_ok nmX8 hown hK hP hD hS 0 rfl rfl 3 (by decide) (hts _ q_X8_copyFrom_3) (fun _ h9 => h9) rfl (by decide +kernel) rfl rfl (Nat.le_of_ble_eq_true rfl) dX8_copyFrom_29 (fun H locs hP hD hS => ?_)
  have hP : va_P (dC, dI) vwCl [kX8 ad_t ad_t_steps ad_t_line ad_t_gone ad_t_wentIn o_size o_there o_roundsBy o_kind t_figure t_stepCount, kI cA ad_t_steps 8 t_steps, kI cA ad_t_line 120 t_line, kI cA ad_t_gone 120 t_gone, kI cA ad_t_wentIn 121 t_wentIn, kX8 ad_o ad_o_steps ad_o_line ad_o_gone ad_o_wentIn o_size o_there o_roundsBy o_kind o_figure o_stepCount, kI cA ad_o_steps 8 o_steps, kI cA ad_o_line 120 o_line, kI cA ad_o_gone 120 o_gone, kI cA ad_o_wentIn 121 o_wentIn] H := hP
  have hD : va_D A [kX8 ad_t ad_t_steps ad_t_line ad_t_gone ad_t_wentIn o_size o_there o_roundsBy o_kind t_figure t_stepCount, kI cA ad_t_steps 8 t_steps, kI cA ad_t_line 120 t_line, kI cA ad_t_gone 120 t_gone, kI cA ad_t_wentIn 121 t_wentIn, kX8 ad_o ad_o_steps ad_o_line ad_o_gone ad_o_wentIn o_size o_there o_roundsBy o_kind o_figure o_stepCount, kI cA ad_o_steps 8 o_steps, kI cA ad_o_line 120 o_line, kI cA ad_o_gone 120 o_gone, kI cA ad_o_wentIn 121 o_wentIn] := hD
  refine lv_aload_n hx hb dX8_copyFrom_32 rfl (lv_at hl 0 rfl) ?_
  refine lv_aload_n hx hb dX8_copyFrom_33 rfl (lv_at hl 1 rfl) ?_
  refine va_get (D := (dC, dI)) (ci := 8) (v := .int (zi o_figure)) (C := RX8) (T := TX8) (N := 10) hx hb hts in_X8_copyFrom_X8 hown hK hP 5 rfl rfl 4 (by decide) (hts _ q_X8_copyFrom_4) (fun _ h9 => h9) rfl dX8_copyFrom_34 ?_
  refine va_put (D := (dC, dI)) (ci := 8) (v := .int (zi o_figure)) (ty := .int) (C := RX8) (T := TX8) (N := 10) hx hb hts in_X8_copyFrom_X8 tyX8 tyX8_ok nmX8 hown hK hP hD hS 0 rfl rfl 4 (by decide) (hts _ q_X8_copyFrom_4) (fun _ h9 => h9) rfl (by decide +kernel) rfl rfl (Nat.le_of_ble_eq_true rfl) dX8_copyFrom_37 (fun H locs hP hD hS => ?_)
  have hP : va_P (dC, dI) vwCl [kX8 ad_t ad_t_steps ad_t_line ad_t_gone ad_t_wentIn o_size o_there o_roundsBy o_kind o_figure t_stepCount, kI cA ad_t_steps 8 t_steps, kI cA ad_t_line 120 t_line, kI cA ad_t_gone 120 t_gone, kI cA ad_t_wentIn 121 t_wentIn, kX8 ad_o ad_o_steps ad_o_line ad_o_gone ad_o_wentIn o_size o_there o_roundsBy o_kind o_figure o_stepCount, kI cA ad_o_steps 8 o_steps, kI cA ad_o_line 120 o_line, kI cA ad_o_gone 120 o_gone, kI cA ad_o_wentIn 121 o_wentIn] H := hP
  have hD : va_D A [kX8 ad_t ad_t_steps ad_t_line ad_t_gone ad_t_wentIn o_size o_there o_roundsBy o_kind o_figure t_stepCount, kI cA ad_t_steps 8 t_steps, kI cA ad_t_line 120 t_line, kI cA ad_t_gone 120 t_gone, kI cA ad_t_wentIn 121 t_wentIn, kX8 ad_o ad_o_steps ad_o_line ad_o_gone ad_o_wentIn o_size o_there o_roundsBy o_kind o_figure o_stepCount, kI cA ad_o_steps 8 o_steps, kI cA ad_o_line 120 o_line, kI cA ad_o_gone 120 o_gone, kI cA ad_o_wentIn 121 o_wentIn] := hD
  refine lv_aload_n hx hb dX8_copyFrom_40 rfl (lv_at hl 0 rfl) ?_
  refine lv_aload_n hx hb dX8_copyFrom_41 rfl (lv_at hl 1 rfl) ?_
  refine va_get (D := (dC, dI)) (ci := 8) (v := .int (zi o_stepCount)) (C := RX8) (T := TX8) (N := 10) hx hb hts in_X8_copyFrom_X8 hown hK hP 5 rfl rfl 5 (by decide) (hts _ q_X8_copyFrom_5) (fun _ h9 => h9) rfl dX8_copyFrom_42 ?_
  refine va_put (D := (dC, dI)) (ci := 8) (v := .int (zi o_stepCount)) (ty := .int) (C := RX8) (T := TX8) (N := 10) hx hb hts in_X8_copyFrom_X8 tyX8 tyX8_ok nmX8 hown hK hP hD hS 0 rfl rfl 5 (by decide) (hts _ q_X8_copyFrom_5) (fun _ h9 => h9) rfl (by decide +kernel) rfl rfl (Nat.le_of_ble_eq_true rfl) dX8_copyFrom_45 (fun H locs hP hD hS => ?_)
  have hP : va_P (dC, dI) vwCl [kX8 ad_t ad_t_steps ad_t_line ad_t_gone ad_t_wentIn o_size o_there o_roundsBy o_kind o_figure o_stepCount, kI cA ad_t_steps 8 t_steps, kI cA ad_t_line 120 t_line, kI cA ad_t_gone 120 t_gone, kI cA ad_t_wentIn 121 t_wentIn, kX8 ad_o ad_o_steps ad_o_line ad_o_gone ad_o_wentIn o_size o_there o_roundsBy o_kind o_figure o_stepCount, kI cA ad_o_steps 8 o_steps, kI cA ad_o_line 120 o_line, kI cA ad_o_gone 120 o_gone, kI cA ad_o_wentIn 121 o_wentIn] H := hP
  have hD : va_D A [kX8 ad_t ad_t_steps ad_t_line ad_t_gone ad_t_wentIn o_size o_there o_roundsBy o_kind o_figure o_stepCount, kI cA ad_t_steps 8 t_steps, kI cA ad_t_line 120 t_line, kI cA ad_t_gone 120 t_gone, kI cA ad_t_wentIn 121 t_wentIn, kX8 ad_o ad_o_steps ad_o_line ad_o_gone ad_o_wentIn o_size o_there o_roundsBy o_kind o_figure o_stepCount, kI cA ad_o_steps 8 o_steps, kI cA ad_o_line 120 o_line, kI cA ad_o_gone 120 o_gone, kI cA ad_o_wentIn 121 o_wentIn] := hD
  refine lv_aload_n hx hb dX8_copyFrom_48 rfl (lv_at hl 1 rfl) ?_
  refine va_get (D := (dC, dI)) (ci := 8) (v := .ref ad_o_steps) (C := RX8) (T := TX8) (N := 10) hx hb hts in_X8_copyFrom_X8 hown hK hP 5 rfl rfl 6 (by decide) (hts _ q_X8_copyFrom_6) (fun _ h9 => h9) rfl dX8_copyFrom_49 ?_
  refine z_iconst hx hb dX8_copyFrom_52 ?_
  refine lv_aload_n hx hb dX8_copyFrom_53 rfl (lv_at hl 0 rfl) ?_
  refine va_get (D := (dC, dI)) (ci := 8) (v := .ref ad_t_steps) (C := RX8) (T := TX8) (N := 10) hx hb hts in_X8_copyFrom_X8 hown hK hP 0 rfl rfl 6 (by decide) (hts _ q_X8_copyFrom_6) (fun _ h9 => h9) rfl dX8_copyFrom_54 ?_
  refine z_iconst hx hb dX8_copyFrom_57 ?_
  refine z_bipush hx hb (by decide +kernel) dX8_copyFrom_58 ?_
  refine z_copy (N := 8) hx hb (hml.trans hl.1.symm) hown (hts _ q_X8_copyFrom_7) (hts _ q_X8_copyFrom_8) (hts _ q_X8_copyFrom_9) (hts _ q_X8_copyFrom_10) hK hP hD hS 6 1 0 0 rfl rfl rfl rfl (by decide) (by decide) (by decide) (Nat.le_of_ble_eq_true rfl) (Nat.le_of_ble_eq_true rfl) dX8_copyFrom_60 (fun H locs hP hD hS => ?_)
  have hP : va_P (dC, dI) vwCl [kX8 ad_t ad_t_steps ad_t_line ad_t_gone ad_t_wentIn o_size o_there o_roundsBy o_kind o_figure o_stepCount, kI cA ad_t_steps 8 (zcp o_steps t_steps 8), kI cA ad_t_line 120 t_line, kI cA ad_t_gone 120 t_gone, kI cA ad_t_wentIn 121 t_wentIn, kX8 ad_o ad_o_steps ad_o_line ad_o_gone ad_o_wentIn o_size o_there o_roundsBy o_kind o_figure o_stepCount, kI cA ad_o_steps 8 o_steps, kI cA ad_o_line 120 o_line, kI cA ad_o_gone 120 o_gone, kI cA ad_o_wentIn 121 o_wentIn] H := hP
  have hD : va_D A [kX8 ad_t ad_t_steps ad_t_line ad_t_gone ad_t_wentIn o_size o_there o_roundsBy o_kind o_figure o_stepCount, kI cA ad_t_steps 8 (zcp o_steps t_steps 8), kI cA ad_t_line 120 t_line, kI cA ad_t_gone 120 t_gone, kI cA ad_t_wentIn 121 t_wentIn, kX8 ad_o ad_o_steps ad_o_line ad_o_gone ad_o_wentIn o_size o_there o_roundsBy o_kind o_figure o_stepCount, kI cA ad_o_steps 8 o_steps, kI cA ad_o_line 120 o_line, kI cA ad_o_gone 120 o_gone, kI cA ad_o_wentIn 121 o_wentIn] := hD
  refine lv_aload_n hx hb dX8_copyFrom_63 rfl (lv_at hl 1 rfl) ?_
  refine va_get (D := (dC, dI)) (ci := 8) (v := .ref ad_o_line) (C := RX8) (T := TX8) (N := 10) hx hb hts in_X8_copyFrom_X8 hown hK hP 5 rfl rfl 7 (by decide) (hts _ q_X8_copyFrom_11) (fun _ h9 => h9) rfl dX8_copyFrom_64 ?_
  refine z_iconst hx hb dX8_copyFrom_67 ?_
  refine lv_aload_n hx hb dX8_copyFrom_68 rfl (lv_at hl 0 rfl) ?_
  refine va_get (D := (dC, dI)) (ci := 8) (v := .ref ad_t_line) (C := RX8) (T := TX8) (N := 10) hx hb hts in_X8_copyFrom_X8 hown hK hP 0 rfl rfl 7 (by decide) (hts _ q_X8_copyFrom_11) (fun _ h9 => h9) rfl dX8_copyFrom_69 ?_
  refine z_iconst hx hb dX8_copyFrom_72 ?_
  refine z_bipush hx hb (by decide +kernel) dX8_copyFrom_73 ?_
  refine z_copy (N := 120) hx hb (hml.trans hl.1.symm) hown (hts _ q_X8_copyFrom_7) (hts _ q_X8_copyFrom_8) (hts _ q_X8_copyFrom_9) (hts _ q_X8_copyFrom_10) hK hP hD hS 7 2 0 0 rfl rfl rfl rfl (by decide) (by decide) (by decide) (Nat.le_of_ble_eq_true rfl) (Nat.le_of_ble_eq_true rfl) dX8_copyFrom_75 (fun H locs hP hD hS => ?_)
  have hP : va_P (dC, dI) vwCl [kX8 ad_t ad_t_steps ad_t_line ad_t_gone ad_t_wentIn o_size o_there o_roundsBy o_kind o_figure o_stepCount, kI cA ad_t_steps 8 (zcp o_steps t_steps 8), kI cA ad_t_line 120 (zcp o_line t_line 120), kI cA ad_t_gone 120 t_gone, kI cA ad_t_wentIn 121 t_wentIn, kX8 ad_o ad_o_steps ad_o_line ad_o_gone ad_o_wentIn o_size o_there o_roundsBy o_kind o_figure o_stepCount, kI cA ad_o_steps 8 o_steps, kI cA ad_o_line 120 o_line, kI cA ad_o_gone 120 o_gone, kI cA ad_o_wentIn 121 o_wentIn] H := hP
  have hD : va_D A [kX8 ad_t ad_t_steps ad_t_line ad_t_gone ad_t_wentIn o_size o_there o_roundsBy o_kind o_figure o_stepCount, kI cA ad_t_steps 8 (zcp o_steps t_steps 8), kI cA ad_t_line 120 (zcp o_line t_line 120), kI cA ad_t_gone 120 t_gone, kI cA ad_t_wentIn 121 t_wentIn, kX8 ad_o ad_o_steps ad_o_line ad_o_gone ad_o_wentIn o_size o_there o_roundsBy o_kind o_figure o_stepCount, kI cA ad_o_steps 8 o_steps, kI cA ad_o_line 120 o_line, kI cA ad_o_gone 120 o_gone, kI cA ad_o_wentIn 121 o_wentIn] := hD
  refine lv_aload_n hx hb dX8_copyFrom_78 rfl (lv_at hl 1 rfl) ?_
  refine va_get (D := (dC, dI)) (ci := 8) (v := .ref ad_o_gone) (C := RX8) (T := TX8) (N := 10) hx hb hts in_X8_copyFrom_X8 hown hK hP 5 rfl rfl 8 (by decide) (hts _ q_X8_copyFrom_12) (fun _ h9 => h9) rfl dX8_copyFrom_79 ?_
  refine z_iconst hx hb dX8_copyFrom_82 ?_
  refine lv_aload_n hx hb dX8_copyFrom_83 rfl (lv_at hl 0 rfl) ?_
  refine va_get (D := (dC, dI)) (ci := 8) (v := .ref ad_t_gone) (C := RX8) (T := TX8) (N := 10) hx hb hts in_X8_copyFrom_X8 hown hK hP 0 rfl rfl 8 (by decide) (hts _ q_X8_copyFrom_12) (fun _ h9 => h9) rfl dX8_copyFrom_84 ?_
  refine z_iconst hx hb dX8_copyFrom_87 ?_
  refine z_bipush hx hb (by decide +kernel) dX8_copyFrom_88 ?_
  refine z_copy (N := 120) hx hb (hml.trans hl.1.symm) hown (hts _ q_X8_copyFrom_7) (hts _ q_X8_copyFrom_8) (hts _ q_X8_copyFrom_9) (hts _ q_X8_copyFrom_10) hK hP hD hS 8 3 0 0 rfl rfl rfl rfl (by decide) (by decide) (by decide) (Nat.le_of_ble_eq_true rfl) (Nat.le_of_ble_eq_true rfl) dX8_copyFrom_90 (fun H locs hP hD hS => ?_)
  have hP : va_P (dC, dI) vwCl [kX8 ad_t ad_t_steps ad_t_line ad_t_gone ad_t_wentIn o_size o_there o_roundsBy o_kind o_figure o_stepCount, kI cA ad_t_steps 8 (zcp o_steps t_steps 8), kI cA ad_t_line 120 (zcp o_line t_line 120), kI cA ad_t_gone 120 (zcp o_gone t_gone 120), kI cA ad_t_wentIn 121 t_wentIn, kX8 ad_o ad_o_steps ad_o_line ad_o_gone ad_o_wentIn o_size o_there o_roundsBy o_kind o_figure o_stepCount, kI cA ad_o_steps 8 o_steps, kI cA ad_o_line 120 o_line, kI cA ad_o_gone 120 o_gone, kI cA ad_o_wentIn 121 o_wentIn] H := hP
  have hD : va_D A [kX8 ad_t ad_t_steps ad_t_line ad_t_gone ad_t_wentIn o_size o_there o_roundsBy o_kind o_figure o_stepCount, kI cA ad_t_steps 8 (zcp o_steps t_steps 8), kI cA ad_t_line 120 (zcp o_line t_line 120), kI cA ad_t_gone 120 (zcp o_gone t_gone 120), kI cA ad_t_wentIn 121 t_wentIn, kX8 ad_o ad_o_steps ad_o_line ad_o_gone ad_o_wentIn o_size o_there o_roundsBy o_kind o_figure o_stepCount, kI cA ad_o_steps 8 o_steps, kI cA ad_o_line 120 o_line, kI cA ad_o_gone 120 o_gone, kI cA ad_o_wentIn 121 o_wentIn] := hD
  refine lv_aload_n hx hb dX8_copyFrom_93 rfl (lv_at hl 1 rfl) ?_
  refine va_get (D := (dC, dI)) (ci := 8) (v := .ref ad_o_wentIn) (C := RX8) (T := TX8) (N := 10) hx hb hts in_X8_copyFrom_X8 hown hK hP 5 rfl rfl 9 (by decide) (hts _ q_X8_copyFrom_13) (fun _ h9 => h9) rfl dX8_copyFrom_94 ?_
  refine z_iconst hx hb dX8_copyFrom_97 ?_
  refine lv_aload_n hx hb dX8_copyFrom_98 rfl (lv_at hl 0 rfl) ?_
  refine va_get (D := (dC, dI)) (ci := 8) (v := .ref ad_t_wentIn) (C := RX8) (T := TX8) (N := 10) hx hb hts in_X8_copyFrom_X8 hown hK hP 0 rfl rfl 9 (by decide) (hts _ q_X8_copyFrom_13) (fun _ h9 => h9) rfl dX8_copyFrom_99 ?_
  refine z_iconst hx hb dX8_copyFrom_102 ?_
  refine z_bipush hx hb (by decide +kernel) dX8_copyFrom_103 ?_
  refine z_copy (N := 121) hx hb (hml.trans hl.1.symm) hown (hts _ q_X8_copyFrom_7) (hts _ q_X8_copyFrom_8) (hts _ q_X8_copyFrom_9) (hts _ q_X8_copyFrom_10) hK hP hD hS 9 4 0 0 rfl rfl rfl rfl (by decide) (by decide) (by decide) (Nat.le_of_ble_eq_true rfl) (Nat.le_of_ble_eq_true rfl) dX8_copyFrom_105 (fun H locs hP hD hS => ?_)
  have hP : va_P (dC, dI) vwCl [kX8 ad_t ad_t_steps ad_t_line ad_t_gone ad_t_wentIn o_size o_there o_roundsBy o_kind o_figure o_stepCount, kI cA ad_t_steps 8 (zcp o_steps t_steps 8), kI cA ad_t_line 120 (zcp o_line t_line 120), kI cA ad_t_gone 120 (zcp o_gone t_gone 120), kI cA ad_t_wentIn 121 (zcp o_wentIn t_wentIn 121), kX8 ad_o ad_o_steps ad_o_line ad_o_gone ad_o_wentIn o_size o_there o_roundsBy o_kind o_figure o_stepCount, kI cA ad_o_steps 8 o_steps, kI cA ad_o_line 120 o_line, kI cA ad_o_gone 120 o_gone, kI cA ad_o_wentIn 121 o_wentIn] H := hP
  have hD : va_D A [kX8 ad_t ad_t_steps ad_t_line ad_t_gone ad_t_wentIn o_size o_there o_roundsBy o_kind o_figure o_stepCount, kI cA ad_t_steps 8 (zcp o_steps t_steps 8), kI cA ad_t_line 120 (zcp o_line t_line 120), kI cA ad_t_gone 120 (zcp o_gone t_gone 120), kI cA ad_t_wentIn 121 (zcp o_wentIn t_wentIn 121), kX8 ad_o ad_o_steps ad_o_line ad_o_gone ad_o_wentIn o_size o_there o_roundsBy o_kind o_figure o_stepCount, kI cA ad_o_steps 8 o_steps, kI cA ad_o_line 120 o_line, kI cA ad_o_gone 120 o_gone, kI cA ad_o_wentIn 121 o_wentIn] := hD
  cases h
  exact z_vret hx hb hr hlocks hP hD hS dX8_copyFrom_108
-- J7_fill_53178
theorem dJ7_fill_53178_0 : decode cJ7_fill_53178 0 = .ok (.iconst 0, 1) := by decide +kernel
theorem dJ7_fill_53178_1 : decode cJ7_fill_53178 1 = .ok (.istore_n 2, 1) := by decide +kernel
theorem dJ7_fill_53178_2 : decode cJ7_fill_53178 2 = .ok (.aload_n 0, 1) := by decide +kernel
theorem dJ7_fill_53178_3 : decode cJ7_fill_53178 3 = .ok (.arraylength, 1) := by decide +kernel
theorem dJ7_fill_53178_4 : decode cJ7_fill_53178 4 = .ok (.istore_n 3, 1) := by decide +kernel
theorem dJ7_fill_53178_5 : decode cJ7_fill_53178 5 = .ok (.iload_n 2, 1) := by decide +kernel
theorem dJ7_fill_53178_6 : decode cJ7_fill_53178 6 = .ok (.iload_n 3, 1) := by decide +kernel
theorem dJ7_fill_53178_7 : decode cJ7_fill_53178 7 = .ok (.if_icmp .ge 13, 3) := by decide +kernel
theorem dJ7_fill_53178_10 : decode cJ7_fill_53178 10 = .ok (.aload_n 0, 1) := by decide +kernel
theorem dJ7_fill_53178_11 : decode cJ7_fill_53178 11 = .ok (.iload_n 2, 1) := by decide +kernel
theorem dJ7_fill_53178_12 : decode cJ7_fill_53178 12 = .ok (.iload_n 1, 1) := by decide +kernel
theorem dJ7_fill_53178_13 : decode cJ7_fill_53178 13 = .ok (.iastore, 1) := by decide +kernel
theorem dJ7_fill_53178_14 : decode cJ7_fill_53178 14 = .ok (.iinc 2 1, 3) := by decide +kernel
theorem dJ7_fill_53178_17 : decode cJ7_fill_53178 17 = .ok (.goto (-12), 3) := by decide +kernel
theorem dJ7_fill_53178_20 : decode cJ7_fill_53178 20 = .ok (.return_, 1) := by decide +kernel
noncomputable def f_J7_fill_53178_L5 : Nat → Int → Int → Int → (Int → Int) → Option ((Int → Int))
  | 0, _, _, _, _ => none
  | n + 1, v1, v2, v3, q_a => zg (zR v2 ∧ zR v3) (if v3 ≤ v2 then some q_a else zg ((0 : Int) ≤ v2 ∧ v2 < (121 : Int)) (f_J7_fill_53178_L5 n v1 (v2 + 1) v3 (zup q_a v2 v1)))
theorem f_J7_fill_53178_L5_z (v1 : Int) (v2 : Int) (v3 : Int) (q_a : Int → Int) : f_J7_fill_53178_L5 0 v1 v2 v3 q_a = none := rfl
theorem f_J7_fill_53178_L5_s (n : Nat) (v1 : Int) (v2 : Int) (v3 : Int) (q_a : Int → Int) : f_J7_fill_53178_L5 (n + 1) v1 v2 v3 q_a = zg (zR v2 ∧ zR v3) (if v3 ≤ v2 then some q_a else zg ((0 : Int) ≤ v2 ∧ v2 < (121 : Int)) (f_J7_fill_53178_L5 n v1 (v2 + 1) v3 (zup q_a v2 v1))) := rfl
noncomputable def f_J7_fill_53178 (v1 : Int) (q_a : Int → Int) : Option ((Int → Int)) := (f_J7_fill_53178_L5 zF v1 0 121 q_a).bind (fun q_a_1 => some q_a_1)
set_option maxHeartbeats 4000000 in
set_option maxRecDepth 100000 in
theorem c_J7_fill_53178 (l : Launch) (dC : Nat → ClassId) (dI : Nat → Nat → Nat) (cA cN : ClassId) (sz : Nat) (ad_q : Nat) (q_a : Int → Int) (v1 : Int) (q_a9 : Int → Int) (h : f_J7_fill_53178 v1 q_a = some q_a9) : Met l yJ7_fill_53178 wsJ7_fill_53178 { frames := 0, cells := 0, slots := 0, locals := 0 } (zPc (dC, dI) (zT cA cN) [kI cA ad_q 121 q_a] [.ref ad_q, .int (zi v1)] sz) (zQv (dC, dI) [kI cA ad_q 121 q_a9] (va_A [kI cA ad_q 121 q_a] sz)) 0 0 (va_A [kI cA ad_q 121 q_a] sz) := by
  refine z_ofW (QF := fun A => zQv (dC, dI) [kI cA ad_q 121 q_a9] A) (by decide) rfl (Nat.le_of_ble_eq_true rfl) ?_
  intro p e s m below meth c ls A hx hb hml hr hlocks hnm hts hown hK hP hD hE hsz hA hS hl
  have hl : lv_has ls 4 [(0, .ref ad_q), (1, .int (zi v1))] := hl
  unfold f_J7_fill_53178 at h
  refine z_iconst hx hb dJ7_fill_53178_0 ?_
  refine lv_istore_n (lv' := [(2, .int (zi 0)), (0, .ref ad_q), (1, .int (zi v1))]) hx hb dJ7_fill_53178_1 rfl hl (by decide) rfl (fun ls hl => ?_)
  refine lv_aload_n hx hb dJ7_fill_53178_2 rfl (lv_at hl 1 rfl) ?_
  refine z_alen (N := 121) hx hb hK hP 0 0 rfl rfl rfl dJ7_fill_53178_3 ?_
  refine lv_istore_n (lv' := [(3, .int (zi 121)), (2, .int (zi 0)), (0, .ref ad_q), (1, .int (zi v1))]) hx hb dJ7_fill_53178_4 rfl hl (by decide) rfl (fun ls hl => ?_)
  obtain ⟨q_a_2, hl_3, h⟩ := zb h
  try dsimp only at h
  have hx5 : ∀ (q_a_4 : Int → Int) (H : Heap) (locs : List Loc) (ls : Array Slot), some q_a_4 = some q_a_2 → va_P (dC, dI) vwCl [kI cA ad_q 121 q_a_4] H → va_D A [kI cA ad_q 121 q_a_4] → va_S A s.heap H locs → lv_has ls 4 [] → W p l e { frames := 0, cells := 0, slots := 0, locals := 0 } s m ([.ref ad_q, .int (zi v1)] : List Value).toArray below meth c H locs 0 0 (MQ below (zQv (dC, dI) [kI cA ad_q 121 q_a9] A) ([.ref ad_q, .int (zi v1)] : List Value).toArray s 0 0 A) (F0 m 20 ls []) := by
    intro q_a_4 H locs ls he hP hD hS hl
    obtain rfl := zinj1 he
    cases h
    exact z_vret hx hb hr hlocks hP hD hS dJ7_fill_53178_20
  clear h
  have hlp5 : ∀ (n : Nat) (v2_5 : Int) (q_a_6 : Int → Int) (H : Heap) (locs : List Loc) (ls : Array Slot), f_J7_fill_53178_L5 n v1 v2_5 121 q_a_6 = some q_a_2 → va_P (dC, dI) vwCl [kI cA ad_q 121 q_a_6] H → va_D A [kI cA ad_q 121 q_a_6] → va_S A s.heap H locs → lv_has ls 4 [(0, .ref ad_q), (1, .int (zi v1)), (2, .int (zi v2_5)), (3, .int (zi 121))] → W p l e { frames := 0, cells := 0, slots := 0, locals := 0 } s m ([.ref ad_q, .int (zi v1)] : List Value).toArray below meth c H locs 0 0 (MQ below (zQv (dC, dI) [kI cA ad_q 121 q_a9] A) ([.ref ad_q, .int (zi v1)] : List Value).toArray s 0 0 A) (F0 m 5 ls []) := by
    intro n
    induction n with
    | zero => intro v2_5 q_a_6 H locs ls h; rw [f_J7_fill_53178_L5_z] at h; cases h
    | succ n ih5 =>
      intro v2_5 q_a_6 H locs ls h hP hD hS hl
      rw [f_J7_fill_53178_L5_s] at h
      refine lv_iload_n hx hb dJ7_fill_53178_5 rfl (lv_at hl 2 rfl) ?_
      refine lv_iload_n hx hb dJ7_fill_53178_6 rfl (lv_at hl 3 rfl) ?_
      refine z_icmp_ge (tgt := 20) hx hb dJ7_fill_53178_7 (by decide) h (fun q => q) (fun h => ?_) (fun h => ?_)
      · exact hx5 _ _ _ _ h hP hD hS (lv_sub hl [] rfl)
      · refine lv_aload_n hx hb dJ7_fill_53178_10 rfl (lv_at hl 0 rfl) ?_
        refine lv_iload_n hx hb dJ7_fill_53178_11 rfl (lv_at hl 2 rfl) ?_
        refine lv_iload_n hx hb dJ7_fill_53178_12 rfl (lv_at hl 1 rfl) ?_
        refine z_iast (N := 121) hx hb hK hP hD hS 0 0 rfl rfl rfl (by decide) dJ7_fill_53178_13 h (fun h H locs hP hD hS => ?_)
        have hP : va_P (dC, dI) vwCl [kI cA ad_q 121 (zup q_a_6 v2_5 v1)] H := hP
        have hD : va_D A [kI cA ad_q 121 (zup q_a_6 v2_5 v1)] := hD
        refine z_iinc (lv' := [(2, .int (zi (v2_5 + 1))), (0, .ref ad_q), (1, .int (zi v1)), (3, .int (zi 121))]) hx hb dJ7_fill_53178_14 hl (k := 2) rfl (by decide) rfl (fun ls hl => ?_)
        refine lv_goto (tgt := 5) hx hb dJ7_fill_53178_17 (by decide) ?_
        exact ih5 _ _ _ _ _ h hP hD hS (lv_sub hl [1, 2, 0, 3] rfl)
  exact hlp5 zF _ _ _ _ _ hl_3 hP hD hS (lv_sub hl [2, 3, 1, 0] rfl)
-- X8_beginWith
theorem dX8_beginWith_0 : decode cX8_beginWith 0 = .ok (.iload_n 1, 1) := by decide +kernel
theorem dX8_beginWith_1 : decode cX8_beginWith 1 = .ok (.iconst 1, 1) := by decide +kernel
theorem dX8_beginWith_2 : decode cX8_beginWith 2 = .ok (.if_icmp .lt 9, 3) := by decide +kernel
theorem dX8_beginWith_5 : decode cX8_beginWith 5 = .ok (.iload_n 1, 1) := by decide +kernel
theorem dX8_beginWith_6 : decode cX8_beginWith 6 = .ok (.bipush 120, 2) := by decide +kernel
theorem dX8_beginWith_8 : decode cX8_beginWith 8 = .ok (.if_icmp .le 5, 3) := by decide +kernel
theorem dX8_beginWith_11 : decode cX8_beginWith 11 = .ok (.iconst 0, 1) := by decide +kernel
theorem dX8_beginWith_12 : decode cX8_beginWith 12 = .ok (.ireturn, 1) := by decide +kernel
theorem dX8_beginWith_13 : decode cX8_beginWith 13 = .ok (.aload_n 0, 1) := by decide +kernel
theorem dX8_beginWith_14 : decode cX8_beginWith 14 = .ok (.iload_n 1, 1) := by decide +kernel
theorem dX8_beginWith_15 : decode cX8_beginWith 15 = .ok (.putfield 24, 3) := by decide +kernel
theorem dX8_beginWith_18 : decode cX8_beginWith 18 = .ok (.aload_n 0, 1) := by decide +kernel
theorem dX8_beginWith_19 : decode cX8_beginWith 19 = .ok (.iload_n 1, 1) := by decide +kernel
theorem dX8_beginWith_20 : decode cX8_beginWith 20 = .ok (.putfield 28, 3) := by decide +kernel
theorem dX8_beginWith_23 : decode cX8_beginWith 23 = .ok (.aload_n 0, 1) := by decide +kernel
theorem dX8_beginWith_24 : decode cX8_beginWith 24 = .ok (.iconst 0, 1) := by decide +kernel
theorem dX8_beginWith_25 : decode cX8_beginWith 25 = .ok (.putfield 31, 3) := by decide +kernel
theorem dX8_beginWith_28 : decode cX8_beginWith 28 = .ok (.aload_n 0, 1) := by decide +kernel
theorem dX8_beginWith_29 : decode cX8_beginWith 29 = .ok (.getfield 21, 3) := by decide +kernel
theorem dX8_beginWith_32 : decode cX8_beginWith 32 = .ok (.iconst 0, 1) := by decide +kernel
theorem dX8_beginWith_33 : decode cX8_beginWith 33 = .ok (.invokestatic 49, 3) := by decide +kernel
theorem dX8_beginWith_36 : decode cX8_beginWith 36 = .ok (.iconst 0, 1) := by decide +kernel
theorem dX8_beginWith_37 : decode cX8_beginWith 37 = .ok (.istore_n 2, 1) := by decide +kernel
theorem dX8_beginWith_38 : decode cX8_beginWith 38 = .ok (.iload_n 2, 1) := by decide +kernel
theorem dX8_beginWith_39 : decode cX8_beginWith 39 = .ok (.iload_n 1, 1) := by decide +kernel
theorem dX8_beginWith_40 : decode cX8_beginWith 40 = .ok (.if_icmp .ge 18, 3) := by decide +kernel
theorem dX8_beginWith_43 : decode cX8_beginWith 43 = .ok (.aload_n 0, 1) := by decide +kernel
theorem dX8_beginWith_44 : decode cX8_beginWith 44 = .ok (.getfield 15, 3) := by decide +kernel
theorem dX8_beginWith_47 : decode cX8_beginWith 47 = .ok (.iload_n 2, 1) := by decide +kernel
theorem dX8_beginWith_48 : decode cX8_beginWith 48 = .ok (.iload_n 2, 1) := by decide +kernel
theorem dX8_beginWith_49 : decode cX8_beginWith 49 = .ok (.iconst 1, 1) := by decide +kernel
theorem dX8_beginWith_50 : decode cX8_beginWith 50 = .ok (.iadd, 1) := by decide +kernel
theorem dX8_beginWith_51 : decode cX8_beginWith 51 = .ok (.iastore, 1) := by decide +kernel
theorem dX8_beginWith_52 : decode cX8_beginWith 52 = .ok (.iinc 2 1, 3) := by decide +kernel
theorem dX8_beginWith_55 : decode cX8_beginWith 55 = .ok (.goto (-17), 3) := by decide +kernel
theorem dX8_beginWith_58 : decode cX8_beginWith 58 = .ok (.iconst 1, 1) := by decide +kernel
theorem dX8_beginWith_59 : decode cX8_beginWith 59 = .ok (.ireturn, 1) := by decide +kernel
set_option maxRecDepth 20000 in
theorem ggX8_beginWith_J7_fill_53178 : GoodIn wsX8_beginWith wsJ7_fill_53178 := goodIn_r _ [9] rfl (by decide +kernel)
set_option maxRecDepth 20000 in
theorem gX8_beginWith_J7_fill_53178 : GoodIn wsX8_beginWith (va_wsS RX8 49 yJ7_fill_53178 wsJ7_fill_53178) := goodIn_app (goodIn_of _ (by decide +kernel)) ggX8_beginWith_J7_fill_53178
noncomputable def f_X8_beginWith_L38 : Nat → Int → Int → (Int → Int) → Option ((Int → Int))
  | 0, _, _, _ => none
  | n + 1, v1, v2, t_line => zg (zR v2 ∧ zR v1) (if v1 ≤ v2 then some t_line else zg ((0 : Int) ≤ v2 ∧ v2 < (120 : Int)) (f_X8_beginWith_L38 n v1 (v2 + 1) (zup t_line v2 (v2 + 1))))
theorem f_X8_beginWith_L38_z (v1 : Int) (v2 : Int) (t_line : Int → Int) : f_X8_beginWith_L38 0 v1 v2 t_line = none := rfl
theorem f_X8_beginWith_L38_s (n : Nat) (v1 : Int) (v2 : Int) (t_line : Int → Int) : f_X8_beginWith_L38 (n + 1) v1 v2 t_line = zg (zR v2 ∧ zR v1) (if v1 ≤ v2 then some t_line else zg ((0 : Int) ≤ v2 ∧ v2 < (120 : Int)) (f_X8_beginWith_L38 n v1 (v2 + 1) (zup t_line v2 (v2 + 1)))) := rfl
noncomputable def f_X8_beginWith (v1 : Int) (t_size : Int) (t_there : Int) (t_roundsBy : Int) (t_line : Int → Int) (t_wentIn : Int → Int) : Option (Int × Int × Int × Int × (Int → Int) × (Int → Int)) := zg (zR v1) (if v1 < 1 then some (0, t_size, t_there, t_roundsBy, t_line, t_wentIn) else zg (zR v1) (if v1 ≤ 120 then (f_J7_fill_53178 0 t_wentIn).bind (fun t_wentIn_1 => (f_X8_beginWith_L38 zF v1 0 t_line).bind (fun t_line_3 => some (1, v1, v1, 0, t_line_3, t_wentIn_1))) else some (0, t_size, t_there, t_roundsBy, t_line, t_wentIn)))
theorem q_X8_beginWith_0 : Cond.fieldLink RX8 24 "EachSecondStruck$Standing" "size" "I" ∈ wsX8_beginWith := by decide +kernel
theorem q_X8_beginWith_1 : Cond.fieldLink RX8 28 "EachSecondStruck$Standing" "there" "I" ∈ wsX8_beginWith := by decide +kernel
theorem q_X8_beginWith_2 : Cond.fieldLink RX8 31 "EachSecondStruck$Standing" "roundsBy" "I" ∈ wsX8_beginWith := by decide +kernel
theorem q_X8_beginWith_3 : Cond.fieldLink RX8 21 "EachSecondStruck$Standing" "wentIn" "[I" ∈ wsX8_beginWith := by decide +kernel
theorem q_X8_beginWith_4 : Cond.fieldLink RX8 15 "EachSecondStruck$Standing" "line" "[I" ∈ wsX8_beginWith := by decide +kernel
theorem in_X8_beginWith_X8 : ∀ w ∈ u_ws RX8 TX8 10, w ∈ wsX8_beginWith := by decide +kernel
set_option maxHeartbeats 4000000 in
set_option maxRecDepth 100000 in
theorem c_X8_beginWith (l : Launch) (dC : Nat → ClassId) (dI : Nat → Nat → Nat) (cA cN : ClassId) (sz : Nat) (ad_t : Nat) (ad_t_steps : Nat) (ad_t_line : Nat) (ad_t_gone : Nat) (ad_t_wentIn : Nat) (t_size : Int) (t_there : Int) (t_roundsBy : Int) (t_kind : Int) (t_figure : Int) (t_stepCount : Int) (t_line : Int → Int) (t_wentIn : Int → Int) (v1 : Int) (r0 : Int) (t_size9 : Int) (t_there9 : Int) (t_roundsBy9 : Int) (t_line9 : Int → Int) (t_wentIn9 : Int → Int) (h : f_X8_beginWith v1 t_size t_there t_roundsBy t_line t_wentIn = some (r0, t_size9, t_there9, t_roundsBy9, t_line9, t_wentIn9)) : Met l yX8_beginWith wsX8_beginWith { frames := 1, cells := 0, slots := 0, locals := 23 } (zPc (dC, dI) (zT cA cN) [kX8 ad_t ad_t_steps ad_t_line ad_t_gone ad_t_wentIn t_size t_there t_roundsBy t_kind t_figure t_stepCount, kI cA ad_t_line 120 t_line, kI cA ad_t_wentIn 121 t_wentIn] [.ref ad_t, .int (zi v1)] sz) (zQi (dC, dI) [kX8 ad_t ad_t_steps ad_t_line ad_t_gone ad_t_wentIn t_size9 t_there9 t_roundsBy9 t_kind t_figure t_stepCount, kI cA ad_t_line 120 t_line9, kI cA ad_t_wentIn 121 t_wentIn9] r0 (va_A [kX8 ad_t ad_t_steps ad_t_line ad_t_gone ad_t_wentIn t_size t_there t_roundsBy t_kind t_figure t_stepCount, kI cA ad_t_line 120 t_line, kI cA ad_t_wentIn 121 t_wentIn] sz)) 0 0 (va_A [kX8 ad_t ad_t_steps ad_t_line ad_t_gone ad_t_wentIn t_size t_there t_roundsBy t_kind t_figure t_stepCount, kI cA ad_t_line 120 t_line, kI cA ad_t_wentIn 121 t_wentIn] sz) := by
  refine z_ofW (QF := fun A => zQi (dC, dI) [kX8 ad_t ad_t_steps ad_t_line ad_t_gone ad_t_wentIn t_size9 t_there9 t_roundsBy9 t_kind t_figure t_stepCount, kI cA ad_t_line 120 t_line9, kI cA ad_t_wentIn 121 t_wentIn9] r0 A) (by decide) rfl (Nat.le_of_ble_eq_true rfl) ?_
  intro p e s m below meth c ls A hx hb hml hr hlocks hnm hts hown hK hP hD hE hsz hA hS hl
  have hl : lv_has ls 3 [(0, .ref ad_t), (1, .int (zi v1))] := hl
  unfold f_X8_beginWith at h
  refine lv_iload_n hx hb dX8_beginWith_0 rfl (lv_at hl 1 rfl) ?_
  refine z_iconst hx hb dX8_beginWith_1 ?_
  refine z_icmp_lt (tgt := 11) hx hb dX8_beginWith_2 (by decide) h (fun q => ⟨q, by decide⟩) (fun h => ?_) (fun h => ?_)
  · refine z_iconst hx hb dX8_beginWith_11 ?_
    cases h
    exact z_zret hx hb hr hlocks (by decide) hP hD hS dX8_beginWith_12
  · refine lv_iload_n hx hb dX8_beginWith_5 rfl (lv_at hl 1 rfl) ?_
    refine z_bipush hx hb (by decide +kernel) dX8_beginWith_6 ?_
    refine z_icmp_le (tgt := 13) hx hb dX8_beginWith_8 (by decide) h (fun q => ⟨q, by decide⟩) (fun h => ?_) (fun h => ?_)
    · refine lv_aload_n hx hb dX8_beginWith_13 rfl (lv_at hl 0 rfl) ?_
      refine lv_iload_n hx hb dX8_beginWith_14 rfl (lv_at hl 1 rfl) ?_
      refine va_put (D := (dC, dI)) (ci := 8) (v := .int (zi v1)) (ty := .int) (C := RX8) (T := TX8) (N := 10) hx hb hts in_X8_beginWith_X8 tyX8 tyX8_ok nmX8 hown hK hP hD hS 0 rfl rfl 0 (by decide) (hts _ q_X8_beginWith_0) (fun _ h9 => h9) rfl (by decide +kernel) rfl rfl (Nat.le_of_ble_eq_true rfl) dX8_beginWith_15 (fun H locs hP hD hS => ?_)
      have hP : va_P (dC, dI) vwCl [kX8 ad_t ad_t_steps ad_t_line ad_t_gone ad_t_wentIn v1 t_there t_roundsBy t_kind t_figure t_stepCount, kI cA ad_t_line 120 t_line, kI cA ad_t_wentIn 121 t_wentIn] H := hP
      have hD : va_D A [kX8 ad_t ad_t_steps ad_t_line ad_t_gone ad_t_wentIn v1 t_there t_roundsBy t_kind t_figure t_stepCount, kI cA ad_t_line 120 t_line, kI cA ad_t_wentIn 121 t_wentIn] := hD
      refine lv_aload_n hx hb dX8_beginWith_18 rfl (lv_at hl 0 rfl) ?_
      refine lv_iload_n hx hb dX8_beginWith_19 rfl (lv_at hl 1 rfl) ?_
      refine va_put (D := (dC, dI)) (ci := 8) (v := .int (zi v1)) (ty := .int) (C := RX8) (T := TX8) (N := 10) hx hb hts in_X8_beginWith_X8 tyX8 tyX8_ok nmX8 hown hK hP hD hS 0 rfl rfl 1 (by decide) (hts _ q_X8_beginWith_1) (fun _ h9 => h9) rfl (by decide +kernel) rfl rfl (Nat.le_of_ble_eq_true rfl) dX8_beginWith_20 (fun H locs hP hD hS => ?_)
      have hP : va_P (dC, dI) vwCl [kX8 ad_t ad_t_steps ad_t_line ad_t_gone ad_t_wentIn v1 v1 t_roundsBy t_kind t_figure t_stepCount, kI cA ad_t_line 120 t_line, kI cA ad_t_wentIn 121 t_wentIn] H := hP
      have hD : va_D A [kX8 ad_t ad_t_steps ad_t_line ad_t_gone ad_t_wentIn v1 v1 t_roundsBy t_kind t_figure t_stepCount, kI cA ad_t_line 120 t_line, kI cA ad_t_wentIn 121 t_wentIn] := hD
      refine lv_aload_n hx hb dX8_beginWith_23 rfl (lv_at hl 0 rfl) ?_
      refine z_iconst hx hb dX8_beginWith_24 ?_
      refine va_put (D := (dC, dI)) (ci := 8) (v := .int (zi 0)) (ty := .int) (C := RX8) (T := TX8) (N := 10) hx hb hts in_X8_beginWith_X8 tyX8 tyX8_ok nmX8 hown hK hP hD hS 0 rfl rfl 2 (by decide) (hts _ q_X8_beginWith_2) (fun _ h9 => h9) rfl (by decide +kernel) rfl rfl (Nat.le_of_ble_eq_true rfl) dX8_beginWith_25 (fun H locs hP hD hS => ?_)
      have hP : va_P (dC, dI) vwCl [kX8 ad_t ad_t_steps ad_t_line ad_t_gone ad_t_wentIn v1 v1 0 t_kind t_figure t_stepCount, kI cA ad_t_line 120 t_line, kI cA ad_t_wentIn 121 t_wentIn] H := hP
      have hD : va_D A [kX8 ad_t ad_t_steps ad_t_line ad_t_gone ad_t_wentIn v1 v1 0 t_kind t_figure t_stepCount, kI cA ad_t_line 120 t_line, kI cA ad_t_wentIn 121 t_wentIn] := hD
      refine lv_aload_n hx hb dX8_beginWith_28 rfl (lv_at hl 0 rfl) ?_
      refine va_get (D := (dC, dI)) (ci := 8) (v := .ref ad_t_wentIn) (C := RX8) (T := TX8) (N := 10) hx hb hts in_X8_beginWith_X8 hown hK hP 0 rfl rfl 9 (by decide) (hts _ q_X8_beginWith_3) (fun _ h9 => h9) rfl dX8_beginWith_29 ?_
      refine z_iconst hx hb dX8_beginWith_32 ?_
      obtain ⟨t_wentIn_4, hc_5, h⟩ := zb h
      try dsimp only at h
      refine z_callvU (wc := [kI cA ad_t_wentIn 121 t_wentIn]) (wc' := [kI cA ad_t_wentIn 121 t_wentIn_4]) (ws' := [kX8 ad_t ad_t_steps ad_t_line ad_t_gone ad_t_wentIn v1 v1 0 t_kind t_figure t_stepCount, kI cA ad_t_line 120 t_line, kI cA ad_t_wentIn 121 t_wentIn_4]) (va_runS (As := [.ref ad_t_wentIn, .int (zi 0)]) (rest := []) ⟨hx, hb, hml, hown, hts⟩ (c_J7_fill_53178 l dC dI cA cN _ ad_t_wentIn t_wentIn 0 t_wentIn_4 hc_5) (va_cwS 2 hts gX8_beginWith_J7_fill_53178 rfl rfl rfl (by decide +kernel) ⟨Nat.le_of_ble_eq_true rfl, Nat.le_of_ble_eq_true rfl⟩) (zPc.pre hK hE hP hD [2] rfl rfl) rfl rfl hl.1 rfl (lv_room (Nat.le_of_ble_eq_true rfl)) dX8_beginWith_33 ⟨Nat.le_of_ble_eq_true rfl, Nat.le_of_ble_eq_true rfl⟩) hP hD hS hA [2] rfl rfl rfl (fun H locs hP hD hS => ?_)
      refine z_iconst hx hb dX8_beginWith_36 ?_
      refine lv_istore_n (lv' := [(2, .int (zi 0)), (0, .ref ad_t), (1, .int (zi v1))]) hx hb dX8_beginWith_37 rfl hl (by decide) rfl (fun ls hl => ?_)
      obtain ⟨t_line_6, hl_7, h⟩ := zb h
      try dsimp only at h
      have hx38 : ∀ (t_line_8 : Int → Int) (H : Heap) (locs : List Loc) (ls : Array Slot), some t_line_8 = some t_line_6 → va_P (dC, dI) vwCl [kX8 ad_t ad_t_steps ad_t_line ad_t_gone ad_t_wentIn v1 v1 0 t_kind t_figure t_stepCount, kI cA ad_t_line 120 t_line_8, kI cA ad_t_wentIn 121 t_wentIn_4] H → va_D A [kX8 ad_t ad_t_steps ad_t_line ad_t_gone ad_t_wentIn v1 v1 0 t_kind t_figure t_stepCount, kI cA ad_t_line 120 t_line_8, kI cA ad_t_wentIn 121 t_wentIn_4] → va_S A s.heap H locs → lv_has ls 3 [] → W p l e { frames := 1, cells := 0, slots := 0, locals := 23 } s m ([.ref ad_t, .int (zi v1)] : List Value).toArray below meth c H locs 0 0 (MQ below (zQi (dC, dI) [kX8 ad_t ad_t_steps ad_t_line ad_t_gone ad_t_wentIn t_size9 t_there9 t_roundsBy9 t_kind t_figure t_stepCount, kI cA ad_t_line 120 t_line9, kI cA ad_t_wentIn 121 t_wentIn9] r0 A) ([.ref ad_t, .int (zi v1)] : List Value).toArray s 0 0 A) (F0 m 58 ls []) := by
        intro t_line_8 H locs ls he hP hD hS hl
        obtain rfl := zinj1 he
        refine z_iconst hx hb dX8_beginWith_58 ?_
        cases h
        exact z_zret hx hb hr hlocks (by decide) hP hD hS dX8_beginWith_59
      clear h
      have hlp38 : ∀ (n : Nat) (v2_9 : Int) (t_line_10 : Int → Int) (H : Heap) (locs : List Loc) (ls : Array Slot), f_X8_beginWith_L38 n v1 v2_9 t_line_10 = some t_line_6 → va_P (dC, dI) vwCl [kX8 ad_t ad_t_steps ad_t_line ad_t_gone ad_t_wentIn v1 v1 0 t_kind t_figure t_stepCount, kI cA ad_t_line 120 t_line_10, kI cA ad_t_wentIn 121 t_wentIn_4] H → va_D A [kX8 ad_t ad_t_steps ad_t_line ad_t_gone ad_t_wentIn v1 v1 0 t_kind t_figure t_stepCount, kI cA ad_t_line 120 t_line_10, kI cA ad_t_wentIn 121 t_wentIn_4] → va_S A s.heap H locs → lv_has ls 3 [(0, .ref ad_t), (1, .int (zi v1)), (2, .int (zi v2_9))] → W p l e { frames := 1, cells := 0, slots := 0, locals := 23 } s m ([.ref ad_t, .int (zi v1)] : List Value).toArray below meth c H locs 0 0 (MQ below (zQi (dC, dI) [kX8 ad_t ad_t_steps ad_t_line ad_t_gone ad_t_wentIn t_size9 t_there9 t_roundsBy9 t_kind t_figure t_stepCount, kI cA ad_t_line 120 t_line9, kI cA ad_t_wentIn 121 t_wentIn9] r0 A) ([.ref ad_t, .int (zi v1)] : List Value).toArray s 0 0 A) (F0 m 38 ls []) := by
        intro n
        induction n with
        | zero => intro v2_9 t_line_10 H locs ls h; rw [f_X8_beginWith_L38_z] at h; cases h
        | succ n ih38 =>
          intro v2_9 t_line_10 H locs ls h hP hD hS hl
          rw [f_X8_beginWith_L38_s] at h
          refine lv_iload_n hx hb dX8_beginWith_38 rfl (lv_at hl 2 rfl) ?_
          refine lv_iload_n hx hb dX8_beginWith_39 rfl (lv_at hl 1 rfl) ?_
          refine z_icmp_ge (tgt := 58) hx hb dX8_beginWith_40 (by decide) h (fun q => q) (fun h => ?_) (fun h => ?_)
          · exact hx38 _ _ _ _ h hP hD hS (lv_sub hl [] rfl)
          · refine lv_aload_n hx hb dX8_beginWith_43 rfl (lv_at hl 0 rfl) ?_
            refine va_get (D := (dC, dI)) (ci := 8) (v := .ref ad_t_line) (C := RX8) (T := TX8) (N := 10) hx hb hts in_X8_beginWith_X8 hown hK hP 0 rfl rfl 7 (by decide) (hts _ q_X8_beginWith_4) (fun _ h9 => h9) rfl dX8_beginWith_44 ?_
            refine lv_iload_n hx hb dX8_beginWith_47 rfl (lv_at hl 2 rfl) ?_
            refine lv_iload_n hx hb dX8_beginWith_48 rfl (lv_at hl 2 rfl) ?_
            refine z_iconst hx hb dX8_beginWith_49 ?_
            refine z_iadd hx hb dX8_beginWith_50 ?_
            refine z_iast (N := 120) hx hb hK hP hD hS 1 0 rfl rfl rfl (by decide) dX8_beginWith_51 h (fun h H locs hP hD hS => ?_)
            have hP : va_P (dC, dI) vwCl [kX8 ad_t ad_t_steps ad_t_line ad_t_gone ad_t_wentIn v1 v1 0 t_kind t_figure t_stepCount, kI cA ad_t_line 120 (zup t_line_10 v2_9 (v2_9 + 1)), kI cA ad_t_wentIn 121 t_wentIn_4] H := hP
            have hD : va_D A [kX8 ad_t ad_t_steps ad_t_line ad_t_gone ad_t_wentIn v1 v1 0 t_kind t_figure t_stepCount, kI cA ad_t_line 120 (zup t_line_10 v2_9 (v2_9 + 1)), kI cA ad_t_wentIn 121 t_wentIn_4] := hD
            refine z_iinc (lv' := [(2, .int (zi (v2_9 + 1))), (0, .ref ad_t), (1, .int (zi v1))]) hx hb dX8_beginWith_52 hl (k := 2) rfl (by decide) rfl (fun ls hl => ?_)
            refine lv_goto (tgt := 38) hx hb dX8_beginWith_55 (by decide) ?_
            exact ih38 _ _ _ _ _ h hP hD hS (lv_sub hl [1, 2, 0] rfl)
      exact hlp38 zF _ _ _ _ _ hl_7 hP hD hS (lv_sub hl [1, 2, 0] rfl)
    · refine z_iconst hx hb dX8_beginWith_11 ?_
      cases h
      exact z_zret hx hb hr hlocks (by decide) hP hD hS dX8_beginWith_12
-- X10_isFigure
theorem dX10_isFigure_0 : decode cX10_isFigure 0 = .ok (.iload_n 0, 1) := by decide +kernel
theorem dX10_isFigure_1 : decode cX10_isFigure 1 = .ok (.iconst 2, 1) := by decide +kernel
theorem dX10_isFigure_2 : decode cX10_isFigure 2 = .ok (.if_icmp .lt 13, 3) := by decide +kernel
theorem dX10_isFigure_5 : decode cX10_isFigure 5 = .ok (.iload_n 0, 1) := by decide +kernel
theorem dX10_isFigure_6 : decode cX10_isFigure 6 = .ok (.bipush 9, 2) := by decide +kernel
theorem dX10_isFigure_8 : decode cX10_isFigure 8 = .ok (.if_icmp .gt 7, 3) := by decide +kernel
theorem dX10_isFigure_11 : decode cX10_isFigure 11 = .ok (.iconst 1, 1) := by decide +kernel
theorem dX10_isFigure_12 : decode cX10_isFigure 12 = .ok (.goto 4, 3) := by decide +kernel
theorem dX10_isFigure_15 : decode cX10_isFigure 15 = .ok (.iconst 0, 1) := by decide +kernel
theorem dX10_isFigure_16 : decode cX10_isFigure 16 = .ok (.ireturn, 1) := by decide +kernel
noncomputable def f_X10_isFigure (v0 : Int) : Option (Int) := zg (zR v0) (if v0 < 2 then some 0 else zg (zR v0) (if 9 < v0 then some 0 else some 1))
set_option maxHeartbeats 4000000 in
set_option maxRecDepth 100000 in
theorem c_X10_isFigure (l : Launch) (dC : Nat → ClassId) (dI : Nat → Nat → Nat) (cA cN : ClassId) (sz : Nat)  (v0 : Int) (r0 : Int) (h : f_X10_isFigure v0 = some r0) : Met l yX10_isFigure wsX10_isFigure { frames := 0, cells := 0, slots := 0, locals := 0 } (zPc (dC, dI) (zT cA cN) [] [.int (zi v0)] sz) (zQi (dC, dI) [] r0 (va_A [] sz)) 0 0 (va_A [] sz) := by
  refine z_ofW (QF := fun A => zQi (dC, dI) [] r0 A) (by decide) rfl (Nat.le_of_ble_eq_true rfl) ?_
  intro p e s m below meth c ls A hx hb hml hr hlocks hnm hts hown hK hP hD hE hsz hA hS hl
  have hl : lv_has ls 1 [(0, .int (zi v0))] := hl
  unfold f_X10_isFigure at h
  refine lv_iload_n hx hb dX10_isFigure_0 rfl (lv_at hl 0 rfl) ?_
  refine z_iconst hx hb dX10_isFigure_1 ?_
  refine z_icmp_lt (tgt := 15) hx hb dX10_isFigure_2 (by decide) h (fun q => ⟨q, by decide⟩) (fun h => ?_) (fun h => ?_)
  · refine z_iconst hx hb dX10_isFigure_15 ?_
    cases h
    exact z_zret hx hb hr hlocks (by decide) hP hD hS dX10_isFigure_16
  · refine lv_iload_n hx hb dX10_isFigure_5 rfl (lv_at hl 0 rfl) ?_
    refine z_bipush hx hb (by decide +kernel) dX10_isFigure_6 ?_
    refine z_icmp_gt (tgt := 15) hx hb dX10_isFigure_8 (by decide) h (fun q => ⟨q, by decide⟩) (fun h => ?_) (fun h => ?_)
    · refine z_iconst hx hb dX10_isFigure_15 ?_
      cases h
      exact z_zret hx hb hr hlocks (by decide) hP hD hS dX10_isFigure_16
    · refine z_iconst hx hb dX10_isFigure_11 ?_
      refine lv_goto (tgt := 16) hx hb dX10_isFigure_12 (by decide) ?_
      cases h
      exact z_zret hx hb hr hlocks (by decide) hP hD hS dX10_isFigure_16
-- X8_addStep
theorem dX8_addStep_0 : decode cX8_addStep 0 = .ok (.iload_n 1, 1) := by decide +kernel
theorem dX8_addStep_1 : decode cX8_addStep 1 = .ok (.invokestatic 55, 3) := by decide +kernel
theorem dX8_addStep_4 : decode cX8_addStep 4 = .ok (.ifCond .eq 12, 3) := by decide +kernel
theorem dX8_addStep_7 : decode cX8_addStep 7 = .ok (.aload_n 0, 1) := by decide +kernel
theorem dX8_addStep_8 : decode cX8_addStep 8 = .ok (.getfield 40, 3) := by decide +kernel
theorem dX8_addStep_11 : decode cX8_addStep 11 = .ok (.bipush 8, 2) := by decide +kernel
theorem dX8_addStep_13 : decode cX8_addStep 13 = .ok (.if_icmp .lt 5, 3) := by decide +kernel
theorem dX8_addStep_16 : decode cX8_addStep 16 = .ok (.iconst 0, 1) := by decide +kernel
theorem dX8_addStep_17 : decode cX8_addStep 17 = .ok (.ireturn, 1) := by decide +kernel
theorem dX8_addStep_18 : decode cX8_addStep 18 = .ok (.aload_n 0, 1) := by decide +kernel
theorem dX8_addStep_19 : decode cX8_addStep 19 = .ok (.getfield 9, 3) := by decide +kernel
theorem dX8_addStep_22 : decode cX8_addStep 22 = .ok (.aload_n 0, 1) := by decide +kernel
theorem dX8_addStep_23 : decode cX8_addStep 23 = .ok (.getfield 40, 3) := by decide +kernel
theorem dX8_addStep_26 : decode cX8_addStep 26 = .ok (.iload_n 1, 1) := by decide +kernel
theorem dX8_addStep_27 : decode cX8_addStep 27 = .ok (.iastore, 1) := by decide +kernel
theorem dX8_addStep_28 : decode cX8_addStep 28 = .ok (.aload_n 0, 1) := by decide +kernel
theorem dX8_addStep_29 : decode cX8_addStep 29 = .ok (.dup, 1) := by decide +kernel
theorem dX8_addStep_30 : decode cX8_addStep 30 = .ok (.getfield 40, 3) := by decide +kernel
theorem dX8_addStep_33 : decode cX8_addStep 33 = .ok (.iconst 1, 1) := by decide +kernel
theorem dX8_addStep_34 : decode cX8_addStep 34 = .ok (.iadd, 1) := by decide +kernel
theorem dX8_addStep_35 : decode cX8_addStep 35 = .ok (.putfield 40, 3) := by decide +kernel
theorem dX8_addStep_38 : decode cX8_addStep 38 = .ok (.iconst 1, 1) := by decide +kernel
theorem dX8_addStep_39 : decode cX8_addStep 39 = .ok (.ireturn, 1) := by decide +kernel
set_option maxRecDepth 20000 in
theorem ggX8_addStep_X10_isFigure : GoodIn wsX8_addStep wsX10_isFigure := goodIn_r _ [5] rfl (by decide +kernel)
set_option maxRecDepth 20000 in
theorem gX8_addStep_X10_isFigure_n55 : GoodIn wsX8_addStep (wsX10_isFigure) := ggX8_addStep_X10_isFigure
noncomputable def f_X8_addStep (v1 : Int) (t_stepCount : Int) (t_steps : Int → Int) : Option (Int × Int × (Int → Int)) := (f_X10_isFigure v1).bind (fun r_1 => zg (zR r_1) (if r_1 = 0 then some (0, t_stepCount, t_steps) else zg (zR t_stepCount) (if t_stepCount < 8 then zg ((0 : Int) ≤ t_stepCount ∧ t_stepCount < (8 : Int)) (some (1, (t_stepCount + 1), (zup t_steps t_stepCount v1))) else some (0, t_stepCount, t_steps))))
theorem q_X8_addStep_0 : Cond.initialized RX10 ∈ wsX8_addStep := by decide +kernel
theorem q_X8_addStep_1 : Cond.static yX10_isFigure ∈ wsX8_addStep := by decide +kernel
theorem q_X8_addStep_2 : Cond.fieldLink RX8 40 "EachSecondStruck$Standing" "stepCount" "I" ∈ wsX8_addStep := by decide +kernel
theorem q_X8_addStep_3 : Cond.fieldLink RX8 9 "EachSecondStruck$Standing" "steps" "[I" ∈ wsX8_addStep := by decide +kernel
theorem in_X8_addStep_X8 : ∀ w ∈ u_ws RX8 TX8 10, w ∈ wsX8_addStep := by decide +kernel
set_option maxHeartbeats 4000000 in
set_option maxRecDepth 100000 in
theorem c_X8_addStep (l : Launch) (dC : Nat → ClassId) (dI : Nat → Nat → Nat) (cA cN : ClassId) (sz : Nat) (ad_t : Nat) (ad_t_steps : Nat) (ad_t_line : Nat) (ad_t_gone : Nat) (ad_t_wentIn : Nat) (t_size : Int) (t_there : Int) (t_roundsBy : Int) (t_kind : Int) (t_figure : Int) (t_stepCount : Int) (t_steps : Int → Int) (v1 : Int) (r0 : Int) (t_stepCount9 : Int) (t_steps9 : Int → Int) (h : f_X8_addStep v1 t_stepCount t_steps = some (r0, t_stepCount9, t_steps9)) : Met l yX8_addStep wsX8_addStep { frames := 1, cells := 0, slots := 0, locals := 20 } (zPc (dC, dI) (zT cA cN) [kX8 ad_t ad_t_steps ad_t_line ad_t_gone ad_t_wentIn t_size t_there t_roundsBy t_kind t_figure t_stepCount, kI cA ad_t_steps 8 t_steps] [.ref ad_t, .int (zi v1)] sz) (zQi (dC, dI) [kX8 ad_t ad_t_steps ad_t_line ad_t_gone ad_t_wentIn t_size t_there t_roundsBy t_kind t_figure t_stepCount9, kI cA ad_t_steps 8 t_steps9] r0 (va_A [kX8 ad_t ad_t_steps ad_t_line ad_t_gone ad_t_wentIn t_size t_there t_roundsBy t_kind t_figure t_stepCount, kI cA ad_t_steps 8 t_steps] sz)) 0 0 (va_A [kX8 ad_t ad_t_steps ad_t_line ad_t_gone ad_t_wentIn t_size t_there t_roundsBy t_kind t_figure t_stepCount, kI cA ad_t_steps 8 t_steps] sz) := by
  refine z_ofW (QF := fun A => zQi (dC, dI) [kX8 ad_t ad_t_steps ad_t_line ad_t_gone ad_t_wentIn t_size t_there t_roundsBy t_kind t_figure t_stepCount9, kI cA ad_t_steps 8 t_steps9] r0 A) (by decide) rfl (Nat.le_of_ble_eq_true rfl) ?_
  intro p e s m below meth c ls A hx hb hml hr hlocks hnm hts hown hK hP hD hE hsz hA hS hl
  have hl : lv_has ls 2 [(0, .ref ad_t), (1, .int (zi v1))] := hl
  unfold f_X8_addStep at h
  refine lv_iload_n hx hb dX8_addStep_0 rfl (lv_at hl 1 rfl) ?_
  obtain ⟨r_3, hc_4, h⟩ := zb h
  try dsimp only at h
  refine z_calliU (wc := []) (wc' := []) (ws' := [kX8 ad_t ad_t_steps ad_t_line ad_t_gone ad_t_wentIn t_size t_there t_roundsBy t_kind t_figure t_stepCount, kI cA ad_t_steps 8 t_steps]) (va_runSN (As := [.int (zi v1)]) (rest := []) ⟨hx, hb, hml, hown, hts⟩ (c_X10_isFigure l dC dI cA cN _ v1 r_3 hc_4) ⟨va_cnB 1 hts gX8_addStep_X10_isFigure_n55 rfl rfl rfl (hE.nest (i := 0) rfl) (hts _ q_X8_addStep_0) (by decide +kernel) ⟨Nat.le_of_ble_eq_true rfl, Nat.le_of_ble_eq_true rfl⟩, (hts _ q_X8_addStep_1), trivial⟩ (zPc.pre hK hE hP hD [] rfl rfl) rfl rfl hl.1 rfl (lv_room (Nat.le_of_ble_eq_true rfl)) dX8_addStep_1 ⟨Nat.le_of_ble_eq_true rfl, Nat.le_of_ble_eq_true rfl⟩) hP hD hS hA [] rfl rfl rfl (fun H locs hP hD hS => ?_)
  refine z_if_eq (tgt := 16) hx hb dX8_addStep_4 (by decide) h (fun h => ?_) (fun h => ?_)
  · refine z_iconst hx hb dX8_addStep_16 ?_
    cases h
    exact z_zret hx hb hr hlocks (by decide) hP hD hS dX8_addStep_17
  · refine lv_aload_n hx hb dX8_addStep_7 rfl (lv_at hl 0 rfl) ?_
    refine va_get (D := (dC, dI)) (ci := 8) (v := .int (zi t_stepCount)) (C := RX8) (T := TX8) (N := 10) hx hb hts in_X8_addStep_X8 hown hK hP 0 rfl rfl 5 (by decide) (hts _ q_X8_addStep_2) (fun _ h9 => h9) rfl dX8_addStep_8 ?_
    refine z_bipush hx hb (by decide +kernel) dX8_addStep_11 ?_
    refine z_icmp_lt (tgt := 18) hx hb dX8_addStep_13 (by decide) h (fun q => ⟨q, by decide⟩) (fun h => ?_) (fun h => ?_)
    · refine lv_aload_n hx hb dX8_addStep_18 rfl (lv_at hl 0 rfl) ?_
      refine va_get (D := (dC, dI)) (ci := 8) (v := .ref ad_t_steps) (C := RX8) (T := TX8) (N := 10) hx hb hts in_X8_addStep_X8 hown hK hP 0 rfl rfl 6 (by decide) (hts _ q_X8_addStep_3) (fun _ h9 => h9) rfl dX8_addStep_19 ?_
      refine lv_aload_n hx hb dX8_addStep_22 rfl (lv_at hl 0 rfl) ?_
      refine va_get (D := (dC, dI)) (ci := 8) (v := .int (zi t_stepCount)) (C := RX8) (T := TX8) (N := 10) hx hb hts in_X8_addStep_X8 hown hK hP 0 rfl rfl 5 (by decide) (hts _ q_X8_addStep_2) (fun _ h9 => h9) rfl dX8_addStep_23 ?_
      refine lv_iload_n hx hb dX8_addStep_26 rfl (lv_at hl 1 rfl) ?_
      refine z_iast (N := 8) hx hb hK hP hD hS 1 0 rfl rfl rfl (by decide) dX8_addStep_27 h (fun h H locs hP hD hS => ?_)
      have hP : va_P (dC, dI) vwCl [kX8 ad_t ad_t_steps ad_t_line ad_t_gone ad_t_wentIn t_size t_there t_roundsBy t_kind t_figure t_stepCount, kI cA ad_t_steps 8 (zup t_steps t_stepCount v1)] H := hP
      have hD : va_D A [kX8 ad_t ad_t_steps ad_t_line ad_t_gone ad_t_wentIn t_size t_there t_roundsBy t_kind t_figure t_stepCount, kI cA ad_t_steps 8 (zup t_steps t_stepCount v1)] := hD
      refine lv_aload_n hx hb dX8_addStep_28 rfl (lv_at hl 0 rfl) ?_
      refine lv_dup hx hb dX8_addStep_29 rfl ?_
      refine va_get (D := (dC, dI)) (ci := 8) (v := .int (zi t_stepCount)) (C := RX8) (T := TX8) (N := 10) hx hb hts in_X8_addStep_X8 hown hK hP 0 rfl rfl 5 (by decide) (hts _ q_X8_addStep_2) (fun _ h9 => h9) rfl dX8_addStep_30 ?_
      refine z_iconst hx hb dX8_addStep_33 ?_
      refine z_iadd hx hb dX8_addStep_34 ?_
      refine va_put (D := (dC, dI)) (ci := 8) (v := .int (zi (t_stepCount + 1))) (ty := .int) (C := RX8) (T := TX8) (N := 10) hx hb hts in_X8_addStep_X8 tyX8 tyX8_ok nmX8 hown hK hP hD hS 0 rfl rfl 5 (by decide) (hts _ q_X8_addStep_2) (fun _ h9 => h9) rfl (by decide +kernel) rfl rfl (Nat.le_of_ble_eq_true rfl) dX8_addStep_35 (fun H locs hP hD hS => ?_)
      have hP : va_P (dC, dI) vwCl [kX8 ad_t ad_t_steps ad_t_line ad_t_gone ad_t_wentIn t_size t_there t_roundsBy t_kind t_figure (t_stepCount + 1), kI cA ad_t_steps 8 (zup t_steps t_stepCount v1)] H := hP
      have hD : va_D A [kX8 ad_t ad_t_steps ad_t_line ad_t_gone ad_t_wentIn t_size t_there t_roundsBy t_kind t_figure (t_stepCount + 1), kI cA ad_t_steps 8 (zup t_steps t_stepCount v1)] := hD
      refine z_iconst hx hb dX8_addStep_38 ?_
      cases h
      exact z_zret hx hb hr hlocks (by decide) hP hD hS dX8_addStep_39
    · refine z_iconst hx hb dX8_addStep_16 ?_
      cases h
      exact z_zret hx hb hr hlocks (by decide) hP hD hS dX8_addStep_17
-- X8_hasNumber
theorem dX8_hasNumber_0 : decode cX8_hasNumber 0 = .ok (.iload_n 1, 1) := by decide +kernel
theorem dX8_hasNumber_1 : decode cX8_hasNumber 1 = .ok (.iconst 1, 1) := by decide +kernel
theorem dX8_hasNumber_2 : decode cX8_hasNumber 2 = .ok (.if_icmp .lt 15, 3) := by decide +kernel
theorem dX8_hasNumber_5 : decode cX8_hasNumber 5 = .ok (.iload_n 1, 1) := by decide +kernel
theorem dX8_hasNumber_6 : decode cX8_hasNumber 6 = .ok (.aload_n 0, 1) := by decide +kernel
theorem dX8_hasNumber_7 : decode cX8_hasNumber 7 = .ok (.getfield 24, 3) := by decide +kernel
theorem dX8_hasNumber_10 : decode cX8_hasNumber 10 = .ok (.if_icmp .gt 7, 3) := by decide +kernel
theorem dX8_hasNumber_13 : decode cX8_hasNumber 13 = .ok (.iconst 1, 1) := by decide +kernel
theorem dX8_hasNumber_14 : decode cX8_hasNumber 14 = .ok (.goto 4, 3) := by decide +kernel
theorem dX8_hasNumber_17 : decode cX8_hasNumber 17 = .ok (.iconst 0, 1) := by decide +kernel
theorem dX8_hasNumber_18 : decode cX8_hasNumber 18 = .ok (.ireturn, 1) := by decide +kernel
noncomputable def f_X8_hasNumber (v1 : Int) (t_size : Int) : Option (Int) := zg (zR v1) (if v1 < 1 then some 0 else zg (zR v1 ∧ zR t_size) (if t_size < v1 then some 0 else some 1))
theorem q_X8_hasNumber_0 : Cond.fieldLink RX8 24 "EachSecondStruck$Standing" "size" "I" ∈ wsX8_hasNumber := by decide +kernel
theorem in_X8_hasNumber_X8 : ∀ w ∈ u_ws RX8 TX8 10, w ∈ wsX8_hasNumber := by decide +kernel
set_option maxHeartbeats 4000000 in
set_option maxRecDepth 100000 in
theorem c_X8_hasNumber (l : Launch) (dC : Nat → ClassId) (dI : Nat → Nat → Nat) (cA cN : ClassId) (sz : Nat) (ad_t : Nat) (ad_t_steps : Nat) (ad_t_line : Nat) (ad_t_gone : Nat) (ad_t_wentIn : Nat) (t_size : Int) (t_there : Int) (t_roundsBy : Int) (t_kind : Int) (t_figure : Int) (t_stepCount : Int) (v1 : Int) (r0 : Int) (h : f_X8_hasNumber v1 t_size = some r0) : Met l yX8_hasNumber wsX8_hasNumber { frames := 0, cells := 0, slots := 0, locals := 0 } (zPc (dC, dI) (zT cA cN) [kX8 ad_t ad_t_steps ad_t_line ad_t_gone ad_t_wentIn t_size t_there t_roundsBy t_kind t_figure t_stepCount] [.ref ad_t, .int (zi v1)] sz) (zQi (dC, dI) [kX8 ad_t ad_t_steps ad_t_line ad_t_gone ad_t_wentIn t_size t_there t_roundsBy t_kind t_figure t_stepCount] r0 (va_A [kX8 ad_t ad_t_steps ad_t_line ad_t_gone ad_t_wentIn t_size t_there t_roundsBy t_kind t_figure t_stepCount] sz)) 0 0 (va_A [kX8 ad_t ad_t_steps ad_t_line ad_t_gone ad_t_wentIn t_size t_there t_roundsBy t_kind t_figure t_stepCount] sz) := by
  refine z_ofW (QF := fun A => zQi (dC, dI) [kX8 ad_t ad_t_steps ad_t_line ad_t_gone ad_t_wentIn t_size t_there t_roundsBy t_kind t_figure t_stepCount] r0 A) (by decide) rfl (Nat.le_of_ble_eq_true rfl) ?_
  intro p e s m below meth c ls A hx hb hml hr hlocks hnm hts hown hK hP hD hE hsz hA hS hl
  have hl : lv_has ls 2 [(0, .ref ad_t), (1, .int (zi v1))] := hl
  unfold f_X8_hasNumber at h
  refine lv_iload_n hx hb dX8_hasNumber_0 rfl (lv_at hl 1 rfl) ?_
  refine z_iconst hx hb dX8_hasNumber_1 ?_
  refine z_icmp_lt (tgt := 17) hx hb dX8_hasNumber_2 (by decide) h (fun q => ⟨q, by decide⟩) (fun h => ?_) (fun h => ?_)
  · refine z_iconst hx hb dX8_hasNumber_17 ?_
    cases h
    exact z_zret hx hb hr hlocks (by decide) hP hD hS dX8_hasNumber_18
  · refine lv_iload_n hx hb dX8_hasNumber_5 rfl (lv_at hl 1 rfl) ?_
    refine lv_aload_n hx hb dX8_hasNumber_6 rfl (lv_at hl 0 rfl) ?_
    refine va_get (D := (dC, dI)) (ci := 8) (v := .int (zi t_size)) (C := RX8) (T := TX8) (N := 10) hx hb hts in_X8_hasNumber_X8 hown hK hP 0 rfl rfl 0 (by decide) (hts _ q_X8_hasNumber_0) (fun _ h9 => h9) rfl dX8_hasNumber_7 ?_
    refine z_icmp_gt (tgt := 17) hx hb dX8_hasNumber_10 (by decide) h (fun q => q) (fun h => ?_) (fun h => ?_)
    · refine z_iconst hx hb dX8_hasNumber_17 ?_
      cases h
      exact z_zret hx hb hr hlocks (by decide) hP hD hS dX8_hasNumber_18
    · refine z_iconst hx hb dX8_hasNumber_13 ?_
      refine lv_goto (tgt := 18) hx hb dX8_hasNumber_14 (by decide) ?_
      cases h
      exact z_zret hx hb hr hlocks (by decide) hP hD hS dX8_hasNumber_18
-- X8_placeOf
theorem dX8_placeOf_0 : decode cX8_placeOf 0 = .ok (.iconst 0, 1) := by decide +kernel
theorem dX8_placeOf_1 : decode cX8_placeOf 1 = .ok (.istore_n 2, 1) := by decide +kernel
theorem dX8_placeOf_2 : decode cX8_placeOf 2 = .ok (.iload_n 2, 1) := by decide +kernel
theorem dX8_placeOf_3 : decode cX8_placeOf 3 = .ok (.aload_n 0, 1) := by decide +kernel
theorem dX8_placeOf_4 : decode cX8_placeOf 4 = .ok (.getfield 28, 3) := by decide +kernel
theorem dX8_placeOf_7 : decode cX8_placeOf 7 = .ok (.if_icmp .ge 23, 3) := by decide +kernel
theorem dX8_placeOf_10 : decode cX8_placeOf 10 = .ok (.aload_n 0, 1) := by decide +kernel
theorem dX8_placeOf_11 : decode cX8_placeOf 11 = .ok (.getfield 15, 3) := by decide +kernel
theorem dX8_placeOf_14 : decode cX8_placeOf 14 = .ok (.iload_n 2, 1) := by decide +kernel
theorem dX8_placeOf_15 : decode cX8_placeOf 15 = .ok (.iaload, 1) := by decide +kernel
theorem dX8_placeOf_16 : decode cX8_placeOf 16 = .ok (.iload_n 1, 1) := by decide +kernel
theorem dX8_placeOf_17 : decode cX8_placeOf 17 = .ok (.if_icmp .ne 7, 3) := by decide +kernel
theorem dX8_placeOf_20 : decode cX8_placeOf 20 = .ok (.iload_n 2, 1) := by decide +kernel
theorem dX8_placeOf_21 : decode cX8_placeOf 21 = .ok (.iconst 1, 1) := by decide +kernel
theorem dX8_placeOf_22 : decode cX8_placeOf 22 = .ok (.iadd, 1) := by decide +kernel
theorem dX8_placeOf_23 : decode cX8_placeOf 23 = .ok (.ireturn, 1) := by decide +kernel
theorem dX8_placeOf_24 : decode cX8_placeOf 24 = .ok (.iinc 2 1, 3) := by decide +kernel
theorem dX8_placeOf_27 : decode cX8_placeOf 27 = .ok (.goto (-25), 3) := by decide +kernel
theorem dX8_placeOf_30 : decode cX8_placeOf 30 = .ok (.bipush (-9), 2) := by decide +kernel
theorem dX8_placeOf_32 : decode cX8_placeOf 32 = .ok (.ireturn, 1) := by decide +kernel
noncomputable def f_X8_placeOf_L2 : Nat → Int → Int → Int → (Int → Int) → Option (Int)
  | 0, _, _, _, _ => none
  | n + 1, v1, v2, t_there, t_line => zg (zR v2 ∧ zR t_there) (if t_there ≤ v2 then some (-9) else zg ((0 : Int) ≤ v2 ∧ v2 < (120 : Int)) (zg (zR (t_line v2) ∧ zR v1) (if ¬ (t_line v2) = v1 then f_X8_placeOf_L2 n v1 (v2 + 1) t_there t_line else some (v2 + 1))))
theorem f_X8_placeOf_L2_z (v1 : Int) (v2 : Int) (t_there : Int) (t_line : Int → Int) : f_X8_placeOf_L2 0 v1 v2 t_there t_line = none := rfl
theorem f_X8_placeOf_L2_s (n : Nat) (v1 : Int) (v2 : Int) (t_there : Int) (t_line : Int → Int) : f_X8_placeOf_L2 (n + 1) v1 v2 t_there t_line = zg (zR v2 ∧ zR t_there) (if t_there ≤ v2 then some (-9) else zg ((0 : Int) ≤ v2 ∧ v2 < (120 : Int)) (zg (zR (t_line v2) ∧ zR v1) (if ¬ (t_line v2) = v1 then f_X8_placeOf_L2 n v1 (v2 + 1) t_there t_line else some (v2 + 1)))) := rfl
noncomputable def f_X8_placeOf (v1 : Int) (t_there : Int) (t_line : Int → Int) : Option (Int) := f_X8_placeOf_L2 zF v1 0 t_there t_line
theorem q_X8_placeOf_0 : Cond.fieldLink RX8 28 "EachSecondStruck$Standing" "there" "I" ∈ wsX8_placeOf := by decide +kernel
theorem q_X8_placeOf_1 : Cond.fieldLink RX8 15 "EachSecondStruck$Standing" "line" "[I" ∈ wsX8_placeOf := by decide +kernel
theorem in_X8_placeOf_X8 : ∀ w ∈ u_ws RX8 TX8 10, w ∈ wsX8_placeOf := by decide +kernel
set_option maxHeartbeats 4000000 in
set_option maxRecDepth 100000 in
theorem c_X8_placeOf (l : Launch) (dC : Nat → ClassId) (dI : Nat → Nat → Nat) (cA cN : ClassId) (sz : Nat) (ad_t : Nat) (ad_t_steps : Nat) (ad_t_line : Nat) (ad_t_gone : Nat) (ad_t_wentIn : Nat) (t_size : Int) (t_there : Int) (t_roundsBy : Int) (t_kind : Int) (t_figure : Int) (t_stepCount : Int) (t_line : Int → Int) (v1 : Int) (r0 : Int) (h : f_X8_placeOf v1 t_there t_line = some r0) : Met l yX8_placeOf wsX8_placeOf { frames := 0, cells := 0, slots := 0, locals := 0 } (zPc (dC, dI) (zT cA cN) [kX8 ad_t ad_t_steps ad_t_line ad_t_gone ad_t_wentIn t_size t_there t_roundsBy t_kind t_figure t_stepCount, kI cA ad_t_line 120 t_line] [.ref ad_t, .int (zi v1)] sz) (zQi (dC, dI) [kX8 ad_t ad_t_steps ad_t_line ad_t_gone ad_t_wentIn t_size t_there t_roundsBy t_kind t_figure t_stepCount, kI cA ad_t_line 120 t_line] r0 (va_A [kX8 ad_t ad_t_steps ad_t_line ad_t_gone ad_t_wentIn t_size t_there t_roundsBy t_kind t_figure t_stepCount, kI cA ad_t_line 120 t_line] sz)) 0 0 (va_A [kX8 ad_t ad_t_steps ad_t_line ad_t_gone ad_t_wentIn t_size t_there t_roundsBy t_kind t_figure t_stepCount, kI cA ad_t_line 120 t_line] sz) := by
  refine z_ofW (QF := fun A => zQi (dC, dI) [kX8 ad_t ad_t_steps ad_t_line ad_t_gone ad_t_wentIn t_size t_there t_roundsBy t_kind t_figure t_stepCount, kI cA ad_t_line 120 t_line] r0 A) (by decide) rfl (Nat.le_of_ble_eq_true rfl) ?_
  intro p e s m below meth c ls A hx hb hml hr hlocks hnm hts hown hK hP hD hE hsz hA hS hl
  have hl : lv_has ls 3 [(0, .ref ad_t), (1, .int (zi v1))] := hl
  unfold f_X8_placeOf at h
  refine z_iconst hx hb dX8_placeOf_0 ?_
  refine lv_istore_n (lv' := [(2, .int (zi 0)), (0, .ref ad_t), (1, .int (zi v1))]) hx hb dX8_placeOf_1 rfl hl (by decide) rfl (fun ls hl => ?_)
  have hlp2 : ∀ (n : Nat) (v2_1 : Int) (H : Heap) (locs : List Loc) (ls : Array Slot), f_X8_placeOf_L2 n v1 v2_1 t_there t_line = some r0 → va_P (dC, dI) vwCl [kX8 ad_t ad_t_steps ad_t_line ad_t_gone ad_t_wentIn t_size t_there t_roundsBy t_kind t_figure t_stepCount, kI cA ad_t_line 120 t_line] H → va_D A [kX8 ad_t ad_t_steps ad_t_line ad_t_gone ad_t_wentIn t_size t_there t_roundsBy t_kind t_figure t_stepCount, kI cA ad_t_line 120 t_line] → va_S A s.heap H locs → lv_has ls 3 [(0, .ref ad_t), (1, .int (zi v1)), (2, .int (zi v2_1))] → W p l e { frames := 0, cells := 0, slots := 0, locals := 0 } s m ([.ref ad_t, .int (zi v1)] : List Value).toArray below meth c H locs 0 0 (MQ below (zQi (dC, dI) [kX8 ad_t ad_t_steps ad_t_line ad_t_gone ad_t_wentIn t_size t_there t_roundsBy t_kind t_figure t_stepCount, kI cA ad_t_line 120 t_line] r0 A) ([.ref ad_t, .int (zi v1)] : List Value).toArray s 0 0 A) (F0 m 2 ls []) := by
    intro n
    induction n with
    | zero => intro v2_1 H locs ls h; rw [f_X8_placeOf_L2_z] at h; cases h
    | succ n ih2 =>
      intro v2_1 H locs ls h hP hD hS hl
      rw [f_X8_placeOf_L2_s] at h
      refine lv_iload_n hx hb dX8_placeOf_2 rfl (lv_at hl 2 rfl) ?_
      refine lv_aload_n hx hb dX8_placeOf_3 rfl (lv_at hl 0 rfl) ?_
      refine va_get (D := (dC, dI)) (ci := 8) (v := .int (zi t_there)) (C := RX8) (T := TX8) (N := 10) hx hb hts in_X8_placeOf_X8 hown hK hP 0 rfl rfl 1 (by decide) (hts _ q_X8_placeOf_0) (fun _ h9 => h9) rfl dX8_placeOf_4 ?_
      refine z_icmp_ge (tgt := 30) hx hb dX8_placeOf_7 (by decide) h (fun q => q) (fun h => ?_) (fun h => ?_)
      · refine z_bipush hx hb (by decide +kernel) dX8_placeOf_30 ?_
        cases h
        exact z_iret hx hb hr hlocks hP hD hS dX8_placeOf_32
      · refine lv_aload_n hx hb dX8_placeOf_10 rfl (lv_at hl 0 rfl) ?_
        refine va_get (D := (dC, dI)) (ci := 8) (v := .ref ad_t_line) (C := RX8) (T := TX8) (N := 10) hx hb hts in_X8_placeOf_X8 hown hK hP 0 rfl rfl 7 (by decide) (hts _ q_X8_placeOf_1) (fun _ h9 => h9) rfl dX8_placeOf_11 ?_
        refine lv_iload_n hx hb dX8_placeOf_14 rfl (lv_at hl 2 rfl) ?_
        refine z_iald (N := 120) hx hb hK hP 1 0 rfl rfl rfl (by decide) dX8_placeOf_15 h (fun h => ?_)
        refine lv_iload_n hx hb dX8_placeOf_16 rfl (lv_at hl 1 rfl) ?_
        refine z_icmp_ne (tgt := 24) hx hb dX8_placeOf_17 (by decide) h (fun q => q) (fun h => ?_) (fun h => ?_)
        · refine z_iinc (lv' := [(2, .int (zi (v2_1 + 1))), (0, .ref ad_t), (1, .int (zi v1))]) hx hb dX8_placeOf_24 hl (k := 2) rfl (by decide) rfl (fun ls hl => ?_)
          refine lv_goto (tgt := 2) hx hb dX8_placeOf_27 (by decide) ?_
          exact ih2 _ _ _ _ h hP hD hS (lv_sub hl [1, 2, 0] rfl)
        · refine lv_iload_n hx hb dX8_placeOf_20 rfl (lv_at hl 2 rfl) ?_
          refine z_iconst hx hb dX8_placeOf_21 ?_
          refine z_iadd hx hb dX8_placeOf_22 ?_
          cases h
          exact z_iret hx hb hr hlocks hP hD hS dX8_placeOf_23
  exact hlp2 zF _ _ _ _ h hP hD hS (lv_sub hl [1, 2, 0] rfl)
-- X8_changePlaces
theorem dX8_changePlaces_0 : decode cX8_changePlaces 0 = .ok (.aload_n 0, 1) := by decide +kernel
theorem dX8_changePlaces_1 : decode cX8_changePlaces 1 = .ok (.iload_n 1, 1) := by decide +kernel
theorem dX8_changePlaces_2 : decode cX8_changePlaces 2 = .ok (.invokevirtual 59, 3) := by decide +kernel
theorem dX8_changePlaces_5 : decode cX8_changePlaces 5 = .ok (.ifCond .eq 23, 3) := by decide +kernel
theorem dX8_changePlaces_8 : decode cX8_changePlaces 8 = .ok (.aload_n 0, 1) := by decide +kernel
theorem dX8_changePlaces_9 : decode cX8_changePlaces 9 = .ok (.iload_n 2, 1) := by decide +kernel
theorem dX8_changePlaces_10 : decode cX8_changePlaces 10 = .ok (.invokevirtual 59, 3) := by decide +kernel
theorem dX8_changePlaces_13 : decode cX8_changePlaces 13 = .ok (.ifCond .eq 15, 3) := by decide +kernel
theorem dX8_changePlaces_16 : decode cX8_changePlaces 16 = .ok (.iload_n 1, 1) := by decide +kernel
theorem dX8_changePlaces_17 : decode cX8_changePlaces 17 = .ok (.iload_n 2, 1) := by decide +kernel
theorem dX8_changePlaces_18 : decode cX8_changePlaces 18 = .ok (.if_icmp .eq 10, 3) := by decide +kernel
theorem dX8_changePlaces_21 : decode cX8_changePlaces 21 = .ok (.aload_n 0, 1) := by decide +kernel
theorem dX8_changePlaces_22 : decode cX8_changePlaces 22 = .ok (.getfield 31, 3) := by decide +kernel
theorem dX8_changePlaces_25 : decode cX8_changePlaces 25 = .ok (.ifCond .le 5, 3) := by decide +kernel
theorem dX8_changePlaces_28 : decode cX8_changePlaces 28 = .ok (.iconst 0, 1) := by decide +kernel
theorem dX8_changePlaces_29 : decode cX8_changePlaces 29 = .ok (.ireturn, 1) := by decide +kernel
theorem dX8_changePlaces_30 : decode cX8_changePlaces 30 = .ok (.aload_n 0, 1) := by decide +kernel
theorem dX8_changePlaces_31 : decode cX8_changePlaces 31 = .ok (.iload_n 1, 1) := by decide +kernel
theorem dX8_changePlaces_32 : decode cX8_changePlaces 32 = .ok (.invokevirtual 62, 3) := by decide +kernel
theorem dX8_changePlaces_35 : decode cX8_changePlaces 35 = .ok (.istore_n 3, 1) := by decide +kernel
theorem dX8_changePlaces_36 : decode cX8_changePlaces 36 = .ok (.aload_n 0, 1) := by decide +kernel
theorem dX8_changePlaces_37 : decode cX8_changePlaces 37 = .ok (.iload_n 2, 1) := by decide +kernel
theorem dX8_changePlaces_38 : decode cX8_changePlaces 38 = .ok (.invokevirtual 62, 3) := by decide +kernel
theorem dX8_changePlaces_41 : decode cX8_changePlaces 41 = .ok (.istore 4, 2) := by decide +kernel
theorem dX8_changePlaces_43 : decode cX8_changePlaces 43 = .ok (.iload_n 3, 1) := by decide +kernel
theorem dX8_changePlaces_44 : decode cX8_changePlaces 44 = .ok (.iconst 1, 1) := by decide +kernel
theorem dX8_changePlaces_45 : decode cX8_changePlaces 45 = .ok (.if_icmp .lt 9, 3) := by decide +kernel
theorem dX8_changePlaces_48 : decode cX8_changePlaces 48 = .ok (.iload 4, 2) := by decide +kernel
theorem dX8_changePlaces_50 : decode cX8_changePlaces 50 = .ok (.iconst 1, 1) := by decide +kernel
theorem dX8_changePlaces_51 : decode cX8_changePlaces 51 = .ok (.if_icmp .ge 5, 3) := by decide +kernel
theorem dX8_changePlaces_54 : decode cX8_changePlaces 54 = .ok (.iconst 0, 1) := by decide +kernel
theorem dX8_changePlaces_55 : decode cX8_changePlaces 55 = .ok (.ireturn, 1) := by decide +kernel
theorem dX8_changePlaces_56 : decode cX8_changePlaces 56 = .ok (.aload_n 0, 1) := by decide +kernel
theorem dX8_changePlaces_57 : decode cX8_changePlaces 57 = .ok (.getfield 15, 3) := by decide +kernel
theorem dX8_changePlaces_60 : decode cX8_changePlaces 60 = .ok (.iload_n 3, 1) := by decide +kernel
theorem dX8_changePlaces_61 : decode cX8_changePlaces 61 = .ok (.iconst 1, 1) := by decide +kernel
theorem dX8_changePlaces_62 : decode cX8_changePlaces 62 = .ok (.isub, 1) := by decide +kernel
theorem dX8_changePlaces_63 : decode cX8_changePlaces 63 = .ok (.iload_n 2, 1) := by decide +kernel
theorem dX8_changePlaces_64 : decode cX8_changePlaces 64 = .ok (.iastore, 1) := by decide +kernel
theorem dX8_changePlaces_65 : decode cX8_changePlaces 65 = .ok (.aload_n 0, 1) := by decide +kernel
theorem dX8_changePlaces_66 : decode cX8_changePlaces 66 = .ok (.getfield 15, 3) := by decide +kernel
theorem dX8_changePlaces_69 : decode cX8_changePlaces 69 = .ok (.iload 4, 2) := by decide +kernel
theorem dX8_changePlaces_71 : decode cX8_changePlaces 71 = .ok (.iconst 1, 1) := by decide +kernel
theorem dX8_changePlaces_72 : decode cX8_changePlaces 72 = .ok (.isub, 1) := by decide +kernel
theorem dX8_changePlaces_73 : decode cX8_changePlaces 73 = .ok (.iload_n 1, 1) := by decide +kernel
theorem dX8_changePlaces_74 : decode cX8_changePlaces 74 = .ok (.iastore, 1) := by decide +kernel
theorem dX8_changePlaces_75 : decode cX8_changePlaces 75 = .ok (.iconst 1, 1) := by decide +kernel
theorem dX8_changePlaces_76 : decode cX8_changePlaces 76 = .ok (.ireturn, 1) := by decide +kernel
set_option maxRecDepth 20000 in
theorem ggX8_changePlaces_X8_hasNumber : GoodIn wsX8_changePlaces wsX8_hasNumber := goodIn_r _ [7, 8, 14, 15, 16, 17, 18, 19, 20, 21, 22, 23] rfl (by decide +kernel)
set_option maxRecDepth 20000 in
theorem gX8_changePlaces_X8_hasNumber : GoodIn wsX8_changePlaces (wsV RX8 59 RX8 yX8_hasNumber wsX8_hasNumber) := goodIn_app (goodIn_of _ (by decide +kernel)) ggX8_changePlaces_X8_hasNumber
set_option maxRecDepth 20000 in
theorem ggX8_changePlaces_X8_placeOf : GoodIn wsX8_changePlaces wsX8_placeOf := goodIn_r _ [12, 13, 2, 14, 15, 16, 17, 18, 19, 20, 21, 22, 23] rfl (by decide +kernel)
set_option maxRecDepth 20000 in
theorem gX8_changePlaces_X8_placeOf : GoodIn wsX8_changePlaces (wsV RX8 62 RX8 yX8_placeOf wsX8_placeOf) := goodIn_app (goodIn_of _ (by decide +kernel)) ggX8_changePlaces_X8_placeOf
noncomputable def f_X8_changePlaces (v1 : Int) (v2 : Int) (t_size : Int) (t_there : Int) (t_roundsBy : Int) (t_line : Int → Int) : Option (Int × (Int → Int)) := (f_X8_hasNumber v1 t_size).bind (fun r_1 => zg (zR r_1) (if r_1 = 0 then some (0, t_line) else (f_X8_hasNumber v2 t_size).bind (fun r_3 => zg (zR r_3) (if r_3 = 0 then some (0, t_line) else zg (zR v1 ∧ zR v2) (if v1 = v2 then some (0, t_line) else zg (zR t_roundsBy) (if t_roundsBy ≤ 0 then (f_X8_placeOf v1 t_there t_line).bind (fun r_5 => (f_X8_placeOf v2 t_there t_line).bind (fun r_7 => zg (zR r_5) (if r_5 < 1 then some (0, t_line) else zg (zR r_7) (if 1 ≤ r_7 then zg ((0 : Int) ≤ (r_5 - 1) ∧ (r_5 - 1) < (120 : Int)) (zg ((0 : Int) ≤ (r_7 - 1) ∧ (r_7 - 1) < (120 : Int)) (some (1, (zup (zup t_line (r_5 - 1) v2) (r_7 - 1) v1)))) else some (0, t_line))))) else some (0, t_line)))))))
theorem q_X8_changePlaces_0 : Cond.fieldLink RX8 31 "EachSecondStruck$Standing" "roundsBy" "I" ∈ wsX8_changePlaces := by decide +kernel
theorem q_X8_changePlaces_1 : Cond.fieldLink RX8 15 "EachSecondStruck$Standing" "line" "[I" ∈ wsX8_changePlaces := by decide +kernel
theorem in_X8_changePlaces_X8 : ∀ w ∈ u_ws RX8 TX8 10, w ∈ wsX8_changePlaces := by decide +kernel
set_option maxHeartbeats 4000000 in
set_option maxRecDepth 100000 in
theorem c_X8_changePlaces (l : Launch) (dC : Nat → ClassId) (dI : Nat → Nat → Nat) (cA cN : ClassId) (sz : Nat) (ad_t : Nat) (ad_t_steps : Nat) (ad_t_line : Nat) (ad_t_gone : Nat) (ad_t_wentIn : Nat) (t_size : Int) (t_there : Int) (t_roundsBy : Int) (t_kind : Int) (t_figure : Int) (t_stepCount : Int) (t_line : Int → Int) (v1 : Int) (v2 : Int) (r0 : Int) (t_line9 : Int → Int) (h : f_X8_changePlaces v1 v2 t_size t_there t_roundsBy t_line = some (r0, t_line9)) : Met l yX8_changePlaces wsX8_changePlaces { frames := 1, cells := 0, slots := 0, locals := 22 } (zPc (dC, dI) (zT cA cN) [kX8 ad_t ad_t_steps ad_t_line ad_t_gone ad_t_wentIn t_size t_there t_roundsBy t_kind t_figure t_stepCount, kI cA ad_t_line 120 t_line] [.ref ad_t, .int (zi v1), .int (zi v2)] sz) (zQi (dC, dI) [kX8 ad_t ad_t_steps ad_t_line ad_t_gone ad_t_wentIn t_size t_there t_roundsBy t_kind t_figure t_stepCount, kI cA ad_t_line 120 t_line9] r0 (va_A [kX8 ad_t ad_t_steps ad_t_line ad_t_gone ad_t_wentIn t_size t_there t_roundsBy t_kind t_figure t_stepCount, kI cA ad_t_line 120 t_line] sz)) 0 0 (va_A [kX8 ad_t ad_t_steps ad_t_line ad_t_gone ad_t_wentIn t_size t_there t_roundsBy t_kind t_figure t_stepCount, kI cA ad_t_line 120 t_line] sz) := by
  refine z_ofW (QF := fun A => zQi (dC, dI) [kX8 ad_t ad_t_steps ad_t_line ad_t_gone ad_t_wentIn t_size t_there t_roundsBy t_kind t_figure t_stepCount, kI cA ad_t_line 120 t_line9] r0 A) (by decide) rfl (Nat.le_of_ble_eq_true rfl) ?_
  intro p e s m below meth c ls A hx hb hml hr hlocks hnm hts hown hK hP hD hE hsz hA hS hl
  have hl : lv_has ls 5 [(0, .ref ad_t), (1, .int (zi v1)), (2, .int (zi v2))] := hl
  unfold f_X8_changePlaces at h
  refine lv_aload_n hx hb dX8_changePlaces_0 rfl (lv_at hl 0 rfl) ?_
  refine lv_iload_n hx hb dX8_changePlaces_1 rfl (lv_at hl 1 rfl) ?_
  obtain ⟨r_9, hc_10, h⟩ := zb h
  try dsimp only at h
  refine z_calliU (wc := [kX8 ad_t ad_t_steps ad_t_line ad_t_gone ad_t_wentIn t_size t_there t_roundsBy t_kind t_figure t_stepCount]) (wc' := [kX8 ad_t ad_t_steps ad_t_line ad_t_gone ad_t_wentIn t_size t_there t_roundsBy t_kind t_figure t_stepCount]) (ws' := [kX8 ad_t ad_t_steps ad_t_line ad_t_gone ad_t_wentIn t_size t_there t_roundsBy t_kind t_figure t_stepCount, kI cA ad_t_line 120 t_line]) (va_runV (As := [.int (zi v1)]) (rest := []) ⟨hx, hb, hml, hown, hts⟩ (c_X8_hasNumber l dC dI cA cN _ ad_t ad_t_steps ad_t_line ad_t_gone ad_t_wentIn t_size t_there t_roundsBy t_kind t_figure t_stepCount v1 r_9 hc_10) (cwV 1 hts gX8_changePlaces_X8_hasNumber rfl rfl rfl (by decide +kernel) ⟨Nat.le_of_ble_eq_true rfl, Nat.le_of_ble_eq_true rfl⟩) (zPc.preV hK hE hP hD [0] rfl rfl (ci := 8) (q0 := 0) rfl rfl) rfl rfl hl.1 rfl (lv_room (Nat.le_of_ble_eq_true rfl)) dX8_changePlaces_2 ⟨Nat.le_of_ble_eq_true rfl, Nat.le_of_ble_eq_true rfl⟩) hP hD hS hA [0] rfl rfl rfl (fun H locs hP hD hS => ?_)
  refine z_if_eq (tgt := 28) hx hb dX8_changePlaces_5 (by decide) h (fun h => ?_) (fun h => ?_)
  · refine z_iconst hx hb dX8_changePlaces_28 ?_
    cases h
    exact z_zret hx hb hr hlocks (by decide) hP hD hS dX8_changePlaces_29
  · refine lv_aload_n hx hb dX8_changePlaces_8 rfl (lv_at hl 0 rfl) ?_
    refine lv_iload_n hx hb dX8_changePlaces_9 rfl (lv_at hl 2 rfl) ?_
    obtain ⟨r_11, hc_12, h⟩ := zb h
    try dsimp only at h
    refine z_calliU (wc := [kX8 ad_t ad_t_steps ad_t_line ad_t_gone ad_t_wentIn t_size t_there t_roundsBy t_kind t_figure t_stepCount]) (wc' := [kX8 ad_t ad_t_steps ad_t_line ad_t_gone ad_t_wentIn t_size t_there t_roundsBy t_kind t_figure t_stepCount]) (ws' := [kX8 ad_t ad_t_steps ad_t_line ad_t_gone ad_t_wentIn t_size t_there t_roundsBy t_kind t_figure t_stepCount, kI cA ad_t_line 120 t_line]) (va_runV (As := [.int (zi v2)]) (rest := []) ⟨hx, hb, hml, hown, hts⟩ (c_X8_hasNumber l dC dI cA cN _ ad_t ad_t_steps ad_t_line ad_t_gone ad_t_wentIn t_size t_there t_roundsBy t_kind t_figure t_stepCount v2 r_11 hc_12) (cwV 1 hts gX8_changePlaces_X8_hasNumber rfl rfl rfl (by decide +kernel) ⟨Nat.le_of_ble_eq_true rfl, Nat.le_of_ble_eq_true rfl⟩) (zPc.preV hK hE hP hD [0] rfl rfl (ci := 8) (q0 := 0) rfl rfl) rfl rfl hl.1 rfl (lv_room (Nat.le_of_ble_eq_true rfl)) dX8_changePlaces_10 ⟨Nat.le_of_ble_eq_true rfl, Nat.le_of_ble_eq_true rfl⟩) hP hD hS hA [0] rfl rfl rfl (fun H locs hP hD hS => ?_)
    refine z_if_eq (tgt := 28) hx hb dX8_changePlaces_13 (by decide) h (fun h => ?_) (fun h => ?_)
    · refine z_iconst hx hb dX8_changePlaces_28 ?_
      cases h
      exact z_zret hx hb hr hlocks (by decide) hP hD hS dX8_changePlaces_29
    · refine lv_iload_n hx hb dX8_changePlaces_16 rfl (lv_at hl 1 rfl) ?_
      refine lv_iload_n hx hb dX8_changePlaces_17 rfl (lv_at hl 2 rfl) ?_
      refine z_icmp_eq (tgt := 28) hx hb dX8_changePlaces_18 (by decide) h (fun q => q) (fun h => ?_) (fun h => ?_)
      · refine z_iconst hx hb dX8_changePlaces_28 ?_
        cases h
        exact z_zret hx hb hr hlocks (by decide) hP hD hS dX8_changePlaces_29
      · refine lv_aload_n hx hb dX8_changePlaces_21 rfl (lv_at hl 0 rfl) ?_
        refine va_get (D := (dC, dI)) (ci := 8) (v := .int (zi t_roundsBy)) (C := RX8) (T := TX8) (N := 10) hx hb hts in_X8_changePlaces_X8 hown hK hP 0 rfl rfl 2 (by decide) (hts _ q_X8_changePlaces_0) (fun _ h9 => h9) rfl dX8_changePlaces_22 ?_
        refine z_if_le (tgt := 30) hx hb dX8_changePlaces_25 (by decide) h (fun h => ?_) (fun h => ?_)
        · refine lv_aload_n hx hb dX8_changePlaces_30 rfl (lv_at hl 0 rfl) ?_
          refine lv_iload_n hx hb dX8_changePlaces_31 rfl (lv_at hl 1 rfl) ?_
          obtain ⟨r_13, hc_14, h⟩ := zb h
          try dsimp only at h
          refine z_calliU (wc := [kX8 ad_t ad_t_steps ad_t_line ad_t_gone ad_t_wentIn t_size t_there t_roundsBy t_kind t_figure t_stepCount, kI cA ad_t_line 120 t_line]) (wc' := [kX8 ad_t ad_t_steps ad_t_line ad_t_gone ad_t_wentIn t_size t_there t_roundsBy t_kind t_figure t_stepCount, kI cA ad_t_line 120 t_line]) (ws' := [kX8 ad_t ad_t_steps ad_t_line ad_t_gone ad_t_wentIn t_size t_there t_roundsBy t_kind t_figure t_stepCount, kI cA ad_t_line 120 t_line]) (va_runV (As := [.int (zi v1)]) (rest := []) ⟨hx, hb, hml, hown, hts⟩ (c_X8_placeOf l dC dI cA cN _ ad_t ad_t_steps ad_t_line ad_t_gone ad_t_wentIn t_size t_there t_roundsBy t_kind t_figure t_stepCount t_line v1 r_13 hc_14) (cwV 1 hts gX8_changePlaces_X8_placeOf rfl rfl rfl (by decide +kernel) ⟨Nat.le_of_ble_eq_true rfl, Nat.le_of_ble_eq_true rfl⟩) (zPc.preV hK hE hP hD [0, 1] rfl rfl (ci := 8) (q0 := 0) rfl rfl) rfl rfl hl.1 rfl (lv_room (Nat.le_of_ble_eq_true rfl)) dX8_changePlaces_32 ⟨Nat.le_of_ble_eq_true rfl, Nat.le_of_ble_eq_true rfl⟩) hP hD hS hA [0, 1] rfl rfl rfl (fun H locs hP hD hS => ?_)
          refine lv_istore_n (lv' := [(3, .int (zi r_13)), (0, .ref ad_t), (1, .int (zi v1)), (2, .int (zi v2))]) hx hb dX8_changePlaces_35 rfl hl (by decide) rfl (fun ls hl => ?_)
          refine lv_aload_n hx hb dX8_changePlaces_36 rfl (lv_at hl 1 rfl) ?_
          refine lv_iload_n hx hb dX8_changePlaces_37 rfl (lv_at hl 3 rfl) ?_
          obtain ⟨r_15, hc_16, h⟩ := zb h
          try dsimp only at h
          refine z_calliU (wc := [kX8 ad_t ad_t_steps ad_t_line ad_t_gone ad_t_wentIn t_size t_there t_roundsBy t_kind t_figure t_stepCount, kI cA ad_t_line 120 t_line]) (wc' := [kX8 ad_t ad_t_steps ad_t_line ad_t_gone ad_t_wentIn t_size t_there t_roundsBy t_kind t_figure t_stepCount, kI cA ad_t_line 120 t_line]) (ws' := [kX8 ad_t ad_t_steps ad_t_line ad_t_gone ad_t_wentIn t_size t_there t_roundsBy t_kind t_figure t_stepCount, kI cA ad_t_line 120 t_line]) (va_runV (As := [.int (zi v2)]) (rest := []) ⟨hx, hb, hml, hown, hts⟩ (c_X8_placeOf l dC dI cA cN _ ad_t ad_t_steps ad_t_line ad_t_gone ad_t_wentIn t_size t_there t_roundsBy t_kind t_figure t_stepCount t_line v2 r_15 hc_16) (cwV 1 hts gX8_changePlaces_X8_placeOf rfl rfl rfl (by decide +kernel) ⟨Nat.le_of_ble_eq_true rfl, Nat.le_of_ble_eq_true rfl⟩) (zPc.preV hK hE hP hD [0, 1] rfl rfl (ci := 8) (q0 := 0) rfl rfl) rfl rfl hl.1 rfl (lv_room (Nat.le_of_ble_eq_true rfl)) dX8_changePlaces_38 ⟨Nat.le_of_ble_eq_true rfl, Nat.le_of_ble_eq_true rfl⟩) hP hD hS hA [0, 1] rfl rfl rfl (fun H locs hP hD hS => ?_)
          refine lv_istore (lv' := [(4, .int (zi r_15)), (3, .int (zi r_13)), (0, .ref ad_t), (1, .int (zi v1)), (2, .int (zi v2))]) hx hb dX8_changePlaces_41 hl (by decide) rfl (fun ls hl => ?_)
          refine lv_iload_n hx hb dX8_changePlaces_43 rfl (lv_at hl 1 rfl) ?_
          refine z_iconst hx hb dX8_changePlaces_44 ?_
          refine z_icmp_lt (tgt := 54) hx hb dX8_changePlaces_45 (by decide) h (fun q => ⟨q, by decide⟩) (fun h => ?_) (fun h => ?_)
          · refine z_iconst hx hb dX8_changePlaces_54 ?_
            cases h
            exact z_zret hx hb hr hlocks (by decide) hP hD hS dX8_changePlaces_55
          · refine lv_iload hx hb dX8_changePlaces_48 (lv_at hl 0 rfl) ?_
            refine z_iconst hx hb dX8_changePlaces_50 ?_
            refine z_icmp_ge (tgt := 56) hx hb dX8_changePlaces_51 (by decide) h (fun q => ⟨q, by decide⟩) (fun h => ?_) (fun h => ?_)
            · refine lv_aload_n hx hb dX8_changePlaces_56 rfl (lv_at hl 2 rfl) ?_
              refine va_get (D := (dC, dI)) (ci := 8) (v := .ref ad_t_line) (C := RX8) (T := TX8) (N := 10) hx hb hts in_X8_changePlaces_X8 hown hK hP 0 rfl rfl 7 (by decide) (hts _ q_X8_changePlaces_1) (fun _ h9 => h9) rfl dX8_changePlaces_57 ?_
              refine lv_iload_n hx hb dX8_changePlaces_60 rfl (lv_at hl 1 rfl) ?_
              refine z_iconst hx hb dX8_changePlaces_61 ?_
              refine z_isub hx hb dX8_changePlaces_62 ?_
              refine lv_iload_n hx hb dX8_changePlaces_63 rfl (lv_at hl 4 rfl) ?_
              refine z_iast (N := 120) hx hb hK hP hD hS 1 0 rfl rfl rfl (by decide) dX8_changePlaces_64 h (fun h H locs hP hD hS => ?_)
              have hP : va_P (dC, dI) vwCl [kX8 ad_t ad_t_steps ad_t_line ad_t_gone ad_t_wentIn t_size t_there t_roundsBy t_kind t_figure t_stepCount, kI cA ad_t_line 120 (zup t_line (r_13 - 1) v2)] H := hP
              have hD : va_D A [kX8 ad_t ad_t_steps ad_t_line ad_t_gone ad_t_wentIn t_size t_there t_roundsBy t_kind t_figure t_stepCount, kI cA ad_t_line 120 (zup t_line (r_13 - 1) v2)] := hD
              refine lv_aload_n hx hb dX8_changePlaces_65 rfl (lv_at hl 2 rfl) ?_
              refine va_get (D := (dC, dI)) (ci := 8) (v := .ref ad_t_line) (C := RX8) (T := TX8) (N := 10) hx hb hts in_X8_changePlaces_X8 hown hK hP 0 rfl rfl 7 (by decide) (hts _ q_X8_changePlaces_1) (fun _ h9 => h9) rfl dX8_changePlaces_66 ?_
              refine lv_iload hx hb dX8_changePlaces_69 (lv_at hl 0 rfl) ?_
              refine z_iconst hx hb dX8_changePlaces_71 ?_
              refine z_isub hx hb dX8_changePlaces_72 ?_
              refine lv_iload_n hx hb dX8_changePlaces_73 rfl (lv_at hl 3 rfl) ?_
              refine z_iast (N := 120) hx hb hK hP hD hS 1 0 rfl rfl rfl (by decide) dX8_changePlaces_74 h (fun h H locs hP hD hS => ?_)
              have hP : va_P (dC, dI) vwCl [kX8 ad_t ad_t_steps ad_t_line ad_t_gone ad_t_wentIn t_size t_there t_roundsBy t_kind t_figure t_stepCount, kI cA ad_t_line 120 (zup (zup t_line (r_13 - 1) v2) (r_15 - 1) v1)] H := hP
              have hD : va_D A [kX8 ad_t ad_t_steps ad_t_line ad_t_gone ad_t_wentIn t_size t_there t_roundsBy t_kind t_figure t_stepCount, kI cA ad_t_line 120 (zup (zup t_line (r_13 - 1) v2) (r_15 - 1) v1)] := hD
              refine z_iconst hx hb dX8_changePlaces_75 ?_
              cases h
              exact z_zret hx hb hr hlocks (by decide) hP hD hS dX8_changePlaces_76
            · refine z_iconst hx hb dX8_changePlaces_54 ?_
              cases h
              exact z_zret hx hb hr hlocks (by decide) hP hD hS dX8_changePlaces_55
        · refine z_iconst hx hb dX8_changePlaces_28 ?_
          cases h
          exact z_zret hx hb hr hlocks (by decide) hP hD hS dX8_changePlaces_29
-- X8_remains
theorem dX8_remains_0 : decode cX8_remains 0 = .ok (.aload_n 0, 1) := by decide +kernel
theorem dX8_remains_1 : decode cX8_remains 1 = .ok (.iload_n 1, 1) := by decide +kernel
theorem dX8_remains_2 : decode cX8_remains 2 = .ok (.invokevirtual 59, 3) := by decide +kernel
theorem dX8_remains_5 : decode cX8_remains 5 = .ok (.ifCond .eq 16, 3) := by decide +kernel
theorem dX8_remains_8 : decode cX8_remains 8 = .ok (.aload_n 0, 1) := by decide +kernel
theorem dX8_remains_9 : decode cX8_remains 9 = .ok (.getfield 21, 3) := by decide +kernel
theorem dX8_remains_12 : decode cX8_remains 12 = .ok (.iload_n 1, 1) := by decide +kernel
theorem dX8_remains_13 : decode cX8_remains 13 = .ok (.iaload, 1) := by decide +kernel
theorem dX8_remains_14 : decode cX8_remains 14 = .ok (.ifCond .ne 7, 3) := by decide +kernel
theorem dX8_remains_17 : decode cX8_remains 17 = .ok (.iconst 1, 1) := by decide +kernel
theorem dX8_remains_18 : decode cX8_remains 18 = .ok (.goto 4, 3) := by decide +kernel
theorem dX8_remains_21 : decode cX8_remains 21 = .ok (.iconst 0, 1) := by decide +kernel
theorem dX8_remains_22 : decode cX8_remains 22 = .ok (.ireturn, 1) := by decide +kernel
set_option maxRecDepth 20000 in
theorem ggX8_remains_X8_hasNumber : GoodIn wsX8_remains wsX8_hasNumber := goodIn_r _ [6, 7, 8, 9, 10, 11, 12, 13, 14, 15, 16, 17] rfl (by decide +kernel)
set_option maxRecDepth 20000 in
theorem gX8_remains_X8_hasNumber : GoodIn wsX8_remains (wsV RX8 59 RX8 yX8_hasNumber wsX8_hasNumber) := goodIn_app (goodIn_of _ (by decide +kernel)) ggX8_remains_X8_hasNumber
noncomputable def f_X8_remains (v1 : Int) (t_size : Int) (t_wentIn : Int → Int) : Option (Int) := (f_X8_hasNumber v1 t_size).bind (fun r_1 => zg (zR r_1) (if r_1 = 0 then some 0 else zg ((0 : Int) ≤ v1 ∧ v1 < (121 : Int)) (zg (zR (t_wentIn v1)) (if ¬ (t_wentIn v1) = 0 then some 0 else some 1))))
theorem q_X8_remains_0 : Cond.fieldLink RX8 21 "EachSecondStruck$Standing" "wentIn" "[I" ∈ wsX8_remains := by decide +kernel
theorem in_X8_remains_X8 : ∀ w ∈ u_ws RX8 TX8 10, w ∈ wsX8_remains := by decide +kernel
set_option maxHeartbeats 4000000 in
set_option maxRecDepth 100000 in
theorem c_X8_remains (l : Launch) (dC : Nat → ClassId) (dI : Nat → Nat → Nat) (cA cN : ClassId) (sz : Nat) (ad_t : Nat) (ad_t_steps : Nat) (ad_t_line : Nat) (ad_t_gone : Nat) (ad_t_wentIn : Nat) (t_size : Int) (t_there : Int) (t_roundsBy : Int) (t_kind : Int) (t_figure : Int) (t_stepCount : Int) (t_wentIn : Int → Int) (v1 : Int) (r0 : Int) (h : f_X8_remains v1 t_size t_wentIn = some r0) : Met l yX8_remains wsX8_remains { frames := 1, cells := 0, slots := 0, locals := 21 } (zPc (dC, dI) (zT cA cN) [kX8 ad_t ad_t_steps ad_t_line ad_t_gone ad_t_wentIn t_size t_there t_roundsBy t_kind t_figure t_stepCount, kI cA ad_t_wentIn 121 t_wentIn] [.ref ad_t, .int (zi v1)] sz) (zQi (dC, dI) [kX8 ad_t ad_t_steps ad_t_line ad_t_gone ad_t_wentIn t_size t_there t_roundsBy t_kind t_figure t_stepCount, kI cA ad_t_wentIn 121 t_wentIn] r0 (va_A [kX8 ad_t ad_t_steps ad_t_line ad_t_gone ad_t_wentIn t_size t_there t_roundsBy t_kind t_figure t_stepCount, kI cA ad_t_wentIn 121 t_wentIn] sz)) 0 0 (va_A [kX8 ad_t ad_t_steps ad_t_line ad_t_gone ad_t_wentIn t_size t_there t_roundsBy t_kind t_figure t_stepCount, kI cA ad_t_wentIn 121 t_wentIn] sz) := by
  refine z_ofW (QF := fun A => zQi (dC, dI) [kX8 ad_t ad_t_steps ad_t_line ad_t_gone ad_t_wentIn t_size t_there t_roundsBy t_kind t_figure t_stepCount, kI cA ad_t_wentIn 121 t_wentIn] r0 A) (by decide) rfl (Nat.le_of_ble_eq_true rfl) ?_
  intro p e s m below meth c ls A hx hb hml hr hlocks hnm hts hown hK hP hD hE hsz hA hS hl
  have hl : lv_has ls 2 [(0, .ref ad_t), (1, .int (zi v1))] := hl
  unfold f_X8_remains at h
  refine lv_aload_n hx hb dX8_remains_0 rfl (lv_at hl 0 rfl) ?_
  refine lv_iload_n hx hb dX8_remains_1 rfl (lv_at hl 1 rfl) ?_
  obtain ⟨r_3, hc_4, h⟩ := zb h
  try dsimp only at h
  refine z_calliU (wc := [kX8 ad_t ad_t_steps ad_t_line ad_t_gone ad_t_wentIn t_size t_there t_roundsBy t_kind t_figure t_stepCount]) (wc' := [kX8 ad_t ad_t_steps ad_t_line ad_t_gone ad_t_wentIn t_size t_there t_roundsBy t_kind t_figure t_stepCount]) (ws' := [kX8 ad_t ad_t_steps ad_t_line ad_t_gone ad_t_wentIn t_size t_there t_roundsBy t_kind t_figure t_stepCount, kI cA ad_t_wentIn 121 t_wentIn]) (va_runV (As := [.int (zi v1)]) (rest := []) ⟨hx, hb, hml, hown, hts⟩ (c_X8_hasNumber l dC dI cA cN _ ad_t ad_t_steps ad_t_line ad_t_gone ad_t_wentIn t_size t_there t_roundsBy t_kind t_figure t_stepCount v1 r_3 hc_4) (cwV 1 hts gX8_remains_X8_hasNumber rfl rfl rfl (by decide +kernel) ⟨Nat.le_of_ble_eq_true rfl, Nat.le_of_ble_eq_true rfl⟩) (zPc.preV hK hE hP hD [0] rfl rfl (ci := 8) (q0 := 0) rfl rfl) rfl rfl hl.1 rfl (lv_room (Nat.le_of_ble_eq_true rfl)) dX8_remains_2 ⟨Nat.le_of_ble_eq_true rfl, Nat.le_of_ble_eq_true rfl⟩) hP hD hS hA [0] rfl rfl rfl (fun H locs hP hD hS => ?_)
  refine z_if_eq (tgt := 21) hx hb dX8_remains_5 (by decide) h (fun h => ?_) (fun h => ?_)
  · refine z_iconst hx hb dX8_remains_21 ?_
    cases h
    exact z_zret hx hb hr hlocks (by decide) hP hD hS dX8_remains_22
  · refine lv_aload_n hx hb dX8_remains_8 rfl (lv_at hl 0 rfl) ?_
    refine va_get (D := (dC, dI)) (ci := 8) (v := .ref ad_t_wentIn) (C := RX8) (T := TX8) (N := 10) hx hb hts in_X8_remains_X8 hown hK hP 0 rfl rfl 9 (by decide) (hts _ q_X8_remains_0) (fun _ h9 => h9) rfl dX8_remains_9 ?_
    refine lv_iload_n hx hb dX8_remains_12 rfl (lv_at hl 1 rfl) ?_
    refine z_iald (N := 121) hx hb hK hP 1 0 rfl rfl rfl (by decide) dX8_remains_13 h (fun h => ?_)
    refine z_if_ne (tgt := 21) hx hb dX8_remains_14 (by decide) h (fun h => ?_) (fun h => ?_)
    · refine z_iconst hx hb dX8_remains_21 ?_
      cases h
      exact z_zret hx hb hr hlocks (by decide) hP hD hS dX8_remains_22
    · refine z_iconst hx hb dX8_remains_17 ?_
      refine lv_goto (tgt := 22) hx hb dX8_remains_18 (by decide) ?_
      cases h
      exact z_zret hx hb hr hlocks (by decide) hP hD hS dX8_remains_22
-- X8_goneCount
theorem dX8_goneCount_0 : decode cX8_goneCount 0 = .ok (.aload_n 0, 1) := by decide +kernel
theorem dX8_goneCount_1 : decode cX8_goneCount 1 = .ok (.getfield 24, 3) := by decide +kernel
theorem dX8_goneCount_4 : decode cX8_goneCount 4 = .ok (.aload_n 0, 1) := by decide +kernel
theorem dX8_goneCount_5 : decode cX8_goneCount 5 = .ok (.getfield 28, 3) := by decide +kernel
theorem dX8_goneCount_8 : decode cX8_goneCount 8 = .ok (.isub, 1) := by decide +kernel
theorem dX8_goneCount_9 : decode cX8_goneCount 9 = .ok (.ireturn, 1) := by decide +kernel
noncomputable def f_X8_goneCount (t_size : Int) (t_there : Int) : Option (Int) := some (t_size - t_there)
theorem q_X8_goneCount_0 : Cond.fieldLink RX8 24 "EachSecondStruck$Standing" "size" "I" ∈ wsX8_goneCount := by decide +kernel
theorem q_X8_goneCount_1 : Cond.fieldLink RX8 28 "EachSecondStruck$Standing" "there" "I" ∈ wsX8_goneCount := by decide +kernel
theorem in_X8_goneCount_X8 : ∀ w ∈ u_ws RX8 TX8 10, w ∈ wsX8_goneCount := by decide +kernel
set_option maxHeartbeats 4000000 in
set_option maxRecDepth 100000 in
theorem c_X8_goneCount (l : Launch) (dC : Nat → ClassId) (dI : Nat → Nat → Nat) (cA cN : ClassId) (sz : Nat) (ad_t : Nat) (ad_t_steps : Nat) (ad_t_line : Nat) (ad_t_gone : Nat) (ad_t_wentIn : Nat) (t_size : Int) (t_there : Int) (t_roundsBy : Int) (t_kind : Int) (t_figure : Int) (t_stepCount : Int)  (r0 : Int) (h : f_X8_goneCount t_size t_there = some r0) : Met l yX8_goneCount wsX8_goneCount { frames := 0, cells := 0, slots := 0, locals := 0 } (zPc (dC, dI) (zT cA cN) [kX8 ad_t ad_t_steps ad_t_line ad_t_gone ad_t_wentIn t_size t_there t_roundsBy t_kind t_figure t_stepCount] [.ref ad_t] sz) (zQi (dC, dI) [kX8 ad_t ad_t_steps ad_t_line ad_t_gone ad_t_wentIn t_size t_there t_roundsBy t_kind t_figure t_stepCount] r0 (va_A [kX8 ad_t ad_t_steps ad_t_line ad_t_gone ad_t_wentIn t_size t_there t_roundsBy t_kind t_figure t_stepCount] sz)) 0 0 (va_A [kX8 ad_t ad_t_steps ad_t_line ad_t_gone ad_t_wentIn t_size t_there t_roundsBy t_kind t_figure t_stepCount] sz) := by
  refine z_ofW (QF := fun A => zQi (dC, dI) [kX8 ad_t ad_t_steps ad_t_line ad_t_gone ad_t_wentIn t_size t_there t_roundsBy t_kind t_figure t_stepCount] r0 A) (by decide) rfl (Nat.le_of_ble_eq_true rfl) ?_
  intro p e s m below meth c ls A hx hb hml hr hlocks hnm hts hown hK hP hD hE hsz hA hS hl
  have hl : lv_has ls 1 [(0, .ref ad_t)] := hl
  unfold f_X8_goneCount at h
  refine lv_aload_n hx hb dX8_goneCount_0 rfl (lv_at hl 0 rfl) ?_
  refine va_get (D := (dC, dI)) (ci := 8) (v := .int (zi t_size)) (C := RX8) (T := TX8) (N := 10) hx hb hts in_X8_goneCount_X8 hown hK hP 0 rfl rfl 0 (by decide) (hts _ q_X8_goneCount_0) (fun _ h9 => h9) rfl dX8_goneCount_1 ?_
  refine lv_aload_n hx hb dX8_goneCount_4 rfl (lv_at hl 0 rfl) ?_
  refine va_get (D := (dC, dI)) (ci := 8) (v := .int (zi t_there)) (C := RX8) (T := TX8) (N := 10) hx hb hts in_X8_goneCount_X8 hown hK hP 0 rfl rfl 1 (by decide) (hts _ q_X8_goneCount_1) (fun _ h9 => h9) rfl dX8_goneCount_5 ?_
  refine z_isub hx hb dX8_goneCount_8 ?_
  cases h
  exact z_iret hx hb hr hlocks hP hD hS dX8_goneCount_9
-- X9_countIn
theorem dX9_countIn_0 : decode cX9_countIn 0 = .ok (.aload_n 1, 1) := by decide +kernel
theorem dX9_countIn_1 : decode cX9_countIn 1 = .ok (.getfield 7, 3) := by decide +kernel
theorem dX9_countIn_4 : decode cX9_countIn 4 = .ok (.ifCond .le 8, 3) := by decide +kernel
theorem dX9_countIn_7 : decode cX9_countIn 7 = .ok (.iload_n 2, 1) := by decide +kernel
theorem dX9_countIn_8 : decode cX9_countIn 8 = .ok (.iconst 1, 1) := by decide +kernel
theorem dX9_countIn_9 : decode cX9_countIn 9 = .ok (.if_icmp .ge 10, 3) := by decide +kernel
theorem dX9_countIn_12 : decode cX9_countIn 12 = .ok (.aload_n 0, 1) := by decide +kernel
theorem dX9_countIn_13 : decode cX9_countIn 13 = .ok (.aload_n 1, 1) := by decide +kernel
theorem dX9_countIn_14 : decode cX9_countIn 14 = .ok (.iload_n 2, 1) := by decide +kernel
theorem dX9_countIn_15 : decode cX9_countIn 15 = .ok (.invokespecial 13, 3) := by decide +kernel
theorem dX9_countIn_18 : decode cX9_countIn 18 = .ok (.ireturn, 1) := by decide +kernel
theorem dX9_countIn_19 : decode cX9_countIn 19 = .ok (.aload_n 1, 1) := by decide +kernel
theorem dX9_countIn_20 : decode cX9_countIn 20 = .ok (.getfield 17, 3) := by decide +kernel
theorem dX9_countIn_23 : decode cX9_countIn 23 = .ok (.iload_n 2, 1) := by decide +kernel
theorem dX9_countIn_24 : decode cX9_countIn 24 = .ok (.iconst 1, 1) := by decide +kernel
theorem dX9_countIn_25 : decode cX9_countIn 25 = .ok (.isub, 1) := by decide +kernel
theorem dX9_countIn_26 : decode cX9_countIn 26 = .ok (.aload_n 1, 1) := by decide +kernel
theorem dX9_countIn_27 : decode cX9_countIn 27 = .ok (.getfield 7, 3) := by decide +kernel
theorem dX9_countIn_30 : decode cX9_countIn 30 = .ok (.irem, 1) := by decide +kernel
theorem dX9_countIn_31 : decode cX9_countIn 31 = .ok (.iaload, 1) := by decide +kernel
theorem dX9_countIn_32 : decode cX9_countIn 32 = .ok (.ireturn, 1) := by decide +kernel
set_option maxRecDepth 20000 in
theorem ggX9_countIn_X7_countIn : GoodIn wsX9_countIn wsX7_countIn := goodIn_r _ [8, 9, 10, 11, 12, 13, 14, 15, 16, 17, 18, 19] rfl (by decide +kernel)
set_option maxRecDepth 20000 in
theorem gX9_countIn_X7_countIn_s13 : GoodIn wsX9_countIn (va_wsSU RX9 13 yX7_countIn wsX7_countIn) := goodIn_app (goodIn_of _ (by decide +kernel)) ggX9_countIn_X7_countIn
noncomputable def f_X9_countIn_J12 (v2 : Int) (o_figure : Int) : Option (Int) := (f_X7_countIn v2 o_figure).bind (fun r_1 => some r_1)
noncomputable def f_X9_countIn (v2 : Int) (o_figure : Int) (o_stepCount : Int) (o_steps : Int → Int) : Option (Int) := zg (zR o_stepCount) (if o_stepCount ≤ 0 then f_X9_countIn_J12 v2 o_figure else zg (zR v2) (if 1 ≤ v2 then zg ((0 : Int) ≤ (v2 - 1) ∧ (v2 - 1) ≤ (2147483647 : Int) ∧ (0 : Int) < o_stepCount ∧ o_stepCount ≤ (2147483647 : Int)) (zg ((0 : Int) ≤ ((v2 - 1) % o_stepCount) ∧ ((v2 - 1) % o_stepCount) < (8 : Int)) (some (o_steps ((v2 - 1) % o_stepCount)))) else f_X9_countIn_J12 v2 o_figure))
theorem q_X9_countIn_0 : Cond.fieldLink RX9 7 "EachSecondStruck$Standing" "stepCount" "I" ∈ wsX9_countIn := by decide +kernel
theorem q_X9_countIn_1 : Cond.fieldLink RX9 17 "EachSecondStruck$Standing" "steps" "[I" ∈ wsX9_countIn := by decide +kernel
theorem in_X9_countIn_X8 : ∀ w ∈ u_ws RX8 TX8 10, w ∈ wsX9_countIn := by decide +kernel
set_option maxHeartbeats 4000000 in
set_option maxRecDepth 100000 in
theorem c_X9_countIn (l : Launch) (dC : Nat → ClassId) (dI : Nat → Nat → Nat) (cA cN : ClassId) (sz : Nat) (ad_t : Nat) (ad_o : Nat) (ad_o_steps : Nat) (ad_o_line : Nat) (ad_o_gone : Nat) (ad_o_wentIn : Nat) (o_size : Int) (o_there : Int) (o_roundsBy : Int) (o_kind : Int) (o_figure : Int) (o_stepCount : Int) (o_steps : Int → Int) (v2 : Int) (r0 : Int) (h : f_X9_countIn v2 o_figure o_stepCount o_steps = some r0) : Met l yX9_countIn wsX9_countIn { frames := 1, cells := 0, slots := 0, locals := 22 } (zPc (dC, dI) (zT cA cN) [(ad_t, .inr (9, [])), kX8 ad_o ad_o_steps ad_o_line ad_o_gone ad_o_wentIn o_size o_there o_roundsBy o_kind o_figure o_stepCount, kI cA ad_o_steps 8 o_steps] [.ref ad_t, .ref ad_o, .int (zi v2)] sz) (zQi (dC, dI) [(ad_t, .inr (9, [])), kX8 ad_o ad_o_steps ad_o_line ad_o_gone ad_o_wentIn o_size o_there o_roundsBy o_kind o_figure o_stepCount, kI cA ad_o_steps 8 o_steps] r0 (va_A [(ad_t, .inr (9, [])), kX8 ad_o ad_o_steps ad_o_line ad_o_gone ad_o_wentIn o_size o_there o_roundsBy o_kind o_figure o_stepCount, kI cA ad_o_steps 8 o_steps] sz)) 0 0 (va_A [(ad_t, .inr (9, [])), kX8 ad_o ad_o_steps ad_o_line ad_o_gone ad_o_wentIn o_size o_there o_roundsBy o_kind o_figure o_stepCount, kI cA ad_o_steps 8 o_steps] sz) := by
  refine z_ofW (QF := fun A => zQi (dC, dI) [(ad_t, .inr (9, [])), kX8 ad_o ad_o_steps ad_o_line ad_o_gone ad_o_wentIn o_size o_there o_roundsBy o_kind o_figure o_stepCount, kI cA ad_o_steps 8 o_steps] r0 A) (by decide) rfl (Nat.le_of_ble_eq_true rfl) ?_
  intro p e s m below meth c ls A hx hb hml hr hlocks hnm hts hown hK hP hD hE hsz hA hS hl
  have hl : lv_has ls 3 [(0, .ref ad_t), (1, .ref ad_o), (2, .int (zi v2))] := hl
  unfold f_X9_countIn at h
  refine lv_aload_n hx hb dX9_countIn_0 rfl (lv_at hl 1 rfl) ?_
  refine va_get (D := (dC, dI)) (ci := 8) (v := .int (zi o_stepCount)) (C := RX8) (T := TX8) (N := 10) hx hb hts in_X9_countIn_X8 hown hK hP 1 rfl rfl 5 (by decide) (hts _ q_X9_countIn_0) (fun _ h9 => h9) rfl dX9_countIn_1 ?_
  have hj12 : ∀ (H : Heap) (locs : List Loc) (ls : Array Slot), f_X9_countIn_J12 v2 o_figure = some r0 → va_P (dC, dI) vwCl [(ad_t, .inr (9, [])), kX8 ad_o ad_o_steps ad_o_line ad_o_gone ad_o_wentIn o_size o_there o_roundsBy o_kind o_figure o_stepCount, kI cA ad_o_steps 8 o_steps] H → va_D A [(ad_t, .inr (9, [])), kX8 ad_o ad_o_steps ad_o_line ad_o_gone ad_o_wentIn o_size o_there o_roundsBy o_kind o_figure o_stepCount, kI cA ad_o_steps 8 o_steps] → va_S A s.heap H locs → lv_has ls 3 [(0, .ref ad_t), (1, .ref ad_o), (2, .int (zi v2))] → W p l e { frames := 1, cells := 0, slots := 0, locals := 22 } s m ([.ref ad_t, .ref ad_o, .int (zi v2)] : List Value).toArray below meth c H locs 0 0 (MQ below (zQi (dC, dI) [(ad_t, .inr (9, [])), kX8 ad_o ad_o_steps ad_o_line ad_o_gone ad_o_wentIn o_size o_there o_roundsBy o_kind o_figure o_stepCount, kI cA ad_o_steps 8 o_steps] r0 A) ([.ref ad_t, .ref ad_o, .int (zi v2)] : List Value).toArray s 0 0 A) (F0 m 12 ls []) := by
    intro  H locs ls h hP hD hS hl
    unfold f_X9_countIn_J12 at h
    refine lv_aload_n hx hb dX9_countIn_12 rfl (lv_at hl 0 rfl) ?_
    refine lv_aload_n hx hb dX9_countIn_13 rfl (lv_at hl 1 rfl) ?_
    refine lv_iload_n hx hb dX9_countIn_14 rfl (lv_at hl 2 rfl) ?_
    obtain ⟨r_3, hc_4, h⟩ := zb h
    try dsimp only at h
    refine z_calliU (wc := [kX8 ad_o ad_o_steps ad_o_line ad_o_gone ad_o_wentIn o_size o_there o_roundsBy o_kind o_figure o_stepCount]) (wc' := [kX8 ad_o ad_o_steps ad_o_line ad_o_gone ad_o_wentIn o_size o_there o_roundsBy o_kind o_figure o_stepCount]) (ws' := [(ad_t, .inr (9, [])), kX8 ad_o ad_o_steps ad_o_line ad_o_gone ad_o_wentIn o_size o_there o_roundsBy o_kind o_figure o_stepCount, kI cA ad_o_steps 8 o_steps]) (va_runSU (z_classAt hK (ci := 9) rfl) (As := [.ref ad_o, .int (zi v2)]) (rest := []) ⟨hx, hb, hml, hown, hts⟩ (c_X7_countIn l dC dI cA cN _ ad_o ad_o_steps ad_o_line ad_o_gone ad_o_wentIn ad_t o_size o_there o_roundsBy o_kind o_figure o_stepCount v2 r_3 hc_4) (va_cwSU 2 hts gX9_countIn_X7_countIn_s13 rfl rfl rfl (by decide +kernel) ⟨Nat.le_of_ble_eq_true rfl, Nat.le_of_ble_eq_true rfl⟩) (zPc.preV hK hE hP hD [1] rfl rfl (ci := 9) (q0 := 0) rfl rfl) rfl rfl hl.1 rfl (lv_room (Nat.le_of_ble_eq_true rfl)) dX9_countIn_15 ⟨Nat.le_of_ble_eq_true rfl, Nat.le_of_ble_eq_true rfl⟩) hP hD hS hA [1] rfl rfl rfl (fun H locs hP hD hS => ?_)
    cases h
    exact z_iret hx hb hr hlocks hP hD hS dX9_countIn_18
  refine z_if_le (tgt := 12) hx hb dX9_countIn_4 (by decide) h (fun h => ?_) (fun h => ?_)
  · exact hj12 _ _ _ h hP hD hS (lv_sub hl [0, 1, 2] rfl)
  · refine lv_iload_n hx hb dX9_countIn_7 rfl (lv_at hl 2 rfl) ?_
    refine z_iconst hx hb dX9_countIn_8 ?_
    refine z_icmp_ge (tgt := 19) hx hb dX9_countIn_9 (by decide) h (fun q => ⟨q, by decide⟩) (fun h => ?_) (fun h => ?_)
    · refine lv_aload_n hx hb dX9_countIn_19 rfl (lv_at hl 1 rfl) ?_
      refine va_get (D := (dC, dI)) (ci := 8) (v := .ref ad_o_steps) (C := RX8) (T := TX8) (N := 10) hx hb hts in_X9_countIn_X8 hown hK hP 1 rfl rfl 6 (by decide) (hts _ q_X9_countIn_1) (fun _ h9 => h9) rfl dX9_countIn_20 ?_
      refine lv_iload_n hx hb dX9_countIn_23 rfl (lv_at hl 2 rfl) ?_
      refine z_iconst hx hb dX9_countIn_24 ?_
      refine z_isub hx hb dX9_countIn_25 ?_
      refine lv_aload_n hx hb dX9_countIn_26 rfl (lv_at hl 1 rfl) ?_
      refine va_get (D := (dC, dI)) (ci := 8) (v := .int (zi o_stepCount)) (C := RX8) (T := TX8) (N := 10) hx hb hts in_X9_countIn_X8 hown hK hP 1 rfl rfl 5 (by decide) (hts _ q_X9_countIn_0) (fun _ h9 => h9) rfl dX9_countIn_27 ?_
      refine z_irem hx hb dX9_countIn_30 h (fun h => ?_)
      refine z_iald (N := 8) hx hb hK hP 2 0 rfl rfl rfl (by decide) dX9_countIn_31 h (fun h => ?_)
      cases h
      exact z_iret hx hb hr hlocks hP hD hS dX9_countIn_32
    · exact hj12 _ _ _ h hP hD hS (lv_sub hl [0, 1, 2] rfl)
-- X8_closeUp
theorem dX8_closeUp_0 : decode cX8_closeUp 0 = .ok (.iconst 0, 1) := by decide +kernel
theorem dX8_closeUp_1 : decode cX8_closeUp 1 = .ok (.istore_n 1, 1) := by decide +kernel
theorem dX8_closeUp_2 : decode cX8_closeUp 2 = .ok (.iconst 0, 1) := by decide +kernel
theorem dX8_closeUp_3 : decode cX8_closeUp 3 = .ok (.istore_n 2, 1) := by decide +kernel
theorem dX8_closeUp_4 : decode cX8_closeUp 4 = .ok (.iload_n 2, 1) := by decide +kernel
theorem dX8_closeUp_5 : decode cX8_closeUp 5 = .ok (.aload_n 0, 1) := by decide +kernel
theorem dX8_closeUp_6 : decode cX8_closeUp 6 = .ok (.getfield 28, 3) := by decide +kernel
theorem dX8_closeUp_9 : decode cX8_closeUp 9 = .ok (.if_icmp .ge 35, 3) := by decide +kernel
theorem dX8_closeUp_12 : decode cX8_closeUp 12 = .ok (.aload_n 0, 1) := by decide +kernel
theorem dX8_closeUp_13 : decode cX8_closeUp 13 = .ok (.getfield 15, 3) := by decide +kernel
theorem dX8_closeUp_16 : decode cX8_closeUp 16 = .ok (.iload_n 2, 1) := by decide +kernel
theorem dX8_closeUp_17 : decode cX8_closeUp 17 = .ok (.iaload, 1) := by decide +kernel
theorem dX8_closeUp_18 : decode cX8_closeUp 18 = .ok (.istore_n 3, 1) := by decide +kernel
theorem dX8_closeUp_19 : decode cX8_closeUp 19 = .ok (.aload_n 0, 1) := by decide +kernel
theorem dX8_closeUp_20 : decode cX8_closeUp 20 = .ok (.getfield 21, 3) := by decide +kernel
theorem dX8_closeUp_23 : decode cX8_closeUp 23 = .ok (.iload_n 3, 1) := by decide +kernel
theorem dX8_closeUp_24 : decode cX8_closeUp 24 = .ok (.iaload, 1) := by decide +kernel
theorem dX8_closeUp_25 : decode cX8_closeUp 25 = .ok (.ifCond .ne 13, 3) := by decide +kernel
theorem dX8_closeUp_28 : decode cX8_closeUp 28 = .ok (.aload_n 0, 1) := by decide +kernel
theorem dX8_closeUp_29 : decode cX8_closeUp 29 = .ok (.getfield 15, 3) := by decide +kernel
theorem dX8_closeUp_32 : decode cX8_closeUp 32 = .ok (.iload_n 1, 1) := by decide +kernel
theorem dX8_closeUp_33 : decode cX8_closeUp 33 = .ok (.iload_n 3, 1) := by decide +kernel
theorem dX8_closeUp_34 : decode cX8_closeUp 34 = .ok (.iastore, 1) := by decide +kernel
theorem dX8_closeUp_35 : decode cX8_closeUp 35 = .ok (.iinc 1 1, 3) := by decide +kernel
theorem dX8_closeUp_38 : decode cX8_closeUp 38 = .ok (.iinc 2 1, 3) := by decide +kernel
theorem dX8_closeUp_41 : decode cX8_closeUp 41 = .ok (.goto (-37), 3) := by decide +kernel
theorem dX8_closeUp_44 : decode cX8_closeUp 44 = .ok (.aload_n 0, 1) := by decide +kernel
theorem dX8_closeUp_45 : decode cX8_closeUp 45 = .ok (.iload_n 1, 1) := by decide +kernel
theorem dX8_closeUp_46 : decode cX8_closeUp 46 = .ok (.putfield 28, 3) := by decide +kernel
theorem dX8_closeUp_49 : decode cX8_closeUp 49 = .ok (.return_, 1) := by decide +kernel
noncomputable def f_X8_closeUp_L4 : Nat → Int → Int → Int → (Int → Int) → (Int → Int) → Option (Int × (Int → Int))
  | 0, _, _, _, _, _ => none
  | n + 1, v1, v2, t_there, t_line, t_wentIn => zg (zR v2 ∧ zR t_there) (if t_there ≤ v2 then some (v1, t_line) else zg ((0 : Int) ≤ v2 ∧ v2 < (120 : Int)) (zg ((0 : Int) ≤ (t_line v2) ∧ (t_line v2) < (121 : Int)) (zg (zR (t_wentIn (t_line v2))) (if ¬ (t_wentIn (t_line v2)) = 0 then f_X8_closeUp_L4 n v1 (v2 + 1) t_there t_line t_wentIn else zg ((0 : Int) ≤ v1 ∧ v1 < (120 : Int)) (f_X8_closeUp_L4 n (v1 + 1) (v2 + 1) t_there (zup t_line v1 (t_line v2)) t_wentIn)))))
theorem f_X8_closeUp_L4_z (v1 : Int) (v2 : Int) (t_there : Int) (t_line : Int → Int) (t_wentIn : Int → Int) : f_X8_closeUp_L4 0 v1 v2 t_there t_line t_wentIn = none := rfl
theorem f_X8_closeUp_L4_s (n : Nat) (v1 : Int) (v2 : Int) (t_there : Int) (t_line : Int → Int) (t_wentIn : Int → Int) : f_X8_closeUp_L4 (n + 1) v1 v2 t_there t_line t_wentIn = zg (zR v2 ∧ zR t_there) (if t_there ≤ v2 then some (v1, t_line) else zg ((0 : Int) ≤ v2 ∧ v2 < (120 : Int)) (zg ((0 : Int) ≤ (t_line v2) ∧ (t_line v2) < (121 : Int)) (zg (zR (t_wentIn (t_line v2))) (if ¬ (t_wentIn (t_line v2)) = 0 then f_X8_closeUp_L4 n v1 (v2 + 1) t_there t_line t_wentIn else zg ((0 : Int) ≤ v1 ∧ v1 < (120 : Int)) (f_X8_closeUp_L4 n (v1 + 1) (v2 + 1) t_there (zup t_line v1 (t_line v2)) t_wentIn))))) := rfl
noncomputable def f_X8_closeUp (t_there : Int) (t_line : Int → Int) (t_wentIn : Int → Int) : Option (Int × (Int → Int)) := (f_X8_closeUp_L4 zF 0 0 t_there t_line t_wentIn).bind (fun (v1_1, t_line_2) => some (v1_1, t_line_2))
theorem q_X8_closeUp_0 : Cond.fieldLink RX8 28 "EachSecondStruck$Standing" "there" "I" ∈ wsX8_closeUp := by decide +kernel
theorem q_X8_closeUp_1 : Cond.fieldLink RX8 15 "EachSecondStruck$Standing" "line" "[I" ∈ wsX8_closeUp := by decide +kernel
theorem q_X8_closeUp_2 : Cond.fieldLink RX8 21 "EachSecondStruck$Standing" "wentIn" "[I" ∈ wsX8_closeUp := by decide +kernel
theorem in_X8_closeUp_X8 : ∀ w ∈ u_ws RX8 TX8 10, w ∈ wsX8_closeUp := by decide +kernel
set_option maxHeartbeats 4000000 in
set_option maxRecDepth 100000 in
theorem c_X8_closeUp (l : Launch) (dC : Nat → ClassId) (dI : Nat → Nat → Nat) (cA cN : ClassId) (sz : Nat) (ad_t : Nat) (ad_t_steps : Nat) (ad_t_line : Nat) (ad_t_gone : Nat) (ad_t_wentIn : Nat) (t_size : Int) (t_there : Int) (t_roundsBy : Int) (t_kind : Int) (t_figure : Int) (t_stepCount : Int) (t_line : Int → Int) (t_wentIn : Int → Int)  (t_there9 : Int) (t_line9 : Int → Int) (h : f_X8_closeUp t_there t_line t_wentIn = some (t_there9, t_line9)) : Met l yX8_closeUp wsX8_closeUp { frames := 0, cells := 0, slots := 0, locals := 0 } (zPc (dC, dI) (zT cA cN) [kX8 ad_t ad_t_steps ad_t_line ad_t_gone ad_t_wentIn t_size t_there t_roundsBy t_kind t_figure t_stepCount, kI cA ad_t_line 120 t_line, kI cA ad_t_wentIn 121 t_wentIn] [.ref ad_t] sz) (zQv (dC, dI) [kX8 ad_t ad_t_steps ad_t_line ad_t_gone ad_t_wentIn t_size t_there9 t_roundsBy t_kind t_figure t_stepCount, kI cA ad_t_line 120 t_line9, kI cA ad_t_wentIn 121 t_wentIn] (va_A [kX8 ad_t ad_t_steps ad_t_line ad_t_gone ad_t_wentIn t_size t_there t_roundsBy t_kind t_figure t_stepCount, kI cA ad_t_line 120 t_line, kI cA ad_t_wentIn 121 t_wentIn] sz)) 0 0 (va_A [kX8 ad_t ad_t_steps ad_t_line ad_t_gone ad_t_wentIn t_size t_there t_roundsBy t_kind t_figure t_stepCount, kI cA ad_t_line 120 t_line, kI cA ad_t_wentIn 121 t_wentIn] sz) := by
  refine z_ofW (QF := fun A => zQv (dC, dI) [kX8 ad_t ad_t_steps ad_t_line ad_t_gone ad_t_wentIn t_size t_there9 t_roundsBy t_kind t_figure t_stepCount, kI cA ad_t_line 120 t_line9, kI cA ad_t_wentIn 121 t_wentIn] A) (by decide) rfl (Nat.le_of_ble_eq_true rfl) ?_
  intro p e s m below meth c ls A hx hb hml hr hlocks hnm hts hown hK hP hD hE hsz hA hS hl
  have hl : lv_has ls 4 [(0, .ref ad_t)] := hl
  unfold f_X8_closeUp at h
  refine z_iconst hx hb dX8_closeUp_0 ?_
  refine lv_istore_n (lv' := [(1, .int (zi 0)), (0, .ref ad_t)]) hx hb dX8_closeUp_1 rfl hl (by decide) rfl (fun ls hl => ?_)
  refine z_iconst hx hb dX8_closeUp_2 ?_
  refine lv_istore_n (lv' := [(2, .int (zi 0)), (1, .int (zi 0)), (0, .ref ad_t)]) hx hb dX8_closeUp_3 rfl hl (by decide) rfl (fun ls hl => ?_)
  obtain ⟨⟨v1_3, t_line_4⟩, hl_5, h⟩ := zb h
  try dsimp only at h
  have hx4 : ∀ (v1_6 : Int) (t_line_7 : Int → Int) (H : Heap) (locs : List Loc) (ls : Array Slot), some (v1_6, t_line_7) = some (v1_3, t_line_4) → va_P (dC, dI) vwCl [kX8 ad_t ad_t_steps ad_t_line ad_t_gone ad_t_wentIn t_size t_there t_roundsBy t_kind t_figure t_stepCount, kI cA ad_t_line 120 t_line_7, kI cA ad_t_wentIn 121 t_wentIn] H → va_D A [kX8 ad_t ad_t_steps ad_t_line ad_t_gone ad_t_wentIn t_size t_there t_roundsBy t_kind t_figure t_stepCount, kI cA ad_t_line 120 t_line_7, kI cA ad_t_wentIn 121 t_wentIn] → va_S A s.heap H locs → lv_has ls 4 [(0, .ref ad_t), (1, .int (zi v1_6))] → W p l e { frames := 0, cells := 0, slots := 0, locals := 0 } s m ([.ref ad_t] : List Value).toArray below meth c H locs 0 0 (MQ below (zQv (dC, dI) [kX8 ad_t ad_t_steps ad_t_line ad_t_gone ad_t_wentIn t_size t_there9 t_roundsBy t_kind t_figure t_stepCount, kI cA ad_t_line 120 t_line9, kI cA ad_t_wentIn 121 t_wentIn] A) ([.ref ad_t] : List Value).toArray s 0 0 A) (F0 m 44 ls []) := by
    intro v1_6 t_line_7 H locs ls he hP hD hS hl
    obtain ⟨rfl, rfl⟩ := zinj2 he
    refine lv_aload_n hx hb dX8_closeUp_44 rfl (lv_at hl 0 rfl) ?_
    refine lv_iload_n hx hb dX8_closeUp_45 rfl (lv_at hl 1 rfl) ?_
    refine va_put (D := (dC, dI)) (ci := 8) (v := .int (zi v1_3)) (ty := .int) (C := RX8) (T := TX8) (N := 10) hx hb hts in_X8_closeUp_X8 tyX8 tyX8_ok nmX8 hown hK hP hD hS 0 rfl rfl 1 (by decide) (hts _ q_X8_closeUp_0) (fun _ h9 => h9) rfl (by decide +kernel) rfl rfl (Nat.le_of_ble_eq_true rfl) dX8_closeUp_46 (fun H locs hP hD hS => ?_)
    have hP : va_P (dC, dI) vwCl [kX8 ad_t ad_t_steps ad_t_line ad_t_gone ad_t_wentIn t_size v1_3 t_roundsBy t_kind t_figure t_stepCount, kI cA ad_t_line 120 t_line_4, kI cA ad_t_wentIn 121 t_wentIn] H := hP
    have hD : va_D A [kX8 ad_t ad_t_steps ad_t_line ad_t_gone ad_t_wentIn t_size v1_3 t_roundsBy t_kind t_figure t_stepCount, kI cA ad_t_line 120 t_line_4, kI cA ad_t_wentIn 121 t_wentIn] := hD
    cases h
    exact z_vret hx hb hr hlocks hP hD hS dX8_closeUp_49
  clear h
  have hlp4 : ∀ (n : Nat) (v1_8 : Int) (v2_9 : Int) (t_line_10 : Int → Int) (H : Heap) (locs : List Loc) (ls : Array Slot), f_X8_closeUp_L4 n v1_8 v2_9 t_there t_line_10 t_wentIn = some (v1_3, t_line_4) → va_P (dC, dI) vwCl [kX8 ad_t ad_t_steps ad_t_line ad_t_gone ad_t_wentIn t_size t_there t_roundsBy t_kind t_figure t_stepCount, kI cA ad_t_line 120 t_line_10, kI cA ad_t_wentIn 121 t_wentIn] H → va_D A [kX8 ad_t ad_t_steps ad_t_line ad_t_gone ad_t_wentIn t_size t_there t_roundsBy t_kind t_figure t_stepCount, kI cA ad_t_line 120 t_line_10, kI cA ad_t_wentIn 121 t_wentIn] → va_S A s.heap H locs → lv_has ls 4 [(0, .ref ad_t), (1, .int (zi v1_8)), (2, .int (zi v2_9))] → W p l e { frames := 0, cells := 0, slots := 0, locals := 0 } s m ([.ref ad_t] : List Value).toArray below meth c H locs 0 0 (MQ below (zQv (dC, dI) [kX8 ad_t ad_t_steps ad_t_line ad_t_gone ad_t_wentIn t_size t_there9 t_roundsBy t_kind t_figure t_stepCount, kI cA ad_t_line 120 t_line9, kI cA ad_t_wentIn 121 t_wentIn] A) ([.ref ad_t] : List Value).toArray s 0 0 A) (F0 m 4 ls []) := by
    intro n
    induction n with
    | zero => intro v1_8 v2_9 t_line_10 H locs ls h; rw [f_X8_closeUp_L4_z] at h; cases h
    | succ n ih4 =>
      intro v1_8 v2_9 t_line_10 H locs ls h hP hD hS hl
      rw [f_X8_closeUp_L4_s] at h
      refine lv_iload_n hx hb dX8_closeUp_4 rfl (lv_at hl 2 rfl) ?_
      refine lv_aload_n hx hb dX8_closeUp_5 rfl (lv_at hl 0 rfl) ?_
      refine va_get (D := (dC, dI)) (ci := 8) (v := .int (zi t_there)) (C := RX8) (T := TX8) (N := 10) hx hb hts in_X8_closeUp_X8 hown hK hP 0 rfl rfl 1 (by decide) (hts _ q_X8_closeUp_0) (fun _ h9 => h9) rfl dX8_closeUp_6 ?_
      refine z_icmp_ge (tgt := 44) hx hb dX8_closeUp_9 (by decide) h (fun q => q) (fun h => ?_) (fun h => ?_)
      · exact hx4 _ _ _ _ _ h hP hD hS (lv_sub hl [0, 1] rfl)
      · refine lv_aload_n hx hb dX8_closeUp_12 rfl (lv_at hl 0 rfl) ?_
        refine va_get (D := (dC, dI)) (ci := 8) (v := .ref ad_t_line) (C := RX8) (T := TX8) (N := 10) hx hb hts in_X8_closeUp_X8 hown hK hP 0 rfl rfl 7 (by decide) (hts _ q_X8_closeUp_1) (fun _ h9 => h9) rfl dX8_closeUp_13 ?_
        refine lv_iload_n hx hb dX8_closeUp_16 rfl (lv_at hl 2 rfl) ?_
        refine z_iald (N := 120) hx hb hK hP 1 0 rfl rfl rfl (by decide) dX8_closeUp_17 h (fun h => ?_)
        refine lv_istore_n (lv' := [(3, .int (zi (t_line_10 v2_9))), (0, .ref ad_t), (1, .int (zi v1_8)), (2, .int (zi v2_9))]) hx hb dX8_closeUp_18 rfl hl (by decide) rfl (fun ls hl => ?_)
        refine lv_aload_n hx hb dX8_closeUp_19 rfl (lv_at hl 1 rfl) ?_
        refine va_get (D := (dC, dI)) (ci := 8) (v := .ref ad_t_wentIn) (C := RX8) (T := TX8) (N := 10) hx hb hts in_X8_closeUp_X8 hown hK hP 0 rfl rfl 9 (by decide) (hts _ q_X8_closeUp_2) (fun _ h9 => h9) rfl dX8_closeUp_20 ?_
        refine lv_iload_n hx hb dX8_closeUp_23 rfl (lv_at hl 0 rfl) ?_
        refine z_iald (N := 121) hx hb hK hP 2 0 rfl rfl rfl (by decide) dX8_closeUp_24 h (fun h => ?_)
        refine z_if_ne (tgt := 38) hx hb dX8_closeUp_25 (by decide) h (fun h => ?_) (fun h => ?_)
        · refine z_iinc (lv' := [(2, .int (zi (v2_9 + 1))), (3, .int (zi (t_line_10 v2_9))), (0, .ref ad_t), (1, .int (zi v1_8))]) hx hb dX8_closeUp_38 hl (k := 3) rfl (by decide) rfl (fun ls hl => ?_)
          refine lv_goto (tgt := 4) hx hb dX8_closeUp_41 (by decide) ?_
          exact ih4 _ _ _ _ _ _ h hP hD hS (lv_sub hl [2, 3, 0] rfl)
        · refine lv_aload_n hx hb dX8_closeUp_28 rfl (lv_at hl 1 rfl) ?_
          refine va_get (D := (dC, dI)) (ci := 8) (v := .ref ad_t_line) (C := RX8) (T := TX8) (N := 10) hx hb hts in_X8_closeUp_X8 hown hK hP 0 rfl rfl 7 (by decide) (hts _ q_X8_closeUp_1) (fun _ h9 => h9) rfl dX8_closeUp_29 ?_
          refine lv_iload_n hx hb dX8_closeUp_32 rfl (lv_at hl 2 rfl) ?_
          refine lv_iload_n hx hb dX8_closeUp_33 rfl (lv_at hl 0 rfl) ?_
          refine z_iast (N := 120) hx hb hK hP hD hS 1 0 rfl rfl rfl (by decide) dX8_closeUp_34 h (fun h H locs hP hD hS => ?_)
          have hP : va_P (dC, dI) vwCl [kX8 ad_t ad_t_steps ad_t_line ad_t_gone ad_t_wentIn t_size t_there t_roundsBy t_kind t_figure t_stepCount, kI cA ad_t_line 120 (zup t_line_10 v1_8 (t_line_10 v2_9)), kI cA ad_t_wentIn 121 t_wentIn] H := hP
          have hD : va_D A [kX8 ad_t ad_t_steps ad_t_line ad_t_gone ad_t_wentIn t_size t_there t_roundsBy t_kind t_figure t_stepCount, kI cA ad_t_line 120 (zup t_line_10 v1_8 (t_line_10 v2_9)), kI cA ad_t_wentIn 121 t_wentIn] := hD
          refine z_iinc (lv' := [(1, .int (zi (v1_8 + 1))), (3, .int (zi (t_line_10 v2_9))), (0, .ref ad_t), (2, .int (zi v2_9))]) hx hb dX8_closeUp_35 hl (k := 2) rfl (by decide) rfl (fun ls hl => ?_)
          refine z_iinc (lv' := [(2, .int (zi (v2_9 + 1))), (1, .int (zi (v1_8 + 1))), (3, .int (zi (t_line_10 v2_9))), (0, .ref ad_t)]) hx hb dX8_closeUp_38 hl (k := 3) rfl (by decide) rfl (fun ls hl => ?_)
          refine lv_goto (tgt := 4) hx hb dX8_closeUp_41 (by decide) ?_
          exact ih4 _ _ _ _ _ _ h hP hD hS (lv_sub hl [3, 1, 0] rfl)
  exact hlp4 zF _ _ _ _ _ _ hl_5 hP hD hS (lv_sub hl [2, 1, 0] rfl)
-- X8_strike
theorem dX8_strike_0 : decode cX8_strike 0 = .ok (.aload_n 0, 1) := by decide +kernel
theorem dX8_strike_1 : decode cX8_strike 1 = .ok (.dup, 1) := by decide +kernel
theorem dX8_strike_2 : decode cX8_strike 2 = .ok (.getfield 31, 3) := by decide +kernel
theorem dX8_strike_5 : decode cX8_strike 5 = .ok (.iconst 1, 1) := by decide +kernel
theorem dX8_strike_6 : decode cX8_strike 6 = .ok (.iadd, 1) := by decide +kernel
theorem dX8_strike_7 : decode cX8_strike 7 = .ok (.putfield 31, 3) := by decide +kernel
theorem dX8_strike_10 : decode cX8_strike 10 = .ok (.aload_n 0, 1) := by decide +kernel
theorem dX8_strike_11 : decode cX8_strike 11 = .ok (.getfield 28, 3) := by decide +kernel
theorem dX8_strike_14 : decode cX8_strike 14 = .ok (.istore 4, 2) := by decide +kernel
theorem dX8_strike_16 : decode cX8_strike 16 = .ok (.iload_n 1, 1) := by decide +kernel
theorem dX8_strike_17 : decode cX8_strike 17 = .ok (.iconst 1, 1) := by decide +kernel
theorem dX8_strike_18 : decode cX8_strike 18 = .ok (.invokestatic 82, 3) := by decide +kernel
theorem dX8_strike_21 : decode cX8_strike 21 = .ok (.istore 5, 2) := by decide +kernel
theorem dX8_strike_23 : decode cX8_strike 23 = .ok (.aload_n 0, 1) := by decide +kernel
theorem dX8_strike_24 : decode cX8_strike 24 = .ok (.invokevirtual 88, 3) := by decide +kernel
theorem dX8_strike_27 : decode cX8_strike 27 = .ok (.istore 6, 2) := by decide +kernel
theorem dX8_strike_29 : decode cX8_strike 29 = .ok (.iload_n 2, 1) := by decide +kernel
theorem dX8_strike_30 : decode cX8_strike 30 = .ok (.iconst 1, 1) := by decide +kernel
theorem dX8_strike_31 : decode cX8_strike 31 = .ok (.invokestatic 82, 3) := by decide +kernel
theorem dX8_strike_34 : decode cX8_strike 34 = .ok (.istore 7, 2) := by decide +kernel
theorem dX8_strike_36 : decode cX8_strike 36 = .ok (.iload 7, 2) := by decide +kernel
theorem dX8_strike_38 : decode cX8_strike 38 = .ok (.iload 4, 2) := by decide +kernel
theorem dX8_strike_40 : decode cX8_strike 40 = .ok (.if_icmp .gt 63, 3) := by decide +kernel
theorem dX8_strike_43 : decode cX8_strike 43 = .ok (.iload_n 3, 1) := by decide +kernel
theorem dX8_strike_44 : decode cX8_strike 44 = .ok (.ifCond .eq 11, 3) := by decide +kernel
theorem dX8_strike_47 : decode cX8_strike 47 = .ok (.iload 4, 2) := by decide +kernel
theorem dX8_strike_49 : decode cX8_strike 49 = .ok (.iload 7, 2) := by decide +kernel
theorem dX8_strike_51 : decode cX8_strike 51 = .ok (.isub, 1) := by decide +kernel
theorem dX8_strike_52 : decode cX8_strike 52 = .ok (.goto 7, 3) := by decide +kernel
theorem dX8_strike_55 : decode cX8_strike 55 = .ok (.iload 7, 2) := by decide +kernel
theorem dX8_strike_57 : decode cX8_strike 57 = .ok (.iconst 1, 1) := by decide +kernel
theorem dX8_strike_58 : decode cX8_strike 58 = .ok (.isub, 1) := by decide +kernel
theorem dX8_strike_59 : decode cX8_strike 59 = .ok (.istore 8, 2) := by decide +kernel
theorem dX8_strike_61 : decode cX8_strike 61 = .ok (.aload_n 0, 1) := by decide +kernel
theorem dX8_strike_62 : decode cX8_strike 62 = .ok (.getfield 15, 3) := by decide +kernel
theorem dX8_strike_65 : decode cX8_strike 65 = .ok (.iload 8, 2) := by decide +kernel
theorem dX8_strike_67 : decode cX8_strike 67 = .ok (.iaload, 1) := by decide +kernel
theorem dX8_strike_68 : decode cX8_strike 68 = .ok (.istore 9, 2) := by decide +kernel
theorem dX8_strike_70 : decode cX8_strike 70 = .ok (.aload_n 0, 1) := by decide +kernel
theorem dX8_strike_71 : decode cX8_strike 71 = .ok (.getfield 21, 3) := by decide +kernel
theorem dX8_strike_74 : decode cX8_strike 74 = .ok (.iload 9, 2) := by decide +kernel
theorem dX8_strike_76 : decode cX8_strike 76 = .ok (.aload_n 0, 1) := by decide +kernel
theorem dX8_strike_77 : decode cX8_strike 77 = .ok (.getfield 31, 3) := by decide +kernel
theorem dX8_strike_80 : decode cX8_strike 80 = .ok (.iastore, 1) := by decide +kernel
theorem dX8_strike_81 : decode cX8_strike 81 = .ok (.aload_n 0, 1) := by decide +kernel
theorem dX8_strike_82 : decode cX8_strike 82 = .ok (.getfield 18, 3) := by decide +kernel
theorem dX8_strike_85 : decode cX8_strike 85 = .ok (.iload 6, 2) := by decide +kernel
theorem dX8_strike_87 : decode cX8_strike 87 = .ok (.iload 9, 2) := by decide +kernel
theorem dX8_strike_89 : decode cX8_strike 89 = .ok (.iastore, 1) := by decide +kernel
theorem dX8_strike_90 : decode cX8_strike 90 = .ok (.iinc 6 1, 3) := by decide +kernel
theorem dX8_strike_93 : decode cX8_strike 93 = .ok (.iload 7, 2) := by decide +kernel
theorem dX8_strike_95 : decode cX8_strike 95 = .ok (.iload 5, 2) := by decide +kernel
theorem dX8_strike_97 : decode cX8_strike 97 = .ok (.iadd, 1) := by decide +kernel
theorem dX8_strike_98 : decode cX8_strike 98 = .ok (.istore 7, 2) := by decide +kernel
theorem dX8_strike_100 : decode cX8_strike 100 = .ok (.goto (-64), 3) := by decide +kernel
theorem dX8_strike_103 : decode cX8_strike 103 = .ok (.aload_n 0, 1) := by decide +kernel
theorem dX8_strike_104 : decode cX8_strike 104 = .ok (.invokevirtual 92, 3) := by decide +kernel
theorem dX8_strike_107 : decode cX8_strike 107 = .ok (.iload 4, 2) := by decide +kernel
theorem dX8_strike_109 : decode cX8_strike 109 = .ok (.aload_n 0, 1) := by decide +kernel
theorem dX8_strike_110 : decode cX8_strike 110 = .ok (.getfield 28, 3) := by decide +kernel
theorem dX8_strike_113 : decode cX8_strike 113 = .ok (.isub, 1) := by decide +kernel
theorem dX8_strike_114 : decode cX8_strike 114 = .ok (.ireturn, 1) := by decide +kernel
set_option maxRecDepth 20000 in
theorem ggX8_strike_X8_goneCount : GoodIn wsX8_strike wsX8_goneCount := goodIn_r _ [14, 15, 2, 20, 21, 22, 23, 24, 25, 26, 27, 28, 29] rfl (by decide +kernel)
set_option maxRecDepth 20000 in
theorem gX8_strike_X8_goneCount : GoodIn wsX8_strike (wsV RX8 88 RX8 yX8_goneCount wsX8_goneCount) := goodIn_app (goodIn_of _ (by decide +kernel)) ggX8_strike_X8_goneCount
set_option maxRecDepth 20000 in
theorem ggX8_strike_X8_closeUp : GoodIn wsX8_strike wsX8_closeUp := goodIn_r _ [19, 2, 7, 8, 20, 21, 22, 23, 24, 25, 26, 27, 28, 29] rfl (by decide +kernel)
set_option maxRecDepth 20000 in
theorem gX8_strike_X8_closeUp : GoodIn wsX8_strike (wsV RX8 92 RX8 yX8_closeUp wsX8_closeUp) := goodIn_app (goodIn_of _ (by decide +kernel)) ggX8_strike_X8_closeUp
noncomputable def f_X8_strike_J59 (ag : Int → Int → Int → Int → Int → Int → (Int → Int) → (Int → Int) → (Int → Int) → Option ((Int → Int) × (Int → Int))) (v3 : Int) (v4 : Int) (v5 : Int) (v6 : Int) (v7 : Int) (s0 : Int) (t_roundsBy : Int) (t_line : Int → Int) (t_gone : Int → Int) (t_wentIn : Int → Int) : Option ((Int → Int) × (Int → Int)) := zg ((0 : Int) ≤ s0 ∧ s0 < (120 : Int)) (zg ((0 : Int) ≤ (t_line s0) ∧ (t_line s0) < (121 : Int)) (zg ((0 : Int) ≤ v6 ∧ v6 < (120 : Int)) (ag v3 v4 v5 (v6 + 1) (v7 + v5) t_roundsBy t_line (zup t_gone v6 (t_line s0)) (zup t_wentIn (t_line s0) t_roundsBy))))
noncomputable def f_X8_strike_L36 : Nat → Int → Int → Int → Int → Int → Int → (Int → Int) → (Int → Int) → (Int → Int) → Option ((Int → Int) × (Int → Int))
  | 0, _, _, _, _, _, _, _, _, _ => none
  | n + 1, v3, v4, v5, v6, v7, t_roundsBy, t_line, t_gone, t_wentIn => zg (zR v7 ∧ zR v4) (if v4 < v7 then some (t_gone, t_wentIn) else zg (zR v3) (if v3 = 0 then f_X8_strike_J59 (f_X8_strike_L36 n) v3 v4 v5 v6 v7 (v7 - 1) t_roundsBy t_line t_gone t_wentIn else f_X8_strike_J59 (f_X8_strike_L36 n) v3 v4 v5 v6 v7 (v4 - v7) t_roundsBy t_line t_gone t_wentIn))
theorem f_X8_strike_L36_z (v3 : Int) (v4 : Int) (v5 : Int) (v6 : Int) (v7 : Int) (t_roundsBy : Int) (t_line : Int → Int) (t_gone : Int → Int) (t_wentIn : Int → Int) : f_X8_strike_L36 0 v3 v4 v5 v6 v7 t_roundsBy t_line t_gone t_wentIn = none := rfl
theorem f_X8_strike_L36_s (n : Nat) (v3 : Int) (v4 : Int) (v5 : Int) (v6 : Int) (v7 : Int) (t_roundsBy : Int) (t_line : Int → Int) (t_gone : Int → Int) (t_wentIn : Int → Int) : f_X8_strike_L36 (n + 1) v3 v4 v5 v6 v7 t_roundsBy t_line t_gone t_wentIn = zg (zR v7 ∧ zR v4) (if v4 < v7 then some (t_gone, t_wentIn) else zg (zR v3) (if v3 = 0 then f_X8_strike_J59 (f_X8_strike_L36 n) v3 v4 v5 v6 v7 (v7 - 1) t_roundsBy t_line t_gone t_wentIn else f_X8_strike_J59 (f_X8_strike_L36 n) v3 v4 v5 v6 v7 (v4 - v7) t_roundsBy t_line t_gone t_wentIn)) := rfl
noncomputable def f_X8_strike (v1 : Int) (v2 : Int) (v3 : Int) (t_size : Int) (t_there : Int) (t_roundsBy : Int) (t_line : Int → Int) (t_gone : Int → Int) (t_wentIn : Int → Int) : Option (Int × Int × Int × (Int → Int) × (Int → Int) × (Int → Int)) := zg (zR v1 ∧ zR 1) ((f_X8_goneCount t_size t_there).bind (fun r_1 => zg (zR v2 ∧ zR 1) ((f_X8_strike_L36 zF v3 t_there (if v1 < 1 then 1 else v1) r_1 (if v2 < 1 then 1 else v2) (t_roundsBy + 1) t_line t_gone t_wentIn).bind (fun (t_gone_3, t_wentIn_4) => (f_X8_closeUp t_there t_line t_wentIn_4).bind (fun (t_there_5, t_line_6) => some ((t_there - t_there_5), t_there_5, (t_roundsBy + 1), t_line_6, t_gone_3, t_wentIn_4))))))
theorem q_X8_strike_0 : Cond.fieldLink RX8 31 "EachSecondStruck$Standing" "roundsBy" "I" ∈ wsX8_strike := by decide +kernel
theorem q_X8_strike_1 : Cond.fieldLink RX8 28 "EachSecondStruck$Standing" "there" "I" ∈ wsX8_strike := by decide +kernel
theorem q_X8_strike_2 : Cond.methodLink RX8 82 Lib.Math.max.name ∈ wsX8_strike := by decide +kernel
theorem q_X8_strike_3 : Cond.static Lib.Math.max.name ∈ wsX8_strike := by decide +kernel
theorem q_X8_strike_4 : Cond.initialized "java/lang/Math" ∈ wsX8_strike := by decide +kernel
theorem q_X8_strike_5 : Cond.code Lib.Math.max.name Lib.Math.max.code 2 (some .int) ∈ wsX8_strike := by decide +kernel
theorem q_X8_strike_6 : Cond.fieldLink RX8 15 "EachSecondStruck$Standing" "line" "[I" ∈ wsX8_strike := by decide +kernel
theorem q_X8_strike_7 : Cond.fieldLink RX8 21 "EachSecondStruck$Standing" "wentIn" "[I" ∈ wsX8_strike := by decide +kernel
theorem q_X8_strike_8 : Cond.fieldLink RX8 18 "EachSecondStruck$Standing" "gone" "[I" ∈ wsX8_strike := by decide +kernel
theorem in_X8_strike_X8 : ∀ w ∈ u_ws RX8 TX8 10, w ∈ wsX8_strike := by decide +kernel
set_option maxHeartbeats 4000000 in
set_option maxRecDepth 100000 in
theorem c_X8_strike (l : Launch) (dC : Nat → ClassId) (dI : Nat → Nat → Nat) (cA cN : ClassId) (sz : Nat) (ad_t : Nat) (ad_t_steps : Nat) (ad_t_line : Nat) (ad_t_gone : Nat) (ad_t_wentIn : Nat) (t_size : Int) (t_there : Int) (t_roundsBy : Int) (t_kind : Int) (t_figure : Int) (t_stepCount : Int) (t_gone : Int → Int) (t_line : Int → Int) (t_wentIn : Int → Int) (v1 : Int) (v2 : Int) (v3 : Int) (r0 : Int) (t_there9 : Int) (t_roundsBy9 : Int) (t_line9 : Int → Int) (t_gone9 : Int → Int) (t_wentIn9 : Int → Int) (h : f_X8_strike v1 v2 v3 t_size t_there t_roundsBy t_line t_gone t_wentIn = some (r0, t_there9, t_roundsBy9, t_line9, t_gone9, t_wentIn9)) : Met l yX8_strike wsX8_strike { frames := 1, cells := 0, slots := 0, locals := 23 } (zPc (dC, dI) (zT cA cN) [kX8 ad_t ad_t_steps ad_t_line ad_t_gone ad_t_wentIn t_size t_there t_roundsBy t_kind t_figure t_stepCount, kI cA ad_t_line 120 t_line, kI cA ad_t_gone 120 t_gone, kI cA ad_t_wentIn 121 t_wentIn] [.ref ad_t, .int (zi v1), .int (zi v2), .int (zi v3)] sz) (zQi (dC, dI) [kX8 ad_t ad_t_steps ad_t_line ad_t_gone ad_t_wentIn t_size t_there9 t_roundsBy9 t_kind t_figure t_stepCount, kI cA ad_t_line 120 t_line9, kI cA ad_t_gone 120 t_gone9, kI cA ad_t_wentIn 121 t_wentIn9] r0 (va_A [kX8 ad_t ad_t_steps ad_t_line ad_t_gone ad_t_wentIn t_size t_there t_roundsBy t_kind t_figure t_stepCount, kI cA ad_t_line 120 t_line, kI cA ad_t_gone 120 t_gone, kI cA ad_t_wentIn 121 t_wentIn] sz)) 0 0 (va_A [kX8 ad_t ad_t_steps ad_t_line ad_t_gone ad_t_wentIn t_size t_there t_roundsBy t_kind t_figure t_stepCount, kI cA ad_t_line 120 t_line, kI cA ad_t_gone 120 t_gone, kI cA ad_t_wentIn 121 t_wentIn] sz) := by
  refine z_ofW (QF := fun A => zQi (dC, dI) [kX8 ad_t ad_t_steps ad_t_line ad_t_gone ad_t_wentIn t_size t_there9 t_roundsBy9 t_kind t_figure t_stepCount, kI cA ad_t_line 120 t_line9, kI cA ad_t_gone 120 t_gone9, kI cA ad_t_wentIn 121 t_wentIn9] r0 A) (by decide) rfl (Nat.le_of_ble_eq_true rfl) ?_
  intro p e s m below meth c ls A hx hb hml hr hlocks hnm hts hown hK hP hD hE hsz hA hS hl
  have hl : lv_has ls 10 [(0, .ref ad_t), (1, .int (zi v1)), (2, .int (zi v2)), (3, .int (zi v3))] := hl
  unfold f_X8_strike at h
  refine lv_aload_n hx hb dX8_strike_0 rfl (lv_at hl 0 rfl) ?_
  refine lv_dup hx hb dX8_strike_1 rfl ?_
  refine va_get (D := (dC, dI)) (ci := 8) (v := .int (zi t_roundsBy)) (C := RX8) (T := TX8) (N := 10) hx hb hts in_X8_strike_X8 hown hK hP 0 rfl rfl 2 (by decide) (hts _ q_X8_strike_0) (fun _ h9 => h9) rfl dX8_strike_2 ?_
  refine z_iconst hx hb dX8_strike_5 ?_
  refine z_iadd hx hb dX8_strike_6 ?_
  refine va_put (D := (dC, dI)) (ci := 8) (v := .int (zi (t_roundsBy + 1))) (ty := .int) (C := RX8) (T := TX8) (N := 10) hx hb hts in_X8_strike_X8 tyX8 tyX8_ok nmX8 hown hK hP hD hS 0 rfl rfl 2 (by decide) (hts _ q_X8_strike_0) (fun _ h9 => h9) rfl (by decide +kernel) rfl rfl (Nat.le_of_ble_eq_true rfl) dX8_strike_7 (fun H locs hP hD hS => ?_)
  have hP : va_P (dC, dI) vwCl [kX8 ad_t ad_t_steps ad_t_line ad_t_gone ad_t_wentIn t_size t_there (t_roundsBy + 1) t_kind t_figure t_stepCount, kI cA ad_t_line 120 t_line, kI cA ad_t_gone 120 t_gone, kI cA ad_t_wentIn 121 t_wentIn] H := hP
  have hD : va_D A [kX8 ad_t ad_t_steps ad_t_line ad_t_gone ad_t_wentIn t_size t_there (t_roundsBy + 1) t_kind t_figure t_stepCount, kI cA ad_t_line 120 t_line, kI cA ad_t_gone 120 t_gone, kI cA ad_t_wentIn 121 t_wentIn] := hD
  refine lv_aload_n hx hb dX8_strike_10 rfl (lv_at hl 0 rfl) ?_
  refine va_get (D := (dC, dI)) (ci := 8) (v := .int (zi t_there)) (C := RX8) (T := TX8) (N := 10) hx hb hts in_X8_strike_X8 hown hK hP 0 rfl rfl 1 (by decide) (hts _ q_X8_strike_1) (fun _ h9 => h9) rfl dX8_strike_11 ?_
  refine lv_istore (lv' := [(4, .int (zi t_there)), (0, .ref ad_t), (1, .int (zi v1)), (2, .int (zi v2)), (3, .int (zi v3))]) hx hb dX8_strike_14 hl (by decide) rfl (fun ls hl => ?_)
  refine lv_iload_n hx hb dX8_strike_16 rfl (lv_at hl 2 rfl) ?_
  refine z_iconst hx hb dX8_strike_17 ?_
  refine z_mmax hx hb (hml.trans hl.1.symm) hown (hts _ q_X8_strike_2) (hts _ q_X8_strike_3) (hts _ q_X8_strike_4) (hts _ q_X8_strike_5) (Nat.le_of_ble_eq_true rfl) (Nat.le_of_ble_eq_true rfl) (Nat.le_of_ble_eq_true rfl) (Nat.le_of_ble_eq_true rfl) dX8_strike_18 h (fun h => ?_)
  refine lv_istore (lv' := [(5, .int (zi (if v1 < 1 then 1 else v1))), (4, .int (zi t_there)), (0, .ref ad_t), (1, .int (zi v1)), (2, .int (zi v2)), (3, .int (zi v3))]) hx hb dX8_strike_21 hl (by decide) rfl (fun ls hl => ?_)
  refine lv_aload_n hx hb dX8_strike_23 rfl (lv_at hl 2 rfl) ?_
  obtain ⟨r_8, hc_9, h⟩ := zb h
  try dsimp only at h
  refine z_calliU (wc := [kX8 ad_t ad_t_steps ad_t_line ad_t_gone ad_t_wentIn t_size t_there (t_roundsBy + 1) t_kind t_figure t_stepCount]) (wc' := [kX8 ad_t ad_t_steps ad_t_line ad_t_gone ad_t_wentIn t_size t_there (t_roundsBy + 1) t_kind t_figure t_stepCount]) (ws' := [kX8 ad_t ad_t_steps ad_t_line ad_t_gone ad_t_wentIn t_size t_there (t_roundsBy + 1) t_kind t_figure t_stepCount, kI cA ad_t_line 120 t_line, kI cA ad_t_gone 120 t_gone, kI cA ad_t_wentIn 121 t_wentIn]) (va_runV (As := []) (rest := []) ⟨hx, hb, hml, hown, hts⟩ (c_X8_goneCount l dC dI cA cN _ ad_t ad_t_steps ad_t_line ad_t_gone ad_t_wentIn t_size t_there (t_roundsBy + 1) t_kind t_figure t_stepCount r_8 hc_9) (cwV 0 hts gX8_strike_X8_goneCount rfl rfl rfl (by decide +kernel) ⟨Nat.le_of_ble_eq_true rfl, Nat.le_of_ble_eq_true rfl⟩) (zPc.preV hK hE hP hD [0] rfl rfl (ci := 8) (q0 := 0) rfl rfl) rfl rfl hl.1 rfl (lv_room (Nat.le_of_ble_eq_true rfl)) dX8_strike_24 ⟨Nat.le_of_ble_eq_true rfl, Nat.le_of_ble_eq_true rfl⟩) hP hD hS hA [0] rfl rfl rfl (fun H locs hP hD hS => ?_)
  refine lv_istore (lv' := [(6, .int (zi r_8)), (5, .int (zi (if v1 < 1 then 1 else v1))), (4, .int (zi t_there)), (0, .ref ad_t), (1, .int (zi v1)), (2, .int (zi v2)), (3, .int (zi v3))]) hx hb dX8_strike_27 hl (by decide) rfl (fun ls hl => ?_)
  refine lv_iload_n hx hb dX8_strike_29 rfl (lv_at hl 5 rfl) ?_
  refine z_iconst hx hb dX8_strike_30 ?_
  refine z_mmax hx hb (hml.trans hl.1.symm) hown (hts _ q_X8_strike_2) (hts _ q_X8_strike_3) (hts _ q_X8_strike_4) (hts _ q_X8_strike_5) (Nat.le_of_ble_eq_true rfl) (Nat.le_of_ble_eq_true rfl) (Nat.le_of_ble_eq_true rfl) (Nat.le_of_ble_eq_true rfl) dX8_strike_31 h (fun h => ?_)
  refine lv_istore (lv' := [(7, .int (zi (if v2 < 1 then 1 else v2))), (6, .int (zi r_8)), (5, .int (zi (if v1 < 1 then 1 else v1))), (4, .int (zi t_there)), (0, .ref ad_t), (1, .int (zi v1)), (2, .int (zi v2)), (3, .int (zi v3))]) hx hb dX8_strike_34 hl (by decide) rfl (fun ls hl => ?_)
  obtain ⟨⟨t_gone_10, t_wentIn_11⟩, hl_12, h⟩ := zb h
  try dsimp only at h
  have hx36 : ∀ (t_gone_13 : Int → Int) (t_wentIn_14 : Int → Int) (H : Heap) (locs : List Loc) (ls : Array Slot), some (t_gone_13, t_wentIn_14) = some (t_gone_10, t_wentIn_11) → va_P (dC, dI) vwCl [kX8 ad_t ad_t_steps ad_t_line ad_t_gone ad_t_wentIn t_size t_there (t_roundsBy + 1) t_kind t_figure t_stepCount, kI cA ad_t_line 120 t_line, kI cA ad_t_gone 120 t_gone_13, kI cA ad_t_wentIn 121 t_wentIn_14] H → va_D A [kX8 ad_t ad_t_steps ad_t_line ad_t_gone ad_t_wentIn t_size t_there (t_roundsBy + 1) t_kind t_figure t_stepCount, kI cA ad_t_line 120 t_line, kI cA ad_t_gone 120 t_gone_13, kI cA ad_t_wentIn 121 t_wentIn_14] → va_S A s.heap H locs → lv_has ls 10 [(0, .ref ad_t), (4, .int (zi t_there))] → W p l e { frames := 1, cells := 0, slots := 0, locals := 23 } s m ([.ref ad_t, .int (zi v1), .int (zi v2), .int (zi v3)] : List Value).toArray below meth c H locs 0 0 (MQ below (zQi (dC, dI) [kX8 ad_t ad_t_steps ad_t_line ad_t_gone ad_t_wentIn t_size t_there9 t_roundsBy9 t_kind t_figure t_stepCount, kI cA ad_t_line 120 t_line9, kI cA ad_t_gone 120 t_gone9, kI cA ad_t_wentIn 121 t_wentIn9] r0 A) ([.ref ad_t, .int (zi v1), .int (zi v2), .int (zi v3)] : List Value).toArray s 0 0 A) (F0 m 103 ls []) := by
    intro t_gone_13 t_wentIn_14 H locs ls he hP hD hS hl
    obtain ⟨rfl, rfl⟩ := zinj2 he
    refine lv_aload_n hx hb dX8_strike_103 rfl (lv_at hl 0 rfl) ?_
    obtain ⟨⟨t_there_15, t_line_16⟩, hc_17, h⟩ := zb h
    try dsimp only at h
    refine z_callvU (wc := [kX8 ad_t ad_t_steps ad_t_line ad_t_gone ad_t_wentIn t_size t_there (t_roundsBy + 1) t_kind t_figure t_stepCount, kI cA ad_t_line 120 t_line, kI cA ad_t_wentIn 121 t_wentIn_11]) (wc' := [kX8 ad_t ad_t_steps ad_t_line ad_t_gone ad_t_wentIn t_size t_there_15 (t_roundsBy + 1) t_kind t_figure t_stepCount, kI cA ad_t_line 120 t_line_16, kI cA ad_t_wentIn 121 t_wentIn_11]) (ws' := [kX8 ad_t ad_t_steps ad_t_line ad_t_gone ad_t_wentIn t_size t_there_15 (t_roundsBy + 1) t_kind t_figure t_stepCount, kI cA ad_t_line 120 t_line_16, kI cA ad_t_gone 120 t_gone_10, kI cA ad_t_wentIn 121 t_wentIn_11]) (va_runV (As := []) (rest := []) ⟨hx, hb, hml, hown, hts⟩ (c_X8_closeUp l dC dI cA cN _ ad_t ad_t_steps ad_t_line ad_t_gone ad_t_wentIn t_size t_there (t_roundsBy + 1) t_kind t_figure t_stepCount t_line t_wentIn_11 t_there_15 t_line_16 hc_17) (cwV 0 hts gX8_strike_X8_closeUp rfl rfl rfl (by decide +kernel) ⟨Nat.le_of_ble_eq_true rfl, Nat.le_of_ble_eq_true rfl⟩) (zPc.preV hK hE hP hD [0, 1, 3] rfl rfl (ci := 8) (q0 := 0) rfl rfl) rfl rfl hl.1 rfl (lv_room (Nat.le_of_ble_eq_true rfl)) dX8_strike_104 ⟨Nat.le_of_ble_eq_true rfl, Nat.le_of_ble_eq_true rfl⟩) hP hD hS hA [0, 1, 3] rfl rfl rfl (fun H locs hP hD hS => ?_)
    refine lv_iload hx hb dX8_strike_107 (lv_at hl 1 rfl) ?_
    refine lv_aload_n hx hb dX8_strike_109 rfl (lv_at hl 0 rfl) ?_
    refine va_get (D := (dC, dI)) (ci := 8) (v := .int (zi t_there_15)) (C := RX8) (T := TX8) (N := 10) hx hb hts in_X8_strike_X8 hown hK hP 0 rfl rfl 1 (by decide) (hts _ q_X8_strike_1) (fun _ h9 => h9) rfl dX8_strike_110 ?_
    refine z_isub hx hb dX8_strike_113 ?_
    cases h
    exact z_iret hx hb hr hlocks hP hD hS dX8_strike_114
  clear h
  have hlp36 : ∀ (n : Nat) (v6_18 : Int) (v7_19 : Int) (t_gone_20 : Int → Int) (t_wentIn_21 : Int → Int) (H : Heap) (locs : List Loc) (ls : Array Slot), f_X8_strike_L36 n v3 t_there (if v1 < 1 then 1 else v1) v6_18 v7_19 (t_roundsBy + 1) t_line t_gone_20 t_wentIn_21 = some (t_gone_10, t_wentIn_11) → va_P (dC, dI) vwCl [kX8 ad_t ad_t_steps ad_t_line ad_t_gone ad_t_wentIn t_size t_there (t_roundsBy + 1) t_kind t_figure t_stepCount, kI cA ad_t_line 120 t_line, kI cA ad_t_gone 120 t_gone_20, kI cA ad_t_wentIn 121 t_wentIn_21] H → va_D A [kX8 ad_t ad_t_steps ad_t_line ad_t_gone ad_t_wentIn t_size t_there (t_roundsBy + 1) t_kind t_figure t_stepCount, kI cA ad_t_line 120 t_line, kI cA ad_t_gone 120 t_gone_20, kI cA ad_t_wentIn 121 t_wentIn_21] → va_S A s.heap H locs → lv_has ls 10 [(0, .ref ad_t), (3, .int (zi v3)), (4, .int (zi t_there)), (5, .int (zi (if v1 < 1 then 1 else v1))), (6, .int (zi v6_18)), (7, .int (zi v7_19))] → W p l e { frames := 1, cells := 0, slots := 0, locals := 23 } s m ([.ref ad_t, .int (zi v1), .int (zi v2), .int (zi v3)] : List Value).toArray below meth c H locs 0 0 (MQ below (zQi (dC, dI) [kX8 ad_t ad_t_steps ad_t_line ad_t_gone ad_t_wentIn t_size t_there9 t_roundsBy9 t_kind t_figure t_stepCount, kI cA ad_t_line 120 t_line9, kI cA ad_t_gone 120 t_gone9, kI cA ad_t_wentIn 121 t_wentIn9] r0 A) ([.ref ad_t, .int (zi v1), .int (zi v2), .int (zi v3)] : List Value).toArray s 0 0 A) (F0 m 36 ls []) := by
    intro n
    induction n with
    | zero => intro v6_18 v7_19 t_gone_20 t_wentIn_21 H locs ls h; rw [f_X8_strike_L36_z] at h; cases h
    | succ n ih36 =>
      intro v6_18 v7_19 t_gone_20 t_wentIn_21 H locs ls h hP hD hS hl
      rw [f_X8_strike_L36_s] at h
      refine lv_iload hx hb dX8_strike_36 (lv_at hl 5 rfl) ?_
      refine lv_iload hx hb dX8_strike_38 (lv_at hl 2 rfl) ?_
      refine z_icmp_gt (tgt := 103) hx hb dX8_strike_40 (by decide) h (fun q => q) (fun h => ?_) (fun h => ?_)
      · exact hx36 _ _ _ _ _ h hP hD hS (lv_sub hl [0, 2] rfl)
      · refine lv_iload_n hx hb dX8_strike_43 rfl (lv_at hl 1 rfl) ?_
        have hj59 : ∀ (s0_22 : Int) (H : Heap) (locs : List Loc) (ls : Array Slot), f_X8_strike_J59 (f_X8_strike_L36 n) v3 t_there (if v1 < 1 then 1 else v1) v6_18 v7_19 s0_22 (t_roundsBy + 1) t_line t_gone_20 t_wentIn_21 = some (t_gone_10, t_wentIn_11) → va_P (dC, dI) vwCl [kX8 ad_t ad_t_steps ad_t_line ad_t_gone ad_t_wentIn t_size t_there (t_roundsBy + 1) t_kind t_figure t_stepCount, kI cA ad_t_line 120 t_line, kI cA ad_t_gone 120 t_gone_20, kI cA ad_t_wentIn 121 t_wentIn_21] H → va_D A [kX8 ad_t ad_t_steps ad_t_line ad_t_gone ad_t_wentIn t_size t_there (t_roundsBy + 1) t_kind t_figure t_stepCount, kI cA ad_t_line 120 t_line, kI cA ad_t_gone 120 t_gone_20, kI cA ad_t_wentIn 121 t_wentIn_21] → va_S A s.heap H locs → lv_has ls 10 [(0, .ref ad_t), (3, .int (zi v3)), (4, .int (zi t_there)), (5, .int (zi (if v1 < 1 then 1 else v1))), (6, .int (zi v6_18)), (7, .int (zi v7_19))] → W p l e { frames := 1, cells := 0, slots := 0, locals := 23 } s m ([.ref ad_t, .int (zi v1), .int (zi v2), .int (zi v3)] : List Value).toArray below meth c H locs 0 0 (MQ below (zQi (dC, dI) [kX8 ad_t ad_t_steps ad_t_line ad_t_gone ad_t_wentIn t_size t_there9 t_roundsBy9 t_kind t_figure t_stepCount, kI cA ad_t_line 120 t_line9, kI cA ad_t_gone 120 t_gone9, kI cA ad_t_wentIn 121 t_wentIn9] r0 A) ([.ref ad_t, .int (zi v1), .int (zi v2), .int (zi v3)] : List Value).toArray s 0 0 A) (F0 m 59 ls [.int (zi s0_22)]) := by
          intro s0_22 H locs ls h hP hD hS hl
          unfold f_X8_strike_J59 at h
          refine lv_istore (lv' := [(8, .int (zi s0_22)), (0, .ref ad_t), (3, .int (zi v3)), (4, .int (zi t_there)), (5, .int (zi (if v1 < 1 then 1 else v1))), (6, .int (zi v6_18)), (7, .int (zi v7_19))]) hx hb dX8_strike_59 hl (by decide) rfl (fun ls hl => ?_)
          refine lv_aload_n hx hb dX8_strike_61 rfl (lv_at hl 1 rfl) ?_
          refine va_get (D := (dC, dI)) (ci := 8) (v := .ref ad_t_line) (C := RX8) (T := TX8) (N := 10) hx hb hts in_X8_strike_X8 hown hK hP 0 rfl rfl 7 (by decide) (hts _ q_X8_strike_6) (fun _ h9 => h9) rfl dX8_strike_62 ?_
          refine lv_iload hx hb dX8_strike_65 (lv_at hl 0 rfl) ?_
          refine z_iald (N := 120) hx hb hK hP 1 0 rfl rfl rfl (by decide) dX8_strike_67 h (fun h => ?_)
          refine lv_istore (lv' := [(9, .int (zi (t_line s0_22))), (8, .int (zi s0_22)), (0, .ref ad_t), (3, .int (zi v3)), (4, .int (zi t_there)), (5, .int (zi (if v1 < 1 then 1 else v1))), (6, .int (zi v6_18)), (7, .int (zi v7_19))]) hx hb dX8_strike_68 hl (by decide) rfl (fun ls hl => ?_)
          refine lv_aload_n hx hb dX8_strike_70 rfl (lv_at hl 2 rfl) ?_
          refine va_get (D := (dC, dI)) (ci := 8) (v := .ref ad_t_wentIn) (C := RX8) (T := TX8) (N := 10) hx hb hts in_X8_strike_X8 hown hK hP 0 rfl rfl 9 (by decide) (hts _ q_X8_strike_7) (fun _ h9 => h9) rfl dX8_strike_71 ?_
          refine lv_iload hx hb dX8_strike_74 (lv_at hl 0 rfl) ?_
          refine lv_aload_n hx hb dX8_strike_76 rfl (lv_at hl 2 rfl) ?_
          refine va_get (D := (dC, dI)) (ci := 8) (v := .int (zi (t_roundsBy + 1))) (C := RX8) (T := TX8) (N := 10) hx hb hts in_X8_strike_X8 hown hK hP 0 rfl rfl 2 (by decide) (hts _ q_X8_strike_0) (fun _ h9 => h9) rfl dX8_strike_77 ?_
          refine z_iast (N := 121) hx hb hK hP hD hS 3 0 rfl rfl rfl (by decide) dX8_strike_80 h (fun h H locs hP hD hS => ?_)
          have hP : va_P (dC, dI) vwCl [kX8 ad_t ad_t_steps ad_t_line ad_t_gone ad_t_wentIn t_size t_there (t_roundsBy + 1) t_kind t_figure t_stepCount, kI cA ad_t_line 120 t_line, kI cA ad_t_gone 120 t_gone_20, kI cA ad_t_wentIn 121 (zup t_wentIn_21 (t_line s0_22) (t_roundsBy + 1))] H := hP
          have hD : va_D A [kX8 ad_t ad_t_steps ad_t_line ad_t_gone ad_t_wentIn t_size t_there (t_roundsBy + 1) t_kind t_figure t_stepCount, kI cA ad_t_line 120 t_line, kI cA ad_t_gone 120 t_gone_20, kI cA ad_t_wentIn 121 (zup t_wentIn_21 (t_line s0_22) (t_roundsBy + 1))] := hD
          refine lv_aload_n hx hb dX8_strike_81 rfl (lv_at hl 2 rfl) ?_
          refine va_get (D := (dC, dI)) (ci := 8) (v := .ref ad_t_gone) (C := RX8) (T := TX8) (N := 10) hx hb hts in_X8_strike_X8 hown hK hP 0 rfl rfl 8 (by decide) (hts _ q_X8_strike_8) (fun _ h9 => h9) rfl dX8_strike_82 ?_
          refine lv_iload hx hb dX8_strike_85 (lv_at hl 6 rfl) ?_
          refine lv_iload hx hb dX8_strike_87 (lv_at hl 0 rfl) ?_
          refine z_iast (N := 120) hx hb hK hP hD hS 2 0 rfl rfl rfl (by decide) dX8_strike_89 h (fun h H locs hP hD hS => ?_)
          have hP : va_P (dC, dI) vwCl [kX8 ad_t ad_t_steps ad_t_line ad_t_gone ad_t_wentIn t_size t_there (t_roundsBy + 1) t_kind t_figure t_stepCount, kI cA ad_t_line 120 t_line, kI cA ad_t_gone 120 (zup t_gone_20 v6_18 (t_line s0_22)), kI cA ad_t_wentIn 121 (zup t_wentIn_21 (t_line s0_22) (t_roundsBy + 1))] H := hP
          have hD : va_D A [kX8 ad_t ad_t_steps ad_t_line ad_t_gone ad_t_wentIn t_size t_there (t_roundsBy + 1) t_kind t_figure t_stepCount, kI cA ad_t_line 120 t_line, kI cA ad_t_gone 120 (zup t_gone_20 v6_18 (t_line s0_22)), kI cA ad_t_wentIn 121 (zup t_wentIn_21 (t_line s0_22) (t_roundsBy + 1))] := hD
          refine z_iinc (lv' := [(6, .int (zi (v6_18 + 1))), (9, .int (zi (t_line s0_22))), (8, .int (zi s0_22)), (0, .ref ad_t), (3, .int (zi v3)), (4, .int (zi t_there)), (5, .int (zi (if v1 < 1 then 1 else v1))), (7, .int (zi v7_19))]) hx hb dX8_strike_90 hl (k := 6) rfl (by decide) rfl (fun ls hl => ?_)
          refine lv_iload hx hb dX8_strike_93 (lv_at hl 7 rfl) ?_
          refine lv_iload hx hb dX8_strike_95 (lv_at hl 6 rfl) ?_
          refine z_iadd hx hb dX8_strike_97 ?_
          refine lv_istore (lv' := [(7, .int (zi (v7_19 + (if v1 < 1 then 1 else v1)))), (6, .int (zi (v6_18 + 1))), (9, .int (zi (t_line s0_22))), (8, .int (zi s0_22)), (0, .ref ad_t), (3, .int (zi v3)), (4, .int (zi t_there)), (5, .int (zi (if v1 < 1 then 1 else v1)))]) hx hb dX8_strike_98 hl (by decide) rfl (fun ls hl => ?_)
          refine lv_goto (tgt := 36) hx hb dX8_strike_100 (by decide) ?_
          exact ih36 _ _ _ _ _ _ _ h hP hD hS (lv_sub hl [4, 5, 6, 7, 1, 0] rfl)
        refine z_if_eq (tgt := 55) hx hb dX8_strike_44 (by decide) h (fun h => ?_) (fun h => ?_)
        · refine lv_iload hx hb dX8_strike_55 (lv_at hl 5 rfl) ?_
          refine z_iconst hx hb dX8_strike_57 ?_
          refine z_isub hx hb dX8_strike_58 ?_
          exact hj59 _ _ _ _ h hP hD hS (lv_sub hl [0, 1, 2, 3, 4, 5] rfl)
        · refine lv_iload hx hb dX8_strike_47 (lv_at hl 2 rfl) ?_
          refine lv_iload hx hb dX8_strike_49 (lv_at hl 5 rfl) ?_
          refine z_isub hx hb dX8_strike_51 ?_
          refine lv_goto (tgt := 59) hx hb dX8_strike_52 (by decide) ?_
          exact hj59 _ _ _ _ h hP hD hS (lv_sub hl [0, 1, 2, 3, 4, 5] rfl)
  exact hlp36 zF _ _ _ _ _ _ _ hl_12 hP hD hS (lv_sub hl [4, 7, 3, 2, 1, 0] rfl)
-- X8_letRoundPass
theorem dX8_letRoundPass_0 : decode cX8_letRoundPass 0 = .ok (.aload_n 0, 1) := by decide +kernel
theorem dX8_letRoundPass_1 : decode cX8_letRoundPass 1 = .ok (.getfield 31, 3) := by decide +kernel
theorem dX8_letRoundPass_4 : decode cX8_letRoundPass 4 = .ok (.iconst 1, 1) := by decide +kernel
theorem dX8_letRoundPass_5 : decode cX8_letRoundPass 5 = .ok (.iadd, 1) := by decide +kernel
theorem dX8_letRoundPass_6 : decode cX8_letRoundPass 6 = .ok (.istore_n 2, 1) := by decide +kernel
theorem dX8_letRoundPass_7 : decode cX8_letRoundPass 7 = .ok (.aload_n 1, 1) := by decide +kernel
theorem dX8_letRoundPass_8 : decode cX8_letRoundPass 8 = .ok (.aload_n 0, 1) := by decide +kernel
theorem dX8_letRoundPass_9 : decode cX8_letRoundPass 9 = .ok (.iload_n 2, 1) := by decide +kernel
theorem dX8_letRoundPass_10 : decode cX8_letRoundPass 10 = .ok (.invokevirtual 66, 3) := by decide +kernel
theorem dX8_letRoundPass_13 : decode cX8_letRoundPass 13 = .ok (.istore_n 3, 1) := by decide +kernel
theorem dX8_letRoundPass_14 : decode cX8_letRoundPass 14 = .ok (.aload_n 0, 1) := by decide +kernel
theorem dX8_letRoundPass_15 : decode cX8_letRoundPass 15 = .ok (.iload_n 3, 1) := by decide +kernel
theorem dX8_letRoundPass_16 : decode cX8_letRoundPass 16 = .ok (.aload_n 1, 1) := by decide +kernel
theorem dX8_letRoundPass_17 : decode cX8_letRoundPass 17 = .ok (.iload_n 3, 1) := by decide +kernel
theorem dX8_letRoundPass_18 : decode cX8_letRoundPass 18 = .ok (.invokevirtual 72, 3) := by decide +kernel
theorem dX8_letRoundPass_21 : decode cX8_letRoundPass 21 = .ok (.aload_n 1, 1) := by decide +kernel
theorem dX8_letRoundPass_22 : decode cX8_letRoundPass 22 = .ok (.iload_n 2, 1) := by decide +kernel
theorem dX8_letRoundPass_23 : decode cX8_letRoundPass 23 = .ok (.invokevirtual 75, 3) := by decide +kernel
theorem dX8_letRoundPass_26 : decode cX8_letRoundPass 26 = .ok (.invokevirtual 78, 3) := by decide +kernel
theorem dX8_letRoundPass_29 : decode cX8_letRoundPass 29 = .ok (.ireturn, 1) := by decide +kernel
set_option maxRecDepth 20000 in
theorem ggX8_letRoundPass_X6_countIn : GoodIn wsX8_letRoundPass wsX6_countIn := goodIn_r _ [7] rfl (by decide +kernel)
set_option maxRecDepth 20000 in
theorem gX8_letRoundPass_X6_countIn_u66X1 : GoodIn wsX8_letRoundPass (va_wsU RX8 66 RX1 "EachSecondStruck$Next" ⟨"EachSecondStruck$Next", "countIn", "(LEachSecondStruck$Standing;I)I"⟩ yX6_countIn wsX6_countIn) := goodIn_app (goodIn_of _ (by decide +kernel)) ggX8_letRoundPass_X6_countIn
set_option maxRecDepth 20000 in
theorem gX8_letRoundPass_X6_countIn_u66X2 : GoodIn wsX8_letRoundPass (va_wsU RX8 66 RX2 "EachSecondStruck$Next" ⟨"EachSecondStruck$Next", "countIn", "(LEachSecondStruck$Standing;I)I"⟩ yX6_countIn wsX6_countIn) := goodIn_app (goodIn_of _ (by decide +kernel)) ggX8_letRoundPass_X6_countIn
set_option maxRecDepth 20000 in
theorem ggX8_letRoundPass_X3_countIn : GoodIn wsX8_letRoundPass wsX3_countIn := goodIn_r _ [13] rfl (by decide +kernel)
set_option maxRecDepth 20000 in
theorem gX8_letRoundPass_X3_countIn_u66X3 : GoodIn wsX8_letRoundPass (va_wsO RX8 66 RX3 "EachSecondStruck$Next" ⟨"EachSecondStruck$Next", "countIn", "(LEachSecondStruck$Standing;I)I"⟩ yX3_countIn wsX3_countIn) := goodIn_app (goodIn_of _ (by decide +kernel)) ggX8_letRoundPass_X3_countIn
set_option maxRecDepth 20000 in
theorem ggX8_letRoundPass_X5_countIn : GoodIn wsX8_letRoundPass wsX5_countIn := goodIn_r _ [17, 18, 19, 20, 21, 22, 23, 24, 25, 26, 27, 28, 29, 94, 95, 96, 97, 98, 99, 100, 101, 102, 103] rfl (by decide +kernel)
set_option maxRecDepth 20000 in
theorem gX8_letRoundPass_X5_countIn_u66X5 : GoodIn wsX8_letRoundPass (va_wsO RX8 66 RX5 "EachSecondStruck$Next" ⟨"EachSecondStruck$Next", "countIn", "(LEachSecondStruck$Standing;I)I"⟩ yX5_countIn wsX5_countIn) := goodIn_app (goodIn_of _ (by decide +kernel)) ggX8_letRoundPass_X5_countIn
set_option maxRecDepth 20000 in
theorem gX8_letRoundPass_X6_countIn : GoodIn wsX8_letRoundPass (wsV RX8 66 RX6 yX6_countIn wsX6_countIn) := goodIn_app (goodIn_of _ (by decide +kernel)) ggX8_letRoundPass_X6_countIn
set_option maxRecDepth 20000 in
theorem ggX8_letRoundPass_X7_countIn : GoodIn wsX8_letRoundPass wsX7_countIn := goodIn_r _ [35, 36, 94, 95, 96, 97, 98, 99, 100, 101, 102, 103] rfl (by decide +kernel)
set_option maxRecDepth 20000 in
theorem gX8_letRoundPass_X7_countIn_u66X7 : GoodIn wsX8_letRoundPass (va_wsO RX8 66 RX7 "EachSecondStruck$Next" ⟨"EachSecondStruck$Next", "countIn", "(LEachSecondStruck$Standing;I)I"⟩ yX7_countIn wsX7_countIn) := goodIn_app (goodIn_of _ (by decide +kernel)) ggX8_letRoundPass_X7_countIn
set_option maxRecDepth 20000 in
theorem ggX8_letRoundPass_X9_countIn : GoodIn wsX8_letRoundPass wsX9_countIn := goodIn_r _ [40, 41, 42, 43, 44, 45, 33, 34, 35, 36, 94, 95, 96, 97, 98, 99, 100, 101, 102, 103] rfl (by decide +kernel)
set_option maxRecDepth 20000 in
theorem gX8_letRoundPass_X9_countIn_u66X9 : GoodIn wsX8_letRoundPass (va_wsO RX8 66 RX9 "EachSecondStruck$Next" ⟨"EachSecondStruck$Next", "countIn", "(LEachSecondStruck$Standing;I)I"⟩ yX9_countIn wsX9_countIn) := goodIn_app (goodIn_of _ (by decide +kernel)) ggX8_letRoundPass_X9_countIn
set_option maxRecDepth 20000 in
theorem ggX8_letRoundPass_X6_firstPlace : GoodIn wsX8_letRoundPass wsX6_firstPlace := goodIn_r _ [50] rfl (by decide +kernel)
set_option maxRecDepth 20000 in
theorem gX8_letRoundPass_X6_firstPlace_u72X1 : GoodIn wsX8_letRoundPass (va_wsU RX8 72 RX1 "EachSecondStruck$Next" ⟨"EachSecondStruck$Next", "firstPlace", "(I)I"⟩ yX6_firstPlace wsX6_firstPlace) := goodIn_app (goodIn_of _ (by decide +kernel)) ggX8_letRoundPass_X6_firstPlace
set_option maxRecDepth 20000 in
theorem ggX8_letRoundPass_X2_firstPlace : GoodIn wsX8_letRoundPass wsX2_firstPlace := goodIn_r _ [55] rfl (by decide +kernel)
set_option maxRecDepth 20000 in
theorem gX8_letRoundPass_X2_firstPlace_u72X2 : GoodIn wsX8_letRoundPass (va_wsO RX8 72 RX2 "EachSecondStruck$Next" ⟨"EachSecondStruck$Next", "firstPlace", "(I)I"⟩ yX2_firstPlace wsX2_firstPlace) := goodIn_app (goodIn_of _ (by decide +kernel)) ggX8_letRoundPass_X2_firstPlace
set_option maxRecDepth 20000 in
theorem gX8_letRoundPass_X6_firstPlace_u72X3 : GoodIn wsX8_letRoundPass (va_wsU RX8 72 RX3 "EachSecondStruck$Next" ⟨"EachSecondStruck$Next", "firstPlace", "(I)I"⟩ yX6_firstPlace wsX6_firstPlace) := goodIn_app (goodIn_of _ (by decide +kernel)) ggX8_letRoundPass_X6_firstPlace
set_option maxRecDepth 20000 in
theorem gX8_letRoundPass_X6_firstPlace_u72X5 : GoodIn wsX8_letRoundPass (va_wsU RX8 72 RX5 "EachSecondStruck$Next" ⟨"EachSecondStruck$Next", "firstPlace", "(I)I"⟩ yX6_firstPlace wsX6_firstPlace) := goodIn_app (goodIn_of _ (by decide +kernel)) ggX8_letRoundPass_X6_firstPlace
set_option maxRecDepth 20000 in
theorem gX8_letRoundPass_X6_firstPlace : GoodIn wsX8_letRoundPass (wsV RX8 72 RX6 yX6_firstPlace wsX6_firstPlace) := goodIn_app (goodIn_of _ (by decide +kernel)) ggX8_letRoundPass_X6_firstPlace
set_option maxRecDepth 20000 in
theorem gX8_letRoundPass_X6_firstPlace_u72X7 : GoodIn wsX8_letRoundPass (va_wsU RX8 72 RX7 "EachSecondStruck$Next" ⟨"EachSecondStruck$Next", "firstPlace", "(I)I"⟩ yX6_firstPlace wsX6_firstPlace) := goodIn_app (goodIn_of _ (by decide +kernel)) ggX8_letRoundPass_X6_firstPlace
set_option maxRecDepth 20000 in
theorem gX8_letRoundPass_X6_firstPlace_u72X9 : GoodIn wsX8_letRoundPass (va_wsU RX8 72 RX9 "EachSecondStruck$Next" ⟨"EachSecondStruck$Next", "firstPlace", "(I)I"⟩ yX6_firstPlace wsX6_firstPlace) := goodIn_app (goodIn_of _ (by decide +kernel)) ggX8_letRoundPass_X6_firstPlace
set_option maxRecDepth 20000 in
theorem ggX8_letRoundPass_X1_isFromBack : GoodIn wsX8_letRoundPass wsX1_isFromBack := goodIn_r _ [68] rfl (by decide +kernel)
set_option maxRecDepth 20000 in
theorem gX8_letRoundPass_X1_isFromBack_u75X1 : GoodIn wsX8_letRoundPass (va_wsO RX8 75 RX1 "EachSecondStruck$Next" ⟨"EachSecondStruck$Next", "isFromBack", "(I)Z"⟩ yX1_isFromBack wsX1_isFromBack) := goodIn_app (goodIn_of _ (by decide +kernel)) ggX8_letRoundPass_X1_isFromBack
set_option maxRecDepth 20000 in
theorem ggX8_letRoundPass_X6_isFromBack : GoodIn wsX8_letRoundPass wsX6_isFromBack := goodIn_r _ [69] rfl (by decide +kernel)
set_option maxRecDepth 20000 in
theorem gX8_letRoundPass_X6_isFromBack_u75X2 : GoodIn wsX8_letRoundPass (va_wsU RX8 75 RX2 "EachSecondStruck$Next" ⟨"EachSecondStruck$Next", "isFromBack", "(I)Z"⟩ yX6_isFromBack wsX6_isFromBack) := goodIn_app (goodIn_of _ (by decide +kernel)) ggX8_letRoundPass_X6_isFromBack
set_option maxRecDepth 20000 in
theorem gX8_letRoundPass_X1_isFromBack_u75X3 : GoodIn wsX8_letRoundPass (va_wsO RX8 75 RX3 "EachSecondStruck$Next" ⟨"EachSecondStruck$Next", "isFromBack", "(I)Z"⟩ yX1_isFromBack wsX1_isFromBack) := goodIn_app (goodIn_of _ (by decide +kernel)) ggX8_letRoundPass_X1_isFromBack
set_option maxRecDepth 20000 in
theorem gX8_letRoundPass_X6_isFromBack_u75X5 : GoodIn wsX8_letRoundPass (va_wsU RX8 75 RX5 "EachSecondStruck$Next" ⟨"EachSecondStruck$Next", "isFromBack", "(I)Z"⟩ yX6_isFromBack wsX6_isFromBack) := goodIn_app (goodIn_of _ (by decide +kernel)) ggX8_letRoundPass_X6_isFromBack
set_option maxRecDepth 20000 in
theorem gX8_letRoundPass_X6_isFromBack : GoodIn wsX8_letRoundPass (wsV RX8 75 RX6 yX6_isFromBack wsX6_isFromBack) := goodIn_app (goodIn_of _ (by decide +kernel)) ggX8_letRoundPass_X6_isFromBack
set_option maxRecDepth 20000 in
theorem gX8_letRoundPass_X6_isFromBack_u75X7 : GoodIn wsX8_letRoundPass (va_wsU RX8 75 RX7 "EachSecondStruck$Next" ⟨"EachSecondStruck$Next", "isFromBack", "(I)Z"⟩ yX6_isFromBack wsX6_isFromBack) := goodIn_app (goodIn_of _ (by decide +kernel)) ggX8_letRoundPass_X6_isFromBack
set_option maxRecDepth 20000 in
theorem gX8_letRoundPass_X6_isFromBack_u75X9 : GoodIn wsX8_letRoundPass (va_wsU RX8 75 RX9 "EachSecondStruck$Next" ⟨"EachSecondStruck$Next", "isFromBack", "(I)Z"⟩ yX6_isFromBack wsX6_isFromBack) := goodIn_app (goodIn_of _ (by decide +kernel)) ggX8_letRoundPass_X6_isFromBack
set_option maxRecDepth 20000 in
theorem ggX8_letRoundPass_X8_strike : GoodIn wsX8_letRoundPass wsX8_strike := goodIn_r _ [81, 1, 28, 82, 20, 21, 22, 29, 83, 84, 85, 86, 87, 26, 88, 89, 90, 91, 92, 93, 94, 95, 96, 97, 98, 99, 100, 101, 102, 103] rfl (by decide +kernel)
set_option maxRecDepth 20000 in
theorem gX8_letRoundPass_X8_strike : GoodIn wsX8_letRoundPass (wsV RX8 78 RX8 yX8_strike wsX8_strike) := goodIn_app (goodIn_of _ (by decide +kernel)) ggX8_letRoundPass_X8_strike
noncomputable def fv_countIn (k : Int) (v2 : Int) (o_there : Int) (o_figure : Int) (o_stepCount : Int) (o_steps : Int → Int) (o_line : Int → Int) : Option Int := if k = 0 then f_X6_countIn v2 else if k = 1 then f_X5_countIn v2 o_there o_line else if k = 2 then f_X7_countIn v2 o_figure else if k = 3 then f_X6_countIn v2 else if k = 4 then f_X9_countIn v2 o_figure o_stepCount o_steps else if k = 5 then f_X6_countIn v2 else if k = 6 then f_X3_countIn v2 else none
noncomputable def fv_firstPlace (k : Int) (v1 : Int)  : Option Int := if k = 0 then f_X6_firstPlace v1 else if k = 1 then f_X6_firstPlace v1 else if k = 2 then f_X6_firstPlace v1 else if k = 3 then f_X6_firstPlace v1 else if k = 4 then f_X6_firstPlace v1 else if k = 5 then f_X2_firstPlace v1 else if k = 6 then f_X6_firstPlace v1 else none
noncomputable def fv_isFromBack (k : Int) (v1 : Int)  : Option Int := if k = 0 then f_X6_isFromBack v1 else if k = 1 then f_X6_isFromBack v1 else if k = 2 then f_X6_isFromBack v1 else if k = 3 then f_X1_isFromBack v1 else if k = 4 then f_X6_isFromBack v1 else if k = 5 then f_X6_isFromBack v1 else if k = 6 then f_X1_isFromBack v1 else none
noncomputable def f_X8_letRoundPass (v1 : Int) (t_size : Int) (t_there : Int) (t_roundsBy : Int) (t_figure : Int) (t_stepCount : Int) (t_steps : Int → Int) (t_line : Int → Int) (t_gone : Int → Int) (t_wentIn : Int → Int) : Option (Int × Int × Int × (Int → Int) × (Int → Int) × (Int → Int)) := (fv_countIn v1 (t_roundsBy + 1) t_there t_figure t_stepCount t_steps t_line).bind (fun r_1 => (fv_firstPlace v1 r_1).bind (fun r_2 => (fv_isFromBack v1 (t_roundsBy + 1)).bind (fun r_3 => (f_X8_strike r_1 r_2 r_3 t_size t_there t_roundsBy t_line t_gone t_wentIn).bind (fun (r_4, t_there_5, t_roundsBy_6, t_line_7, t_gone_8, t_wentIn_9) => some (r_4, t_there_5, t_roundsBy_6, t_line_7, t_gone_8, t_wentIn_9)))))
theorem q_X8_letRoundPass_0 : Cond.fieldLink RX8 31 "EachSecondStruck$Standing" "roundsBy" "I" ∈ wsX8_letRoundPass := by decide +kernel
theorem q_X8_letRoundPass_1 : Cond.code yX6_isFromBack cX6_isFromBack 2 (some .boolean) ∈ wsX8_letRoundPass := by decide +kernel
theorem q_X8_letRoundPass_2 : Cond.code yX6_firstPlace cX6_firstPlace 2 (some .int) ∈ wsX8_letRoundPass := by decide +kernel
theorem q_X8_letRoundPass_3 : Cond.code yX6_countIn cX6_countIn 3 (some .int) ∈ wsX8_letRoundPass := by decide +kernel
theorem in_X8_letRoundPass_X8 : ∀ w ∈ u_ws RX8 TX8 10, w ∈ wsX8_letRoundPass := by decide +kernel
set_option maxHeartbeats 4000000 in
set_option maxRecDepth 100000 in
theorem c_X8_letRoundPass (l : Launch) (dC : Nat → ClassId) (dI : Nat → Nat → Nat) (cA cN : ClassId) (sz : Nat) (ad_t : Nat) (ad_t_steps : Nat) (ad_t_line : Nat) (ad_t_gone : Nat) (ad_t_wentIn : Nat) (sa : Nat → Nat) (t_size : Int) (t_there : Int) (t_roundsBy : Int) (t_kind : Int) (t_figure : Int) (t_stepCount : Int) (t_gone : Int → Int) (t_line : Int → Int) (t_steps : Int → Int) (t_wentIn : Int → Int) (v1 : Int) (r0 : Int) (t_there9 : Int) (t_roundsBy9 : Int) (t_line9 : Int → Int) (t_gone9 : Int → Int) (t_wentIn9 : Int → Int) (h : f_X8_letRoundPass v1 t_size t_there t_roundsBy t_figure t_stepCount t_steps t_line t_gone t_wentIn = some (r0, t_there9, t_roundsBy9, t_line9, t_gone9, t_wentIn9)) : Met l yX8_letRoundPass wsX8_letRoundPass { frames := 2, cells := 0, slots := 0, locals := 52 } (zPc (dC, dI) (zT cA cN) [kX8 ad_t ad_t_steps ad_t_line ad_t_gone ad_t_wentIn t_size t_there t_roundsBy t_kind t_figure t_stepCount, kI cA ad_t_steps 8 t_steps, kI cA ad_t_line 120 t_line, kI cA ad_t_gone 120 t_gone, kI cA ad_t_wentIn 121 t_wentIn, (sa 0, .inr (6, [])), (sa 1, .inr (5, [])), (sa 2, .inr (7, [])), (sa 3, .inr (1, [])), (sa 4, .inr (9, [])), (sa 5, .inr (2, [])), (sa 6, .inr (3, []))] [.ref ad_t, .ref (sa (v1).toNat)] sz) (zQi (dC, dI) [kX8 ad_t ad_t_steps ad_t_line ad_t_gone ad_t_wentIn t_size t_there9 t_roundsBy9 t_kind t_figure t_stepCount, kI cA ad_t_steps 8 t_steps, kI cA ad_t_line 120 t_line9, kI cA ad_t_gone 120 t_gone9, kI cA ad_t_wentIn 121 t_wentIn9, (sa 0, .inr (6, [])), (sa 1, .inr (5, [])), (sa 2, .inr (7, [])), (sa 3, .inr (1, [])), (sa 4, .inr (9, [])), (sa 5, .inr (2, [])), (sa 6, .inr (3, []))] r0 (va_A [kX8 ad_t ad_t_steps ad_t_line ad_t_gone ad_t_wentIn t_size t_there t_roundsBy t_kind t_figure t_stepCount, kI cA ad_t_steps 8 t_steps, kI cA ad_t_line 120 t_line, kI cA ad_t_gone 120 t_gone, kI cA ad_t_wentIn 121 t_wentIn, (sa 0, .inr (6, [])), (sa 1, .inr (5, [])), (sa 2, .inr (7, [])), (sa 3, .inr (1, [])), (sa 4, .inr (9, [])), (sa 5, .inr (2, [])), (sa 6, .inr (3, []))] sz)) 0 0 (va_A [kX8 ad_t ad_t_steps ad_t_line ad_t_gone ad_t_wentIn t_size t_there t_roundsBy t_kind t_figure t_stepCount, kI cA ad_t_steps 8 t_steps, kI cA ad_t_line 120 t_line, kI cA ad_t_gone 120 t_gone, kI cA ad_t_wentIn 121 t_wentIn, (sa 0, .inr (6, [])), (sa 1, .inr (5, [])), (sa 2, .inr (7, [])), (sa 3, .inr (1, [])), (sa 4, .inr (9, [])), (sa 5, .inr (2, [])), (sa 6, .inr (3, []))] sz) := by
  refine z_ofW (QF := fun A => zQi (dC, dI) [kX8 ad_t ad_t_steps ad_t_line ad_t_gone ad_t_wentIn t_size t_there9 t_roundsBy9 t_kind t_figure t_stepCount, kI cA ad_t_steps 8 t_steps, kI cA ad_t_line 120 t_line9, kI cA ad_t_gone 120 t_gone9, kI cA ad_t_wentIn 121 t_wentIn9, (sa 0, .inr (6, [])), (sa 1, .inr (5, [])), (sa 2, .inr (7, [])), (sa 3, .inr (1, [])), (sa 4, .inr (9, [])), (sa 5, .inr (2, [])), (sa 6, .inr (3, []))] r0 A) (by decide) rfl (Nat.le_of_ble_eq_true rfl) ?_
  intro p e s m below meth c ls A hx hb hml hr hlocks hnm hts hown hK hP hD hE hsz hA hS hl
  have hl : lv_has ls 4 [(0, .ref ad_t), (1, .ref (sa (v1).toNat))] := hl
  unfold f_X8_letRoundPass at h
  refine lv_aload_n hx hb dX8_letRoundPass_0 rfl (lv_at hl 0 rfl) ?_
  refine va_get (D := (dC, dI)) (ci := 8) (v := .int (zi t_roundsBy)) (C := RX8) (T := TX8) (N := 10) hx hb hts in_X8_letRoundPass_X8 hown hK hP 0 rfl rfl 2 (by decide) (hts _ q_X8_letRoundPass_0) (fun _ h9 => h9) rfl dX8_letRoundPass_1 ?_
  refine z_iconst hx hb dX8_letRoundPass_4 ?_
  refine z_iadd hx hb dX8_letRoundPass_5 ?_
  refine lv_istore_n (lv' := [(2, .int (zi (t_roundsBy + 1))), (0, .ref ad_t), (1, .ref (sa (v1).toNat))]) hx hb dX8_letRoundPass_6 rfl hl (by decide) rfl (fun ls hl => ?_)
  refine lv_aload_n hx hb dX8_letRoundPass_7 rfl (lv_at hl 2 rfl) ?_
  refine lv_aload_n hx hb dX8_letRoundPass_8 rfl (lv_at hl 1 rfl) ?_
  refine lv_iload_n hx hb dX8_letRoundPass_9 rfl (lv_at hl 0 rfl) ?_
  obtain ⟨r_11, hc_12, h⟩ := zb h
  try dsimp only at h
  have hn10 : ∀ (H : Heap) (locs : List Loc), va_P (dC, dI) vwCl [kX8 ad_t ad_t_steps ad_t_line ad_t_gone ad_t_wentIn t_size t_there t_roundsBy t_kind t_figure t_stepCount, kI cA ad_t_steps 8 t_steps, kI cA ad_t_line 120 t_line, kI cA ad_t_gone 120 t_gone, kI cA ad_t_wentIn 121 t_wentIn, (sa 0, .inr (6, [])), (sa 1, .inr (5, [])), (sa 2, .inr (7, [])), (sa 3, .inr (1, [])), (sa 4, .inr (9, [])), (sa 5, .inr (2, [])), (sa 6, .inr (3, []))] H → va_D A [kX8 ad_t ad_t_steps ad_t_line ad_t_gone ad_t_wentIn t_size t_there t_roundsBy t_kind t_figure t_stepCount, kI cA ad_t_steps 8 t_steps, kI cA ad_t_line 120 t_line, kI cA ad_t_gone 120 t_gone, kI cA ad_t_wentIn 121 t_wentIn, (sa 0, .inr (6, [])), (sa 1, .inr (5, [])), (sa 2, .inr (7, [])), (sa 3, .inr (1, [])), (sa 4, .inr (9, [])), (sa 5, .inr (2, [])), (sa 6, .inr (3, []))] → va_S A s.heap H locs → W p l e { frames := 2, cells := 0, slots := 0, locals := 52 } s m ([.ref ad_t, .ref (sa (v1).toNat)] : List Value).toArray below meth c H locs 0 0 (MQ below (zQi (dC, dI) [kX8 ad_t ad_t_steps ad_t_line ad_t_gone ad_t_wentIn t_size t_there9 t_roundsBy9 t_kind t_figure t_stepCount, kI cA ad_t_steps 8 t_steps, kI cA ad_t_line 120 t_line9, kI cA ad_t_gone 120 t_gone9, kI cA ad_t_wentIn 121 t_wentIn9, (sa 0, .inr (6, [])), (sa 1, .inr (5, [])), (sa 2, .inr (7, [])), (sa 3, .inr (1, [])), (sa 4, .inr (9, [])), (sa 5, .inr (2, [])), (sa 6, .inr (3, []))] r0 A) ([.ref ad_t, .ref (sa (v1).toNat)] : List Value).toArray s 0 0 A) (F0 m 13 ls [.int (zi r_11)]) := by
    intro H locs hP hD hS
    refine lv_istore_n (lv' := [(3, .int (zi r_11)), (2, .int (zi (t_roundsBy + 1))), (0, .ref ad_t), (1, .ref (sa (v1).toNat))]) hx hb dX8_letRoundPass_13 rfl hl (by decide) rfl (fun ls hl => ?_)
    refine lv_aload_n hx hb dX8_letRoundPass_14 rfl (lv_at hl 2 rfl) ?_
    refine lv_iload_n hx hb dX8_letRoundPass_15 rfl (lv_at hl 0 rfl) ?_
    refine lv_aload_n hx hb dX8_letRoundPass_16 rfl (lv_at hl 3 rfl) ?_
    refine lv_iload_n hx hb dX8_letRoundPass_17 rfl (lv_at hl 0 rfl) ?_
    obtain ⟨r_13, hc_14, h⟩ := zb h
    try dsimp only at h
    have hn18 : ∀ (H : Heap) (locs : List Loc), va_P (dC, dI) vwCl [kX8 ad_t ad_t_steps ad_t_line ad_t_gone ad_t_wentIn t_size t_there t_roundsBy t_kind t_figure t_stepCount, kI cA ad_t_steps 8 t_steps, kI cA ad_t_line 120 t_line, kI cA ad_t_gone 120 t_gone, kI cA ad_t_wentIn 121 t_wentIn, (sa 0, .inr (6, [])), (sa 1, .inr (5, [])), (sa 2, .inr (7, [])), (sa 3, .inr (1, [])), (sa 4, .inr (9, [])), (sa 5, .inr (2, [])), (sa 6, .inr (3, []))] H → va_D A [kX8 ad_t ad_t_steps ad_t_line ad_t_gone ad_t_wentIn t_size t_there t_roundsBy t_kind t_figure t_stepCount, kI cA ad_t_steps 8 t_steps, kI cA ad_t_line 120 t_line, kI cA ad_t_gone 120 t_gone, kI cA ad_t_wentIn 121 t_wentIn, (sa 0, .inr (6, [])), (sa 1, .inr (5, [])), (sa 2, .inr (7, [])), (sa 3, .inr (1, [])), (sa 4, .inr (9, [])), (sa 5, .inr (2, [])), (sa 6, .inr (3, []))] → va_S A s.heap H locs → W p l e { frames := 2, cells := 0, slots := 0, locals := 52 } s m ([.ref ad_t, .ref (sa (v1).toNat)] : List Value).toArray below meth c H locs 0 0 (MQ below (zQi (dC, dI) [kX8 ad_t ad_t_steps ad_t_line ad_t_gone ad_t_wentIn t_size t_there9 t_roundsBy9 t_kind t_figure t_stepCount, kI cA ad_t_steps 8 t_steps, kI cA ad_t_line 120 t_line9, kI cA ad_t_gone 120 t_gone9, kI cA ad_t_wentIn 121 t_wentIn9, (sa 0, .inr (6, [])), (sa 1, .inr (5, [])), (sa 2, .inr (7, [])), (sa 3, .inr (1, [])), (sa 4, .inr (9, [])), (sa 5, .inr (2, [])), (sa 6, .inr (3, []))] r0 A) ([.ref ad_t, .ref (sa (v1).toNat)] : List Value).toArray s 0 0 A) (F0 m 21 ls [.int (zi r_13), .int (zi r_11), .ref ad_t]) := by
      intro H locs hP hD hS
      refine lv_aload_n hx hb dX8_letRoundPass_21 rfl (lv_at hl 3 rfl) ?_
      refine lv_iload_n hx hb dX8_letRoundPass_22 rfl (lv_at hl 1 rfl) ?_
      obtain ⟨r_15, hc_16, h⟩ := zb h
      try dsimp only at h
      have hn23 : ∀ (H : Heap) (locs : List Loc), va_P (dC, dI) vwCl [kX8 ad_t ad_t_steps ad_t_line ad_t_gone ad_t_wentIn t_size t_there t_roundsBy t_kind t_figure t_stepCount, kI cA ad_t_steps 8 t_steps, kI cA ad_t_line 120 t_line, kI cA ad_t_gone 120 t_gone, kI cA ad_t_wentIn 121 t_wentIn, (sa 0, .inr (6, [])), (sa 1, .inr (5, [])), (sa 2, .inr (7, [])), (sa 3, .inr (1, [])), (sa 4, .inr (9, [])), (sa 5, .inr (2, [])), (sa 6, .inr (3, []))] H → va_D A [kX8 ad_t ad_t_steps ad_t_line ad_t_gone ad_t_wentIn t_size t_there t_roundsBy t_kind t_figure t_stepCount, kI cA ad_t_steps 8 t_steps, kI cA ad_t_line 120 t_line, kI cA ad_t_gone 120 t_gone, kI cA ad_t_wentIn 121 t_wentIn, (sa 0, .inr (6, [])), (sa 1, .inr (5, [])), (sa 2, .inr (7, [])), (sa 3, .inr (1, [])), (sa 4, .inr (9, [])), (sa 5, .inr (2, [])), (sa 6, .inr (3, []))] → va_S A s.heap H locs → W p l e { frames := 2, cells := 0, slots := 0, locals := 52 } s m ([.ref ad_t, .ref (sa (v1).toNat)] : List Value).toArray below meth c H locs 0 0 (MQ below (zQi (dC, dI) [kX8 ad_t ad_t_steps ad_t_line ad_t_gone ad_t_wentIn t_size t_there9 t_roundsBy9 t_kind t_figure t_stepCount, kI cA ad_t_steps 8 t_steps, kI cA ad_t_line 120 t_line9, kI cA ad_t_gone 120 t_gone9, kI cA ad_t_wentIn 121 t_wentIn9, (sa 0, .inr (6, [])), (sa 1, .inr (5, [])), (sa 2, .inr (7, [])), (sa 3, .inr (1, [])), (sa 4, .inr (9, [])), (sa 5, .inr (2, [])), (sa 6, .inr (3, []))] r0 A) ([.ref ad_t, .ref (sa (v1).toNat)] : List Value).toArray s 0 0 A) (F0 m 26 ls [.int (zi r_15), .int (zi r_13), .int (zi r_11), .ref ad_t]) := by
        intro H locs hP hD hS
        obtain ⟨⟨r_17, t_there_18, t_roundsBy_19, t_line_20, t_gone_21, t_wentIn_22⟩, hc_23, h⟩ := zb h
        try dsimp only at h
        refine z_calliU (wc := [kX8 ad_t ad_t_steps ad_t_line ad_t_gone ad_t_wentIn t_size t_there t_roundsBy t_kind t_figure t_stepCount, kI cA ad_t_line 120 t_line, kI cA ad_t_gone 120 t_gone, kI cA ad_t_wentIn 121 t_wentIn]) (wc' := [kX8 ad_t ad_t_steps ad_t_line ad_t_gone ad_t_wentIn t_size t_there_18 t_roundsBy_19 t_kind t_figure t_stepCount, kI cA ad_t_line 120 t_line_20, kI cA ad_t_gone 120 t_gone_21, kI cA ad_t_wentIn 121 t_wentIn_22]) (ws' := [kX8 ad_t ad_t_steps ad_t_line ad_t_gone ad_t_wentIn t_size t_there_18 t_roundsBy_19 t_kind t_figure t_stepCount, kI cA ad_t_steps 8 t_steps, kI cA ad_t_line 120 t_line_20, kI cA ad_t_gone 120 t_gone_21, kI cA ad_t_wentIn 121 t_wentIn_22, (sa 0, .inr (6, [])), (sa 1, .inr (5, [])), (sa 2, .inr (7, [])), (sa 3, .inr (1, [])), (sa 4, .inr (9, [])), (sa 5, .inr (2, [])), (sa 6, .inr (3, []))]) (va_runV (As := [.int (zi r_11), .int (zi r_13), .int (zi r_15)]) (rest := []) ⟨hx, hb, hml, hown, hts⟩ (c_X8_strike l dC dI cA cN _ ad_t ad_t_steps ad_t_line ad_t_gone ad_t_wentIn t_size t_there t_roundsBy t_kind t_figure t_stepCount t_gone t_line t_wentIn r_11 r_13 r_15 r_17 t_there_18 t_roundsBy_19 t_line_20 t_gone_21 t_wentIn_22 hc_23) (cwV 3 hts gX8_letRoundPass_X8_strike rfl rfl rfl (by decide +kernel) ⟨Nat.le_of_ble_eq_true rfl, Nat.le_of_ble_eq_true rfl⟩) (zPc.preV hK hE hP hD [0, 2, 3, 4] rfl rfl (ci := 8) (q0 := 0) rfl rfl) rfl rfl hl.1 rfl (lv_room (Nat.le_of_ble_eq_true rfl)) dX8_letRoundPass_26 ⟨Nat.le_of_ble_eq_true rfl, Nat.le_of_ble_eq_true rfl⟩) hP hD hS hA [0, 2, 3, 4] rfl rfl rfl (fun H locs hP hD hS => ?_)
        cases h
        exact z_iret hx hb hr hlocks hP hD hS dX8_letRoundPass_29
      clear h
      unfold fv_isFromBack at hc_16
      by_cases hk : v1 = 0
      · have hc_16 := zit hc_16 hk
        subst hk
        refine z_calliU (wc := []) (wc' := []) (ws' := [kX8 ad_t ad_t_steps ad_t_line ad_t_gone ad_t_wentIn t_size t_there t_roundsBy t_kind t_figure t_stepCount, kI cA ad_t_steps 8 t_steps, kI cA ad_t_line 120 t_line, kI cA ad_t_gone 120 t_gone, kI cA ad_t_wentIn 121 t_wentIn, (sa 0, .inr (6, [])), (sa 1, .inr (5, [])), (sa 2, .inr (7, [])), (sa 3, .inr (1, [])), (sa 4, .inr (9, [])), (sa 5, .inr (2, [])), (sa 6, .inr (3, []))]) (va_runV (As := [.int (zi (t_roundsBy + 1))]) (rest := [.int (zi r_13), .int (zi r_11), .ref ad_t]) ⟨hx, hb, hml, hown, hts⟩ (c_X6_isFromBack l dC dI cA cN _ (sa 0) (t_roundsBy + 1) r_15 hc_16) (cwV 1 hts gX8_letRoundPass_X6_isFromBack rfl rfl rfl (by decide +kernel) ⟨Nat.le_of_ble_eq_true rfl, Nat.le_of_ble_eq_true rfl⟩) (zPc.preV hK hE hP hD [] rfl rfl (ci := 6) (q0 := 5) rfl rfl) rfl rfl hl.1 rfl (lv_room (Nat.le_of_ble_eq_true rfl)) dX8_letRoundPass_23 ⟨Nat.le_of_ble_eq_true rfl, Nat.le_of_ble_eq_true rfl⟩) hP hD hS hA [] rfl rfl rfl hn23
      · have hc_16 := zif hc_16 hk
        by_cases hk : v1 = 1
        · have hc_16 := zit hc_16 hk
          subst hk
          refine z_calliU (wc := []) (wc' := []) (ws' := [kX8 ad_t ad_t_steps ad_t_line ad_t_gone ad_t_wentIn t_size t_there t_roundsBy t_kind t_figure t_stepCount, kI cA ad_t_steps 8 t_steps, kI cA ad_t_line 120 t_line, kI cA ad_t_gone 120 t_gone, kI cA ad_t_wentIn 121 t_wentIn, (sa 0, .inr (6, [])), (sa 1, .inr (5, [])), (sa 2, .inr (7, [])), (sa 3, .inr (1, [])), (sa 4, .inr (9, [])), (sa 5, .inr (2, [])), (sa 6, .inr (3, []))]) (va_runU (As := [.int (zi (t_roundsBy + 1))]) (rest := [.int (zi r_13), .int (zi r_11), .ref ad_t]) ⟨hx, hb, hml, hown, hts⟩ (c_X6_isFromBack l dC dI cA cN _ (sa 1) (t_roundsBy + 1) r_15 hc_16) (va_cwU 1 hts gX8_letRoundPass_X6_isFromBack_u75X5 rfl rfl rfl rfl (by decide +kernel) ⟨Nat.le_of_ble_eq_true rfl, Nat.le_of_ble_eq_true rfl⟩) (zPc.preV hK hE hP hD [] rfl rfl (ci := 5) (q0 := 6) rfl rfl) rfl rfl hl.1 rfl (lv_room (Nat.le_of_ble_eq_true rfl)) dX8_letRoundPass_23 ⟨Nat.le_of_ble_eq_true rfl, Nat.le_of_ble_eq_true rfl⟩) hP hD hS hA [] rfl rfl rfl hn23
        · have hc_16 := zif hc_16 hk
          by_cases hk : v1 = 2
          · have hc_16 := zit hc_16 hk
            subst hk
            refine z_calliU (wc := []) (wc' := []) (ws' := [kX8 ad_t ad_t_steps ad_t_line ad_t_gone ad_t_wentIn t_size t_there t_roundsBy t_kind t_figure t_stepCount, kI cA ad_t_steps 8 t_steps, kI cA ad_t_line 120 t_line, kI cA ad_t_gone 120 t_gone, kI cA ad_t_wentIn 121 t_wentIn, (sa 0, .inr (6, [])), (sa 1, .inr (5, [])), (sa 2, .inr (7, [])), (sa 3, .inr (1, [])), (sa 4, .inr (9, [])), (sa 5, .inr (2, [])), (sa 6, .inr (3, []))]) (va_runU (As := [.int (zi (t_roundsBy + 1))]) (rest := [.int (zi r_13), .int (zi r_11), .ref ad_t]) ⟨hx, hb, hml, hown, hts⟩ (c_X6_isFromBack l dC dI cA cN _ (sa 2) (t_roundsBy + 1) r_15 hc_16) (va_cwU 1 hts gX8_letRoundPass_X6_isFromBack_u75X7 rfl rfl rfl rfl (by decide +kernel) ⟨Nat.le_of_ble_eq_true rfl, Nat.le_of_ble_eq_true rfl⟩) (zPc.preV hK hE hP hD [] rfl rfl (ci := 7) (q0 := 7) rfl rfl) rfl rfl hl.1 rfl (lv_room (Nat.le_of_ble_eq_true rfl)) dX8_letRoundPass_23 ⟨Nat.le_of_ble_eq_true rfl, Nat.le_of_ble_eq_true rfl⟩) hP hD hS hA [] rfl rfl rfl hn23
          · have hc_16 := zif hc_16 hk
            by_cases hk : v1 = 3
            · have hc_16 := zit hc_16 hk
              subst hk
              refine z_calliU (wc := []) (wc' := []) (ws' := [kX8 ad_t ad_t_steps ad_t_line ad_t_gone ad_t_wentIn t_size t_there t_roundsBy t_kind t_figure t_stepCount, kI cA ad_t_steps 8 t_steps, kI cA ad_t_line 120 t_line, kI cA ad_t_gone 120 t_gone, kI cA ad_t_wentIn 121 t_wentIn, (sa 0, .inr (6, [])), (sa 1, .inr (5, [])), (sa 2, .inr (7, [])), (sa 3, .inr (1, [])), (sa 4, .inr (9, [])), (sa 5, .inr (2, [])), (sa 6, .inr (3, []))]) (va_runU (As := [.int (zi (t_roundsBy + 1))]) (rest := [.int (zi r_13), .int (zi r_11), .ref ad_t]) ⟨hx, hb, hml, hown, hts⟩ (c_X1_isFromBack l dC dI cA cN _ (sa 3) (t_roundsBy + 1) r_15 hc_16) (va_cwO 1 hts gX8_letRoundPass_X1_isFromBack_u75X1 rfl rfl rfl q_X8_letRoundPass_1 (by decide +kernel) ⟨Nat.le_of_ble_eq_true rfl, Nat.le_of_ble_eq_true rfl⟩) (zPc.preV hK hE hP hD [] rfl rfl (ci := 1) (q0 := 8) rfl rfl) rfl rfl hl.1 rfl (lv_room (Nat.le_of_ble_eq_true rfl)) dX8_letRoundPass_23 ⟨Nat.le_of_ble_eq_true rfl, Nat.le_of_ble_eq_true rfl⟩) hP hD hS hA [] rfl rfl rfl hn23
            · have hc_16 := zif hc_16 hk
              by_cases hk : v1 = 4
              · have hc_16 := zit hc_16 hk
                subst hk
                refine z_calliU (wc := []) (wc' := []) (ws' := [kX8 ad_t ad_t_steps ad_t_line ad_t_gone ad_t_wentIn t_size t_there t_roundsBy t_kind t_figure t_stepCount, kI cA ad_t_steps 8 t_steps, kI cA ad_t_line 120 t_line, kI cA ad_t_gone 120 t_gone, kI cA ad_t_wentIn 121 t_wentIn, (sa 0, .inr (6, [])), (sa 1, .inr (5, [])), (sa 2, .inr (7, [])), (sa 3, .inr (1, [])), (sa 4, .inr (9, [])), (sa 5, .inr (2, [])), (sa 6, .inr (3, []))]) (va_runU (As := [.int (zi (t_roundsBy + 1))]) (rest := [.int (zi r_13), .int (zi r_11), .ref ad_t]) ⟨hx, hb, hml, hown, hts⟩ (c_X6_isFromBack l dC dI cA cN _ (sa 4) (t_roundsBy + 1) r_15 hc_16) (va_cwU 1 hts gX8_letRoundPass_X6_isFromBack_u75X9 rfl rfl rfl rfl (by decide +kernel) ⟨Nat.le_of_ble_eq_true rfl, Nat.le_of_ble_eq_true rfl⟩) (zPc.preV hK hE hP hD [] rfl rfl (ci := 9) (q0 := 9) rfl rfl) rfl rfl hl.1 rfl (lv_room (Nat.le_of_ble_eq_true rfl)) dX8_letRoundPass_23 ⟨Nat.le_of_ble_eq_true rfl, Nat.le_of_ble_eq_true rfl⟩) hP hD hS hA [] rfl rfl rfl hn23
              · have hc_16 := zif hc_16 hk
                by_cases hk : v1 = 5
                · have hc_16 := zit hc_16 hk
                  subst hk
                  refine z_calliU (wc := []) (wc' := []) (ws' := [kX8 ad_t ad_t_steps ad_t_line ad_t_gone ad_t_wentIn t_size t_there t_roundsBy t_kind t_figure t_stepCount, kI cA ad_t_steps 8 t_steps, kI cA ad_t_line 120 t_line, kI cA ad_t_gone 120 t_gone, kI cA ad_t_wentIn 121 t_wentIn, (sa 0, .inr (6, [])), (sa 1, .inr (5, [])), (sa 2, .inr (7, [])), (sa 3, .inr (1, [])), (sa 4, .inr (9, [])), (sa 5, .inr (2, [])), (sa 6, .inr (3, []))]) (va_runU (As := [.int (zi (t_roundsBy + 1))]) (rest := [.int (zi r_13), .int (zi r_11), .ref ad_t]) ⟨hx, hb, hml, hown, hts⟩ (c_X6_isFromBack l dC dI cA cN _ (sa 5) (t_roundsBy + 1) r_15 hc_16) (va_cwU 1 hts gX8_letRoundPass_X6_isFromBack_u75X2 rfl rfl rfl rfl (by decide +kernel) ⟨Nat.le_of_ble_eq_true rfl, Nat.le_of_ble_eq_true rfl⟩) (zPc.preV hK hE hP hD [] rfl rfl (ci := 2) (q0 := 10) rfl rfl) rfl rfl hl.1 rfl (lv_room (Nat.le_of_ble_eq_true rfl)) dX8_letRoundPass_23 ⟨Nat.le_of_ble_eq_true rfl, Nat.le_of_ble_eq_true rfl⟩) hP hD hS hA [] rfl rfl rfl hn23
                · have hc_16 := zif hc_16 hk
                  by_cases hk : v1 = 6
                  · have hc_16 := zit hc_16 hk
                    subst hk
                    refine z_calliU (wc := []) (wc' := []) (ws' := [kX8 ad_t ad_t_steps ad_t_line ad_t_gone ad_t_wentIn t_size t_there t_roundsBy t_kind t_figure t_stepCount, kI cA ad_t_steps 8 t_steps, kI cA ad_t_line 120 t_line, kI cA ad_t_gone 120 t_gone, kI cA ad_t_wentIn 121 t_wentIn, (sa 0, .inr (6, [])), (sa 1, .inr (5, [])), (sa 2, .inr (7, [])), (sa 3, .inr (1, [])), (sa 4, .inr (9, [])), (sa 5, .inr (2, [])), (sa 6, .inr (3, []))]) (va_runU (As := [.int (zi (t_roundsBy + 1))]) (rest := [.int (zi r_13), .int (zi r_11), .ref ad_t]) ⟨hx, hb, hml, hown, hts⟩ (c_X1_isFromBack l dC dI cA cN _ (sa 6) (t_roundsBy + 1) r_15 hc_16) (va_cwO 1 hts gX8_letRoundPass_X1_isFromBack_u75X3 rfl rfl rfl q_X8_letRoundPass_1 (by decide +kernel) ⟨Nat.le_of_ble_eq_true rfl, Nat.le_of_ble_eq_true rfl⟩) (zPc.preV hK hE hP hD [] rfl rfl (ci := 3) (q0 := 11) rfl rfl) rfl rfl hl.1 rfl (lv_room (Nat.le_of_ble_eq_true rfl)) dX8_letRoundPass_23 ⟨Nat.le_of_ble_eq_true rfl, Nat.le_of_ble_eq_true rfl⟩) hP hD hS hA [] rfl rfl rfl hn23
                  · have hc_16 := zif hc_16 hk
                    cases hc_16
    clear h
    unfold fv_firstPlace at hc_14
    by_cases hk : v1 = 0
    · have hc_14 := zit hc_14 hk
      subst hk
      refine z_calliU (wc := []) (wc' := []) (ws' := [kX8 ad_t ad_t_steps ad_t_line ad_t_gone ad_t_wentIn t_size t_there t_roundsBy t_kind t_figure t_stepCount, kI cA ad_t_steps 8 t_steps, kI cA ad_t_line 120 t_line, kI cA ad_t_gone 120 t_gone, kI cA ad_t_wentIn 121 t_wentIn, (sa 0, .inr (6, [])), (sa 1, .inr (5, [])), (sa 2, .inr (7, [])), (sa 3, .inr (1, [])), (sa 4, .inr (9, [])), (sa 5, .inr (2, [])), (sa 6, .inr (3, []))]) (va_runV (As := [.int (zi r_11)]) (rest := [.int (zi r_11), .ref ad_t]) ⟨hx, hb, hml, hown, hts⟩ (c_X6_firstPlace l dC dI cA cN _ (sa 0) r_11 r_13 hc_14) (cwV 1 hts gX8_letRoundPass_X6_firstPlace rfl rfl rfl (by decide +kernel) ⟨Nat.le_of_ble_eq_true rfl, Nat.le_of_ble_eq_true rfl⟩) (zPc.preV hK hE hP hD [] rfl rfl (ci := 6) (q0 := 5) rfl rfl) rfl rfl hl.1 rfl (lv_room (Nat.le_of_ble_eq_true rfl)) dX8_letRoundPass_18 ⟨Nat.le_of_ble_eq_true rfl, Nat.le_of_ble_eq_true rfl⟩) hP hD hS hA [] rfl rfl rfl hn18
    · have hc_14 := zif hc_14 hk
      by_cases hk : v1 = 1
      · have hc_14 := zit hc_14 hk
        subst hk
        refine z_calliU (wc := []) (wc' := []) (ws' := [kX8 ad_t ad_t_steps ad_t_line ad_t_gone ad_t_wentIn t_size t_there t_roundsBy t_kind t_figure t_stepCount, kI cA ad_t_steps 8 t_steps, kI cA ad_t_line 120 t_line, kI cA ad_t_gone 120 t_gone, kI cA ad_t_wentIn 121 t_wentIn, (sa 0, .inr (6, [])), (sa 1, .inr (5, [])), (sa 2, .inr (7, [])), (sa 3, .inr (1, [])), (sa 4, .inr (9, [])), (sa 5, .inr (2, [])), (sa 6, .inr (3, []))]) (va_runU (As := [.int (zi r_11)]) (rest := [.int (zi r_11), .ref ad_t]) ⟨hx, hb, hml, hown, hts⟩ (c_X6_firstPlace l dC dI cA cN _ (sa 1) r_11 r_13 hc_14) (va_cwU 1 hts gX8_letRoundPass_X6_firstPlace_u72X5 rfl rfl rfl rfl (by decide +kernel) ⟨Nat.le_of_ble_eq_true rfl, Nat.le_of_ble_eq_true rfl⟩) (zPc.preV hK hE hP hD [] rfl rfl (ci := 5) (q0 := 6) rfl rfl) rfl rfl hl.1 rfl (lv_room (Nat.le_of_ble_eq_true rfl)) dX8_letRoundPass_18 ⟨Nat.le_of_ble_eq_true rfl, Nat.le_of_ble_eq_true rfl⟩) hP hD hS hA [] rfl rfl rfl hn18
      · have hc_14 := zif hc_14 hk
        by_cases hk : v1 = 2
        · have hc_14 := zit hc_14 hk
          subst hk
          refine z_calliU (wc := []) (wc' := []) (ws' := [kX8 ad_t ad_t_steps ad_t_line ad_t_gone ad_t_wentIn t_size t_there t_roundsBy t_kind t_figure t_stepCount, kI cA ad_t_steps 8 t_steps, kI cA ad_t_line 120 t_line, kI cA ad_t_gone 120 t_gone, kI cA ad_t_wentIn 121 t_wentIn, (sa 0, .inr (6, [])), (sa 1, .inr (5, [])), (sa 2, .inr (7, [])), (sa 3, .inr (1, [])), (sa 4, .inr (9, [])), (sa 5, .inr (2, [])), (sa 6, .inr (3, []))]) (va_runU (As := [.int (zi r_11)]) (rest := [.int (zi r_11), .ref ad_t]) ⟨hx, hb, hml, hown, hts⟩ (c_X6_firstPlace l dC dI cA cN _ (sa 2) r_11 r_13 hc_14) (va_cwU 1 hts gX8_letRoundPass_X6_firstPlace_u72X7 rfl rfl rfl rfl (by decide +kernel) ⟨Nat.le_of_ble_eq_true rfl, Nat.le_of_ble_eq_true rfl⟩) (zPc.preV hK hE hP hD [] rfl rfl (ci := 7) (q0 := 7) rfl rfl) rfl rfl hl.1 rfl (lv_room (Nat.le_of_ble_eq_true rfl)) dX8_letRoundPass_18 ⟨Nat.le_of_ble_eq_true rfl, Nat.le_of_ble_eq_true rfl⟩) hP hD hS hA [] rfl rfl rfl hn18
        · have hc_14 := zif hc_14 hk
          by_cases hk : v1 = 3
          · have hc_14 := zit hc_14 hk
            subst hk
            refine z_calliU (wc := []) (wc' := []) (ws' := [kX8 ad_t ad_t_steps ad_t_line ad_t_gone ad_t_wentIn t_size t_there t_roundsBy t_kind t_figure t_stepCount, kI cA ad_t_steps 8 t_steps, kI cA ad_t_line 120 t_line, kI cA ad_t_gone 120 t_gone, kI cA ad_t_wentIn 121 t_wentIn, (sa 0, .inr (6, [])), (sa 1, .inr (5, [])), (sa 2, .inr (7, [])), (sa 3, .inr (1, [])), (sa 4, .inr (9, [])), (sa 5, .inr (2, [])), (sa 6, .inr (3, []))]) (va_runU (As := [.int (zi r_11)]) (rest := [.int (zi r_11), .ref ad_t]) ⟨hx, hb, hml, hown, hts⟩ (c_X6_firstPlace l dC dI cA cN _ (sa 3) r_11 r_13 hc_14) (va_cwU 1 hts gX8_letRoundPass_X6_firstPlace_u72X1 rfl rfl rfl rfl (by decide +kernel) ⟨Nat.le_of_ble_eq_true rfl, Nat.le_of_ble_eq_true rfl⟩) (zPc.preV hK hE hP hD [] rfl rfl (ci := 1) (q0 := 8) rfl rfl) rfl rfl hl.1 rfl (lv_room (Nat.le_of_ble_eq_true rfl)) dX8_letRoundPass_18 ⟨Nat.le_of_ble_eq_true rfl, Nat.le_of_ble_eq_true rfl⟩) hP hD hS hA [] rfl rfl rfl hn18
          · have hc_14 := zif hc_14 hk
            by_cases hk : v1 = 4
            · have hc_14 := zit hc_14 hk
              subst hk
              refine z_calliU (wc := []) (wc' := []) (ws' := [kX8 ad_t ad_t_steps ad_t_line ad_t_gone ad_t_wentIn t_size t_there t_roundsBy t_kind t_figure t_stepCount, kI cA ad_t_steps 8 t_steps, kI cA ad_t_line 120 t_line, kI cA ad_t_gone 120 t_gone, kI cA ad_t_wentIn 121 t_wentIn, (sa 0, .inr (6, [])), (sa 1, .inr (5, [])), (sa 2, .inr (7, [])), (sa 3, .inr (1, [])), (sa 4, .inr (9, [])), (sa 5, .inr (2, [])), (sa 6, .inr (3, []))]) (va_runU (As := [.int (zi r_11)]) (rest := [.int (zi r_11), .ref ad_t]) ⟨hx, hb, hml, hown, hts⟩ (c_X6_firstPlace l dC dI cA cN _ (sa 4) r_11 r_13 hc_14) (va_cwU 1 hts gX8_letRoundPass_X6_firstPlace_u72X9 rfl rfl rfl rfl (by decide +kernel) ⟨Nat.le_of_ble_eq_true rfl, Nat.le_of_ble_eq_true rfl⟩) (zPc.preV hK hE hP hD [] rfl rfl (ci := 9) (q0 := 9) rfl rfl) rfl rfl hl.1 rfl (lv_room (Nat.le_of_ble_eq_true rfl)) dX8_letRoundPass_18 ⟨Nat.le_of_ble_eq_true rfl, Nat.le_of_ble_eq_true rfl⟩) hP hD hS hA [] rfl rfl rfl hn18
            · have hc_14 := zif hc_14 hk
              by_cases hk : v1 = 5
              · have hc_14 := zit hc_14 hk
                subst hk
                refine z_calliU (wc := []) (wc' := []) (ws' := [kX8 ad_t ad_t_steps ad_t_line ad_t_gone ad_t_wentIn t_size t_there t_roundsBy t_kind t_figure t_stepCount, kI cA ad_t_steps 8 t_steps, kI cA ad_t_line 120 t_line, kI cA ad_t_gone 120 t_gone, kI cA ad_t_wentIn 121 t_wentIn, (sa 0, .inr (6, [])), (sa 1, .inr (5, [])), (sa 2, .inr (7, [])), (sa 3, .inr (1, [])), (sa 4, .inr (9, [])), (sa 5, .inr (2, [])), (sa 6, .inr (3, []))]) (va_runU (As := [.int (zi r_11)]) (rest := [.int (zi r_11), .ref ad_t]) ⟨hx, hb, hml, hown, hts⟩ (c_X2_firstPlace l dC dI cA cN _ (sa 5) r_11 r_13 hc_14) (va_cwO 1 hts gX8_letRoundPass_X2_firstPlace_u72X2 rfl rfl rfl q_X8_letRoundPass_2 (by decide +kernel) ⟨Nat.le_of_ble_eq_true rfl, Nat.le_of_ble_eq_true rfl⟩) (zPc.preV hK hE hP hD [] rfl rfl (ci := 2) (q0 := 10) rfl rfl) rfl rfl hl.1 rfl (lv_room (Nat.le_of_ble_eq_true rfl)) dX8_letRoundPass_18 ⟨Nat.le_of_ble_eq_true rfl, Nat.le_of_ble_eq_true rfl⟩) hP hD hS hA [] rfl rfl rfl hn18
              · have hc_14 := zif hc_14 hk
                by_cases hk : v1 = 6
                · have hc_14 := zit hc_14 hk
                  subst hk
                  refine z_calliU (wc := []) (wc' := []) (ws' := [kX8 ad_t ad_t_steps ad_t_line ad_t_gone ad_t_wentIn t_size t_there t_roundsBy t_kind t_figure t_stepCount, kI cA ad_t_steps 8 t_steps, kI cA ad_t_line 120 t_line, kI cA ad_t_gone 120 t_gone, kI cA ad_t_wentIn 121 t_wentIn, (sa 0, .inr (6, [])), (sa 1, .inr (5, [])), (sa 2, .inr (7, [])), (sa 3, .inr (1, [])), (sa 4, .inr (9, [])), (sa 5, .inr (2, [])), (sa 6, .inr (3, []))]) (va_runU (As := [.int (zi r_11)]) (rest := [.int (zi r_11), .ref ad_t]) ⟨hx, hb, hml, hown, hts⟩ (c_X6_firstPlace l dC dI cA cN _ (sa 6) r_11 r_13 hc_14) (va_cwU 1 hts gX8_letRoundPass_X6_firstPlace_u72X3 rfl rfl rfl rfl (by decide +kernel) ⟨Nat.le_of_ble_eq_true rfl, Nat.le_of_ble_eq_true rfl⟩) (zPc.preV hK hE hP hD [] rfl rfl (ci := 3) (q0 := 11) rfl rfl) rfl rfl hl.1 rfl (lv_room (Nat.le_of_ble_eq_true rfl)) dX8_letRoundPass_18 ⟨Nat.le_of_ble_eq_true rfl, Nat.le_of_ble_eq_true rfl⟩) hP hD hS hA [] rfl rfl rfl hn18
                · have hc_14 := zif hc_14 hk
                  cases hc_14
  clear h
  unfold fv_countIn at hc_12
  by_cases hk : v1 = 0
  · have hc_12 := zit hc_12 hk
    subst hk
    refine z_calliU (wc := []) (wc' := []) (ws' := [kX8 ad_t ad_t_steps ad_t_line ad_t_gone ad_t_wentIn t_size t_there t_roundsBy t_kind t_figure t_stepCount, kI cA ad_t_steps 8 t_steps, kI cA ad_t_line 120 t_line, kI cA ad_t_gone 120 t_gone, kI cA ad_t_wentIn 121 t_wentIn, (sa 0, .inr (6, [])), (sa 1, .inr (5, [])), (sa 2, .inr (7, [])), (sa 3, .inr (1, [])), (sa 4, .inr (9, [])), (sa 5, .inr (2, [])), (sa 6, .inr (3, []))]) (va_runV (As := [.ref ad_t, .int (zi (t_roundsBy + 1))]) (rest := []) ⟨hx, hb, hml, hown, hts⟩ (c_X6_countIn l dC dI cA cN _ (sa 0) ad_t (t_roundsBy + 1) r_11 hc_12) (cwV 2 hts gX8_letRoundPass_X6_countIn rfl rfl rfl (by decide +kernel) ⟨Nat.le_of_ble_eq_true rfl, Nat.le_of_ble_eq_true rfl⟩) (zPc.preV hK hE hP hD [] rfl rfl (ci := 6) (q0 := 5) rfl rfl) rfl rfl hl.1 rfl (lv_room (Nat.le_of_ble_eq_true rfl)) dX8_letRoundPass_10 ⟨Nat.le_of_ble_eq_true rfl, Nat.le_of_ble_eq_true rfl⟩) hP hD hS hA [] rfl rfl rfl hn10
  · have hc_12 := zif hc_12 hk
    by_cases hk : v1 = 1
    · have hc_12 := zit hc_12 hk
      subst hk
      refine z_calliU (wc := [kX8 ad_t ad_t_steps ad_t_line ad_t_gone ad_t_wentIn t_size t_there t_roundsBy t_kind t_figure t_stepCount, kI cA ad_t_line 120 t_line]) (wc' := [kX8 ad_t ad_t_steps ad_t_line ad_t_gone ad_t_wentIn t_size t_there t_roundsBy t_kind t_figure t_stepCount, kI cA ad_t_line 120 t_line]) (ws' := [kX8 ad_t ad_t_steps ad_t_line ad_t_gone ad_t_wentIn t_size t_there t_roundsBy t_kind t_figure t_stepCount, kI cA ad_t_steps 8 t_steps, kI cA ad_t_line 120 t_line, kI cA ad_t_gone 120 t_gone, kI cA ad_t_wentIn 121 t_wentIn, (sa 0, .inr (6, [])), (sa 1, .inr (5, [])), (sa 2, .inr (7, [])), (sa 3, .inr (1, [])), (sa 4, .inr (9, [])), (sa 5, .inr (2, [])), (sa 6, .inr (3, []))]) (va_runU (As := [.ref ad_t, .int (zi (t_roundsBy + 1))]) (rest := []) ⟨hx, hb, hml, hown, hts⟩ (c_X5_countIn l dC dI cA cN _ ad_t ad_t_steps ad_t_line ad_t_gone ad_t_wentIn (sa 1) t_size t_there t_roundsBy t_kind t_figure t_stepCount t_line (t_roundsBy + 1) r_11 hc_12) (va_cwO 2 hts gX8_letRoundPass_X5_countIn_u66X5 rfl rfl rfl q_X8_letRoundPass_3 (by decide +kernel) ⟨Nat.le_of_ble_eq_true rfl, Nat.le_of_ble_eq_true rfl⟩) (zPc.preV hK hE hP hD [0, 2] rfl rfl (ci := 5) (q0 := 6) rfl rfl) rfl rfl hl.1 rfl (lv_room (Nat.le_of_ble_eq_true rfl)) dX8_letRoundPass_10 ⟨Nat.le_of_ble_eq_true rfl, Nat.le_of_ble_eq_true rfl⟩) hP hD hS hA [0, 2] rfl rfl rfl hn10
    · have hc_12 := zif hc_12 hk
      by_cases hk : v1 = 2
      · have hc_12 := zit hc_12 hk
        subst hk
        refine z_calliU (wc := [kX8 ad_t ad_t_steps ad_t_line ad_t_gone ad_t_wentIn t_size t_there t_roundsBy t_kind t_figure t_stepCount]) (wc' := [kX8 ad_t ad_t_steps ad_t_line ad_t_gone ad_t_wentIn t_size t_there t_roundsBy t_kind t_figure t_stepCount]) (ws' := [kX8 ad_t ad_t_steps ad_t_line ad_t_gone ad_t_wentIn t_size t_there t_roundsBy t_kind t_figure t_stepCount, kI cA ad_t_steps 8 t_steps, kI cA ad_t_line 120 t_line, kI cA ad_t_gone 120 t_gone, kI cA ad_t_wentIn 121 t_wentIn, (sa 0, .inr (6, [])), (sa 1, .inr (5, [])), (sa 2, .inr (7, [])), (sa 3, .inr (1, [])), (sa 4, .inr (9, [])), (sa 5, .inr (2, [])), (sa 6, .inr (3, []))]) (va_runU (As := [.ref ad_t, .int (zi (t_roundsBy + 1))]) (rest := []) ⟨hx, hb, hml, hown, hts⟩ (c_X7_countIn l dC dI cA cN _ ad_t ad_t_steps ad_t_line ad_t_gone ad_t_wentIn (sa 2) t_size t_there t_roundsBy t_kind t_figure t_stepCount (t_roundsBy + 1) r_11 hc_12) (va_cwO 2 hts gX8_letRoundPass_X7_countIn_u66X7 rfl rfl rfl q_X8_letRoundPass_3 (by decide +kernel) ⟨Nat.le_of_ble_eq_true rfl, Nat.le_of_ble_eq_true rfl⟩) (zPc.preV hK hE hP hD [0] rfl rfl (ci := 7) (q0 := 7) rfl rfl) rfl rfl hl.1 rfl (lv_room (Nat.le_of_ble_eq_true rfl)) dX8_letRoundPass_10 ⟨Nat.le_of_ble_eq_true rfl, Nat.le_of_ble_eq_true rfl⟩) hP hD hS hA [0] rfl rfl rfl hn10
      · have hc_12 := zif hc_12 hk
        by_cases hk : v1 = 3
        · have hc_12 := zit hc_12 hk
          subst hk
          refine z_calliU (wc := []) (wc' := []) (ws' := [kX8 ad_t ad_t_steps ad_t_line ad_t_gone ad_t_wentIn t_size t_there t_roundsBy t_kind t_figure t_stepCount, kI cA ad_t_steps 8 t_steps, kI cA ad_t_line 120 t_line, kI cA ad_t_gone 120 t_gone, kI cA ad_t_wentIn 121 t_wentIn, (sa 0, .inr (6, [])), (sa 1, .inr (5, [])), (sa 2, .inr (7, [])), (sa 3, .inr (1, [])), (sa 4, .inr (9, [])), (sa 5, .inr (2, [])), (sa 6, .inr (3, []))]) (va_runU (As := [.ref ad_t, .int (zi (t_roundsBy + 1))]) (rest := []) ⟨hx, hb, hml, hown, hts⟩ (c_X6_countIn l dC dI cA cN _ (sa 3) ad_t (t_roundsBy + 1) r_11 hc_12) (va_cwU 2 hts gX8_letRoundPass_X6_countIn_u66X1 rfl rfl rfl rfl (by decide +kernel) ⟨Nat.le_of_ble_eq_true rfl, Nat.le_of_ble_eq_true rfl⟩) (zPc.preV hK hE hP hD [] rfl rfl (ci := 1) (q0 := 8) rfl rfl) rfl rfl hl.1 rfl (lv_room (Nat.le_of_ble_eq_true rfl)) dX8_letRoundPass_10 ⟨Nat.le_of_ble_eq_true rfl, Nat.le_of_ble_eq_true rfl⟩) hP hD hS hA [] rfl rfl rfl hn10
        · have hc_12 := zif hc_12 hk
          by_cases hk : v1 = 4
          · have hc_12 := zit hc_12 hk
            subst hk
            refine z_calliU (wc := [(sa 4, .inr (9, [])), kX8 ad_t ad_t_steps ad_t_line ad_t_gone ad_t_wentIn t_size t_there t_roundsBy t_kind t_figure t_stepCount, kI cA ad_t_steps 8 t_steps]) (wc' := [(sa 4, .inr (9, [])), kX8 ad_t ad_t_steps ad_t_line ad_t_gone ad_t_wentIn t_size t_there t_roundsBy t_kind t_figure t_stepCount, kI cA ad_t_steps 8 t_steps]) (ws' := [kX8 ad_t ad_t_steps ad_t_line ad_t_gone ad_t_wentIn t_size t_there t_roundsBy t_kind t_figure t_stepCount, kI cA ad_t_steps 8 t_steps, kI cA ad_t_line 120 t_line, kI cA ad_t_gone 120 t_gone, kI cA ad_t_wentIn 121 t_wentIn, (sa 0, .inr (6, [])), (sa 1, .inr (5, [])), (sa 2, .inr (7, [])), (sa 3, .inr (1, [])), (sa 4, .inr (9, [])), (sa 5, .inr (2, [])), (sa 6, .inr (3, []))]) (va_runU (As := [.ref ad_t, .int (zi (t_roundsBy + 1))]) (rest := []) ⟨hx, hb, hml, hown, hts⟩ (c_X9_countIn l dC dI cA cN _ (sa 4) ad_t ad_t_steps ad_t_line ad_t_gone ad_t_wentIn t_size t_there t_roundsBy t_kind t_figure t_stepCount t_steps (t_roundsBy + 1) r_11 hc_12) (va_cwO 2 hts gX8_letRoundPass_X9_countIn_u66X9 rfl rfl rfl q_X8_letRoundPass_3 (by decide +kernel) ⟨Nat.le_of_ble_eq_true rfl, Nat.le_of_ble_eq_true rfl⟩) (zPc.preV hK hE hP hD [9, 0, 1] rfl rfl (ci := 9) (q0 := 9) rfl rfl) rfl rfl hl.1 rfl (lv_room (Nat.le_of_ble_eq_true rfl)) dX8_letRoundPass_10 ⟨Nat.le_of_ble_eq_true rfl, Nat.le_of_ble_eq_true rfl⟩) hP hD hS hA [9, 0, 1] rfl rfl rfl hn10
          · have hc_12 := zif hc_12 hk
            by_cases hk : v1 = 5
            · have hc_12 := zit hc_12 hk
              subst hk
              refine z_calliU (wc := []) (wc' := []) (ws' := [kX8 ad_t ad_t_steps ad_t_line ad_t_gone ad_t_wentIn t_size t_there t_roundsBy t_kind t_figure t_stepCount, kI cA ad_t_steps 8 t_steps, kI cA ad_t_line 120 t_line, kI cA ad_t_gone 120 t_gone, kI cA ad_t_wentIn 121 t_wentIn, (sa 0, .inr (6, [])), (sa 1, .inr (5, [])), (sa 2, .inr (7, [])), (sa 3, .inr (1, [])), (sa 4, .inr (9, [])), (sa 5, .inr (2, [])), (sa 6, .inr (3, []))]) (va_runU (As := [.ref ad_t, .int (zi (t_roundsBy + 1))]) (rest := []) ⟨hx, hb, hml, hown, hts⟩ (c_X6_countIn l dC dI cA cN _ (sa 5) ad_t (t_roundsBy + 1) r_11 hc_12) (va_cwU 2 hts gX8_letRoundPass_X6_countIn_u66X2 rfl rfl rfl rfl (by decide +kernel) ⟨Nat.le_of_ble_eq_true rfl, Nat.le_of_ble_eq_true rfl⟩) (zPc.preV hK hE hP hD [] rfl rfl (ci := 2) (q0 := 10) rfl rfl) rfl rfl hl.1 rfl (lv_room (Nat.le_of_ble_eq_true rfl)) dX8_letRoundPass_10 ⟨Nat.le_of_ble_eq_true rfl, Nat.le_of_ble_eq_true rfl⟩) hP hD hS hA [] rfl rfl rfl hn10
            · have hc_12 := zif hc_12 hk
              by_cases hk : v1 = 6
              · have hc_12 := zit hc_12 hk
                subst hk
                refine z_calliU (wc := []) (wc' := []) (ws' := [kX8 ad_t ad_t_steps ad_t_line ad_t_gone ad_t_wentIn t_size t_there t_roundsBy t_kind t_figure t_stepCount, kI cA ad_t_steps 8 t_steps, kI cA ad_t_line 120 t_line, kI cA ad_t_gone 120 t_gone, kI cA ad_t_wentIn 121 t_wentIn, (sa 0, .inr (6, [])), (sa 1, .inr (5, [])), (sa 2, .inr (7, [])), (sa 3, .inr (1, [])), (sa 4, .inr (9, [])), (sa 5, .inr (2, [])), (sa 6, .inr (3, []))]) (va_runU (As := [.ref ad_t, .int (zi (t_roundsBy + 1))]) (rest := []) ⟨hx, hb, hml, hown, hts⟩ (c_X3_countIn l dC dI cA cN _ (sa 6) ad_t (t_roundsBy + 1) r_11 hc_12) (va_cwO 2 hts gX8_letRoundPass_X3_countIn_u66X3 rfl rfl rfl q_X8_letRoundPass_3 (by decide +kernel) ⟨Nat.le_of_ble_eq_true rfl, Nat.le_of_ble_eq_true rfl⟩) (zPc.preV hK hE hP hD [] rfl rfl (ci := 3) (q0 := 11) rfl rfl) rfl rfl hl.1 rfl (lv_room (Nat.le_of_ble_eq_true rfl)) dX8_letRoundPass_10 ⟨Nat.le_of_ble_eq_true rfl, Nat.le_of_ble_eq_true rfl⟩) hP hD hS hA [] rfl rfl rfl hn10
              · have hc_12 := zif hc_12 hk
                cases hc_12
-- X9_idleRoundsToEnd
theorem dX9_idleRoundsToEnd_0 : decode cX9_idleRoundsToEnd 0 = .ok (.aload_n 1, 1) := by decide +kernel
theorem dX9_idleRoundsToEnd_1 : decode cX9_idleRoundsToEnd 1 = .ok (.getfield 7, 3) := by decide +kernel
theorem dX9_idleRoundsToEnd_4 : decode cX9_idleRoundsToEnd 4 = .ok (.iconst 1, 1) := by decide +kernel
theorem dX9_idleRoundsToEnd_5 : decode cX9_idleRoundsToEnd 5 = .ok (.invokestatic 21, 3) := by decide +kernel
theorem dX9_idleRoundsToEnd_8 : decode cX9_idleRoundsToEnd 8 = .ok (.ireturn, 1) := by decide +kernel
noncomputable def f_X9_idleRoundsToEnd (o_stepCount : Int) : Option (Int) := zg (zR o_stepCount ∧ zR 1) (some (if o_stepCount < 1 then 1 else o_stepCount))
theorem q_X9_idleRoundsToEnd_0 : Cond.fieldLink RX9 7 "EachSecondStruck$Standing" "stepCount" "I" ∈ wsX9_idleRoundsToEnd := by decide +kernel
theorem q_X9_idleRoundsToEnd_1 : Cond.methodLink RX9 21 Lib.Math.max.name ∈ wsX9_idleRoundsToEnd := by decide +kernel
theorem q_X9_idleRoundsToEnd_2 : Cond.static Lib.Math.max.name ∈ wsX9_idleRoundsToEnd := by decide +kernel
theorem q_X9_idleRoundsToEnd_3 : Cond.initialized "java/lang/Math" ∈ wsX9_idleRoundsToEnd := by decide +kernel
theorem q_X9_idleRoundsToEnd_4 : Cond.code Lib.Math.max.name Lib.Math.max.code 2 (some .int) ∈ wsX9_idleRoundsToEnd := by decide +kernel
theorem in_X9_idleRoundsToEnd_X8 : ∀ w ∈ u_ws RX8 TX8 10, w ∈ wsX9_idleRoundsToEnd := by decide +kernel
set_option maxHeartbeats 4000000 in
set_option maxRecDepth 100000 in
theorem c_X9_idleRoundsToEnd (l : Launch) (dC : Nat → ClassId) (dI : Nat → Nat → Nat) (cA cN : ClassId) (sz : Nat) (ad_o : Nat) (ad_o_steps : Nat) (ad_o_line : Nat) (ad_o_gone : Nat) (ad_o_wentIn : Nat) (ad_t : Nat) (o_size : Int) (o_there : Int) (o_roundsBy : Int) (o_kind : Int) (o_figure : Int) (o_stepCount : Int)  (r0 : Int) (h : f_X9_idleRoundsToEnd o_stepCount = some r0) : Met l yX9_idleRoundsToEnd wsX9_idleRoundsToEnd { frames := 1, cells := 0, slots := 0, locals := 13 } (zPc (dC, dI) (zT cA cN) [kX8 ad_o ad_o_steps ad_o_line ad_o_gone ad_o_wentIn o_size o_there o_roundsBy o_kind o_figure o_stepCount] [.ref ad_t, .ref ad_o] sz) (zQi (dC, dI) [kX8 ad_o ad_o_steps ad_o_line ad_o_gone ad_o_wentIn o_size o_there o_roundsBy o_kind o_figure o_stepCount] r0 (va_A [kX8 ad_o ad_o_steps ad_o_line ad_o_gone ad_o_wentIn o_size o_there o_roundsBy o_kind o_figure o_stepCount] sz)) 0 0 (va_A [kX8 ad_o ad_o_steps ad_o_line ad_o_gone ad_o_wentIn o_size o_there o_roundsBy o_kind o_figure o_stepCount] sz) := by
  refine z_ofW (QF := fun A => zQi (dC, dI) [kX8 ad_o ad_o_steps ad_o_line ad_o_gone ad_o_wentIn o_size o_there o_roundsBy o_kind o_figure o_stepCount] r0 A) (by decide) rfl (Nat.le_of_ble_eq_true rfl) ?_
  intro p e s m below meth c ls A hx hb hml hr hlocks hnm hts hown hK hP hD hE hsz hA hS hl
  have hl : lv_has ls 2 [(0, .ref ad_t), (1, .ref ad_o)] := hl
  unfold f_X9_idleRoundsToEnd at h
  refine lv_aload_n hx hb dX9_idleRoundsToEnd_0 rfl (lv_at hl 1 rfl) ?_
  refine va_get (D := (dC, dI)) (ci := 8) (v := .int (zi o_stepCount)) (C := RX8) (T := TX8) (N := 10) hx hb hts in_X9_idleRoundsToEnd_X8 hown hK hP 0 rfl rfl 5 (by decide) (hts _ q_X9_idleRoundsToEnd_0) (fun _ h9 => h9) rfl dX9_idleRoundsToEnd_1 ?_
  refine z_iconst hx hb dX9_idleRoundsToEnd_4 ?_
  refine z_mmax hx hb (hml.trans hl.1.symm) hown (hts _ q_X9_idleRoundsToEnd_1) (hts _ q_X9_idleRoundsToEnd_2) (hts _ q_X9_idleRoundsToEnd_3) (hts _ q_X9_idleRoundsToEnd_4) (Nat.le_of_ble_eq_true rfl) (Nat.le_of_ble_eq_true rfl) (Nat.le_of_ble_eq_true rfl) (Nat.le_of_ble_eq_true rfl) dX9_idleRoundsToEnd_5 h (fun h => ?_)
  cases h
  exact z_iret hx hb hr hlocks hP hD hS dX9_idleRoundsToEnd_8
-- X8_goToEnd
theorem dX8_goToEnd_0 : decode cX8_goToEnd 0 = .ok (.aload_n 1, 1) := by decide +kernel
theorem dX8_goToEnd_1 : decode cX8_goToEnd 1 = .ok (.aload_n 0, 1) := by decide +kernel
theorem dX8_goToEnd_2 : decode cX8_goToEnd 2 = .ok (.invokevirtual 95, 3) := by decide +kernel
theorem dX8_goToEnd_5 : decode cX8_goToEnd 5 = .ok (.istore_n 2, 1) := by decide +kernel
theorem dX8_goToEnd_6 : decode cX8_goToEnd 6 = .ok (.iconst 0, 1) := by decide +kernel
theorem dX8_goToEnd_7 : decode cX8_goToEnd 7 = .ok (.istore_n 3, 1) := by decide +kernel
theorem dX8_goToEnd_8 : decode cX8_goToEnd 8 = .ok (.iconst 0, 1) := by decide +kernel
theorem dX8_goToEnd_9 : decode cX8_goToEnd 9 = .ok (.istore 4, 2) := by decide +kernel
theorem dX8_goToEnd_11 : decode cX8_goToEnd 11 = .ok (.iload 4, 2) := by decide +kernel
theorem dX8_goToEnd_13 : decode cX8_goToEnd 13 = .ok (.sipush 2000, 3) := by decide +kernel
theorem dX8_goToEnd_16 : decode cX8_goToEnd 16 = .ok (.if_icmp .ge 30, 3) := by decide +kernel
theorem dX8_goToEnd_19 : decode cX8_goToEnd 19 = .ok (.iload_n 3, 1) := by decide +kernel
theorem dX8_goToEnd_20 : decode cX8_goToEnd 20 = .ok (.iload_n 2, 1) := by decide +kernel
theorem dX8_goToEnd_21 : decode cX8_goToEnd 21 = .ok (.if_icmp .ge 25, 3) := by decide +kernel
theorem dX8_goToEnd_24 : decode cX8_goToEnd 24 = .ok (.iinc 4 1, 3) := by decide +kernel
theorem dX8_goToEnd_27 : decode cX8_goToEnd 27 = .ok (.aload_n 0, 1) := by decide +kernel
theorem dX8_goToEnd_28 : decode cX8_goToEnd 28 = .ok (.aload_n 1, 1) := by decide +kernel
theorem dX8_goToEnd_29 : decode cX8_goToEnd 29 = .ok (.invokevirtual 99, 3) := by decide +kernel
theorem dX8_goToEnd_32 : decode cX8_goToEnd 32 = .ok (.ifCond .le 7, 3) := by decide +kernel
theorem dX8_goToEnd_35 : decode cX8_goToEnd 35 = .ok (.iconst 0, 1) := by decide +kernel
theorem dX8_goToEnd_36 : decode cX8_goToEnd 36 = .ok (.goto 6, 3) := by decide +kernel
theorem dX8_goToEnd_39 : decode cX8_goToEnd 39 = .ok (.iload_n 3, 1) := by decide +kernel
theorem dX8_goToEnd_40 : decode cX8_goToEnd 40 = .ok (.iconst 1, 1) := by decide +kernel
theorem dX8_goToEnd_41 : decode cX8_goToEnd 41 = .ok (.iadd, 1) := by decide +kernel
theorem dX8_goToEnd_42 : decode cX8_goToEnd 42 = .ok (.istore_n 3, 1) := by decide +kernel
theorem dX8_goToEnd_43 : decode cX8_goToEnd 43 = .ok (.goto (-32), 3) := by decide +kernel
theorem dX8_goToEnd_46 : decode cX8_goToEnd 46 = .ok (.iload 4, 2) := by decide +kernel
theorem dX8_goToEnd_48 : decode cX8_goToEnd 48 = .ok (.iload_n 3, 1) := by decide +kernel
theorem dX8_goToEnd_49 : decode cX8_goToEnd 49 = .ok (.isub, 1) := by decide +kernel
theorem dX8_goToEnd_50 : decode cX8_goToEnd 50 = .ok (.ireturn, 1) := by decide +kernel
set_option maxRecDepth 20000 in
theorem ggX8_goToEnd_X6_idleRoundsToEnd : GoodIn wsX8_goToEnd wsX6_idleRoundsToEnd := goodIn_r _ [6] rfl (by decide +kernel)
set_option maxRecDepth 20000 in
theorem gX8_goToEnd_X6_idleRoundsToEnd_u95X1 : GoodIn wsX8_goToEnd (va_wsU RX8 95 RX1 "EachSecondStruck$Next" ⟨"EachSecondStruck$Next", "idleRoundsToEnd", "(LEachSecondStruck$Standing;)I"⟩ yX6_idleRoundsToEnd wsX6_idleRoundsToEnd) := goodIn_app (goodIn_of _ (by decide +kernel)) ggX8_goToEnd_X6_idleRoundsToEnd
set_option maxRecDepth 20000 in
theorem gX8_goToEnd_X6_idleRoundsToEnd_u95X2 : GoodIn wsX8_goToEnd (va_wsU RX8 95 RX2 "EachSecondStruck$Next" ⟨"EachSecondStruck$Next", "idleRoundsToEnd", "(LEachSecondStruck$Standing;)I"⟩ yX6_idleRoundsToEnd wsX6_idleRoundsToEnd) := goodIn_app (goodIn_of _ (by decide +kernel)) ggX8_goToEnd_X6_idleRoundsToEnd
set_option maxRecDepth 20000 in
theorem gX8_goToEnd_X6_idleRoundsToEnd_u95X3 : GoodIn wsX8_goToEnd (va_wsU RX8 95 RX3 "EachSecondStruck$Next" ⟨"EachSecondStruck$Next", "idleRoundsToEnd", "(LEachSecondStruck$Standing;)I"⟩ yX6_idleRoundsToEnd wsX6_idleRoundsToEnd) := goodIn_app (goodIn_of _ (by decide +kernel)) ggX8_goToEnd_X6_idleRoundsToEnd
set_option maxRecDepth 20000 in
theorem gX8_goToEnd_X6_idleRoundsToEnd_u95X5 : GoodIn wsX8_goToEnd (va_wsU RX8 95 RX5 "EachSecondStruck$Next" ⟨"EachSecondStruck$Next", "idleRoundsToEnd", "(LEachSecondStruck$Standing;)I"⟩ yX6_idleRoundsToEnd wsX6_idleRoundsToEnd) := goodIn_app (goodIn_of _ (by decide +kernel)) ggX8_goToEnd_X6_idleRoundsToEnd
set_option maxRecDepth 20000 in
theorem gX8_goToEnd_X6_idleRoundsToEnd : GoodIn wsX8_goToEnd (wsV RX8 95 RX6 yX6_idleRoundsToEnd wsX6_idleRoundsToEnd) := goodIn_app (goodIn_of _ (by decide +kernel)) ggX8_goToEnd_X6_idleRoundsToEnd
set_option maxRecDepth 20000 in
theorem gX8_goToEnd_X6_idleRoundsToEnd_u95X7 : GoodIn wsX8_goToEnd (va_wsU RX8 95 RX7 "EachSecondStruck$Next" ⟨"EachSecondStruck$Next", "idleRoundsToEnd", "(LEachSecondStruck$Standing;)I"⟩ yX6_idleRoundsToEnd wsX6_idleRoundsToEnd) := goodIn_app (goodIn_of _ (by decide +kernel)) ggX8_goToEnd_X6_idleRoundsToEnd
set_option maxRecDepth 20000 in
theorem ggX8_goToEnd_X9_idleRoundsToEnd : GoodIn wsX8_goToEnd wsX9_idleRoundsToEnd := goodIn_r _ [17, 18, 19, 20, 21, 22, 114, 115, 116, 117, 118, 119, 120, 121, 122, 123] rfl (by decide +kernel)
set_option maxRecDepth 20000 in
theorem gX8_goToEnd_X9_idleRoundsToEnd_u95X9 : GoodIn wsX8_goToEnd (va_wsO RX8 95 RX9 "EachSecondStruck$Next" ⟨"EachSecondStruck$Next", "idleRoundsToEnd", "(LEachSecondStruck$Standing;)I"⟩ yX9_idleRoundsToEnd wsX9_idleRoundsToEnd) := goodIn_app (goodIn_of _ (by decide +kernel)) ggX8_goToEnd_X9_idleRoundsToEnd
set_option maxRecDepth 20000 in
theorem ggX8_goToEnd_X8_letRoundPass : GoodIn wsX8_goToEnd wsX8_letRoundPass := goodIn_r _ [27, 28, 29, 30, 31, 32, 5, 33, 34, 35, 36, 37, 38, 39, 40, 41, 42, 43, 44, 45, 20, 21, 22, 46, 47, 48, 26, 49, 50, 51, 52, 53, 54, 55, 56, 57, 58, 59, 60, 16, 61, 18, 62, 63, 64, 65, 66, 67, 68, 69, 70, 71, 72, 73, 74, 75, 76, 77, 78, 79, 80, 81, 82, 83, 84, 85, 86, 87, 88, 89, 90, 91, 92, 93, 94, 95, 96, 97, 98, 99, 100, 101, 102, 103, 104, 105, 106, 107, 108, 109, 110, 111, 112, 113, 114, 115, 116, 117, 118, 119, 120, 121, 122, 123] rfl (by decide +kernel)
set_option maxRecDepth 20000 in
theorem gX8_goToEnd_X8_letRoundPass : GoodIn wsX8_goToEnd (wsV RX8 99 RX8 yX8_letRoundPass wsX8_letRoundPass) := goodIn_app (goodIn_of _ (by decide +kernel)) ggX8_goToEnd_X8_letRoundPass
noncomputable def fv_idleRoundsToEnd (k : Int) (o_stepCount : Int) : Option Int := if k = 0 then f_X6_idleRoundsToEnd  else if k = 1 then f_X6_idleRoundsToEnd  else if k = 2 then f_X6_idleRoundsToEnd  else if k = 3 then f_X6_idleRoundsToEnd  else if k = 4 then f_X9_idleRoundsToEnd o_stepCount else if k = 5 then f_X6_idleRoundsToEnd  else if k = 6 then f_X6_idleRoundsToEnd  else none
noncomputable def f_X8_goToEnd_L11 : Nat → Int → Int → Int → Int → Int → Int → Int → Int → Int → (Int → Int) → (Int → Int) → (Int → Int) → (Int → Int) → Option (Int × Int × Int × Int × (Int → Int) × (Int → Int) × (Int → Int))
  | 0, _, _, _, _, _, _, _, _, _, _, _, _, _ => none
  | n + 1, v1, v2, v3, v4, t_size, t_there, t_roundsBy, t_figure, t_stepCount, t_steps, t_line, t_gone, t_wentIn => zg (zR v4) (if 2000 ≤ v4 then some (v3, v4, t_there, t_roundsBy, t_line, t_gone, t_wentIn) else zg (zR v3 ∧ zR v2) (if v2 ≤ v3 then some (v3, v4, t_there, t_roundsBy, t_line, t_gone, t_wentIn) else (f_X8_letRoundPass v1 t_size t_there t_roundsBy t_figure t_stepCount t_steps t_line t_gone t_wentIn).bind (fun (r_2, t_there_3, t_roundsBy_4, t_line_5, t_gone_6, t_wentIn_7) => zg (zR r_2) (if r_2 ≤ 0 then f_X8_goToEnd_L11 n v1 v2 (v3 + 1) (v4 + 1) t_size t_there_3 t_roundsBy_4 t_figure t_stepCount t_steps t_line_5 t_gone_6 t_wentIn_7 else f_X8_goToEnd_L11 n v1 v2 0 (v4 + 1) t_size t_there_3 t_roundsBy_4 t_figure t_stepCount t_steps t_line_5 t_gone_6 t_wentIn_7))))
theorem f_X8_goToEnd_L11_z (v1 : Int) (v2 : Int) (v3 : Int) (v4 : Int) (t_size : Int) (t_there : Int) (t_roundsBy : Int) (t_figure : Int) (t_stepCount : Int) (t_steps : Int → Int) (t_line : Int → Int) (t_gone : Int → Int) (t_wentIn : Int → Int) : f_X8_goToEnd_L11 0 v1 v2 v3 v4 t_size t_there t_roundsBy t_figure t_stepCount t_steps t_line t_gone t_wentIn = none := rfl
theorem f_X8_goToEnd_L11_s (n : Nat) (v1 : Int) (v2 : Int) (v3 : Int) (v4 : Int) (t_size : Int) (t_there : Int) (t_roundsBy : Int) (t_figure : Int) (t_stepCount : Int) (t_steps : Int → Int) (t_line : Int → Int) (t_gone : Int → Int) (t_wentIn : Int → Int) : f_X8_goToEnd_L11 (n + 1) v1 v2 v3 v4 t_size t_there t_roundsBy t_figure t_stepCount t_steps t_line t_gone t_wentIn = zg (zR v4) (if 2000 ≤ v4 then some (v3, v4, t_there, t_roundsBy, t_line, t_gone, t_wentIn) else zg (zR v3 ∧ zR v2) (if v2 ≤ v3 then some (v3, v4, t_there, t_roundsBy, t_line, t_gone, t_wentIn) else (f_X8_letRoundPass v1 t_size t_there t_roundsBy t_figure t_stepCount t_steps t_line t_gone t_wentIn).bind (fun (r_2, t_there_3, t_roundsBy_4, t_line_5, t_gone_6, t_wentIn_7) => zg (zR r_2) (if r_2 ≤ 0 then f_X8_goToEnd_L11 n v1 v2 (v3 + 1) (v4 + 1) t_size t_there_3 t_roundsBy_4 t_figure t_stepCount t_steps t_line_5 t_gone_6 t_wentIn_7 else f_X8_goToEnd_L11 n v1 v2 0 (v4 + 1) t_size t_there_3 t_roundsBy_4 t_figure t_stepCount t_steps t_line_5 t_gone_6 t_wentIn_7)))) := rfl
noncomputable def f_X8_goToEnd (v1 : Int) (t_size : Int) (t_there : Int) (t_roundsBy : Int) (t_figure : Int) (t_stepCount : Int) (t_steps : Int → Int) (t_line : Int → Int) (t_gone : Int → Int) (t_wentIn : Int → Int) : Option (Int × Int × Int × (Int → Int) × (Int → Int) × (Int → Int)) := (fv_idleRoundsToEnd v1 t_stepCount).bind (fun r_1 => (f_X8_goToEnd_L11 zF v1 r_1 0 0 t_size t_there t_roundsBy t_figure t_stepCount t_steps t_line t_gone t_wentIn).bind (fun (v3_9, v4_10, t_there_11, t_roundsBy_12, t_line_13, t_gone_14, t_wentIn_15) => some ((v4_10 - v3_9), t_there_11, t_roundsBy_12, t_line_13, t_gone_14, t_wentIn_15)))
theorem q_X8_goToEnd_0 : Cond.code yX6_idleRoundsToEnd cX6_idleRoundsToEnd 2 (some .int) ∈ wsX8_goToEnd := by decide +kernel
set_option maxHeartbeats 4000000 in
set_option maxRecDepth 100000 in
theorem c_X8_goToEnd (l : Launch) (dC : Nat → ClassId) (dI : Nat → Nat → Nat) (cA cN : ClassId) (sz : Nat) (ad_t : Nat) (ad_t_steps : Nat) (ad_t_line : Nat) (ad_t_gone : Nat) (ad_t_wentIn : Nat) (sa : Nat → Nat) (t_size : Int) (t_there : Int) (t_roundsBy : Int) (t_kind : Int) (t_figure : Int) (t_stepCount : Int) (t_gone : Int → Int) (t_line : Int → Int) (t_steps : Int → Int) (t_wentIn : Int → Int) (v1 : Int) (r0 : Int) (t_there9 : Int) (t_roundsBy9 : Int) (t_line9 : Int → Int) (t_gone9 : Int → Int) (t_wentIn9 : Int → Int) (h : f_X8_goToEnd v1 t_size t_there t_roundsBy t_figure t_stepCount t_steps t_line t_gone t_wentIn = some (r0, t_there9, t_roundsBy9, t_line9, t_gone9, t_wentIn9)) : Met l yX8_goToEnd wsX8_goToEnd { frames := 3, cells := 0, slots := 0, locals := 75 } (zPc (dC, dI) (zT cA cN) [kX8 ad_t ad_t_steps ad_t_line ad_t_gone ad_t_wentIn t_size t_there t_roundsBy t_kind t_figure t_stepCount, kI cA ad_t_steps 8 t_steps, kI cA ad_t_line 120 t_line, kI cA ad_t_gone 120 t_gone, kI cA ad_t_wentIn 121 t_wentIn, (sa 0, .inr (6, [])), (sa 1, .inr (5, [])), (sa 2, .inr (7, [])), (sa 3, .inr (1, [])), (sa 4, .inr (9, [])), (sa 5, .inr (2, [])), (sa 6, .inr (3, []))] [.ref ad_t, .ref (sa (v1).toNat)] sz) (zQi (dC, dI) [kX8 ad_t ad_t_steps ad_t_line ad_t_gone ad_t_wentIn t_size t_there9 t_roundsBy9 t_kind t_figure t_stepCount, kI cA ad_t_steps 8 t_steps, kI cA ad_t_line 120 t_line9, kI cA ad_t_gone 120 t_gone9, kI cA ad_t_wentIn 121 t_wentIn9, (sa 0, .inr (6, [])), (sa 1, .inr (5, [])), (sa 2, .inr (7, [])), (sa 3, .inr (1, [])), (sa 4, .inr (9, [])), (sa 5, .inr (2, [])), (sa 6, .inr (3, []))] r0 (va_A [kX8 ad_t ad_t_steps ad_t_line ad_t_gone ad_t_wentIn t_size t_there t_roundsBy t_kind t_figure t_stepCount, kI cA ad_t_steps 8 t_steps, kI cA ad_t_line 120 t_line, kI cA ad_t_gone 120 t_gone, kI cA ad_t_wentIn 121 t_wentIn, (sa 0, .inr (6, [])), (sa 1, .inr (5, [])), (sa 2, .inr (7, [])), (sa 3, .inr (1, [])), (sa 4, .inr (9, [])), (sa 5, .inr (2, [])), (sa 6, .inr (3, []))] sz)) 0 0 (va_A [kX8 ad_t ad_t_steps ad_t_line ad_t_gone ad_t_wentIn t_size t_there t_roundsBy t_kind t_figure t_stepCount, kI cA ad_t_steps 8 t_steps, kI cA ad_t_line 120 t_line, kI cA ad_t_gone 120 t_gone, kI cA ad_t_wentIn 121 t_wentIn, (sa 0, .inr (6, [])), (sa 1, .inr (5, [])), (sa 2, .inr (7, [])), (sa 3, .inr (1, [])), (sa 4, .inr (9, [])), (sa 5, .inr (2, [])), (sa 6, .inr (3, []))] sz) := by
  refine z_ofW (QF := fun A => zQi (dC, dI) [kX8 ad_t ad_t_steps ad_t_line ad_t_gone ad_t_wentIn t_size t_there9 t_roundsBy9 t_kind t_figure t_stepCount, kI cA ad_t_steps 8 t_steps, kI cA ad_t_line 120 t_line9, kI cA ad_t_gone 120 t_gone9, kI cA ad_t_wentIn 121 t_wentIn9, (sa 0, .inr (6, [])), (sa 1, .inr (5, [])), (sa 2, .inr (7, [])), (sa 3, .inr (1, [])), (sa 4, .inr (9, [])), (sa 5, .inr (2, [])), (sa 6, .inr (3, []))] r0 A) (by decide) rfl (Nat.le_of_ble_eq_true rfl) ?_
  intro p e s m below meth c ls A hx hb hml hr hlocks hnm hts hown hK hP hD hE hsz hA hS hl
  have hl : lv_has ls 5 [(0, .ref ad_t), (1, .ref (sa (v1).toNat))] := hl
  unfold f_X8_goToEnd at h
  refine lv_aload_n hx hb dX8_goToEnd_0 rfl (lv_at hl 1 rfl) ?_
  refine lv_aload_n hx hb dX8_goToEnd_1 rfl (lv_at hl 0 rfl) ?_
  obtain ⟨r_16, hc_17, h⟩ := zb h
  try dsimp only at h
  have hn2 : ∀ (H : Heap) (locs : List Loc), va_P (dC, dI) vwCl [kX8 ad_t ad_t_steps ad_t_line ad_t_gone ad_t_wentIn t_size t_there t_roundsBy t_kind t_figure t_stepCount, kI cA ad_t_steps 8 t_steps, kI cA ad_t_line 120 t_line, kI cA ad_t_gone 120 t_gone, kI cA ad_t_wentIn 121 t_wentIn, (sa 0, .inr (6, [])), (sa 1, .inr (5, [])), (sa 2, .inr (7, [])), (sa 3, .inr (1, [])), (sa 4, .inr (9, [])), (sa 5, .inr (2, [])), (sa 6, .inr (3, []))] H → va_D A [kX8 ad_t ad_t_steps ad_t_line ad_t_gone ad_t_wentIn t_size t_there t_roundsBy t_kind t_figure t_stepCount, kI cA ad_t_steps 8 t_steps, kI cA ad_t_line 120 t_line, kI cA ad_t_gone 120 t_gone, kI cA ad_t_wentIn 121 t_wentIn, (sa 0, .inr (6, [])), (sa 1, .inr (5, [])), (sa 2, .inr (7, [])), (sa 3, .inr (1, [])), (sa 4, .inr (9, [])), (sa 5, .inr (2, [])), (sa 6, .inr (3, []))] → va_S A s.heap H locs → W p l e { frames := 3, cells := 0, slots := 0, locals := 75 } s m ([.ref ad_t, .ref (sa (v1).toNat)] : List Value).toArray below meth c H locs 0 0 (MQ below (zQi (dC, dI) [kX8 ad_t ad_t_steps ad_t_line ad_t_gone ad_t_wentIn t_size t_there9 t_roundsBy9 t_kind t_figure t_stepCount, kI cA ad_t_steps 8 t_steps, kI cA ad_t_line 120 t_line9, kI cA ad_t_gone 120 t_gone9, kI cA ad_t_wentIn 121 t_wentIn9, (sa 0, .inr (6, [])), (sa 1, .inr (5, [])), (sa 2, .inr (7, [])), (sa 3, .inr (1, [])), (sa 4, .inr (9, [])), (sa 5, .inr (2, [])), (sa 6, .inr (3, []))] r0 A) ([.ref ad_t, .ref (sa (v1).toNat)] : List Value).toArray s 0 0 A) (F0 m 5 ls [.int (zi r_16)]) := by
    intro H locs hP hD hS
    refine lv_istore_n (lv' := [(2, .int (zi r_16)), (0, .ref ad_t), (1, .ref (sa (v1).toNat))]) hx hb dX8_goToEnd_5 rfl hl (by decide) rfl (fun ls hl => ?_)
    refine z_iconst hx hb dX8_goToEnd_6 ?_
    refine lv_istore_n (lv' := [(3, .int (zi 0)), (2, .int (zi r_16)), (0, .ref ad_t), (1, .ref (sa (v1).toNat))]) hx hb dX8_goToEnd_7 rfl hl (by decide) rfl (fun ls hl => ?_)
    refine z_iconst hx hb dX8_goToEnd_8 ?_
    refine lv_istore (lv' := [(4, .int (zi 0)), (3, .int (zi 0)), (2, .int (zi r_16)), (0, .ref ad_t), (1, .ref (sa (v1).toNat))]) hx hb dX8_goToEnd_9 hl (by decide) rfl (fun ls hl => ?_)
    obtain ⟨⟨v3_18, v4_19, t_there_20, t_roundsBy_21, t_line_22, t_gone_23, t_wentIn_24⟩, hl_25, h⟩ := zb h
    try dsimp only at h
    have hx11 : ∀ (v3_26 : Int) (v4_27 : Int) (t_there_28 : Int) (t_roundsBy_29 : Int) (t_line_30 : Int → Int) (t_gone_31 : Int → Int) (t_wentIn_32 : Int → Int) (H : Heap) (locs : List Loc) (ls : Array Slot), some (v3_26, v4_27, t_there_28, t_roundsBy_29, t_line_30, t_gone_31, t_wentIn_32) = some (v3_18, v4_19, t_there_20, t_roundsBy_21, t_line_22, t_gone_23, t_wentIn_24) → va_P (dC, dI) vwCl [kX8 ad_t ad_t_steps ad_t_line ad_t_gone ad_t_wentIn t_size t_there_28 t_roundsBy_29 t_kind t_figure t_stepCount, kI cA ad_t_steps 8 t_steps, kI cA ad_t_line 120 t_line_30, kI cA ad_t_gone 120 t_gone_31, kI cA ad_t_wentIn 121 t_wentIn_32, (sa 0, .inr (6, [])), (sa 1, .inr (5, [])), (sa 2, .inr (7, [])), (sa 3, .inr (1, [])), (sa 4, .inr (9, [])), (sa 5, .inr (2, [])), (sa 6, .inr (3, []))] H → va_D A [kX8 ad_t ad_t_steps ad_t_line ad_t_gone ad_t_wentIn t_size t_there_28 t_roundsBy_29 t_kind t_figure t_stepCount, kI cA ad_t_steps 8 t_steps, kI cA ad_t_line 120 t_line_30, kI cA ad_t_gone 120 t_gone_31, kI cA ad_t_wentIn 121 t_wentIn_32, (sa 0, .inr (6, [])), (sa 1, .inr (5, [])), (sa 2, .inr (7, [])), (sa 3, .inr (1, [])), (sa 4, .inr (9, [])), (sa 5, .inr (2, [])), (sa 6, .inr (3, []))] → va_S A s.heap H locs → lv_has ls 5 [(3, .int (zi v3_26)), (4, .int (zi v4_27))] → W p l e { frames := 3, cells := 0, slots := 0, locals := 75 } s m ([.ref ad_t, .ref (sa (v1).toNat)] : List Value).toArray below meth c H locs 0 0 (MQ below (zQi (dC, dI) [kX8 ad_t ad_t_steps ad_t_line ad_t_gone ad_t_wentIn t_size t_there9 t_roundsBy9 t_kind t_figure t_stepCount, kI cA ad_t_steps 8 t_steps, kI cA ad_t_line 120 t_line9, kI cA ad_t_gone 120 t_gone9, kI cA ad_t_wentIn 121 t_wentIn9, (sa 0, .inr (6, [])), (sa 1, .inr (5, [])), (sa 2, .inr (7, [])), (sa 3, .inr (1, [])), (sa 4, .inr (9, [])), (sa 5, .inr (2, [])), (sa 6, .inr (3, []))] r0 A) ([.ref ad_t, .ref (sa (v1).toNat)] : List Value).toArray s 0 0 A) (F0 m 46 ls []) := by
      intro v3_26 v4_27 t_there_28 t_roundsBy_29 t_line_30 t_gone_31 t_wentIn_32 H locs ls he hP hD hS hl
      obtain ⟨rfl, rfl, rfl, rfl, rfl, rfl, rfl⟩ := zinj7 he
      refine lv_iload hx hb dX8_goToEnd_46 (lv_at hl 1 rfl) ?_
      refine lv_iload_n hx hb dX8_goToEnd_48 rfl (lv_at hl 0 rfl) ?_
      refine z_isub hx hb dX8_goToEnd_49 ?_
      cases h
      exact z_iret hx hb hr hlocks hP hD hS dX8_goToEnd_50
    clear h
    have hlp11 : ∀ (n : Nat) (v3_33 : Int) (v4_34 : Int) (t_there_35 : Int) (t_roundsBy_36 : Int) (t_line_37 : Int → Int) (t_gone_38 : Int → Int) (t_wentIn_39 : Int → Int) (H : Heap) (locs : List Loc) (ls : Array Slot), f_X8_goToEnd_L11 n v1 r_16 v3_33 v4_34 t_size t_there_35 t_roundsBy_36 t_figure t_stepCount t_steps t_line_37 t_gone_38 t_wentIn_39 = some (v3_18, v4_19, t_there_20, t_roundsBy_21, t_line_22, t_gone_23, t_wentIn_24) → va_P (dC, dI) vwCl [kX8 ad_t ad_t_steps ad_t_line ad_t_gone ad_t_wentIn t_size t_there_35 t_roundsBy_36 t_kind t_figure t_stepCount, kI cA ad_t_steps 8 t_steps, kI cA ad_t_line 120 t_line_37, kI cA ad_t_gone 120 t_gone_38, kI cA ad_t_wentIn 121 t_wentIn_39, (sa 0, .inr (6, [])), (sa 1, .inr (5, [])), (sa 2, .inr (7, [])), (sa 3, .inr (1, [])), (sa 4, .inr (9, [])), (sa 5, .inr (2, [])), (sa 6, .inr (3, []))] H → va_D A [kX8 ad_t ad_t_steps ad_t_line ad_t_gone ad_t_wentIn t_size t_there_35 t_roundsBy_36 t_kind t_figure t_stepCount, kI cA ad_t_steps 8 t_steps, kI cA ad_t_line 120 t_line_37, kI cA ad_t_gone 120 t_gone_38, kI cA ad_t_wentIn 121 t_wentIn_39, (sa 0, .inr (6, [])), (sa 1, .inr (5, [])), (sa 2, .inr (7, [])), (sa 3, .inr (1, [])), (sa 4, .inr (9, [])), (sa 5, .inr (2, [])), (sa 6, .inr (3, []))] → va_S A s.heap H locs → lv_has ls 5 [(0, .ref ad_t), (1, .ref (sa (v1).toNat)), (2, .int (zi r_16)), (3, .int (zi v3_33)), (4, .int (zi v4_34))] → W p l e { frames := 3, cells := 0, slots := 0, locals := 75 } s m ([.ref ad_t, .ref (sa (v1).toNat)] : List Value).toArray below meth c H locs 0 0 (MQ below (zQi (dC, dI) [kX8 ad_t ad_t_steps ad_t_line ad_t_gone ad_t_wentIn t_size t_there9 t_roundsBy9 t_kind t_figure t_stepCount, kI cA ad_t_steps 8 t_steps, kI cA ad_t_line 120 t_line9, kI cA ad_t_gone 120 t_gone9, kI cA ad_t_wentIn 121 t_wentIn9, (sa 0, .inr (6, [])), (sa 1, .inr (5, [])), (sa 2, .inr (7, [])), (sa 3, .inr (1, [])), (sa 4, .inr (9, [])), (sa 5, .inr (2, [])), (sa 6, .inr (3, []))] r0 A) ([.ref ad_t, .ref (sa (v1).toNat)] : List Value).toArray s 0 0 A) (F0 m 11 ls []) := by
      intro n
      induction n with
      | zero => intro v3_33 v4_34 t_there_35 t_roundsBy_36 t_line_37 t_gone_38 t_wentIn_39 H locs ls h; rw [f_X8_goToEnd_L11_z] at h; cases h
      | succ n ih11 =>
        intro v3_33 v4_34 t_there_35 t_roundsBy_36 t_line_37 t_gone_38 t_wentIn_39 H locs ls h hP hD hS hl
        rw [f_X8_goToEnd_L11_s] at h
        refine lv_iload hx hb dX8_goToEnd_11 (lv_at hl 4 rfl) ?_
        refine z_sipush hx hb (by decide +kernel) dX8_goToEnd_13 ?_
        refine z_icmp_ge (tgt := 46) hx hb dX8_goToEnd_16 (by decide) h (fun q => ⟨q, by decide⟩) (fun h => ?_) (fun h => ?_)
        · exact hx11 _ _ _ _ _ _ _ _ _ _ h hP hD hS (lv_sub hl [3, 4] rfl)
        · refine lv_iload_n hx hb dX8_goToEnd_19 rfl (lv_at hl 3 rfl) ?_
          refine lv_iload_n hx hb dX8_goToEnd_20 rfl (lv_at hl 2 rfl) ?_
          refine z_icmp_ge (tgt := 46) hx hb dX8_goToEnd_21 (by decide) h (fun q => q) (fun h => ?_) (fun h => ?_)
          · exact hx11 _ _ _ _ _ _ _ _ _ _ h hP hD hS (lv_sub hl [3, 4] rfl)
          · refine z_iinc (lv' := [(4, .int (zi (v4_34 + 1))), (0, .ref ad_t), (1, .ref (sa (v1).toNat)), (2, .int (zi r_16)), (3, .int (zi v3_33))]) hx hb dX8_goToEnd_24 hl (k := 4) rfl (by decide) rfl (fun ls hl => ?_)
            refine lv_aload_n hx hb dX8_goToEnd_27 rfl (lv_at hl 1 rfl) ?_
            refine lv_aload_n hx hb dX8_goToEnd_28 rfl (lv_at hl 2 rfl) ?_
            obtain ⟨⟨r_40, t_there_41, t_roundsBy_42, t_line_43, t_gone_44, t_wentIn_45⟩, hc_46, h⟩ := zb h
            try dsimp only at h
            refine z_calliU (wc := [kX8 ad_t ad_t_steps ad_t_line ad_t_gone ad_t_wentIn t_size t_there_35 t_roundsBy_36 t_kind t_figure t_stepCount, kI cA ad_t_steps 8 t_steps, kI cA ad_t_line 120 t_line_37, kI cA ad_t_gone 120 t_gone_38, kI cA ad_t_wentIn 121 t_wentIn_39, (sa 0, .inr (6, [])), (sa 1, .inr (5, [])), (sa 2, .inr (7, [])), (sa 3, .inr (1, [])), (sa 4, .inr (9, [])), (sa 5, .inr (2, [])), (sa 6, .inr (3, []))]) (wc' := [kX8 ad_t ad_t_steps ad_t_line ad_t_gone ad_t_wentIn t_size t_there_41 t_roundsBy_42 t_kind t_figure t_stepCount, kI cA ad_t_steps 8 t_steps, kI cA ad_t_line 120 t_line_43, kI cA ad_t_gone 120 t_gone_44, kI cA ad_t_wentIn 121 t_wentIn_45, (sa 0, .inr (6, [])), (sa 1, .inr (5, [])), (sa 2, .inr (7, [])), (sa 3, .inr (1, [])), (sa 4, .inr (9, [])), (sa 5, .inr (2, [])), (sa 6, .inr (3, []))]) (ws' := [kX8 ad_t ad_t_steps ad_t_line ad_t_gone ad_t_wentIn t_size t_there_41 t_roundsBy_42 t_kind t_figure t_stepCount, kI cA ad_t_steps 8 t_steps, kI cA ad_t_line 120 t_line_43, kI cA ad_t_gone 120 t_gone_44, kI cA ad_t_wentIn 121 t_wentIn_45, (sa 0, .inr (6, [])), (sa 1, .inr (5, [])), (sa 2, .inr (7, [])), (sa 3, .inr (1, [])), (sa 4, .inr (9, [])), (sa 5, .inr (2, [])), (sa 6, .inr (3, []))]) (va_runV (As := [.ref (sa (v1).toNat)]) (rest := []) ⟨hx, hb, hml, hown, hts⟩ (c_X8_letRoundPass l dC dI cA cN _ ad_t ad_t_steps ad_t_line ad_t_gone ad_t_wentIn sa t_size t_there_35 t_roundsBy_36 t_kind t_figure t_stepCount t_gone_38 t_line_37 t_steps t_wentIn_39 v1 r_40 t_there_41 t_roundsBy_42 t_line_43 t_gone_44 t_wentIn_45 hc_46) (cwV 1 hts gX8_goToEnd_X8_letRoundPass rfl rfl rfl (by decide +kernel) ⟨Nat.le_of_ble_eq_true rfl, Nat.le_of_ble_eq_true rfl⟩) (zPc.preV hK hE hP hD [0, 1, 2, 3, 4, 5, 6, 7, 8, 9, 10, 11] rfl rfl (ci := 8) (q0 := 0) rfl rfl) rfl rfl hl.1 rfl (lv_room (Nat.le_of_ble_eq_true rfl)) dX8_goToEnd_29 ⟨Nat.le_of_ble_eq_true rfl, Nat.le_of_ble_eq_true rfl⟩) hP hD hS hA [0, 1, 2, 3, 4, 5, 6, 7, 8, 9, 10, 11] rfl rfl rfl (fun H locs hP hD hS => ?_)
            refine z_if_le (tgt := 39) hx hb dX8_goToEnd_32 (by decide) h (fun h => ?_) (fun h => ?_)
            · refine lv_iload_n hx hb dX8_goToEnd_39 rfl (lv_at hl 4 rfl) ?_
              refine z_iconst hx hb dX8_goToEnd_40 ?_
              refine z_iadd hx hb dX8_goToEnd_41 ?_
              refine lv_istore_n (lv' := [(3, .int (zi (v3_33 + 1))), (4, .int (zi (v4_34 + 1))), (0, .ref ad_t), (1, .ref (sa (v1).toNat)), (2, .int (zi r_16))]) hx hb dX8_goToEnd_42 rfl hl (by decide) rfl (fun ls hl => ?_)
              refine lv_goto (tgt := 11) hx hb dX8_goToEnd_43 (by decide) ?_
              exact ih11 _ _ _ _ _ _ _ _ _ _ h hP hD hS (lv_sub hl [2, 3, 4, 0, 1] rfl)
            · refine z_iconst hx hb dX8_goToEnd_35 ?_
              refine lv_goto (tgt := 42) hx hb dX8_goToEnd_36 (by decide) ?_
              refine lv_istore_n (lv' := [(3, .int (zi 0)), (4, .int (zi (v4_34 + 1))), (0, .ref ad_t), (1, .ref (sa (v1).toNat)), (2, .int (zi r_16))]) hx hb dX8_goToEnd_42 rfl hl (by decide) rfl (fun ls hl => ?_)
              refine lv_goto (tgt := 11) hx hb dX8_goToEnd_43 (by decide) ?_
              exact ih11 _ _ _ _ _ _ _ _ _ _ h hP hD hS (lv_sub hl [2, 3, 4, 0, 1] rfl)
    exact hlp11 zF _ _ _ _ _ _ _ _ _ _ hl_25 hP hD hS (lv_sub hl [3, 4, 2, 1, 0] rfl)
  clear h
  unfold fv_idleRoundsToEnd at hc_17
  by_cases hk : v1 = 0
  · have hc_17 := zit hc_17 hk
    subst hk
    refine z_calliU (wc := []) (wc' := []) (ws' := [kX8 ad_t ad_t_steps ad_t_line ad_t_gone ad_t_wentIn t_size t_there t_roundsBy t_kind t_figure t_stepCount, kI cA ad_t_steps 8 t_steps, kI cA ad_t_line 120 t_line, kI cA ad_t_gone 120 t_gone, kI cA ad_t_wentIn 121 t_wentIn, (sa 0, .inr (6, [])), (sa 1, .inr (5, [])), (sa 2, .inr (7, [])), (sa 3, .inr (1, [])), (sa 4, .inr (9, [])), (sa 5, .inr (2, [])), (sa 6, .inr (3, []))]) (va_runV (As := [.ref ad_t]) (rest := []) ⟨hx, hb, hml, hown, hts⟩ (c_X6_idleRoundsToEnd l dC dI cA cN _ (sa 0) ad_t r_16 hc_17) (cwV 1 hts gX8_goToEnd_X6_idleRoundsToEnd rfl rfl rfl (by decide +kernel) ⟨Nat.le_of_ble_eq_true rfl, Nat.le_of_ble_eq_true rfl⟩) (zPc.preV hK hE hP hD [] rfl rfl (ci := 6) (q0 := 5) rfl rfl) rfl rfl hl.1 rfl (lv_room (Nat.le_of_ble_eq_true rfl)) dX8_goToEnd_2 ⟨Nat.le_of_ble_eq_true rfl, Nat.le_of_ble_eq_true rfl⟩) hP hD hS hA [] rfl rfl rfl hn2
  · have hc_17 := zif hc_17 hk
    by_cases hk : v1 = 1
    · have hc_17 := zit hc_17 hk
      subst hk
      refine z_calliU (wc := []) (wc' := []) (ws' := [kX8 ad_t ad_t_steps ad_t_line ad_t_gone ad_t_wentIn t_size t_there t_roundsBy t_kind t_figure t_stepCount, kI cA ad_t_steps 8 t_steps, kI cA ad_t_line 120 t_line, kI cA ad_t_gone 120 t_gone, kI cA ad_t_wentIn 121 t_wentIn, (sa 0, .inr (6, [])), (sa 1, .inr (5, [])), (sa 2, .inr (7, [])), (sa 3, .inr (1, [])), (sa 4, .inr (9, [])), (sa 5, .inr (2, [])), (sa 6, .inr (3, []))]) (va_runU (As := [.ref ad_t]) (rest := []) ⟨hx, hb, hml, hown, hts⟩ (c_X6_idleRoundsToEnd l dC dI cA cN _ (sa 1) ad_t r_16 hc_17) (va_cwU 1 hts gX8_goToEnd_X6_idleRoundsToEnd_u95X5 rfl rfl rfl rfl (by decide +kernel) ⟨Nat.le_of_ble_eq_true rfl, Nat.le_of_ble_eq_true rfl⟩) (zPc.preV hK hE hP hD [] rfl rfl (ci := 5) (q0 := 6) rfl rfl) rfl rfl hl.1 rfl (lv_room (Nat.le_of_ble_eq_true rfl)) dX8_goToEnd_2 ⟨Nat.le_of_ble_eq_true rfl, Nat.le_of_ble_eq_true rfl⟩) hP hD hS hA [] rfl rfl rfl hn2
    · have hc_17 := zif hc_17 hk
      by_cases hk : v1 = 2
      · have hc_17 := zit hc_17 hk
        subst hk
        refine z_calliU (wc := []) (wc' := []) (ws' := [kX8 ad_t ad_t_steps ad_t_line ad_t_gone ad_t_wentIn t_size t_there t_roundsBy t_kind t_figure t_stepCount, kI cA ad_t_steps 8 t_steps, kI cA ad_t_line 120 t_line, kI cA ad_t_gone 120 t_gone, kI cA ad_t_wentIn 121 t_wentIn, (sa 0, .inr (6, [])), (sa 1, .inr (5, [])), (sa 2, .inr (7, [])), (sa 3, .inr (1, [])), (sa 4, .inr (9, [])), (sa 5, .inr (2, [])), (sa 6, .inr (3, []))]) (va_runU (As := [.ref ad_t]) (rest := []) ⟨hx, hb, hml, hown, hts⟩ (c_X6_idleRoundsToEnd l dC dI cA cN _ (sa 2) ad_t r_16 hc_17) (va_cwU 1 hts gX8_goToEnd_X6_idleRoundsToEnd_u95X7 rfl rfl rfl rfl (by decide +kernel) ⟨Nat.le_of_ble_eq_true rfl, Nat.le_of_ble_eq_true rfl⟩) (zPc.preV hK hE hP hD [] rfl rfl (ci := 7) (q0 := 7) rfl rfl) rfl rfl hl.1 rfl (lv_room (Nat.le_of_ble_eq_true rfl)) dX8_goToEnd_2 ⟨Nat.le_of_ble_eq_true rfl, Nat.le_of_ble_eq_true rfl⟩) hP hD hS hA [] rfl rfl rfl hn2
      · have hc_17 := zif hc_17 hk
        by_cases hk : v1 = 3
        · have hc_17 := zit hc_17 hk
          subst hk
          refine z_calliU (wc := []) (wc' := []) (ws' := [kX8 ad_t ad_t_steps ad_t_line ad_t_gone ad_t_wentIn t_size t_there t_roundsBy t_kind t_figure t_stepCount, kI cA ad_t_steps 8 t_steps, kI cA ad_t_line 120 t_line, kI cA ad_t_gone 120 t_gone, kI cA ad_t_wentIn 121 t_wentIn, (sa 0, .inr (6, [])), (sa 1, .inr (5, [])), (sa 2, .inr (7, [])), (sa 3, .inr (1, [])), (sa 4, .inr (9, [])), (sa 5, .inr (2, [])), (sa 6, .inr (3, []))]) (va_runU (As := [.ref ad_t]) (rest := []) ⟨hx, hb, hml, hown, hts⟩ (c_X6_idleRoundsToEnd l dC dI cA cN _ (sa 3) ad_t r_16 hc_17) (va_cwU 1 hts gX8_goToEnd_X6_idleRoundsToEnd_u95X1 rfl rfl rfl rfl (by decide +kernel) ⟨Nat.le_of_ble_eq_true rfl, Nat.le_of_ble_eq_true rfl⟩) (zPc.preV hK hE hP hD [] rfl rfl (ci := 1) (q0 := 8) rfl rfl) rfl rfl hl.1 rfl (lv_room (Nat.le_of_ble_eq_true rfl)) dX8_goToEnd_2 ⟨Nat.le_of_ble_eq_true rfl, Nat.le_of_ble_eq_true rfl⟩) hP hD hS hA [] rfl rfl rfl hn2
        · have hc_17 := zif hc_17 hk
          by_cases hk : v1 = 4
          · have hc_17 := zit hc_17 hk
            subst hk
            refine z_calliU (wc := [kX8 ad_t ad_t_steps ad_t_line ad_t_gone ad_t_wentIn t_size t_there t_roundsBy t_kind t_figure t_stepCount]) (wc' := [kX8 ad_t ad_t_steps ad_t_line ad_t_gone ad_t_wentIn t_size t_there t_roundsBy t_kind t_figure t_stepCount]) (ws' := [kX8 ad_t ad_t_steps ad_t_line ad_t_gone ad_t_wentIn t_size t_there t_roundsBy t_kind t_figure t_stepCount, kI cA ad_t_steps 8 t_steps, kI cA ad_t_line 120 t_line, kI cA ad_t_gone 120 t_gone, kI cA ad_t_wentIn 121 t_wentIn, (sa 0, .inr (6, [])), (sa 1, .inr (5, [])), (sa 2, .inr (7, [])), (sa 3, .inr (1, [])), (sa 4, .inr (9, [])), (sa 5, .inr (2, [])), (sa 6, .inr (3, []))]) (va_runU (As := [.ref ad_t]) (rest := []) ⟨hx, hb, hml, hown, hts⟩ (c_X9_idleRoundsToEnd l dC dI cA cN _ ad_t ad_t_steps ad_t_line ad_t_gone ad_t_wentIn (sa 4) t_size t_there t_roundsBy t_kind t_figure t_stepCount r_16 hc_17) (va_cwO 1 hts gX8_goToEnd_X9_idleRoundsToEnd_u95X9 rfl rfl rfl q_X8_goToEnd_0 (by decide +kernel) ⟨Nat.le_of_ble_eq_true rfl, Nat.le_of_ble_eq_true rfl⟩) (zPc.preV hK hE hP hD [0] rfl rfl (ci := 9) (q0 := 9) rfl rfl) rfl rfl hl.1 rfl (lv_room (Nat.le_of_ble_eq_true rfl)) dX8_goToEnd_2 ⟨Nat.le_of_ble_eq_true rfl, Nat.le_of_ble_eq_true rfl⟩) hP hD hS hA [0] rfl rfl rfl hn2
          · have hc_17 := zif hc_17 hk
            by_cases hk : v1 = 5
            · have hc_17 := zit hc_17 hk
              subst hk
              refine z_calliU (wc := []) (wc' := []) (ws' := [kX8 ad_t ad_t_steps ad_t_line ad_t_gone ad_t_wentIn t_size t_there t_roundsBy t_kind t_figure t_stepCount, kI cA ad_t_steps 8 t_steps, kI cA ad_t_line 120 t_line, kI cA ad_t_gone 120 t_gone, kI cA ad_t_wentIn 121 t_wentIn, (sa 0, .inr (6, [])), (sa 1, .inr (5, [])), (sa 2, .inr (7, [])), (sa 3, .inr (1, [])), (sa 4, .inr (9, [])), (sa 5, .inr (2, [])), (sa 6, .inr (3, []))]) (va_runU (As := [.ref ad_t]) (rest := []) ⟨hx, hb, hml, hown, hts⟩ (c_X6_idleRoundsToEnd l dC dI cA cN _ (sa 5) ad_t r_16 hc_17) (va_cwU 1 hts gX8_goToEnd_X6_idleRoundsToEnd_u95X2 rfl rfl rfl rfl (by decide +kernel) ⟨Nat.le_of_ble_eq_true rfl, Nat.le_of_ble_eq_true rfl⟩) (zPc.preV hK hE hP hD [] rfl rfl (ci := 2) (q0 := 10) rfl rfl) rfl rfl hl.1 rfl (lv_room (Nat.le_of_ble_eq_true rfl)) dX8_goToEnd_2 ⟨Nat.le_of_ble_eq_true rfl, Nat.le_of_ble_eq_true rfl⟩) hP hD hS hA [] rfl rfl rfl hn2
            · have hc_17 := zif hc_17 hk
              by_cases hk : v1 = 6
              · have hc_17 := zit hc_17 hk
                subst hk
                refine z_calliU (wc := []) (wc' := []) (ws' := [kX8 ad_t ad_t_steps ad_t_line ad_t_gone ad_t_wentIn t_size t_there t_roundsBy t_kind t_figure t_stepCount, kI cA ad_t_steps 8 t_steps, kI cA ad_t_line 120 t_line, kI cA ad_t_gone 120 t_gone, kI cA ad_t_wentIn 121 t_wentIn, (sa 0, .inr (6, [])), (sa 1, .inr (5, [])), (sa 2, .inr (7, [])), (sa 3, .inr (1, [])), (sa 4, .inr (9, [])), (sa 5, .inr (2, [])), (sa 6, .inr (3, []))]) (va_runU (As := [.ref ad_t]) (rest := []) ⟨hx, hb, hml, hown, hts⟩ (c_X6_idleRoundsToEnd l dC dI cA cN _ (sa 6) ad_t r_16 hc_17) (va_cwU 1 hts gX8_goToEnd_X6_idleRoundsToEnd_u95X3 rfl rfl rfl rfl (by decide +kernel) ⟨Nat.le_of_ble_eq_true rfl, Nat.le_of_ble_eq_true rfl⟩) (zPc.preV hK hE hP hD [] rfl rfl (ci := 3) (q0 := 11) rfl rfl) rfl rfl hl.1 rfl (lv_room (Nat.le_of_ble_eq_true rfl)) dX8_goToEnd_2 ⟨Nat.le_of_ble_eq_true rfl, Nat.le_of_ble_eq_true rfl⟩) hP hD hS hA [] rfl rfl rfl hn2
              · have hc_17 := zif hc_17 hk
                cases hc_17
