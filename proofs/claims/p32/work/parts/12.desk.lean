-- X10_refuse
theorem dX10_refuse_0 : decode cX10_refuse 0 = .ok (.iload_n 1, 1) := by decide +kernel
theorem dX10_refuse_1 : decode cX10_refuse 1 = .ok (.ifCond .lt 22, 3) := by decide +kernel
theorem dX10_refuse_4 : decode cX10_refuse 4 = .ok (.iload_n 1, 1) := by decide +kernel
theorem dX10_refuse_5 : decode cX10_refuse 5 = .ok (.aload_n 0, 1) := by decide +kernel
theorem dX10_refuse_6 : decode cX10_refuse 6 = .ok (.getfield 46, 3) := by decide +kernel
theorem dX10_refuse_9 : decode cX10_refuse 9 = .ok (.arraylength, 1) := by decide +kernel
theorem dX10_refuse_10 : decode cX10_refuse 10 = .ok (.if_icmp .ge 13, 3) := by decide +kernel
theorem dX10_refuse_13 : decode cX10_refuse 13 = .ok (.aload_n 0, 1) := by decide +kernel
theorem dX10_refuse_14 : decode cX10_refuse 14 = .ok (.getfield 46, 3) := by decide +kernel
theorem dX10_refuse_17 : decode cX10_refuse 17 = .ok (.iload_n 1, 1) := by decide +kernel
theorem dX10_refuse_18 : decode cX10_refuse 18 = .ok (.dup2, 1) := by decide +kernel
theorem dX10_refuse_19 : decode cX10_refuse 19 = .ok (.iaload, 1) := by decide +kernel
theorem dX10_refuse_20 : decode cX10_refuse 20 = .ok (.iconst 1, 1) := by decide +kernel
theorem dX10_refuse_21 : decode cX10_refuse 21 = .ok (.iadd, 1) := by decide +kernel
theorem dX10_refuse_22 : decode cX10_refuse 22 = .ok (.iastore, 1) := by decide +kernel
theorem dX10_refuse_23 : decode cX10_refuse 23 = .ok (.iload_n 1, 1) := by decide +kernel
theorem dX10_refuse_24 : decode cX10_refuse 24 = .ok (.ineg, 1) := by decide +kernel
theorem dX10_refuse_25 : decode cX10_refuse 25 = .ok (.ireturn, 1) := by decide +kernel
noncomputable def f_X10_refuse (v1 : Int) (t_refusals : Int → Int) : Option (Int × (Int → Int)) := zg (zR v1) (if v1 < 0 then some ((-v1), t_refusals) else zg (zR v1) (if 7 ≤ v1 then some ((-v1), t_refusals) else zg ((0 : Int) ≤ v1 ∧ v1 < (7 : Int)) (zg ((0 : Int) ≤ v1 ∧ v1 < (7 : Int)) (some ((-v1), (zup t_refusals v1 ((t_refusals v1) + 1)))))))
theorem q_X10_refuse_0 : Cond.fieldLink RX10 46 "EachSecondStruck" "refusals" "[I" ∈ wsX10_refuse := by decide +kernel
theorem in_X10_refuse_X10 : ∀ w ∈ u_ws RX10 TX10 10, w ∈ wsX10_refuse := by decide +kernel
set_option maxHeartbeats 4000000 in
set_option maxRecDepth 100000 in
theorem c_X10_refuse (l : Launch) (dC : Nat → ClassId) (dI : Nat → Nat → Nat) (cA cN : ClassId) (sz : Nat) (ad_t : Nat) (ad_t_strikers : Nat) (ad_n : Nat) (ad_m : Nat) (ad_k : Nat) (ad_l : Nat) (ad_e : Nat) (ad_t_toldOnes : Nat) (ad_t_refusals : Nat) (t_hasImage : Int) (t_toldCount : Int) (t_refusals : Int → Int) (v1 : Int) (r0 : Int) (t_refusals9 : Int → Int) (h : f_X10_refuse v1 t_refusals = some (r0, t_refusals9)) : Met l yX10_refuse wsX10_refuse { frames := 0, cells := 0, slots := 0, locals := 0 } (zPc (dC, dI) (zT cA cN) [kX10 ad_t ad_t_strikers ad_n ad_m ad_k ad_l ad_e ad_t_toldOnes ad_t_refusals t_hasImage t_toldCount, kI cA ad_t_refusals 7 t_refusals] [.ref ad_t, .int (zi v1)] sz) (zQi (dC, dI) [kX10 ad_t ad_t_strikers ad_n ad_m ad_k ad_l ad_e ad_t_toldOnes ad_t_refusals t_hasImage t_toldCount, kI cA ad_t_refusals 7 t_refusals9] r0 (va_A [kX10 ad_t ad_t_strikers ad_n ad_m ad_k ad_l ad_e ad_t_toldOnes ad_t_refusals t_hasImage t_toldCount, kI cA ad_t_refusals 7 t_refusals] sz)) 0 0 (va_A [kX10 ad_t ad_t_strikers ad_n ad_m ad_k ad_l ad_e ad_t_toldOnes ad_t_refusals t_hasImage t_toldCount, kI cA ad_t_refusals 7 t_refusals] sz) := by
  refine z_ofW (QF := fun A => zQi (dC, dI) [kX10 ad_t ad_t_strikers ad_n ad_m ad_k ad_l ad_e ad_t_toldOnes ad_t_refusals t_hasImage t_toldCount, kI cA ad_t_refusals 7 t_refusals9] r0 A) (by decide) rfl (Nat.le_of_ble_eq_true rfl) ?_
  intro p e s m below meth c ls A hx hb hml hr hlocks hnm hts hown hK hP hD hE hsz hA hS hl
  have hl : lv_has ls 2 [(0, .ref ad_t), (1, .int (zi v1))] := hl
  unfold f_X10_refuse at h
  refine lv_iload_n hx hb dX10_refuse_0 rfl (lv_at hl 1 rfl) ?_
  refine z_if_lt (tgt := 23) hx hb dX10_refuse_1 (by decide) h (fun h => ?_) (fun h => ?_)
  · refine lv_iload_n hx hb dX10_refuse_23 rfl (lv_at hl 1 rfl) ?_
    refine z_ineg hx hb dX10_refuse_24 ?_
    cases h
    exact z_iret hx hb hr hlocks hP hD hS dX10_refuse_25
  · refine lv_iload_n hx hb dX10_refuse_4 rfl (lv_at hl 1 rfl) ?_
    refine lv_aload_n hx hb dX10_refuse_5 rfl (lv_at hl 0 rfl) ?_
    refine va_get (D := (dC, dI)) (ci := 10) (v := .ref ad_t_refusals) (C := RX10) (T := TX10) (N := 10) hx hb hts in_X10_refuse_X10 hown hK hP 0 rfl rfl 9 (by decide) (hts _ q_X10_refuse_0) (fun _ h9 => h9) rfl dX10_refuse_6 ?_
    refine z_alen (N := 7) hx hb hK hP 1 0 rfl rfl rfl dX10_refuse_9 ?_
    refine z_icmp_ge (tgt := 23) hx hb dX10_refuse_10 (by decide) h (fun q => ⟨q, by decide⟩) (fun h => ?_) (fun h => ?_)
    · refine lv_iload_n hx hb dX10_refuse_23 rfl (lv_at hl 1 rfl) ?_
      refine z_ineg hx hb dX10_refuse_24 ?_
      cases h
      exact z_iret hx hb hr hlocks hP hD hS dX10_refuse_25
    · refine lv_aload_n hx hb dX10_refuse_13 rfl (lv_at hl 0 rfl) ?_
      refine va_get (D := (dC, dI)) (ci := 10) (v := .ref ad_t_refusals) (C := RX10) (T := TX10) (N := 10) hx hb hts in_X10_refuse_X10 hown hK hP 0 rfl rfl 9 (by decide) (hts _ q_X10_refuse_0) (fun _ h9 => h9) rfl dX10_refuse_14 ?_
      refine lv_iload_n hx hb dX10_refuse_17 rfl (lv_at hl 1 rfl) ?_
      refine lv_dup2_11 hx hb dX10_refuse_18 rfl rfl ?_
      refine z_iald (N := 7) hx hb hK hP 1 0 rfl rfl rfl (by decide) dX10_refuse_19 h (fun h => ?_)
      refine z_iconst hx hb dX10_refuse_20 ?_
      refine z_iadd hx hb dX10_refuse_21 ?_
      refine z_iast (N := 7) hx hb hK hP hD hS 1 0 rfl rfl rfl (by decide) dX10_refuse_22 h (fun h H locs hP hD hS => ?_)
      have hP : va_P (dC, dI) vwCl [kX10 ad_t ad_t_strikers ad_n ad_m ad_k ad_l ad_e ad_t_toldOnes ad_t_refusals t_hasImage t_toldCount, kI cA ad_t_refusals 7 (zup t_refusals v1 ((t_refusals v1) + 1))] H := hP
      have hD : va_D A [kX10 ad_t ad_t_strikers ad_n ad_m ad_k ad_l ad_e ad_t_toldOnes ad_t_refusals t_hasImage t_toldCount, kI cA ad_t_refusals 7 (zup t_refusals v1 ((t_refusals v1) + 1))] := hD
      refine lv_iload_n hx hb dX10_refuse_23 rfl (lv_at hl 1 rfl) ?_
      refine z_ineg hx hb dX10_refuse_24 ?_
      cases h
      exact z_iret hx hb hr hlocks hP hD hS dX10_refuse_25
-- X10_feed
theorem dX10_feed_0 : decode cX10_feed 0 = .ok (.iload_n 1, 1) := by decide +kernel
theorem dX10_feed_1 : decode cX10_feed 1 = .ok (.ifCond .ge 9, 3) := by decide +kernel
theorem dX10_feed_4 : decode cX10_feed 4 = .ok (.aload_n 0, 1) := by decide +kernel
theorem dX10_feed_5 : decode cX10_feed 5 = .ok (.iconst 4, 1) := by decide +kernel
theorem dX10_feed_6 : decode cX10_feed 6 = .ok (.invokevirtual 76, 3) := by decide +kernel
theorem dX10_feed_9 : decode cX10_feed 9 = .ok (.ireturn, 1) := by decide +kernel
theorem dX10_feed_10 : decode cX10_feed 10 = .ok (.iload_n 1, 1) := by decide +kernel
theorem dX10_feed_11 : decode cX10_feed 11 = .ok (.sipush 255, 3) := by decide +kernel
theorem dX10_feed_14 : decode cX10_feed 14 = .ok (.if_icmp .gt 15, 3) := by decide +kernel
theorem dX10_feed_17 : decode cX10_feed 17 = .ok (.aload_n 0, 1) := by decide +kernel
theorem dX10_feed_18 : decode cX10_feed 18 = .ok (.getfield 31, 3) := by decide +kernel
theorem dX10_feed_21 : decode cX10_feed 21 = .ok (.getfield 80, 3) := by decide +kernel
theorem dX10_feed_24 : decode cX10_feed 24 = .ok (.bipush 48, 2) := by decide +kernel
theorem dX10_feed_26 : decode cX10_feed 26 = .ok (.if_icmp .lt 10, 3) := by decide +kernel
theorem dX10_feed_29 : decode cX10_feed 29 = .ok (.aload_n 0, 1) := by decide +kernel
theorem dX10_feed_30 : decode cX10_feed 30 = .ok (.bipush 6, 2) := by decide +kernel
theorem dX10_feed_32 : decode cX10_feed 32 = .ok (.invokevirtual 76, 3) := by decide +kernel
theorem dX10_feed_35 : decode cX10_feed 35 = .ok (.ireturn, 1) := by decide +kernel
theorem dX10_feed_36 : decode cX10_feed 36 = .ok (.aload_n 0, 1) := by decide +kernel
theorem dX10_feed_37 : decode cX10_feed 37 = .ok (.getfield 31, 3) := by decide +kernel
theorem dX10_feed_40 : decode cX10_feed 40 = .ok (.iload_n 1, 1) := by decide +kernel
theorem dX10_feed_41 : decode cX10_feed 41 = .ok (.invokevirtual 83, 3) := by decide +kernel
theorem dX10_feed_44 : decode cX10_feed 44 = .ok (.ireturn, 1) := by decide +kernel
set_option maxRecDepth 20000 in
theorem ggX10_feed_X10_refuse : GoodIn wsX10_feed wsX10_refuse := goodIn_r _ [7, 8, 16, 17, 18, 19, 20, 21, 22, 23, 24, 25] rfl (by decide +kernel)
set_option maxRecDepth 20000 in
theorem gX10_feed_X10_refuse : GoodIn wsX10_feed (wsV RX10 76 RX10 yX10_refuse wsX10_refuse) := goodIn_app (goodIn_of _ (by decide +kernel)) ggX10_feed_X10_refuse
set_option maxRecDepth 20000 in
theorem ggX10_feed_X4_append : GoodIn wsX10_feed wsX4_append := goodIn_r _ [13, 14, 15, 26, 27, 28, 29, 30, 31] rfl (by decide +kernel)
set_option maxRecDepth 20000 in
theorem gX10_feed_X4_append : GoodIn wsX10_feed (wsV RX10 83 RX4 yX4_append wsX4_append) := goodIn_app (goodIn_of _ (by decide +kernel)) ggX10_feed_X4_append
noncomputable def f_X10_feed_J29 (t_refusals : Int → Int) (l_signs : Int → Int) (l_count : Int) : Option (Int × (Int → Int) × (Int → Int) × Int) := (f_X10_refuse 6 t_refusals).bind (fun (r_1, t_refusals_2) => some (r_1, t_refusals_2, l_signs, l_count))
noncomputable def f_X10_feed (v1 : Int) (t_refusals : Int → Int) (l_signs : Int → Int) (l_count : Int) : Option (Int × (Int → Int) × (Int → Int) × Int) := zg (zR v1) (if 0 ≤ v1 then zg (zR v1) (if 255 < v1 then f_X10_feed_J29 t_refusals l_signs l_count else zg (zR l_count) (if l_count < 48 then (f_X4_append v1 l_signs l_count).bind (fun (r_4, l_signs_5, l_count_6) => some (r_4, t_refusals, l_signs_5, l_count_6)) else f_X10_feed_J29 t_refusals l_signs l_count)) else (f_X10_refuse 4 t_refusals).bind (fun (r_8, t_refusals_9) => some (r_8, t_refusals_9, l_signs, l_count)))
theorem q_X10_feed_0 : Cond.fieldLink RX10 31 "EachSecondStruck" "letters" "LEachSecondStruck$Letters;" ∈ wsX10_feed := by decide +kernel
theorem q_X10_feed_1 : Cond.fieldLink RX10 80 "EachSecondStruck$Letters" "count" "I" ∈ wsX10_feed := by decide +kernel
theorem in_X10_feed_X10 : ∀ w ∈ u_ws RX10 TX10 10, w ∈ wsX10_feed := by decide +kernel
theorem in_X10_feed_X4 : ∀ w ∈ u_ws RX4 TX4 6, w ∈ wsX10_feed := by decide +kernel
set_option maxHeartbeats 4000000 in
set_option maxRecDepth 100000 in
theorem c_X10_feed (l : Launch) (dC : Nat → ClassId) (dI : Nat → Nat → Nat) (cA cN : ClassId) (sz : Nat) (ad_t : Nat) (ad_t_strikers : Nat) (ad_n : Nat) (ad_m : Nat) (ad_k : Nat) (ad_l : Nat) (ad_e : Nat) (ad_t_toldOnes : Nat) (ad_t_refusals : Nat) (ad_l_signs : Nat) (t_hasImage : Int) (t_toldCount : Int) (l_count : Int) (l_readAt : Int) (l_verb : Int) (l_first : Int) (l_second : Int) (t_refusals : Int → Int) (l_signs : Int → Int) (v1 : Int) (r0 : Int) (t_refusals9 : Int → Int) (l_signs9 : Int → Int) (l_count9 : Int) (h : f_X10_feed v1 t_refusals l_signs l_count = some (r0, t_refusals9, l_signs9, l_count9)) : Met l yX10_feed wsX10_feed { frames := 1, cells := 0, slots := 0, locals := 21 } (zPc (dC, dI) (zT cA cN) [kX10 ad_t ad_t_strikers ad_n ad_m ad_k ad_l ad_e ad_t_toldOnes ad_t_refusals t_hasImage t_toldCount, kI cA ad_t_refusals 7 t_refusals, kX4 ad_l ad_l_signs l_count l_readAt l_verb l_first l_second, kI cA ad_l_signs 48 l_signs] [.ref ad_t, .int (zi v1)] sz) (zQi (dC, dI) [kX10 ad_t ad_t_strikers ad_n ad_m ad_k ad_l ad_e ad_t_toldOnes ad_t_refusals t_hasImage t_toldCount, kI cA ad_t_refusals 7 t_refusals9, kX4 ad_l ad_l_signs l_count9 l_readAt l_verb l_first l_second, kI cA ad_l_signs 48 l_signs9] r0 (va_A [kX10 ad_t ad_t_strikers ad_n ad_m ad_k ad_l ad_e ad_t_toldOnes ad_t_refusals t_hasImage t_toldCount, kI cA ad_t_refusals 7 t_refusals, kX4 ad_l ad_l_signs l_count l_readAt l_verb l_first l_second, kI cA ad_l_signs 48 l_signs] sz)) 0 0 (va_A [kX10 ad_t ad_t_strikers ad_n ad_m ad_k ad_l ad_e ad_t_toldOnes ad_t_refusals t_hasImage t_toldCount, kI cA ad_t_refusals 7 t_refusals, kX4 ad_l ad_l_signs l_count l_readAt l_verb l_first l_second, kI cA ad_l_signs 48 l_signs] sz) := by
  refine z_ofW (QF := fun A => zQi (dC, dI) [kX10 ad_t ad_t_strikers ad_n ad_m ad_k ad_l ad_e ad_t_toldOnes ad_t_refusals t_hasImage t_toldCount, kI cA ad_t_refusals 7 t_refusals9, kX4 ad_l ad_l_signs l_count9 l_readAt l_verb l_first l_second, kI cA ad_l_signs 48 l_signs9] r0 A) (by decide) rfl (Nat.le_of_ble_eq_true rfl) ?_
  intro p e s m below meth c ls A hx hb hml hr hlocks hnm hts hown hK hP hD hE hsz hA hS hl
  have hl : lv_has ls 2 [(0, .ref ad_t), (1, .int (zi v1))] := hl
  unfold f_X10_feed at h
  refine lv_iload_n hx hb dX10_feed_0 rfl (lv_at hl 1 rfl) ?_
  refine z_if_ge (tgt := 10) hx hb dX10_feed_1 (by decide) h (fun h => ?_) (fun h => ?_)
  · refine lv_iload_n hx hb dX10_feed_10 rfl (lv_at hl 1 rfl) ?_
    refine z_sipush hx hb (by decide +kernel) dX10_feed_11 ?_
    have hj29 : ∀ (H : Heap) (locs : List Loc) (ls : Array Slot), f_X10_feed_J29 t_refusals l_signs l_count = some (r0, t_refusals9, l_signs9, l_count9) → va_P (dC, dI) vwCl [kX10 ad_t ad_t_strikers ad_n ad_m ad_k ad_l ad_e ad_t_toldOnes ad_t_refusals t_hasImage t_toldCount, kI cA ad_t_refusals 7 t_refusals, kX4 ad_l ad_l_signs l_count l_readAt l_verb l_first l_second, kI cA ad_l_signs 48 l_signs] H → va_D A [kX10 ad_t ad_t_strikers ad_n ad_m ad_k ad_l ad_e ad_t_toldOnes ad_t_refusals t_hasImage t_toldCount, kI cA ad_t_refusals 7 t_refusals, kX4 ad_l ad_l_signs l_count l_readAt l_verb l_first l_second, kI cA ad_l_signs 48 l_signs] → va_S A s.heap H locs → lv_has ls 2 [(0, .ref ad_t)] → W p l e { frames := 1, cells := 0, slots := 0, locals := 21 } s m ([.ref ad_t, .int (zi v1)] : List Value).toArray below meth c H locs 0 0 (MQ below (zQi (dC, dI) [kX10 ad_t ad_t_strikers ad_n ad_m ad_k ad_l ad_e ad_t_toldOnes ad_t_refusals t_hasImage t_toldCount, kI cA ad_t_refusals 7 t_refusals9, kX4 ad_l ad_l_signs l_count9 l_readAt l_verb l_first l_second, kI cA ad_l_signs 48 l_signs9] r0 A) ([.ref ad_t, .int (zi v1)] : List Value).toArray s 0 0 A) (F0 m 29 ls []) := by
      intro  H locs ls h hP hD hS hl
      unfold f_X10_feed_J29 at h
      refine lv_aload_n hx hb dX10_feed_29 rfl (lv_at hl 0 rfl) ?_
      refine z_bipush hx hb (by decide +kernel) dX10_feed_30 ?_
      obtain ⟨⟨r_11, t_refusals_12⟩, hc_13, h⟩ := zb h
      try dsimp only at h
      refine z_calliU (wc := [kX10 ad_t ad_t_strikers ad_n ad_m ad_k ad_l ad_e ad_t_toldOnes ad_t_refusals t_hasImage t_toldCount, kI cA ad_t_refusals 7 t_refusals]) (wc' := [kX10 ad_t ad_t_strikers ad_n ad_m ad_k ad_l ad_e ad_t_toldOnes ad_t_refusals t_hasImage t_toldCount, kI cA ad_t_refusals 7 t_refusals_12]) (ws' := [kX10 ad_t ad_t_strikers ad_n ad_m ad_k ad_l ad_e ad_t_toldOnes ad_t_refusals t_hasImage t_toldCount, kI cA ad_t_refusals 7 t_refusals_12, kX4 ad_l ad_l_signs l_count l_readAt l_verb l_first l_second, kI cA ad_l_signs 48 l_signs]) (va_runV (As := [.int (zi 6)]) (rest := []) ⟨hx, hb, hml, hown, hts⟩ (c_X10_refuse l dC dI cA cN _ ad_t ad_t_strikers ad_n ad_m ad_k ad_l ad_e ad_t_toldOnes ad_t_refusals t_hasImage t_toldCount t_refusals 6 r_11 t_refusals_12 hc_13) (cwV 1 hts gX10_feed_X10_refuse rfl rfl rfl (by decide +kernel) ⟨Nat.le_of_ble_eq_true rfl, Nat.le_of_ble_eq_true rfl⟩) (zPc.preV hK hE hP hD [0, 1] rfl rfl (ci := 10) (q0 := 0) rfl rfl) rfl rfl hl.1 rfl (lv_room (Nat.le_of_ble_eq_true rfl)) dX10_feed_32 ⟨Nat.le_of_ble_eq_true rfl, Nat.le_of_ble_eq_true rfl⟩) hP hD hS hA [0, 1] rfl rfl rfl (fun H locs hP hD hS => ?_)
      cases h
      exact z_iret hx hb hr hlocks hP hD hS dX10_feed_35
    refine z_icmp_gt (tgt := 29) hx hb dX10_feed_14 (by decide) h (fun q => ⟨q, by decide⟩) (fun h => ?_) (fun h => ?_)
    · exact hj29 _ _ _ h hP hD hS (lv_sub hl [0] rfl)
    · refine lv_aload_n hx hb dX10_feed_17 rfl (lv_at hl 0 rfl) ?_
      refine va_get (D := (dC, dI)) (ci := 10) (v := .ref ad_l) (C := RX10) (T := TX10) (N := 10) hx hb hts in_X10_feed_X10 hown hK hP 0 rfl rfl 5 (by decide) (hts _ q_X10_feed_0) (fun _ h9 => h9) rfl dX10_feed_18 ?_
      refine va_get (D := (dC, dI)) (ci := 4) (v := .int (zi l_count)) (C := RX4) (T := TX4) (N := 6) hx hb hts in_X10_feed_X4 hown hK hP 2 rfl rfl 1 (by decide) (hts _ q_X10_feed_1) (fun _ h9 => h9) rfl dX10_feed_21 ?_
      refine z_bipush hx hb (by decide +kernel) dX10_feed_24 ?_
      refine z_icmp_lt (tgt := 36) hx hb dX10_feed_26 (by decide) h (fun q => ⟨q, by decide⟩) (fun h => ?_) (fun h => ?_)
      · refine lv_aload_n hx hb dX10_feed_36 rfl (lv_at hl 0 rfl) ?_
        refine va_get (D := (dC, dI)) (ci := 10) (v := .ref ad_l) (C := RX10) (T := TX10) (N := 10) hx hb hts in_X10_feed_X10 hown hK hP 0 rfl rfl 5 (by decide) (hts _ q_X10_feed_0) (fun _ h9 => h9) rfl dX10_feed_37 ?_
        refine lv_iload_n hx hb dX10_feed_40 rfl (lv_at hl 1 rfl) ?_
        obtain ⟨⟨r_14, l_signs_15, l_count_16⟩, hc_17, h⟩ := zb h
        try dsimp only at h
        refine z_calliU (wc := [kX4 ad_l ad_l_signs l_count l_readAt l_verb l_first l_second, kI cA ad_l_signs 48 l_signs]) (wc' := [kX4 ad_l ad_l_signs l_count_16 l_readAt l_verb l_first l_second, kI cA ad_l_signs 48 l_signs_15]) (ws' := [kX10 ad_t ad_t_strikers ad_n ad_m ad_k ad_l ad_e ad_t_toldOnes ad_t_refusals t_hasImage t_toldCount, kI cA ad_t_refusals 7 t_refusals, kX4 ad_l ad_l_signs l_count_16 l_readAt l_verb l_first l_second, kI cA ad_l_signs 48 l_signs_15]) (va_runV (As := [.int (zi v1)]) (rest := []) ⟨hx, hb, hml, hown, hts⟩ (c_X4_append l dC dI cA cN _ ad_l ad_l_signs l_count l_readAt l_verb l_first l_second l_signs v1 r_14 l_signs_15 l_count_16 hc_17) (cwV 1 hts gX10_feed_X4_append rfl rfl rfl (by decide +kernel) ⟨Nat.le_of_ble_eq_true rfl, Nat.le_of_ble_eq_true rfl⟩) (zPc.preV hK hE hP hD [2, 3] rfl rfl (ci := 4) (q0 := 2) rfl rfl) rfl rfl hl.1 rfl (lv_room (Nat.le_of_ble_eq_true rfl)) dX10_feed_41 ⟨Nat.le_of_ble_eq_true rfl, Nat.le_of_ble_eq_true rfl⟩) hP hD hS hA [2, 3] rfl rfl rfl (fun H locs hP hD hS => ?_)
        cases h
        exact z_iret hx hb hr hlocks hP hD hS dX10_feed_44
      · exact hj29 _ _ _ h hP hD hS (lv_sub hl [0] rfl)
  · refine lv_aload_n hx hb dX10_feed_4 rfl (lv_at hl 0 rfl) ?_
    refine z_iconst hx hb dX10_feed_5 ?_
    obtain ⟨⟨r_18, t_refusals_19⟩, hc_20, h⟩ := zb h
    try dsimp only at h
    refine z_calliU (wc := [kX10 ad_t ad_t_strikers ad_n ad_m ad_k ad_l ad_e ad_t_toldOnes ad_t_refusals t_hasImage t_toldCount, kI cA ad_t_refusals 7 t_refusals]) (wc' := [kX10 ad_t ad_t_strikers ad_n ad_m ad_k ad_l ad_e ad_t_toldOnes ad_t_refusals t_hasImage t_toldCount, kI cA ad_t_refusals 7 t_refusals_19]) (ws' := [kX10 ad_t ad_t_strikers ad_n ad_m ad_k ad_l ad_e ad_t_toldOnes ad_t_refusals t_hasImage t_toldCount, kI cA ad_t_refusals 7 t_refusals_19, kX4 ad_l ad_l_signs l_count l_readAt l_verb l_first l_second, kI cA ad_l_signs 48 l_signs]) (va_runV (As := [.int (zi 4)]) (rest := []) ⟨hx, hb, hml, hown, hts⟩ (c_X10_refuse l dC dI cA cN _ ad_t ad_t_strikers ad_n ad_m ad_k ad_l ad_e ad_t_toldOnes ad_t_refusals t_hasImage t_toldCount t_refusals 4 r_18 t_refusals_19 hc_20) (cwV 1 hts gX10_feed_X10_refuse rfl rfl rfl (by decide +kernel) ⟨Nat.le_of_ble_eq_true rfl, Nat.le_of_ble_eq_true rfl⟩) (zPc.preV hK hE hP hD [0, 1] rfl rfl (ci := 10) (q0 := 0) rfl rfl) rfl rfl hl.1 rfl (lv_room (Nat.le_of_ble_eq_true rfl)) dX10_feed_6 ⟨Nat.le_of_ble_eq_true rfl, Nat.le_of_ble_eq_true rfl⟩) hP hD hS hA [0, 1] rfl rfl rfl (fun H locs hP hD hS => ?_)
    cases h
    exact z_iret hx hb hr hlocks hP hD hS dX10_feed_9
-- X10_isKind
theorem dX10_isKind_0 : decode cX10_isKind 0 = .ok (.iload_n 0, 1) := by decide +kernel
theorem dX10_isKind_1 : decode cX10_isKind 1 = .ok (.ifCond .lt 13, 3) := by decide +kernel
theorem dX10_isKind_4 : decode cX10_isKind 4 = .ok (.iload_n 0, 1) := by decide +kernel
theorem dX10_isKind_5 : decode cX10_isKind 5 = .ok (.bipush 7, 2) := by decide +kernel
theorem dX10_isKind_7 : decode cX10_isKind 7 = .ok (.if_icmp .ge 7, 3) := by decide +kernel
theorem dX10_isKind_10 : decode cX10_isKind 10 = .ok (.iconst 1, 1) := by decide +kernel
theorem dX10_isKind_11 : decode cX10_isKind 11 = .ok (.goto 4, 3) := by decide +kernel
theorem dX10_isKind_14 : decode cX10_isKind 14 = .ok (.iconst 0, 1) := by decide +kernel
theorem dX10_isKind_15 : decode cX10_isKind 15 = .ok (.ireturn, 1) := by decide +kernel
noncomputable def f_X10_isKind (v0 : Int) : Option (Int) := zg (zR v0) (if v0 < 0 then some 0 else zg (zR v0) (if 7 ≤ v0 then some 0 else some 1))
set_option maxHeartbeats 4000000 in
set_option maxRecDepth 100000 in
theorem c_X10_isKind (l : Launch) (dC : Nat → ClassId) (dI : Nat → Nat → Nat) (cA cN : ClassId) (sz : Nat)  (v0 : Int) (r0 : Int) (h : f_X10_isKind v0 = some r0) : Met l yX10_isKind wsX10_isKind { frames := 0, cells := 0, slots := 0, locals := 0 } (zPc (dC, dI) (zT cA cN) [] [.int (zi v0)] sz) (zQi (dC, dI) [] r0 (va_A [] sz)) 0 0 (va_A [] sz) := by
  refine z_ofW (QF := fun A => zQi (dC, dI) [] r0 A) (by decide) rfl (Nat.le_of_ble_eq_true rfl) ?_
  intro p e s m below meth c ls A hx hb hml hr hlocks hnm hts hown hK hP hD hE hsz hA hS hl
  have hl : lv_has ls 1 [(0, .int (zi v0))] := hl
  unfold f_X10_isKind at h
  refine lv_iload_n hx hb dX10_isKind_0 rfl (lv_at hl 0 rfl) ?_
  refine z_if_lt (tgt := 14) hx hb dX10_isKind_1 (by decide) h (fun h => ?_) (fun h => ?_)
  · refine z_iconst hx hb dX10_isKind_14 ?_
    cases h
    exact z_zret hx hb hr hlocks (by decide) hP hD hS dX10_isKind_15
  · refine lv_iload_n hx hb dX10_isKind_4 rfl (lv_at hl 0 rfl) ?_
    refine z_bipush hx hb (by decide +kernel) dX10_isKind_5 ?_
    refine z_icmp_ge (tgt := 14) hx hb dX10_isKind_7 (by decide) h (fun q => ⟨q, by decide⟩) (fun h => ?_) (fun h => ?_)
    · refine z_iconst hx hb dX10_isKind_14 ?_
      cases h
      exact z_zret hx hb hr hlocks (by decide) hP hD hS dX10_isKind_15
    · refine z_iconst hx hb dX10_isKind_10 ?_
      refine lv_goto (tgt := 15) hx hb dX10_isKind_11 (by decide) ?_
      cases h
      exact z_zret hx hb hr hlocks (by decide) hP hD hS dX10_isKind_15
-- X10_carryOut
theorem dX10_carryOut_0 : decode cX10_carryOut 0 = .ok (.aload_n 0, 1) := by decide +kernel
theorem dX10_carryOut_1 : decode cX10_carryOut 1 = .ok (.getfield 31, 3) := by decide +kernel
theorem dX10_carryOut_4 : decode cX10_carryOut 4 = .ok (.getfield 229, 3) := by decide +kernel
theorem dX10_carryOut_7 : decode cX10_carryOut 7 = .ok (.istore_n 1, 1) := by decide +kernel
theorem dX10_carryOut_8 : decode cX10_carryOut 8 = .ok (.aload_n 0, 1) := by decide +kernel
theorem dX10_carryOut_9 : decode cX10_carryOut 9 = .ok (.getfield 31, 3) := by decide +kernel
theorem dX10_carryOut_12 : decode cX10_carryOut 12 = .ok (.getfield 232, 3) := by decide +kernel
theorem dX10_carryOut_15 : decode cX10_carryOut 15 = .ok (.istore_n 2, 1) := by decide +kernel
theorem dX10_carryOut_16 : decode cX10_carryOut 16 = .ok (.aload_n 0, 1) := by decide +kernel
theorem dX10_carryOut_17 : decode cX10_carryOut 17 = .ok (.getfield 31, 3) := by decide +kernel
theorem dX10_carryOut_20 : decode cX10_carryOut 20 = .ok (.getfield 235, 3) := by decide +kernel
theorem dX10_carryOut_23 : decode cX10_carryOut 23 = .ok (.lookupswitch 103 #[(110, 41), (115, 50), (116, 84), (120, 93)], 41) := by decide +kernel
theorem dX10_carryOut_64 : decode cX10_carryOut 64 = .ok (.aload_n 0, 1) := by decide +kernel
theorem dX10_carryOut_65 : decode cX10_carryOut 65 = .ok (.getfield 22, 3) := by decide +kernel
theorem dX10_carryOut_68 : decode cX10_carryOut 68 = .ok (.iload_n 1, 1) := by decide +kernel
theorem dX10_carryOut_69 : decode cX10_carryOut 69 = .ok (.invokevirtual 72, 3) := by decide +kernel
theorem dX10_carryOut_72 : decode cX10_carryOut 72 = .ok (.ireturn, 1) := by decide +kernel
theorem dX10_carryOut_73 : decode cX10_carryOut 73 = .ok (.iload_n 1, 1) := by decide +kernel
theorem dX10_carryOut_74 : decode cX10_carryOut 74 = .ok (.invokestatic 166, 3) := by decide +kernel
theorem dX10_carryOut_77 : decode cX10_carryOut 77 = .ok (.ifCond .eq 10, 3) := by decide +kernel
theorem dX10_carryOut_80 : decode cX10_carryOut 80 = .ok (.iload_n 2, 1) := by decide +kernel
theorem dX10_carryOut_81 : decode cX10_carryOut 81 = .ok (.invokestatic 238, 3) := by decide +kernel
theorem dX10_carryOut_84 : decode cX10_carryOut 84 = .ok (.ifCond .ne 5, 3) := by decide +kernel
theorem dX10_carryOut_87 : decode cX10_carryOut 87 = .ok (.iconst 0, 1) := by decide +kernel
theorem dX10_carryOut_88 : decode cX10_carryOut 88 = .ok (.ireturn, 1) := by decide +kernel
theorem dX10_carryOut_89 : decode cX10_carryOut 89 = .ok (.aload_n 0, 1) := by decide +kernel
theorem dX10_carryOut_90 : decode cX10_carryOut 90 = .ok (.getfield 22, 3) := by decide +kernel
theorem dX10_carryOut_93 : decode cX10_carryOut 93 = .ok (.iload_n 1, 1) := by decide +kernel
theorem dX10_carryOut_94 : decode cX10_carryOut 94 = .ok (.putfield 116, 3) := by decide +kernel
theorem dX10_carryOut_97 : decode cX10_carryOut 97 = .ok (.aload_n 0, 1) := by decide +kernel
theorem dX10_carryOut_98 : decode cX10_carryOut 98 = .ok (.getfield 22, 3) := by decide +kernel
theorem dX10_carryOut_101 : decode cX10_carryOut 101 = .ok (.iload_n 2, 1) := by decide +kernel
theorem dX10_carryOut_102 : decode cX10_carryOut 102 = .ok (.putfield 68, 3) := by decide +kernel
theorem dX10_carryOut_105 : decode cX10_carryOut 105 = .ok (.iconst 1, 1) := by decide +kernel
theorem dX10_carryOut_106 : decode cX10_carryOut 106 = .ok (.ireturn, 1) := by decide +kernel
theorem dX10_carryOut_107 : decode cX10_carryOut 107 = .ok (.aload_n 0, 1) := by decide +kernel
theorem dX10_carryOut_108 : decode cX10_carryOut 108 = .ok (.getfield 22, 3) := by decide +kernel
theorem dX10_carryOut_111 : decode cX10_carryOut 111 = .ok (.iload_n 1, 1) := by decide +kernel
theorem dX10_carryOut_112 : decode cX10_carryOut 112 = .ok (.invokevirtual 103, 3) := by decide +kernel
theorem dX10_carryOut_115 : decode cX10_carryOut 115 = .ok (.ireturn, 1) := by decide +kernel
theorem dX10_carryOut_116 : decode cX10_carryOut 116 = .ok (.aload_n 0, 1) := by decide +kernel
theorem dX10_carryOut_117 : decode cX10_carryOut 117 = .ok (.getfield 22, 3) := by decide +kernel
theorem dX10_carryOut_120 : decode cX10_carryOut 120 = .ok (.iload_n 1, 1) := by decide +kernel
theorem dX10_carryOut_121 : decode cX10_carryOut 121 = .ok (.iload_n 2, 1) := by decide +kernel
theorem dX10_carryOut_122 : decode cX10_carryOut 122 = .ok (.invokevirtual 112, 3) := by decide +kernel
theorem dX10_carryOut_125 : decode cX10_carryOut 125 = .ok (.ireturn, 1) := by decide +kernel
theorem dX10_carryOut_126 : decode cX10_carryOut 126 = .ok (.iconst 0, 1) := by decide +kernel
theorem dX10_carryOut_127 : decode cX10_carryOut 127 = .ok (.ireturn, 1) := by decide +kernel
set_option maxRecDepth 20000 in
theorem ggX10_carryOut_X8_beginWith : GoodIn wsX10_carryOut wsX8_beginWith := goodIn_r _ [12, 13, 14, 15, 16, 17, 18, 19, 20, 21, 63, 64, 65, 66, 67, 68, 69, 70, 71, 72] rfl (by decide +kernel)
set_option maxRecDepth 20000 in
theorem gX10_carryOut_X8_beginWith : GoodIn wsX10_carryOut (wsV RX10 72 RX8 yX8_beginWith wsX8_beginWith) := goodIn_app (goodIn_of _ (by decide +kernel)) ggX10_carryOut_X8_beginWith
set_option maxRecDepth 20000 in
theorem ggX10_carryOut_X10_isKind : GoodIn wsX10_carryOut wsX10_isKind := goodIn_r _ [25] rfl (by decide +kernel)
set_option maxRecDepth 20000 in
theorem gX10_carryOut_X10_isKind : GoodIn wsX10_carryOut (va_wsS RX10 166 yX10_isKind wsX10_isKind) := goodIn_app (goodIn_of _ (by decide +kernel)) ggX10_carryOut_X10_isKind
set_option maxRecDepth 20000 in
theorem ggX10_carryOut_X10_isFigure : GoodIn wsX10_carryOut wsX10_isFigure := goodIn_r _ [28] rfl (by decide +kernel)
set_option maxRecDepth 20000 in
theorem gX10_carryOut_X10_isFigure : GoodIn wsX10_carryOut (va_wsS RX10 238 yX10_isFigure wsX10_isFigure) := goodIn_app (goodIn_of _ (by decide +kernel)) ggX10_carryOut_X10_isFigure
set_option maxRecDepth 20000 in
theorem ggX10_carryOut_X8_addStep : GoodIn wsX10_carryOut wsX8_addStep := goodIn_r _ [32, 33, 34, 27, 24, 28, 63, 64, 65, 66, 67, 68, 69, 70, 71, 72] rfl (by decide +kernel)
set_option maxRecDepth 20000 in
theorem gX10_carryOut_X8_addStep : GoodIn wsX10_carryOut (wsV RX10 103 RX8 yX8_addStep wsX8_addStep) := goodIn_app (goodIn_of _ (by decide +kernel)) ggX10_carryOut_X8_addStep
set_option maxRecDepth 20000 in
theorem ggX10_carryOut_X8_changePlaces : GoodIn wsX10_carryOut wsX8_changePlaces := goodIn_r _ [38, 15, 17, 39, 40, 41, 11, 42, 13, 43, 44, 45, 46, 14, 63, 64, 65, 66, 67, 68, 69, 70, 71, 72] rfl (by decide +kernel)
set_option maxRecDepth 20000 in
theorem gX10_carryOut_X8_changePlaces : GoodIn wsX10_carryOut (wsV RX10 112 RX8 yX8_changePlaces wsX8_changePlaces) := goodIn_app (goodIn_of _ (by decide +kernel)) ggX10_carryOut_X8_changePlaces
noncomputable def f_X10_carryOut (m_size : Int) (m_there : Int) (m_roundsBy : Int) (m_kind : Int) (m_figure : Int) (m_stepCount : Int) (m_steps : Int → Int) (m_line : Int → Int) (m_wentIn : Int → Int) (l_verb : Int) (l_first : Int) (l_second : Int) : Option (Int × Int × Int × Int × Int × Int × Int × (Int → Int) × (Int → Int) × (Int → Int)) := zg (zR l_verb) (if l_verb = 110 then (f_X8_beginWith l_first m_size m_there m_roundsBy m_line m_wentIn).bind (fun (r_12, m_size_13, m_there_14, m_roundsBy_15, m_line_16, m_wentIn_17) => zg (r_12 = 0 ∨ r_12 = 1) (some (r_12, m_size_13, m_there_14, m_roundsBy_15, m_kind, m_figure, m_stepCount, m_steps, m_line_16, m_wentIn_17))) else if l_verb = 115 then (f_X10_isKind l_first).bind (fun r_8 => zg (zR r_8) (if r_8 = 0 then some (0, m_size, m_there, m_roundsBy, m_kind, m_figure, m_stepCount, m_steps, m_line, m_wentIn) else (f_X10_isFigure l_second).bind (fun r_10 => zg (zR r_10) (if ¬ r_10 = 0 then some (1, m_size, m_there, m_roundsBy, l_first, l_second, m_stepCount, m_steps, m_line, m_wentIn) else some (0, m_size, m_there, m_roundsBy, m_kind, m_figure, m_stepCount, m_steps, m_line, m_wentIn))))) else if l_verb = 116 then (f_X8_addStep l_first m_stepCount m_steps).bind (fun (r_4, m_stepCount_5, m_steps_6) => zg (r_4 = 0 ∨ r_4 = 1) (some (r_4, m_size, m_there, m_roundsBy, m_kind, m_figure, m_stepCount_5, m_steps_6, m_line, m_wentIn))) else if l_verb = 120 then (f_X8_changePlaces l_first l_second m_size m_there m_roundsBy m_line).bind (fun (r_1, m_line_2) => zg (r_1 = 0 ∨ r_1 = 1) (some (r_1, m_size, m_there, m_roundsBy, m_kind, m_figure, m_stepCount, m_steps, m_line_2, m_wentIn))) else some (0, m_size, m_there, m_roundsBy, m_kind, m_figure, m_stepCount, m_steps, m_line, m_wentIn))
theorem q_X10_carryOut_0 : Cond.fieldLink RX10 31 "EachSecondStruck" "letters" "LEachSecondStruck$Letters;" ∈ wsX10_carryOut := by decide +kernel
theorem q_X10_carryOut_1 : Cond.fieldLink RX10 229 "EachSecondStruck$Letters" "first" "I" ∈ wsX10_carryOut := by decide +kernel
theorem q_X10_carryOut_2 : Cond.fieldLink RX10 232 "EachSecondStruck$Letters" "second" "I" ∈ wsX10_carryOut := by decide +kernel
theorem q_X10_carryOut_3 : Cond.fieldLink RX10 235 "EachSecondStruck$Letters" "verb" "I" ∈ wsX10_carryOut := by decide +kernel
theorem q_X10_carryOut_4 : Cond.fieldLink RX10 22 "EachSecondStruck" "mind" "LEachSecondStruck$Standing;" ∈ wsX10_carryOut := by decide +kernel
theorem q_X10_carryOut_5 : Cond.fieldLink RX10 116 "EachSecondStruck$Standing" "kind" "I" ∈ wsX10_carryOut := by decide +kernel
theorem q_X10_carryOut_6 : Cond.fieldLink RX10 68 "EachSecondStruck$Standing" "figure" "I" ∈ wsX10_carryOut := by decide +kernel
theorem in_X10_carryOut_X10 : ∀ w ∈ u_ws RX10 TX10 10, w ∈ wsX10_carryOut := by decide +kernel
theorem in_X10_carryOut_X4 : ∀ w ∈ u_ws RX4 TX4 6, w ∈ wsX10_carryOut := by decide +kernel
theorem in_X10_carryOut_X8 : ∀ w ∈ u_ws RX8 TX8 10, w ∈ wsX10_carryOut := by decide +kernel
set_option maxHeartbeats 4000000 in
set_option maxRecDepth 100000 in
theorem c_X10_carryOut (l : Launch) (dC : Nat → ClassId) (dI : Nat → Nat → Nat) (cA cN : ClassId) (sz : Nat) (ad_t : Nat) (ad_t_strikers : Nat) (ad_n : Nat) (ad_m : Nat) (ad_k : Nat) (ad_l : Nat) (ad_e : Nat) (ad_t_toldOnes : Nat) (ad_t_refusals : Nat) (ad_m_steps : Nat) (ad_m_line : Nat) (ad_m_gone : Nat) (ad_m_wentIn : Nat) (ad_l_signs : Nat) (t_hasImage : Int) (t_toldCount : Int) (m_size : Int) (m_there : Int) (m_roundsBy : Int) (m_kind : Int) (m_figure : Int) (m_stepCount : Int) (l_count : Int) (l_readAt : Int) (l_verb : Int) (l_first : Int) (l_second : Int) (m_line : Int → Int) (m_steps : Int → Int) (m_wentIn : Int → Int)  (r0 : Int) (m_size9 : Int) (m_there9 : Int) (m_roundsBy9 : Int) (m_kind9 : Int) (m_figure9 : Int) (m_stepCount9 : Int) (m_steps9 : Int → Int) (m_line9 : Int → Int) (m_wentIn9 : Int → Int) (h : f_X10_carryOut m_size m_there m_roundsBy m_kind m_figure m_stepCount m_steps m_line m_wentIn l_verb l_first l_second = some (r0, m_size9, m_there9, m_roundsBy9, m_kind9, m_figure9, m_stepCount9, m_steps9, m_line9, m_wentIn9)) : Met l yX10_carryOut wsX10_carryOut { frames := 2, cells := 0, slots := 0, locals := 46 } (zPc (dC, dI) (zT cA cN) [kX10 ad_t ad_t_strikers ad_n ad_m ad_k ad_l ad_e ad_t_toldOnes ad_t_refusals t_hasImage t_toldCount, kX8 ad_m ad_m_steps ad_m_line ad_m_gone ad_m_wentIn m_size m_there m_roundsBy m_kind m_figure m_stepCount, kI cA ad_m_steps 8 m_steps, kI cA ad_m_line 120 m_line, kI cA ad_m_wentIn 121 m_wentIn, kX4 ad_l ad_l_signs l_count l_readAt l_verb l_first l_second] [.ref ad_t] sz) (zQi (dC, dI) [kX10 ad_t ad_t_strikers ad_n ad_m ad_k ad_l ad_e ad_t_toldOnes ad_t_refusals t_hasImage t_toldCount, kX8 ad_m ad_m_steps ad_m_line ad_m_gone ad_m_wentIn m_size9 m_there9 m_roundsBy9 m_kind9 m_figure9 m_stepCount9, kI cA ad_m_steps 8 m_steps9, kI cA ad_m_line 120 m_line9, kI cA ad_m_wentIn 121 m_wentIn9, kX4 ad_l ad_l_signs l_count l_readAt l_verb l_first l_second] r0 (va_A [kX10 ad_t ad_t_strikers ad_n ad_m ad_k ad_l ad_e ad_t_toldOnes ad_t_refusals t_hasImage t_toldCount, kX8 ad_m ad_m_steps ad_m_line ad_m_gone ad_m_wentIn m_size m_there m_roundsBy m_kind m_figure m_stepCount, kI cA ad_m_steps 8 m_steps, kI cA ad_m_line 120 m_line, kI cA ad_m_wentIn 121 m_wentIn, kX4 ad_l ad_l_signs l_count l_readAt l_verb l_first l_second] sz)) 0 0 (va_A [kX10 ad_t ad_t_strikers ad_n ad_m ad_k ad_l ad_e ad_t_toldOnes ad_t_refusals t_hasImage t_toldCount, kX8 ad_m ad_m_steps ad_m_line ad_m_gone ad_m_wentIn m_size m_there m_roundsBy m_kind m_figure m_stepCount, kI cA ad_m_steps 8 m_steps, kI cA ad_m_line 120 m_line, kI cA ad_m_wentIn 121 m_wentIn, kX4 ad_l ad_l_signs l_count l_readAt l_verb l_first l_second] sz) := by
  refine z_ofW (QF := fun A => zQi (dC, dI) [kX10 ad_t ad_t_strikers ad_n ad_m ad_k ad_l ad_e ad_t_toldOnes ad_t_refusals t_hasImage t_toldCount, kX8 ad_m ad_m_steps ad_m_line ad_m_gone ad_m_wentIn m_size9 m_there9 m_roundsBy9 m_kind9 m_figure9 m_stepCount9, kI cA ad_m_steps 8 m_steps9, kI cA ad_m_line 120 m_line9, kI cA ad_m_wentIn 121 m_wentIn9, kX4 ad_l ad_l_signs l_count l_readAt l_verb l_first l_second] r0 A) (by decide) rfl (Nat.le_of_ble_eq_true rfl) ?_
  intro p e s m below meth c ls A hx hb hml hr hlocks hnm hts hown hK hP hD hE hsz hA hS hl
  have hl : lv_has ls 3 [(0, .ref ad_t)] := hl
  unfold f_X10_carryOut at h
  refine lv_aload_n hx hb dX10_carryOut_0 rfl (lv_at hl 0 rfl) ?_
  refine va_get (D := (dC, dI)) (ci := 10) (v := .ref ad_l) (C := RX10) (T := TX10) (N := 10) hx hb hts in_X10_carryOut_X10 hown hK hP 0 rfl rfl 5 (by decide) (hts _ q_X10_carryOut_0) (fun _ h9 => h9) rfl dX10_carryOut_1 ?_
  refine va_get (D := (dC, dI)) (ci := 4) (v := .int (zi l_first)) (C := RX4) (T := TX4) (N := 6) hx hb hts in_X10_carryOut_X4 hown hK hP 5 rfl rfl 4 (by decide) (hts _ q_X10_carryOut_1) (fun _ h9 => h9) rfl dX10_carryOut_4 ?_
  refine lv_istore_n (lv' := [(1, .int (zi l_first)), (0, .ref ad_t)]) hx hb dX10_carryOut_7 rfl hl (by decide) rfl (fun ls hl => ?_)
  refine lv_aload_n hx hb dX10_carryOut_8 rfl (lv_at hl 1 rfl) ?_
  refine va_get (D := (dC, dI)) (ci := 10) (v := .ref ad_l) (C := RX10) (T := TX10) (N := 10) hx hb hts in_X10_carryOut_X10 hown hK hP 0 rfl rfl 5 (by decide) (hts _ q_X10_carryOut_0) (fun _ h9 => h9) rfl dX10_carryOut_9 ?_
  refine va_get (D := (dC, dI)) (ci := 4) (v := .int (zi l_second)) (C := RX4) (T := TX4) (N := 6) hx hb hts in_X10_carryOut_X4 hown hK hP 5 rfl rfl 5 (by decide) (hts _ q_X10_carryOut_2) (fun _ h9 => h9) rfl dX10_carryOut_12 ?_
  refine lv_istore_n (lv' := [(2, .int (zi l_second)), (1, .int (zi l_first)), (0, .ref ad_t)]) hx hb dX10_carryOut_15 rfl hl (by decide) rfl (fun ls hl => ?_)
  refine lv_aload_n hx hb dX10_carryOut_16 rfl (lv_at hl 2 rfl) ?_
  refine va_get (D := (dC, dI)) (ci := 10) (v := .ref ad_l) (C := RX10) (T := TX10) (N := 10) hx hb hts in_X10_carryOut_X10 hown hK hP 0 rfl rfl 5 (by decide) (hts _ q_X10_carryOut_0) (fun _ h9 => h9) rfl dX10_carryOut_17 ?_
  refine va_get (D := (dC, dI)) (ci := 4) (v := .int (zi l_verb)) (C := RX4) (T := TX4) (N := 6) hx hb hts in_X10_carryOut_X4 hown hK hP 5 rfl rfl 3 (by decide) (hts _ q_X10_carryOut_3) (fun _ h9 => h9) rfl dX10_carryOut_20 ?_
  obtain ⟨hg, h⟩ := zg_some h
  by_cases hk110 : l_verb = 110
  · have h := zit h hk110
    refine z_lookup (tgt := 64) (off := 41) hx hb dX10_carryOut_23 (by decide) hg (by rw [hk110] <;> rfl) (by decide) ?_
    refine lv_aload_n hx hb dX10_carryOut_64 rfl (lv_at hl 2 rfl) ?_
    refine va_get (D := (dC, dI)) (ci := 10) (v := .ref ad_m) (C := RX10) (T := TX10) (N := 10) hx hb hts in_X10_carryOut_X10 hown hK hP 0 rfl rfl 2 (by decide) (hts _ q_X10_carryOut_4) (fun _ h9 => h9) rfl dX10_carryOut_65 ?_
    refine lv_iload_n hx hb dX10_carryOut_68 rfl (lv_at hl 1 rfl) ?_
    obtain ⟨⟨r_19, m_size_20, m_there_21, m_roundsBy_22, m_line_23, m_wentIn_24⟩, hc_25, h⟩ := zb h
    try dsimp only at h
    refine z_calliU (wc := [kX8 ad_m ad_m_steps ad_m_line ad_m_gone ad_m_wentIn m_size m_there m_roundsBy m_kind m_figure m_stepCount, kI cA ad_m_line 120 m_line, kI cA ad_m_wentIn 121 m_wentIn]) (wc' := [kX8 ad_m ad_m_steps ad_m_line ad_m_gone ad_m_wentIn m_size_20 m_there_21 m_roundsBy_22 m_kind m_figure m_stepCount, kI cA ad_m_line 120 m_line_23, kI cA ad_m_wentIn 121 m_wentIn_24]) (ws' := [kX10 ad_t ad_t_strikers ad_n ad_m ad_k ad_l ad_e ad_t_toldOnes ad_t_refusals t_hasImage t_toldCount, kX8 ad_m ad_m_steps ad_m_line ad_m_gone ad_m_wentIn m_size_20 m_there_21 m_roundsBy_22 m_kind m_figure m_stepCount, kI cA ad_m_steps 8 m_steps, kI cA ad_m_line 120 m_line_23, kI cA ad_m_wentIn 121 m_wentIn_24, kX4 ad_l ad_l_signs l_count l_readAt l_verb l_first l_second]) (va_runV (As := [.int (zi l_first)]) (rest := []) ⟨hx, hb, hml, hown, hts⟩ (c_X8_beginWith l dC dI cA cN _ ad_m ad_m_steps ad_m_line ad_m_gone ad_m_wentIn m_size m_there m_roundsBy m_kind m_figure m_stepCount m_line m_wentIn l_first r_19 m_size_20 m_there_21 m_roundsBy_22 m_line_23 m_wentIn_24 hc_25) (cwV 1 hts gX10_carryOut_X8_beginWith rfl rfl rfl (by decide +kernel) ⟨Nat.le_of_ble_eq_true rfl, Nat.le_of_ble_eq_true rfl⟩) (zPc.preV hK hE hP hD [1, 3, 4] rfl rfl (ci := 8) (q0 := 1) rfl rfl) rfl rfl hl.1 rfl (lv_room (Nat.le_of_ble_eq_true rfl)) dX10_carryOut_69 ⟨Nat.le_of_ble_eq_true rfl, Nat.le_of_ble_eq_true rfl⟩) hP hD hS hA [1, 3, 4] rfl rfl rfl (fun H locs hP hD hS => ?_)
    obtain ⟨hz, h⟩ := zg_some h
    cases h
    exact z_zret hx hb hr hlocks hz hP hD hS dX10_carryOut_72
  · have h := zif h hk110
    by_cases hk115 : l_verb = 115
    · have h := zit h hk115
      refine z_lookup (tgt := 73) (off := 50) hx hb dX10_carryOut_23 (by decide) hg (by rw [hk115] <;> rfl) (by decide) ?_
      refine lv_iload_n hx hb dX10_carryOut_73 rfl (lv_at hl 1 rfl) ?_
      obtain ⟨r_26, hc_27, h⟩ := zb h
      try dsimp only at h
      refine z_calliU (wc := []) (wc' := []) (ws' := [kX10 ad_t ad_t_strikers ad_n ad_m ad_k ad_l ad_e ad_t_toldOnes ad_t_refusals t_hasImage t_toldCount, kX8 ad_m ad_m_steps ad_m_line ad_m_gone ad_m_wentIn m_size m_there m_roundsBy m_kind m_figure m_stepCount, kI cA ad_m_steps 8 m_steps, kI cA ad_m_line 120 m_line, kI cA ad_m_wentIn 121 m_wentIn, kX4 ad_l ad_l_signs l_count l_readAt l_verb l_first l_second]) (va_runS (As := [.int (zi l_first)]) (rest := []) ⟨hx, hb, hml, hown, hts⟩ (c_X10_isKind l dC dI cA cN _ l_first r_26 hc_27) (va_cwS 1 hts gX10_carryOut_X10_isKind rfl rfl rfl (by decide +kernel) ⟨Nat.le_of_ble_eq_true rfl, Nat.le_of_ble_eq_true rfl⟩) (zPc.pre hK hE hP hD [] rfl rfl) rfl rfl hl.1 rfl (lv_room (Nat.le_of_ble_eq_true rfl)) dX10_carryOut_74 ⟨Nat.le_of_ble_eq_true rfl, Nat.le_of_ble_eq_true rfl⟩) hP hD hS hA [] rfl rfl rfl (fun H locs hP hD hS => ?_)
      refine z_if_eq (tgt := 87) hx hb dX10_carryOut_77 (by decide) h (fun h => ?_) (fun h => ?_)
      · refine z_iconst hx hb dX10_carryOut_87 ?_
        cases h
        exact z_zret hx hb hr hlocks (by decide) hP hD hS dX10_carryOut_88
      · refine lv_iload_n hx hb dX10_carryOut_80 rfl (lv_at hl 0 rfl) ?_
        obtain ⟨r_28, hc_29, h⟩ := zb h
        try dsimp only at h
        refine z_calliU (wc := []) (wc' := []) (ws' := [kX10 ad_t ad_t_strikers ad_n ad_m ad_k ad_l ad_e ad_t_toldOnes ad_t_refusals t_hasImage t_toldCount, kX8 ad_m ad_m_steps ad_m_line ad_m_gone ad_m_wentIn m_size m_there m_roundsBy m_kind m_figure m_stepCount, kI cA ad_m_steps 8 m_steps, kI cA ad_m_line 120 m_line, kI cA ad_m_wentIn 121 m_wentIn, kX4 ad_l ad_l_signs l_count l_readAt l_verb l_first l_second]) (va_runS (As := [.int (zi l_second)]) (rest := []) ⟨hx, hb, hml, hown, hts⟩ (c_X10_isFigure l dC dI cA cN _ l_second r_28 hc_29) (va_cwS 1 hts gX10_carryOut_X10_isFigure rfl rfl rfl (by decide +kernel) ⟨Nat.le_of_ble_eq_true rfl, Nat.le_of_ble_eq_true rfl⟩) (zPc.pre hK hE hP hD [] rfl rfl) rfl rfl hl.1 rfl (lv_room (Nat.le_of_ble_eq_true rfl)) dX10_carryOut_81 ⟨Nat.le_of_ble_eq_true rfl, Nat.le_of_ble_eq_true rfl⟩) hP hD hS hA [] rfl rfl rfl (fun H locs hP hD hS => ?_)
        refine z_if_ne (tgt := 89) hx hb dX10_carryOut_84 (by decide) h (fun h => ?_) (fun h => ?_)
        · refine lv_aload_n hx hb dX10_carryOut_89 rfl (lv_at hl 2 rfl) ?_
          refine va_get (D := (dC, dI)) (ci := 10) (v := .ref ad_m) (C := RX10) (T := TX10) (N := 10) hx hb hts in_X10_carryOut_X10 hown hK hP 0 rfl rfl 2 (by decide) (hts _ q_X10_carryOut_4) (fun _ h9 => h9) rfl dX10_carryOut_90 ?_
          refine lv_iload_n hx hb dX10_carryOut_93 rfl (lv_at hl 1 rfl) ?_
          refine va_put (D := (dC, dI)) (ci := 8) (v := .int (zi l_first)) (ty := .int) (C := RX8) (T := TX8) (N := 10) hx hb hts in_X10_carryOut_X8 tyX8 tyX8_ok nmX8 hown hK hP hD hS 1 rfl rfl 3 (by decide) (hts _ q_X10_carryOut_5) (fun _ h9 => h9) rfl (by decide +kernel) rfl rfl (Nat.le_of_ble_eq_true rfl) dX10_carryOut_94 (fun H locs hP hD hS => ?_)
          have hP : va_P (dC, dI) vwCl [kX10 ad_t ad_t_strikers ad_n ad_m ad_k ad_l ad_e ad_t_toldOnes ad_t_refusals t_hasImage t_toldCount, kX8 ad_m ad_m_steps ad_m_line ad_m_gone ad_m_wentIn m_size m_there m_roundsBy l_first m_figure m_stepCount, kI cA ad_m_steps 8 m_steps, kI cA ad_m_line 120 m_line, kI cA ad_m_wentIn 121 m_wentIn, kX4 ad_l ad_l_signs l_count l_readAt l_verb l_first l_second] H := hP
          have hD : va_D A [kX10 ad_t ad_t_strikers ad_n ad_m ad_k ad_l ad_e ad_t_toldOnes ad_t_refusals t_hasImage t_toldCount, kX8 ad_m ad_m_steps ad_m_line ad_m_gone ad_m_wentIn m_size m_there m_roundsBy l_first m_figure m_stepCount, kI cA ad_m_steps 8 m_steps, kI cA ad_m_line 120 m_line, kI cA ad_m_wentIn 121 m_wentIn, kX4 ad_l ad_l_signs l_count l_readAt l_verb l_first l_second] := hD
          refine lv_aload_n hx hb dX10_carryOut_97 rfl (lv_at hl 2 rfl) ?_
          refine va_get (D := (dC, dI)) (ci := 10) (v := .ref ad_m) (C := RX10) (T := TX10) (N := 10) hx hb hts in_X10_carryOut_X10 hown hK hP 0 rfl rfl 2 (by decide) (hts _ q_X10_carryOut_4) (fun _ h9 => h9) rfl dX10_carryOut_98 ?_
          refine lv_iload_n hx hb dX10_carryOut_101 rfl (lv_at hl 0 rfl) ?_
          refine va_put (D := (dC, dI)) (ci := 8) (v := .int (zi l_second)) (ty := .int) (C := RX8) (T := TX8) (N := 10) hx hb hts in_X10_carryOut_X8 tyX8 tyX8_ok nmX8 hown hK hP hD hS 1 rfl rfl 4 (by decide) (hts _ q_X10_carryOut_6) (fun _ h9 => h9) rfl (by decide +kernel) rfl rfl (Nat.le_of_ble_eq_true rfl) dX10_carryOut_102 (fun H locs hP hD hS => ?_)
          have hP : va_P (dC, dI) vwCl [kX10 ad_t ad_t_strikers ad_n ad_m ad_k ad_l ad_e ad_t_toldOnes ad_t_refusals t_hasImage t_toldCount, kX8 ad_m ad_m_steps ad_m_line ad_m_gone ad_m_wentIn m_size m_there m_roundsBy l_first l_second m_stepCount, kI cA ad_m_steps 8 m_steps, kI cA ad_m_line 120 m_line, kI cA ad_m_wentIn 121 m_wentIn, kX4 ad_l ad_l_signs l_count l_readAt l_verb l_first l_second] H := hP
          have hD : va_D A [kX10 ad_t ad_t_strikers ad_n ad_m ad_k ad_l ad_e ad_t_toldOnes ad_t_refusals t_hasImage t_toldCount, kX8 ad_m ad_m_steps ad_m_line ad_m_gone ad_m_wentIn m_size m_there m_roundsBy l_first l_second m_stepCount, kI cA ad_m_steps 8 m_steps, kI cA ad_m_line 120 m_line, kI cA ad_m_wentIn 121 m_wentIn, kX4 ad_l ad_l_signs l_count l_readAt l_verb l_first l_second] := hD
          refine z_iconst hx hb dX10_carryOut_105 ?_
          cases h
          exact z_zret hx hb hr hlocks (by decide) hP hD hS dX10_carryOut_106
        · refine z_iconst hx hb dX10_carryOut_87 ?_
          cases h
          exact z_zret hx hb hr hlocks (by decide) hP hD hS dX10_carryOut_88
    · have h := zif h hk115
      by_cases hk116 : l_verb = 116
      · have h := zit h hk116
        refine z_lookup (tgt := 107) (off := 84) hx hb dX10_carryOut_23 (by decide) hg (by rw [hk116] <;> rfl) (by decide) ?_
        refine lv_aload_n hx hb dX10_carryOut_107 rfl (lv_at hl 2 rfl) ?_
        refine va_get (D := (dC, dI)) (ci := 10) (v := .ref ad_m) (C := RX10) (T := TX10) (N := 10) hx hb hts in_X10_carryOut_X10 hown hK hP 0 rfl rfl 2 (by decide) (hts _ q_X10_carryOut_4) (fun _ h9 => h9) rfl dX10_carryOut_108 ?_
        refine lv_iload_n hx hb dX10_carryOut_111 rfl (lv_at hl 1 rfl) ?_
        obtain ⟨⟨r_30, m_stepCount_31, m_steps_32⟩, hc_33, h⟩ := zb h
        try dsimp only at h
        refine z_calliU (wc := [kX8 ad_m ad_m_steps ad_m_line ad_m_gone ad_m_wentIn m_size m_there m_roundsBy m_kind m_figure m_stepCount, kI cA ad_m_steps 8 m_steps]) (wc' := [kX8 ad_m ad_m_steps ad_m_line ad_m_gone ad_m_wentIn m_size m_there m_roundsBy m_kind m_figure m_stepCount_31, kI cA ad_m_steps 8 m_steps_32]) (ws' := [kX10 ad_t ad_t_strikers ad_n ad_m ad_k ad_l ad_e ad_t_toldOnes ad_t_refusals t_hasImage t_toldCount, kX8 ad_m ad_m_steps ad_m_line ad_m_gone ad_m_wentIn m_size m_there m_roundsBy m_kind m_figure m_stepCount_31, kI cA ad_m_steps 8 m_steps_32, kI cA ad_m_line 120 m_line, kI cA ad_m_wentIn 121 m_wentIn, kX4 ad_l ad_l_signs l_count l_readAt l_verb l_first l_second]) (va_runV (As := [.int (zi l_first)]) (rest := []) ⟨hx, hb, hml, hown, hts⟩ (c_X8_addStep l dC dI cA cN _ ad_m ad_m_steps ad_m_line ad_m_gone ad_m_wentIn m_size m_there m_roundsBy m_kind m_figure m_stepCount m_steps l_first r_30 m_stepCount_31 m_steps_32 hc_33) (cwV 1 hts gX10_carryOut_X8_addStep rfl rfl rfl (by decide +kernel) ⟨Nat.le_of_ble_eq_true rfl, Nat.le_of_ble_eq_true rfl⟩) (zPc.preV hK hE hP hD [1, 2] rfl rfl (ci := 8) (q0 := 1) rfl rfl) rfl rfl hl.1 rfl (lv_room (Nat.le_of_ble_eq_true rfl)) dX10_carryOut_112 ⟨Nat.le_of_ble_eq_true rfl, Nat.le_of_ble_eq_true rfl⟩) hP hD hS hA [1, 2] rfl rfl rfl (fun H locs hP hD hS => ?_)
        obtain ⟨hz, h⟩ := zg_some h
        cases h
        exact z_zret hx hb hr hlocks hz hP hD hS dX10_carryOut_115
      · have h := zif h hk116
        by_cases hk120 : l_verb = 120
        · have h := zit h hk120
          refine z_lookup (tgt := 116) (off := 93) hx hb dX10_carryOut_23 (by decide) hg (by rw [hk120] <;> rfl) (by decide) ?_
          refine lv_aload_n hx hb dX10_carryOut_116 rfl (lv_at hl 2 rfl) ?_
          refine va_get (D := (dC, dI)) (ci := 10) (v := .ref ad_m) (C := RX10) (T := TX10) (N := 10) hx hb hts in_X10_carryOut_X10 hown hK hP 0 rfl rfl 2 (by decide) (hts _ q_X10_carryOut_4) (fun _ h9 => h9) rfl dX10_carryOut_117 ?_
          refine lv_iload_n hx hb dX10_carryOut_120 rfl (lv_at hl 1 rfl) ?_
          refine lv_iload_n hx hb dX10_carryOut_121 rfl (lv_at hl 0 rfl) ?_
          obtain ⟨⟨r_34, m_line_35⟩, hc_36, h⟩ := zb h
          try dsimp only at h
          refine z_calliU (wc := [kX8 ad_m ad_m_steps ad_m_line ad_m_gone ad_m_wentIn m_size m_there m_roundsBy m_kind m_figure m_stepCount, kI cA ad_m_line 120 m_line]) (wc' := [kX8 ad_m ad_m_steps ad_m_line ad_m_gone ad_m_wentIn m_size m_there m_roundsBy m_kind m_figure m_stepCount, kI cA ad_m_line 120 m_line_35]) (ws' := [kX10 ad_t ad_t_strikers ad_n ad_m ad_k ad_l ad_e ad_t_toldOnes ad_t_refusals t_hasImage t_toldCount, kX8 ad_m ad_m_steps ad_m_line ad_m_gone ad_m_wentIn m_size m_there m_roundsBy m_kind m_figure m_stepCount, kI cA ad_m_steps 8 m_steps, kI cA ad_m_line 120 m_line_35, kI cA ad_m_wentIn 121 m_wentIn, kX4 ad_l ad_l_signs l_count l_readAt l_verb l_first l_second]) (va_runV (As := [.int (zi l_first), .int (zi l_second)]) (rest := []) ⟨hx, hb, hml, hown, hts⟩ (c_X8_changePlaces l dC dI cA cN _ ad_m ad_m_steps ad_m_line ad_m_gone ad_m_wentIn m_size m_there m_roundsBy m_kind m_figure m_stepCount m_line l_first l_second r_34 m_line_35 hc_36) (cwV 2 hts gX10_carryOut_X8_changePlaces rfl rfl rfl (by decide +kernel) ⟨Nat.le_of_ble_eq_true rfl, Nat.le_of_ble_eq_true rfl⟩) (zPc.preV hK hE hP hD [1, 3] rfl rfl (ci := 8) (q0 := 1) rfl rfl) rfl rfl hl.1 rfl (lv_room (Nat.le_of_ble_eq_true rfl)) dX10_carryOut_122 ⟨Nat.le_of_ble_eq_true rfl, Nat.le_of_ble_eq_true rfl⟩) hP hD hS hA [1, 3] rfl rfl rfl (fun H locs hP hD hS => ?_)
          obtain ⟨hz, h⟩ := zg_some h
          cases h
          exact z_zret hx hb hr hlocks hz hP hD hS dX10_carryOut_125
        · have h := zif h hk120
          refine z_lookup (tgt := 126) (off := 103) hx hb dX10_carryOut_23 (by decide) hg (by rw [Op.lookupswitch.offset_cons, if_neg (fun q => hk110 q.symm), Op.lookupswitch.offset_cons, if_neg (fun q => hk115 q.symm), Op.lookupswitch.offset_cons, if_neg (fun q => hk116 q.symm), Op.lookupswitch.offset_cons, if_neg (fun q => hk120 q.symm)] <;> rfl) (by decide) ?_
          refine z_iconst hx hb dX10_carryOut_126 ?_
          cases h
          exact z_zret hx hb hr hlocks (by decide) hP hD hS dX10_carryOut_127
-- X10_carryOutStatements
theorem dX10_carryOutStatements_0 : decode cX10_carryOutStatements 0 = .ok (.iconst 0, 1) := by decide +kernel
theorem dX10_carryOutStatements_1 : decode cX10_carryOutStatements 1 = .ok (.istore_n 1, 1) := by decide +kernel
theorem dX10_carryOutStatements_2 : decode cX10_carryOutStatements 2 = .ok (.aload_n 0, 1) := by decide +kernel
theorem dX10_carryOutStatements_3 : decode cX10_carryOutStatements 3 = .ok (.getfield 31, 3) := by decide +kernel
theorem dX10_carryOutStatements_6 : decode cX10_carryOutStatements 6 = .ok (.iconst 0, 1) := by decide +kernel
theorem dX10_carryOutStatements_7 : decode cX10_carryOutStatements 7 = .ok (.putfield 219, 3) := by decide +kernel
theorem dX10_carryOutStatements_10 : decode cX10_carryOutStatements 10 = .ok (.iconst 0, 1) := by decide +kernel
theorem dX10_carryOutStatements_11 : decode cX10_carryOutStatements 11 = .ok (.istore_n 2, 1) := by decide +kernel
theorem dX10_carryOutStatements_12 : decode cX10_carryOutStatements 12 = .ok (.iload_n 2, 1) := by decide +kernel
theorem dX10_carryOutStatements_13 : decode cX10_carryOutStatements 13 = .ok (.bipush 48, 2) := by decide +kernel
theorem dX10_carryOutStatements_15 : decode cX10_carryOutStatements 15 = .ok (.if_icmp .ge 60, 3) := by decide +kernel
theorem dX10_carryOutStatements_18 : decode cX10_carryOutStatements 18 = .ok (.aload_n 0, 1) := by decide +kernel
theorem dX10_carryOutStatements_19 : decode cX10_carryOutStatements 19 = .ok (.getfield 31, 3) := by decide +kernel
theorem dX10_carryOutStatements_22 : decode cX10_carryOutStatements 22 = .ok (.getfield 219, 3) := by decide +kernel
theorem dX10_carryOutStatements_25 : decode cX10_carryOutStatements 25 = .ok (.aload_n 0, 1) := by decide +kernel
theorem dX10_carryOutStatements_26 : decode cX10_carryOutStatements 26 = .ok (.getfield 31, 3) := by decide +kernel
theorem dX10_carryOutStatements_29 : decode cX10_carryOutStatements 29 = .ok (.getfield 80, 3) := by decide +kernel
theorem dX10_carryOutStatements_32 : decode cX10_carryOutStatements 32 = .ok (.if_icmp .ge 43, 3) := by decide +kernel
theorem dX10_carryOutStatements_35 : decode cX10_carryOutStatements 35 = .ok (.aload_n 0, 1) := by decide +kernel
theorem dX10_carryOutStatements_36 : decode cX10_carryOutStatements 36 = .ok (.getfield 31, 3) := by decide +kernel
theorem dX10_carryOutStatements_39 : decode cX10_carryOutStatements 39 = .ok (.getfield 219, 3) := by decide +kernel
theorem dX10_carryOutStatements_42 : decode cX10_carryOutStatements 42 = .ok (.istore_n 3, 1) := by decide +kernel
theorem dX10_carryOutStatements_43 : decode cX10_carryOutStatements 43 = .ok (.aload_n 0, 1) := by decide +kernel
theorem dX10_carryOutStatements_44 : decode cX10_carryOutStatements 44 = .ok (.getfield 31, 3) := by decide +kernel
theorem dX10_carryOutStatements_47 : decode cX10_carryOutStatements 47 = .ok (.invokevirtual 222, 3) := by decide +kernel
theorem dX10_carryOutStatements_50 : decode cX10_carryOutStatements 50 = .ok (.ifCond .eq 10, 3) := by decide +kernel
theorem dX10_carryOutStatements_53 : decode cX10_carryOutStatements 53 = .ok (.aload_n 0, 1) := by decide +kernel
theorem dX10_carryOutStatements_54 : decode cX10_carryOutStatements 54 = .ok (.invokevirtual 226, 3) := by decide +kernel
theorem dX10_carryOutStatements_57 : decode cX10_carryOutStatements 57 = .ok (.ifCond .ne 9, 3) := by decide +kernel
theorem dX10_carryOutStatements_60 : decode cX10_carryOutStatements 60 = .ok (.sipush (-2000), 3) := by decide +kernel
theorem dX10_carryOutStatements_63 : decode cX10_carryOutStatements 63 = .ok (.iload_n 3, 1) := by decide +kernel
theorem dX10_carryOutStatements_64 : decode cX10_carryOutStatements 64 = .ok (.isub, 1) := by decide +kernel
theorem dX10_carryOutStatements_65 : decode cX10_carryOutStatements 65 = .ok (.ireturn, 1) := by decide +kernel
theorem dX10_carryOutStatements_66 : decode cX10_carryOutStatements 66 = .ok (.iinc 1 1, 3) := by decide +kernel
theorem dX10_carryOutStatements_69 : decode cX10_carryOutStatements 69 = .ok (.iinc 2 1, 3) := by decide +kernel
theorem dX10_carryOutStatements_72 : decode cX10_carryOutStatements 72 = .ok (.goto (-60), 3) := by decide +kernel
theorem dX10_carryOutStatements_75 : decode cX10_carryOutStatements 75 = .ok (.iload_n 1, 1) := by decide +kernel
theorem dX10_carryOutStatements_76 : decode cX10_carryOutStatements 76 = .ok (.ireturn, 1) := by decide +kernel
set_option maxRecDepth 20000 in
theorem ggX10_carryOutStatements_X4_readStatement : GoodIn wsX10_carryOutStatements wsX4_readStatement := goodIn_r _ [8, 9, 10, 11, 12, 13, 14, 7, 15, 16, 17, 18, 19, 20, 21, 22, 23, 24, 25, 26, 27, 28, 29, 30, 31, 32, 33, 34, 35, 36, 37, 38, 39, 40, 41, 101, 102, 103, 104, 105, 106] rfl (by decide +kernel)
set_option maxRecDepth 20000 in
theorem gX10_carryOutStatements_X4_readStatement : GoodIn wsX10_carryOutStatements (wsV RX10 222 RX4 yX4_readStatement wsX4_readStatement) := goodIn_app (goodIn_of _ (by decide +kernel)) ggX10_carryOutStatements_X4_readStatement
set_option maxRecDepth 20000 in
theorem ggX10_carryOutStatements_X10_carryOut : GoodIn wsX10_carryOutStatements wsX10_carryOut := goodIn_r _ [46, 1, 47, 48, 49, 50, 51, 52, 53, 54, 55, 56, 57, 58, 59, 60, 61, 62, 63, 64, 65, 66, 67, 68, 45, 69, 70, 71, 72, 73, 74, 75, 76, 77, 78, 79, 80, 81, 82, 83, 84, 85, 86, 87, 88, 89, 90, 91, 92, 93, 94, 95, 96, 97, 98, 99, 100, 101, 102, 103, 104, 105, 106, 107, 108, 109, 110, 111, 112, 113, 114, 115, 116] rfl (by decide +kernel)
set_option maxRecDepth 20000 in
theorem gX10_carryOutStatements_X10_carryOut : GoodIn wsX10_carryOutStatements (wsV RX10 226 RX10 yX10_carryOut wsX10_carryOut) := goodIn_app (goodIn_of _ (by decide +kernel)) ggX10_carryOutStatements_X10_carryOut
noncomputable def f_X10_carryOutStatements_L12 : Nat → Int → Int → Int → Int → Int → Int → Int → Int → (Int → Int) → (Int → Int) → (Int → Int) → (Int → Int) → Int → Int → Int → Int → Int → Option (Int × Int × Int × Int × Int × Int × Int × (Int → Int) × (Int → Int) × (Int → Int) × Int × Int × Int × Int)
  | 0, _, _, _, _, _, _, _, _, _, _, _, _, _, _, _, _, _ => none
  | n + 1, v1, v2, m_size, m_there, m_roundsBy, m_kind, m_figure, m_stepCount, m_steps, m_line, m_wentIn, l_signs, l_count, l_readAt, l_verb, l_first, l_second => zg (zR v2) (if 48 ≤ v2 then some (v1, m_size, m_there, m_roundsBy, m_kind, m_figure, m_stepCount, m_steps, m_line, m_wentIn, l_readAt, l_verb, l_first, l_second) else zg (zR l_readAt ∧ zR l_count) (if l_count ≤ l_readAt then some (v1, m_size, m_there, m_roundsBy, m_kind, m_figure, m_stepCount, m_steps, m_line, m_wentIn, l_readAt, l_verb, l_first, l_second) else (f_X4_readStatement l_signs l_count l_readAt l_verb l_first l_second).bind (fun (r_1, l_readAt_2, l_verb_3, l_first_4, l_second_5) => zg (zR r_1) (if r_1 = 0 then some (((-2000) - l_readAt), m_size, m_there, m_roundsBy, m_kind, m_figure, m_stepCount, m_steps, m_line, m_wentIn, l_readAt_2, l_verb_3, l_first_4, l_second_5) else (f_X10_carryOut m_size m_there m_roundsBy m_kind m_figure m_stepCount m_steps m_line m_wentIn l_verb_3 l_first_4 l_second_5).bind (fun (r_7, m_size_8, m_there_9, m_roundsBy_10, m_kind_11, m_figure_12, m_stepCount_13, m_steps_14, m_line_15, m_wentIn_16) => zg (zR r_7) (if ¬ r_7 = 0 then f_X10_carryOutStatements_L12 n (v1 + 1) (v2 + 1) m_size_8 m_there_9 m_roundsBy_10 m_kind_11 m_figure_12 m_stepCount_13 m_steps_14 m_line_15 m_wentIn_16 l_signs l_count l_readAt_2 l_verb_3 l_first_4 l_second_5 else some (((-2000) - l_readAt), m_size_8, m_there_9, m_roundsBy_10, m_kind_11, m_figure_12, m_stepCount_13, m_steps_14, m_line_15, m_wentIn_16, l_readAt_2, l_verb_3, l_first_4, l_second_5)))))))
theorem f_X10_carryOutStatements_L12_z (v1 : Int) (v2 : Int) (m_size : Int) (m_there : Int) (m_roundsBy : Int) (m_kind : Int) (m_figure : Int) (m_stepCount : Int) (m_steps : Int → Int) (m_line : Int → Int) (m_wentIn : Int → Int) (l_signs : Int → Int) (l_count : Int) (l_readAt : Int) (l_verb : Int) (l_first : Int) (l_second : Int) : f_X10_carryOutStatements_L12 0 v1 v2 m_size m_there m_roundsBy m_kind m_figure m_stepCount m_steps m_line m_wentIn l_signs l_count l_readAt l_verb l_first l_second = none := rfl
theorem f_X10_carryOutStatements_L12_s (n : Nat) (v1 : Int) (v2 : Int) (m_size : Int) (m_there : Int) (m_roundsBy : Int) (m_kind : Int) (m_figure : Int) (m_stepCount : Int) (m_steps : Int → Int) (m_line : Int → Int) (m_wentIn : Int → Int) (l_signs : Int → Int) (l_count : Int) (l_readAt : Int) (l_verb : Int) (l_first : Int) (l_second : Int) : f_X10_carryOutStatements_L12 (n + 1) v1 v2 m_size m_there m_roundsBy m_kind m_figure m_stepCount m_steps m_line m_wentIn l_signs l_count l_readAt l_verb l_first l_second = zg (zR v2) (if 48 ≤ v2 then some (v1, m_size, m_there, m_roundsBy, m_kind, m_figure, m_stepCount, m_steps, m_line, m_wentIn, l_readAt, l_verb, l_first, l_second) else zg (zR l_readAt ∧ zR l_count) (if l_count ≤ l_readAt then some (v1, m_size, m_there, m_roundsBy, m_kind, m_figure, m_stepCount, m_steps, m_line, m_wentIn, l_readAt, l_verb, l_first, l_second) else (f_X4_readStatement l_signs l_count l_readAt l_verb l_first l_second).bind (fun (r_1, l_readAt_2, l_verb_3, l_first_4, l_second_5) => zg (zR r_1) (if r_1 = 0 then some (((-2000) - l_readAt), m_size, m_there, m_roundsBy, m_kind, m_figure, m_stepCount, m_steps, m_line, m_wentIn, l_readAt_2, l_verb_3, l_first_4, l_second_5) else (f_X10_carryOut m_size m_there m_roundsBy m_kind m_figure m_stepCount m_steps m_line m_wentIn l_verb_3 l_first_4 l_second_5).bind (fun (r_7, m_size_8, m_there_9, m_roundsBy_10, m_kind_11, m_figure_12, m_stepCount_13, m_steps_14, m_line_15, m_wentIn_16) => zg (zR r_7) (if ¬ r_7 = 0 then f_X10_carryOutStatements_L12 n (v1 + 1) (v2 + 1) m_size_8 m_there_9 m_roundsBy_10 m_kind_11 m_figure_12 m_stepCount_13 m_steps_14 m_line_15 m_wentIn_16 l_signs l_count l_readAt_2 l_verb_3 l_first_4 l_second_5 else some (((-2000) - l_readAt), m_size_8, m_there_9, m_roundsBy_10, m_kind_11, m_figure_12, m_stepCount_13, m_steps_14, m_line_15, m_wentIn_16, l_readAt_2, l_verb_3, l_first_4, l_second_5))))))) := rfl
noncomputable def f_X10_carryOutStatements (m_size : Int) (m_there : Int) (m_roundsBy : Int) (m_kind : Int) (m_figure : Int) (m_stepCount : Int) (m_steps : Int → Int) (m_line : Int → Int) (m_wentIn : Int → Int) (l_signs : Int → Int) (l_count : Int) (l_readAt : Int) (l_verb : Int) (l_first : Int) (l_second : Int) : Option (Int × Int × Int × Int × Int × Int × Int × (Int → Int) × (Int → Int) × (Int → Int) × Int × Int × Int × Int) := f_X10_carryOutStatements_L12 zF 0 0 m_size m_there m_roundsBy m_kind m_figure m_stepCount m_steps m_line m_wentIn l_signs l_count 0 l_verb l_first l_second
theorem q_X10_carryOutStatements_0 : Cond.fieldLink RX10 31 "EachSecondStruck" "letters" "LEachSecondStruck$Letters;" ∈ wsX10_carryOutStatements := by decide +kernel
theorem q_X10_carryOutStatements_1 : Cond.fieldLink RX10 219 "EachSecondStruck$Letters" "readAt" "I" ∈ wsX10_carryOutStatements := by decide +kernel
theorem q_X10_carryOutStatements_2 : Cond.fieldLink RX10 80 "EachSecondStruck$Letters" "count" "I" ∈ wsX10_carryOutStatements := by decide +kernel
theorem in_X10_carryOutStatements_X10 : ∀ w ∈ u_ws RX10 TX10 10, w ∈ wsX10_carryOutStatements := by decide +kernel
theorem in_X10_carryOutStatements_X4 : ∀ w ∈ u_ws RX4 TX4 6, w ∈ wsX10_carryOutStatements := by decide +kernel
set_option maxHeartbeats 4000000 in
set_option maxRecDepth 100000 in
theorem c_X10_carryOutStatements (l : Launch) (dC : Nat → ClassId) (dI : Nat → Nat → Nat) (cA cN : ClassId) (sz : Nat) (ad_t : Nat) (ad_t_strikers : Nat) (ad_n : Nat) (ad_m : Nat) (ad_k : Nat) (ad_l : Nat) (ad_e : Nat) (ad_t_toldOnes : Nat) (ad_t_refusals : Nat) (ad_m_steps : Nat) (ad_m_line : Nat) (ad_m_gone : Nat) (ad_m_wentIn : Nat) (ad_l_signs : Nat) (t_hasImage : Int) (t_toldCount : Int) (m_size : Int) (m_there : Int) (m_roundsBy : Int) (m_kind : Int) (m_figure : Int) (m_stepCount : Int) (l_count : Int) (l_readAt : Int) (l_verb : Int) (l_first : Int) (l_second : Int) (m_line : Int → Int) (m_steps : Int → Int) (m_wentIn : Int → Int) (l_signs : Int → Int)  (r0 : Int) (m_size9 : Int) (m_there9 : Int) (m_roundsBy9 : Int) (m_kind9 : Int) (m_figure9 : Int) (m_stepCount9 : Int) (m_steps9 : Int → Int) (m_line9 : Int → Int) (m_wentIn9 : Int → Int) (l_readAt9 : Int) (l_verb9 : Int) (l_first9 : Int) (l_second9 : Int) (h : f_X10_carryOutStatements m_size m_there m_roundsBy m_kind m_figure m_stepCount m_steps m_line m_wentIn l_signs l_count l_readAt l_verb l_first l_second = some (r0, m_size9, m_there9, m_roundsBy9, m_kind9, m_figure9, m_stepCount9, m_steps9, m_line9, m_wentIn9, l_readAt9, l_verb9, l_first9, l_second9)) : Met l yX10_carryOutStatements wsX10_carryOutStatements { frames := 4, cells := 0, slots := 0, locals := 84 } (zPc (dC, dI) (zT cA cN) [kX10 ad_t ad_t_strikers ad_n ad_m ad_k ad_l ad_e ad_t_toldOnes ad_t_refusals t_hasImage t_toldCount, kX8 ad_m ad_m_steps ad_m_line ad_m_gone ad_m_wentIn m_size m_there m_roundsBy m_kind m_figure m_stepCount, kI cA ad_m_steps 8 m_steps, kI cA ad_m_line 120 m_line, kI cA ad_m_wentIn 121 m_wentIn, kX4 ad_l ad_l_signs l_count l_readAt l_verb l_first l_second, kI cA ad_l_signs 48 l_signs] [.ref ad_t] sz) (zQi (dC, dI) [kX10 ad_t ad_t_strikers ad_n ad_m ad_k ad_l ad_e ad_t_toldOnes ad_t_refusals t_hasImage t_toldCount, kX8 ad_m ad_m_steps ad_m_line ad_m_gone ad_m_wentIn m_size9 m_there9 m_roundsBy9 m_kind9 m_figure9 m_stepCount9, kI cA ad_m_steps 8 m_steps9, kI cA ad_m_line 120 m_line9, kI cA ad_m_wentIn 121 m_wentIn9, kX4 ad_l ad_l_signs l_count l_readAt9 l_verb9 l_first9 l_second9, kI cA ad_l_signs 48 l_signs] r0 (va_A [kX10 ad_t ad_t_strikers ad_n ad_m ad_k ad_l ad_e ad_t_toldOnes ad_t_refusals t_hasImage t_toldCount, kX8 ad_m ad_m_steps ad_m_line ad_m_gone ad_m_wentIn m_size m_there m_roundsBy m_kind m_figure m_stepCount, kI cA ad_m_steps 8 m_steps, kI cA ad_m_line 120 m_line, kI cA ad_m_wentIn 121 m_wentIn, kX4 ad_l ad_l_signs l_count l_readAt l_verb l_first l_second, kI cA ad_l_signs 48 l_signs] sz)) 0 0 (va_A [kX10 ad_t ad_t_strikers ad_n ad_m ad_k ad_l ad_e ad_t_toldOnes ad_t_refusals t_hasImage t_toldCount, kX8 ad_m ad_m_steps ad_m_line ad_m_gone ad_m_wentIn m_size m_there m_roundsBy m_kind m_figure m_stepCount, kI cA ad_m_steps 8 m_steps, kI cA ad_m_line 120 m_line, kI cA ad_m_wentIn 121 m_wentIn, kX4 ad_l ad_l_signs l_count l_readAt l_verb l_first l_second, kI cA ad_l_signs 48 l_signs] sz) := by
  refine z_ofW (QF := fun A => zQi (dC, dI) [kX10 ad_t ad_t_strikers ad_n ad_m ad_k ad_l ad_e ad_t_toldOnes ad_t_refusals t_hasImage t_toldCount, kX8 ad_m ad_m_steps ad_m_line ad_m_gone ad_m_wentIn m_size9 m_there9 m_roundsBy9 m_kind9 m_figure9 m_stepCount9, kI cA ad_m_steps 8 m_steps9, kI cA ad_m_line 120 m_line9, kI cA ad_m_wentIn 121 m_wentIn9, kX4 ad_l ad_l_signs l_count l_readAt9 l_verb9 l_first9 l_second9, kI cA ad_l_signs 48 l_signs] r0 A) (by decide) rfl (Nat.le_of_ble_eq_true rfl) ?_
  intro p e s m below meth c ls A hx hb hml hr hlocks hnm hts hown hK hP hD hE hsz hA hS hl
  have hl : lv_has ls 4 [(0, .ref ad_t)] := hl
  unfold f_X10_carryOutStatements at h
  refine z_iconst hx hb dX10_carryOutStatements_0 ?_
  refine lv_istore_n (lv' := [(1, .int (zi 0)), (0, .ref ad_t)]) hx hb dX10_carryOutStatements_1 rfl hl (by decide) rfl (fun ls hl => ?_)
  refine lv_aload_n hx hb dX10_carryOutStatements_2 rfl (lv_at hl 1 rfl) ?_
  refine va_get (D := (dC, dI)) (ci := 10) (v := .ref ad_l) (C := RX10) (T := TX10) (N := 10) hx hb hts in_X10_carryOutStatements_X10 hown hK hP 0 rfl rfl 5 (by decide) (hts _ q_X10_carryOutStatements_0) (fun _ h9 => h9) rfl dX10_carryOutStatements_3 ?_
  refine z_iconst hx hb dX10_carryOutStatements_6 ?_
  refine va_put (D := (dC, dI)) (ci := 4) (v := .int (zi 0)) (ty := .int) (C := RX4) (T := TX4) (N := 6) hx hb hts in_X10_carryOutStatements_X4 tyX4 tyX4_ok nmX4 hown hK hP hD hS 5 rfl rfl 2 (by decide) (hts _ q_X10_carryOutStatements_1) (fun _ h9 => h9) rfl (by decide +kernel) rfl rfl (Nat.le_of_ble_eq_true rfl) dX10_carryOutStatements_7 (fun H locs hP hD hS => ?_)
  have hP : va_P (dC, dI) vwCl [kX10 ad_t ad_t_strikers ad_n ad_m ad_k ad_l ad_e ad_t_toldOnes ad_t_refusals t_hasImage t_toldCount, kX8 ad_m ad_m_steps ad_m_line ad_m_gone ad_m_wentIn m_size m_there m_roundsBy m_kind m_figure m_stepCount, kI cA ad_m_steps 8 m_steps, kI cA ad_m_line 120 m_line, kI cA ad_m_wentIn 121 m_wentIn, kX4 ad_l ad_l_signs l_count 0 l_verb l_first l_second, kI cA ad_l_signs 48 l_signs] H := hP
  have hD : va_D A [kX10 ad_t ad_t_strikers ad_n ad_m ad_k ad_l ad_e ad_t_toldOnes ad_t_refusals t_hasImage t_toldCount, kX8 ad_m ad_m_steps ad_m_line ad_m_gone ad_m_wentIn m_size m_there m_roundsBy m_kind m_figure m_stepCount, kI cA ad_m_steps 8 m_steps, kI cA ad_m_line 120 m_line, kI cA ad_m_wentIn 121 m_wentIn, kX4 ad_l ad_l_signs l_count 0 l_verb l_first l_second, kI cA ad_l_signs 48 l_signs] := hD
  refine z_iconst hx hb dX10_carryOutStatements_10 ?_
  refine lv_istore_n (lv' := [(2, .int (zi 0)), (1, .int (zi 0)), (0, .ref ad_t)]) hx hb dX10_carryOutStatements_11 rfl hl (by decide) rfl (fun ls hl => ?_)
  have hlp12 : ∀ (n : Nat) (v1_18 : Int) (v2_19 : Int) (m_size_20 : Int) (m_there_21 : Int) (m_roundsBy_22 : Int) (m_kind_23 : Int) (m_figure_24 : Int) (m_stepCount_25 : Int) (m_steps_26 : Int → Int) (m_line_27 : Int → Int) (m_wentIn_28 : Int → Int) (l_readAt_29 : Int) (l_verb_30 : Int) (l_first_31 : Int) (l_second_32 : Int) (H : Heap) (locs : List Loc) (ls : Array Slot), f_X10_carryOutStatements_L12 n v1_18 v2_19 m_size_20 m_there_21 m_roundsBy_22 m_kind_23 m_figure_24 m_stepCount_25 m_steps_26 m_line_27 m_wentIn_28 l_signs l_count l_readAt_29 l_verb_30 l_first_31 l_second_32 = some (r0, m_size9, m_there9, m_roundsBy9, m_kind9, m_figure9, m_stepCount9, m_steps9, m_line9, m_wentIn9, l_readAt9, l_verb9, l_first9, l_second9) → va_P (dC, dI) vwCl [kX10 ad_t ad_t_strikers ad_n ad_m ad_k ad_l ad_e ad_t_toldOnes ad_t_refusals t_hasImage t_toldCount, kX8 ad_m ad_m_steps ad_m_line ad_m_gone ad_m_wentIn m_size_20 m_there_21 m_roundsBy_22 m_kind_23 m_figure_24 m_stepCount_25, kI cA ad_m_steps 8 m_steps_26, kI cA ad_m_line 120 m_line_27, kI cA ad_m_wentIn 121 m_wentIn_28, kX4 ad_l ad_l_signs l_count l_readAt_29 l_verb_30 l_first_31 l_second_32, kI cA ad_l_signs 48 l_signs] H → va_D A [kX10 ad_t ad_t_strikers ad_n ad_m ad_k ad_l ad_e ad_t_toldOnes ad_t_refusals t_hasImage t_toldCount, kX8 ad_m ad_m_steps ad_m_line ad_m_gone ad_m_wentIn m_size_20 m_there_21 m_roundsBy_22 m_kind_23 m_figure_24 m_stepCount_25, kI cA ad_m_steps 8 m_steps_26, kI cA ad_m_line 120 m_line_27, kI cA ad_m_wentIn 121 m_wentIn_28, kX4 ad_l ad_l_signs l_count l_readAt_29 l_verb_30 l_first_31 l_second_32, kI cA ad_l_signs 48 l_signs] → va_S A s.heap H locs → lv_has ls 4 [(0, .ref ad_t), (1, .int (zi v1_18)), (2, .int (zi v2_19))] → W p l e { frames := 4, cells := 0, slots := 0, locals := 84 } s m ([.ref ad_t] : List Value).toArray below meth c H locs 0 0 (MQ below (zQi (dC, dI) [kX10 ad_t ad_t_strikers ad_n ad_m ad_k ad_l ad_e ad_t_toldOnes ad_t_refusals t_hasImage t_toldCount, kX8 ad_m ad_m_steps ad_m_line ad_m_gone ad_m_wentIn m_size9 m_there9 m_roundsBy9 m_kind9 m_figure9 m_stepCount9, kI cA ad_m_steps 8 m_steps9, kI cA ad_m_line 120 m_line9, kI cA ad_m_wentIn 121 m_wentIn9, kX4 ad_l ad_l_signs l_count l_readAt9 l_verb9 l_first9 l_second9, kI cA ad_l_signs 48 l_signs] r0 A) ([.ref ad_t] : List Value).toArray s 0 0 A) (F0 m 12 ls []) := by
    intro n
    induction n with
    | zero => intro v1_18 v2_19 m_size_20 m_there_21 m_roundsBy_22 m_kind_23 m_figure_24 m_stepCount_25 m_steps_26 m_line_27 m_wentIn_28 l_readAt_29 l_verb_30 l_first_31 l_second_32 H locs ls h; rw [f_X10_carryOutStatements_L12_z] at h; cases h
    | succ n ih12 =>
      intro v1_18 v2_19 m_size_20 m_there_21 m_roundsBy_22 m_kind_23 m_figure_24 m_stepCount_25 m_steps_26 m_line_27 m_wentIn_28 l_readAt_29 l_verb_30 l_first_31 l_second_32 H locs ls h hP hD hS hl
      rw [f_X10_carryOutStatements_L12_s] at h
      refine lv_iload_n hx hb dX10_carryOutStatements_12 rfl (lv_at hl 2 rfl) ?_
      refine z_bipush hx hb (by decide +kernel) dX10_carryOutStatements_13 ?_
      refine z_icmp_ge (tgt := 75) hx hb dX10_carryOutStatements_15 (by decide) h (fun q => ⟨q, by decide⟩) (fun h => ?_) (fun h => ?_)
      · refine lv_iload_n hx hb dX10_carryOutStatements_75 rfl (lv_at hl 1 rfl) ?_
        cases h
        exact z_iret hx hb hr hlocks hP hD hS dX10_carryOutStatements_76
      · refine lv_aload_n hx hb dX10_carryOutStatements_18 rfl (lv_at hl 0 rfl) ?_
        refine va_get (D := (dC, dI)) (ci := 10) (v := .ref ad_l) (C := RX10) (T := TX10) (N := 10) hx hb hts in_X10_carryOutStatements_X10 hown hK hP 0 rfl rfl 5 (by decide) (hts _ q_X10_carryOutStatements_0) (fun _ h9 => h9) rfl dX10_carryOutStatements_19 ?_
        refine va_get (D := (dC, dI)) (ci := 4) (v := .int (zi l_readAt_29)) (C := RX4) (T := TX4) (N := 6) hx hb hts in_X10_carryOutStatements_X4 hown hK hP 5 rfl rfl 2 (by decide) (hts _ q_X10_carryOutStatements_1) (fun _ h9 => h9) rfl dX10_carryOutStatements_22 ?_
        refine lv_aload_n hx hb dX10_carryOutStatements_25 rfl (lv_at hl 0 rfl) ?_
        refine va_get (D := (dC, dI)) (ci := 10) (v := .ref ad_l) (C := RX10) (T := TX10) (N := 10) hx hb hts in_X10_carryOutStatements_X10 hown hK hP 0 rfl rfl 5 (by decide) (hts _ q_X10_carryOutStatements_0) (fun _ h9 => h9) rfl dX10_carryOutStatements_26 ?_
        refine va_get (D := (dC, dI)) (ci := 4) (v := .int (zi l_count)) (C := RX4) (T := TX4) (N := 6) hx hb hts in_X10_carryOutStatements_X4 hown hK hP 5 rfl rfl 1 (by decide) (hts _ q_X10_carryOutStatements_2) (fun _ h9 => h9) rfl dX10_carryOutStatements_29 ?_
        refine z_icmp_ge (tgt := 75) hx hb dX10_carryOutStatements_32 (by decide) h (fun q => q) (fun h => ?_) (fun h => ?_)
        · refine lv_iload_n hx hb dX10_carryOutStatements_75 rfl (lv_at hl 1 rfl) ?_
          cases h
          exact z_iret hx hb hr hlocks hP hD hS dX10_carryOutStatements_76
        · refine lv_aload_n hx hb dX10_carryOutStatements_35 rfl (lv_at hl 0 rfl) ?_
          refine va_get (D := (dC, dI)) (ci := 10) (v := .ref ad_l) (C := RX10) (T := TX10) (N := 10) hx hb hts in_X10_carryOutStatements_X10 hown hK hP 0 rfl rfl 5 (by decide) (hts _ q_X10_carryOutStatements_0) (fun _ h9 => h9) rfl dX10_carryOutStatements_36 ?_
          refine va_get (D := (dC, dI)) (ci := 4) (v := .int (zi l_readAt_29)) (C := RX4) (T := TX4) (N := 6) hx hb hts in_X10_carryOutStatements_X4 hown hK hP 5 rfl rfl 2 (by decide) (hts _ q_X10_carryOutStatements_1) (fun _ h9 => h9) rfl dX10_carryOutStatements_39 ?_
          refine lv_istore_n (lv' := [(3, .int (zi l_readAt_29)), (0, .ref ad_t), (1, .int (zi v1_18)), (2, .int (zi v2_19))]) hx hb dX10_carryOutStatements_42 rfl hl (by decide) rfl (fun ls hl => ?_)
          refine lv_aload_n hx hb dX10_carryOutStatements_43 rfl (lv_at hl 1 rfl) ?_
          refine va_get (D := (dC, dI)) (ci := 10) (v := .ref ad_l) (C := RX10) (T := TX10) (N := 10) hx hb hts in_X10_carryOutStatements_X10 hown hK hP 0 rfl rfl 5 (by decide) (hts _ q_X10_carryOutStatements_0) (fun _ h9 => h9) rfl dX10_carryOutStatements_44 ?_
          obtain ⟨⟨r_33, l_readAt_34, l_verb_35, l_first_36, l_second_37⟩, hc_38, h⟩ := zb h
          try dsimp only at h
          refine z_calliU (wc := [kX4 ad_l ad_l_signs l_count l_readAt_29 l_verb_30 l_first_31 l_second_32, kI cA ad_l_signs 48 l_signs]) (wc' := [kX4 ad_l ad_l_signs l_count l_readAt_34 l_verb_35 l_first_36 l_second_37, kI cA ad_l_signs 48 l_signs]) (ws' := [kX10 ad_t ad_t_strikers ad_n ad_m ad_k ad_l ad_e ad_t_toldOnes ad_t_refusals t_hasImage t_toldCount, kX8 ad_m ad_m_steps ad_m_line ad_m_gone ad_m_wentIn m_size_20 m_there_21 m_roundsBy_22 m_kind_23 m_figure_24 m_stepCount_25, kI cA ad_m_steps 8 m_steps_26, kI cA ad_m_line 120 m_line_27, kI cA ad_m_wentIn 121 m_wentIn_28, kX4 ad_l ad_l_signs l_count l_readAt_34 l_verb_35 l_first_36 l_second_37, kI cA ad_l_signs 48 l_signs]) (va_runV (As := []) (rest := []) ⟨hx, hb, hml, hown, hts⟩ (c_X4_readStatement l dC dI cA cN _ ad_l ad_l_signs l_count l_readAt_29 l_verb_30 l_first_31 l_second_32 l_signs r_33 l_readAt_34 l_verb_35 l_first_36 l_second_37 hc_38) (cwV 0 hts gX10_carryOutStatements_X4_readStatement rfl rfl rfl (by decide +kernel) ⟨Nat.le_of_ble_eq_true rfl, Nat.le_of_ble_eq_true rfl⟩) (zPc.preV hK hE hP hD [5, 6] rfl rfl (ci := 4) (q0 := 5) rfl rfl) rfl rfl hl.1 rfl (lv_room (Nat.le_of_ble_eq_true rfl)) dX10_carryOutStatements_47 ⟨Nat.le_of_ble_eq_true rfl, Nat.le_of_ble_eq_true rfl⟩) hP hD hS hA [5, 6] rfl rfl rfl (fun H locs hP hD hS => ?_)
          refine z_if_eq (tgt := 60) hx hb dX10_carryOutStatements_50 (by decide) h (fun h => ?_) (fun h => ?_)
          · refine z_sipush hx hb (by decide +kernel) dX10_carryOutStatements_60 ?_
            refine lv_iload_n hx hb dX10_carryOutStatements_63 rfl (lv_at hl 0 rfl) ?_
            refine z_isub hx hb dX10_carryOutStatements_64 ?_
            cases h
            exact z_iret hx hb hr hlocks hP hD hS dX10_carryOutStatements_65
          · refine lv_aload_n hx hb dX10_carryOutStatements_53 rfl (lv_at hl 1 rfl) ?_
            obtain ⟨⟨r_39, m_size_40, m_there_41, m_roundsBy_42, m_kind_43, m_figure_44, m_stepCount_45, m_steps_46, m_line_47, m_wentIn_48⟩, hc_49, h⟩ := zb h
            try dsimp only at h
            refine z_calliU (wc := [kX10 ad_t ad_t_strikers ad_n ad_m ad_k ad_l ad_e ad_t_toldOnes ad_t_refusals t_hasImage t_toldCount, kX8 ad_m ad_m_steps ad_m_line ad_m_gone ad_m_wentIn m_size_20 m_there_21 m_roundsBy_22 m_kind_23 m_figure_24 m_stepCount_25, kI cA ad_m_steps 8 m_steps_26, kI cA ad_m_line 120 m_line_27, kI cA ad_m_wentIn 121 m_wentIn_28, kX4 ad_l ad_l_signs l_count l_readAt_34 l_verb_35 l_first_36 l_second_37]) (wc' := [kX10 ad_t ad_t_strikers ad_n ad_m ad_k ad_l ad_e ad_t_toldOnes ad_t_refusals t_hasImage t_toldCount, kX8 ad_m ad_m_steps ad_m_line ad_m_gone ad_m_wentIn m_size_40 m_there_41 m_roundsBy_42 m_kind_43 m_figure_44 m_stepCount_45, kI cA ad_m_steps 8 m_steps_46, kI cA ad_m_line 120 m_line_47, kI cA ad_m_wentIn 121 m_wentIn_48, kX4 ad_l ad_l_signs l_count l_readAt_34 l_verb_35 l_first_36 l_second_37]) (ws' := [kX10 ad_t ad_t_strikers ad_n ad_m ad_k ad_l ad_e ad_t_toldOnes ad_t_refusals t_hasImage t_toldCount, kX8 ad_m ad_m_steps ad_m_line ad_m_gone ad_m_wentIn m_size_40 m_there_41 m_roundsBy_42 m_kind_43 m_figure_44 m_stepCount_45, kI cA ad_m_steps 8 m_steps_46, kI cA ad_m_line 120 m_line_47, kI cA ad_m_wentIn 121 m_wentIn_48, kX4 ad_l ad_l_signs l_count l_readAt_34 l_verb_35 l_first_36 l_second_37, kI cA ad_l_signs 48 l_signs]) (va_runV (As := []) (rest := []) ⟨hx, hb, hml, hown, hts⟩ (c_X10_carryOut l dC dI cA cN _ ad_t ad_t_strikers ad_n ad_m ad_k ad_l ad_e ad_t_toldOnes ad_t_refusals ad_m_steps ad_m_line ad_m_gone ad_m_wentIn ad_l_signs t_hasImage t_toldCount m_size_20 m_there_21 m_roundsBy_22 m_kind_23 m_figure_24 m_stepCount_25 l_count l_readAt_34 l_verb_35 l_first_36 l_second_37 m_line_27 m_steps_26 m_wentIn_28 r_39 m_size_40 m_there_41 m_roundsBy_42 m_kind_43 m_figure_44 m_stepCount_45 m_steps_46 m_line_47 m_wentIn_48 hc_49) (cwV 0 hts gX10_carryOutStatements_X10_carryOut rfl rfl rfl (by decide +kernel) ⟨Nat.le_of_ble_eq_true rfl, Nat.le_of_ble_eq_true rfl⟩) (zPc.preV hK hE hP hD [0, 1, 2, 3, 4, 5] rfl rfl (ci := 10) (q0 := 0) rfl rfl) rfl rfl hl.1 rfl (lv_room (Nat.le_of_ble_eq_true rfl)) dX10_carryOutStatements_54 ⟨Nat.le_of_ble_eq_true rfl, Nat.le_of_ble_eq_true rfl⟩) hP hD hS hA [0, 1, 2, 3, 4, 5] rfl rfl rfl (fun H locs hP hD hS => ?_)
            refine z_if_ne (tgt := 66) hx hb dX10_carryOutStatements_57 (by decide) h (fun h => ?_) (fun h => ?_)
            · refine z_iinc (lv' := [(1, .int (zi (v1_18 + 1))), (3, .int (zi l_readAt_29)), (0, .ref ad_t), (2, .int (zi v2_19))]) hx hb dX10_carryOutStatements_66 hl (k := 2) rfl (by decide) rfl (fun ls hl => ?_)
              refine z_iinc (lv' := [(2, .int (zi (v2_19 + 1))), (1, .int (zi (v1_18 + 1))), (3, .int (zi l_readAt_29)), (0, .ref ad_t)]) hx hb dX10_carryOutStatements_69 hl (k := 3) rfl (by decide) rfl (fun ls hl => ?_)
              refine lv_goto (tgt := 12) hx hb dX10_carryOutStatements_72 (by decide) ?_
              exact ih12 _ _ _ _ _ _ _ _ _ _ _ _ _ _ _ _ _ _ h hP hD hS (lv_sub hl [3, 1, 0] rfl)
            · refine z_sipush hx hb (by decide +kernel) dX10_carryOutStatements_60 ?_
              refine lv_iload_n hx hb dX10_carryOutStatements_63 rfl (lv_at hl 0 rfl) ?_
              refine z_isub hx hb dX10_carryOutStatements_64 ?_
              cases h
              exact z_iret hx hb hr hlocks hP hD hS dX10_carryOutStatements_65
  exact hlp12 zF _ _ _ _ _ _ _ _ _ _ _ _ _ _ _ _ _ _ h hP hD hS (lv_sub hl [2, 1, 0] rfl)
-- X10_row
theorem dX10_row_0 : decode cX10_row 0 = .ok (.aload_n 0, 1) := by decide +kernel
theorem dX10_row_1 : decode cX10_row 1 = .ok (.getfield 31, 3) := by decide +kernel
theorem dX10_row_4 : decode cX10_row 4 = .ok (.invokevirtual 86, 3) := by decide +kernel
theorem dX10_row_7 : decode cX10_row 7 = .ok (.istore_n 1, 1) := by decide +kernel
theorem dX10_row_8 : decode cX10_row 8 = .ok (.iload_n 1, 1) := by decide +kernel
theorem dX10_row_9 : decode cX10_row 9 = .ok (.ifCond .lt 12, 3) := by decide +kernel
theorem dX10_row_12 : decode cX10_row 12 = .ok (.sipush (-1000), 3) := by decide +kernel
theorem dX10_row_15 : decode cX10_row 15 = .ok (.iload_n 1, 1) := by decide +kernel
theorem dX10_row_16 : decode cX10_row 16 = .ok (.isub, 1) := by decide +kernel
theorem dX10_row_17 : decode cX10_row 17 = .ok (.istore_n 1, 1) := by decide +kernel
theorem dX10_row_18 : decode cX10_row 18 = .ok (.goto 34, 3) := by decide +kernel
theorem dX10_row_21 : decode cX10_row 21 = .ok (.aload_n 0, 1) := by decide +kernel
theorem dX10_row_22 : decode cX10_row 22 = .ok (.getfield 22, 3) := by decide +kernel
theorem dX10_row_25 : decode cX10_row 25 = .ok (.aload_n 0, 1) := by decide +kernel
theorem dX10_row_26 : decode cX10_row 26 = .ok (.getfield 18, 3) := by decide +kernel
theorem dX10_row_29 : decode cX10_row 29 = .ok (.invokevirtual 90, 3) := by decide +kernel
theorem dX10_row_32 : decode cX10_row 32 = .ok (.aload_n 0, 1) := by decide +kernel
theorem dX10_row_33 : decode cX10_row 33 = .ok (.invokevirtual 94, 3) := by decide +kernel
theorem dX10_row_36 : decode cX10_row 36 = .ok (.istore_n 1, 1) := by decide +kernel
theorem dX10_row_37 : decode cX10_row 37 = .ok (.iload_n 1, 1) := by decide +kernel
theorem dX10_row_38 : decode cX10_row 38 = .ok (.ifCond .le 14, 3) := by decide +kernel
theorem dX10_row_41 : decode cX10_row 41 = .ok (.aload_n 0, 1) := by decide +kernel
theorem dX10_row_42 : decode cX10_row 42 = .ok (.getfield 18, 3) := by decide +kernel
theorem dX10_row_45 : decode cX10_row 45 = .ok (.aload_n 0, 1) := by decide +kernel
theorem dX10_row_46 : decode cX10_row 46 = .ok (.getfield 22, 3) := by decide +kernel
theorem dX10_row_49 : decode cX10_row 49 = .ok (.invokevirtual 90, 3) := by decide +kernel
theorem dX10_row_52 : decode cX10_row 52 = .ok (.aload_n 0, 1) := by decide +kernel
theorem dX10_row_53 : decode cX10_row 53 = .ok (.getfield 31, 3) := by decide +kernel
theorem dX10_row_56 : decode cX10_row 56 = .ok (.iconst 0, 1) := by decide +kernel
theorem dX10_row_57 : decode cX10_row 57 = .ok (.putfield 80, 3) := by decide +kernel
theorem dX10_row_60 : decode cX10_row 60 = .ok (.iload_n 1, 1) := by decide +kernel
theorem dX10_row_61 : decode cX10_row 61 = .ok (.ireturn, 1) := by decide +kernel
set_option maxRecDepth 20000 in
theorem ggX10_row_X4_faultPlace : GoodIn wsX10_row wsX4_faultPlace := goodIn_r _ [9, 10, 11, 12, 13, 14, 8, 15, 16, 17, 18, 19, 20, 21, 22, 23, 24, 25, 26, 27, 28, 29, 30, 31, 32, 33, 34, 35, 36, 37, 38, 39, 40, 41, 42, 43, 44, 45, 46, 122, 123, 124, 125, 126, 127] rfl (by decide +kernel)
set_option maxRecDepth 20000 in
theorem gX10_row_X4_faultPlace : GoodIn wsX10_row (wsV RX10 86 RX4 yX4_faultPlace wsX4_faultPlace) := goodIn_app (goodIn_of _ (by decide +kernel)) ggX10_row_X4_faultPlace
set_option maxRecDepth 20000 in
theorem ggX10_row_X8_copyFrom : GoodIn wsX10_row wsX8_copyFrom := goodIn_r _ [51, 52, 53, 54, 55, 56, 57, 58, 59, 60, 61, 62, 63, 64, 65, 128, 129, 130, 131, 132, 133, 134, 135, 136, 137] rfl (by decide +kernel)
set_option maxRecDepth 20000 in
theorem gX10_row_X8_copyFrom : GoodIn wsX10_row (wsV RX10 90 RX8 yX8_copyFrom wsX8_copyFrom) := goodIn_app (goodIn_of _ (by decide +kernel)) ggX10_row_X8_copyFrom
set_option maxRecDepth 20000 in
theorem ggX10_row_X10_carryOutStatements : GoodIn wsX10_row wsX10_carryOutStatements := goodIn_r _ [70, 1, 71, 4, 72, 13, 14, 8, 15, 16, 17, 10, 18, 19, 20, 21, 11, 22, 23, 24, 25, 26, 27, 28, 29, 30, 31, 32, 33, 34, 35, 36, 37, 38, 39, 40, 41, 42, 43, 44, 45, 46, 73, 74, 75, 69, 76, 77, 78, 79, 2, 80, 81, 82, 83, 84, 50, 85, 52, 53, 54, 65, 63, 86, 87, 88, 89, 90, 91, 92, 93, 94, 95, 96, 97, 98, 99, 57, 58, 100, 101, 102, 103, 104, 105, 106, 107, 108, 109, 110, 111, 112, 113, 114, 115, 116, 117, 118, 119, 120, 121, 122, 123, 124, 125, 126, 127, 128, 129, 130, 131, 132, 133, 134, 135, 136, 137] rfl (by decide +kernel)
set_option maxRecDepth 20000 in
theorem gX10_row_X10_carryOutStatements : GoodIn wsX10_row (wsV RX10 94 RX10 yX10_carryOutStatements wsX10_carryOutStatements) := goodIn_app (goodIn_of _ (by decide +kernel)) ggX10_row_X10_carryOutStatements
noncomputable def f_X10_row (n_size : Int) (n_there : Int) (n_roundsBy : Int) (n_kind : Int) (n_figure : Int) (n_stepCount : Int) (n_steps : Int → Int) (n_line : Int → Int) (n_gone : Int → Int) (n_wentIn : Int → Int) (m_size : Int) (m_there : Int) (m_roundsBy : Int) (m_kind : Int) (m_figure : Int) (m_stepCount : Int) (m_steps : Int → Int) (m_line : Int → Int) (m_gone : Int → Int) (m_wentIn : Int → Int) (l_signs : Int → Int) (l_count : Int) (l_readAt : Int) (l_verb : Int) (l_first : Int) (l_second : Int) : Option (Int × Int × Int × Int × Int × Int × Int × (Int → Int) × (Int → Int) × (Int → Int) × (Int → Int) × Int × Int × Int × Int × Int × Int × (Int → Int) × (Int → Int) × (Int → Int) × (Int → Int) × Int × Int × Int × Int × Int) := (f_X4_faultPlace l_signs l_count l_readAt l_verb l_first l_second).bind (fun (r_1, l_readAt_2, l_verb_3, l_first_4, l_second_5) => zg (zR r_1) (if r_1 < 0 then (f_X8_copyFrom m_size m_there m_roundsBy m_kind m_figure m_stepCount m_steps m_line m_gone m_wentIn n_size n_there n_roundsBy n_kind n_figure n_stepCount n_steps n_line n_gone n_wentIn).bind (fun (m_size_7, m_there_8, m_roundsBy_9, m_kind_10, m_figure_11, m_stepCount_12, m_steps_13, m_line_14, m_gone_15, m_wentIn_16) => (f_X10_carryOutStatements m_size_7 m_there_8 m_roundsBy_9 m_kind_10 m_figure_11 m_stepCount_12 m_steps_13 m_line_14 m_wentIn_16 l_signs l_count l_readAt_2 l_verb_3 l_first_4 l_second_5).bind (fun (r_18, m_size_19, m_there_20, m_roundsBy_21, m_kind_22, m_figure_23, m_stepCount_24, m_steps_25, m_line_26, m_wentIn_27, l_readAt_28, l_verb_29, l_first_30, l_second_31) => zg (zR r_18) (if r_18 ≤ 0 then some (r_18, n_size, n_there, n_roundsBy, n_kind, n_figure, n_stepCount, n_steps, n_line, n_gone, n_wentIn, m_size_19, m_there_20, m_roundsBy_21, m_kind_22, m_figure_23, m_stepCount_24, m_steps_25, m_line_26, m_gone_15, m_wentIn_27, 0, l_readAt_28, l_verb_29, l_first_30, l_second_31) else (f_X8_copyFrom n_size n_there n_roundsBy n_kind n_figure n_stepCount n_steps n_line n_gone n_wentIn m_size_19 m_there_20 m_roundsBy_21 m_kind_22 m_figure_23 m_stepCount_24 m_steps_25 m_line_26 m_gone_15 m_wentIn_27).bind (fun (n_size_33, n_there_34, n_roundsBy_35, n_kind_36, n_figure_37, n_stepCount_38, n_steps_39, n_line_40, n_gone_41, n_wentIn_42) => some (r_18, n_size_33, n_there_34, n_roundsBy_35, n_kind_36, n_figure_37, n_stepCount_38, n_steps_39, n_line_40, n_gone_41, n_wentIn_42, m_size_19, m_there_20, m_roundsBy_21, m_kind_22, m_figure_23, m_stepCount_24, m_steps_25, m_line_26, m_gone_15, m_wentIn_27, 0, l_readAt_28, l_verb_29, l_first_30, l_second_31))))) else some (((-1000) - r_1), n_size, n_there, n_roundsBy, n_kind, n_figure, n_stepCount, n_steps, n_line, n_gone, n_wentIn, m_size, m_there, m_roundsBy, m_kind, m_figure, m_stepCount, m_steps, m_line, m_gone, m_wentIn, 0, l_readAt_2, l_verb_3, l_first_4, l_second_5)))
theorem q_X10_row_0 : Cond.fieldLink RX10 31 "EachSecondStruck" "letters" "LEachSecondStruck$Letters;" ∈ wsX10_row := by decide +kernel
theorem q_X10_row_1 : Cond.fieldLink RX10 22 "EachSecondStruck" "mind" "LEachSecondStruck$Standing;" ∈ wsX10_row := by decide +kernel
theorem q_X10_row_2 : Cond.fieldLink RX10 18 "EachSecondStruck" "now" "LEachSecondStruck$Standing;" ∈ wsX10_row := by decide +kernel
theorem q_X10_row_3 : Cond.fieldLink RX10 80 "EachSecondStruck$Letters" "count" "I" ∈ wsX10_row := by decide +kernel
theorem in_X10_row_X10 : ∀ w ∈ u_ws RX10 TX10 10, w ∈ wsX10_row := by decide +kernel
theorem in_X10_row_X4 : ∀ w ∈ u_ws RX4 TX4 6, w ∈ wsX10_row := by decide +kernel
set_option maxHeartbeats 4000000 in
set_option maxRecDepth 100000 in
theorem c_X10_row (l : Launch) (dC : Nat → ClassId) (dI : Nat → Nat → Nat) (cA cN : ClassId) (sz : Nat) (ad_t : Nat) (ad_t_strikers : Nat) (ad_n : Nat) (ad_m : Nat) (ad_k : Nat) (ad_l : Nat) (ad_e : Nat) (ad_t_toldOnes : Nat) (ad_t_refusals : Nat) (ad_n_steps : Nat) (ad_n_line : Nat) (ad_n_gone : Nat) (ad_n_wentIn : Nat) (ad_m_steps : Nat) (ad_m_line : Nat) (ad_m_gone : Nat) (ad_m_wentIn : Nat) (ad_l_signs : Nat) (t_hasImage : Int) (t_toldCount : Int) (n_size : Int) (n_there : Int) (n_roundsBy : Int) (n_kind : Int) (n_figure : Int) (n_stepCount : Int) (m_size : Int) (m_there : Int) (m_roundsBy : Int) (m_kind : Int) (m_figure : Int) (m_stepCount : Int) (l_count : Int) (l_readAt : Int) (l_verb : Int) (l_first : Int) (l_second : Int) (n_gone : Int → Int) (n_line : Int → Int) (n_steps : Int → Int) (n_wentIn : Int → Int) (m_gone : Int → Int) (m_line : Int → Int) (m_steps : Int → Int) (m_wentIn : Int → Int) (l_signs : Int → Int)  (r0 : Int) (n_size9 : Int) (n_there9 : Int) (n_roundsBy9 : Int) (n_kind9 : Int) (n_figure9 : Int) (n_stepCount9 : Int) (n_steps9 : Int → Int) (n_line9 : Int → Int) (n_gone9 : Int → Int) (n_wentIn9 : Int → Int) (m_size9 : Int) (m_there9 : Int) (m_roundsBy9 : Int) (m_kind9 : Int) (m_figure9 : Int) (m_stepCount9 : Int) (m_steps9 : Int → Int) (m_line9 : Int → Int) (m_gone9 : Int → Int) (m_wentIn9 : Int → Int) (l_count9 : Int) (l_readAt9 : Int) (l_verb9 : Int) (l_first9 : Int) (l_second9 : Int) (h : f_X10_row n_size n_there n_roundsBy n_kind n_figure n_stepCount n_steps n_line n_gone n_wentIn m_size m_there m_roundsBy m_kind m_figure m_stepCount m_steps m_line m_gone m_wentIn l_signs l_count l_readAt l_verb l_first l_second = some (r0, n_size9, n_there9, n_roundsBy9, n_kind9, n_figure9, n_stepCount9, n_steps9, n_line9, n_gone9, n_wentIn9, m_size9, m_there9, m_roundsBy9, m_kind9, m_figure9, m_stepCount9, m_steps9, m_line9, m_gone9, m_wentIn9, l_count9, l_readAt9, l_verb9, l_first9, l_second9)) : Met l yX10_row wsX10_row { frames := 5, cells := 0, slots := 0, locals := 107 } (zPc (dC, dI) (zT cA cN) [kX10 ad_t ad_t_strikers ad_n ad_m ad_k ad_l ad_e ad_t_toldOnes ad_t_refusals t_hasImage t_toldCount, kX8 ad_n ad_n_steps ad_n_line ad_n_gone ad_n_wentIn n_size n_there n_roundsBy n_kind n_figure n_stepCount, kI cA ad_n_steps 8 n_steps, kI cA ad_n_line 120 n_line, kI cA ad_n_gone 120 n_gone, kI cA ad_n_wentIn 121 n_wentIn, kX8 ad_m ad_m_steps ad_m_line ad_m_gone ad_m_wentIn m_size m_there m_roundsBy m_kind m_figure m_stepCount, kI cA ad_m_steps 8 m_steps, kI cA ad_m_line 120 m_line, kI cA ad_m_gone 120 m_gone, kI cA ad_m_wentIn 121 m_wentIn, kX4 ad_l ad_l_signs l_count l_readAt l_verb l_first l_second, kI cA ad_l_signs 48 l_signs] [.ref ad_t] sz) (zQi (dC, dI) [kX10 ad_t ad_t_strikers ad_n ad_m ad_k ad_l ad_e ad_t_toldOnes ad_t_refusals t_hasImage t_toldCount, kX8 ad_n ad_n_steps ad_n_line ad_n_gone ad_n_wentIn n_size9 n_there9 n_roundsBy9 n_kind9 n_figure9 n_stepCount9, kI cA ad_n_steps 8 n_steps9, kI cA ad_n_line 120 n_line9, kI cA ad_n_gone 120 n_gone9, kI cA ad_n_wentIn 121 n_wentIn9, kX8 ad_m ad_m_steps ad_m_line ad_m_gone ad_m_wentIn m_size9 m_there9 m_roundsBy9 m_kind9 m_figure9 m_stepCount9, kI cA ad_m_steps 8 m_steps9, kI cA ad_m_line 120 m_line9, kI cA ad_m_gone 120 m_gone9, kI cA ad_m_wentIn 121 m_wentIn9, kX4 ad_l ad_l_signs l_count9 l_readAt9 l_verb9 l_first9 l_second9, kI cA ad_l_signs 48 l_signs] r0 (va_A [kX10 ad_t ad_t_strikers ad_n ad_m ad_k ad_l ad_e ad_t_toldOnes ad_t_refusals t_hasImage t_toldCount, kX8 ad_n ad_n_steps ad_n_line ad_n_gone ad_n_wentIn n_size n_there n_roundsBy n_kind n_figure n_stepCount, kI cA ad_n_steps 8 n_steps, kI cA ad_n_line 120 n_line, kI cA ad_n_gone 120 n_gone, kI cA ad_n_wentIn 121 n_wentIn, kX8 ad_m ad_m_steps ad_m_line ad_m_gone ad_m_wentIn m_size m_there m_roundsBy m_kind m_figure m_stepCount, kI cA ad_m_steps 8 m_steps, kI cA ad_m_line 120 m_line, kI cA ad_m_gone 120 m_gone, kI cA ad_m_wentIn 121 m_wentIn, kX4 ad_l ad_l_signs l_count l_readAt l_verb l_first l_second, kI cA ad_l_signs 48 l_signs] sz)) 0 0 (va_A [kX10 ad_t ad_t_strikers ad_n ad_m ad_k ad_l ad_e ad_t_toldOnes ad_t_refusals t_hasImage t_toldCount, kX8 ad_n ad_n_steps ad_n_line ad_n_gone ad_n_wentIn n_size n_there n_roundsBy n_kind n_figure n_stepCount, kI cA ad_n_steps 8 n_steps, kI cA ad_n_line 120 n_line, kI cA ad_n_gone 120 n_gone, kI cA ad_n_wentIn 121 n_wentIn, kX8 ad_m ad_m_steps ad_m_line ad_m_gone ad_m_wentIn m_size m_there m_roundsBy m_kind m_figure m_stepCount, kI cA ad_m_steps 8 m_steps, kI cA ad_m_line 120 m_line, kI cA ad_m_gone 120 m_gone, kI cA ad_m_wentIn 121 m_wentIn, kX4 ad_l ad_l_signs l_count l_readAt l_verb l_first l_second, kI cA ad_l_signs 48 l_signs] sz) := by
  refine z_ofW (QF := fun A => zQi (dC, dI) [kX10 ad_t ad_t_strikers ad_n ad_m ad_k ad_l ad_e ad_t_toldOnes ad_t_refusals t_hasImage t_toldCount, kX8 ad_n ad_n_steps ad_n_line ad_n_gone ad_n_wentIn n_size9 n_there9 n_roundsBy9 n_kind9 n_figure9 n_stepCount9, kI cA ad_n_steps 8 n_steps9, kI cA ad_n_line 120 n_line9, kI cA ad_n_gone 120 n_gone9, kI cA ad_n_wentIn 121 n_wentIn9, kX8 ad_m ad_m_steps ad_m_line ad_m_gone ad_m_wentIn m_size9 m_there9 m_roundsBy9 m_kind9 m_figure9 m_stepCount9, kI cA ad_m_steps 8 m_steps9, kI cA ad_m_line 120 m_line9, kI cA ad_m_gone 120 m_gone9, kI cA ad_m_wentIn 121 m_wentIn9, kX4 ad_l ad_l_signs l_count9 l_readAt9 l_verb9 l_first9 l_second9, kI cA ad_l_signs 48 l_signs] r0 A) (by decide) rfl (Nat.le_of_ble_eq_true rfl) ?_
  intro p e s m below meth c ls A hx hb hml hr hlocks hnm hts hown hK hP hD hE hsz hA hS hl
  have hl : lv_has ls 2 [(0, .ref ad_t)] := hl
  unfold f_X10_row at h
  refine lv_aload_n hx hb dX10_row_0 rfl (lv_at hl 0 rfl) ?_
  refine va_get (D := (dC, dI)) (ci := 10) (v := .ref ad_l) (C := RX10) (T := TX10) (N := 10) hx hb hts in_X10_row_X10 hown hK hP 0 rfl rfl 5 (by decide) (hts _ q_X10_row_0) (fun _ h9 => h9) rfl dX10_row_1 ?_
  obtain ⟨⟨r_44, l_readAt_45, l_verb_46, l_first_47, l_second_48⟩, hc_49, h⟩ := zb h
  try dsimp only at h
  refine z_calliU (wc := [kX4 ad_l ad_l_signs l_count l_readAt l_verb l_first l_second, kI cA ad_l_signs 48 l_signs]) (wc' := [kX4 ad_l ad_l_signs l_count l_readAt_45 l_verb_46 l_first_47 l_second_48, kI cA ad_l_signs 48 l_signs]) (ws' := [kX10 ad_t ad_t_strikers ad_n ad_m ad_k ad_l ad_e ad_t_toldOnes ad_t_refusals t_hasImage t_toldCount, kX8 ad_n ad_n_steps ad_n_line ad_n_gone ad_n_wentIn n_size n_there n_roundsBy n_kind n_figure n_stepCount, kI cA ad_n_steps 8 n_steps, kI cA ad_n_line 120 n_line, kI cA ad_n_gone 120 n_gone, kI cA ad_n_wentIn 121 n_wentIn, kX8 ad_m ad_m_steps ad_m_line ad_m_gone ad_m_wentIn m_size m_there m_roundsBy m_kind m_figure m_stepCount, kI cA ad_m_steps 8 m_steps, kI cA ad_m_line 120 m_line, kI cA ad_m_gone 120 m_gone, kI cA ad_m_wentIn 121 m_wentIn, kX4 ad_l ad_l_signs l_count l_readAt_45 l_verb_46 l_first_47 l_second_48, kI cA ad_l_signs 48 l_signs]) (va_runV (As := []) (rest := []) ⟨hx, hb, hml, hown, hts⟩ (c_X4_faultPlace l dC dI cA cN _ ad_l ad_l_signs l_count l_readAt l_verb l_first l_second l_signs r_44 l_readAt_45 l_verb_46 l_first_47 l_second_48 hc_49) (cwV 0 hts gX10_row_X4_faultPlace rfl rfl rfl (by decide +kernel) ⟨Nat.le_of_ble_eq_true rfl, Nat.le_of_ble_eq_true rfl⟩) (zPc.preV hK hE hP hD [11, 12] rfl rfl (ci := 4) (q0 := 11) rfl rfl) rfl rfl hl.1 rfl (lv_room (Nat.le_of_ble_eq_true rfl)) dX10_row_4 ⟨Nat.le_of_ble_eq_true rfl, Nat.le_of_ble_eq_true rfl⟩) hP hD hS hA [11, 12] rfl rfl rfl (fun H locs hP hD hS => ?_)
  refine lv_istore_n (lv' := [(1, .int (zi r_44)), (0, .ref ad_t)]) hx hb dX10_row_7 rfl hl (by decide) rfl (fun ls hl => ?_)
  refine lv_iload_n hx hb dX10_row_8 rfl (lv_at hl 0 rfl) ?_
  refine z_if_lt (tgt := 21) hx hb dX10_row_9 (by decide) h (fun h => ?_) (fun h => ?_)
  · refine lv_aload_n hx hb dX10_row_21 rfl (lv_at hl 1 rfl) ?_
    refine va_get (D := (dC, dI)) (ci := 10) (v := .ref ad_m) (C := RX10) (T := TX10) (N := 10) hx hb hts in_X10_row_X10 hown hK hP 0 rfl rfl 2 (by decide) (hts _ q_X10_row_1) (fun _ h9 => h9) rfl dX10_row_22 ?_
    refine lv_aload_n hx hb dX10_row_25 rfl (lv_at hl 1 rfl) ?_
    refine va_get (D := (dC, dI)) (ci := 10) (v := .ref ad_n) (C := RX10) (T := TX10) (N := 10) hx hb hts in_X10_row_X10 hown hK hP 0 rfl rfl 1 (by decide) (hts _ q_X10_row_2) (fun _ h9 => h9) rfl dX10_row_26 ?_
    obtain ⟨⟨m_size_50, m_there_51, m_roundsBy_52, m_kind_53, m_figure_54, m_stepCount_55, m_steps_56, m_line_57, m_gone_58, m_wentIn_59⟩, hc_60, h⟩ := zb h
    try dsimp only at h
    refine z_callvU (wc := [kX8 ad_m ad_m_steps ad_m_line ad_m_gone ad_m_wentIn m_size m_there m_roundsBy m_kind m_figure m_stepCount, kI cA ad_m_steps 8 m_steps, kI cA ad_m_line 120 m_line, kI cA ad_m_gone 120 m_gone, kI cA ad_m_wentIn 121 m_wentIn, kX8 ad_n ad_n_steps ad_n_line ad_n_gone ad_n_wentIn n_size n_there n_roundsBy n_kind n_figure n_stepCount, kI cA ad_n_steps 8 n_steps, kI cA ad_n_line 120 n_line, kI cA ad_n_gone 120 n_gone, kI cA ad_n_wentIn 121 n_wentIn]) (wc' := [kX8 ad_m ad_m_steps ad_m_line ad_m_gone ad_m_wentIn m_size_50 m_there_51 m_roundsBy_52 m_kind_53 m_figure_54 m_stepCount_55, kI cA ad_m_steps 8 m_steps_56, kI cA ad_m_line 120 m_line_57, kI cA ad_m_gone 120 m_gone_58, kI cA ad_m_wentIn 121 m_wentIn_59, kX8 ad_n ad_n_steps ad_n_line ad_n_gone ad_n_wentIn n_size n_there n_roundsBy n_kind n_figure n_stepCount, kI cA ad_n_steps 8 n_steps, kI cA ad_n_line 120 n_line, kI cA ad_n_gone 120 n_gone, kI cA ad_n_wentIn 121 n_wentIn]) (ws' := [kX10 ad_t ad_t_strikers ad_n ad_m ad_k ad_l ad_e ad_t_toldOnes ad_t_refusals t_hasImage t_toldCount, kX8 ad_n ad_n_steps ad_n_line ad_n_gone ad_n_wentIn n_size n_there n_roundsBy n_kind n_figure n_stepCount, kI cA ad_n_steps 8 n_steps, kI cA ad_n_line 120 n_line, kI cA ad_n_gone 120 n_gone, kI cA ad_n_wentIn 121 n_wentIn, kX8 ad_m ad_m_steps ad_m_line ad_m_gone ad_m_wentIn m_size_50 m_there_51 m_roundsBy_52 m_kind_53 m_figure_54 m_stepCount_55, kI cA ad_m_steps 8 m_steps_56, kI cA ad_m_line 120 m_line_57, kI cA ad_m_gone 120 m_gone_58, kI cA ad_m_wentIn 121 m_wentIn_59, kX4 ad_l ad_l_signs l_count l_readAt_45 l_verb_46 l_first_47 l_second_48, kI cA ad_l_signs 48 l_signs]) (va_runV (As := [.ref ad_n]) (rest := []) ⟨hx, hb, hml, hown, hts⟩ (c_X8_copyFrom l dC dI cA cN _ ad_m ad_m_steps ad_m_line ad_m_gone ad_m_wentIn ad_n ad_n_steps ad_n_line ad_n_gone ad_n_wentIn m_size m_there m_roundsBy m_kind m_figure m_stepCount n_size n_there n_roundsBy n_kind n_figure n_stepCount m_gone m_line m_steps m_wentIn n_gone n_line n_steps n_wentIn m_size_50 m_there_51 m_roundsBy_52 m_kind_53 m_figure_54 m_stepCount_55 m_steps_56 m_line_57 m_gone_58 m_wentIn_59 hc_60) (cwV 1 hts gX10_row_X8_copyFrom rfl rfl rfl (by decide +kernel) ⟨Nat.le_of_ble_eq_true rfl, Nat.le_of_ble_eq_true rfl⟩) (zPc.preV hK hE hP hD [6, 7, 8, 9, 10, 1, 2, 3, 4, 5] rfl rfl (ci := 8) (q0 := 6) rfl rfl) rfl rfl hl.1 rfl (lv_room (Nat.le_of_ble_eq_true rfl)) dX10_row_29 ⟨Nat.le_of_ble_eq_true rfl, Nat.le_of_ble_eq_true rfl⟩) hP hD hS hA [6, 7, 8, 9, 10, 1, 2, 3, 4, 5] rfl rfl rfl (fun H locs hP hD hS => ?_)
    refine lv_aload_n hx hb dX10_row_32 rfl (lv_at hl 1 rfl) ?_
    obtain ⟨⟨r_61, m_size_62, m_there_63, m_roundsBy_64, m_kind_65, m_figure_66, m_stepCount_67, m_steps_68, m_line_69, m_wentIn_70, l_readAt_71, l_verb_72, l_first_73, l_second_74⟩, hc_75, h⟩ := zb h
    try dsimp only at h
    refine z_calliU (wc := [kX10 ad_t ad_t_strikers ad_n ad_m ad_k ad_l ad_e ad_t_toldOnes ad_t_refusals t_hasImage t_toldCount, kX8 ad_m ad_m_steps ad_m_line ad_m_gone ad_m_wentIn m_size_50 m_there_51 m_roundsBy_52 m_kind_53 m_figure_54 m_stepCount_55, kI cA ad_m_steps 8 m_steps_56, kI cA ad_m_line 120 m_line_57, kI cA ad_m_wentIn 121 m_wentIn_59, kX4 ad_l ad_l_signs l_count l_readAt_45 l_verb_46 l_first_47 l_second_48, kI cA ad_l_signs 48 l_signs]) (wc' := [kX10 ad_t ad_t_strikers ad_n ad_m ad_k ad_l ad_e ad_t_toldOnes ad_t_refusals t_hasImage t_toldCount, kX8 ad_m ad_m_steps ad_m_line ad_m_gone ad_m_wentIn m_size_62 m_there_63 m_roundsBy_64 m_kind_65 m_figure_66 m_stepCount_67, kI cA ad_m_steps 8 m_steps_68, kI cA ad_m_line 120 m_line_69, kI cA ad_m_wentIn 121 m_wentIn_70, kX4 ad_l ad_l_signs l_count l_readAt_71 l_verb_72 l_first_73 l_second_74, kI cA ad_l_signs 48 l_signs]) (ws' := [kX10 ad_t ad_t_strikers ad_n ad_m ad_k ad_l ad_e ad_t_toldOnes ad_t_refusals t_hasImage t_toldCount, kX8 ad_n ad_n_steps ad_n_line ad_n_gone ad_n_wentIn n_size n_there n_roundsBy n_kind n_figure n_stepCount, kI cA ad_n_steps 8 n_steps, kI cA ad_n_line 120 n_line, kI cA ad_n_gone 120 n_gone, kI cA ad_n_wentIn 121 n_wentIn, kX8 ad_m ad_m_steps ad_m_line ad_m_gone ad_m_wentIn m_size_62 m_there_63 m_roundsBy_64 m_kind_65 m_figure_66 m_stepCount_67, kI cA ad_m_steps 8 m_steps_68, kI cA ad_m_line 120 m_line_69, kI cA ad_m_gone 120 m_gone_58, kI cA ad_m_wentIn 121 m_wentIn_70, kX4 ad_l ad_l_signs l_count l_readAt_71 l_verb_72 l_first_73 l_second_74, kI cA ad_l_signs 48 l_signs]) (va_runV (As := []) (rest := []) ⟨hx, hb, hml, hown, hts⟩ (c_X10_carryOutStatements l dC dI cA cN _ ad_t ad_t_strikers ad_n ad_m ad_k ad_l ad_e ad_t_toldOnes ad_t_refusals ad_m_steps ad_m_line ad_m_gone ad_m_wentIn ad_l_signs t_hasImage t_toldCount m_size_50 m_there_51 m_roundsBy_52 m_kind_53 m_figure_54 m_stepCount_55 l_count l_readAt_45 l_verb_46 l_first_47 l_second_48 m_line_57 m_steps_56 m_wentIn_59 l_signs r_61 m_size_62 m_there_63 m_roundsBy_64 m_kind_65 m_figure_66 m_stepCount_67 m_steps_68 m_line_69 m_wentIn_70 l_readAt_71 l_verb_72 l_first_73 l_second_74 hc_75) (cwV 0 hts gX10_row_X10_carryOutStatements rfl rfl rfl (by decide +kernel) ⟨Nat.le_of_ble_eq_true rfl, Nat.le_of_ble_eq_true rfl⟩) (zPc.preV hK hE hP hD [0, 6, 7, 8, 10, 11, 12] rfl rfl (ci := 10) (q0 := 0) rfl rfl) rfl rfl hl.1 rfl (lv_room (Nat.le_of_ble_eq_true rfl)) dX10_row_33 ⟨Nat.le_of_ble_eq_true rfl, Nat.le_of_ble_eq_true rfl⟩) hP hD hS hA [0, 6, 7, 8, 10, 11, 12] rfl rfl rfl (fun H locs hP hD hS => ?_)
    refine lv_istore_n (lv' := [(1, .int (zi r_61)), (0, .ref ad_t)]) hx hb dX10_row_36 rfl hl (by decide) rfl (fun ls hl => ?_)
    refine lv_iload_n hx hb dX10_row_37 rfl (lv_at hl 0 rfl) ?_
    refine z_if_le (tgt := 52) hx hb dX10_row_38 (by decide) h (fun h => ?_) (fun h => ?_)
    · refine lv_aload_n hx hb dX10_row_52 rfl (lv_at hl 1 rfl) ?_
      refine va_get (D := (dC, dI)) (ci := 10) (v := .ref ad_l) (C := RX10) (T := TX10) (N := 10) hx hb hts in_X10_row_X10 hown hK hP 0 rfl rfl 5 (by decide) (hts _ q_X10_row_0) (fun _ h9 => h9) rfl dX10_row_53 ?_
      refine z_iconst hx hb dX10_row_56 ?_
      refine va_put (D := (dC, dI)) (ci := 4) (v := .int (zi 0)) (ty := .int) (C := RX4) (T := TX4) (N := 6) hx hb hts in_X10_row_X4 tyX4 tyX4_ok nmX4 hown hK hP hD hS 11 rfl rfl 1 (by decide) (hts _ q_X10_row_3) (fun _ h9 => h9) rfl (by decide +kernel) rfl rfl (Nat.le_of_ble_eq_true rfl) dX10_row_57 (fun H locs hP hD hS => ?_)
      have hP : va_P (dC, dI) vwCl [kX10 ad_t ad_t_strikers ad_n ad_m ad_k ad_l ad_e ad_t_toldOnes ad_t_refusals t_hasImage t_toldCount, kX8 ad_n ad_n_steps ad_n_line ad_n_gone ad_n_wentIn n_size n_there n_roundsBy n_kind n_figure n_stepCount, kI cA ad_n_steps 8 n_steps, kI cA ad_n_line 120 n_line, kI cA ad_n_gone 120 n_gone, kI cA ad_n_wentIn 121 n_wentIn, kX8 ad_m ad_m_steps ad_m_line ad_m_gone ad_m_wentIn m_size_62 m_there_63 m_roundsBy_64 m_kind_65 m_figure_66 m_stepCount_67, kI cA ad_m_steps 8 m_steps_68, kI cA ad_m_line 120 m_line_69, kI cA ad_m_gone 120 m_gone_58, kI cA ad_m_wentIn 121 m_wentIn_70, kX4 ad_l ad_l_signs 0 l_readAt_71 l_verb_72 l_first_73 l_second_74, kI cA ad_l_signs 48 l_signs] H := hP
      have hD : va_D A [kX10 ad_t ad_t_strikers ad_n ad_m ad_k ad_l ad_e ad_t_toldOnes ad_t_refusals t_hasImage t_toldCount, kX8 ad_n ad_n_steps ad_n_line ad_n_gone ad_n_wentIn n_size n_there n_roundsBy n_kind n_figure n_stepCount, kI cA ad_n_steps 8 n_steps, kI cA ad_n_line 120 n_line, kI cA ad_n_gone 120 n_gone, kI cA ad_n_wentIn 121 n_wentIn, kX8 ad_m ad_m_steps ad_m_line ad_m_gone ad_m_wentIn m_size_62 m_there_63 m_roundsBy_64 m_kind_65 m_figure_66 m_stepCount_67, kI cA ad_m_steps 8 m_steps_68, kI cA ad_m_line 120 m_line_69, kI cA ad_m_gone 120 m_gone_58, kI cA ad_m_wentIn 121 m_wentIn_70, kX4 ad_l ad_l_signs 0 l_readAt_71 l_verb_72 l_first_73 l_second_74, kI cA ad_l_signs 48 l_signs] := hD
      refine lv_iload_n hx hb dX10_row_60 rfl (lv_at hl 0 rfl) ?_
      cases h
      exact z_iret hx hb hr hlocks hP hD hS dX10_row_61
    · refine lv_aload_n hx hb dX10_row_41 rfl (lv_at hl 1 rfl) ?_
      refine va_get (D := (dC, dI)) (ci := 10) (v := .ref ad_n) (C := RX10) (T := TX10) (N := 10) hx hb hts in_X10_row_X10 hown hK hP 0 rfl rfl 1 (by decide) (hts _ q_X10_row_2) (fun _ h9 => h9) rfl dX10_row_42 ?_
      refine lv_aload_n hx hb dX10_row_45 rfl (lv_at hl 1 rfl) ?_
      refine va_get (D := (dC, dI)) (ci := 10) (v := .ref ad_m) (C := RX10) (T := TX10) (N := 10) hx hb hts in_X10_row_X10 hown hK hP 0 rfl rfl 2 (by decide) (hts _ q_X10_row_1) (fun _ h9 => h9) rfl dX10_row_46 ?_
      obtain ⟨⟨n_size_76, n_there_77, n_roundsBy_78, n_kind_79, n_figure_80, n_stepCount_81, n_steps_82, n_line_83, n_gone_84, n_wentIn_85⟩, hc_86, h⟩ := zb h
      try dsimp only at h
      refine z_callvU (wc := [kX8 ad_n ad_n_steps ad_n_line ad_n_gone ad_n_wentIn n_size n_there n_roundsBy n_kind n_figure n_stepCount, kI cA ad_n_steps 8 n_steps, kI cA ad_n_line 120 n_line, kI cA ad_n_gone 120 n_gone, kI cA ad_n_wentIn 121 n_wentIn, kX8 ad_m ad_m_steps ad_m_line ad_m_gone ad_m_wentIn m_size_62 m_there_63 m_roundsBy_64 m_kind_65 m_figure_66 m_stepCount_67, kI cA ad_m_steps 8 m_steps_68, kI cA ad_m_line 120 m_line_69, kI cA ad_m_gone 120 m_gone_58, kI cA ad_m_wentIn 121 m_wentIn_70]) (wc' := [kX8 ad_n ad_n_steps ad_n_line ad_n_gone ad_n_wentIn n_size_76 n_there_77 n_roundsBy_78 n_kind_79 n_figure_80 n_stepCount_81, kI cA ad_n_steps 8 n_steps_82, kI cA ad_n_line 120 n_line_83, kI cA ad_n_gone 120 n_gone_84, kI cA ad_n_wentIn 121 n_wentIn_85, kX8 ad_m ad_m_steps ad_m_line ad_m_gone ad_m_wentIn m_size_62 m_there_63 m_roundsBy_64 m_kind_65 m_figure_66 m_stepCount_67, kI cA ad_m_steps 8 m_steps_68, kI cA ad_m_line 120 m_line_69, kI cA ad_m_gone 120 m_gone_58, kI cA ad_m_wentIn 121 m_wentIn_70]) (ws' := [kX10 ad_t ad_t_strikers ad_n ad_m ad_k ad_l ad_e ad_t_toldOnes ad_t_refusals t_hasImage t_toldCount, kX8 ad_n ad_n_steps ad_n_line ad_n_gone ad_n_wentIn n_size_76 n_there_77 n_roundsBy_78 n_kind_79 n_figure_80 n_stepCount_81, kI cA ad_n_steps 8 n_steps_82, kI cA ad_n_line 120 n_line_83, kI cA ad_n_gone 120 n_gone_84, kI cA ad_n_wentIn 121 n_wentIn_85, kX8 ad_m ad_m_steps ad_m_line ad_m_gone ad_m_wentIn m_size_62 m_there_63 m_roundsBy_64 m_kind_65 m_figure_66 m_stepCount_67, kI cA ad_m_steps 8 m_steps_68, kI cA ad_m_line 120 m_line_69, kI cA ad_m_gone 120 m_gone_58, kI cA ad_m_wentIn 121 m_wentIn_70, kX4 ad_l ad_l_signs l_count l_readAt_71 l_verb_72 l_first_73 l_second_74, kI cA ad_l_signs 48 l_signs]) (va_runV (As := [.ref ad_m]) (rest := []) ⟨hx, hb, hml, hown, hts⟩ (c_X8_copyFrom l dC dI cA cN _ ad_n ad_n_steps ad_n_line ad_n_gone ad_n_wentIn ad_m ad_m_steps ad_m_line ad_m_gone ad_m_wentIn n_size n_there n_roundsBy n_kind n_figure n_stepCount m_size_62 m_there_63 m_roundsBy_64 m_kind_65 m_figure_66 m_stepCount_67 n_gone n_line n_steps n_wentIn m_gone_58 m_line_69 m_steps_68 m_wentIn_70 n_size_76 n_there_77 n_roundsBy_78 n_kind_79 n_figure_80 n_stepCount_81 n_steps_82 n_line_83 n_gone_84 n_wentIn_85 hc_86) (cwV 1 hts gX10_row_X8_copyFrom rfl rfl rfl (by decide +kernel) ⟨Nat.le_of_ble_eq_true rfl, Nat.le_of_ble_eq_true rfl⟩) (zPc.preV hK hE hP hD [1, 2, 3, 4, 5, 6, 7, 8, 9, 10] rfl rfl (ci := 8) (q0 := 1) rfl rfl) rfl rfl hl.1 rfl (lv_room (Nat.le_of_ble_eq_true rfl)) dX10_row_49 ⟨Nat.le_of_ble_eq_true rfl, Nat.le_of_ble_eq_true rfl⟩) hP hD hS hA [1, 2, 3, 4, 5, 6, 7, 8, 9, 10] rfl rfl rfl (fun H locs hP hD hS => ?_)
      refine lv_aload_n hx hb dX10_row_52 rfl (lv_at hl 1 rfl) ?_
      refine va_get (D := (dC, dI)) (ci := 10) (v := .ref ad_l) (C := RX10) (T := TX10) (N := 10) hx hb hts in_X10_row_X10 hown hK hP 0 rfl rfl 5 (by decide) (hts _ q_X10_row_0) (fun _ h9 => h9) rfl dX10_row_53 ?_
      refine z_iconst hx hb dX10_row_56 ?_
      refine va_put (D := (dC, dI)) (ci := 4) (v := .int (zi 0)) (ty := .int) (C := RX4) (T := TX4) (N := 6) hx hb hts in_X10_row_X4 tyX4 tyX4_ok nmX4 hown hK hP hD hS 11 rfl rfl 1 (by decide) (hts _ q_X10_row_3) (fun _ h9 => h9) rfl (by decide +kernel) rfl rfl (Nat.le_of_ble_eq_true rfl) dX10_row_57 (fun H locs hP hD hS => ?_)
      have hP : va_P (dC, dI) vwCl [kX10 ad_t ad_t_strikers ad_n ad_m ad_k ad_l ad_e ad_t_toldOnes ad_t_refusals t_hasImage t_toldCount, kX8 ad_n ad_n_steps ad_n_line ad_n_gone ad_n_wentIn n_size_76 n_there_77 n_roundsBy_78 n_kind_79 n_figure_80 n_stepCount_81, kI cA ad_n_steps 8 n_steps_82, kI cA ad_n_line 120 n_line_83, kI cA ad_n_gone 120 n_gone_84, kI cA ad_n_wentIn 121 n_wentIn_85, kX8 ad_m ad_m_steps ad_m_line ad_m_gone ad_m_wentIn m_size_62 m_there_63 m_roundsBy_64 m_kind_65 m_figure_66 m_stepCount_67, kI cA ad_m_steps 8 m_steps_68, kI cA ad_m_line 120 m_line_69, kI cA ad_m_gone 120 m_gone_58, kI cA ad_m_wentIn 121 m_wentIn_70, kX4 ad_l ad_l_signs 0 l_readAt_71 l_verb_72 l_first_73 l_second_74, kI cA ad_l_signs 48 l_signs] H := hP
      have hD : va_D A [kX10 ad_t ad_t_strikers ad_n ad_m ad_k ad_l ad_e ad_t_toldOnes ad_t_refusals t_hasImage t_toldCount, kX8 ad_n ad_n_steps ad_n_line ad_n_gone ad_n_wentIn n_size_76 n_there_77 n_roundsBy_78 n_kind_79 n_figure_80 n_stepCount_81, kI cA ad_n_steps 8 n_steps_82, kI cA ad_n_line 120 n_line_83, kI cA ad_n_gone 120 n_gone_84, kI cA ad_n_wentIn 121 n_wentIn_85, kX8 ad_m ad_m_steps ad_m_line ad_m_gone ad_m_wentIn m_size_62 m_there_63 m_roundsBy_64 m_kind_65 m_figure_66 m_stepCount_67, kI cA ad_m_steps 8 m_steps_68, kI cA ad_m_line 120 m_line_69, kI cA ad_m_gone 120 m_gone_58, kI cA ad_m_wentIn 121 m_wentIn_70, kX4 ad_l ad_l_signs 0 l_readAt_71 l_verb_72 l_first_73 l_second_74, kI cA ad_l_signs 48 l_signs] := hD
      refine lv_iload_n hx hb dX10_row_60 rfl (lv_at hl 0 rfl) ?_
      cases h
      exact z_iret hx hb hr hlocks hP hD hS dX10_row_61
  · refine z_sipush hx hb (by decide +kernel) dX10_row_12 ?_
    refine lv_iload_n hx hb dX10_row_15 rfl (lv_at hl 0 rfl) ?_
    refine z_isub hx hb dX10_row_16 ?_
    refine lv_istore_n (lv' := [(1, .int (zi ((-1000) - r_44))), (0, .ref ad_t)]) hx hb dX10_row_17 rfl hl (by decide) rfl (fun ls hl => ?_)
    refine lv_goto (tgt := 52) hx hb dX10_row_18 (by decide) ?_
    refine lv_aload_n hx hb dX10_row_52 rfl (lv_at hl 1 rfl) ?_
    refine va_get (D := (dC, dI)) (ci := 10) (v := .ref ad_l) (C := RX10) (T := TX10) (N := 10) hx hb hts in_X10_row_X10 hown hK hP 0 rfl rfl 5 (by decide) (hts _ q_X10_row_0) (fun _ h9 => h9) rfl dX10_row_53 ?_
    refine z_iconst hx hb dX10_row_56 ?_
    refine va_put (D := (dC, dI)) (ci := 4) (v := .int (zi 0)) (ty := .int) (C := RX4) (T := TX4) (N := 6) hx hb hts in_X10_row_X4 tyX4 tyX4_ok nmX4 hown hK hP hD hS 11 rfl rfl 1 (by decide) (hts _ q_X10_row_3) (fun _ h9 => h9) rfl (by decide +kernel) rfl rfl (Nat.le_of_ble_eq_true rfl) dX10_row_57 (fun H locs hP hD hS => ?_)
    have hP : va_P (dC, dI) vwCl [kX10 ad_t ad_t_strikers ad_n ad_m ad_k ad_l ad_e ad_t_toldOnes ad_t_refusals t_hasImage t_toldCount, kX8 ad_n ad_n_steps ad_n_line ad_n_gone ad_n_wentIn n_size n_there n_roundsBy n_kind n_figure n_stepCount, kI cA ad_n_steps 8 n_steps, kI cA ad_n_line 120 n_line, kI cA ad_n_gone 120 n_gone, kI cA ad_n_wentIn 121 n_wentIn, kX8 ad_m ad_m_steps ad_m_line ad_m_gone ad_m_wentIn m_size m_there m_roundsBy m_kind m_figure m_stepCount, kI cA ad_m_steps 8 m_steps, kI cA ad_m_line 120 m_line, kI cA ad_m_gone 120 m_gone, kI cA ad_m_wentIn 121 m_wentIn, kX4 ad_l ad_l_signs 0 l_readAt_45 l_verb_46 l_first_47 l_second_48, kI cA ad_l_signs 48 l_signs] H := hP
    have hD : va_D A [kX10 ad_t ad_t_strikers ad_n ad_m ad_k ad_l ad_e ad_t_toldOnes ad_t_refusals t_hasImage t_toldCount, kX8 ad_n ad_n_steps ad_n_line ad_n_gone ad_n_wentIn n_size n_there n_roundsBy n_kind n_figure n_stepCount, kI cA ad_n_steps 8 n_steps, kI cA ad_n_line 120 n_line, kI cA ad_n_gone 120 n_gone, kI cA ad_n_wentIn 121 n_wentIn, kX8 ad_m ad_m_steps ad_m_line ad_m_gone ad_m_wentIn m_size m_there m_roundsBy m_kind m_figure m_stepCount, kI cA ad_m_steps 8 m_steps, kI cA ad_m_line 120 m_line, kI cA ad_m_gone 120 m_gone, kI cA ad_m_wentIn 121 m_wentIn, kX4 ad_l ad_l_signs 0 l_readAt_45 l_verb_46 l_first_47 l_second_48, kI cA ad_l_signs 48 l_signs] := hD
    refine lv_iload_n hx hb dX10_row_60 rfl (lv_at hl 0 rfl) ?_
    cases h
    exact z_iret hx hb hr hlocks hP hD hS dX10_row_61
-- X10_setKind
theorem dX10_setKind_0 : decode cX10_setKind 0 = .ok (.iload_n 1, 1) := by decide +kernel
theorem dX10_setKind_1 : decode cX10_setKind 1 = .ok (.invokestatic 166, 3) := by decide +kernel
theorem dX10_setKind_4 : decode cX10_setKind 4 = .ok (.ifCond .ne 9, 3) := by decide +kernel
theorem dX10_setKind_7 : decode cX10_setKind 7 = .ok (.aload_n 0, 1) := by decide +kernel
theorem dX10_setKind_8 : decode cX10_setKind 8 = .ok (.iconst 2, 1) := by decide +kernel
theorem dX10_setKind_9 : decode cX10_setKind 9 = .ok (.invokevirtual 76, 3) := by decide +kernel
theorem dX10_setKind_12 : decode cX10_setKind 12 = .ok (.ireturn, 1) := by decide +kernel
theorem dX10_setKind_13 : decode cX10_setKind 13 = .ok (.aload_n 0, 1) := by decide +kernel
theorem dX10_setKind_14 : decode cX10_setKind 14 = .ok (.getfield 18, 3) := by decide +kernel
theorem dX10_setKind_17 : decode cX10_setKind 17 = .ok (.getfield 116, 3) := by decide +kernel
theorem dX10_setKind_20 : decode cX10_setKind 20 = .ok (.istore_n 2, 1) := by decide +kernel
theorem dX10_setKind_21 : decode cX10_setKind 21 = .ok (.aload_n 0, 1) := by decide +kernel
theorem dX10_setKind_22 : decode cX10_setKind 22 = .ok (.getfield 18, 3) := by decide +kernel
theorem dX10_setKind_25 : decode cX10_setKind 25 = .ok (.iload_n 1, 1) := by decide +kernel
theorem dX10_setKind_26 : decode cX10_setKind 26 = .ok (.putfield 116, 3) := by decide +kernel
theorem dX10_setKind_29 : decode cX10_setKind 29 = .ok (.iload_n 2, 1) := by decide +kernel
theorem dX10_setKind_30 : decode cX10_setKind 30 = .ok (.ireturn, 1) := by decide +kernel
set_option maxRecDepth 20000 in
theorem ggX10_setKind_X10_isKind : GoodIn wsX10_setKind wsX10_isKind := goodIn_r _ [6] rfl (by decide +kernel)
set_option maxRecDepth 20000 in
theorem gX10_setKind_X10_isKind : GoodIn wsX10_setKind (va_wsS RX10 166 yX10_isKind wsX10_isKind) := goodIn_app (goodIn_of _ (by decide +kernel)) ggX10_setKind_X10_isKind
set_option maxRecDepth 20000 in
theorem ggX10_setKind_X10_refuse : GoodIn wsX10_setKind wsX10_refuse := goodIn_r _ [10, 11, 12, 13, 14, 15, 16, 17, 18, 19, 20, 21] rfl (by decide +kernel)
set_option maxRecDepth 20000 in
theorem gX10_setKind_X10_refuse : GoodIn wsX10_setKind (wsV RX10 76 RX10 yX10_refuse wsX10_refuse) := goodIn_app (goodIn_of _ (by decide +kernel)) ggX10_setKind_X10_refuse
noncomputable def f_X10_setKind (v1 : Int) (t_refusals : Int → Int) (n_kind : Int) : Option (Int × (Int → Int) × Int) := (f_X10_isKind v1).bind (fun r_1 => zg (zR r_1) (if ¬ r_1 = 0 then some (n_kind, t_refusals, v1) else (f_X10_refuse 2 t_refusals).bind (fun (r_3, t_refusals_4) => some (r_3, t_refusals_4, n_kind))))
theorem q_X10_setKind_0 : Cond.fieldLink RX10 18 "EachSecondStruck" "now" "LEachSecondStruck$Standing;" ∈ wsX10_setKind := by decide +kernel
theorem q_X10_setKind_1 : Cond.fieldLink RX10 116 "EachSecondStruck$Standing" "kind" "I" ∈ wsX10_setKind := by decide +kernel
theorem in_X10_setKind_X10 : ∀ w ∈ u_ws RX10 TX10 10, w ∈ wsX10_setKind := by decide +kernel
theorem in_X10_setKind_X8 : ∀ w ∈ u_ws RX8 TX8 10, w ∈ wsX10_setKind := by decide +kernel
set_option maxHeartbeats 4000000 in
set_option maxRecDepth 100000 in
theorem c_X10_setKind (l : Launch) (dC : Nat → ClassId) (dI : Nat → Nat → Nat) (cA cN : ClassId) (sz : Nat) (ad_t : Nat) (ad_t_strikers : Nat) (ad_n : Nat) (ad_m : Nat) (ad_k : Nat) (ad_l : Nat) (ad_e : Nat) (ad_t_toldOnes : Nat) (ad_t_refusals : Nat) (ad_n_steps : Nat) (ad_n_line : Nat) (ad_n_gone : Nat) (ad_n_wentIn : Nat) (t_hasImage : Int) (t_toldCount : Int) (n_size : Int) (n_there : Int) (n_roundsBy : Int) (n_kind : Int) (n_figure : Int) (n_stepCount : Int) (t_refusals : Int → Int) (v1 : Int) (r0 : Int) (t_refusals9 : Int → Int) (n_kind9 : Int) (h : f_X10_setKind v1 t_refusals n_kind = some (r0, t_refusals9, n_kind9)) : Met l yX10_setKind wsX10_setKind { frames := 1, cells := 0, slots := 0, locals := 21 } (zPc (dC, dI) (zT cA cN) [kX10 ad_t ad_t_strikers ad_n ad_m ad_k ad_l ad_e ad_t_toldOnes ad_t_refusals t_hasImage t_toldCount, kI cA ad_t_refusals 7 t_refusals, kX8 ad_n ad_n_steps ad_n_line ad_n_gone ad_n_wentIn n_size n_there n_roundsBy n_kind n_figure n_stepCount] [.ref ad_t, .int (zi v1)] sz) (zQi (dC, dI) [kX10 ad_t ad_t_strikers ad_n ad_m ad_k ad_l ad_e ad_t_toldOnes ad_t_refusals t_hasImage t_toldCount, kI cA ad_t_refusals 7 t_refusals9, kX8 ad_n ad_n_steps ad_n_line ad_n_gone ad_n_wentIn n_size n_there n_roundsBy n_kind9 n_figure n_stepCount] r0 (va_A [kX10 ad_t ad_t_strikers ad_n ad_m ad_k ad_l ad_e ad_t_toldOnes ad_t_refusals t_hasImage t_toldCount, kI cA ad_t_refusals 7 t_refusals, kX8 ad_n ad_n_steps ad_n_line ad_n_gone ad_n_wentIn n_size n_there n_roundsBy n_kind n_figure n_stepCount] sz)) 0 0 (va_A [kX10 ad_t ad_t_strikers ad_n ad_m ad_k ad_l ad_e ad_t_toldOnes ad_t_refusals t_hasImage t_toldCount, kI cA ad_t_refusals 7 t_refusals, kX8 ad_n ad_n_steps ad_n_line ad_n_gone ad_n_wentIn n_size n_there n_roundsBy n_kind n_figure n_stepCount] sz) := by
  refine z_ofW (QF := fun A => zQi (dC, dI) [kX10 ad_t ad_t_strikers ad_n ad_m ad_k ad_l ad_e ad_t_toldOnes ad_t_refusals t_hasImage t_toldCount, kI cA ad_t_refusals 7 t_refusals9, kX8 ad_n ad_n_steps ad_n_line ad_n_gone ad_n_wentIn n_size n_there n_roundsBy n_kind9 n_figure n_stepCount] r0 A) (by decide) rfl (Nat.le_of_ble_eq_true rfl) ?_
  intro p e s m below meth c ls A hx hb hml hr hlocks hnm hts hown hK hP hD hE hsz hA hS hl
  have hl : lv_has ls 3 [(0, .ref ad_t), (1, .int (zi v1))] := hl
  unfold f_X10_setKind at h
  refine lv_iload_n hx hb dX10_setKind_0 rfl (lv_at hl 1 rfl) ?_
  obtain ⟨r_6, hc_7, h⟩ := zb h
  try dsimp only at h
  refine z_calliU (wc := []) (wc' := []) (ws' := [kX10 ad_t ad_t_strikers ad_n ad_m ad_k ad_l ad_e ad_t_toldOnes ad_t_refusals t_hasImage t_toldCount, kI cA ad_t_refusals 7 t_refusals, kX8 ad_n ad_n_steps ad_n_line ad_n_gone ad_n_wentIn n_size n_there n_roundsBy n_kind n_figure n_stepCount]) (va_runS (As := [.int (zi v1)]) (rest := []) ⟨hx, hb, hml, hown, hts⟩ (c_X10_isKind l dC dI cA cN _ v1 r_6 hc_7) (va_cwS 1 hts gX10_setKind_X10_isKind rfl rfl rfl (by decide +kernel) ⟨Nat.le_of_ble_eq_true rfl, Nat.le_of_ble_eq_true rfl⟩) (zPc.pre hK hE hP hD [] rfl rfl) rfl rfl hl.1 rfl (lv_room (Nat.le_of_ble_eq_true rfl)) dX10_setKind_1 ⟨Nat.le_of_ble_eq_true rfl, Nat.le_of_ble_eq_true rfl⟩) hP hD hS hA [] rfl rfl rfl (fun H locs hP hD hS => ?_)
  refine z_if_ne (tgt := 13) hx hb dX10_setKind_4 (by decide) h (fun h => ?_) (fun h => ?_)
  · refine lv_aload_n hx hb dX10_setKind_13 rfl (lv_at hl 0 rfl) ?_
    refine va_get (D := (dC, dI)) (ci := 10) (v := .ref ad_n) (C := RX10) (T := TX10) (N := 10) hx hb hts in_X10_setKind_X10 hown hK hP 0 rfl rfl 1 (by decide) (hts _ q_X10_setKind_0) (fun _ h9 => h9) rfl dX10_setKind_14 ?_
    refine va_get (D := (dC, dI)) (ci := 8) (v := .int (zi n_kind)) (C := RX8) (T := TX8) (N := 10) hx hb hts in_X10_setKind_X8 hown hK hP 2 rfl rfl 3 (by decide) (hts _ q_X10_setKind_1) (fun _ h9 => h9) rfl dX10_setKind_17 ?_
    refine lv_istore_n (lv' := [(2, .int (zi n_kind)), (0, .ref ad_t), (1, .int (zi v1))]) hx hb dX10_setKind_20 rfl hl (by decide) rfl (fun ls hl => ?_)
    refine lv_aload_n hx hb dX10_setKind_21 rfl (lv_at hl 1 rfl) ?_
    refine va_get (D := (dC, dI)) (ci := 10) (v := .ref ad_n) (C := RX10) (T := TX10) (N := 10) hx hb hts in_X10_setKind_X10 hown hK hP 0 rfl rfl 1 (by decide) (hts _ q_X10_setKind_0) (fun _ h9 => h9) rfl dX10_setKind_22 ?_
    refine lv_iload_n hx hb dX10_setKind_25 rfl (lv_at hl 2 rfl) ?_
    refine va_put (D := (dC, dI)) (ci := 8) (v := .int (zi v1)) (ty := .int) (C := RX8) (T := TX8) (N := 10) hx hb hts in_X10_setKind_X8 tyX8 tyX8_ok nmX8 hown hK hP hD hS 2 rfl rfl 3 (by decide) (hts _ q_X10_setKind_1) (fun _ h9 => h9) rfl (by decide +kernel) rfl rfl (Nat.le_of_ble_eq_true rfl) dX10_setKind_26 (fun H locs hP hD hS => ?_)
    have hP : va_P (dC, dI) vwCl [kX10 ad_t ad_t_strikers ad_n ad_m ad_k ad_l ad_e ad_t_toldOnes ad_t_refusals t_hasImage t_toldCount, kI cA ad_t_refusals 7 t_refusals, kX8 ad_n ad_n_steps ad_n_line ad_n_gone ad_n_wentIn n_size n_there n_roundsBy v1 n_figure n_stepCount] H := hP
    have hD : va_D A [kX10 ad_t ad_t_strikers ad_n ad_m ad_k ad_l ad_e ad_t_toldOnes ad_t_refusals t_hasImage t_toldCount, kI cA ad_t_refusals 7 t_refusals, kX8 ad_n ad_n_steps ad_n_line ad_n_gone ad_n_wentIn n_size n_there n_roundsBy v1 n_figure n_stepCount] := hD
    refine lv_iload_n hx hb dX10_setKind_29 rfl (lv_at hl 0 rfl) ?_
    cases h
    exact z_iret hx hb hr hlocks hP hD hS dX10_setKind_30
  · refine lv_aload_n hx hb dX10_setKind_7 rfl (lv_at hl 0 rfl) ?_
    refine z_iconst hx hb dX10_setKind_8 ?_
    obtain ⟨⟨r_8, t_refusals_9⟩, hc_10, h⟩ := zb h
    try dsimp only at h
    refine z_calliU (wc := [kX10 ad_t ad_t_strikers ad_n ad_m ad_k ad_l ad_e ad_t_toldOnes ad_t_refusals t_hasImage t_toldCount, kI cA ad_t_refusals 7 t_refusals]) (wc' := [kX10 ad_t ad_t_strikers ad_n ad_m ad_k ad_l ad_e ad_t_toldOnes ad_t_refusals t_hasImage t_toldCount, kI cA ad_t_refusals 7 t_refusals_9]) (ws' := [kX10 ad_t ad_t_strikers ad_n ad_m ad_k ad_l ad_e ad_t_toldOnes ad_t_refusals t_hasImage t_toldCount, kI cA ad_t_refusals 7 t_refusals_9, kX8 ad_n ad_n_steps ad_n_line ad_n_gone ad_n_wentIn n_size n_there n_roundsBy n_kind n_figure n_stepCount]) (va_runV (As := [.int (zi 2)]) (rest := []) ⟨hx, hb, hml, hown, hts⟩ (c_X10_refuse l dC dI cA cN _ ad_t ad_t_strikers ad_n ad_m ad_k ad_l ad_e ad_t_toldOnes ad_t_refusals t_hasImage t_toldCount t_refusals 2 r_8 t_refusals_9 hc_10) (cwV 1 hts gX10_setKind_X10_refuse rfl rfl rfl (by decide +kernel) ⟨Nat.le_of_ble_eq_true rfl, Nat.le_of_ble_eq_true rfl⟩) (zPc.preV hK hE hP hD [0, 1] rfl rfl (ci := 10) (q0 := 0) rfl rfl) rfl rfl hl.1 rfl (lv_room (Nat.le_of_ble_eq_true rfl)) dX10_setKind_9 ⟨Nat.le_of_ble_eq_true rfl, Nat.le_of_ble_eq_true rfl⟩) hP hD hS hA [0, 1] rfl rfl rfl (fun H locs hP hD hS => ?_)
    cases h
    exact z_iret hx hb hr hlocks hP hD hS dX10_setKind_12
-- X10_setFigure
theorem dX10_setFigure_0 : decode cX10_setFigure 0 = .ok (.iload_n 1, 1) := by decide +kernel
theorem dX10_setFigure_1 : decode cX10_setFigure 1 = .ok (.iconst 2, 1) := by decide +kernel
theorem dX10_setFigure_2 : decode cX10_setFigure 2 = .ok (.if_icmp .ge 9, 3) := by decide +kernel
theorem dX10_setFigure_5 : decode cX10_setFigure 5 = .ok (.aload_n 0, 1) := by decide +kernel
theorem dX10_setFigure_6 : decode cX10_setFigure 6 = .ok (.iconst 4, 1) := by decide +kernel
theorem dX10_setFigure_7 : decode cX10_setFigure 7 = .ok (.invokevirtual 76, 3) := by decide +kernel
theorem dX10_setFigure_10 : decode cX10_setFigure 10 = .ok (.ireturn, 1) := by decide +kernel
theorem dX10_setFigure_11 : decode cX10_setFigure 11 = .ok (.iload_n 1, 1) := by decide +kernel
theorem dX10_setFigure_12 : decode cX10_setFigure 12 = .ok (.bipush 9, 2) := by decide +kernel
theorem dX10_setFigure_14 : decode cX10_setFigure 14 = .ok (.if_icmp .le 10, 3) := by decide +kernel
theorem dX10_setFigure_17 : decode cX10_setFigure 17 = .ok (.aload_n 0, 1) := by decide +kernel
theorem dX10_setFigure_18 : decode cX10_setFigure 18 = .ok (.bipush 6, 2) := by decide +kernel
theorem dX10_setFigure_20 : decode cX10_setFigure 20 = .ok (.invokevirtual 76, 3) := by decide +kernel
theorem dX10_setFigure_23 : decode cX10_setFigure 23 = .ok (.ireturn, 1) := by decide +kernel
theorem dX10_setFigure_24 : decode cX10_setFigure 24 = .ok (.aload_n 0, 1) := by decide +kernel
theorem dX10_setFigure_25 : decode cX10_setFigure 25 = .ok (.getfield 18, 3) := by decide +kernel
theorem dX10_setFigure_28 : decode cX10_setFigure 28 = .ok (.getfield 68, 3) := by decide +kernel
theorem dX10_setFigure_31 : decode cX10_setFigure 31 = .ok (.istore_n 2, 1) := by decide +kernel
theorem dX10_setFigure_32 : decode cX10_setFigure 32 = .ok (.aload_n 0, 1) := by decide +kernel
theorem dX10_setFigure_33 : decode cX10_setFigure 33 = .ok (.getfield 18, 3) := by decide +kernel
theorem dX10_setFigure_36 : decode cX10_setFigure 36 = .ok (.iload_n 1, 1) := by decide +kernel
theorem dX10_setFigure_37 : decode cX10_setFigure 37 = .ok (.putfield 68, 3) := by decide +kernel
theorem dX10_setFigure_40 : decode cX10_setFigure 40 = .ok (.iload_n 2, 1) := by decide +kernel
theorem dX10_setFigure_41 : decode cX10_setFigure 41 = .ok (.ireturn, 1) := by decide +kernel
set_option maxRecDepth 20000 in
theorem ggX10_setFigure_X10_refuse : GoodIn wsX10_setFigure wsX10_refuse := goodIn_r _ [7, 8, 9, 10, 11, 12, 13, 14, 15, 16, 17, 18] rfl (by decide +kernel)
set_option maxRecDepth 20000 in
theorem gX10_setFigure_X10_refuse : GoodIn wsX10_setFigure (wsV RX10 76 RX10 yX10_refuse wsX10_refuse) := goodIn_app (goodIn_of _ (by decide +kernel)) ggX10_setFigure_X10_refuse
noncomputable def f_X10_setFigure (v1 : Int) (t_refusals : Int → Int) (n_figure : Int) : Option (Int × (Int → Int) × Int) := zg (zR v1) (if 2 ≤ v1 then zg (zR v1) (if v1 ≤ 9 then some (n_figure, t_refusals, v1) else (f_X10_refuse 6 t_refusals).bind (fun (r_1, t_refusals_2) => some (r_1, t_refusals_2, n_figure))) else (f_X10_refuse 4 t_refusals).bind (fun (r_4, t_refusals_5) => some (r_4, t_refusals_5, n_figure)))
theorem q_X10_setFigure_0 : Cond.fieldLink RX10 18 "EachSecondStruck" "now" "LEachSecondStruck$Standing;" ∈ wsX10_setFigure := by decide +kernel
theorem q_X10_setFigure_1 : Cond.fieldLink RX10 68 "EachSecondStruck$Standing" "figure" "I" ∈ wsX10_setFigure := by decide +kernel
theorem in_X10_setFigure_X10 : ∀ w ∈ u_ws RX10 TX10 10, w ∈ wsX10_setFigure := by decide +kernel
theorem in_X10_setFigure_X8 : ∀ w ∈ u_ws RX8 TX8 10, w ∈ wsX10_setFigure := by decide +kernel
set_option maxHeartbeats 4000000 in
set_option maxRecDepth 100000 in
theorem c_X10_setFigure (l : Launch) (dC : Nat → ClassId) (dI : Nat → Nat → Nat) (cA cN : ClassId) (sz : Nat) (ad_t : Nat) (ad_t_strikers : Nat) (ad_n : Nat) (ad_m : Nat) (ad_k : Nat) (ad_l : Nat) (ad_e : Nat) (ad_t_toldOnes : Nat) (ad_t_refusals : Nat) (ad_n_steps : Nat) (ad_n_line : Nat) (ad_n_gone : Nat) (ad_n_wentIn : Nat) (t_hasImage : Int) (t_toldCount : Int) (n_size : Int) (n_there : Int) (n_roundsBy : Int) (n_kind : Int) (n_figure : Int) (n_stepCount : Int) (t_refusals : Int → Int) (v1 : Int) (r0 : Int) (t_refusals9 : Int → Int) (n_figure9 : Int) (h : f_X10_setFigure v1 t_refusals n_figure = some (r0, t_refusals9, n_figure9)) : Met l yX10_setFigure wsX10_setFigure { frames := 1, cells := 0, slots := 0, locals := 21 } (zPc (dC, dI) (zT cA cN) [kX10 ad_t ad_t_strikers ad_n ad_m ad_k ad_l ad_e ad_t_toldOnes ad_t_refusals t_hasImage t_toldCount, kI cA ad_t_refusals 7 t_refusals, kX8 ad_n ad_n_steps ad_n_line ad_n_gone ad_n_wentIn n_size n_there n_roundsBy n_kind n_figure n_stepCount] [.ref ad_t, .int (zi v1)] sz) (zQi (dC, dI) [kX10 ad_t ad_t_strikers ad_n ad_m ad_k ad_l ad_e ad_t_toldOnes ad_t_refusals t_hasImage t_toldCount, kI cA ad_t_refusals 7 t_refusals9, kX8 ad_n ad_n_steps ad_n_line ad_n_gone ad_n_wentIn n_size n_there n_roundsBy n_kind n_figure9 n_stepCount] r0 (va_A [kX10 ad_t ad_t_strikers ad_n ad_m ad_k ad_l ad_e ad_t_toldOnes ad_t_refusals t_hasImage t_toldCount, kI cA ad_t_refusals 7 t_refusals, kX8 ad_n ad_n_steps ad_n_line ad_n_gone ad_n_wentIn n_size n_there n_roundsBy n_kind n_figure n_stepCount] sz)) 0 0 (va_A [kX10 ad_t ad_t_strikers ad_n ad_m ad_k ad_l ad_e ad_t_toldOnes ad_t_refusals t_hasImage t_toldCount, kI cA ad_t_refusals 7 t_refusals, kX8 ad_n ad_n_steps ad_n_line ad_n_gone ad_n_wentIn n_size n_there n_roundsBy n_kind n_figure n_stepCount] sz) := by
  refine z_ofW (QF := fun A => zQi (dC, dI) [kX10 ad_t ad_t_strikers ad_n ad_m ad_k ad_l ad_e ad_t_toldOnes ad_t_refusals t_hasImage t_toldCount, kI cA ad_t_refusals 7 t_refusals9, kX8 ad_n ad_n_steps ad_n_line ad_n_gone ad_n_wentIn n_size n_there n_roundsBy n_kind n_figure9 n_stepCount] r0 A) (by decide) rfl (Nat.le_of_ble_eq_true rfl) ?_
  intro p e s m below meth c ls A hx hb hml hr hlocks hnm hts hown hK hP hD hE hsz hA hS hl
  have hl : lv_has ls 3 [(0, .ref ad_t), (1, .int (zi v1))] := hl
  unfold f_X10_setFigure at h
  refine lv_iload_n hx hb dX10_setFigure_0 rfl (lv_at hl 1 rfl) ?_
  refine z_iconst hx hb dX10_setFigure_1 ?_
  refine z_icmp_ge (tgt := 11) hx hb dX10_setFigure_2 (by decide) h (fun q => ⟨q, by decide⟩) (fun h => ?_) (fun h => ?_)
  · refine lv_iload_n hx hb dX10_setFigure_11 rfl (lv_at hl 1 rfl) ?_
    refine z_bipush hx hb (by decide +kernel) dX10_setFigure_12 ?_
    refine z_icmp_le (tgt := 24) hx hb dX10_setFigure_14 (by decide) h (fun q => ⟨q, by decide⟩) (fun h => ?_) (fun h => ?_)
    · refine lv_aload_n hx hb dX10_setFigure_24 rfl (lv_at hl 0 rfl) ?_
      refine va_get (D := (dC, dI)) (ci := 10) (v := .ref ad_n) (C := RX10) (T := TX10) (N := 10) hx hb hts in_X10_setFigure_X10 hown hK hP 0 rfl rfl 1 (by decide) (hts _ q_X10_setFigure_0) (fun _ h9 => h9) rfl dX10_setFigure_25 ?_
      refine va_get (D := (dC, dI)) (ci := 8) (v := .int (zi n_figure)) (C := RX8) (T := TX8) (N := 10) hx hb hts in_X10_setFigure_X8 hown hK hP 2 rfl rfl 4 (by decide) (hts _ q_X10_setFigure_1) (fun _ h9 => h9) rfl dX10_setFigure_28 ?_
      refine lv_istore_n (lv' := [(2, .int (zi n_figure)), (0, .ref ad_t), (1, .int (zi v1))]) hx hb dX10_setFigure_31 rfl hl (by decide) rfl (fun ls hl => ?_)
      refine lv_aload_n hx hb dX10_setFigure_32 rfl (lv_at hl 1 rfl) ?_
      refine va_get (D := (dC, dI)) (ci := 10) (v := .ref ad_n) (C := RX10) (T := TX10) (N := 10) hx hb hts in_X10_setFigure_X10 hown hK hP 0 rfl rfl 1 (by decide) (hts _ q_X10_setFigure_0) (fun _ h9 => h9) rfl dX10_setFigure_33 ?_
      refine lv_iload_n hx hb dX10_setFigure_36 rfl (lv_at hl 2 rfl) ?_
      refine va_put (D := (dC, dI)) (ci := 8) (v := .int (zi v1)) (ty := .int) (C := RX8) (T := TX8) (N := 10) hx hb hts in_X10_setFigure_X8 tyX8 tyX8_ok nmX8 hown hK hP hD hS 2 rfl rfl 4 (by decide) (hts _ q_X10_setFigure_1) (fun _ h9 => h9) rfl (by decide +kernel) rfl rfl (Nat.le_of_ble_eq_true rfl) dX10_setFigure_37 (fun H locs hP hD hS => ?_)
      have hP : va_P (dC, dI) vwCl [kX10 ad_t ad_t_strikers ad_n ad_m ad_k ad_l ad_e ad_t_toldOnes ad_t_refusals t_hasImage t_toldCount, kI cA ad_t_refusals 7 t_refusals, kX8 ad_n ad_n_steps ad_n_line ad_n_gone ad_n_wentIn n_size n_there n_roundsBy n_kind v1 n_stepCount] H := hP
      have hD : va_D A [kX10 ad_t ad_t_strikers ad_n ad_m ad_k ad_l ad_e ad_t_toldOnes ad_t_refusals t_hasImage t_toldCount, kI cA ad_t_refusals 7 t_refusals, kX8 ad_n ad_n_steps ad_n_line ad_n_gone ad_n_wentIn n_size n_there n_roundsBy n_kind v1 n_stepCount] := hD
      refine lv_iload_n hx hb dX10_setFigure_40 rfl (lv_at hl 0 rfl) ?_
      cases h
      exact z_iret hx hb hr hlocks hP hD hS dX10_setFigure_41
    · refine lv_aload_n hx hb dX10_setFigure_17 rfl (lv_at hl 0 rfl) ?_
      refine z_bipush hx hb (by decide +kernel) dX10_setFigure_18 ?_
      obtain ⟨⟨r_7, t_refusals_8⟩, hc_9, h⟩ := zb h
      try dsimp only at h
      refine z_calliU (wc := [kX10 ad_t ad_t_strikers ad_n ad_m ad_k ad_l ad_e ad_t_toldOnes ad_t_refusals t_hasImage t_toldCount, kI cA ad_t_refusals 7 t_refusals]) (wc' := [kX10 ad_t ad_t_strikers ad_n ad_m ad_k ad_l ad_e ad_t_toldOnes ad_t_refusals t_hasImage t_toldCount, kI cA ad_t_refusals 7 t_refusals_8]) (ws' := [kX10 ad_t ad_t_strikers ad_n ad_m ad_k ad_l ad_e ad_t_toldOnes ad_t_refusals t_hasImage t_toldCount, kI cA ad_t_refusals 7 t_refusals_8, kX8 ad_n ad_n_steps ad_n_line ad_n_gone ad_n_wentIn n_size n_there n_roundsBy n_kind n_figure n_stepCount]) (va_runV (As := [.int (zi 6)]) (rest := []) ⟨hx, hb, hml, hown, hts⟩ (c_X10_refuse l dC dI cA cN _ ad_t ad_t_strikers ad_n ad_m ad_k ad_l ad_e ad_t_toldOnes ad_t_refusals t_hasImage t_toldCount t_refusals 6 r_7 t_refusals_8 hc_9) (cwV 1 hts gX10_setFigure_X10_refuse rfl rfl rfl (by decide +kernel) ⟨Nat.le_of_ble_eq_true rfl, Nat.le_of_ble_eq_true rfl⟩) (zPc.preV hK hE hP hD [0, 1] rfl rfl (ci := 10) (q0 := 0) rfl rfl) rfl rfl hl.1 rfl (lv_room (Nat.le_of_ble_eq_true rfl)) dX10_setFigure_20 ⟨Nat.le_of_ble_eq_true rfl, Nat.le_of_ble_eq_true rfl⟩) hP hD hS hA [0, 1] rfl rfl rfl (fun H locs hP hD hS => ?_)
      cases h
      exact z_iret hx hb hr hlocks hP hD hS dX10_setFigure_23
  · refine lv_aload_n hx hb dX10_setFigure_5 rfl (lv_at hl 0 rfl) ?_
    refine z_iconst hx hb dX10_setFigure_6 ?_
    obtain ⟨⟨r_10, t_refusals_11⟩, hc_12, h⟩ := zb h
    try dsimp only at h
    refine z_calliU (wc := [kX10 ad_t ad_t_strikers ad_n ad_m ad_k ad_l ad_e ad_t_toldOnes ad_t_refusals t_hasImage t_toldCount, kI cA ad_t_refusals 7 t_refusals]) (wc' := [kX10 ad_t ad_t_strikers ad_n ad_m ad_k ad_l ad_e ad_t_toldOnes ad_t_refusals t_hasImage t_toldCount, kI cA ad_t_refusals 7 t_refusals_11]) (ws' := [kX10 ad_t ad_t_strikers ad_n ad_m ad_k ad_l ad_e ad_t_toldOnes ad_t_refusals t_hasImage t_toldCount, kI cA ad_t_refusals 7 t_refusals_11, kX8 ad_n ad_n_steps ad_n_line ad_n_gone ad_n_wentIn n_size n_there n_roundsBy n_kind n_figure n_stepCount]) (va_runV (As := [.int (zi 4)]) (rest := []) ⟨hx, hb, hml, hown, hts⟩ (c_X10_refuse l dC dI cA cN _ ad_t ad_t_strikers ad_n ad_m ad_k ad_l ad_e ad_t_toldOnes ad_t_refusals t_hasImage t_toldCount t_refusals 4 r_10 t_refusals_11 hc_12) (cwV 1 hts gX10_setFigure_X10_refuse rfl rfl rfl (by decide +kernel) ⟨Nat.le_of_ble_eq_true rfl, Nat.le_of_ble_eq_true rfl⟩) (zPc.preV hK hE hP hD [0, 1] rfl rfl (ci := 10) (q0 := 0) rfl rfl) rfl rfl hl.1 rfl (lv_room (Nat.le_of_ble_eq_true rfl)) dX10_setFigure_7 ⟨Nat.le_of_ble_eq_true rfl, Nat.le_of_ble_eq_true rfl⟩) hP hD hS hA [0, 1] rfl rfl rfl (fun H locs hP hD hS => ?_)
    cases h
    exact z_iret hx hb hr hlocks hP hD hS dX10_setFigure_10
-- X10_set
theorem dX10_set_0 : decode cX10_set 0 = .ok (.iload_n 1, 1) := by decide +kernel
theorem dX10_set_1 : decode cX10_set 1 = .ok (.ifCond .lt 8, 3) := by decide +kernel
theorem dX10_set_4 : decode cX10_set 4 = .ok (.iload_n 1, 1) := by decide +kernel
theorem dX10_set_5 : decode cX10_set 5 = .ok (.iconst 1, 1) := by decide +kernel
theorem dX10_set_6 : decode cX10_set 6 = .ok (.if_icmp .le 9, 3) := by decide +kernel
theorem dX10_set_9 : decode cX10_set 9 = .ok (.aload_n 0, 1) := by decide +kernel
theorem dX10_set_10 : decode cX10_set 10 = .ok (.iconst 2, 1) := by decide +kernel
theorem dX10_set_11 : decode cX10_set 11 = .ok (.invokevirtual 76, 3) := by decide +kernel
theorem dX10_set_14 : decode cX10_set 14 = .ok (.ireturn, 1) := by decide +kernel
theorem dX10_set_15 : decode cX10_set 15 = .ok (.iload_n 1, 1) := by decide +kernel
theorem dX10_set_16 : decode cX10_set 16 = .ok (.ifCond .ne 9, 3) := by decide +kernel
theorem dX10_set_19 : decode cX10_set 19 = .ok (.aload_n 0, 1) := by decide +kernel
theorem dX10_set_20 : decode cX10_set 20 = .ok (.iload_n 2, 1) := by decide +kernel
theorem dX10_set_21 : decode cX10_set 21 = .ok (.invokevirtual 97, 3) := by decide +kernel
theorem dX10_set_24 : decode cX10_set 24 = .ok (.ireturn, 1) := by decide +kernel
theorem dX10_set_25 : decode cX10_set 25 = .ok (.aload_n 0, 1) := by decide +kernel
theorem dX10_set_26 : decode cX10_set 26 = .ok (.iload_n 2, 1) := by decide +kernel
theorem dX10_set_27 : decode cX10_set 27 = .ok (.invokevirtual 100, 3) := by decide +kernel
theorem dX10_set_30 : decode cX10_set 30 = .ok (.ireturn, 1) := by decide +kernel
set_option maxRecDepth 20000 in
theorem ggX10_set_X10_refuse : GoodIn wsX10_set wsX10_refuse := goodIn_r _ [5, 6, 21, 22, 23, 24, 25, 26, 27, 28, 29, 30] rfl (by decide +kernel)
set_option maxRecDepth 20000 in
theorem gX10_set_X10_refuse : GoodIn wsX10_set (wsV RX10 76 RX10 yX10_refuse wsX10_refuse) := goodIn_app (goodIn_of _ (by decide +kernel)) ggX10_set_X10_refuse
set_option maxRecDepth 20000 in
theorem ggX10_set_X10_setKind : GoodIn wsX10_set wsX10_setKind := goodIn_r _ [10, 11, 12, 13, 14, 4, 15, 1, 2, 3, 5, 6, 21, 22, 23, 24, 25, 26, 27, 28, 29, 30, 31, 32, 33, 34, 35, 36, 37, 38, 39, 40] rfl (by decide +kernel)
set_option maxRecDepth 20000 in
theorem gX10_set_X10_setKind : GoodIn wsX10_set (wsV RX10 97 RX10 yX10_setKind wsX10_setKind) := goodIn_app (goodIn_of _ (by decide +kernel)) ggX10_set_X10_setKind
set_option maxRecDepth 20000 in
theorem ggX10_set_X10_setFigure : GoodIn wsX10_set wsX10_setFigure := goodIn_r _ [19, 11, 20, 1, 2, 3, 4, 5, 6, 21, 22, 23, 24, 25, 26, 27, 28, 29, 30, 31, 32, 33, 34, 35, 36, 37, 38, 39, 40] rfl (by decide +kernel)
set_option maxRecDepth 20000 in
theorem gX10_set_X10_setFigure : GoodIn wsX10_set (wsV RX10 100 RX10 yX10_setFigure wsX10_setFigure) := goodIn_app (goodIn_of _ (by decide +kernel)) ggX10_set_X10_setFigure
noncomputable def f_X10_set_J9 (t_refusals : Int → Int) (n_kind : Int) (n_figure : Int) : Option (Int × (Int → Int) × Int × Int) := (f_X10_refuse 2 t_refusals).bind (fun (r_1, t_refusals_2) => some (r_1, t_refusals_2, n_kind, n_figure))
noncomputable def f_X10_set (v1 : Int) (v2 : Int) (t_refusals : Int → Int) (n_kind : Int) (n_figure : Int) : Option (Int × (Int → Int) × Int × Int) := zg (zR v1) (if v1 < 0 then f_X10_set_J9 t_refusals n_kind n_figure else zg (zR v1) (if v1 ≤ 1 then zg (zR v1) (if ¬ v1 = 0 then (f_X10_setFigure v2 t_refusals n_figure).bind (fun (r_4, t_refusals_5, n_figure_6) => some (r_4, t_refusals_5, n_kind, n_figure_6)) else (f_X10_setKind v2 t_refusals n_kind).bind (fun (r_8, t_refusals_9, n_kind_10) => some (r_8, t_refusals_9, n_kind_10, n_figure))) else f_X10_set_J9 t_refusals n_kind n_figure))
set_option maxHeartbeats 4000000 in
set_option maxRecDepth 100000 in
theorem c_X10_set (l : Launch) (dC : Nat → ClassId) (dI : Nat → Nat → Nat) (cA cN : ClassId) (sz : Nat) (ad_t : Nat) (ad_t_strikers : Nat) (ad_n : Nat) (ad_m : Nat) (ad_k : Nat) (ad_l : Nat) (ad_e : Nat) (ad_t_toldOnes : Nat) (ad_t_refusals : Nat) (ad_n_steps : Nat) (ad_n_line : Nat) (ad_n_gone : Nat) (ad_n_wentIn : Nat) (t_hasImage : Int) (t_toldCount : Int) (n_size : Int) (n_there : Int) (n_roundsBy : Int) (n_kind : Int) (n_figure : Int) (n_stepCount : Int) (t_refusals : Int → Int) (v1 : Int) (v2 : Int) (r0 : Int) (t_refusals9 : Int → Int) (n_kind9 : Int) (n_figure9 : Int) (h : f_X10_set v1 v2 t_refusals n_kind n_figure = some (r0, t_refusals9, n_kind9, n_figure9)) : Met l yX10_set wsX10_set { frames := 2, cells := 0, slots := 0, locals := 43 } (zPc (dC, dI) (zT cA cN) [kX10 ad_t ad_t_strikers ad_n ad_m ad_k ad_l ad_e ad_t_toldOnes ad_t_refusals t_hasImage t_toldCount, kI cA ad_t_refusals 7 t_refusals, kX8 ad_n ad_n_steps ad_n_line ad_n_gone ad_n_wentIn n_size n_there n_roundsBy n_kind n_figure n_stepCount] [.ref ad_t, .int (zi v1), .int (zi v2)] sz) (zQi (dC, dI) [kX10 ad_t ad_t_strikers ad_n ad_m ad_k ad_l ad_e ad_t_toldOnes ad_t_refusals t_hasImage t_toldCount, kI cA ad_t_refusals 7 t_refusals9, kX8 ad_n ad_n_steps ad_n_line ad_n_gone ad_n_wentIn n_size n_there n_roundsBy n_kind9 n_figure9 n_stepCount] r0 (va_A [kX10 ad_t ad_t_strikers ad_n ad_m ad_k ad_l ad_e ad_t_toldOnes ad_t_refusals t_hasImage t_toldCount, kI cA ad_t_refusals 7 t_refusals, kX8 ad_n ad_n_steps ad_n_line ad_n_gone ad_n_wentIn n_size n_there n_roundsBy n_kind n_figure n_stepCount] sz)) 0 0 (va_A [kX10 ad_t ad_t_strikers ad_n ad_m ad_k ad_l ad_e ad_t_toldOnes ad_t_refusals t_hasImage t_toldCount, kI cA ad_t_refusals 7 t_refusals, kX8 ad_n ad_n_steps ad_n_line ad_n_gone ad_n_wentIn n_size n_there n_roundsBy n_kind n_figure n_stepCount] sz) := by
  refine z_ofW (QF := fun A => zQi (dC, dI) [kX10 ad_t ad_t_strikers ad_n ad_m ad_k ad_l ad_e ad_t_toldOnes ad_t_refusals t_hasImage t_toldCount, kI cA ad_t_refusals 7 t_refusals9, kX8 ad_n ad_n_steps ad_n_line ad_n_gone ad_n_wentIn n_size n_there n_roundsBy n_kind9 n_figure9 n_stepCount] r0 A) (by decide) rfl (Nat.le_of_ble_eq_true rfl) ?_
  intro p e s m below meth c ls A hx hb hml hr hlocks hnm hts hown hK hP hD hE hsz hA hS hl
  have hl : lv_has ls 3 [(0, .ref ad_t), (1, .int (zi v1)), (2, .int (zi v2))] := hl
  unfold f_X10_set at h
  refine lv_iload_n hx hb dX10_set_0 rfl (lv_at hl 1 rfl) ?_
  have hj9 : ∀ (H : Heap) (locs : List Loc) (ls : Array Slot), f_X10_set_J9 t_refusals n_kind n_figure = some (r0, t_refusals9, n_kind9, n_figure9) → va_P (dC, dI) vwCl [kX10 ad_t ad_t_strikers ad_n ad_m ad_k ad_l ad_e ad_t_toldOnes ad_t_refusals t_hasImage t_toldCount, kI cA ad_t_refusals 7 t_refusals, kX8 ad_n ad_n_steps ad_n_line ad_n_gone ad_n_wentIn n_size n_there n_roundsBy n_kind n_figure n_stepCount] H → va_D A [kX10 ad_t ad_t_strikers ad_n ad_m ad_k ad_l ad_e ad_t_toldOnes ad_t_refusals t_hasImage t_toldCount, kI cA ad_t_refusals 7 t_refusals, kX8 ad_n ad_n_steps ad_n_line ad_n_gone ad_n_wentIn n_size n_there n_roundsBy n_kind n_figure n_stepCount] → va_S A s.heap H locs → lv_has ls 3 [(0, .ref ad_t)] → W p l e { frames := 2, cells := 0, slots := 0, locals := 43 } s m ([.ref ad_t, .int (zi v1), .int (zi v2)] : List Value).toArray below meth c H locs 0 0 (MQ below (zQi (dC, dI) [kX10 ad_t ad_t_strikers ad_n ad_m ad_k ad_l ad_e ad_t_toldOnes ad_t_refusals t_hasImage t_toldCount, kI cA ad_t_refusals 7 t_refusals9, kX8 ad_n ad_n_steps ad_n_line ad_n_gone ad_n_wentIn n_size n_there n_roundsBy n_kind9 n_figure9 n_stepCount] r0 A) ([.ref ad_t, .int (zi v1), .int (zi v2)] : List Value).toArray s 0 0 A) (F0 m 9 ls []) := by
    intro  H locs ls h hP hD hS hl
    unfold f_X10_set_J9 at h
    refine lv_aload_n hx hb dX10_set_9 rfl (lv_at hl 0 rfl) ?_
    refine z_iconst hx hb dX10_set_10 ?_
    obtain ⟨⟨r_12, t_refusals_13⟩, hc_14, h⟩ := zb h
    try dsimp only at h
    refine z_calliU (wc := [kX10 ad_t ad_t_strikers ad_n ad_m ad_k ad_l ad_e ad_t_toldOnes ad_t_refusals t_hasImage t_toldCount, kI cA ad_t_refusals 7 t_refusals]) (wc' := [kX10 ad_t ad_t_strikers ad_n ad_m ad_k ad_l ad_e ad_t_toldOnes ad_t_refusals t_hasImage t_toldCount, kI cA ad_t_refusals 7 t_refusals_13]) (ws' := [kX10 ad_t ad_t_strikers ad_n ad_m ad_k ad_l ad_e ad_t_toldOnes ad_t_refusals t_hasImage t_toldCount, kI cA ad_t_refusals 7 t_refusals_13, kX8 ad_n ad_n_steps ad_n_line ad_n_gone ad_n_wentIn n_size n_there n_roundsBy n_kind n_figure n_stepCount]) (va_runV (As := [.int (zi 2)]) (rest := []) ⟨hx, hb, hml, hown, hts⟩ (c_X10_refuse l dC dI cA cN _ ad_t ad_t_strikers ad_n ad_m ad_k ad_l ad_e ad_t_toldOnes ad_t_refusals t_hasImage t_toldCount t_refusals 2 r_12 t_refusals_13 hc_14) (cwV 1 hts gX10_set_X10_refuse rfl rfl rfl (by decide +kernel) ⟨Nat.le_of_ble_eq_true rfl, Nat.le_of_ble_eq_true rfl⟩) (zPc.preV hK hE hP hD [0, 1] rfl rfl (ci := 10) (q0 := 0) rfl rfl) rfl rfl hl.1 rfl (lv_room (Nat.le_of_ble_eq_true rfl)) dX10_set_11 ⟨Nat.le_of_ble_eq_true rfl, Nat.le_of_ble_eq_true rfl⟩) hP hD hS hA [0, 1] rfl rfl rfl (fun H locs hP hD hS => ?_)
    cases h
    exact z_iret hx hb hr hlocks hP hD hS dX10_set_14
  refine z_if_lt (tgt := 9) hx hb dX10_set_1 (by decide) h (fun h => ?_) (fun h => ?_)
  · exact hj9 _ _ _ h hP hD hS (lv_sub hl [0] rfl)
  · refine lv_iload_n hx hb dX10_set_4 rfl (lv_at hl 1 rfl) ?_
    refine z_iconst hx hb dX10_set_5 ?_
    refine z_icmp_le (tgt := 15) hx hb dX10_set_6 (by decide) h (fun q => ⟨q, by decide⟩) (fun h => ?_) (fun h => ?_)
    · refine lv_iload_n hx hb dX10_set_15 rfl (lv_at hl 1 rfl) ?_
      refine z_if_ne (tgt := 25) hx hb dX10_set_16 (by decide) h (fun h => ?_) (fun h => ?_)
      · refine lv_aload_n hx hb dX10_set_25 rfl (lv_at hl 0 rfl) ?_
        refine lv_iload_n hx hb dX10_set_26 rfl (lv_at hl 2 rfl) ?_
        obtain ⟨⟨r_15, t_refusals_16, n_figure_17⟩, hc_18, h⟩ := zb h
        try dsimp only at h
        refine z_calliU (wc := [kX10 ad_t ad_t_strikers ad_n ad_m ad_k ad_l ad_e ad_t_toldOnes ad_t_refusals t_hasImage t_toldCount, kI cA ad_t_refusals 7 t_refusals, kX8 ad_n ad_n_steps ad_n_line ad_n_gone ad_n_wentIn n_size n_there n_roundsBy n_kind n_figure n_stepCount]) (wc' := [kX10 ad_t ad_t_strikers ad_n ad_m ad_k ad_l ad_e ad_t_toldOnes ad_t_refusals t_hasImage t_toldCount, kI cA ad_t_refusals 7 t_refusals_16, kX8 ad_n ad_n_steps ad_n_line ad_n_gone ad_n_wentIn n_size n_there n_roundsBy n_kind n_figure_17 n_stepCount]) (ws' := [kX10 ad_t ad_t_strikers ad_n ad_m ad_k ad_l ad_e ad_t_toldOnes ad_t_refusals t_hasImage t_toldCount, kI cA ad_t_refusals 7 t_refusals_16, kX8 ad_n ad_n_steps ad_n_line ad_n_gone ad_n_wentIn n_size n_there n_roundsBy n_kind n_figure_17 n_stepCount]) (va_runV (As := [.int (zi v2)]) (rest := []) ⟨hx, hb, hml, hown, hts⟩ (c_X10_setFigure l dC dI cA cN _ ad_t ad_t_strikers ad_n ad_m ad_k ad_l ad_e ad_t_toldOnes ad_t_refusals ad_n_steps ad_n_line ad_n_gone ad_n_wentIn t_hasImage t_toldCount n_size n_there n_roundsBy n_kind n_figure n_stepCount t_refusals v2 r_15 t_refusals_16 n_figure_17 hc_18) (cwV 1 hts gX10_set_X10_setFigure rfl rfl rfl (by decide +kernel) ⟨Nat.le_of_ble_eq_true rfl, Nat.le_of_ble_eq_true rfl⟩) (zPc.preV hK hE hP hD [0, 1, 2] rfl rfl (ci := 10) (q0 := 0) rfl rfl) rfl rfl hl.1 rfl (lv_room (Nat.le_of_ble_eq_true rfl)) dX10_set_27 ⟨Nat.le_of_ble_eq_true rfl, Nat.le_of_ble_eq_true rfl⟩) hP hD hS hA [0, 1, 2] rfl rfl rfl (fun H locs hP hD hS => ?_)
        cases h
        exact z_iret hx hb hr hlocks hP hD hS dX10_set_30
      · refine lv_aload_n hx hb dX10_set_19 rfl (lv_at hl 0 rfl) ?_
        refine lv_iload_n hx hb dX10_set_20 rfl (lv_at hl 2 rfl) ?_
        obtain ⟨⟨r_19, t_refusals_20, n_kind_21⟩, hc_22, h⟩ := zb h
        try dsimp only at h
        refine z_calliU (wc := [kX10 ad_t ad_t_strikers ad_n ad_m ad_k ad_l ad_e ad_t_toldOnes ad_t_refusals t_hasImage t_toldCount, kI cA ad_t_refusals 7 t_refusals, kX8 ad_n ad_n_steps ad_n_line ad_n_gone ad_n_wentIn n_size n_there n_roundsBy n_kind n_figure n_stepCount]) (wc' := [kX10 ad_t ad_t_strikers ad_n ad_m ad_k ad_l ad_e ad_t_toldOnes ad_t_refusals t_hasImage t_toldCount, kI cA ad_t_refusals 7 t_refusals_20, kX8 ad_n ad_n_steps ad_n_line ad_n_gone ad_n_wentIn n_size n_there n_roundsBy n_kind_21 n_figure n_stepCount]) (ws' := [kX10 ad_t ad_t_strikers ad_n ad_m ad_k ad_l ad_e ad_t_toldOnes ad_t_refusals t_hasImage t_toldCount, kI cA ad_t_refusals 7 t_refusals_20, kX8 ad_n ad_n_steps ad_n_line ad_n_gone ad_n_wentIn n_size n_there n_roundsBy n_kind_21 n_figure n_stepCount]) (va_runV (As := [.int (zi v2)]) (rest := []) ⟨hx, hb, hml, hown, hts⟩ (c_X10_setKind l dC dI cA cN _ ad_t ad_t_strikers ad_n ad_m ad_k ad_l ad_e ad_t_toldOnes ad_t_refusals ad_n_steps ad_n_line ad_n_gone ad_n_wentIn t_hasImage t_toldCount n_size n_there n_roundsBy n_kind n_figure n_stepCount t_refusals v2 r_19 t_refusals_20 n_kind_21 hc_22) (cwV 1 hts gX10_set_X10_setKind rfl rfl rfl (by decide +kernel) ⟨Nat.le_of_ble_eq_true rfl, Nat.le_of_ble_eq_true rfl⟩) (zPc.preV hK hE hP hD [0, 1, 2] rfl rfl (ci := 10) (q0 := 0) rfl rfl) rfl rfl hl.1 rfl (lv_room (Nat.le_of_ble_eq_true rfl)) dX10_set_21 ⟨Nat.le_of_ble_eq_true rfl, Nat.le_of_ble_eq_true rfl⟩) hP hD hS hA [0, 1, 2] rfl rfl rfl (fun H locs hP hD hS => ?_)
        cases h
        exact z_iret hx hb hr hlocks hP hD hS dX10_set_24
    · exact hj9 _ _ _ h hP hD hS (lv_sub hl [0] rfl)
-- X10_step
theorem dX10_step_0 : decode cX10_step 0 = .ok (.iload_n 1, 1) := by decide +kernel
theorem dX10_step_1 : decode cX10_step 1 = .ok (.iconst 2, 1) := by decide +kernel
theorem dX10_step_2 : decode cX10_step 2 = .ok (.if_icmp .ge 9, 3) := by decide +kernel
theorem dX10_step_5 : decode cX10_step 5 = .ok (.aload_n 0, 1) := by decide +kernel
theorem dX10_step_6 : decode cX10_step 6 = .ok (.iconst 4, 1) := by decide +kernel
theorem dX10_step_7 : decode cX10_step 7 = .ok (.invokevirtual 76, 3) := by decide +kernel
theorem dX10_step_10 : decode cX10_step 10 = .ok (.ireturn, 1) := by decide +kernel
theorem dX10_step_11 : decode cX10_step 11 = .ok (.aload_n 0, 1) := by decide +kernel
theorem dX10_step_12 : decode cX10_step 12 = .ok (.getfield 18, 3) := by decide +kernel
theorem dX10_step_15 : decode cX10_step 15 = .ok (.iload_n 1, 1) := by decide +kernel
theorem dX10_step_16 : decode cX10_step 16 = .ok (.invokevirtual 103, 3) := by decide +kernel
theorem dX10_step_19 : decode cX10_step 19 = .ok (.ifCond .ne 10, 3) := by decide +kernel
theorem dX10_step_22 : decode cX10_step 22 = .ok (.aload_n 0, 1) := by decide +kernel
theorem dX10_step_23 : decode cX10_step 23 = .ok (.bipush 6, 2) := by decide +kernel
theorem dX10_step_25 : decode cX10_step 25 = .ok (.invokevirtual 76, 3) := by decide +kernel
theorem dX10_step_28 : decode cX10_step 28 = .ok (.ireturn, 1) := by decide +kernel
theorem dX10_step_29 : decode cX10_step 29 = .ok (.aload_n 0, 1) := by decide +kernel
theorem dX10_step_30 : decode cX10_step 30 = .ok (.getfield 18, 3) := by decide +kernel
theorem dX10_step_33 : decode cX10_step 33 = .ok (.getfield 106, 3) := by decide +kernel
theorem dX10_step_36 : decode cX10_step 36 = .ok (.ireturn, 1) := by decide +kernel
set_option maxRecDepth 20000 in
theorem ggX10_step_X10_refuse : GoodIn wsX10_step wsX10_refuse := goodIn_r _ [7, 8, 18, 19, 20, 21, 22, 23, 24, 25, 26, 27] rfl (by decide +kernel)
set_option maxRecDepth 20000 in
theorem gX10_step_X10_refuse : GoodIn wsX10_step (wsV RX10 76 RX10 yX10_refuse wsX10_refuse) := goodIn_app (goodIn_of _ (by decide +kernel)) ggX10_step_X10_refuse
set_option maxRecDepth 20000 in
theorem ggX10_step_X8_addStep : GoodIn wsX10_step wsX8_addStep := goodIn_r _ [13, 14, 15, 16, 6, 17, 28, 29, 30, 31, 32, 33, 34, 35, 36, 37] rfl (by decide +kernel)
set_option maxRecDepth 20000 in
theorem gX10_step_X8_addStep : GoodIn wsX10_step (wsV RX10 103 RX8 yX8_addStep wsX8_addStep) := goodIn_app (goodIn_of _ (by decide +kernel)) ggX10_step_X8_addStep
noncomputable def f_X10_step (v1 : Int) (t_refusals : Int → Int) (n_stepCount : Int) (n_steps : Int → Int) : Option (Int × (Int → Int) × Int × (Int → Int)) := zg (zR v1) (if 2 ≤ v1 then (f_X8_addStep v1 n_stepCount n_steps).bind (fun (r_1, n_stepCount_2, n_steps_3) => zg (zR r_1) (if ¬ r_1 = 0 then some (n_stepCount_2, t_refusals, n_stepCount_2, n_steps_3) else (f_X10_refuse 6 t_refusals).bind (fun (r_5, t_refusals_6) => some (r_5, t_refusals_6, n_stepCount_2, n_steps_3)))) else (f_X10_refuse 4 t_refusals).bind (fun (r_8, t_refusals_9) => some (r_8, t_refusals_9, n_stepCount, n_steps)))
theorem q_X10_step_0 : Cond.fieldLink RX10 18 "EachSecondStruck" "now" "LEachSecondStruck$Standing;" ∈ wsX10_step := by decide +kernel
theorem q_X10_step_1 : Cond.fieldLink RX10 106 "EachSecondStruck$Standing" "stepCount" "I" ∈ wsX10_step := by decide +kernel
theorem in_X10_step_X10 : ∀ w ∈ u_ws RX10 TX10 10, w ∈ wsX10_step := by decide +kernel
theorem in_X10_step_X8 : ∀ w ∈ u_ws RX8 TX8 10, w ∈ wsX10_step := by decide +kernel
set_option maxHeartbeats 4000000 in
set_option maxRecDepth 100000 in
theorem c_X10_step (l : Launch) (dC : Nat → ClassId) (dI : Nat → Nat → Nat) (cA cN : ClassId) (sz : Nat) (ad_t : Nat) (ad_t_strikers : Nat) (ad_n : Nat) (ad_m : Nat) (ad_k : Nat) (ad_l : Nat) (ad_e : Nat) (ad_t_toldOnes : Nat) (ad_t_refusals : Nat) (ad_n_steps : Nat) (ad_n_line : Nat) (ad_n_gone : Nat) (ad_n_wentIn : Nat) (t_hasImage : Int) (t_toldCount : Int) (n_size : Int) (n_there : Int) (n_roundsBy : Int) (n_kind : Int) (n_figure : Int) (n_stepCount : Int) (t_refusals : Int → Int) (n_steps : Int → Int) (v1 : Int) (r0 : Int) (t_refusals9 : Int → Int) (n_stepCount9 : Int) (n_steps9 : Int → Int) (h : f_X10_step v1 t_refusals n_stepCount n_steps = some (r0, t_refusals9, n_stepCount9, n_steps9)) : Met l yX10_step wsX10_step { frames := 2, cells := 0, slots := 0, locals := 41 } (zPc (dC, dI) (zT cA cN) [kX10 ad_t ad_t_strikers ad_n ad_m ad_k ad_l ad_e ad_t_toldOnes ad_t_refusals t_hasImage t_toldCount, kI cA ad_t_refusals 7 t_refusals, kX8 ad_n ad_n_steps ad_n_line ad_n_gone ad_n_wentIn n_size n_there n_roundsBy n_kind n_figure n_stepCount, kI cA ad_n_steps 8 n_steps] [.ref ad_t, .int (zi v1)] sz) (zQi (dC, dI) [kX10 ad_t ad_t_strikers ad_n ad_m ad_k ad_l ad_e ad_t_toldOnes ad_t_refusals t_hasImage t_toldCount, kI cA ad_t_refusals 7 t_refusals9, kX8 ad_n ad_n_steps ad_n_line ad_n_gone ad_n_wentIn n_size n_there n_roundsBy n_kind n_figure n_stepCount9, kI cA ad_n_steps 8 n_steps9] r0 (va_A [kX10 ad_t ad_t_strikers ad_n ad_m ad_k ad_l ad_e ad_t_toldOnes ad_t_refusals t_hasImage t_toldCount, kI cA ad_t_refusals 7 t_refusals, kX8 ad_n ad_n_steps ad_n_line ad_n_gone ad_n_wentIn n_size n_there n_roundsBy n_kind n_figure n_stepCount, kI cA ad_n_steps 8 n_steps] sz)) 0 0 (va_A [kX10 ad_t ad_t_strikers ad_n ad_m ad_k ad_l ad_e ad_t_toldOnes ad_t_refusals t_hasImage t_toldCount, kI cA ad_t_refusals 7 t_refusals, kX8 ad_n ad_n_steps ad_n_line ad_n_gone ad_n_wentIn n_size n_there n_roundsBy n_kind n_figure n_stepCount, kI cA ad_n_steps 8 n_steps] sz) := by
  refine z_ofW (QF := fun A => zQi (dC, dI) [kX10 ad_t ad_t_strikers ad_n ad_m ad_k ad_l ad_e ad_t_toldOnes ad_t_refusals t_hasImage t_toldCount, kI cA ad_t_refusals 7 t_refusals9, kX8 ad_n ad_n_steps ad_n_line ad_n_gone ad_n_wentIn n_size n_there n_roundsBy n_kind n_figure n_stepCount9, kI cA ad_n_steps 8 n_steps9] r0 A) (by decide) rfl (Nat.le_of_ble_eq_true rfl) ?_
  intro p e s m below meth c ls A hx hb hml hr hlocks hnm hts hown hK hP hD hE hsz hA hS hl
  have hl : lv_has ls 2 [(0, .ref ad_t), (1, .int (zi v1))] := hl
  unfold f_X10_step at h
  refine lv_iload_n hx hb dX10_step_0 rfl (lv_at hl 1 rfl) ?_
  refine z_iconst hx hb dX10_step_1 ?_
  refine z_icmp_ge (tgt := 11) hx hb dX10_step_2 (by decide) h (fun q => ⟨q, by decide⟩) (fun h => ?_) (fun h => ?_)
  · refine lv_aload_n hx hb dX10_step_11 rfl (lv_at hl 0 rfl) ?_
    refine va_get (D := (dC, dI)) (ci := 10) (v := .ref ad_n) (C := RX10) (T := TX10) (N := 10) hx hb hts in_X10_step_X10 hown hK hP 0 rfl rfl 1 (by decide) (hts _ q_X10_step_0) (fun _ h9 => h9) rfl dX10_step_12 ?_
    refine lv_iload_n hx hb dX10_step_15 rfl (lv_at hl 1 rfl) ?_
    obtain ⟨⟨r_11, n_stepCount_12, n_steps_13⟩, hc_14, h⟩ := zb h
    try dsimp only at h
    refine z_calliU (wc := [kX8 ad_n ad_n_steps ad_n_line ad_n_gone ad_n_wentIn n_size n_there n_roundsBy n_kind n_figure n_stepCount, kI cA ad_n_steps 8 n_steps]) (wc' := [kX8 ad_n ad_n_steps ad_n_line ad_n_gone ad_n_wentIn n_size n_there n_roundsBy n_kind n_figure n_stepCount_12, kI cA ad_n_steps 8 n_steps_13]) (ws' := [kX10 ad_t ad_t_strikers ad_n ad_m ad_k ad_l ad_e ad_t_toldOnes ad_t_refusals t_hasImage t_toldCount, kI cA ad_t_refusals 7 t_refusals, kX8 ad_n ad_n_steps ad_n_line ad_n_gone ad_n_wentIn n_size n_there n_roundsBy n_kind n_figure n_stepCount_12, kI cA ad_n_steps 8 n_steps_13]) (va_runV (As := [.int (zi v1)]) (rest := []) ⟨hx, hb, hml, hown, hts⟩ (c_X8_addStep l dC dI cA cN _ ad_n ad_n_steps ad_n_line ad_n_gone ad_n_wentIn n_size n_there n_roundsBy n_kind n_figure n_stepCount n_steps v1 r_11 n_stepCount_12 n_steps_13 hc_14) (cwV 1 hts gX10_step_X8_addStep rfl rfl rfl (by decide +kernel) ⟨Nat.le_of_ble_eq_true rfl, Nat.le_of_ble_eq_true rfl⟩) (zPc.preV hK hE hP hD [2, 3] rfl rfl (ci := 8) (q0 := 2) rfl rfl) rfl rfl hl.1 rfl (lv_room (Nat.le_of_ble_eq_true rfl)) dX10_step_16 ⟨Nat.le_of_ble_eq_true rfl, Nat.le_of_ble_eq_true rfl⟩) hP hD hS hA [2, 3] rfl rfl rfl (fun H locs hP hD hS => ?_)
    refine z_if_ne (tgt := 29) hx hb dX10_step_19 (by decide) h (fun h => ?_) (fun h => ?_)
    · refine lv_aload_n hx hb dX10_step_29 rfl (lv_at hl 0 rfl) ?_
      refine va_get (D := (dC, dI)) (ci := 10) (v := .ref ad_n) (C := RX10) (T := TX10) (N := 10) hx hb hts in_X10_step_X10 hown hK hP 0 rfl rfl 1 (by decide) (hts _ q_X10_step_0) (fun _ h9 => h9) rfl dX10_step_30 ?_
      refine va_get (D := (dC, dI)) (ci := 8) (v := .int (zi n_stepCount_12)) (C := RX8) (T := TX8) (N := 10) hx hb hts in_X10_step_X8 hown hK hP 2 rfl rfl 5 (by decide) (hts _ q_X10_step_1) (fun _ h9 => h9) rfl dX10_step_33 ?_
      cases h
      exact z_iret hx hb hr hlocks hP hD hS dX10_step_36
    · refine lv_aload_n hx hb dX10_step_22 rfl (lv_at hl 0 rfl) ?_
      refine z_bipush hx hb (by decide +kernel) dX10_step_23 ?_
      obtain ⟨⟨r_15, t_refusals_16⟩, hc_17, h⟩ := zb h
      try dsimp only at h
      refine z_calliU (wc := [kX10 ad_t ad_t_strikers ad_n ad_m ad_k ad_l ad_e ad_t_toldOnes ad_t_refusals t_hasImage t_toldCount, kI cA ad_t_refusals 7 t_refusals]) (wc' := [kX10 ad_t ad_t_strikers ad_n ad_m ad_k ad_l ad_e ad_t_toldOnes ad_t_refusals t_hasImage t_toldCount, kI cA ad_t_refusals 7 t_refusals_16]) (ws' := [kX10 ad_t ad_t_strikers ad_n ad_m ad_k ad_l ad_e ad_t_toldOnes ad_t_refusals t_hasImage t_toldCount, kI cA ad_t_refusals 7 t_refusals_16, kX8 ad_n ad_n_steps ad_n_line ad_n_gone ad_n_wentIn n_size n_there n_roundsBy n_kind n_figure n_stepCount_12, kI cA ad_n_steps 8 n_steps_13]) (va_runV (As := [.int (zi 6)]) (rest := []) ⟨hx, hb, hml, hown, hts⟩ (c_X10_refuse l dC dI cA cN _ ad_t ad_t_strikers ad_n ad_m ad_k ad_l ad_e ad_t_toldOnes ad_t_refusals t_hasImage t_toldCount t_refusals 6 r_15 t_refusals_16 hc_17) (cwV 1 hts gX10_step_X10_refuse rfl rfl rfl (by decide +kernel) ⟨Nat.le_of_ble_eq_true rfl, Nat.le_of_ble_eq_true rfl⟩) (zPc.preV hK hE hP hD [0, 1] rfl rfl (ci := 10) (q0 := 0) rfl rfl) rfl rfl hl.1 rfl (lv_room (Nat.le_of_ble_eq_true rfl)) dX10_step_25 ⟨Nat.le_of_ble_eq_true rfl, Nat.le_of_ble_eq_true rfl⟩) hP hD hS hA [0, 1] rfl rfl rfl (fun H locs hP hD hS => ?_)
      cases h
      exact z_iret hx hb hr hlocks hP hD hS dX10_step_28
  · refine lv_aload_n hx hb dX10_step_5 rfl (lv_at hl 0 rfl) ?_
    refine z_iconst hx hb dX10_step_6 ?_
    obtain ⟨⟨r_18, t_refusals_19⟩, hc_20, h⟩ := zb h
    try dsimp only at h
    refine z_calliU (wc := [kX10 ad_t ad_t_strikers ad_n ad_m ad_k ad_l ad_e ad_t_toldOnes ad_t_refusals t_hasImage t_toldCount, kI cA ad_t_refusals 7 t_refusals]) (wc' := [kX10 ad_t ad_t_strikers ad_n ad_m ad_k ad_l ad_e ad_t_toldOnes ad_t_refusals t_hasImage t_toldCount, kI cA ad_t_refusals 7 t_refusals_19]) (ws' := [kX10 ad_t ad_t_strikers ad_n ad_m ad_k ad_l ad_e ad_t_toldOnes ad_t_refusals t_hasImage t_toldCount, kI cA ad_t_refusals 7 t_refusals_19, kX8 ad_n ad_n_steps ad_n_line ad_n_gone ad_n_wentIn n_size n_there n_roundsBy n_kind n_figure n_stepCount, kI cA ad_n_steps 8 n_steps]) (va_runV (As := [.int (zi 4)]) (rest := []) ⟨hx, hb, hml, hown, hts⟩ (c_X10_refuse l dC dI cA cN _ ad_t ad_t_strikers ad_n ad_m ad_k ad_l ad_e ad_t_toldOnes ad_t_refusals t_hasImage t_toldCount t_refusals 4 r_18 t_refusals_19 hc_20) (cwV 1 hts gX10_step_X10_refuse rfl rfl rfl (by decide +kernel) ⟨Nat.le_of_ble_eq_true rfl, Nat.le_of_ble_eq_true rfl⟩) (zPc.preV hK hE hP hD [0, 1] rfl rfl (ci := 10) (q0 := 0) rfl rfl) rfl rfl hl.1 rfl (lv_room (Nat.le_of_ble_eq_true rfl)) dX10_step_7 ⟨Nat.le_of_ble_eq_true rfl, Nat.le_of_ble_eq_true rfl⟩) hP hD hS hA [0, 1] rfl rfl rfl (fun H locs hP hD hS => ?_)
    cases h
    exact z_iret hx hb hr hlocks hP hD hS dX10_step_10
-- X10_swap
theorem dX10_swap_0 : decode cX10_swap 0 = .ok (.aload_n 0, 1) := by decide +kernel
theorem dX10_swap_1 : decode cX10_swap 1 = .ok (.getfield 18, 3) := by decide +kernel
theorem dX10_swap_4 : decode cX10_swap 4 = .ok (.iload_n 1, 1) := by decide +kernel
theorem dX10_swap_5 : decode cX10_swap 5 = .ok (.invokevirtual 109, 3) := by decide +kernel
theorem dX10_swap_8 : decode cX10_swap 8 = .ok (.ifCond .eq 19, 3) := by decide +kernel
theorem dX10_swap_11 : decode cX10_swap 11 = .ok (.aload_n 0, 1) := by decide +kernel
theorem dX10_swap_12 : decode cX10_swap 12 = .ok (.getfield 18, 3) := by decide +kernel
theorem dX10_swap_15 : decode cX10_swap 15 = .ok (.iload_n 2, 1) := by decide +kernel
theorem dX10_swap_16 : decode cX10_swap 16 = .ok (.invokevirtual 109, 3) := by decide +kernel
theorem dX10_swap_19 : decode cX10_swap 19 = .ok (.ifCond .eq 8, 3) := by decide +kernel
theorem dX10_swap_22 : decode cX10_swap 22 = .ok (.iload_n 1, 1) := by decide +kernel
theorem dX10_swap_23 : decode cX10_swap 23 = .ok (.iload_n 2, 1) := by decide +kernel
theorem dX10_swap_24 : decode cX10_swap 24 = .ok (.if_icmp .ne 9, 3) := by decide +kernel
theorem dX10_swap_27 : decode cX10_swap 27 = .ok (.aload_n 0, 1) := by decide +kernel
theorem dX10_swap_28 : decode cX10_swap 28 = .ok (.iconst 1, 1) := by decide +kernel
theorem dX10_swap_29 : decode cX10_swap 29 = .ok (.invokevirtual 76, 3) := by decide +kernel
theorem dX10_swap_32 : decode cX10_swap 32 = .ok (.ireturn, 1) := by decide +kernel
theorem dX10_swap_33 : decode cX10_swap 33 = .ok (.aload_n 0, 1) := by decide +kernel
theorem dX10_swap_34 : decode cX10_swap 34 = .ok (.getfield 18, 3) := by decide +kernel
theorem dX10_swap_37 : decode cX10_swap 37 = .ok (.iload_n 1, 1) := by decide +kernel
theorem dX10_swap_38 : decode cX10_swap 38 = .ok (.iload_n 2, 1) := by decide +kernel
theorem dX10_swap_39 : decode cX10_swap 39 = .ok (.invokevirtual 112, 3) := by decide +kernel
theorem dX10_swap_42 : decode cX10_swap 42 = .ok (.ifCond .ne 9, 3) := by decide +kernel
theorem dX10_swap_45 : decode cX10_swap 45 = .ok (.aload_n 0, 1) := by decide +kernel
theorem dX10_swap_46 : decode cX10_swap 46 = .ok (.iconst 3, 1) := by decide +kernel
theorem dX10_swap_47 : decode cX10_swap 47 = .ok (.invokevirtual 76, 3) := by decide +kernel
theorem dX10_swap_50 : decode cX10_swap 50 = .ok (.ireturn, 1) := by decide +kernel
theorem dX10_swap_51 : decode cX10_swap 51 = .ok (.iconst 1, 1) := by decide +kernel
theorem dX10_swap_52 : decode cX10_swap 52 = .ok (.ireturn, 1) := by decide +kernel
set_option maxRecDepth 20000 in
theorem ggX10_swap_X8_hasNumber : GoodIn wsX10_swap wsX8_hasNumber := goodIn_r _ [6, 7, 36, 37, 38, 39, 40, 41, 42, 43, 44, 45] rfl (by decide +kernel)
set_option maxRecDepth 20000 in
theorem gX10_swap_X8_hasNumber : GoodIn wsX10_swap (wsV RX10 109 RX8 yX8_hasNumber wsX8_hasNumber) := goodIn_app (goodIn_of _ (by decide +kernel)) ggX10_swap_X8_hasNumber
set_option maxRecDepth 20000 in
theorem ggX10_swap_X10_refuse : GoodIn wsX10_swap wsX10_refuse := goodIn_r _ [12, 13, 26, 27, 28, 29, 30, 31, 32, 33, 34, 35] rfl (by decide +kernel)
set_option maxRecDepth 20000 in
theorem gX10_swap_X10_refuse : GoodIn wsX10_swap (wsV RX10 76 RX10 yX10_refuse wsX10_refuse) := goodIn_app (goodIn_of _ (by decide +kernel)) ggX10_swap_X10_refuse
set_option maxRecDepth 20000 in
theorem ggX10_swap_X8_changePlaces : GoodIn wsX10_swap wsX8_changePlaces := goodIn_r _ [17, 18, 19, 20, 3, 4, 5, 6, 7, 21, 22, 23, 24, 25, 36, 37, 38, 39, 40, 41, 42, 43, 44, 45] rfl (by decide +kernel)
set_option maxRecDepth 20000 in
theorem gX10_swap_X8_changePlaces : GoodIn wsX10_swap (wsV RX10 112 RX8 yX8_changePlaces wsX8_changePlaces) := goodIn_app (goodIn_of _ (by decide +kernel)) ggX10_swap_X8_changePlaces
noncomputable def f_X10_swap_J27 (t_refusals : Int → Int) (n_line : Int → Int) : Option (Int × (Int → Int) × (Int → Int)) := (f_X10_refuse 1 t_refusals).bind (fun (r_3, t_refusals_4) => some (r_3, t_refusals_4, n_line))
noncomputable def f_X10_swap (v1 : Int) (v2 : Int) (t_refusals : Int → Int) (n_size : Int) (n_there : Int) (n_roundsBy : Int) (n_line : Int → Int) : Option (Int × (Int → Int) × (Int → Int)) := (f_X8_hasNumber v1 n_size).bind (fun r_1 => zg (zR r_1) (if r_1 = 0 then f_X10_swap_J27 t_refusals n_line else (f_X8_hasNumber v2 n_size).bind (fun r_6 => zg (zR r_6) (if r_6 = 0 then f_X10_swap_J27 t_refusals n_line else zg (zR v1 ∧ zR v2) (if ¬ v1 = v2 then (f_X8_changePlaces v1 v2 n_size n_there n_roundsBy n_line).bind (fun (r_8, n_line_9) => zg (zR r_8) (if ¬ r_8 = 0 then some (1, t_refusals, n_line_9) else (f_X10_refuse 3 t_refusals).bind (fun (r_11, t_refusals_12) => some (r_11, t_refusals_12, n_line_9)))) else f_X10_swap_J27 t_refusals n_line)))))
theorem q_X10_swap_0 : Cond.fieldLink RX10 18 "EachSecondStruck" "now" "LEachSecondStruck$Standing;" ∈ wsX10_swap := by decide +kernel
theorem in_X10_swap_X10 : ∀ w ∈ u_ws RX10 TX10 10, w ∈ wsX10_swap := by decide +kernel
set_option maxHeartbeats 4000000 in
set_option maxRecDepth 100000 in
theorem c_X10_swap (l : Launch) (dC : Nat → ClassId) (dI : Nat → Nat → Nat) (cA cN : ClassId) (sz : Nat) (ad_t : Nat) (ad_t_strikers : Nat) (ad_n : Nat) (ad_m : Nat) (ad_k : Nat) (ad_l : Nat) (ad_e : Nat) (ad_t_toldOnes : Nat) (ad_t_refusals : Nat) (ad_n_steps : Nat) (ad_n_line : Nat) (ad_n_gone : Nat) (ad_n_wentIn : Nat) (t_hasImage : Int) (t_toldCount : Int) (n_size : Int) (n_there : Int) (n_roundsBy : Int) (n_kind : Int) (n_figure : Int) (n_stepCount : Int) (t_refusals : Int → Int) (n_line : Int → Int) (v1 : Int) (v2 : Int) (r0 : Int) (t_refusals9 : Int → Int) (n_line9 : Int → Int) (h : f_X10_swap v1 v2 t_refusals n_size n_there n_roundsBy n_line = some (r0, t_refusals9, n_line9)) : Met l yX10_swap wsX10_swap { frames := 2, cells := 0, slots := 0, locals := 46 } (zPc (dC, dI) (zT cA cN) [kX10 ad_t ad_t_strikers ad_n ad_m ad_k ad_l ad_e ad_t_toldOnes ad_t_refusals t_hasImage t_toldCount, kI cA ad_t_refusals 7 t_refusals, kX8 ad_n ad_n_steps ad_n_line ad_n_gone ad_n_wentIn n_size n_there n_roundsBy n_kind n_figure n_stepCount, kI cA ad_n_line 120 n_line] [.ref ad_t, .int (zi v1), .int (zi v2)] sz) (zQi (dC, dI) [kX10 ad_t ad_t_strikers ad_n ad_m ad_k ad_l ad_e ad_t_toldOnes ad_t_refusals t_hasImage t_toldCount, kI cA ad_t_refusals 7 t_refusals9, kX8 ad_n ad_n_steps ad_n_line ad_n_gone ad_n_wentIn n_size n_there n_roundsBy n_kind n_figure n_stepCount, kI cA ad_n_line 120 n_line9] r0 (va_A [kX10 ad_t ad_t_strikers ad_n ad_m ad_k ad_l ad_e ad_t_toldOnes ad_t_refusals t_hasImage t_toldCount, kI cA ad_t_refusals 7 t_refusals, kX8 ad_n ad_n_steps ad_n_line ad_n_gone ad_n_wentIn n_size n_there n_roundsBy n_kind n_figure n_stepCount, kI cA ad_n_line 120 n_line] sz)) 0 0 (va_A [kX10 ad_t ad_t_strikers ad_n ad_m ad_k ad_l ad_e ad_t_toldOnes ad_t_refusals t_hasImage t_toldCount, kI cA ad_t_refusals 7 t_refusals, kX8 ad_n ad_n_steps ad_n_line ad_n_gone ad_n_wentIn n_size n_there n_roundsBy n_kind n_figure n_stepCount, kI cA ad_n_line 120 n_line] sz) := by
  refine z_ofW (QF := fun A => zQi (dC, dI) [kX10 ad_t ad_t_strikers ad_n ad_m ad_k ad_l ad_e ad_t_toldOnes ad_t_refusals t_hasImage t_toldCount, kI cA ad_t_refusals 7 t_refusals9, kX8 ad_n ad_n_steps ad_n_line ad_n_gone ad_n_wentIn n_size n_there n_roundsBy n_kind n_figure n_stepCount, kI cA ad_n_line 120 n_line9] r0 A) (by decide) rfl (Nat.le_of_ble_eq_true rfl) ?_
  intro p e s m below meth c ls A hx hb hml hr hlocks hnm hts hown hK hP hD hE hsz hA hS hl
  have hl : lv_has ls 3 [(0, .ref ad_t), (1, .int (zi v1)), (2, .int (zi v2))] := hl
  unfold f_X10_swap at h
  refine lv_aload_n hx hb dX10_swap_0 rfl (lv_at hl 0 rfl) ?_
  refine va_get (D := (dC, dI)) (ci := 10) (v := .ref ad_n) (C := RX10) (T := TX10) (N := 10) hx hb hts in_X10_swap_X10 hown hK hP 0 rfl rfl 1 (by decide) (hts _ q_X10_swap_0) (fun _ h9 => h9) rfl dX10_swap_1 ?_
  refine lv_iload_n hx hb dX10_swap_4 rfl (lv_at hl 1 rfl) ?_
  obtain ⟨r_14, hc_15, h⟩ := zb h
  try dsimp only at h
  refine z_calliU (wc := [kX8 ad_n ad_n_steps ad_n_line ad_n_gone ad_n_wentIn n_size n_there n_roundsBy n_kind n_figure n_stepCount]) (wc' := [kX8 ad_n ad_n_steps ad_n_line ad_n_gone ad_n_wentIn n_size n_there n_roundsBy n_kind n_figure n_stepCount]) (ws' := [kX10 ad_t ad_t_strikers ad_n ad_m ad_k ad_l ad_e ad_t_toldOnes ad_t_refusals t_hasImage t_toldCount, kI cA ad_t_refusals 7 t_refusals, kX8 ad_n ad_n_steps ad_n_line ad_n_gone ad_n_wentIn n_size n_there n_roundsBy n_kind n_figure n_stepCount, kI cA ad_n_line 120 n_line]) (va_runV (As := [.int (zi v1)]) (rest := []) ⟨hx, hb, hml, hown, hts⟩ (c_X8_hasNumber l dC dI cA cN _ ad_n ad_n_steps ad_n_line ad_n_gone ad_n_wentIn n_size n_there n_roundsBy n_kind n_figure n_stepCount v1 r_14 hc_15) (cwV 1 hts gX10_swap_X8_hasNumber rfl rfl rfl (by decide +kernel) ⟨Nat.le_of_ble_eq_true rfl, Nat.le_of_ble_eq_true rfl⟩) (zPc.preV hK hE hP hD [2] rfl rfl (ci := 8) (q0 := 2) rfl rfl) rfl rfl hl.1 rfl (lv_room (Nat.le_of_ble_eq_true rfl)) dX10_swap_5 ⟨Nat.le_of_ble_eq_true rfl, Nat.le_of_ble_eq_true rfl⟩) hP hD hS hA [2] rfl rfl rfl (fun H locs hP hD hS => ?_)
  have hj27 : ∀ (H : Heap) (locs : List Loc) (ls : Array Slot), f_X10_swap_J27 t_refusals n_line = some (r0, t_refusals9, n_line9) → va_P (dC, dI) vwCl [kX10 ad_t ad_t_strikers ad_n ad_m ad_k ad_l ad_e ad_t_toldOnes ad_t_refusals t_hasImage t_toldCount, kI cA ad_t_refusals 7 t_refusals, kX8 ad_n ad_n_steps ad_n_line ad_n_gone ad_n_wentIn n_size n_there n_roundsBy n_kind n_figure n_stepCount, kI cA ad_n_line 120 n_line] H → va_D A [kX10 ad_t ad_t_strikers ad_n ad_m ad_k ad_l ad_e ad_t_toldOnes ad_t_refusals t_hasImage t_toldCount, kI cA ad_t_refusals 7 t_refusals, kX8 ad_n ad_n_steps ad_n_line ad_n_gone ad_n_wentIn n_size n_there n_roundsBy n_kind n_figure n_stepCount, kI cA ad_n_line 120 n_line] → va_S A s.heap H locs → lv_has ls 3 [(0, .ref ad_t)] → W p l e { frames := 2, cells := 0, slots := 0, locals := 46 } s m ([.ref ad_t, .int (zi v1), .int (zi v2)] : List Value).toArray below meth c H locs 0 0 (MQ below (zQi (dC, dI) [kX10 ad_t ad_t_strikers ad_n ad_m ad_k ad_l ad_e ad_t_toldOnes ad_t_refusals t_hasImage t_toldCount, kI cA ad_t_refusals 7 t_refusals9, kX8 ad_n ad_n_steps ad_n_line ad_n_gone ad_n_wentIn n_size n_there n_roundsBy n_kind n_figure n_stepCount, kI cA ad_n_line 120 n_line9] r0 A) ([.ref ad_t, .int (zi v1), .int (zi v2)] : List Value).toArray s 0 0 A) (F0 m 27 ls []) := by
    intro  H locs ls h hP hD hS hl
    unfold f_X10_swap_J27 at h
    refine lv_aload_n hx hb dX10_swap_27 rfl (lv_at hl 0 rfl) ?_
    refine z_iconst hx hb dX10_swap_28 ?_
    obtain ⟨⟨r_16, t_refusals_17⟩, hc_18, h⟩ := zb h
    try dsimp only at h
    refine z_calliU (wc := [kX10 ad_t ad_t_strikers ad_n ad_m ad_k ad_l ad_e ad_t_toldOnes ad_t_refusals t_hasImage t_toldCount, kI cA ad_t_refusals 7 t_refusals]) (wc' := [kX10 ad_t ad_t_strikers ad_n ad_m ad_k ad_l ad_e ad_t_toldOnes ad_t_refusals t_hasImage t_toldCount, kI cA ad_t_refusals 7 t_refusals_17]) (ws' := [kX10 ad_t ad_t_strikers ad_n ad_m ad_k ad_l ad_e ad_t_toldOnes ad_t_refusals t_hasImage t_toldCount, kI cA ad_t_refusals 7 t_refusals_17, kX8 ad_n ad_n_steps ad_n_line ad_n_gone ad_n_wentIn n_size n_there n_roundsBy n_kind n_figure n_stepCount, kI cA ad_n_line 120 n_line]) (va_runV (As := [.int (zi 1)]) (rest := []) ⟨hx, hb, hml, hown, hts⟩ (c_X10_refuse l dC dI cA cN _ ad_t ad_t_strikers ad_n ad_m ad_k ad_l ad_e ad_t_toldOnes ad_t_refusals t_hasImage t_toldCount t_refusals 1 r_16 t_refusals_17 hc_18) (cwV 1 hts gX10_swap_X10_refuse rfl rfl rfl (by decide +kernel) ⟨Nat.le_of_ble_eq_true rfl, Nat.le_of_ble_eq_true rfl⟩) (zPc.preV hK hE hP hD [0, 1] rfl rfl (ci := 10) (q0 := 0) rfl rfl) rfl rfl hl.1 rfl (lv_room (Nat.le_of_ble_eq_true rfl)) dX10_swap_29 ⟨Nat.le_of_ble_eq_true rfl, Nat.le_of_ble_eq_true rfl⟩) hP hD hS hA [0, 1] rfl rfl rfl (fun H locs hP hD hS => ?_)
    cases h
    exact z_iret hx hb hr hlocks hP hD hS dX10_swap_32
  refine z_if_eq (tgt := 27) hx hb dX10_swap_8 (by decide) h (fun h => ?_) (fun h => ?_)
  · exact hj27 _ _ _ h hP hD hS (lv_sub hl [0] rfl)
  · refine lv_aload_n hx hb dX10_swap_11 rfl (lv_at hl 0 rfl) ?_
    refine va_get (D := (dC, dI)) (ci := 10) (v := .ref ad_n) (C := RX10) (T := TX10) (N := 10) hx hb hts in_X10_swap_X10 hown hK hP 0 rfl rfl 1 (by decide) (hts _ q_X10_swap_0) (fun _ h9 => h9) rfl dX10_swap_12 ?_
    refine lv_iload_n hx hb dX10_swap_15 rfl (lv_at hl 2 rfl) ?_
    obtain ⟨r_19, hc_20, h⟩ := zb h
    try dsimp only at h
    refine z_calliU (wc := [kX8 ad_n ad_n_steps ad_n_line ad_n_gone ad_n_wentIn n_size n_there n_roundsBy n_kind n_figure n_stepCount]) (wc' := [kX8 ad_n ad_n_steps ad_n_line ad_n_gone ad_n_wentIn n_size n_there n_roundsBy n_kind n_figure n_stepCount]) (ws' := [kX10 ad_t ad_t_strikers ad_n ad_m ad_k ad_l ad_e ad_t_toldOnes ad_t_refusals t_hasImage t_toldCount, kI cA ad_t_refusals 7 t_refusals, kX8 ad_n ad_n_steps ad_n_line ad_n_gone ad_n_wentIn n_size n_there n_roundsBy n_kind n_figure n_stepCount, kI cA ad_n_line 120 n_line]) (va_runV (As := [.int (zi v2)]) (rest := []) ⟨hx, hb, hml, hown, hts⟩ (c_X8_hasNumber l dC dI cA cN _ ad_n ad_n_steps ad_n_line ad_n_gone ad_n_wentIn n_size n_there n_roundsBy n_kind n_figure n_stepCount v2 r_19 hc_20) (cwV 1 hts gX10_swap_X8_hasNumber rfl rfl rfl (by decide +kernel) ⟨Nat.le_of_ble_eq_true rfl, Nat.le_of_ble_eq_true rfl⟩) (zPc.preV hK hE hP hD [2] rfl rfl (ci := 8) (q0 := 2) rfl rfl) rfl rfl hl.1 rfl (lv_room (Nat.le_of_ble_eq_true rfl)) dX10_swap_16 ⟨Nat.le_of_ble_eq_true rfl, Nat.le_of_ble_eq_true rfl⟩) hP hD hS hA [2] rfl rfl rfl (fun H locs hP hD hS => ?_)
    refine z_if_eq (tgt := 27) hx hb dX10_swap_19 (by decide) h (fun h => ?_) (fun h => ?_)
    · exact hj27 _ _ _ h hP hD hS (lv_sub hl [0] rfl)
    · refine lv_iload_n hx hb dX10_swap_22 rfl (lv_at hl 1 rfl) ?_
      refine lv_iload_n hx hb dX10_swap_23 rfl (lv_at hl 2 rfl) ?_
      refine z_icmp_ne (tgt := 33) hx hb dX10_swap_24 (by decide) h (fun q => q) (fun h => ?_) (fun h => ?_)
      · refine lv_aload_n hx hb dX10_swap_33 rfl (lv_at hl 0 rfl) ?_
        refine va_get (D := (dC, dI)) (ci := 10) (v := .ref ad_n) (C := RX10) (T := TX10) (N := 10) hx hb hts in_X10_swap_X10 hown hK hP 0 rfl rfl 1 (by decide) (hts _ q_X10_swap_0) (fun _ h9 => h9) rfl dX10_swap_34 ?_
        refine lv_iload_n hx hb dX10_swap_37 rfl (lv_at hl 1 rfl) ?_
        refine lv_iload_n hx hb dX10_swap_38 rfl (lv_at hl 2 rfl) ?_
        obtain ⟨⟨r_21, n_line_22⟩, hc_23, h⟩ := zb h
        try dsimp only at h
        refine z_calliU (wc := [kX8 ad_n ad_n_steps ad_n_line ad_n_gone ad_n_wentIn n_size n_there n_roundsBy n_kind n_figure n_stepCount, kI cA ad_n_line 120 n_line]) (wc' := [kX8 ad_n ad_n_steps ad_n_line ad_n_gone ad_n_wentIn n_size n_there n_roundsBy n_kind n_figure n_stepCount, kI cA ad_n_line 120 n_line_22]) (ws' := [kX10 ad_t ad_t_strikers ad_n ad_m ad_k ad_l ad_e ad_t_toldOnes ad_t_refusals t_hasImage t_toldCount, kI cA ad_t_refusals 7 t_refusals, kX8 ad_n ad_n_steps ad_n_line ad_n_gone ad_n_wentIn n_size n_there n_roundsBy n_kind n_figure n_stepCount, kI cA ad_n_line 120 n_line_22]) (va_runV (As := [.int (zi v1), .int (zi v2)]) (rest := []) ⟨hx, hb, hml, hown, hts⟩ (c_X8_changePlaces l dC dI cA cN _ ad_n ad_n_steps ad_n_line ad_n_gone ad_n_wentIn n_size n_there n_roundsBy n_kind n_figure n_stepCount n_line v1 v2 r_21 n_line_22 hc_23) (cwV 2 hts gX10_swap_X8_changePlaces rfl rfl rfl (by decide +kernel) ⟨Nat.le_of_ble_eq_true rfl, Nat.le_of_ble_eq_true rfl⟩) (zPc.preV hK hE hP hD [2, 3] rfl rfl (ci := 8) (q0 := 2) rfl rfl) rfl rfl hl.1 rfl (lv_room (Nat.le_of_ble_eq_true rfl)) dX10_swap_39 ⟨Nat.le_of_ble_eq_true rfl, Nat.le_of_ble_eq_true rfl⟩) hP hD hS hA [2, 3] rfl rfl rfl (fun H locs hP hD hS => ?_)
        refine z_if_ne (tgt := 51) hx hb dX10_swap_42 (by decide) h (fun h => ?_) (fun h => ?_)
        · refine z_iconst hx hb dX10_swap_51 ?_
          cases h
          exact z_iret hx hb hr hlocks hP hD hS dX10_swap_52
        · refine lv_aload_n hx hb dX10_swap_45 rfl (lv_at hl 0 rfl) ?_
          refine z_iconst hx hb dX10_swap_46 ?_
          obtain ⟨⟨r_24, t_refusals_25⟩, hc_26, h⟩ := zb h
          try dsimp only at h
          refine z_calliU (wc := [kX10 ad_t ad_t_strikers ad_n ad_m ad_k ad_l ad_e ad_t_toldOnes ad_t_refusals t_hasImage t_toldCount, kI cA ad_t_refusals 7 t_refusals]) (wc' := [kX10 ad_t ad_t_strikers ad_n ad_m ad_k ad_l ad_e ad_t_toldOnes ad_t_refusals t_hasImage t_toldCount, kI cA ad_t_refusals 7 t_refusals_25]) (ws' := [kX10 ad_t ad_t_strikers ad_n ad_m ad_k ad_l ad_e ad_t_toldOnes ad_t_refusals t_hasImage t_toldCount, kI cA ad_t_refusals 7 t_refusals_25, kX8 ad_n ad_n_steps ad_n_line ad_n_gone ad_n_wentIn n_size n_there n_roundsBy n_kind n_figure n_stepCount, kI cA ad_n_line 120 n_line_22]) (va_runV (As := [.int (zi 3)]) (rest := []) ⟨hx, hb, hml, hown, hts⟩ (c_X10_refuse l dC dI cA cN _ ad_t ad_t_strikers ad_n ad_m ad_k ad_l ad_e ad_t_toldOnes ad_t_refusals t_hasImage t_toldCount t_refusals 3 r_24 t_refusals_25 hc_26) (cwV 1 hts gX10_swap_X10_refuse rfl rfl rfl (by decide +kernel) ⟨Nat.le_of_ble_eq_true rfl, Nat.le_of_ble_eq_true rfl⟩) (zPc.preV hK hE hP hD [0, 1] rfl rfl (ci := 10) (q0 := 0) rfl rfl) rfl rfl hl.1 rfl (lv_room (Nat.le_of_ble_eq_true rfl)) dX10_swap_47 ⟨Nat.le_of_ble_eq_true rfl, Nat.le_of_ble_eq_true rfl⟩) hP hD hS hA [0, 1] rfl rfl rfl (fun H locs hP hD hS => ?_)
          cases h
          exact z_iret hx hb hr hlocks hP hD hS dX10_swap_50
      · exact hj27 _ _ _ h hP hD hS (lv_sub hl [0] rfl)
-- X10_striker
theorem dX10_striker_0 : decode cX10_striker 0 = .ok (.iload_n 1, 1) := by decide +kernel
theorem dX10_striker_1 : decode cX10_striker 1 = .ok (.invokestatic 166, 3) := by decide +kernel
theorem dX10_striker_4 : decode cX10_striker 4 = .ok (.ifCond .eq 12, 3) := by decide +kernel
theorem dX10_striker_7 : decode cX10_striker 7 = .ok (.aload_n 0, 1) := by decide +kernel
theorem dX10_striker_8 : decode cX10_striker 8 = .ok (.getfield 11, 3) := by decide +kernel
theorem dX10_striker_11 : decode cX10_striker 11 = .ok (.iload_n 1, 1) := by decide +kernel
theorem dX10_striker_12 : decode cX10_striker 12 = .ok (.aaload, 1) := by decide +kernel
theorem dX10_striker_13 : decode cX10_striker 13 = .ok (.goto 9, 3) := by decide +kernel
theorem dX10_striker_16 : decode cX10_striker 16 = .ok (.aload_n 0, 1) := by decide +kernel
theorem dX10_striker_17 : decode cX10_striker 17 = .ok (.getfield 11, 3) := by decide +kernel
theorem dX10_striker_20 : decode cX10_striker 20 = .ok (.iconst 0, 1) := by decide +kernel
theorem dX10_striker_21 : decode cX10_striker 21 = .ok (.aaload, 1) := by decide +kernel
theorem dX10_striker_22 : decode cX10_striker 22 = .ok (.areturn, 1) := by decide +kernel
set_option maxRecDepth 20000 in
theorem ggX10_striker_X10_isKind : GoodIn wsX10_striker wsX10_isKind := goodIn_r _ [5] rfl (by decide +kernel)
set_option maxRecDepth 20000 in
theorem gX10_striker_X10_isKind : GoodIn wsX10_striker (va_wsS RX10 166 yX10_isKind wsX10_isKind) := goodIn_app (goodIn_of _ (by decide +kernel)) ggX10_striker_X10_isKind
noncomputable def f_X10_striker (v1 : Int) : Option (Int) := (f_X10_isKind v1).bind (fun r_1 => zg (zR r_1) (if r_1 = 0 then zg ((0 : Int) ≤ 0 ∧ 0 < (7 : Int)) (some 0) else zg ((0 : Int) ≤ v1 ∧ v1 < (7 : Int)) (some v1)))
theorem q_X10_striker_0 : Cond.fieldLink RX10 11 "EachSecondStruck" "strikers" "[LEachSecondStruck$Next;" ∈ wsX10_striker := by decide +kernel
theorem in_X10_striker_X10 : ∀ w ∈ u_ws RX10 TX10 10, w ∈ wsX10_striker := by decide +kernel
set_option maxHeartbeats 4000000 in
set_option maxRecDepth 100000 in
theorem c_X10_striker (l : Launch) (dC : Nat → ClassId) (dI : Nat → Nat → Nat) (cA cN : ClassId) (sz : Nat) (ad_t : Nat) (ad_t_strikers : Nat) (ad_n : Nat) (ad_m : Nat) (ad_k : Nat) (ad_l : Nat) (ad_e : Nat) (ad_t_toldOnes : Nat) (ad_t_refusals : Nat) (sa : Nat → Nat) (t_hasImage : Int) (t_toldCount : Int) (v1 : Int) (r0 : Int) (h : f_X10_striker v1 = some r0) : Met l yX10_striker wsX10_striker { frames := 1, cells := 0, slots := 0, locals := 20 } (zPc (dC, dI) (zT cA cN) [kX10 ad_t ad_t_strikers ad_n ad_m ad_k ad_l ad_e ad_t_toldOnes ad_t_refusals t_hasImage t_toldCount, kN cN ad_t_strikers sa, (sa 0, .inr (6, [])), (sa 1, .inr (5, [])), (sa 2, .inr (7, [])), (sa 3, .inr (1, [])), (sa 4, .inr (9, [])), (sa 5, .inr (2, [])), (sa 6, .inr (3, []))] [.ref ad_t, .int (zi v1)] sz) (zQr (dC, dI) [kX10 ad_t ad_t_strikers ad_n ad_m ad_k ad_l ad_e ad_t_toldOnes ad_t_refusals t_hasImage t_toldCount, kN cN ad_t_strikers sa, (sa 0, .inr (6, [])), (sa 1, .inr (5, [])), (sa 2, .inr (7, [])), (sa 3, .inr (1, [])), (sa 4, .inr (9, [])), (sa 5, .inr (2, [])), (sa 6, .inr (3, []))] (sa (r0).toNat) (va_A [kX10 ad_t ad_t_strikers ad_n ad_m ad_k ad_l ad_e ad_t_toldOnes ad_t_refusals t_hasImage t_toldCount, kN cN ad_t_strikers sa, (sa 0, .inr (6, [])), (sa 1, .inr (5, [])), (sa 2, .inr (7, [])), (sa 3, .inr (1, [])), (sa 4, .inr (9, [])), (sa 5, .inr (2, [])), (sa 6, .inr (3, []))] sz)) 0 0 (va_A [kX10 ad_t ad_t_strikers ad_n ad_m ad_k ad_l ad_e ad_t_toldOnes ad_t_refusals t_hasImage t_toldCount, kN cN ad_t_strikers sa, (sa 0, .inr (6, [])), (sa 1, .inr (5, [])), (sa 2, .inr (7, [])), (sa 3, .inr (1, [])), (sa 4, .inr (9, [])), (sa 5, .inr (2, [])), (sa 6, .inr (3, []))] sz) := by
  refine z_ofW (QF := fun A => zQr (dC, dI) [kX10 ad_t ad_t_strikers ad_n ad_m ad_k ad_l ad_e ad_t_toldOnes ad_t_refusals t_hasImage t_toldCount, kN cN ad_t_strikers sa, (sa 0, .inr (6, [])), (sa 1, .inr (5, [])), (sa 2, .inr (7, [])), (sa 3, .inr (1, [])), (sa 4, .inr (9, [])), (sa 5, .inr (2, [])), (sa 6, .inr (3, []))] (sa (r0).toNat) A) (by decide) rfl (Nat.le_of_ble_eq_true rfl) ?_
  intro p e s m below meth c ls A hx hb hml hr hlocks hnm hts hown hK hP hD hE hsz hA hS hl
  have hl : lv_has ls 2 [(0, .ref ad_t), (1, .int (zi v1))] := hl
  unfold f_X10_striker at h
  refine lv_iload_n hx hb dX10_striker_0 rfl (lv_at hl 1 rfl) ?_
  obtain ⟨r_3, hc_4, h⟩ := zb h
  try dsimp only at h
  refine z_calliU (wc := []) (wc' := []) (ws' := [kX10 ad_t ad_t_strikers ad_n ad_m ad_k ad_l ad_e ad_t_toldOnes ad_t_refusals t_hasImage t_toldCount, kN cN ad_t_strikers sa, (sa 0, .inr (6, [])), (sa 1, .inr (5, [])), (sa 2, .inr (7, [])), (sa 3, .inr (1, [])), (sa 4, .inr (9, [])), (sa 5, .inr (2, [])), (sa 6, .inr (3, []))]) (va_runS (As := [.int (zi v1)]) (rest := []) ⟨hx, hb, hml, hown, hts⟩ (c_X10_isKind l dC dI cA cN _ v1 r_3 hc_4) (va_cwS 1 hts gX10_striker_X10_isKind rfl rfl rfl (by decide +kernel) ⟨Nat.le_of_ble_eq_true rfl, Nat.le_of_ble_eq_true rfl⟩) (zPc.pre hK hE hP hD [] rfl rfl) rfl rfl hl.1 rfl (lv_room (Nat.le_of_ble_eq_true rfl)) dX10_striker_1 ⟨Nat.le_of_ble_eq_true rfl, Nat.le_of_ble_eq_true rfl⟩) hP hD hS hA [] rfl rfl rfl (fun H locs hP hD hS => ?_)
  refine z_if_eq (tgt := 16) hx hb dX10_striker_4 (by decide) h (fun h => ?_) (fun h => ?_)
  · refine lv_aload_n hx hb dX10_striker_16 rfl (lv_at hl 0 rfl) ?_
    refine va_get (D := (dC, dI)) (ci := 10) (v := .ref ad_t_strikers) (C := RX10) (T := TX10) (N := 10) hx hb hts in_X10_striker_X10 hown hK hP 0 rfl rfl 0 (by decide) (hts _ q_X10_striker_0) (fun _ h9 => h9) rfl dX10_striker_17 ?_
    refine z_iconst hx hb dX10_striker_20 ?_
    refine z_aald hx hb hK hP 1 1 rfl rfl dX10_striker_21 h (fun h => ?_)
    cases h
    exact z_aret hx hb hr hlocks hP hD hS dX10_striker_22
  · refine lv_aload_n hx hb dX10_striker_7 rfl (lv_at hl 0 rfl) ?_
    refine va_get (D := (dC, dI)) (ci := 10) (v := .ref ad_t_strikers) (C := RX10) (T := TX10) (N := 10) hx hb hts in_X10_striker_X10 hown hK hP 0 rfl rfl 0 (by decide) (hts _ q_X10_striker_0) (fun _ h9 => h9) rfl dX10_striker_8 ?_
    refine lv_iload_n hx hb dX10_striker_11 rfl (lv_at hl 1 rfl) ?_
    refine z_aald hx hb hK hP 1 1 rfl rfl dX10_striker_12 h (fun h => ?_)
    refine lv_goto (tgt := 22) hx hb dX10_striker_13 (by decide) ?_
    cases h
    exact z_aret hx hb hr hlocks hP hD hS dX10_striker_22
-- X10_next
theorem dX10_next_0 : decode cX10_next 0 = .ok (.aload_n 0, 1) := by decide +kernel
theorem dX10_next_1 : decode cX10_next 1 = .ok (.aload_n 0, 1) := by decide +kernel
theorem dX10_next_2 : decode cX10_next 2 = .ok (.getfield 18, 3) := by decide +kernel
theorem dX10_next_5 : decode cX10_next 5 = .ok (.getfield 116, 3) := by decide +kernel
theorem dX10_next_8 : decode cX10_next 8 = .ok (.invokevirtual 119, 3) := by decide +kernel
theorem dX10_next_11 : decode cX10_next 11 = .ok (.aload_n 0, 1) := by decide +kernel
theorem dX10_next_12 : decode cX10_next 12 = .ok (.getfield 18, 3) := by decide +kernel
theorem dX10_next_15 : decode cX10_next 15 = .ok (.aload_n 0, 1) := by decide +kernel
theorem dX10_next_16 : decode cX10_next 16 = .ok (.getfield 18, 3) := by decide +kernel
theorem dX10_next_19 : decode cX10_next 19 = .ok (.getfield 123, 3) := by decide +kernel
theorem dX10_next_22 : decode cX10_next 22 = .ok (.iconst 1, 1) := by decide +kernel
theorem dX10_next_23 : decode cX10_next 23 = .ok (.iadd, 1) := by decide +kernel
theorem dX10_next_24 : decode cX10_next 24 = .ok (.invokevirtual 126, 3) := by decide +kernel
theorem dX10_next_27 : decode cX10_next 27 = .ok (.ireturn, 1) := by decide +kernel
set_option maxRecDepth 20000 in
theorem ggX10_next_X10_striker : GoodIn wsX10_next wsX10_striker := goodIn_r _ [8, 9, 10, 11, 7, 12, 57, 58, 59, 60, 61, 62, 63, 64, 65, 66] rfl (by decide +kernel)
set_option maxRecDepth 20000 in
theorem gX10_next_X10_striker : GoodIn wsX10_next (wsV RX10 119 RX10 yX10_striker wsX10_striker) := goodIn_app (goodIn_of _ (by decide +kernel)) ggX10_next_X10_striker
set_option maxRecDepth 20000 in
theorem ggX10_next_X6_countIn : GoodIn wsX10_next wsX6_countIn := goodIn_r _ [18] rfl (by decide +kernel)
set_option maxRecDepth 20000 in
theorem gX10_next_X6_countIn_u126X1 : GoodIn wsX10_next (va_wsU RX10 126 RX1 "EachSecondStruck$Next" ⟨"EachSecondStruck$Next", "countIn", "(LEachSecondStruck$Standing;I)I"⟩ yX6_countIn wsX6_countIn) := goodIn_app (goodIn_of _ (by decide +kernel)) ggX10_next_X6_countIn
set_option maxRecDepth 20000 in
theorem gX10_next_X6_countIn_u126X2 : GoodIn wsX10_next (va_wsU RX10 126 RX2 "EachSecondStruck$Next" ⟨"EachSecondStruck$Next", "countIn", "(LEachSecondStruck$Standing;I)I"⟩ yX6_countIn wsX6_countIn) := goodIn_app (goodIn_of _ (by decide +kernel)) ggX10_next_X6_countIn
set_option maxRecDepth 20000 in
theorem ggX10_next_X3_countIn : GoodIn wsX10_next wsX3_countIn := goodIn_r _ [24] rfl (by decide +kernel)
set_option maxRecDepth 20000 in
theorem gX10_next_X3_countIn_u126X3 : GoodIn wsX10_next (va_wsO RX10 126 RX3 "EachSecondStruck$Next" ⟨"EachSecondStruck$Next", "countIn", "(LEachSecondStruck$Standing;I)I"⟩ yX3_countIn wsX3_countIn) := goodIn_app (goodIn_of _ (by decide +kernel)) ggX10_next_X3_countIn
set_option maxRecDepth 20000 in
theorem ggX10_next_X5_countIn : GoodIn wsX10_next wsX5_countIn := goodIn_r _ [28, 29, 30, 31, 32, 33, 34, 35, 36, 37, 38, 39, 40, 67, 68, 69, 70, 71, 72, 73, 74, 75, 76] rfl (by decide +kernel)
set_option maxRecDepth 20000 in
theorem gX10_next_X5_countIn_u126X5 : GoodIn wsX10_next (va_wsO RX10 126 RX5 "EachSecondStruck$Next" ⟨"EachSecondStruck$Next", "countIn", "(LEachSecondStruck$Standing;I)I"⟩ yX5_countIn wsX5_countIn) := goodIn_app (goodIn_of _ (by decide +kernel)) ggX10_next_X5_countIn
set_option maxRecDepth 20000 in
theorem gX10_next_X6_countIn : GoodIn wsX10_next (wsV RX10 126 RX6 yX6_countIn wsX6_countIn) := goodIn_app (goodIn_of _ (by decide +kernel)) ggX10_next_X6_countIn
set_option maxRecDepth 20000 in
theorem ggX10_next_X7_countIn : GoodIn wsX10_next wsX7_countIn := goodIn_r _ [46, 47, 67, 68, 69, 70, 71, 72, 73, 74, 75, 76] rfl (by decide +kernel)
set_option maxRecDepth 20000 in
theorem gX10_next_X7_countIn_u126X7 : GoodIn wsX10_next (va_wsO RX10 126 RX7 "EachSecondStruck$Next" ⟨"EachSecondStruck$Next", "countIn", "(LEachSecondStruck$Standing;I)I"⟩ yX7_countIn wsX7_countIn) := goodIn_app (goodIn_of _ (by decide +kernel)) ggX10_next_X7_countIn
set_option maxRecDepth 20000 in
theorem ggX10_next_X9_countIn : GoodIn wsX10_next wsX9_countIn := goodIn_r _ [51, 52, 53, 54, 55, 56, 44, 45, 46, 47, 67, 68, 69, 70, 71, 72, 73, 74, 75, 76] rfl (by decide +kernel)
set_option maxRecDepth 20000 in
theorem gX10_next_X9_countIn_u126X9 : GoodIn wsX10_next (va_wsO RX10 126 RX9 "EachSecondStruck$Next" ⟨"EachSecondStruck$Next", "countIn", "(LEachSecondStruck$Standing;I)I"⟩ yX9_countIn wsX9_countIn) := goodIn_app (goodIn_of _ (by decide +kernel)) ggX10_next_X9_countIn
noncomputable def f_X10_next (n_there : Int) (n_roundsBy : Int) (n_kind : Int) (n_figure : Int) (n_stepCount : Int) (n_steps : Int → Int) (n_line : Int → Int) : Option (Int) := (f_X10_striker n_kind).bind (fun r_1 => (fv_countIn r_1 (n_roundsBy + 1) n_there n_figure n_stepCount n_steps n_line).bind (fun r_3 => some r_3))
theorem q_X10_next_0 : Cond.fieldLink RX10 18 "EachSecondStruck" "now" "LEachSecondStruck$Standing;" ∈ wsX10_next := by decide +kernel
theorem q_X10_next_1 : Cond.fieldLink RX10 116 "EachSecondStruck$Standing" "kind" "I" ∈ wsX10_next := by decide +kernel
theorem q_X10_next_2 : Cond.fieldLink RX10 123 "EachSecondStruck$Standing" "roundsBy" "I" ∈ wsX10_next := by decide +kernel
theorem q_X10_next_3 : Cond.code yX6_countIn cX6_countIn 3 (some .int) ∈ wsX10_next := by decide +kernel
theorem in_X10_next_X10 : ∀ w ∈ u_ws RX10 TX10 10, w ∈ wsX10_next := by decide +kernel
theorem in_X10_next_X8 : ∀ w ∈ u_ws RX8 TX8 10, w ∈ wsX10_next := by decide +kernel
set_option maxHeartbeats 4000000 in
set_option maxRecDepth 100000 in
theorem c_X10_next (l : Launch) (dC : Nat → ClassId) (dI : Nat → Nat → Nat) (cA cN : ClassId) (sz : Nat) (ad_t : Nat) (ad_t_strikers : Nat) (ad_n : Nat) (ad_m : Nat) (ad_k : Nat) (ad_l : Nat) (ad_e : Nat) (ad_t_toldOnes : Nat) (ad_t_refusals : Nat) (ad_n_steps : Nat) (ad_n_line : Nat) (ad_n_gone : Nat) (ad_n_wentIn : Nat) (sa : Nat → Nat) (t_hasImage : Int) (t_toldCount : Int) (n_size : Int) (n_there : Int) (n_roundsBy : Int) (n_kind : Int) (n_figure : Int) (n_stepCount : Int) (n_line : Int → Int) (n_steps : Int → Int)  (r0 : Int) (h : f_X10_next n_there n_roundsBy n_kind n_figure n_stepCount n_steps n_line = some r0) : Met l yX10_next wsX10_next { frames := 2, cells := 0, slots := 0, locals := 44 } (zPc (dC, dI) (zT cA cN) [kX10 ad_t ad_t_strikers ad_n ad_m ad_k ad_l ad_e ad_t_toldOnes ad_t_refusals t_hasImage t_toldCount, kN cN ad_t_strikers sa, (sa 0, .inr (6, [])), (sa 1, .inr (5, [])), (sa 2, .inr (7, [])), (sa 3, .inr (1, [])), (sa 4, .inr (9, [])), (sa 5, .inr (2, [])), (sa 6, .inr (3, [])), kX8 ad_n ad_n_steps ad_n_line ad_n_gone ad_n_wentIn n_size n_there n_roundsBy n_kind n_figure n_stepCount, kI cA ad_n_steps 8 n_steps, kI cA ad_n_line 120 n_line] [.ref ad_t] sz) (zQi (dC, dI) [kX10 ad_t ad_t_strikers ad_n ad_m ad_k ad_l ad_e ad_t_toldOnes ad_t_refusals t_hasImage t_toldCount, kN cN ad_t_strikers sa, (sa 0, .inr (6, [])), (sa 1, .inr (5, [])), (sa 2, .inr (7, [])), (sa 3, .inr (1, [])), (sa 4, .inr (9, [])), (sa 5, .inr (2, [])), (sa 6, .inr (3, [])), kX8 ad_n ad_n_steps ad_n_line ad_n_gone ad_n_wentIn n_size n_there n_roundsBy n_kind n_figure n_stepCount, kI cA ad_n_steps 8 n_steps, kI cA ad_n_line 120 n_line] r0 (va_A [kX10 ad_t ad_t_strikers ad_n ad_m ad_k ad_l ad_e ad_t_toldOnes ad_t_refusals t_hasImage t_toldCount, kN cN ad_t_strikers sa, (sa 0, .inr (6, [])), (sa 1, .inr (5, [])), (sa 2, .inr (7, [])), (sa 3, .inr (1, [])), (sa 4, .inr (9, [])), (sa 5, .inr (2, [])), (sa 6, .inr (3, [])), kX8 ad_n ad_n_steps ad_n_line ad_n_gone ad_n_wentIn n_size n_there n_roundsBy n_kind n_figure n_stepCount, kI cA ad_n_steps 8 n_steps, kI cA ad_n_line 120 n_line] sz)) 0 0 (va_A [kX10 ad_t ad_t_strikers ad_n ad_m ad_k ad_l ad_e ad_t_toldOnes ad_t_refusals t_hasImage t_toldCount, kN cN ad_t_strikers sa, (sa 0, .inr (6, [])), (sa 1, .inr (5, [])), (sa 2, .inr (7, [])), (sa 3, .inr (1, [])), (sa 4, .inr (9, [])), (sa 5, .inr (2, [])), (sa 6, .inr (3, [])), kX8 ad_n ad_n_steps ad_n_line ad_n_gone ad_n_wentIn n_size n_there n_roundsBy n_kind n_figure n_stepCount, kI cA ad_n_steps 8 n_steps, kI cA ad_n_line 120 n_line] sz) := by
  refine z_ofW (QF := fun A => zQi (dC, dI) [kX10 ad_t ad_t_strikers ad_n ad_m ad_k ad_l ad_e ad_t_toldOnes ad_t_refusals t_hasImage t_toldCount, kN cN ad_t_strikers sa, (sa 0, .inr (6, [])), (sa 1, .inr (5, [])), (sa 2, .inr (7, [])), (sa 3, .inr (1, [])), (sa 4, .inr (9, [])), (sa 5, .inr (2, [])), (sa 6, .inr (3, [])), kX8 ad_n ad_n_steps ad_n_line ad_n_gone ad_n_wentIn n_size n_there n_roundsBy n_kind n_figure n_stepCount, kI cA ad_n_steps 8 n_steps, kI cA ad_n_line 120 n_line] r0 A) (by decide) rfl (Nat.le_of_ble_eq_true rfl) ?_
  intro p e s m below meth c ls A hx hb hml hr hlocks hnm hts hown hK hP hD hE hsz hA hS hl
  have hl : lv_has ls 1 [(0, .ref ad_t)] := hl
  unfold f_X10_next at h
  refine lv_aload_n hx hb dX10_next_0 rfl (lv_at hl 0 rfl) ?_
  refine lv_aload_n hx hb dX10_next_1 rfl (lv_at hl 0 rfl) ?_
  refine va_get (D := (dC, dI)) (ci := 10) (v := .ref ad_n) (C := RX10) (T := TX10) (N := 10) hx hb hts in_X10_next_X10 hown hK hP 0 rfl rfl 1 (by decide) (hts _ q_X10_next_0) (fun _ h9 => h9) rfl dX10_next_2 ?_
  refine va_get (D := (dC, dI)) (ci := 8) (v := .int (zi n_kind)) (C := RX8) (T := TX8) (N := 10) hx hb hts in_X10_next_X8 hown hK hP 9 rfl rfl 3 (by decide) (hts _ q_X10_next_1) (fun _ h9 => h9) rfl dX10_next_5 ?_
  obtain ⟨r_4, hc_5, h⟩ := zb h
  try dsimp only at h
  refine z_callrU (wc := [kX10 ad_t ad_t_strikers ad_n ad_m ad_k ad_l ad_e ad_t_toldOnes ad_t_refusals t_hasImage t_toldCount, kN cN ad_t_strikers sa, (sa 0, .inr (6, [])), (sa 1, .inr (5, [])), (sa 2, .inr (7, [])), (sa 3, .inr (1, [])), (sa 4, .inr (9, [])), (sa 5, .inr (2, [])), (sa 6, .inr (3, []))]) (wc' := [kX10 ad_t ad_t_strikers ad_n ad_m ad_k ad_l ad_e ad_t_toldOnes ad_t_refusals t_hasImage t_toldCount, kN cN ad_t_strikers sa, (sa 0, .inr (6, [])), (sa 1, .inr (5, [])), (sa 2, .inr (7, [])), (sa 3, .inr (1, [])), (sa 4, .inr (9, [])), (sa 5, .inr (2, [])), (sa 6, .inr (3, []))]) (ws' := [kX10 ad_t ad_t_strikers ad_n ad_m ad_k ad_l ad_e ad_t_toldOnes ad_t_refusals t_hasImage t_toldCount, kN cN ad_t_strikers sa, (sa 0, .inr (6, [])), (sa 1, .inr (5, [])), (sa 2, .inr (7, [])), (sa 3, .inr (1, [])), (sa 4, .inr (9, [])), (sa 5, .inr (2, [])), (sa 6, .inr (3, [])), kX8 ad_n ad_n_steps ad_n_line ad_n_gone ad_n_wentIn n_size n_there n_roundsBy n_kind n_figure n_stepCount, kI cA ad_n_steps 8 n_steps, kI cA ad_n_line 120 n_line]) (va_runV (As := [.int (zi n_kind)]) (rest := []) ⟨hx, hb, hml, hown, hts⟩ (c_X10_striker l dC dI cA cN _ ad_t ad_t_strikers ad_n ad_m ad_k ad_l ad_e ad_t_toldOnes ad_t_refusals sa t_hasImage t_toldCount n_kind r_4 hc_5) (cwV 1 hts gX10_next_X10_striker rfl rfl rfl (by decide +kernel) ⟨Nat.le_of_ble_eq_true rfl, Nat.le_of_ble_eq_true rfl⟩) (zPc.preV hK hE hP hD [0, 1, 2, 3, 4, 5, 6, 7, 8] rfl rfl (ci := 10) (q0 := 0) rfl rfl) rfl rfl hl.1 rfl (lv_room (Nat.le_of_ble_eq_true rfl)) dX10_next_8 ⟨Nat.le_of_ble_eq_true rfl, Nat.le_of_ble_eq_true rfl⟩) hP hD hS hA [0, 1, 2, 3, 4, 5, 6, 7, 8] rfl rfl rfl (fun H locs hP hD hS => ?_)
  refine lv_aload_n hx hb dX10_next_11 rfl (lv_at hl 0 rfl) ?_
  refine va_get (D := (dC, dI)) (ci := 10) (v := .ref ad_n) (C := RX10) (T := TX10) (N := 10) hx hb hts in_X10_next_X10 hown hK hP 0 rfl rfl 1 (by decide) (hts _ q_X10_next_0) (fun _ h9 => h9) rfl dX10_next_12 ?_
  refine lv_aload_n hx hb dX10_next_15 rfl (lv_at hl 0 rfl) ?_
  refine va_get (D := (dC, dI)) (ci := 10) (v := .ref ad_n) (C := RX10) (T := TX10) (N := 10) hx hb hts in_X10_next_X10 hown hK hP 0 rfl rfl 1 (by decide) (hts _ q_X10_next_0) (fun _ h9 => h9) rfl dX10_next_16 ?_
  refine va_get (D := (dC, dI)) (ci := 8) (v := .int (zi n_roundsBy)) (C := RX8) (T := TX8) (N := 10) hx hb hts in_X10_next_X8 hown hK hP 9 rfl rfl 2 (by decide) (hts _ q_X10_next_2) (fun _ h9 => h9) rfl dX10_next_19 ?_
  refine z_iconst hx hb dX10_next_22 ?_
  refine z_iadd hx hb dX10_next_23 ?_
  obtain ⟨r_6, hc_7, h⟩ := zb h
  try dsimp only at h
  have hn24 : ∀ (H : Heap) (locs : List Loc), va_P (dC, dI) vwCl [kX10 ad_t ad_t_strikers ad_n ad_m ad_k ad_l ad_e ad_t_toldOnes ad_t_refusals t_hasImage t_toldCount, kN cN ad_t_strikers sa, (sa 0, .inr (6, [])), (sa 1, .inr (5, [])), (sa 2, .inr (7, [])), (sa 3, .inr (1, [])), (sa 4, .inr (9, [])), (sa 5, .inr (2, [])), (sa 6, .inr (3, [])), kX8 ad_n ad_n_steps ad_n_line ad_n_gone ad_n_wentIn n_size n_there n_roundsBy n_kind n_figure n_stepCount, kI cA ad_n_steps 8 n_steps, kI cA ad_n_line 120 n_line] H → va_D A [kX10 ad_t ad_t_strikers ad_n ad_m ad_k ad_l ad_e ad_t_toldOnes ad_t_refusals t_hasImage t_toldCount, kN cN ad_t_strikers sa, (sa 0, .inr (6, [])), (sa 1, .inr (5, [])), (sa 2, .inr (7, [])), (sa 3, .inr (1, [])), (sa 4, .inr (9, [])), (sa 5, .inr (2, [])), (sa 6, .inr (3, [])), kX8 ad_n ad_n_steps ad_n_line ad_n_gone ad_n_wentIn n_size n_there n_roundsBy n_kind n_figure n_stepCount, kI cA ad_n_steps 8 n_steps, kI cA ad_n_line 120 n_line] → va_S A s.heap H locs → W p l e { frames := 2, cells := 0, slots := 0, locals := 44 } s m ([.ref ad_t] : List Value).toArray below meth c H locs 0 0 (MQ below (zQi (dC, dI) [kX10 ad_t ad_t_strikers ad_n ad_m ad_k ad_l ad_e ad_t_toldOnes ad_t_refusals t_hasImage t_toldCount, kN cN ad_t_strikers sa, (sa 0, .inr (6, [])), (sa 1, .inr (5, [])), (sa 2, .inr (7, [])), (sa 3, .inr (1, [])), (sa 4, .inr (9, [])), (sa 5, .inr (2, [])), (sa 6, .inr (3, [])), kX8 ad_n ad_n_steps ad_n_line ad_n_gone ad_n_wentIn n_size n_there n_roundsBy n_kind n_figure n_stepCount, kI cA ad_n_steps 8 n_steps, kI cA ad_n_line 120 n_line] r0 A) ([.ref ad_t] : List Value).toArray s 0 0 A) (F0 m 27 ls [.int (zi r_6)]) := by
    intro H locs hP hD hS
    cases h
    exact z_iret hx hb hr hlocks hP hD hS dX10_next_27
  clear h
  unfold fv_countIn at hc_7
  by_cases hk : r_4 = 0
  · have hc_7 := zit hc_7 hk
    subst hk
    refine z_calliU (wc := []) (wc' := []) (ws' := [kX10 ad_t ad_t_strikers ad_n ad_m ad_k ad_l ad_e ad_t_toldOnes ad_t_refusals t_hasImage t_toldCount, kN cN ad_t_strikers sa, (sa 0, .inr (6, [])), (sa 1, .inr (5, [])), (sa 2, .inr (7, [])), (sa 3, .inr (1, [])), (sa 4, .inr (9, [])), (sa 5, .inr (2, [])), (sa 6, .inr (3, [])), kX8 ad_n ad_n_steps ad_n_line ad_n_gone ad_n_wentIn n_size n_there n_roundsBy n_kind n_figure n_stepCount, kI cA ad_n_steps 8 n_steps, kI cA ad_n_line 120 n_line]) (va_runV (As := [.ref ad_n, .int (zi (n_roundsBy + 1))]) (rest := []) ⟨hx, hb, hml, hown, hts⟩ (c_X6_countIn l dC dI cA cN _ (sa 0) ad_n (n_roundsBy + 1) r_6 hc_7) (cwV 2 hts gX10_next_X6_countIn rfl rfl rfl (by decide +kernel) ⟨Nat.le_of_ble_eq_true rfl, Nat.le_of_ble_eq_true rfl⟩) (zPc.preV hK hE hP hD [] rfl rfl (ci := 6) (q0 := 2) rfl rfl) rfl rfl hl.1 rfl (lv_room (Nat.le_of_ble_eq_true rfl)) dX10_next_24 ⟨Nat.le_of_ble_eq_true rfl, Nat.le_of_ble_eq_true rfl⟩) hP hD hS hA [] rfl rfl rfl hn24
  · have hc_7 := zif hc_7 hk
    by_cases hk : r_4 = 1
    · have hc_7 := zit hc_7 hk
      subst hk
      refine z_calliU (wc := [kX8 ad_n ad_n_steps ad_n_line ad_n_gone ad_n_wentIn n_size n_there n_roundsBy n_kind n_figure n_stepCount, kI cA ad_n_line 120 n_line]) (wc' := [kX8 ad_n ad_n_steps ad_n_line ad_n_gone ad_n_wentIn n_size n_there n_roundsBy n_kind n_figure n_stepCount, kI cA ad_n_line 120 n_line]) (ws' := [kX10 ad_t ad_t_strikers ad_n ad_m ad_k ad_l ad_e ad_t_toldOnes ad_t_refusals t_hasImage t_toldCount, kN cN ad_t_strikers sa, (sa 0, .inr (6, [])), (sa 1, .inr (5, [])), (sa 2, .inr (7, [])), (sa 3, .inr (1, [])), (sa 4, .inr (9, [])), (sa 5, .inr (2, [])), (sa 6, .inr (3, [])), kX8 ad_n ad_n_steps ad_n_line ad_n_gone ad_n_wentIn n_size n_there n_roundsBy n_kind n_figure n_stepCount, kI cA ad_n_steps 8 n_steps, kI cA ad_n_line 120 n_line]) (va_runU (As := [.ref ad_n, .int (zi (n_roundsBy + 1))]) (rest := []) ⟨hx, hb, hml, hown, hts⟩ (c_X5_countIn l dC dI cA cN _ ad_n ad_n_steps ad_n_line ad_n_gone ad_n_wentIn (sa 1) n_size n_there n_roundsBy n_kind n_figure n_stepCount n_line (n_roundsBy + 1) r_6 hc_7) (va_cwO 2 hts gX10_next_X5_countIn_u126X5 rfl rfl rfl q_X10_next_3 (by decide +kernel) ⟨Nat.le_of_ble_eq_true rfl, Nat.le_of_ble_eq_true rfl⟩) (zPc.preV hK hE hP hD [9, 11] rfl rfl (ci := 5) (q0 := 3) rfl rfl) rfl rfl hl.1 rfl (lv_room (Nat.le_of_ble_eq_true rfl)) dX10_next_24 ⟨Nat.le_of_ble_eq_true rfl, Nat.le_of_ble_eq_true rfl⟩) hP hD hS hA [9, 11] rfl rfl rfl hn24
    · have hc_7 := zif hc_7 hk
      by_cases hk : r_4 = 2
      · have hc_7 := zit hc_7 hk
        subst hk
        refine z_calliU (wc := [kX8 ad_n ad_n_steps ad_n_line ad_n_gone ad_n_wentIn n_size n_there n_roundsBy n_kind n_figure n_stepCount]) (wc' := [kX8 ad_n ad_n_steps ad_n_line ad_n_gone ad_n_wentIn n_size n_there n_roundsBy n_kind n_figure n_stepCount]) (ws' := [kX10 ad_t ad_t_strikers ad_n ad_m ad_k ad_l ad_e ad_t_toldOnes ad_t_refusals t_hasImage t_toldCount, kN cN ad_t_strikers sa, (sa 0, .inr (6, [])), (sa 1, .inr (5, [])), (sa 2, .inr (7, [])), (sa 3, .inr (1, [])), (sa 4, .inr (9, [])), (sa 5, .inr (2, [])), (sa 6, .inr (3, [])), kX8 ad_n ad_n_steps ad_n_line ad_n_gone ad_n_wentIn n_size n_there n_roundsBy n_kind n_figure n_stepCount, kI cA ad_n_steps 8 n_steps, kI cA ad_n_line 120 n_line]) (va_runU (As := [.ref ad_n, .int (zi (n_roundsBy + 1))]) (rest := []) ⟨hx, hb, hml, hown, hts⟩ (c_X7_countIn l dC dI cA cN _ ad_n ad_n_steps ad_n_line ad_n_gone ad_n_wentIn (sa 2) n_size n_there n_roundsBy n_kind n_figure n_stepCount (n_roundsBy + 1) r_6 hc_7) (va_cwO 2 hts gX10_next_X7_countIn_u126X7 rfl rfl rfl q_X10_next_3 (by decide +kernel) ⟨Nat.le_of_ble_eq_true rfl, Nat.le_of_ble_eq_true rfl⟩) (zPc.preV hK hE hP hD [9] rfl rfl (ci := 7) (q0 := 4) rfl rfl) rfl rfl hl.1 rfl (lv_room (Nat.le_of_ble_eq_true rfl)) dX10_next_24 ⟨Nat.le_of_ble_eq_true rfl, Nat.le_of_ble_eq_true rfl⟩) hP hD hS hA [9] rfl rfl rfl hn24
      · have hc_7 := zif hc_7 hk
        by_cases hk : r_4 = 3
        · have hc_7 := zit hc_7 hk
          subst hk
          refine z_calliU (wc := []) (wc' := []) (ws' := [kX10 ad_t ad_t_strikers ad_n ad_m ad_k ad_l ad_e ad_t_toldOnes ad_t_refusals t_hasImage t_toldCount, kN cN ad_t_strikers sa, (sa 0, .inr (6, [])), (sa 1, .inr (5, [])), (sa 2, .inr (7, [])), (sa 3, .inr (1, [])), (sa 4, .inr (9, [])), (sa 5, .inr (2, [])), (sa 6, .inr (3, [])), kX8 ad_n ad_n_steps ad_n_line ad_n_gone ad_n_wentIn n_size n_there n_roundsBy n_kind n_figure n_stepCount, kI cA ad_n_steps 8 n_steps, kI cA ad_n_line 120 n_line]) (va_runU (As := [.ref ad_n, .int (zi (n_roundsBy + 1))]) (rest := []) ⟨hx, hb, hml, hown, hts⟩ (c_X6_countIn l dC dI cA cN _ (sa 3) ad_n (n_roundsBy + 1) r_6 hc_7) (va_cwU 2 hts gX10_next_X6_countIn_u126X1 rfl rfl rfl rfl (by decide +kernel) ⟨Nat.le_of_ble_eq_true rfl, Nat.le_of_ble_eq_true rfl⟩) (zPc.preV hK hE hP hD [] rfl rfl (ci := 1) (q0 := 5) rfl rfl) rfl rfl hl.1 rfl (lv_room (Nat.le_of_ble_eq_true rfl)) dX10_next_24 ⟨Nat.le_of_ble_eq_true rfl, Nat.le_of_ble_eq_true rfl⟩) hP hD hS hA [] rfl rfl rfl hn24
        · have hc_7 := zif hc_7 hk
          by_cases hk : r_4 = 4
          · have hc_7 := zit hc_7 hk
            subst hk
            refine z_calliU (wc := [(sa 4, .inr (9, [])), kX8 ad_n ad_n_steps ad_n_line ad_n_gone ad_n_wentIn n_size n_there n_roundsBy n_kind n_figure n_stepCount, kI cA ad_n_steps 8 n_steps]) (wc' := [(sa 4, .inr (9, [])), kX8 ad_n ad_n_steps ad_n_line ad_n_gone ad_n_wentIn n_size n_there n_roundsBy n_kind n_figure n_stepCount, kI cA ad_n_steps 8 n_steps]) (ws' := [kX10 ad_t ad_t_strikers ad_n ad_m ad_k ad_l ad_e ad_t_toldOnes ad_t_refusals t_hasImage t_toldCount, kN cN ad_t_strikers sa, (sa 0, .inr (6, [])), (sa 1, .inr (5, [])), (sa 2, .inr (7, [])), (sa 3, .inr (1, [])), (sa 4, .inr (9, [])), (sa 5, .inr (2, [])), (sa 6, .inr (3, [])), kX8 ad_n ad_n_steps ad_n_line ad_n_gone ad_n_wentIn n_size n_there n_roundsBy n_kind n_figure n_stepCount, kI cA ad_n_steps 8 n_steps, kI cA ad_n_line 120 n_line]) (va_runU (As := [.ref ad_n, .int (zi (n_roundsBy + 1))]) (rest := []) ⟨hx, hb, hml, hown, hts⟩ (c_X9_countIn l dC dI cA cN _ (sa 4) ad_n ad_n_steps ad_n_line ad_n_gone ad_n_wentIn n_size n_there n_roundsBy n_kind n_figure n_stepCount n_steps (n_roundsBy + 1) r_6 hc_7) (va_cwO 2 hts gX10_next_X9_countIn_u126X9 rfl rfl rfl q_X10_next_3 (by decide +kernel) ⟨Nat.le_of_ble_eq_true rfl, Nat.le_of_ble_eq_true rfl⟩) (zPc.preV hK hE hP hD [6, 9, 10] rfl rfl (ci := 9) (q0 := 6) rfl rfl) rfl rfl hl.1 rfl (lv_room (Nat.le_of_ble_eq_true rfl)) dX10_next_24 ⟨Nat.le_of_ble_eq_true rfl, Nat.le_of_ble_eq_true rfl⟩) hP hD hS hA [6, 9, 10] rfl rfl rfl hn24
          · have hc_7 := zif hc_7 hk
            by_cases hk : r_4 = 5
            · have hc_7 := zit hc_7 hk
              subst hk
              refine z_calliU (wc := []) (wc' := []) (ws' := [kX10 ad_t ad_t_strikers ad_n ad_m ad_k ad_l ad_e ad_t_toldOnes ad_t_refusals t_hasImage t_toldCount, kN cN ad_t_strikers sa, (sa 0, .inr (6, [])), (sa 1, .inr (5, [])), (sa 2, .inr (7, [])), (sa 3, .inr (1, [])), (sa 4, .inr (9, [])), (sa 5, .inr (2, [])), (sa 6, .inr (3, [])), kX8 ad_n ad_n_steps ad_n_line ad_n_gone ad_n_wentIn n_size n_there n_roundsBy n_kind n_figure n_stepCount, kI cA ad_n_steps 8 n_steps, kI cA ad_n_line 120 n_line]) (va_runU (As := [.ref ad_n, .int (zi (n_roundsBy + 1))]) (rest := []) ⟨hx, hb, hml, hown, hts⟩ (c_X6_countIn l dC dI cA cN _ (sa 5) ad_n (n_roundsBy + 1) r_6 hc_7) (va_cwU 2 hts gX10_next_X6_countIn_u126X2 rfl rfl rfl rfl (by decide +kernel) ⟨Nat.le_of_ble_eq_true rfl, Nat.le_of_ble_eq_true rfl⟩) (zPc.preV hK hE hP hD [] rfl rfl (ci := 2) (q0 := 7) rfl rfl) rfl rfl hl.1 rfl (lv_room (Nat.le_of_ble_eq_true rfl)) dX10_next_24 ⟨Nat.le_of_ble_eq_true rfl, Nat.le_of_ble_eq_true rfl⟩) hP hD hS hA [] rfl rfl rfl hn24
            · have hc_7 := zif hc_7 hk
              by_cases hk : r_4 = 6
              · have hc_7 := zit hc_7 hk
                subst hk
                refine z_calliU (wc := []) (wc' := []) (ws' := [kX10 ad_t ad_t_strikers ad_n ad_m ad_k ad_l ad_e ad_t_toldOnes ad_t_refusals t_hasImage t_toldCount, kN cN ad_t_strikers sa, (sa 0, .inr (6, [])), (sa 1, .inr (5, [])), (sa 2, .inr (7, [])), (sa 3, .inr (1, [])), (sa 4, .inr (9, [])), (sa 5, .inr (2, [])), (sa 6, .inr (3, [])), kX8 ad_n ad_n_steps ad_n_line ad_n_gone ad_n_wentIn n_size n_there n_roundsBy n_kind n_figure n_stepCount, kI cA ad_n_steps 8 n_steps, kI cA ad_n_line 120 n_line]) (va_runU (As := [.ref ad_n, .int (zi (n_roundsBy + 1))]) (rest := []) ⟨hx, hb, hml, hown, hts⟩ (c_X3_countIn l dC dI cA cN _ (sa 6) ad_n (n_roundsBy + 1) r_6 hc_7) (va_cwO 2 hts gX10_next_X3_countIn_u126X3 rfl rfl rfl q_X10_next_3 (by decide +kernel) ⟨Nat.le_of_ble_eq_true rfl, Nat.le_of_ble_eq_true rfl⟩) (zPc.preV hK hE hP hD [] rfl rfl (ci := 3) (q0 := 8) rfl rfl) rfl rfl hl.1 rfl (lv_room (Nat.le_of_ble_eq_true rfl)) dX10_next_24 ⟨Nat.le_of_ble_eq_true rfl, Nat.le_of_ble_eq_true rfl⟩) hP hD hS hA [] rfl rfl rfl hn24
              · have hc_7 := zif hc_7 hk
                cases hc_7
-- X10_round
theorem dX10_round_0 : decode cX10_round 0 = .ok (.aload_n 0, 1) := by decide +kernel
theorem dX10_round_1 : decode cX10_round 1 = .ok (.getfield 18, 3) := by decide +kernel
theorem dX10_round_4 : decode cX10_round 4 = .ok (.getfield 123, 3) := by decide +kernel
theorem dX10_round_7 : decode cX10_round 7 = .ok (.sipush 999, 3) := by decide +kernel
theorem dX10_round_10 : decode cX10_round 10 = .ok (.if_icmp .lt 10, 3) := by decide +kernel
theorem dX10_round_13 : decode cX10_round 13 = .ok (.aload_n 0, 1) := by decide +kernel
theorem dX10_round_14 : decode cX10_round 14 = .ok (.bipush 6, 2) := by decide +kernel
theorem dX10_round_16 : decode cX10_round 16 = .ok (.invokevirtual 76, 3) := by decide +kernel
theorem dX10_round_19 : decode cX10_round 19 = .ok (.ireturn, 1) := by decide +kernel
theorem dX10_round_20 : decode cX10_round 20 = .ok (.aload_n 0, 1) := by decide +kernel
theorem dX10_round_21 : decode cX10_round 21 = .ok (.getfield 18, 3) := by decide +kernel
theorem dX10_round_24 : decode cX10_round 24 = .ok (.aload_n 0, 1) := by decide +kernel
theorem dX10_round_25 : decode cX10_round 25 = .ok (.aload_n 0, 1) := by decide +kernel
theorem dX10_round_26 : decode cX10_round 26 = .ok (.getfield 18, 3) := by decide +kernel
theorem dX10_round_29 : decode cX10_round 29 = .ok (.getfield 116, 3) := by decide +kernel
theorem dX10_round_32 : decode cX10_round 32 = .ok (.invokevirtual 119, 3) := by decide +kernel
theorem dX10_round_35 : decode cX10_round 35 = .ok (.invokevirtual 130, 3) := by decide +kernel
theorem dX10_round_38 : decode cX10_round 38 = .ok (.ireturn, 1) := by decide +kernel
set_option maxRecDepth 20000 in
theorem ggX10_round_X10_refuse : GoodIn wsX10_round wsX10_refuse := goodIn_r _ [8, 9, 115, 116, 117, 118, 119, 120, 121, 122, 123, 124] rfl (by decide +kernel)
set_option maxRecDepth 20000 in
theorem gX10_round_X10_refuse : GoodIn wsX10_round (wsV RX10 76 RX10 yX10_refuse wsX10_refuse) := goodIn_app (goodIn_of _ (by decide +kernel)) ggX10_round_X10_refuse
set_option maxRecDepth 20000 in
theorem ggX10_round_X10_striker : GoodIn wsX10_round wsX10_striker := goodIn_r _ [13, 14, 15, 16, 7, 17, 115, 116, 117, 118, 119, 120, 121, 122, 123, 124] rfl (by decide +kernel)
set_option maxRecDepth 20000 in
theorem gX10_round_X10_striker : GoodIn wsX10_round (wsV RX10 119 RX10 yX10_striker wsX10_striker) := goodIn_app (goodIn_of _ (by decide +kernel)) ggX10_round_X10_striker
set_option maxRecDepth 20000 in
theorem ggX10_round_X8_letRoundPass : GoodIn wsX10_round wsX8_letRoundPass := goodIn_r _ [22, 23, 24, 25, 26, 27, 28, 29, 30, 31, 32, 33, 34, 35, 36, 37, 38, 39, 40, 41, 42, 43, 44, 45, 46, 47, 21, 48, 49, 50, 51, 52, 53, 54, 55, 56, 57, 58, 59, 60, 61, 62, 63, 64, 65, 66, 67, 68, 69, 70, 71, 72, 73, 74, 75, 76, 77, 78, 79, 80, 81, 82, 83, 84, 85, 86, 87, 88, 89, 90, 91, 92, 93, 94, 95, 96, 97, 98, 99, 100, 101, 102, 103, 104, 105, 106, 107, 108, 109, 110, 111, 112, 113, 114, 125, 126, 127, 128, 129, 130, 131, 132, 133, 134] rfl (by decide +kernel)
set_option maxRecDepth 20000 in
theorem gX10_round_X8_letRoundPass : GoodIn wsX10_round (wsV RX10 130 RX8 yX8_letRoundPass wsX8_letRoundPass) := goodIn_app (goodIn_of _ (by decide +kernel)) ggX10_round_X8_letRoundPass
noncomputable def f_X10_round (t_refusals : Int → Int) (n_size : Int) (n_there : Int) (n_roundsBy : Int) (n_kind : Int) (n_figure : Int) (n_stepCount : Int) (n_steps : Int → Int) (n_line : Int → Int) (n_gone : Int → Int) (n_wentIn : Int → Int) : Option (Int × (Int → Int) × Int × Int × (Int → Int) × (Int → Int) × (Int → Int)) := zg (zR n_roundsBy) (if n_roundsBy < 999 then (f_X10_striker n_kind).bind (fun r_1 => (f_X8_letRoundPass r_1 n_size n_there n_roundsBy n_figure n_stepCount n_steps n_line n_gone n_wentIn).bind (fun (r_3, n_there_4, n_roundsBy_5, n_line_6, n_gone_7, n_wentIn_8) => some (r_3, t_refusals, n_there_4, n_roundsBy_5, n_line_6, n_gone_7, n_wentIn_8))) else (f_X10_refuse 6 t_refusals).bind (fun (r_10, t_refusals_11) => some (r_10, t_refusals_11, n_there, n_roundsBy, n_line, n_gone, n_wentIn)))
theorem q_X10_round_0 : Cond.fieldLink RX10 18 "EachSecondStruck" "now" "LEachSecondStruck$Standing;" ∈ wsX10_round := by decide +kernel
theorem q_X10_round_1 : Cond.fieldLink RX10 123 "EachSecondStruck$Standing" "roundsBy" "I" ∈ wsX10_round := by decide +kernel
theorem q_X10_round_2 : Cond.fieldLink RX10 116 "EachSecondStruck$Standing" "kind" "I" ∈ wsX10_round := by decide +kernel
theorem in_X10_round_X10 : ∀ w ∈ u_ws RX10 TX10 10, w ∈ wsX10_round := by decide +kernel
theorem in_X10_round_X8 : ∀ w ∈ u_ws RX8 TX8 10, w ∈ wsX10_round := by decide +kernel
set_option maxHeartbeats 4000000 in
set_option maxRecDepth 100000 in
theorem c_X10_round (l : Launch) (dC : Nat → ClassId) (dI : Nat → Nat → Nat) (cA cN : ClassId) (sz : Nat) (ad_t : Nat) (ad_t_strikers : Nat) (ad_n : Nat) (ad_m : Nat) (ad_k : Nat) (ad_l : Nat) (ad_e : Nat) (ad_t_toldOnes : Nat) (ad_t_refusals : Nat) (ad_n_steps : Nat) (ad_n_line : Nat) (ad_n_gone : Nat) (ad_n_wentIn : Nat) (sa : Nat → Nat) (t_hasImage : Int) (t_toldCount : Int) (n_size : Int) (n_there : Int) (n_roundsBy : Int) (n_kind : Int) (n_figure : Int) (n_stepCount : Int) (t_refusals : Int → Int) (n_gone : Int → Int) (n_line : Int → Int) (n_steps : Int → Int) (n_wentIn : Int → Int)  (r0 : Int) (t_refusals9 : Int → Int) (n_there9 : Int) (n_roundsBy9 : Int) (n_line9 : Int → Int) (n_gone9 : Int → Int) (n_wentIn9 : Int → Int) (h : f_X10_round t_refusals n_size n_there n_roundsBy n_kind n_figure n_stepCount n_steps n_line n_gone n_wentIn = some (r0, t_refusals9, n_there9, n_roundsBy9, n_line9, n_gone9, n_wentIn9)) : Met l yX10_round wsX10_round { frames := 3, cells := 0, slots := 0, locals := 75 } (zPc (dC, dI) (zT cA cN) [kX10 ad_t ad_t_strikers ad_n ad_m ad_k ad_l ad_e ad_t_toldOnes ad_t_refusals t_hasImage t_toldCount, kI cA ad_t_refusals 7 t_refusals, kN cN ad_t_strikers sa, (sa 0, .inr (6, [])), (sa 1, .inr (5, [])), (sa 2, .inr (7, [])), (sa 3, .inr (1, [])), (sa 4, .inr (9, [])), (sa 5, .inr (2, [])), (sa 6, .inr (3, [])), kX8 ad_n ad_n_steps ad_n_line ad_n_gone ad_n_wentIn n_size n_there n_roundsBy n_kind n_figure n_stepCount, kI cA ad_n_steps 8 n_steps, kI cA ad_n_line 120 n_line, kI cA ad_n_gone 120 n_gone, kI cA ad_n_wentIn 121 n_wentIn] [.ref ad_t] sz) (zQi (dC, dI) [kX10 ad_t ad_t_strikers ad_n ad_m ad_k ad_l ad_e ad_t_toldOnes ad_t_refusals t_hasImage t_toldCount, kI cA ad_t_refusals 7 t_refusals9, kN cN ad_t_strikers sa, (sa 0, .inr (6, [])), (sa 1, .inr (5, [])), (sa 2, .inr (7, [])), (sa 3, .inr (1, [])), (sa 4, .inr (9, [])), (sa 5, .inr (2, [])), (sa 6, .inr (3, [])), kX8 ad_n ad_n_steps ad_n_line ad_n_gone ad_n_wentIn n_size n_there9 n_roundsBy9 n_kind n_figure n_stepCount, kI cA ad_n_steps 8 n_steps, kI cA ad_n_line 120 n_line9, kI cA ad_n_gone 120 n_gone9, kI cA ad_n_wentIn 121 n_wentIn9] r0 (va_A [kX10 ad_t ad_t_strikers ad_n ad_m ad_k ad_l ad_e ad_t_toldOnes ad_t_refusals t_hasImage t_toldCount, kI cA ad_t_refusals 7 t_refusals, kN cN ad_t_strikers sa, (sa 0, .inr (6, [])), (sa 1, .inr (5, [])), (sa 2, .inr (7, [])), (sa 3, .inr (1, [])), (sa 4, .inr (9, [])), (sa 5, .inr (2, [])), (sa 6, .inr (3, [])), kX8 ad_n ad_n_steps ad_n_line ad_n_gone ad_n_wentIn n_size n_there n_roundsBy n_kind n_figure n_stepCount, kI cA ad_n_steps 8 n_steps, kI cA ad_n_line 120 n_line, kI cA ad_n_gone 120 n_gone, kI cA ad_n_wentIn 121 n_wentIn] sz)) 0 0 (va_A [kX10 ad_t ad_t_strikers ad_n ad_m ad_k ad_l ad_e ad_t_toldOnes ad_t_refusals t_hasImage t_toldCount, kI cA ad_t_refusals 7 t_refusals, kN cN ad_t_strikers sa, (sa 0, .inr (6, [])), (sa 1, .inr (5, [])), (sa 2, .inr (7, [])), (sa 3, .inr (1, [])), (sa 4, .inr (9, [])), (sa 5, .inr (2, [])), (sa 6, .inr (3, [])), kX8 ad_n ad_n_steps ad_n_line ad_n_gone ad_n_wentIn n_size n_there n_roundsBy n_kind n_figure n_stepCount, kI cA ad_n_steps 8 n_steps, kI cA ad_n_line 120 n_line, kI cA ad_n_gone 120 n_gone, kI cA ad_n_wentIn 121 n_wentIn] sz) := by
  refine z_ofW (QF := fun A => zQi (dC, dI) [kX10 ad_t ad_t_strikers ad_n ad_m ad_k ad_l ad_e ad_t_toldOnes ad_t_refusals t_hasImage t_toldCount, kI cA ad_t_refusals 7 t_refusals9, kN cN ad_t_strikers sa, (sa 0, .inr (6, [])), (sa 1, .inr (5, [])), (sa 2, .inr (7, [])), (sa 3, .inr (1, [])), (sa 4, .inr (9, [])), (sa 5, .inr (2, [])), (sa 6, .inr (3, [])), kX8 ad_n ad_n_steps ad_n_line ad_n_gone ad_n_wentIn n_size n_there9 n_roundsBy9 n_kind n_figure n_stepCount, kI cA ad_n_steps 8 n_steps, kI cA ad_n_line 120 n_line9, kI cA ad_n_gone 120 n_gone9, kI cA ad_n_wentIn 121 n_wentIn9] r0 A) (by decide) rfl (Nat.le_of_ble_eq_true rfl) ?_
  intro p e s m below meth c ls A hx hb hml hr hlocks hnm hts hown hK hP hD hE hsz hA hS hl
  have hl : lv_has ls 1 [(0, .ref ad_t)] := hl
  unfold f_X10_round at h
  refine lv_aload_n hx hb dX10_round_0 rfl (lv_at hl 0 rfl) ?_
  refine va_get (D := (dC, dI)) (ci := 10) (v := .ref ad_n) (C := RX10) (T := TX10) (N := 10) hx hb hts in_X10_round_X10 hown hK hP 0 rfl rfl 1 (by decide) (hts _ q_X10_round_0) (fun _ h9 => h9) rfl dX10_round_1 ?_
  refine va_get (D := (dC, dI)) (ci := 8) (v := .int (zi n_roundsBy)) (C := RX8) (T := TX8) (N := 10) hx hb hts in_X10_round_X8 hown hK hP 10 rfl rfl 2 (by decide) (hts _ q_X10_round_1) (fun _ h9 => h9) rfl dX10_round_4 ?_
  refine z_sipush hx hb (by decide +kernel) dX10_round_7 ?_
  refine z_icmp_lt (tgt := 20) hx hb dX10_round_10 (by decide) h (fun q => ⟨q, by decide⟩) (fun h => ?_) (fun h => ?_)
  · refine lv_aload_n hx hb dX10_round_20 rfl (lv_at hl 0 rfl) ?_
    refine va_get (D := (dC, dI)) (ci := 10) (v := .ref ad_n) (C := RX10) (T := TX10) (N := 10) hx hb hts in_X10_round_X10 hown hK hP 0 rfl rfl 1 (by decide) (hts _ q_X10_round_0) (fun _ h9 => h9) rfl dX10_round_21 ?_
    refine lv_aload_n hx hb dX10_round_24 rfl (lv_at hl 0 rfl) ?_
    refine lv_aload_n hx hb dX10_round_25 rfl (lv_at hl 0 rfl) ?_
    refine va_get (D := (dC, dI)) (ci := 10) (v := .ref ad_n) (C := RX10) (T := TX10) (N := 10) hx hb hts in_X10_round_X10 hown hK hP 0 rfl rfl 1 (by decide) (hts _ q_X10_round_0) (fun _ h9 => h9) rfl dX10_round_26 ?_
    refine va_get (D := (dC, dI)) (ci := 8) (v := .int (zi n_kind)) (C := RX8) (T := TX8) (N := 10) hx hb hts in_X10_round_X8 hown hK hP 10 rfl rfl 3 (by decide) (hts _ q_X10_round_2) (fun _ h9 => h9) rfl dX10_round_29 ?_
    obtain ⟨r_13, hc_14, h⟩ := zb h
    try dsimp only at h
    refine z_callrU (wc := [kX10 ad_t ad_t_strikers ad_n ad_m ad_k ad_l ad_e ad_t_toldOnes ad_t_refusals t_hasImage t_toldCount, kN cN ad_t_strikers sa, (sa 0, .inr (6, [])), (sa 1, .inr (5, [])), (sa 2, .inr (7, [])), (sa 3, .inr (1, [])), (sa 4, .inr (9, [])), (sa 5, .inr (2, [])), (sa 6, .inr (3, []))]) (wc' := [kX10 ad_t ad_t_strikers ad_n ad_m ad_k ad_l ad_e ad_t_toldOnes ad_t_refusals t_hasImage t_toldCount, kN cN ad_t_strikers sa, (sa 0, .inr (6, [])), (sa 1, .inr (5, [])), (sa 2, .inr (7, [])), (sa 3, .inr (1, [])), (sa 4, .inr (9, [])), (sa 5, .inr (2, [])), (sa 6, .inr (3, []))]) (ws' := [kX10 ad_t ad_t_strikers ad_n ad_m ad_k ad_l ad_e ad_t_toldOnes ad_t_refusals t_hasImage t_toldCount, kI cA ad_t_refusals 7 t_refusals, kN cN ad_t_strikers sa, (sa 0, .inr (6, [])), (sa 1, .inr (5, [])), (sa 2, .inr (7, [])), (sa 3, .inr (1, [])), (sa 4, .inr (9, [])), (sa 5, .inr (2, [])), (sa 6, .inr (3, [])), kX8 ad_n ad_n_steps ad_n_line ad_n_gone ad_n_wentIn n_size n_there n_roundsBy n_kind n_figure n_stepCount, kI cA ad_n_steps 8 n_steps, kI cA ad_n_line 120 n_line, kI cA ad_n_gone 120 n_gone, kI cA ad_n_wentIn 121 n_wentIn]) (va_runV (As := [.int (zi n_kind)]) (rest := [.ref ad_n]) ⟨hx, hb, hml, hown, hts⟩ (c_X10_striker l dC dI cA cN _ ad_t ad_t_strikers ad_n ad_m ad_k ad_l ad_e ad_t_toldOnes ad_t_refusals sa t_hasImage t_toldCount n_kind r_13 hc_14) (cwV 1 hts gX10_round_X10_striker rfl rfl rfl (by decide +kernel) ⟨Nat.le_of_ble_eq_true rfl, Nat.le_of_ble_eq_true rfl⟩) (zPc.preV hK hE hP hD [0, 2, 3, 4, 5, 6, 7, 8, 9] rfl rfl (ci := 10) (q0 := 0) rfl rfl) rfl rfl hl.1 rfl (lv_room (Nat.le_of_ble_eq_true rfl)) dX10_round_32 ⟨Nat.le_of_ble_eq_true rfl, Nat.le_of_ble_eq_true rfl⟩) hP hD hS hA [0, 2, 3, 4, 5, 6, 7, 8, 9] rfl rfl rfl (fun H locs hP hD hS => ?_)
    obtain ⟨⟨r_15, n_there_16, n_roundsBy_17, n_line_18, n_gone_19, n_wentIn_20⟩, hc_21, h⟩ := zb h
    try dsimp only at h
    refine z_calliU (wc := [kX8 ad_n ad_n_steps ad_n_line ad_n_gone ad_n_wentIn n_size n_there n_roundsBy n_kind n_figure n_stepCount, kI cA ad_n_steps 8 n_steps, kI cA ad_n_line 120 n_line, kI cA ad_n_gone 120 n_gone, kI cA ad_n_wentIn 121 n_wentIn, (sa 0, .inr (6, [])), (sa 1, .inr (5, [])), (sa 2, .inr (7, [])), (sa 3, .inr (1, [])), (sa 4, .inr (9, [])), (sa 5, .inr (2, [])), (sa 6, .inr (3, []))]) (wc' := [kX8 ad_n ad_n_steps ad_n_line ad_n_gone ad_n_wentIn n_size n_there_16 n_roundsBy_17 n_kind n_figure n_stepCount, kI cA ad_n_steps 8 n_steps, kI cA ad_n_line 120 n_line_18, kI cA ad_n_gone 120 n_gone_19, kI cA ad_n_wentIn 121 n_wentIn_20, (sa 0, .inr (6, [])), (sa 1, .inr (5, [])), (sa 2, .inr (7, [])), (sa 3, .inr (1, [])), (sa 4, .inr (9, [])), (sa 5, .inr (2, [])), (sa 6, .inr (3, []))]) (ws' := [kX10 ad_t ad_t_strikers ad_n ad_m ad_k ad_l ad_e ad_t_toldOnes ad_t_refusals t_hasImage t_toldCount, kI cA ad_t_refusals 7 t_refusals, kN cN ad_t_strikers sa, (sa 0, .inr (6, [])), (sa 1, .inr (5, [])), (sa 2, .inr (7, [])), (sa 3, .inr (1, [])), (sa 4, .inr (9, [])), (sa 5, .inr (2, [])), (sa 6, .inr (3, [])), kX8 ad_n ad_n_steps ad_n_line ad_n_gone ad_n_wentIn n_size n_there_16 n_roundsBy_17 n_kind n_figure n_stepCount, kI cA ad_n_steps 8 n_steps, kI cA ad_n_line 120 n_line_18, kI cA ad_n_gone 120 n_gone_19, kI cA ad_n_wentIn 121 n_wentIn_20]) (va_runV (As := [.ref (sa (r_13).toNat)]) (rest := []) ⟨hx, hb, hml, hown, hts⟩ (c_X8_letRoundPass l dC dI cA cN _ ad_n ad_n_steps ad_n_line ad_n_gone ad_n_wentIn sa n_size n_there n_roundsBy n_kind n_figure n_stepCount n_gone n_line n_steps n_wentIn r_13 r_15 n_there_16 n_roundsBy_17 n_line_18 n_gone_19 n_wentIn_20 hc_21) (cwV 1 hts gX10_round_X8_letRoundPass rfl rfl rfl (by decide +kernel) ⟨Nat.le_of_ble_eq_true rfl, Nat.le_of_ble_eq_true rfl⟩) (zPc.preV hK hE hP hD [10, 11, 12, 13, 14, 3, 4, 5, 6, 7, 8, 9] rfl rfl (ci := 8) (q0 := 10) rfl rfl) rfl rfl hl.1 rfl (lv_room (Nat.le_of_ble_eq_true rfl)) dX10_round_35 ⟨Nat.le_of_ble_eq_true rfl, Nat.le_of_ble_eq_true rfl⟩) hP hD hS hA [10, 11, 12, 13, 14, 3, 4, 5, 6, 7, 8, 9] rfl rfl rfl (fun H locs hP hD hS => ?_)
    cases h
    exact z_iret hx hb hr hlocks hP hD hS dX10_round_38
  · refine lv_aload_n hx hb dX10_round_13 rfl (lv_at hl 0 rfl) ?_
    refine z_bipush hx hb (by decide +kernel) dX10_round_14 ?_
    obtain ⟨⟨r_22, t_refusals_23⟩, hc_24, h⟩ := zb h
    try dsimp only at h
    refine z_calliU (wc := [kX10 ad_t ad_t_strikers ad_n ad_m ad_k ad_l ad_e ad_t_toldOnes ad_t_refusals t_hasImage t_toldCount, kI cA ad_t_refusals 7 t_refusals]) (wc' := [kX10 ad_t ad_t_strikers ad_n ad_m ad_k ad_l ad_e ad_t_toldOnes ad_t_refusals t_hasImage t_toldCount, kI cA ad_t_refusals 7 t_refusals_23]) (ws' := [kX10 ad_t ad_t_strikers ad_n ad_m ad_k ad_l ad_e ad_t_toldOnes ad_t_refusals t_hasImage t_toldCount, kI cA ad_t_refusals 7 t_refusals_23, kN cN ad_t_strikers sa, (sa 0, .inr (6, [])), (sa 1, .inr (5, [])), (sa 2, .inr (7, [])), (sa 3, .inr (1, [])), (sa 4, .inr (9, [])), (sa 5, .inr (2, [])), (sa 6, .inr (3, [])), kX8 ad_n ad_n_steps ad_n_line ad_n_gone ad_n_wentIn n_size n_there n_roundsBy n_kind n_figure n_stepCount, kI cA ad_n_steps 8 n_steps, kI cA ad_n_line 120 n_line, kI cA ad_n_gone 120 n_gone, kI cA ad_n_wentIn 121 n_wentIn]) (va_runV (As := [.int (zi 6)]) (rest := []) ⟨hx, hb, hml, hown, hts⟩ (c_X10_refuse l dC dI cA cN _ ad_t ad_t_strikers ad_n ad_m ad_k ad_l ad_e ad_t_toldOnes ad_t_refusals t_hasImage t_toldCount t_refusals 6 r_22 t_refusals_23 hc_24) (cwV 1 hts gX10_round_X10_refuse rfl rfl rfl (by decide +kernel) ⟨Nat.le_of_ble_eq_true rfl, Nat.le_of_ble_eq_true rfl⟩) (zPc.preV hK hE hP hD [0, 1] rfl rfl (ci := 10) (q0 := 0) rfl rfl) rfl rfl hl.1 rfl (lv_room (Nat.le_of_ble_eq_true rfl)) dX10_round_16 ⟨Nat.le_of_ble_eq_true rfl, Nat.le_of_ble_eq_true rfl⟩) hP hD hS hA [0, 1] rfl rfl rfl (fun H locs hP hD hS => ?_)
    cases h
    exact z_iret hx hb hr hlocks hP hD hS dX10_round_19
-- X10_left
theorem dX10_left_0 : decode cX10_left 0 = .ok (.iload_n 1, 1) := by decide +kernel
theorem dX10_left_1 : decode cX10_left 1 = .ok (.iconst 1, 1) := by decide +kernel
theorem dX10_left_2 : decode cX10_left 2 = .ok (.if_icmp .ge 9, 3) := by decide +kernel
theorem dX10_left_5 : decode cX10_left 5 = .ok (.aload_n 0, 1) := by decide +kernel
theorem dX10_left_6 : decode cX10_left 6 = .ok (.iconst 4, 1) := by decide +kernel
theorem dX10_left_7 : decode cX10_left 7 = .ok (.invokevirtual 76, 3) := by decide +kernel
theorem dX10_left_10 : decode cX10_left 10 = .ok (.ireturn, 1) := by decide +kernel
theorem dX10_left_11 : decode cX10_left 11 = .ok (.aload_n 0, 1) := by decide +kernel
theorem dX10_left_12 : decode cX10_left 12 = .ok (.getfield 18, 3) := by decide +kernel
theorem dX10_left_15 : decode cX10_left 15 = .ok (.iload_n 1, 1) := by decide +kernel
theorem dX10_left_16 : decode cX10_left 16 = .ok (.iconst 1, 1) := by decide +kernel
theorem dX10_left_17 : decode cX10_left 17 = .ok (.isub, 1) := by decide +kernel
theorem dX10_left_18 : decode cX10_left 18 = .ok (.invokevirtual 134, 3) := by decide +kernel
theorem dX10_left_21 : decode cX10_left 21 = .ok (.ireturn, 1) := by decide +kernel
set_option maxRecDepth 20000 in
theorem ggX10_left_X10_refuse : GoodIn wsX10_left wsX10_refuse := goodIn_r _ [6, 7, 15, 16, 17, 18, 19, 20, 21, 22, 23, 24] rfl (by decide +kernel)
set_option maxRecDepth 20000 in
theorem gX10_left_X10_refuse : GoodIn wsX10_left (wsV RX10 76 RX10 yX10_refuse wsX10_refuse) := goodIn_app (goodIn_of _ (by decide +kernel)) ggX10_left_X10_refuse
set_option maxRecDepth 20000 in
theorem ggX10_left_X8_numberAt : GoodIn wsX10_left wsX8_numberAt := goodIn_r _ [12, 13, 14, 25, 26, 27, 28, 29, 30, 31, 32, 33, 34] rfl (by decide +kernel)
set_option maxRecDepth 20000 in
theorem gX10_left_X8_numberAt : GoodIn wsX10_left (wsV RX10 134 RX8 yX8_numberAt wsX8_numberAt) := goodIn_app (goodIn_of _ (by decide +kernel)) ggX10_left_X8_numberAt
noncomputable def f_X10_left (v1 : Int) (t_refusals : Int → Int) (n_there : Int) (n_line : Int → Int) : Option (Int × (Int → Int)) := zg (zR v1) (if 1 ≤ v1 then (f_X8_numberAt (v1 - 1) n_there n_line).bind (fun r_1 => some (r_1, t_refusals)) else (f_X10_refuse 4 t_refusals).bind (fun (r_3, t_refusals_4) => some (r_3, t_refusals_4)))
theorem q_X10_left_0 : Cond.fieldLink RX10 18 "EachSecondStruck" "now" "LEachSecondStruck$Standing;" ∈ wsX10_left := by decide +kernel
theorem in_X10_left_X10 : ∀ w ∈ u_ws RX10 TX10 10, w ∈ wsX10_left := by decide +kernel
set_option maxHeartbeats 4000000 in
set_option maxRecDepth 100000 in
theorem c_X10_left (l : Launch) (dC : Nat → ClassId) (dI : Nat → Nat → Nat) (cA cN : ClassId) (sz : Nat) (ad_t : Nat) (ad_t_strikers : Nat) (ad_n : Nat) (ad_m : Nat) (ad_k : Nat) (ad_l : Nat) (ad_e : Nat) (ad_t_toldOnes : Nat) (ad_t_refusals : Nat) (ad_n_steps : Nat) (ad_n_line : Nat) (ad_n_gone : Nat) (ad_n_wentIn : Nat) (t_hasImage : Int) (t_toldCount : Int) (n_size : Int) (n_there : Int) (n_roundsBy : Int) (n_kind : Int) (n_figure : Int) (n_stepCount : Int) (t_refusals : Int → Int) (n_line : Int → Int) (v1 : Int) (r0 : Int) (t_refusals9 : Int → Int) (h : f_X10_left v1 t_refusals n_there n_line = some (r0, t_refusals9)) : Met l yX10_left wsX10_left { frames := 1, cells := 0, slots := 0, locals := 21 } (zPc (dC, dI) (zT cA cN) [kX10 ad_t ad_t_strikers ad_n ad_m ad_k ad_l ad_e ad_t_toldOnes ad_t_refusals t_hasImage t_toldCount, kI cA ad_t_refusals 7 t_refusals, kX8 ad_n ad_n_steps ad_n_line ad_n_gone ad_n_wentIn n_size n_there n_roundsBy n_kind n_figure n_stepCount, kI cA ad_n_line 120 n_line] [.ref ad_t, .int (zi v1)] sz) (zQi (dC, dI) [kX10 ad_t ad_t_strikers ad_n ad_m ad_k ad_l ad_e ad_t_toldOnes ad_t_refusals t_hasImage t_toldCount, kI cA ad_t_refusals 7 t_refusals9, kX8 ad_n ad_n_steps ad_n_line ad_n_gone ad_n_wentIn n_size n_there n_roundsBy n_kind n_figure n_stepCount, kI cA ad_n_line 120 n_line] r0 (va_A [kX10 ad_t ad_t_strikers ad_n ad_m ad_k ad_l ad_e ad_t_toldOnes ad_t_refusals t_hasImage t_toldCount, kI cA ad_t_refusals 7 t_refusals, kX8 ad_n ad_n_steps ad_n_line ad_n_gone ad_n_wentIn n_size n_there n_roundsBy n_kind n_figure n_stepCount, kI cA ad_n_line 120 n_line] sz)) 0 0 (va_A [kX10 ad_t ad_t_strikers ad_n ad_m ad_k ad_l ad_e ad_t_toldOnes ad_t_refusals t_hasImage t_toldCount, kI cA ad_t_refusals 7 t_refusals, kX8 ad_n ad_n_steps ad_n_line ad_n_gone ad_n_wentIn n_size n_there n_roundsBy n_kind n_figure n_stepCount, kI cA ad_n_line 120 n_line] sz) := by
  refine z_ofW (QF := fun A => zQi (dC, dI) [kX10 ad_t ad_t_strikers ad_n ad_m ad_k ad_l ad_e ad_t_toldOnes ad_t_refusals t_hasImage t_toldCount, kI cA ad_t_refusals 7 t_refusals9, kX8 ad_n ad_n_steps ad_n_line ad_n_gone ad_n_wentIn n_size n_there n_roundsBy n_kind n_figure n_stepCount, kI cA ad_n_line 120 n_line] r0 A) (by decide) rfl (Nat.le_of_ble_eq_true rfl) ?_
  intro p e s m below meth c ls A hx hb hml hr hlocks hnm hts hown hK hP hD hE hsz hA hS hl
  have hl : lv_has ls 2 [(0, .ref ad_t), (1, .int (zi v1))] := hl
  unfold f_X10_left at h
  refine lv_iload_n hx hb dX10_left_0 rfl (lv_at hl 1 rfl) ?_
  refine z_iconst hx hb dX10_left_1 ?_
  refine z_icmp_ge (tgt := 11) hx hb dX10_left_2 (by decide) h (fun q => ⟨q, by decide⟩) (fun h => ?_) (fun h => ?_)
  · refine lv_aload_n hx hb dX10_left_11 rfl (lv_at hl 0 rfl) ?_
    refine va_get (D := (dC, dI)) (ci := 10) (v := .ref ad_n) (C := RX10) (T := TX10) (N := 10) hx hb hts in_X10_left_X10 hown hK hP 0 rfl rfl 1 (by decide) (hts _ q_X10_left_0) (fun _ h9 => h9) rfl dX10_left_12 ?_
    refine lv_iload_n hx hb dX10_left_15 rfl (lv_at hl 1 rfl) ?_
    refine z_iconst hx hb dX10_left_16 ?_
    refine z_isub hx hb dX10_left_17 ?_
    obtain ⟨r_6, hc_7, h⟩ := zb h
    try dsimp only at h
    refine z_calliU (wc := [kX8 ad_n ad_n_steps ad_n_line ad_n_gone ad_n_wentIn n_size n_there n_roundsBy n_kind n_figure n_stepCount, kI cA ad_n_line 120 n_line]) (wc' := [kX8 ad_n ad_n_steps ad_n_line ad_n_gone ad_n_wentIn n_size n_there n_roundsBy n_kind n_figure n_stepCount, kI cA ad_n_line 120 n_line]) (ws' := [kX10 ad_t ad_t_strikers ad_n ad_m ad_k ad_l ad_e ad_t_toldOnes ad_t_refusals t_hasImage t_toldCount, kI cA ad_t_refusals 7 t_refusals, kX8 ad_n ad_n_steps ad_n_line ad_n_gone ad_n_wentIn n_size n_there n_roundsBy n_kind n_figure n_stepCount, kI cA ad_n_line 120 n_line]) (va_runV (As := [.int (zi (v1 - 1))]) (rest := []) ⟨hx, hb, hml, hown, hts⟩ (c_X8_numberAt l dC dI cA cN _ ad_n ad_n_steps ad_n_line ad_n_gone ad_n_wentIn n_size n_there n_roundsBy n_kind n_figure n_stepCount n_line (v1 - 1) r_6 hc_7) (cwV 1 hts gX10_left_X8_numberAt rfl rfl rfl (by decide +kernel) ⟨Nat.le_of_ble_eq_true rfl, Nat.le_of_ble_eq_true rfl⟩) (zPc.preV hK hE hP hD [2, 3] rfl rfl (ci := 8) (q0 := 2) rfl rfl) rfl rfl hl.1 rfl (lv_room (Nat.le_of_ble_eq_true rfl)) dX10_left_18 ⟨Nat.le_of_ble_eq_true rfl, Nat.le_of_ble_eq_true rfl⟩) hP hD hS hA [2, 3] rfl rfl rfl (fun H locs hP hD hS => ?_)
    cases h
    exact z_iret hx hb hr hlocks hP hD hS dX10_left_21
  · refine lv_aload_n hx hb dX10_left_5 rfl (lv_at hl 0 rfl) ?_
    refine z_iconst hx hb dX10_left_6 ?_
    obtain ⟨⟨r_8, t_refusals_9⟩, hc_10, h⟩ := zb h
    try dsimp only at h
    refine z_calliU (wc := [kX10 ad_t ad_t_strikers ad_n ad_m ad_k ad_l ad_e ad_t_toldOnes ad_t_refusals t_hasImage t_toldCount, kI cA ad_t_refusals 7 t_refusals]) (wc' := [kX10 ad_t ad_t_strikers ad_n ad_m ad_k ad_l ad_e ad_t_toldOnes ad_t_refusals t_hasImage t_toldCount, kI cA ad_t_refusals 7 t_refusals_9]) (ws' := [kX10 ad_t ad_t_strikers ad_n ad_m ad_k ad_l ad_e ad_t_toldOnes ad_t_refusals t_hasImage t_toldCount, kI cA ad_t_refusals 7 t_refusals_9, kX8 ad_n ad_n_steps ad_n_line ad_n_gone ad_n_wentIn n_size n_there n_roundsBy n_kind n_figure n_stepCount, kI cA ad_n_line 120 n_line]) (va_runV (As := [.int (zi 4)]) (rest := []) ⟨hx, hb, hml, hown, hts⟩ (c_X10_refuse l dC dI cA cN _ ad_t ad_t_strikers ad_n ad_m ad_k ad_l ad_e ad_t_toldOnes ad_t_refusals t_hasImage t_toldCount t_refusals 4 r_8 t_refusals_9 hc_10) (cwV 1 hts gX10_left_X10_refuse rfl rfl rfl (by decide +kernel) ⟨Nat.le_of_ble_eq_true rfl, Nat.le_of_ble_eq_true rfl⟩) (zPc.preV hK hE hP hD [0, 1] rfl rfl (ci := 10) (q0 := 0) rfl rfl) rfl rfl hl.1 rfl (lv_room (Nat.le_of_ble_eq_true rfl)) dX10_left_7 ⟨Nat.le_of_ble_eq_true rfl, Nat.le_of_ble_eq_true rfl⟩) hP hD hS hA [0, 1] rfl rfl rfl (fun H locs hP hD hS => ?_)
    cases h
    exact z_iret hx hb hr hlocks hP hD hS dX10_left_10
-- X10_place
theorem dX10_place_0 : decode cX10_place 0 = .ok (.aload_n 0, 1) := by decide +kernel
theorem dX10_place_1 : decode cX10_place 1 = .ok (.getfield 18, 3) := by decide +kernel
theorem dX10_place_4 : decode cX10_place 4 = .ok (.iload_n 1, 1) := by decide +kernel
theorem dX10_place_5 : decode cX10_place 5 = .ok (.invokevirtual 109, 3) := by decide +kernel
theorem dX10_place_8 : decode cX10_place 8 = .ok (.ifCond .ne 9, 3) := by decide +kernel
theorem dX10_place_11 : decode cX10_place 11 = .ok (.aload_n 0, 1) := by decide +kernel
theorem dX10_place_12 : decode cX10_place 12 = .ok (.iconst 1, 1) := by decide +kernel
theorem dX10_place_13 : decode cX10_place 13 = .ok (.invokevirtual 76, 3) := by decide +kernel
theorem dX10_place_16 : decode cX10_place 16 = .ok (.ireturn, 1) := by decide +kernel
theorem dX10_place_17 : decode cX10_place 17 = .ok (.aload_n 0, 1) := by decide +kernel
theorem dX10_place_18 : decode cX10_place 18 = .ok (.getfield 18, 3) := by decide +kernel
theorem dX10_place_21 : decode cX10_place 21 = .ok (.iload_n 1, 1) := by decide +kernel
theorem dX10_place_22 : decode cX10_place 22 = .ok (.invokevirtual 137, 3) := by decide +kernel
theorem dX10_place_25 : decode cX10_place 25 = .ok (.ireturn, 1) := by decide +kernel
set_option maxRecDepth 20000 in
theorem ggX10_place_X8_hasNumber : GoodIn wsX10_place wsX8_hasNumber := goodIn_r _ [6, 7, 30, 31, 32, 33, 34, 35, 36, 37, 38, 39] rfl (by decide +kernel)
set_option maxRecDepth 20000 in
theorem gX10_place_X8_hasNumber : GoodIn wsX10_place (wsV RX10 109 RX8 yX8_hasNumber wsX8_hasNumber) := goodIn_app (goodIn_of _ (by decide +kernel)) ggX10_place_X8_hasNumber
set_option maxRecDepth 20000 in
theorem ggX10_place_X10_refuse : GoodIn wsX10_place wsX10_refuse := goodIn_r _ [12, 13, 20, 21, 22, 23, 24, 25, 26, 27, 28, 29] rfl (by decide +kernel)
set_option maxRecDepth 20000 in
theorem gX10_place_X10_refuse : GoodIn wsX10_place (wsV RX10 76 RX10 yX10_refuse wsX10_refuse) := goodIn_app (goodIn_of _ (by decide +kernel)) ggX10_place_X10_refuse
set_option maxRecDepth 20000 in
theorem ggX10_place_X8_placeOf : GoodIn wsX10_place wsX8_placeOf := goodIn_r _ [17, 18, 19, 30, 31, 32, 33, 34, 35, 36, 37, 38, 39] rfl (by decide +kernel)
set_option maxRecDepth 20000 in
theorem gX10_place_X8_placeOf : GoodIn wsX10_place (wsV RX10 137 RX8 yX8_placeOf wsX8_placeOf) := goodIn_app (goodIn_of _ (by decide +kernel)) ggX10_place_X8_placeOf
noncomputable def f_X10_place (v1 : Int) (t_refusals : Int → Int) (n_size : Int) (n_there : Int) (n_line : Int → Int) : Option (Int × (Int → Int)) := (f_X8_hasNumber v1 n_size).bind (fun r_1 => zg (zR r_1) (if ¬ r_1 = 0 then (f_X8_placeOf v1 n_there n_line).bind (fun r_3 => some (r_3, t_refusals)) else (f_X10_refuse 1 t_refusals).bind (fun (r_5, t_refusals_6) => some (r_5, t_refusals_6))))
theorem q_X10_place_0 : Cond.fieldLink RX10 18 "EachSecondStruck" "now" "LEachSecondStruck$Standing;" ∈ wsX10_place := by decide +kernel
theorem in_X10_place_X10 : ∀ w ∈ u_ws RX10 TX10 10, w ∈ wsX10_place := by decide +kernel
set_option maxHeartbeats 4000000 in
set_option maxRecDepth 100000 in
theorem c_X10_place (l : Launch) (dC : Nat → ClassId) (dI : Nat → Nat → Nat) (cA cN : ClassId) (sz : Nat) (ad_t : Nat) (ad_t_strikers : Nat) (ad_n : Nat) (ad_m : Nat) (ad_k : Nat) (ad_l : Nat) (ad_e : Nat) (ad_t_toldOnes : Nat) (ad_t_refusals : Nat) (ad_n_steps : Nat) (ad_n_line : Nat) (ad_n_gone : Nat) (ad_n_wentIn : Nat) (t_hasImage : Int) (t_toldCount : Int) (n_size : Int) (n_there : Int) (n_roundsBy : Int) (n_kind : Int) (n_figure : Int) (n_stepCount : Int) (t_refusals : Int → Int) (n_line : Int → Int) (v1 : Int) (r0 : Int) (t_refusals9 : Int → Int) (h : f_X10_place v1 t_refusals n_size n_there n_line = some (r0, t_refusals9)) : Met l yX10_place wsX10_place { frames := 1, cells := 0, slots := 0, locals := 22 } (zPc (dC, dI) (zT cA cN) [kX10 ad_t ad_t_strikers ad_n ad_m ad_k ad_l ad_e ad_t_toldOnes ad_t_refusals t_hasImage t_toldCount, kI cA ad_t_refusals 7 t_refusals, kX8 ad_n ad_n_steps ad_n_line ad_n_gone ad_n_wentIn n_size n_there n_roundsBy n_kind n_figure n_stepCount, kI cA ad_n_line 120 n_line] [.ref ad_t, .int (zi v1)] sz) (zQi (dC, dI) [kX10 ad_t ad_t_strikers ad_n ad_m ad_k ad_l ad_e ad_t_toldOnes ad_t_refusals t_hasImage t_toldCount, kI cA ad_t_refusals 7 t_refusals9, kX8 ad_n ad_n_steps ad_n_line ad_n_gone ad_n_wentIn n_size n_there n_roundsBy n_kind n_figure n_stepCount, kI cA ad_n_line 120 n_line] r0 (va_A [kX10 ad_t ad_t_strikers ad_n ad_m ad_k ad_l ad_e ad_t_toldOnes ad_t_refusals t_hasImage t_toldCount, kI cA ad_t_refusals 7 t_refusals, kX8 ad_n ad_n_steps ad_n_line ad_n_gone ad_n_wentIn n_size n_there n_roundsBy n_kind n_figure n_stepCount, kI cA ad_n_line 120 n_line] sz)) 0 0 (va_A [kX10 ad_t ad_t_strikers ad_n ad_m ad_k ad_l ad_e ad_t_toldOnes ad_t_refusals t_hasImage t_toldCount, kI cA ad_t_refusals 7 t_refusals, kX8 ad_n ad_n_steps ad_n_line ad_n_gone ad_n_wentIn n_size n_there n_roundsBy n_kind n_figure n_stepCount, kI cA ad_n_line 120 n_line] sz) := by
  refine z_ofW (QF := fun A => zQi (dC, dI) [kX10 ad_t ad_t_strikers ad_n ad_m ad_k ad_l ad_e ad_t_toldOnes ad_t_refusals t_hasImage t_toldCount, kI cA ad_t_refusals 7 t_refusals9, kX8 ad_n ad_n_steps ad_n_line ad_n_gone ad_n_wentIn n_size n_there n_roundsBy n_kind n_figure n_stepCount, kI cA ad_n_line 120 n_line] r0 A) (by decide) rfl (Nat.le_of_ble_eq_true rfl) ?_
  intro p e s m below meth c ls A hx hb hml hr hlocks hnm hts hown hK hP hD hE hsz hA hS hl
  have hl : lv_has ls 2 [(0, .ref ad_t), (1, .int (zi v1))] := hl
  unfold f_X10_place at h
  refine lv_aload_n hx hb dX10_place_0 rfl (lv_at hl 0 rfl) ?_
  refine va_get (D := (dC, dI)) (ci := 10) (v := .ref ad_n) (C := RX10) (T := TX10) (N := 10) hx hb hts in_X10_place_X10 hown hK hP 0 rfl rfl 1 (by decide) (hts _ q_X10_place_0) (fun _ h9 => h9) rfl dX10_place_1 ?_
  refine lv_iload_n hx hb dX10_place_4 rfl (lv_at hl 1 rfl) ?_
  obtain ⟨r_8, hc_9, h⟩ := zb h
  try dsimp only at h
  refine z_calliU (wc := [kX8 ad_n ad_n_steps ad_n_line ad_n_gone ad_n_wentIn n_size n_there n_roundsBy n_kind n_figure n_stepCount]) (wc' := [kX8 ad_n ad_n_steps ad_n_line ad_n_gone ad_n_wentIn n_size n_there n_roundsBy n_kind n_figure n_stepCount]) (ws' := [kX10 ad_t ad_t_strikers ad_n ad_m ad_k ad_l ad_e ad_t_toldOnes ad_t_refusals t_hasImage t_toldCount, kI cA ad_t_refusals 7 t_refusals, kX8 ad_n ad_n_steps ad_n_line ad_n_gone ad_n_wentIn n_size n_there n_roundsBy n_kind n_figure n_stepCount, kI cA ad_n_line 120 n_line]) (va_runV (As := [.int (zi v1)]) (rest := []) ⟨hx, hb, hml, hown, hts⟩ (c_X8_hasNumber l dC dI cA cN _ ad_n ad_n_steps ad_n_line ad_n_gone ad_n_wentIn n_size n_there n_roundsBy n_kind n_figure n_stepCount v1 r_8 hc_9) (cwV 1 hts gX10_place_X8_hasNumber rfl rfl rfl (by decide +kernel) ⟨Nat.le_of_ble_eq_true rfl, Nat.le_of_ble_eq_true rfl⟩) (zPc.preV hK hE hP hD [2] rfl rfl (ci := 8) (q0 := 2) rfl rfl) rfl rfl hl.1 rfl (lv_room (Nat.le_of_ble_eq_true rfl)) dX10_place_5 ⟨Nat.le_of_ble_eq_true rfl, Nat.le_of_ble_eq_true rfl⟩) hP hD hS hA [2] rfl rfl rfl (fun H locs hP hD hS => ?_)
  refine z_if_ne (tgt := 17) hx hb dX10_place_8 (by decide) h (fun h => ?_) (fun h => ?_)
  · refine lv_aload_n hx hb dX10_place_17 rfl (lv_at hl 0 rfl) ?_
    refine va_get (D := (dC, dI)) (ci := 10) (v := .ref ad_n) (C := RX10) (T := TX10) (N := 10) hx hb hts in_X10_place_X10 hown hK hP 0 rfl rfl 1 (by decide) (hts _ q_X10_place_0) (fun _ h9 => h9) rfl dX10_place_18 ?_
    refine lv_iload_n hx hb dX10_place_21 rfl (lv_at hl 1 rfl) ?_
    obtain ⟨r_10, hc_11, h⟩ := zb h
    try dsimp only at h
    refine z_calliU (wc := [kX8 ad_n ad_n_steps ad_n_line ad_n_gone ad_n_wentIn n_size n_there n_roundsBy n_kind n_figure n_stepCount, kI cA ad_n_line 120 n_line]) (wc' := [kX8 ad_n ad_n_steps ad_n_line ad_n_gone ad_n_wentIn n_size n_there n_roundsBy n_kind n_figure n_stepCount, kI cA ad_n_line 120 n_line]) (ws' := [kX10 ad_t ad_t_strikers ad_n ad_m ad_k ad_l ad_e ad_t_toldOnes ad_t_refusals t_hasImage t_toldCount, kI cA ad_t_refusals 7 t_refusals, kX8 ad_n ad_n_steps ad_n_line ad_n_gone ad_n_wentIn n_size n_there n_roundsBy n_kind n_figure n_stepCount, kI cA ad_n_line 120 n_line]) (va_runV (As := [.int (zi v1)]) (rest := []) ⟨hx, hb, hml, hown, hts⟩ (c_X8_placeOf l dC dI cA cN _ ad_n ad_n_steps ad_n_line ad_n_gone ad_n_wentIn n_size n_there n_roundsBy n_kind n_figure n_stepCount n_line v1 r_10 hc_11) (cwV 1 hts gX10_place_X8_placeOf rfl rfl rfl (by decide +kernel) ⟨Nat.le_of_ble_eq_true rfl, Nat.le_of_ble_eq_true rfl⟩) (zPc.preV hK hE hP hD [2, 3] rfl rfl (ci := 8) (q0 := 2) rfl rfl) rfl rfl hl.1 rfl (lv_room (Nat.le_of_ble_eq_true rfl)) dX10_place_22 ⟨Nat.le_of_ble_eq_true rfl, Nat.le_of_ble_eq_true rfl⟩) hP hD hS hA [2, 3] rfl rfl rfl (fun H locs hP hD hS => ?_)
    cases h
    exact z_iret hx hb hr hlocks hP hD hS dX10_place_25
  · refine lv_aload_n hx hb dX10_place_11 rfl (lv_at hl 0 rfl) ?_
    refine z_iconst hx hb dX10_place_12 ?_
    obtain ⟨⟨r_12, t_refusals_13⟩, hc_14, h⟩ := zb h
    try dsimp only at h
    refine z_calliU (wc := [kX10 ad_t ad_t_strikers ad_n ad_m ad_k ad_l ad_e ad_t_toldOnes ad_t_refusals t_hasImage t_toldCount, kI cA ad_t_refusals 7 t_refusals]) (wc' := [kX10 ad_t ad_t_strikers ad_n ad_m ad_k ad_l ad_e ad_t_toldOnes ad_t_refusals t_hasImage t_toldCount, kI cA ad_t_refusals 7 t_refusals_13]) (ws' := [kX10 ad_t ad_t_strikers ad_n ad_m ad_k ad_l ad_e ad_t_toldOnes ad_t_refusals t_hasImage t_toldCount, kI cA ad_t_refusals 7 t_refusals_13, kX8 ad_n ad_n_steps ad_n_line ad_n_gone ad_n_wentIn n_size n_there n_roundsBy n_kind n_figure n_stepCount, kI cA ad_n_line 120 n_line]) (va_runV (As := [.int (zi 1)]) (rest := []) ⟨hx, hb, hml, hown, hts⟩ (c_X10_refuse l dC dI cA cN _ ad_t ad_t_strikers ad_n ad_m ad_k ad_l ad_e ad_t_toldOnes ad_t_refusals t_hasImage t_toldCount t_refusals 1 r_12 t_refusals_13 hc_14) (cwV 1 hts gX10_place_X10_refuse rfl rfl rfl (by decide +kernel) ⟨Nat.le_of_ble_eq_true rfl, Nat.le_of_ble_eq_true rfl⟩) (zPc.preV hK hE hP hD [0, 1] rfl rfl (ci := 10) (q0 := 0) rfl rfl) rfl rfl hl.1 rfl (lv_room (Nat.le_of_ble_eq_true rfl)) dX10_place_13 ⟨Nat.le_of_ble_eq_true rfl, Nat.le_of_ble_eq_true rfl⟩) hP hD hS hA [0, 1] rfl rfl rfl (fun H locs hP hD hS => ?_)
    cases h
    exact z_iret hx hb hr hlocks hP hD hS dX10_place_16
