-- X0_countIn
theorem dX0_countIn_0 : decode cX0_countIn 0 = .ok (.iload_n 1, 1) := by decide +kernel
theorem dX0_countIn_1 : decode cX0_countIn 1 = .ok (.iconst 1, 1) := by decide +kernel
theorem dX0_countIn_2 : decode cX0_countIn 2 = .ok (.if_icmp .ne 29, 3) := by decide +kernel
theorem dX0_countIn_5 : decode cX0_countIn 5 = .ok (.iload_n 3, 1) := by decide +kernel
theorem dX0_countIn_6 : decode cX0_countIn 6 = .ok (.iconst 1, 1) := by decide +kernel
theorem dX0_countIn_7 : decode cX0_countIn 7 = .ok (.if_icmp .lt 21, 3) := by decide +kernel
theorem dX0_countIn_10 : decode cX0_countIn 10 = .ok (.iload_n 3, 1) := by decide +kernel
theorem dX0_countIn_11 : decode cX0_countIn 11 = .ok (.aload_n 0, 1) := by decide +kernel
theorem dX0_countIn_12 : decode cX0_countIn 12 = .ok (.getfield 11, 3) := by decide +kernel
theorem dX0_countIn_15 : decode cX0_countIn 15 = .ok (.arraylength, 1) := by decide +kernel
theorem dX0_countIn_16 : decode cX0_countIn 16 = .ok (.if_icmp .ge 12, 3) := by decide +kernel
theorem dX0_countIn_19 : decode cX0_countIn 19 = .ok (.aload_n 0, 1) := by decide +kernel
theorem dX0_countIn_20 : decode cX0_countIn 20 = .ok (.getfield 11, 3) := by decide +kernel
theorem dX0_countIn_23 : decode cX0_countIn 23 = .ok (.iload_n 3, 1) := by decide +kernel
theorem dX0_countIn_24 : decode cX0_countIn 24 = .ok (.iaload, 1) := by decide +kernel
theorem dX0_countIn_25 : decode cX0_countIn 25 = .ok (.goto 5, 3) := by decide +kernel
theorem dX0_countIn_28 : decode cX0_countIn 28 = .ok (.ldc 29, 2) := by decide +kernel
theorem dX0_countIn_30 : decode cX0_countIn 30 = .ok (.ireturn, 1) := by decide +kernel
theorem dX0_countIn_31 : decode cX0_countIn 31 = .ok (.iload_n 1, 1) := by decide +kernel
theorem dX0_countIn_32 : decode cX0_countIn 32 = .ok (.iconst 2, 1) := by decide +kernel
theorem dX0_countIn_33 : decode cX0_countIn 33 = .ok (.if_icmp .ne 7, 3) := by decide +kernel
theorem dX0_countIn_36 : decode cX0_countIn 36 = .ok (.iload_n 2, 1) := by decide +kernel
theorem dX0_countIn_37 : decode cX0_countIn 37 = .ok (.goto 6, 3) := by decide +kernel
theorem dX0_countIn_40 : decode cX0_countIn 40 = .ok (.iload_n 3, 1) := by decide +kernel
theorem dX0_countIn_41 : decode cX0_countIn 41 = .ok (.iconst 1, 1) := by decide +kernel
theorem dX0_countIn_42 : decode cX0_countIn 42 = .ok (.iadd, 1) := by decide +kernel
theorem dX0_countIn_43 : decode cX0_countIn 43 = .ok (.ireturn, 1) := by decide +kernel
noncomputable def f_X0_countIn (v1 : Int) (v2 : Int) (v3 : Int) (t_luckCounts : Int → Int) : Option (Int) := zg (zR v1) (if ¬ v1 = 1 then zg (zR v1) (if ¬ v1 = 2 then some (v3 + 1) else some v2) else zg (zR v3) (if v3 < 1 then some 1000000 else zg (zR v3) (if 65 ≤ v3 then some 1000000 else zg ((0 : Int) ≤ v3 ∧ v3 < (65 : Int)) (some (t_luckCounts v3)))))
theorem q_X0_countIn_0 : Cond.constant RX0 29 (1000000) ∈ wsX0_countIn := by decide +kernel
theorem q_X0_countIn_1 : Cond.fieldLink RX0 11 "EachSecondStruck$EndlessRow" "luckCounts" "[I" ∈ wsX0_countIn := by decide +kernel
theorem in_X0_countIn_X0 : ∀ w ∈ u_ws RX0 TX0 1, w ∈ wsX0_countIn := by decide +kernel
set_option maxHeartbeats 4000000 in
set_option maxRecDepth 100000 in
theorem c_X0_countIn (l : Launch) (dC : Nat → ClassId) (dI : Nat → Nat → Nat) (cA cN : ClassId) (sz : Nat) (ad_t : Nat) (ad_t_luckCounts : Nat) (t_luckCounts : Int → Int) (v1 : Int) (v2 : Int) (v3 : Int) (r0 : Int) (h : f_X0_countIn v1 v2 v3 t_luckCounts = some r0) : Met l yX0_countIn wsX0_countIn { frames := 0, cells := 0, slots := 0, locals := 0 } (zPc (dC, dI) (zT cA cN) [kX0 ad_t ad_t_luckCounts, kI cA ad_t_luckCounts 65 t_luckCounts] [.ref ad_t, .int (zi v1), .int (zi v2), .int (zi v3)] sz) (zQi (dC, dI) [kX0 ad_t ad_t_luckCounts, kI cA ad_t_luckCounts 65 t_luckCounts] r0 (va_A [kX0 ad_t ad_t_luckCounts, kI cA ad_t_luckCounts 65 t_luckCounts] sz)) 0 0 (va_A [kX0 ad_t ad_t_luckCounts, kI cA ad_t_luckCounts 65 t_luckCounts] sz) := by
  refine z_ofW (QF := fun A => zQi (dC, dI) [kX0 ad_t ad_t_luckCounts, kI cA ad_t_luckCounts 65 t_luckCounts] r0 A) (by decide) rfl (Nat.le_of_ble_eq_true rfl) ?_
  intro p e s m below meth c ls A hx hb hml hr hlocks hnm hts hown hK hP hD hE hsz hA hS hl
  have hl : lv_has ls 4 [(0, .ref ad_t), (1, .int (zi v1)), (2, .int (zi v2)), (3, .int (zi v3))] := hl
  unfold f_X0_countIn at h
  refine lv_iload_n hx hb dX0_countIn_0 rfl (lv_at hl 1 rfl) ?_
  refine z_iconst hx hb dX0_countIn_1 ?_
  refine z_icmp_ne (tgt := 31) hx hb dX0_countIn_2 (by decide) h (fun q => ⟨q, by decide⟩) (fun h => ?_) (fun h => ?_)
  · refine lv_iload_n hx hb dX0_countIn_31 rfl (lv_at hl 1 rfl) ?_
    refine z_iconst hx hb dX0_countIn_32 ?_
    refine z_icmp_ne (tgt := 40) hx hb dX0_countIn_33 (by decide) h (fun q => ⟨q, by decide⟩) (fun h => ?_) (fun h => ?_)
    · refine lv_iload_n hx hb dX0_countIn_40 rfl (lv_at hl 3 rfl) ?_
      refine z_iconst hx hb dX0_countIn_41 ?_
      refine z_iadd hx hb dX0_countIn_42 ?_
      cases h
      exact z_iret hx hb hr hlocks hP hD hS dX0_countIn_43
    · refine lv_iload_n hx hb dX0_countIn_36 rfl (lv_at hl 2 rfl) ?_
      refine lv_goto (tgt := 43) hx hb dX0_countIn_37 (by decide) ?_
      cases h
      exact z_iret hx hb hr hlocks hP hD hS dX0_countIn_43
  · refine lv_iload_n hx hb dX0_countIn_5 rfl (lv_at hl 3 rfl) ?_
    refine z_iconst hx hb dX0_countIn_6 ?_
    refine z_icmp_lt (tgt := 28) hx hb dX0_countIn_7 (by decide) h (fun q => ⟨q, by decide⟩) (fun h => ?_) (fun h => ?_)
    · refine z_ldc (x := 1000000) hx hb (by decide +kernel) hown (hts _ q_X0_countIn_0) dX0_countIn_28 ?_
      cases h
      exact z_iret hx hb hr hlocks hP hD hS dX0_countIn_30
    · refine lv_iload_n hx hb dX0_countIn_10 rfl (lv_at hl 3 rfl) ?_
      refine lv_aload_n hx hb dX0_countIn_11 rfl (lv_at hl 0 rfl) ?_
      refine va_get (D := (dC, dI)) (ci := 0) (v := .ref ad_t_luckCounts) (C := RX0) (T := TX0) (N := 1) hx hb hts in_X0_countIn_X0 hown hK hP 0 rfl rfl 0 (by decide) (hts _ q_X0_countIn_1) (fun _ h9 => h9) rfl dX0_countIn_12 ?_
      refine z_alen (N := 65) hx hb hK hP 1 0 rfl rfl rfl dX0_countIn_15 ?_
      refine z_icmp_ge (tgt := 28) hx hb dX0_countIn_16 (by decide) h (fun q => ⟨q, by decide⟩) (fun h => ?_) (fun h => ?_)
      · refine z_ldc (x := 1000000) hx hb (by decide +kernel) hown (hts _ q_X0_countIn_0) dX0_countIn_28 ?_
        cases h
        exact z_iret hx hb hr hlocks hP hD hS dX0_countIn_30
      · refine lv_aload_n hx hb dX0_countIn_19 rfl (lv_at hl 0 rfl) ?_
        refine va_get (D := (dC, dI)) (ci := 0) (v := .ref ad_t_luckCounts) (C := RX0) (T := TX0) (N := 1) hx hb hts in_X0_countIn_X0 hown hK hP 0 rfl rfl 0 (by decide) (hts _ q_X0_countIn_1) (fun _ h9 => h9) rfl dX0_countIn_20 ?_
        refine lv_iload_n hx hb dX0_countIn_23 rfl (lv_at hl 3 rfl) ?_
        refine z_iald (N := 65) hx hb hK hP 1 0 rfl rfl rfl (by decide) dX0_countIn_24 h (fun h => ?_)
        refine lv_goto (tgt := 30) hx hb dX0_countIn_25 (by decide) ?_
        cases h
        exact z_iret hx hb hr hlocks hP hD hS dX0_countIn_30
-- X0_goUp
theorem dX0_goUp_0 : decode cX0_goUp 0 = .ok (.iconst 0, 1) := by decide +kernel
theorem dX0_goUp_1 : decode cX0_goUp 1 = .ok (.istore 5, 2) := by decide +kernel
theorem dX0_goUp_3 : decode cX0_goUp 3 = .ok (.iload 5, 2) := by decide +kernel
theorem dX0_goUp_5 : decode cX0_goUp 5 = .ok (.iload 4, 2) := by decide +kernel
theorem dX0_goUp_7 : decode cX0_goUp 7 = .ok (.if_icmp .ge 23, 3) := by decide +kernel
theorem dX0_goUp_10 : decode cX0_goUp 10 = .ok (.aload_n 0, 1) := by decide +kernel
theorem dX0_goUp_11 : decode cX0_goUp 11 = .ok (.iload_n 1, 1) := by decide +kernel
theorem dX0_goUp_12 : decode cX0_goUp 12 = .ok (.iload_n 2, 1) := by decide +kernel
theorem dX0_goUp_13 : decode cX0_goUp 13 = .ok (.iload 5, 2) := by decide +kernel
theorem dX0_goUp_15 : decode cX0_goUp 15 = .ok (.iconst 1, 1) := by decide +kernel
theorem dX0_goUp_16 : decode cX0_goUp 16 = .ok (.iadd, 1) := by decide +kernel
theorem dX0_goUp_17 : decode cX0_goUp 17 = .ok (.invokevirtual 19, 3) := by decide +kernel
theorem dX0_goUp_20 : decode cX0_goUp 20 = .ok (.iload_n 3, 1) := by decide +kernel
theorem dX0_goUp_21 : decode cX0_goUp 21 = .ok (.if_icmp .gt 9, 3) := by decide +kernel
theorem dX0_goUp_24 : decode cX0_goUp 24 = .ok (.iinc 5 1, 3) := by decide +kernel
theorem dX0_goUp_27 : decode cX0_goUp 27 = .ok (.goto (-24), 3) := by decide +kernel
theorem dX0_goUp_30 : decode cX0_goUp 30 = .ok (.iload_n 3, 1) := by decide +kernel
theorem dX0_goUp_31 : decode cX0_goUp 31 = .ok (.istore 6, 2) := by decide +kernel
theorem dX0_goUp_33 : decode cX0_goUp 33 = .ok (.iload 5, 2) := by decide +kernel
theorem dX0_goUp_35 : decode cX0_goUp 35 = .ok (.iconst 1, 1) := by decide +kernel
theorem dX0_goUp_36 : decode cX0_goUp 36 = .ok (.if_icmp .lt 33, 3) := by decide +kernel
theorem dX0_goUp_39 : decode cX0_goUp 39 = .ok (.iload 6, 2) := by decide +kernel
theorem dX0_goUp_41 : decode cX0_goUp 41 = .ok (.iload 6, 2) := by decide +kernel
theorem dX0_goUp_43 : decode cX0_goUp 43 = .ok (.iconst 1, 1) := by decide +kernel
theorem dX0_goUp_44 : decode cX0_goUp 44 = .ok (.isub, 1) := by decide +kernel
theorem dX0_goUp_45 : decode cX0_goUp 45 = .ok (.aload_n 0, 1) := by decide +kernel
theorem dX0_goUp_46 : decode cX0_goUp 46 = .ok (.iload_n 1, 1) := by decide +kernel
theorem dX0_goUp_47 : decode cX0_goUp 47 = .ok (.iload_n 2, 1) := by decide +kernel
theorem dX0_goUp_48 : decode cX0_goUp 48 = .ok (.iload 5, 2) := by decide +kernel
theorem dX0_goUp_50 : decode cX0_goUp 50 = .ok (.invokevirtual 19, 3) := by decide +kernel
theorem dX0_goUp_53 : decode cX0_goUp 53 = .ok (.iconst 1, 1) := by decide +kernel
theorem dX0_goUp_54 : decode cX0_goUp 54 = .ok (.isub, 1) := by decide +kernel
theorem dX0_goUp_55 : decode cX0_goUp 55 = .ok (.iconst 1, 1) := by decide +kernel
theorem dX0_goUp_56 : decode cX0_goUp 56 = .ok (.invokestatic 23, 3) := by decide +kernel
theorem dX0_goUp_59 : decode cX0_goUp 59 = .ok (.idiv, 1) := by decide +kernel
theorem dX0_goUp_60 : decode cX0_goUp 60 = .ok (.iadd, 1) := by decide +kernel
theorem dX0_goUp_61 : decode cX0_goUp 61 = .ok (.istore 6, 2) := by decide +kernel
theorem dX0_goUp_63 : decode cX0_goUp 63 = .ok (.iinc 5 (-1), 3) := by decide +kernel
theorem dX0_goUp_66 : decode cX0_goUp 66 = .ok (.goto (-33), 3) := by decide +kernel
theorem dX0_goUp_69 : decode cX0_goUp 69 = .ok (.iload 6, 2) := by decide +kernel
theorem dX0_goUp_71 : decode cX0_goUp 71 = .ok (.ireturn, 1) := by decide +kernel
set_option maxRecDepth 20000 in
theorem ggX0_goUp_X0_countIn : GoodIn wsX0_goUp wsX0_countIn := goodIn_r _ [9, 10, 11, 12] rfl (by decide +kernel)
set_option maxRecDepth 20000 in
theorem gX0_goUp_X0_countIn : GoodIn wsX0_goUp (wsV RX0 19 RX0 yX0_countIn wsX0_countIn) := goodIn_app (goodIn_of _ (by decide +kernel)) ggX0_goUp_X0_countIn
noncomputable def f_X0_goUp_L3 : Nat → Int → Int → Int → Int → Int → (Int → Int) → Option (Int)
  | 0, _, _, _, _, _, _ => none
  | n + 1, v1, v2, v3, v4, v5, t_luckCounts => zg (zR v5 ∧ zR v4) (if v4 ≤ v5 then some v5 else (f_X0_countIn v1 v2 (v5 + 1) t_luckCounts).bind (fun r_1 => zg (zR r_1 ∧ zR v3) (if v3 < r_1 then some v5 else f_X0_goUp_L3 n v1 v2 v3 v4 (v5 + 1) t_luckCounts)))
theorem f_X0_goUp_L3_z (v1 : Int) (v2 : Int) (v3 : Int) (v4 : Int) (v5 : Int) (t_luckCounts : Int → Int) : f_X0_goUp_L3 0 v1 v2 v3 v4 v5 t_luckCounts = none := rfl
theorem f_X0_goUp_L3_s (n : Nat) (v1 : Int) (v2 : Int) (v3 : Int) (v4 : Int) (v5 : Int) (t_luckCounts : Int → Int) : f_X0_goUp_L3 (n + 1) v1 v2 v3 v4 v5 t_luckCounts = zg (zR v5 ∧ zR v4) (if v4 ≤ v5 then some v5 else (f_X0_countIn v1 v2 (v5 + 1) t_luckCounts).bind (fun r_1 => zg (zR r_1 ∧ zR v3) (if v3 < r_1 then some v5 else f_X0_goUp_L3 n v1 v2 v3 v4 (v5 + 1) t_luckCounts))) := rfl
noncomputable def f_X0_goUp_L33 : Nat → Int → Int → Int → Int → (Int → Int) → Option (Int)
  | 0, _, _, _, _, _ => none
  | n + 1, v1, v2, v5, v6, t_luckCounts => zg (zR v5) (if v5 < 1 then some v6 else (f_X0_countIn v1 v2 v5 t_luckCounts).bind (fun r_4 => zg (zR (r_4 - 1) ∧ zR 1) (zg ((0 : Int) ≤ (v6 - 1) ∧ (v6 - 1) ≤ (2147483647 : Int) ∧ (0 : Int) < (if (r_4 - 1) < 1 then 1 else (r_4 - 1)) ∧ (if (r_4 - 1) < 1 then 1 else (r_4 - 1)) ≤ (2147483647 : Int)) (f_X0_goUp_L33 n v1 v2 (v5 + (-1)) (v6 + ((v6 - 1) / (if (r_4 - 1) < 1 then 1 else (r_4 - 1)))) t_luckCounts))))
theorem f_X0_goUp_L33_z (v1 : Int) (v2 : Int) (v5 : Int) (v6 : Int) (t_luckCounts : Int → Int) : f_X0_goUp_L33 0 v1 v2 v5 v6 t_luckCounts = none := rfl
theorem f_X0_goUp_L33_s (n : Nat) (v1 : Int) (v2 : Int) (v5 : Int) (v6 : Int) (t_luckCounts : Int → Int) : f_X0_goUp_L33 (n + 1) v1 v2 v5 v6 t_luckCounts = zg (zR v5) (if v5 < 1 then some v6 else (f_X0_countIn v1 v2 v5 t_luckCounts).bind (fun r_4 => zg (zR (r_4 - 1) ∧ zR 1) (zg ((0 : Int) ≤ (v6 - 1) ∧ (v6 - 1) ≤ (2147483647 : Int) ∧ (0 : Int) < (if (r_4 - 1) < 1 then 1 else (r_4 - 1)) ∧ (if (r_4 - 1) < 1 then 1 else (r_4 - 1)) ≤ (2147483647 : Int)) (f_X0_goUp_L33 n v1 v2 (v5 + (-1)) (v6 + ((v6 - 1) / (if (r_4 - 1) < 1 then 1 else (r_4 - 1)))) t_luckCounts)))) := rfl
noncomputable def f_X0_goUp (v1 : Int) (v2 : Int) (v3 : Int) (v4 : Int) (t_luckCounts : Int → Int) : Option (Int) := (f_X0_goUp_L3 zF v1 v2 v3 v4 0 t_luckCounts).bind (fun v5_3 => (f_X0_goUp_L33 zF v1 v2 v5_3 v3 t_luckCounts).bind (fun v6_6 => some v6_6))
theorem q_X0_goUp_0 : Cond.methodLink RX0 23 Lib.Math.max.name ∈ wsX0_goUp := by decide +kernel
theorem q_X0_goUp_1 : Cond.static Lib.Math.max.name ∈ wsX0_goUp := by decide +kernel
theorem q_X0_goUp_2 : Cond.initialized "java/lang/Math" ∈ wsX0_goUp := by decide +kernel
theorem q_X0_goUp_3 : Cond.code Lib.Math.max.name Lib.Math.max.code 2 (some .int) ∈ wsX0_goUp := by decide +kernel
set_option maxHeartbeats 4000000 in
set_option maxRecDepth 100000 in
theorem c_X0_goUp (l : Launch) (dC : Nat → ClassId) (dI : Nat → Nat → Nat) (cA cN : ClassId) (sz : Nat) (ad_t : Nat) (ad_t_luckCounts : Nat) (t_luckCounts : Int → Int) (v1 : Int) (v2 : Int) (v3 : Int) (v4 : Int) (r0 : Int) (h : f_X0_goUp v1 v2 v3 v4 t_luckCounts = some r0) : Met l yX0_goUp wsX0_goUp { frames := 1, cells := 0, slots := 0, locals := 23 } (zPc (dC, dI) (zT cA cN) [kX0 ad_t ad_t_luckCounts, kI cA ad_t_luckCounts 65 t_luckCounts] [.ref ad_t, .int (zi v1), .int (zi v2), .int (zi v3), .int (zi v4)] sz) (zQi (dC, dI) [kX0 ad_t ad_t_luckCounts, kI cA ad_t_luckCounts 65 t_luckCounts] r0 (va_A [kX0 ad_t ad_t_luckCounts, kI cA ad_t_luckCounts 65 t_luckCounts] sz)) 0 0 (va_A [kX0 ad_t ad_t_luckCounts, kI cA ad_t_luckCounts 65 t_luckCounts] sz) := by
  refine z_ofW (QF := fun A => zQi (dC, dI) [kX0 ad_t ad_t_luckCounts, kI cA ad_t_luckCounts 65 t_luckCounts] r0 A) (by decide) rfl (Nat.le_of_ble_eq_true rfl) ?_
  intro p e s m below meth c ls A hx hb hml hr hlocks hnm hts hown hK hP hD hE hsz hA hS hl
  have hl : lv_has ls 7 [(0, .ref ad_t), (1, .int (zi v1)), (2, .int (zi v2)), (3, .int (zi v3)), (4, .int (zi v4))] := hl
  unfold f_X0_goUp at h
  refine z_iconst hx hb dX0_goUp_0 ?_
  refine lv_istore (lv' := [(5, .int (zi 0)), (0, .ref ad_t), (1, .int (zi v1)), (2, .int (zi v2)), (3, .int (zi v3)), (4, .int (zi v4))]) hx hb dX0_goUp_1 hl (by decide) rfl (fun ls hl => ?_)
  obtain ⟨v5_7, hl_8, h⟩ := zb h
  try dsimp only at h
  have hx3 : ∀ (v5_9 : Int) (H : Heap) (locs : List Loc) (ls : Array Slot), some v5_9 = some v5_7 → va_P (dC, dI) vwCl [kX0 ad_t ad_t_luckCounts, kI cA ad_t_luckCounts 65 t_luckCounts] H → va_D A [kX0 ad_t ad_t_luckCounts, kI cA ad_t_luckCounts 65 t_luckCounts] → va_S A s.heap H locs → lv_has ls 7 [(0, .ref ad_t), (1, .int (zi v1)), (2, .int (zi v2)), (3, .int (zi v3)), (5, .int (zi v5_9))] → W p l e { frames := 1, cells := 0, slots := 0, locals := 23 } s m ([.ref ad_t, .int (zi v1), .int (zi v2), .int (zi v3), .int (zi v4)] : List Value).toArray below meth c H locs 0 0 (MQ below (zQi (dC, dI) [kX0 ad_t ad_t_luckCounts, kI cA ad_t_luckCounts 65 t_luckCounts] r0 A) ([.ref ad_t, .int (zi v1), .int (zi v2), .int (zi v3), .int (zi v4)] : List Value).toArray s 0 0 A) (F0 m 30 ls []) := by
    intro v5_9 H locs ls he hP hD hS hl
    obtain rfl := zinj1 he
    refine lv_iload_n hx hb dX0_goUp_30 rfl (lv_at hl 3 rfl) ?_
    refine lv_istore (lv' := [(6, .int (zi v3)), (0, .ref ad_t), (1, .int (zi v1)), (2, .int (zi v2)), (3, .int (zi v3)), (5, .int (zi v5_7))]) hx hb dX0_goUp_31 hl (by decide) rfl (fun ls hl => ?_)
    obtain ⟨v6_10, hl_11, h⟩ := zb h
    try dsimp only at h
    have hx33 : ∀ (v6_12 : Int) (H : Heap) (locs : List Loc) (ls : Array Slot), some v6_12 = some v6_10 → va_P (dC, dI) vwCl [kX0 ad_t ad_t_luckCounts, kI cA ad_t_luckCounts 65 t_luckCounts] H → va_D A [kX0 ad_t ad_t_luckCounts, kI cA ad_t_luckCounts 65 t_luckCounts] → va_S A s.heap H locs → lv_has ls 7 [(6, .int (zi v6_12))] → W p l e { frames := 1, cells := 0, slots := 0, locals := 23 } s m ([.ref ad_t, .int (zi v1), .int (zi v2), .int (zi v3), .int (zi v4)] : List Value).toArray below meth c H locs 0 0 (MQ below (zQi (dC, dI) [kX0 ad_t ad_t_luckCounts, kI cA ad_t_luckCounts 65 t_luckCounts] r0 A) ([.ref ad_t, .int (zi v1), .int (zi v2), .int (zi v3), .int (zi v4)] : List Value).toArray s 0 0 A) (F0 m 69 ls []) := by
      intro v6_12 H locs ls he hP hD hS hl
      obtain rfl := zinj1 he
      refine lv_iload hx hb dX0_goUp_69 (lv_at hl 0 rfl) ?_
      cases h
      exact z_iret hx hb hr hlocks hP hD hS dX0_goUp_71
    clear h
    have hlp33 : ∀ (n : Nat) (v5_13 : Int) (v6_14 : Int) (H : Heap) (locs : List Loc) (ls : Array Slot), f_X0_goUp_L33 n v1 v2 v5_13 v6_14 t_luckCounts = some v6_10 → va_P (dC, dI) vwCl [kX0 ad_t ad_t_luckCounts, kI cA ad_t_luckCounts 65 t_luckCounts] H → va_D A [kX0 ad_t ad_t_luckCounts, kI cA ad_t_luckCounts 65 t_luckCounts] → va_S A s.heap H locs → lv_has ls 7 [(0, .ref ad_t), (1, .int (zi v1)), (2, .int (zi v2)), (5, .int (zi v5_13)), (6, .int (zi v6_14))] → W p l e { frames := 1, cells := 0, slots := 0, locals := 23 } s m ([.ref ad_t, .int (zi v1), .int (zi v2), .int (zi v3), .int (zi v4)] : List Value).toArray below meth c H locs 0 0 (MQ below (zQi (dC, dI) [kX0 ad_t ad_t_luckCounts, kI cA ad_t_luckCounts 65 t_luckCounts] r0 A) ([.ref ad_t, .int (zi v1), .int (zi v2), .int (zi v3), .int (zi v4)] : List Value).toArray s 0 0 A) (F0 m 33 ls []) := by
      intro n
      induction n with
      | zero => intro v5_13 v6_14 H locs ls h; rw [f_X0_goUp_L33_z] at h; cases h
      | succ n ih33 =>
        intro v5_13 v6_14 H locs ls h hP hD hS hl
        rw [f_X0_goUp_L33_s] at h
        refine lv_iload hx hb dX0_goUp_33 (lv_at hl 3 rfl) ?_
        refine z_iconst hx hb dX0_goUp_35 ?_
        refine z_icmp_lt (tgt := 69) hx hb dX0_goUp_36 (by decide) h (fun q => ⟨q, by decide⟩) (fun h => ?_) (fun h => ?_)
        · exact hx33 _ _ _ _ h hP hD hS (lv_sub hl [4] rfl)
        · refine lv_iload hx hb dX0_goUp_39 (lv_at hl 4 rfl) ?_
          refine lv_iload hx hb dX0_goUp_41 (lv_at hl 4 rfl) ?_
          refine z_iconst hx hb dX0_goUp_43 ?_
          refine z_isub hx hb dX0_goUp_44 ?_
          refine lv_aload_n hx hb dX0_goUp_45 rfl (lv_at hl 0 rfl) ?_
          refine lv_iload_n hx hb dX0_goUp_46 rfl (lv_at hl 1 rfl) ?_
          refine lv_iload_n hx hb dX0_goUp_47 rfl (lv_at hl 2 rfl) ?_
          refine lv_iload hx hb dX0_goUp_48 (lv_at hl 3 rfl) ?_
          obtain ⟨r_15, hc_16, h⟩ := zb h
          try dsimp only at h
          refine z_calliU (wc := [kX0 ad_t ad_t_luckCounts, kI cA ad_t_luckCounts 65 t_luckCounts]) (wc' := [kX0 ad_t ad_t_luckCounts, kI cA ad_t_luckCounts 65 t_luckCounts]) (ws' := [kX0 ad_t ad_t_luckCounts, kI cA ad_t_luckCounts 65 t_luckCounts]) (va_runV (As := [.int (zi v1), .int (zi v2), .int (zi v5_13)]) (rest := [.int (zi (v6_14 - 1)), .int (zi v6_14)]) ⟨hx, hb, hml, hown, hts⟩ (c_X0_countIn l dC dI cA cN _ ad_t ad_t_luckCounts t_luckCounts v1 v2 v5_13 r_15 hc_16) (cwV 3 hts gX0_goUp_X0_countIn rfl rfl rfl (by decide +kernel) ⟨Nat.le_of_ble_eq_true rfl, Nat.le_of_ble_eq_true rfl⟩) (zPc.preV hK hE hP hD [0, 1] rfl rfl (ci := 0) (q0 := 0) rfl rfl) rfl rfl hl.1 rfl (lv_room (Nat.le_of_ble_eq_true rfl)) dX0_goUp_50 ⟨Nat.le_of_ble_eq_true rfl, Nat.le_of_ble_eq_true rfl⟩) hP hD hS hA [0, 1] rfl rfl rfl (fun H locs hP hD hS => ?_)
          refine z_iconst hx hb dX0_goUp_53 ?_
          refine z_isub hx hb dX0_goUp_54 ?_
          refine z_iconst hx hb dX0_goUp_55 ?_
          refine z_mmax hx hb (hml.trans hl.1.symm) hown (hts _ q_X0_goUp_0) (hts _ q_X0_goUp_1) (hts _ q_X0_goUp_2) (hts _ q_X0_goUp_3) (Nat.le_of_ble_eq_true rfl) (Nat.le_of_ble_eq_true rfl) (Nat.le_of_ble_eq_true rfl) (Nat.le_of_ble_eq_true rfl) dX0_goUp_56 h (fun h => ?_)
          refine z_idiv hx hb dX0_goUp_59 h (fun h => ?_)
          refine z_iadd hx hb dX0_goUp_60 ?_
          refine lv_istore (lv' := [(6, .int (zi (v6_14 + ((v6_14 - 1) / (if (r_15 - 1) < 1 then 1 else (r_15 - 1)))))), (0, .ref ad_t), (1, .int (zi v1)), (2, .int (zi v2)), (5, .int (zi v5_13))]) hx hb dX0_goUp_61 hl (by decide) rfl (fun ls hl => ?_)
          refine z_iinc (lv' := [(5, .int (zi (v5_13 + (-1)))), (6, .int (zi (v6_14 + ((v6_14 - 1) / (if (r_15 - 1) < 1 then 1 else (r_15 - 1)))))), (0, .ref ad_t), (1, .int (zi v1)), (2, .int (zi v2))]) hx hb dX0_goUp_63 hl (k := 4) rfl (by decide) rfl (fun ls hl => ?_)
          refine lv_goto (tgt := 33) hx hb dX0_goUp_66 (by decide) ?_
          exact ih33 _ _ _ _ _ h hP hD hS (lv_sub hl [2, 3, 4, 0, 1] rfl)
    exact hlp33 zF _ _ _ _ _ hl_11 hP hD hS (lv_sub hl [1, 2, 3, 5, 0] rfl)
  clear h
  have hlp3 : ∀ (n : Nat) (v5_17 : Int) (H : Heap) (locs : List Loc) (ls : Array Slot), f_X0_goUp_L3 n v1 v2 v3 v4 v5_17 t_luckCounts = some v5_7 → va_P (dC, dI) vwCl [kX0 ad_t ad_t_luckCounts, kI cA ad_t_luckCounts 65 t_luckCounts] H → va_D A [kX0 ad_t ad_t_luckCounts, kI cA ad_t_luckCounts 65 t_luckCounts] → va_S A s.heap H locs → lv_has ls 7 [(0, .ref ad_t), (1, .int (zi v1)), (2, .int (zi v2)), (3, .int (zi v3)), (4, .int (zi v4)), (5, .int (zi v5_17))] → W p l e { frames := 1, cells := 0, slots := 0, locals := 23 } s m ([.ref ad_t, .int (zi v1), .int (zi v2), .int (zi v3), .int (zi v4)] : List Value).toArray below meth c H locs 0 0 (MQ below (zQi (dC, dI) [kX0 ad_t ad_t_luckCounts, kI cA ad_t_luckCounts 65 t_luckCounts] r0 A) ([.ref ad_t, .int (zi v1), .int (zi v2), .int (zi v3), .int (zi v4)] : List Value).toArray s 0 0 A) (F0 m 3 ls []) := by
    intro n
    induction n with
    | zero => intro v5_17 H locs ls h; rw [f_X0_goUp_L3_z] at h; cases h
    | succ n ih3 =>
      intro v5_17 H locs ls h hP hD hS hl
      rw [f_X0_goUp_L3_s] at h
      refine lv_iload hx hb dX0_goUp_3 (lv_at hl 5 rfl) ?_
      refine lv_iload hx hb dX0_goUp_5 (lv_at hl 4 rfl) ?_
      refine z_icmp_ge (tgt := 30) hx hb dX0_goUp_7 (by decide) h (fun q => q) (fun h => ?_) (fun h => ?_)
      · exact hx3 _ _ _ _ h hP hD hS (lv_sub hl [0, 1, 2, 3, 5] rfl)
      · refine lv_aload_n hx hb dX0_goUp_10 rfl (lv_at hl 0 rfl) ?_
        refine lv_iload_n hx hb dX0_goUp_11 rfl (lv_at hl 1 rfl) ?_
        refine lv_iload_n hx hb dX0_goUp_12 rfl (lv_at hl 2 rfl) ?_
        refine lv_iload hx hb dX0_goUp_13 (lv_at hl 5 rfl) ?_
        refine z_iconst hx hb dX0_goUp_15 ?_
        refine z_iadd hx hb dX0_goUp_16 ?_
        obtain ⟨r_18, hc_19, h⟩ := zb h
        try dsimp only at h
        refine z_calliU (wc := [kX0 ad_t ad_t_luckCounts, kI cA ad_t_luckCounts 65 t_luckCounts]) (wc' := [kX0 ad_t ad_t_luckCounts, kI cA ad_t_luckCounts 65 t_luckCounts]) (ws' := [kX0 ad_t ad_t_luckCounts, kI cA ad_t_luckCounts 65 t_luckCounts]) (va_runV (As := [.int (zi v1), .int (zi v2), .int (zi (v5_17 + 1))]) (rest := []) ⟨hx, hb, hml, hown, hts⟩ (c_X0_countIn l dC dI cA cN _ ad_t ad_t_luckCounts t_luckCounts v1 v2 (v5_17 + 1) r_18 hc_19) (cwV 3 hts gX0_goUp_X0_countIn rfl rfl rfl (by decide +kernel) ⟨Nat.le_of_ble_eq_true rfl, Nat.le_of_ble_eq_true rfl⟩) (zPc.preV hK hE hP hD [0, 1] rfl rfl (ci := 0) (q0 := 0) rfl rfl) rfl rfl hl.1 rfl (lv_room (Nat.le_of_ble_eq_true rfl)) dX0_goUp_17 ⟨Nat.le_of_ble_eq_true rfl, Nat.le_of_ble_eq_true rfl⟩) hP hD hS hA [0, 1] rfl rfl rfl (fun H locs hP hD hS => ?_)
        refine lv_iload_n hx hb dX0_goUp_20 rfl (lv_at hl 3 rfl) ?_
        refine z_icmp_gt (tgt := 30) hx hb dX0_goUp_21 (by decide) h (fun q => q) (fun h => ?_) (fun h => ?_)
        · exact hx3 _ _ _ _ h hP hD hS (lv_sub hl [0, 1, 2, 3, 5] rfl)
        · refine z_iinc (lv' := [(5, .int (zi (v5_17 + 1))), (0, .ref ad_t), (1, .int (zi v1)), (2, .int (zi v2)), (3, .int (zi v3)), (4, .int (zi v4))]) hx hb dX0_goUp_24 hl (k := 5) rfl (by decide) rfl (fun ls hl => ?_)
          refine lv_goto (tgt := 3) hx hb dX0_goUp_27 (by decide) ?_
          exact ih3 _ _ _ _ h hP hD hS (lv_sub hl [1, 2, 3, 4, 5, 0] rfl)
  exact hlp3 zF _ _ _ _ hl_8 hP hD hS (lv_sub hl [1, 2, 3, 4, 5, 0] rfl)
-- X0_numberWhoStays
theorem dX0_numberWhoStays_0 : decode cX0_numberWhoStays 0 = .ok (.iload_n 1, 1) := by decide +kernel
theorem dX0_numberWhoStays_1 : decode cX0_numberWhoStays 1 = .ok (.iconst 2, 1) := by decide +kernel
theorem dX0_numberWhoStays_2 : decode cX0_numberWhoStays 2 = .ok (.if_icmp .ne 11, 3) := by decide +kernel
theorem dX0_numberWhoStays_5 : decode cX0_numberWhoStays 5 = .ok (.iload_n 3, 1) := by decide +kernel
theorem dX0_numberWhoStays_6 : decode cX0_numberWhoStays 6 = .ok (.iload_n 2, 1) := by decide +kernel
theorem dX0_numberWhoStays_7 : decode cX0_numberWhoStays 7 = .ok (.if_icmp .lt 6, 3) := by decide +kernel
theorem dX0_numberWhoStays_10 : decode cX0_numberWhoStays 10 = .ok (.bipush (-9), 2) := by decide +kernel
theorem dX0_numberWhoStays_12 : decode cX0_numberWhoStays 12 = .ok (.ireturn, 1) := by decide +kernel
theorem dX0_numberWhoStays_13 : decode cX0_numberWhoStays 13 = .ok (.aload_n 0, 1) := by decide +kernel
theorem dX0_numberWhoStays_14 : decode cX0_numberWhoStays 14 = .ok (.iload_n 1, 1) := by decide +kernel
theorem dX0_numberWhoStays_15 : decode cX0_numberWhoStays 15 = .ok (.iload_n 2, 1) := by decide +kernel
theorem dX0_numberWhoStays_16 : decode cX0_numberWhoStays 16 = .ok (.iload_n 3, 1) := by decide +kernel
theorem dX0_numberWhoStays_17 : decode cX0_numberWhoStays 17 = .ok (.iload_n 1, 1) := by decide +kernel
theorem dX0_numberWhoStays_18 : decode cX0_numberWhoStays 18 = .ok (.iconst 1, 1) := by decide +kernel
theorem dX0_numberWhoStays_19 : decode cX0_numberWhoStays 19 = .ok (.if_icmp .ne 8, 3) := by decide +kernel
theorem dX0_numberWhoStays_22 : decode cX0_numberWhoStays 22 = .ok (.bipush 64, 2) := by decide +kernel
theorem dX0_numberWhoStays_24 : decode cX0_numberWhoStays 24 = .ok (.goto 4, 3) := by decide +kernel
theorem dX0_numberWhoStays_27 : decode cX0_numberWhoStays 27 = .ok (.iload_n 3, 1) := by decide +kernel
theorem dX0_numberWhoStays_28 : decode cX0_numberWhoStays 28 = .ok (.invokevirtual 15, 3) := by decide +kernel
theorem dX0_numberWhoStays_31 : decode cX0_numberWhoStays 31 = .ok (.ireturn, 1) := by decide +kernel
set_option maxRecDepth 20000 in
theorem ggX0_numberWhoStays_X0_goUp : GoodIn wsX0_numberWhoStays wsX0_goUp := goodIn_r _ [5, 6, 7, 8, 9, 10, 11, 12, 4, 13, 14, 15, 16] rfl (by decide +kernel)
set_option maxRecDepth 20000 in
theorem gX0_numberWhoStays_X0_goUp : GoodIn wsX0_numberWhoStays (wsV RX0 15 RX0 yX0_goUp wsX0_goUp) := goodIn_app (goodIn_of _ (by decide +kernel)) ggX0_numberWhoStays_X0_goUp
noncomputable def f_X0_numberWhoStays_J28 (s1 : Int) (s2 : Int) (s3 : Int) (s4 : Int) (t_luckCounts : Int → Int) : Option (Int) := (f_X0_goUp s1 s2 s3 s4 t_luckCounts).bind (fun r_1 => some r_1)
noncomputable def f_X0_numberWhoStays_J13 (v1 : Int) (v2 : Int) (v3 : Int) (t_luckCounts : Int → Int) : Option (Int) := zg (zR v1) (if ¬ v1 = 1 then f_X0_numberWhoStays_J28 v1 v2 v3 v3 t_luckCounts else f_X0_numberWhoStays_J28 v1 v2 v3 64 t_luckCounts)
noncomputable def f_X0_numberWhoStays (v1 : Int) (v2 : Int) (v3 : Int) (t_luckCounts : Int → Int) : Option (Int) := zg (zR v1) (if ¬ v1 = 2 then f_X0_numberWhoStays_J13 v1 v2 v3 t_luckCounts else zg (zR v3 ∧ zR v2) (if v3 < v2 then f_X0_numberWhoStays_J13 v1 v2 v3 t_luckCounts else some (-9)))
set_option maxHeartbeats 4000000 in
set_option maxRecDepth 100000 in
theorem c_X0_numberWhoStays (l : Launch) (dC : Nat → ClassId) (dI : Nat → Nat → Nat) (cA cN : ClassId) (sz : Nat) (ad_t : Nat) (ad_t_luckCounts : Nat) (t_luckCounts : Int → Int) (v1 : Int) (v2 : Int) (v3 : Int) (r0 : Int) (h : f_X0_numberWhoStays v1 v2 v3 t_luckCounts = some r0) : Met l yX0_numberWhoStays wsX0_numberWhoStays { frames := 2, cells := 0, slots := 0, locals := 49 } (zPc (dC, dI) (zT cA cN) [kX0 ad_t ad_t_luckCounts, kI cA ad_t_luckCounts 65 t_luckCounts] [.ref ad_t, .int (zi v1), .int (zi v2), .int (zi v3)] sz) (zQi (dC, dI) [kX0 ad_t ad_t_luckCounts, kI cA ad_t_luckCounts 65 t_luckCounts] r0 (va_A [kX0 ad_t ad_t_luckCounts, kI cA ad_t_luckCounts 65 t_luckCounts] sz)) 0 0 (va_A [kX0 ad_t ad_t_luckCounts, kI cA ad_t_luckCounts 65 t_luckCounts] sz) := by
  refine z_ofW (QF := fun A => zQi (dC, dI) [kX0 ad_t ad_t_luckCounts, kI cA ad_t_luckCounts 65 t_luckCounts] r0 A) (by decide) rfl (Nat.le_of_ble_eq_true rfl) ?_
  intro p e s m below meth c ls A hx hb hml hr hlocks hnm hts hown hK hP hD hE hsz hA hS hl
  have hl : lv_has ls 4 [(0, .ref ad_t), (1, .int (zi v1)), (2, .int (zi v2)), (3, .int (zi v3))] := hl
  unfold f_X0_numberWhoStays at h
  refine lv_iload_n hx hb dX0_numberWhoStays_0 rfl (lv_at hl 1 rfl) ?_
  refine z_iconst hx hb dX0_numberWhoStays_1 ?_
  have hj13 : ∀ (H : Heap) (locs : List Loc) (ls : Array Slot), f_X0_numberWhoStays_J13 v1 v2 v3 t_luckCounts = some r0 → va_P (dC, dI) vwCl [kX0 ad_t ad_t_luckCounts, kI cA ad_t_luckCounts 65 t_luckCounts] H → va_D A [kX0 ad_t ad_t_luckCounts, kI cA ad_t_luckCounts 65 t_luckCounts] → va_S A s.heap H locs → lv_has ls 4 [(0, .ref ad_t), (1, .int (zi v1)), (2, .int (zi v2)), (3, .int (zi v3))] → W p l e { frames := 2, cells := 0, slots := 0, locals := 49 } s m ([.ref ad_t, .int (zi v1), .int (zi v2), .int (zi v3)] : List Value).toArray below meth c H locs 0 0 (MQ below (zQi (dC, dI) [kX0 ad_t ad_t_luckCounts, kI cA ad_t_luckCounts 65 t_luckCounts] r0 A) ([.ref ad_t, .int (zi v1), .int (zi v2), .int (zi v3)] : List Value).toArray s 0 0 A) (F0 m 13 ls []) := by
    intro  H locs ls h hP hD hS hl
    unfold f_X0_numberWhoStays_J13 at h
    refine lv_aload_n hx hb dX0_numberWhoStays_13 rfl (lv_at hl 0 rfl) ?_
    refine lv_iload_n hx hb dX0_numberWhoStays_14 rfl (lv_at hl 1 rfl) ?_
    refine lv_iload_n hx hb dX0_numberWhoStays_15 rfl (lv_at hl 2 rfl) ?_
    refine lv_iload_n hx hb dX0_numberWhoStays_16 rfl (lv_at hl 3 rfl) ?_
    refine lv_iload_n hx hb dX0_numberWhoStays_17 rfl (lv_at hl 1 rfl) ?_
    refine z_iconst hx hb dX0_numberWhoStays_18 ?_
    have hj28 : ∀ (s1_3 : Int) (s2_4 : Int) (s3_5 : Int) (s4_6 : Int) (H : Heap) (locs : List Loc) (ls : Array Slot), f_X0_numberWhoStays_J28 s1_3 s2_4 s3_5 s4_6 t_luckCounts = some r0 → va_P (dC, dI) vwCl [kX0 ad_t ad_t_luckCounts, kI cA ad_t_luckCounts 65 t_luckCounts] H → va_D A [kX0 ad_t ad_t_luckCounts, kI cA ad_t_luckCounts 65 t_luckCounts] → va_S A s.heap H locs → lv_has ls 4 [] → W p l e { frames := 2, cells := 0, slots := 0, locals := 49 } s m ([.ref ad_t, .int (zi v1), .int (zi v2), .int (zi v3)] : List Value).toArray below meth c H locs 0 0 (MQ below (zQi (dC, dI) [kX0 ad_t ad_t_luckCounts, kI cA ad_t_luckCounts 65 t_luckCounts] r0 A) ([.ref ad_t, .int (zi v1), .int (zi v2), .int (zi v3)] : List Value).toArray s 0 0 A) (F0 m 28 ls [.int (zi s4_6), .int (zi s3_5), .int (zi s2_4), .int (zi s1_3), .ref ad_t]) := by
      intro s1_3 s2_4 s3_5 s4_6 H locs ls h hP hD hS hl
      unfold f_X0_numberWhoStays_J28 at h
      obtain ⟨r_7, hc_8, h⟩ := zb h
      try dsimp only at h
      refine z_calliU (wc := [kX0 ad_t ad_t_luckCounts, kI cA ad_t_luckCounts 65 t_luckCounts]) (wc' := [kX0 ad_t ad_t_luckCounts, kI cA ad_t_luckCounts 65 t_luckCounts]) (ws' := [kX0 ad_t ad_t_luckCounts, kI cA ad_t_luckCounts 65 t_luckCounts]) (va_runV (As := [.int (zi s1_3), .int (zi s2_4), .int (zi s3_5), .int (zi s4_6)]) (rest := []) ⟨hx, hb, hml, hown, hts⟩ (c_X0_goUp l dC dI cA cN _ ad_t ad_t_luckCounts t_luckCounts s1_3 s2_4 s3_5 s4_6 r_7 hc_8) (cwV 4 hts gX0_numberWhoStays_X0_goUp rfl rfl rfl (by decide +kernel) ⟨Nat.le_of_ble_eq_true rfl, Nat.le_of_ble_eq_true rfl⟩) (zPc.preV hK hE hP hD [0, 1] rfl rfl (ci := 0) (q0 := 0) rfl rfl) rfl rfl hl.1 rfl (lv_room (Nat.le_of_ble_eq_true rfl)) dX0_numberWhoStays_28 ⟨Nat.le_of_ble_eq_true rfl, Nat.le_of_ble_eq_true rfl⟩) hP hD hS hA [0, 1] rfl rfl rfl (fun H locs hP hD hS => ?_)
      cases h
      exact z_iret hx hb hr hlocks hP hD hS dX0_numberWhoStays_31
    refine z_icmp_ne (tgt := 27) hx hb dX0_numberWhoStays_19 (by decide) h (fun q => ⟨q, by decide⟩) (fun h => ?_) (fun h => ?_)
    · refine lv_iload_n hx hb dX0_numberWhoStays_27 rfl (lv_at hl 3 rfl) ?_
      exact hj28 _ _ _ _ _ _ _ h hP hD hS (lv_sub hl [] rfl)
    · refine z_bipush hx hb (by decide +kernel) dX0_numberWhoStays_22 ?_
      refine lv_goto (tgt := 28) hx hb dX0_numberWhoStays_24 (by decide) ?_
      exact hj28 _ _ _ _ _ _ _ h hP hD hS (lv_sub hl [] rfl)
  refine z_icmp_ne (tgt := 13) hx hb dX0_numberWhoStays_2 (by decide) h (fun q => ⟨q, by decide⟩) (fun h => ?_) (fun h => ?_)
  · exact hj13 _ _ _ h hP hD hS (lv_sub hl [0, 1, 2, 3] rfl)
  · refine lv_iload_n hx hb dX0_numberWhoStays_5 rfl (lv_at hl 3 rfl) ?_
    refine lv_iload_n hx hb dX0_numberWhoStays_6 rfl (lv_at hl 2 rfl) ?_
    refine z_icmp_lt (tgt := 13) hx hb dX0_numberWhoStays_7 (by decide) h (fun q => q) (fun h => ?_) (fun h => ?_)
    · exact hj13 _ _ _ h hP hD hS (lv_sub hl [0, 1, 2, 3] rfl)
    · refine z_bipush hx hb (by decide +kernel) dX0_numberWhoStays_10 ?_
      cases h
      exact z_iret hx hb hr hlocks hP hD hS dX0_numberWhoStays_12
-- X0_roundOfGoing
theorem dX0_roundOfGoing_0 : decode cX0_roundOfGoing 0 = .ok (.iload_n 3, 1) := by decide +kernel
theorem dX0_roundOfGoing_1 : decode cX0_roundOfGoing 1 = .ok (.istore 4, 2) := by decide +kernel
theorem dX0_roundOfGoing_3 : decode cX0_roundOfGoing 3 = .ok (.iconst 1, 1) := by decide +kernel
theorem dX0_roundOfGoing_4 : decode cX0_roundOfGoing 4 = .ok (.istore 5, 2) := by decide +kernel
theorem dX0_roundOfGoing_6 : decode cX0_roundOfGoing 6 = .ok (.iload 5, 2) := by decide +kernel
theorem dX0_roundOfGoing_8 : decode cX0_roundOfGoing 8 = .ok (.iload_n 3, 1) := by decide +kernel
theorem dX0_roundOfGoing_9 : decode cX0_roundOfGoing 9 = .ok (.if_icmp .gt 56, 3) := by decide +kernel
theorem dX0_roundOfGoing_12 : decode cX0_roundOfGoing 12 = .ok (.aload_n 0, 1) := by decide +kernel
theorem dX0_roundOfGoing_13 : decode cX0_roundOfGoing 13 = .ok (.iload_n 1, 1) := by decide +kernel
theorem dX0_roundOfGoing_14 : decode cX0_roundOfGoing 14 = .ok (.iload_n 2, 1) := by decide +kernel
theorem dX0_roundOfGoing_15 : decode cX0_roundOfGoing 15 = .ok (.iload 5, 2) := by decide +kernel
theorem dX0_roundOfGoing_17 : decode cX0_roundOfGoing 17 = .ok (.invokevirtual 19, 3) := by decide +kernel
theorem dX0_roundOfGoing_20 : decode cX0_roundOfGoing 20 = .ok (.istore 6, 2) := by decide +kernel
theorem dX0_roundOfGoing_22 : decode cX0_roundOfGoing 22 = .ok (.iload 6, 2) := by decide +kernel
theorem dX0_roundOfGoing_24 : decode cX0_roundOfGoing 24 = .ok (.iconst 2, 1) := by decide +kernel
theorem dX0_roundOfGoing_25 : decode cX0_roundOfGoing 25 = .ok (.if_icmp .lt 10, 3) := by decide +kernel
theorem dX0_roundOfGoing_28 : decode cX0_roundOfGoing 28 = .ok (.iload 4, 2) := by decide +kernel
theorem dX0_roundOfGoing_30 : decode cX0_roundOfGoing 30 = .ok (.iload 6, 2) := by decide +kernel
theorem dX0_roundOfGoing_32 : decode cX0_roundOfGoing 32 = .ok (.if_icmp .ge 6, 3) := by decide +kernel
theorem dX0_roundOfGoing_35 : decode cX0_roundOfGoing 35 = .ok (.bipush (-9), 2) := by decide +kernel
theorem dX0_roundOfGoing_37 : decode cX0_roundOfGoing 37 = .ok (.ireturn, 1) := by decide +kernel
theorem dX0_roundOfGoing_38 : decode cX0_roundOfGoing 38 = .ok (.iload 4, 2) := by decide +kernel
theorem dX0_roundOfGoing_40 : decode cX0_roundOfGoing 40 = .ok (.iload 6, 2) := by decide +kernel
theorem dX0_roundOfGoing_42 : decode cX0_roundOfGoing 42 = .ok (.irem, 1) := by decide +kernel
theorem dX0_roundOfGoing_43 : decode cX0_roundOfGoing 43 = .ok (.ifCond .ne 6, 3) := by decide +kernel
theorem dX0_roundOfGoing_46 : decode cX0_roundOfGoing 46 = .ok (.iload 5, 2) := by decide +kernel
theorem dX0_roundOfGoing_48 : decode cX0_roundOfGoing 48 = .ok (.ireturn, 1) := by decide +kernel
theorem dX0_roundOfGoing_49 : decode cX0_roundOfGoing 49 = .ok (.iload 4, 2) := by decide +kernel
theorem dX0_roundOfGoing_51 : decode cX0_roundOfGoing 51 = .ok (.iload 4, 2) := by decide +kernel
theorem dX0_roundOfGoing_53 : decode cX0_roundOfGoing 53 = .ok (.iload 6, 2) := by decide +kernel
theorem dX0_roundOfGoing_55 : decode cX0_roundOfGoing 55 = .ok (.idiv, 1) := by decide +kernel
theorem dX0_roundOfGoing_56 : decode cX0_roundOfGoing 56 = .ok (.isub, 1) := by decide +kernel
theorem dX0_roundOfGoing_57 : decode cX0_roundOfGoing 57 = .ok (.istore 4, 2) := by decide +kernel
theorem dX0_roundOfGoing_59 : decode cX0_roundOfGoing 59 = .ok (.iinc 5 1, 3) := by decide +kernel
theorem dX0_roundOfGoing_62 : decode cX0_roundOfGoing 62 = .ok (.goto (-56), 3) := by decide +kernel
theorem dX0_roundOfGoing_65 : decode cX0_roundOfGoing 65 = .ok (.bipush (-9), 2) := by decide +kernel
theorem dX0_roundOfGoing_67 : decode cX0_roundOfGoing 67 = .ok (.ireturn, 1) := by decide +kernel
set_option maxRecDepth 20000 in
theorem ggX0_roundOfGoing_X0_countIn : GoodIn wsX0_roundOfGoing wsX0_countIn := goodIn_r _ [5, 6, 7, 8] rfl (by decide +kernel)
set_option maxRecDepth 20000 in
theorem gX0_roundOfGoing_X0_countIn : GoodIn wsX0_roundOfGoing (wsV RX0 19 RX0 yX0_countIn wsX0_countIn) := goodIn_app (goodIn_of _ (by decide +kernel)) ggX0_roundOfGoing_X0_countIn
noncomputable def f_X0_roundOfGoing_L6 : Nat → Int → Int → Int → Int → Int → (Int → Int) → Option (Int)
  | 0, _, _, _, _, _, _ => none
  | n + 1, v1, v2, v3, v4, v5, t_luckCounts => zg (zR v5 ∧ zR v3) (if v3 < v5 then some (-9) else (f_X0_countIn v1 v2 v5 t_luckCounts).bind (fun r_1 => zg (zR r_1) (if r_1 < 2 then some (-9) else zg (zR v4 ∧ zR r_1) (if r_1 ≤ v4 then zg ((0 : Int) ≤ v4 ∧ v4 ≤ (2147483647 : Int) ∧ (0 : Int) < r_1 ∧ r_1 ≤ (2147483647 : Int)) (zg (zR (v4 % r_1)) (if ¬ (v4 % r_1) = 0 then zg ((0 : Int) ≤ v4 ∧ v4 ≤ (2147483647 : Int) ∧ (0 : Int) < r_1 ∧ r_1 ≤ (2147483647 : Int)) (f_X0_roundOfGoing_L6 n v1 v2 v3 (v4 - (v4 / r_1)) (v5 + 1) t_luckCounts) else some v5)) else some (-9)))))
theorem f_X0_roundOfGoing_L6_z (v1 : Int) (v2 : Int) (v3 : Int) (v4 : Int) (v5 : Int) (t_luckCounts : Int → Int) : f_X0_roundOfGoing_L6 0 v1 v2 v3 v4 v5 t_luckCounts = none := rfl
theorem f_X0_roundOfGoing_L6_s (n : Nat) (v1 : Int) (v2 : Int) (v3 : Int) (v4 : Int) (v5 : Int) (t_luckCounts : Int → Int) : f_X0_roundOfGoing_L6 (n + 1) v1 v2 v3 v4 v5 t_luckCounts = zg (zR v5 ∧ zR v3) (if v3 < v5 then some (-9) else (f_X0_countIn v1 v2 v5 t_luckCounts).bind (fun r_1 => zg (zR r_1) (if r_1 < 2 then some (-9) else zg (zR v4 ∧ zR r_1) (if r_1 ≤ v4 then zg ((0 : Int) ≤ v4 ∧ v4 ≤ (2147483647 : Int) ∧ (0 : Int) < r_1 ∧ r_1 ≤ (2147483647 : Int)) (zg (zR (v4 % r_1)) (if ¬ (v4 % r_1) = 0 then zg ((0 : Int) ≤ v4 ∧ v4 ≤ (2147483647 : Int) ∧ (0 : Int) < r_1 ∧ r_1 ≤ (2147483647 : Int)) (f_X0_roundOfGoing_L6 n v1 v2 v3 (v4 - (v4 / r_1)) (v5 + 1) t_luckCounts) else some v5)) else some (-9))))) := rfl
noncomputable def f_X0_roundOfGoing (v1 : Int) (v2 : Int) (v3 : Int) (t_luckCounts : Int → Int) : Option (Int) := f_X0_roundOfGoing_L6 zF v1 v2 v3 v3 1 t_luckCounts
set_option maxHeartbeats 4000000 in
set_option maxRecDepth 100000 in
theorem c_X0_roundOfGoing (l : Launch) (dC : Nat → ClassId) (dI : Nat → Nat → Nat) (cA cN : ClassId) (sz : Nat) (ad_t : Nat) (ad_t_luckCounts : Nat) (t_luckCounts : Int → Int) (v1 : Int) (v2 : Int) (v3 : Int) (r0 : Int) (h : f_X0_roundOfGoing v1 v2 v3 t_luckCounts = some r0) : Met l yX0_roundOfGoing wsX0_roundOfGoing { frames := 1, cells := 0, slots := 0, locals := 23 } (zPc (dC, dI) (zT cA cN) [kX0 ad_t ad_t_luckCounts, kI cA ad_t_luckCounts 65 t_luckCounts] [.ref ad_t, .int (zi v1), .int (zi v2), .int (zi v3)] sz) (zQi (dC, dI) [kX0 ad_t ad_t_luckCounts, kI cA ad_t_luckCounts 65 t_luckCounts] r0 (va_A [kX0 ad_t ad_t_luckCounts, kI cA ad_t_luckCounts 65 t_luckCounts] sz)) 0 0 (va_A [kX0 ad_t ad_t_luckCounts, kI cA ad_t_luckCounts 65 t_luckCounts] sz) := by
  refine z_ofW (QF := fun A => zQi (dC, dI) [kX0 ad_t ad_t_luckCounts, kI cA ad_t_luckCounts 65 t_luckCounts] r0 A) (by decide) rfl (Nat.le_of_ble_eq_true rfl) ?_
  intro p e s m below meth c ls A hx hb hml hr hlocks hnm hts hown hK hP hD hE hsz hA hS hl
  have hl : lv_has ls 7 [(0, .ref ad_t), (1, .int (zi v1)), (2, .int (zi v2)), (3, .int (zi v3))] := hl
  unfold f_X0_roundOfGoing at h
  refine lv_iload_n hx hb dX0_roundOfGoing_0 rfl (lv_at hl 3 rfl) ?_
  refine lv_istore (lv' := [(4, .int (zi v3)), (0, .ref ad_t), (1, .int (zi v1)), (2, .int (zi v2)), (3, .int (zi v3))]) hx hb dX0_roundOfGoing_1 hl (by decide) rfl (fun ls hl => ?_)
  refine z_iconst hx hb dX0_roundOfGoing_3 ?_
  refine lv_istore (lv' := [(5, .int (zi 1)), (4, .int (zi v3)), (0, .ref ad_t), (1, .int (zi v1)), (2, .int (zi v2)), (3, .int (zi v3))]) hx hb dX0_roundOfGoing_4 hl (by decide) rfl (fun ls hl => ?_)
  have hlp6 : ∀ (n : Nat) (v4_3 : Int) (v5_4 : Int) (H : Heap) (locs : List Loc) (ls : Array Slot), f_X0_roundOfGoing_L6 n v1 v2 v3 v4_3 v5_4 t_luckCounts = some r0 → va_P (dC, dI) vwCl [kX0 ad_t ad_t_luckCounts, kI cA ad_t_luckCounts 65 t_luckCounts] H → va_D A [kX0 ad_t ad_t_luckCounts, kI cA ad_t_luckCounts 65 t_luckCounts] → va_S A s.heap H locs → lv_has ls 7 [(0, .ref ad_t), (1, .int (zi v1)), (2, .int (zi v2)), (3, .int (zi v3)), (4, .int (zi v4_3)), (5, .int (zi v5_4))] → W p l e { frames := 1, cells := 0, slots := 0, locals := 23 } s m ([.ref ad_t, .int (zi v1), .int (zi v2), .int (zi v3)] : List Value).toArray below meth c H locs 0 0 (MQ below (zQi (dC, dI) [kX0 ad_t ad_t_luckCounts, kI cA ad_t_luckCounts 65 t_luckCounts] r0 A) ([.ref ad_t, .int (zi v1), .int (zi v2), .int (zi v3)] : List Value).toArray s 0 0 A) (F0 m 6 ls []) := by
    intro n
    induction n with
    | zero => intro v4_3 v5_4 H locs ls h; rw [f_X0_roundOfGoing_L6_z] at h; cases h
    | succ n ih6 =>
      intro v4_3 v5_4 H locs ls h hP hD hS hl
      rw [f_X0_roundOfGoing_L6_s] at h
      refine lv_iload hx hb dX0_roundOfGoing_6 (lv_at hl 5 rfl) ?_
      refine lv_iload_n hx hb dX0_roundOfGoing_8 rfl (lv_at hl 3 rfl) ?_
      refine z_icmp_gt (tgt := 65) hx hb dX0_roundOfGoing_9 (by decide) h (fun q => q) (fun h => ?_) (fun h => ?_)
      · refine z_bipush hx hb (by decide +kernel) dX0_roundOfGoing_65 ?_
        cases h
        exact z_iret hx hb hr hlocks hP hD hS dX0_roundOfGoing_67
      · refine lv_aload_n hx hb dX0_roundOfGoing_12 rfl (lv_at hl 0 rfl) ?_
        refine lv_iload_n hx hb dX0_roundOfGoing_13 rfl (lv_at hl 1 rfl) ?_
        refine lv_iload_n hx hb dX0_roundOfGoing_14 rfl (lv_at hl 2 rfl) ?_
        refine lv_iload hx hb dX0_roundOfGoing_15 (lv_at hl 5 rfl) ?_
        obtain ⟨r_5, hc_6, h⟩ := zb h
        try dsimp only at h
        refine z_calliU (wc := [kX0 ad_t ad_t_luckCounts, kI cA ad_t_luckCounts 65 t_luckCounts]) (wc' := [kX0 ad_t ad_t_luckCounts, kI cA ad_t_luckCounts 65 t_luckCounts]) (ws' := [kX0 ad_t ad_t_luckCounts, kI cA ad_t_luckCounts 65 t_luckCounts]) (va_runV (As := [.int (zi v1), .int (zi v2), .int (zi v5_4)]) (rest := []) ⟨hx, hb, hml, hown, hts⟩ (c_X0_countIn l dC dI cA cN _ ad_t ad_t_luckCounts t_luckCounts v1 v2 v5_4 r_5 hc_6) (cwV 3 hts gX0_roundOfGoing_X0_countIn rfl rfl rfl (by decide +kernel) ⟨Nat.le_of_ble_eq_true rfl, Nat.le_of_ble_eq_true rfl⟩) (zPc.preV hK hE hP hD [0, 1] rfl rfl (ci := 0) (q0 := 0) rfl rfl) rfl rfl hl.1 rfl (lv_room (Nat.le_of_ble_eq_true rfl)) dX0_roundOfGoing_17 ⟨Nat.le_of_ble_eq_true rfl, Nat.le_of_ble_eq_true rfl⟩) hP hD hS hA [0, 1] rfl rfl rfl (fun H locs hP hD hS => ?_)
        refine lv_istore (lv' := [(6, .int (zi r_5)), (0, .ref ad_t), (1, .int (zi v1)), (2, .int (zi v2)), (3, .int (zi v3)), (4, .int (zi v4_3)), (5, .int (zi v5_4))]) hx hb dX0_roundOfGoing_20 hl (by decide) rfl (fun ls hl => ?_)
        refine lv_iload hx hb dX0_roundOfGoing_22 (lv_at hl 0 rfl) ?_
        refine z_iconst hx hb dX0_roundOfGoing_24 ?_
        refine z_icmp_lt (tgt := 35) hx hb dX0_roundOfGoing_25 (by decide) h (fun q => ⟨q, by decide⟩) (fun h => ?_) (fun h => ?_)
        · refine z_bipush hx hb (by decide +kernel) dX0_roundOfGoing_35 ?_
          cases h
          exact z_iret hx hb hr hlocks hP hD hS dX0_roundOfGoing_37
        · refine lv_iload hx hb dX0_roundOfGoing_28 (lv_at hl 5 rfl) ?_
          refine lv_iload hx hb dX0_roundOfGoing_30 (lv_at hl 0 rfl) ?_
          refine z_icmp_ge (tgt := 38) hx hb dX0_roundOfGoing_32 (by decide) h (fun q => q) (fun h => ?_) (fun h => ?_)
          · refine lv_iload hx hb dX0_roundOfGoing_38 (lv_at hl 5 rfl) ?_
            refine lv_iload hx hb dX0_roundOfGoing_40 (lv_at hl 0 rfl) ?_
            refine z_irem hx hb dX0_roundOfGoing_42 h (fun h => ?_)
            refine z_if_ne (tgt := 49) hx hb dX0_roundOfGoing_43 (by decide) h (fun h => ?_) (fun h => ?_)
            · refine lv_iload hx hb dX0_roundOfGoing_49 (lv_at hl 5 rfl) ?_
              refine lv_iload hx hb dX0_roundOfGoing_51 (lv_at hl 5 rfl) ?_
              refine lv_iload hx hb dX0_roundOfGoing_53 (lv_at hl 0 rfl) ?_
              refine z_idiv hx hb dX0_roundOfGoing_55 h (fun h => ?_)
              refine z_isub hx hb dX0_roundOfGoing_56 ?_
              refine lv_istore (lv' := [(4, .int (zi (v4_3 - (v4_3 / r_5)))), (6, .int (zi r_5)), (0, .ref ad_t), (1, .int (zi v1)), (2, .int (zi v2)), (3, .int (zi v3)), (5, .int (zi v5_4))]) hx hb dX0_roundOfGoing_57 hl (by decide) rfl (fun ls hl => ?_)
              refine z_iinc (lv' := [(5, .int (zi (v5_4 + 1))), (4, .int (zi (v4_3 - (v4_3 / r_5)))), (6, .int (zi r_5)), (0, .ref ad_t), (1, .int (zi v1)), (2, .int (zi v2)), (3, .int (zi v3))]) hx hb dX0_roundOfGoing_59 hl (k := 6) rfl (by decide) rfl (fun ls hl => ?_)
              refine lv_goto (tgt := 6) hx hb dX0_roundOfGoing_62 (by decide) ?_
              exact ih6 _ _ _ _ _ h hP hD hS (lv_sub hl [3, 4, 5, 6, 1, 0] rfl)
            · refine lv_iload hx hb dX0_roundOfGoing_46 (lv_at hl 6 rfl) ?_
              cases h
              exact z_iret hx hb hr hlocks hP hD hS dX0_roundOfGoing_48
          · refine z_bipush hx hb (by decide +kernel) dX0_roundOfGoing_35 ?_
            cases h
            exact z_iret hx hb hr hlocks hP hD hS dX0_roundOfGoing_37
  exact hlp6 zF _ _ _ _ _ h hP hD hS (lv_sub hl [2, 3, 4, 5, 1, 0] rfl)
-- X1_isFromBack
theorem dX1_isFromBack_0 : decode cX1_isFromBack 0 = .ok (.iload_n 1, 1) := by decide +kernel
theorem dX1_isFromBack_1 : decode cX1_isFromBack 1 = .ok (.iconst 2, 1) := by decide +kernel
theorem dX1_isFromBack_2 : decode cX1_isFromBack 2 = .ok (.irem, 1) := by decide +kernel
theorem dX1_isFromBack_3 : decode cX1_isFromBack 3 = .ok (.ifCond .ne 7, 3) := by decide +kernel
theorem dX1_isFromBack_6 : decode cX1_isFromBack 6 = .ok (.iconst 1, 1) := by decide +kernel
theorem dX1_isFromBack_7 : decode cX1_isFromBack 7 = .ok (.goto 4, 3) := by decide +kernel
theorem dX1_isFromBack_10 : decode cX1_isFromBack 10 = .ok (.iconst 0, 1) := by decide +kernel
theorem dX1_isFromBack_11 : decode cX1_isFromBack 11 = .ok (.ireturn, 1) := by decide +kernel
noncomputable def f_X1_isFromBack (v1 : Int) : Option (Int) := zg ((0 : Int) ≤ v1 ∧ v1 ≤ (2147483647 : Int) ∧ (0 : Int) < 2 ∧ 2 ≤ (2147483647 : Int)) (zg (zR (v1 % 2)) (if ¬ (v1 % 2) = 0 then some 0 else some 1))
set_option maxHeartbeats 4000000 in
set_option maxRecDepth 100000 in
theorem c_X1_isFromBack (l : Launch) (dC : Nat → ClassId) (dI : Nat → Nat → Nat) (cA cN : ClassId) (sz : Nat) (ad_t : Nat) (v1 : Int) (r0 : Int) (h : f_X1_isFromBack v1 = some r0) : Met l yX1_isFromBack wsX1_isFromBack { frames := 0, cells := 0, slots := 0, locals := 0 } (zPc (dC, dI) (zT cA cN) [] [.ref ad_t, .int (zi v1)] sz) (zQi (dC, dI) [] r0 (va_A [] sz)) 0 0 (va_A [] sz) := by
  refine z_ofW (QF := fun A => zQi (dC, dI) [] r0 A) (by decide) rfl (Nat.le_of_ble_eq_true rfl) ?_
  intro p e s m below meth c ls A hx hb hml hr hlocks hnm hts hown hK hP hD hE hsz hA hS hl
  have hl : lv_has ls 2 [(0, .ref ad_t), (1, .int (zi v1))] := hl
  unfold f_X1_isFromBack at h
  refine lv_iload_n hx hb dX1_isFromBack_0 rfl (lv_at hl 1 rfl) ?_
  refine z_iconst hx hb dX1_isFromBack_1 ?_
  refine z_irem hx hb dX1_isFromBack_2 h (fun h => ?_)
  refine z_if_ne (tgt := 10) hx hb dX1_isFromBack_3 (by decide) h (fun h => ?_) (fun h => ?_)
  · refine z_iconst hx hb dX1_isFromBack_10 ?_
    cases h
    exact z_zret hx hb hr hlocks (by decide) hP hD hS dX1_isFromBack_11
  · refine z_iconst hx hb dX1_isFromBack_6 ?_
    refine lv_goto (tgt := 11) hx hb dX1_isFromBack_7 (by decide) ?_
    cases h
    exact z_zret hx hb hr hlocks (by decide) hP hD hS dX1_isFromBack_11
-- X2_firstPlace
theorem dX2_firstPlace_0 : decode cX2_firstPlace 0 = .ok (.iconst 1, 1) := by decide +kernel
theorem dX2_firstPlace_1 : decode cX2_firstPlace 1 = .ok (.ireturn, 1) := by decide +kernel
noncomputable def f_X2_firstPlace (v1 : Int) : Option (Int) := some 1
set_option maxHeartbeats 4000000 in
set_option maxRecDepth 100000 in
theorem c_X2_firstPlace (l : Launch) (dC : Nat → ClassId) (dI : Nat → Nat → Nat) (cA cN : ClassId) (sz : Nat) (ad_t : Nat) (v1 : Int) (r0 : Int) (h : f_X2_firstPlace v1 = some r0) : Met l yX2_firstPlace wsX2_firstPlace { frames := 0, cells := 0, slots := 0, locals := 0 } (zPc (dC, dI) (zT cA cN) [] [.ref ad_t, .int (zi v1)] sz) (zQi (dC, dI) [] r0 (va_A [] sz)) 0 0 (va_A [] sz) := by
  refine z_ofW (QF := fun A => zQi (dC, dI) [] r0 A) (by decide) rfl (Nat.le_of_ble_eq_true rfl) ?_
  intro p e s m below meth c ls A hx hb hml hr hlocks hnm hts hown hK hP hD hE hsz hA hS hl
  have hl : lv_has ls 2 [(0, .ref ad_t), (1, .int (zi v1))] := hl
  unfold f_X2_firstPlace at h
  refine z_iconst hx hb dX2_firstPlace_0 ?_
  cases h
  exact z_iret hx hb hr hlocks hP hD hS dX2_firstPlace_1
-- X3_countIn
theorem dX3_countIn_0 : decode cX3_countIn 0 = .ok (.iconst 2, 1) := by decide +kernel
theorem dX3_countIn_1 : decode cX3_countIn 1 = .ok (.ireturn, 1) := by decide +kernel
noncomputable def f_X3_countIn (v2 : Int) : Option (Int) := some 2
set_option maxHeartbeats 4000000 in
set_option maxRecDepth 100000 in
theorem c_X3_countIn (l : Launch) (dC : Nat → ClassId) (dI : Nat → Nat → Nat) (cA cN : ClassId) (sz : Nat) (ad_t : Nat) (ad_o : Nat) (v2 : Int) (r0 : Int) (h : f_X3_countIn v2 = some r0) : Met l yX3_countIn wsX3_countIn { frames := 0, cells := 0, slots := 0, locals := 0 } (zPc (dC, dI) (zT cA cN) [] [.ref ad_t, .ref ad_o, .int (zi v2)] sz) (zQi (dC, dI) [] r0 (va_A [] sz)) 0 0 (va_A [] sz) := by
  refine z_ofW (QF := fun A => zQi (dC, dI) [] r0 A) (by decide) rfl (Nat.le_of_ble_eq_true rfl) ?_
  intro p e s m below meth c ls A hx hb hml hr hlocks hnm hts hown hK hP hD hE hsz hA hS hl
  have hl : lv_has ls 3 [(0, .ref ad_t), (1, .ref ad_o), (2, .int (zi v2))] := hl
  unfold f_X3_countIn at h
  refine z_iconst hx hb dX3_countIn_0 ?_
  cases h
  exact z_iret hx hb hr hlocks hP hD hS dX3_countIn_1
-- X4_append
theorem dX4_append_0 : decode cX4_append 0 = .ok (.aload_n 0, 1) := by decide +kernel
theorem dX4_append_1 : decode cX4_append 1 = .ok (.getfield 15, 3) := by decide +kernel
theorem dX4_append_4 : decode cX4_append 4 = .ok (.bipush 48, 2) := by decide +kernel
theorem dX4_append_6 : decode cX4_append 6 = .ok (.if_icmp .ge 23, 3) := by decide +kernel
theorem dX4_append_9 : decode cX4_append 9 = .ok (.aload_n 0, 1) := by decide +kernel
theorem dX4_append_10 : decode cX4_append 10 = .ok (.getfield 9, 3) := by decide +kernel
theorem dX4_append_13 : decode cX4_append 13 = .ok (.aload_n 0, 1) := by decide +kernel
theorem dX4_append_14 : decode cX4_append 14 = .ok (.getfield 15, 3) := by decide +kernel
theorem dX4_append_17 : decode cX4_append 17 = .ok (.iload_n 1, 1) := by decide +kernel
theorem dX4_append_18 : decode cX4_append 18 = .ok (.iastore, 1) := by decide +kernel
theorem dX4_append_19 : decode cX4_append 19 = .ok (.aload_n 0, 1) := by decide +kernel
theorem dX4_append_20 : decode cX4_append 20 = .ok (.dup, 1) := by decide +kernel
theorem dX4_append_21 : decode cX4_append 21 = .ok (.getfield 15, 3) := by decide +kernel
theorem dX4_append_24 : decode cX4_append 24 = .ok (.iconst 1, 1) := by decide +kernel
theorem dX4_append_25 : decode cX4_append 25 = .ok (.iadd, 1) := by decide +kernel
theorem dX4_append_26 : decode cX4_append 26 = .ok (.putfield 15, 3) := by decide +kernel
theorem dX4_append_29 : decode cX4_append 29 = .ok (.aload_n 0, 1) := by decide +kernel
theorem dX4_append_30 : decode cX4_append 30 = .ok (.getfield 15, 3) := by decide +kernel
theorem dX4_append_33 : decode cX4_append 33 = .ok (.ireturn, 1) := by decide +kernel
noncomputable def f_X4_append (v1 : Int) (t_signs : Int → Int) (t_count : Int) : Option (Int × (Int → Int) × Int) := zg (zR t_count) (if 48 ≤ t_count then some (t_count, t_signs, t_count) else zg ((0 : Int) ≤ t_count ∧ t_count < (48 : Int)) (some ((t_count + 1), (zup t_signs t_count v1), (t_count + 1))))
theorem q_X4_append_0 : Cond.fieldLink RX4 15 "EachSecondStruck$Letters" "count" "I" ∈ wsX4_append := by decide +kernel
theorem q_X4_append_1 : Cond.fieldLink RX4 9 "EachSecondStruck$Letters" "signs" "[I" ∈ wsX4_append := by decide +kernel
theorem in_X4_append_X4 : ∀ w ∈ u_ws RX4 TX4 6, w ∈ wsX4_append := by decide +kernel
set_option maxHeartbeats 4000000 in
set_option maxRecDepth 100000 in
theorem c_X4_append (l : Launch) (dC : Nat → ClassId) (dI : Nat → Nat → Nat) (cA cN : ClassId) (sz : Nat) (ad_t : Nat) (ad_t_signs : Nat) (t_count : Int) (t_readAt : Int) (t_verb : Int) (t_first : Int) (t_second : Int) (t_signs : Int → Int) (v1 : Int) (r0 : Int) (t_signs9 : Int → Int) (t_count9 : Int) (h : f_X4_append v1 t_signs t_count = some (r0, t_signs9, t_count9)) : Met l yX4_append wsX4_append { frames := 0, cells := 0, slots := 0, locals := 0 } (zPc (dC, dI) (zT cA cN) [kX4 ad_t ad_t_signs t_count t_readAt t_verb t_first t_second, kI cA ad_t_signs 48 t_signs] [.ref ad_t, .int (zi v1)] sz) (zQi (dC, dI) [kX4 ad_t ad_t_signs t_count9 t_readAt t_verb t_first t_second, kI cA ad_t_signs 48 t_signs9] r0 (va_A [kX4 ad_t ad_t_signs t_count t_readAt t_verb t_first t_second, kI cA ad_t_signs 48 t_signs] sz)) 0 0 (va_A [kX4 ad_t ad_t_signs t_count t_readAt t_verb t_first t_second, kI cA ad_t_signs 48 t_signs] sz) := by
  refine z_ofW (QF := fun A => zQi (dC, dI) [kX4 ad_t ad_t_signs t_count9 t_readAt t_verb t_first t_second, kI cA ad_t_signs 48 t_signs9] r0 A) (by decide) rfl (Nat.le_of_ble_eq_true rfl) ?_
  intro p e s m below meth c ls A hx hb hml hr hlocks hnm hts hown hK hP hD hE hsz hA hS hl
  have hl : lv_has ls 2 [(0, .ref ad_t), (1, .int (zi v1))] := hl
  unfold f_X4_append at h
  refine lv_aload_n hx hb dX4_append_0 rfl (lv_at hl 0 rfl) ?_
  refine va_get (D := (dC, dI)) (ci := 4) (v := .int (zi t_count)) (C := RX4) (T := TX4) (N := 6) hx hb hts in_X4_append_X4 hown hK hP 0 rfl rfl 1 (by decide) (hts _ q_X4_append_0) (fun _ h9 => h9) rfl dX4_append_1 ?_
  refine z_bipush hx hb (by decide +kernel) dX4_append_4 ?_
  refine z_icmp_ge (tgt := 29) hx hb dX4_append_6 (by decide) h (fun q => ⟨q, by decide⟩) (fun h => ?_) (fun h => ?_)
  · refine lv_aload_n hx hb dX4_append_29 rfl (lv_at hl 0 rfl) ?_
    refine va_get (D := (dC, dI)) (ci := 4) (v := .int (zi t_count)) (C := RX4) (T := TX4) (N := 6) hx hb hts in_X4_append_X4 hown hK hP 0 rfl rfl 1 (by decide) (hts _ q_X4_append_0) (fun _ h9 => h9) rfl dX4_append_30 ?_
    cases h
    exact z_iret hx hb hr hlocks hP hD hS dX4_append_33
  · refine lv_aload_n hx hb dX4_append_9 rfl (lv_at hl 0 rfl) ?_
    refine va_get (D := (dC, dI)) (ci := 4) (v := .ref ad_t_signs) (C := RX4) (T := TX4) (N := 6) hx hb hts in_X4_append_X4 hown hK hP 0 rfl rfl 0 (by decide) (hts _ q_X4_append_1) (fun _ h9 => h9) rfl dX4_append_10 ?_
    refine lv_aload_n hx hb dX4_append_13 rfl (lv_at hl 0 rfl) ?_
    refine va_get (D := (dC, dI)) (ci := 4) (v := .int (zi t_count)) (C := RX4) (T := TX4) (N := 6) hx hb hts in_X4_append_X4 hown hK hP 0 rfl rfl 1 (by decide) (hts _ q_X4_append_0) (fun _ h9 => h9) rfl dX4_append_14 ?_
    refine lv_iload_n hx hb dX4_append_17 rfl (lv_at hl 1 rfl) ?_
    refine z_iast (N := 48) hx hb hK hP hD hS 1 0 rfl rfl rfl (by decide) dX4_append_18 h (fun h H locs hP hD hS => ?_)
    have hP : va_P (dC, dI) vwCl [kX4 ad_t ad_t_signs t_count t_readAt t_verb t_first t_second, kI cA ad_t_signs 48 (zup t_signs t_count v1)] H := hP
    have hD : va_D A [kX4 ad_t ad_t_signs t_count t_readAt t_verb t_first t_second, kI cA ad_t_signs 48 (zup t_signs t_count v1)] := hD
    refine lv_aload_n hx hb dX4_append_19 rfl (lv_at hl 0 rfl) ?_
    refine lv_dup hx hb dX4_append_20 rfl ?_
    refine va_get (D := (dC, dI)) (ci := 4) (v := .int (zi t_count)) (C := RX4) (T := TX4) (N := 6) hx hb hts in_X4_append_X4 hown hK hP 0 rfl rfl 1 (by decide) (hts _ q_X4_append_0) (fun _ h9 => h9) rfl dX4_append_21 ?_
    refine z_iconst hx hb dX4_append_24 ?_
    refine z_iadd hx hb dX4_append_25 ?_
    refine va_put (D := (dC, dI)) (ci := 4) (v := .int (zi (t_count + 1))) (ty := .int) (C := RX4) (T := TX4) (N := 6) hx hb hts in_X4_append_X4 tyX4 tyX4_ok nmX4 hown hK hP hD hS 0 rfl rfl 1 (by decide) (hts _ q_X4_append_0) (fun _ h9 => h9) rfl (by decide +kernel) rfl rfl (Nat.le_of_ble_eq_true rfl) dX4_append_26 (fun H locs hP hD hS => ?_)
    have hP : va_P (dC, dI) vwCl [kX4 ad_t ad_t_signs (t_count + 1) t_readAt t_verb t_first t_second, kI cA ad_t_signs 48 (zup t_signs t_count v1)] H := hP
    have hD : va_D A [kX4 ad_t ad_t_signs (t_count + 1) t_readAt t_verb t_first t_second, kI cA ad_t_signs 48 (zup t_signs t_count v1)] := hD
    refine lv_aload_n hx hb dX4_append_29 rfl (lv_at hl 0 rfl) ?_
    refine va_get (D := (dC, dI)) (ci := 4) (v := .int (zi (t_count + 1))) (C := RX4) (T := TX4) (N := 6) hx hb hts in_X4_append_X4 hown hK hP 0 rfl rfl 1 (by decide) (hts _ q_X4_append_0) (fun _ h9 => h9) rfl dX4_append_30 ?_
    cases h
    exact z_iret hx hb hr hlocks hP hD hS dX4_append_33
-- X4_sign
theorem dX4_sign_0 : decode cX4_sign 0 = .ok (.aload_n 0, 1) := by decide +kernel
theorem dX4_sign_1 : decode cX4_sign 1 = .ok (.getfield 19, 3) := by decide +kernel
theorem dX4_sign_4 : decode cX4_sign 4 = .ok (.ifCond .lt 35, 3) := by decide +kernel
theorem dX4_sign_7 : decode cX4_sign 7 = .ok (.aload_n 0, 1) := by decide +kernel
theorem dX4_sign_8 : decode cX4_sign 8 = .ok (.getfield 19, 3) := by decide +kernel
theorem dX4_sign_11 : decode cX4_sign 11 = .ok (.aload_n 0, 1) := by decide +kernel
theorem dX4_sign_12 : decode cX4_sign 12 = .ok (.getfield 15, 3) := by decide +kernel
theorem dX4_sign_15 : decode cX4_sign 15 = .ok (.if_icmp .ge 24, 3) := by decide +kernel
theorem dX4_sign_18 : decode cX4_sign 18 = .ok (.aload_n 0, 1) := by decide +kernel
theorem dX4_sign_19 : decode cX4_sign 19 = .ok (.getfield 19, 3) := by decide +kernel
theorem dX4_sign_22 : decode cX4_sign 22 = .ok (.bipush 48, 2) := by decide +kernel
theorem dX4_sign_24 : decode cX4_sign 24 = .ok (.if_icmp .ge 15, 3) := by decide +kernel
theorem dX4_sign_27 : decode cX4_sign 27 = .ok (.aload_n 0, 1) := by decide +kernel
theorem dX4_sign_28 : decode cX4_sign 28 = .ok (.getfield 9, 3) := by decide +kernel
theorem dX4_sign_31 : decode cX4_sign 31 = .ok (.aload_n 0, 1) := by decide +kernel
theorem dX4_sign_32 : decode cX4_sign 32 = .ok (.getfield 19, 3) := by decide +kernel
theorem dX4_sign_35 : decode cX4_sign 35 = .ok (.iaload, 1) := by decide +kernel
theorem dX4_sign_36 : decode cX4_sign 36 = .ok (.goto 5, 3) := by decide +kernel
theorem dX4_sign_39 : decode cX4_sign 39 = .ok (.bipush (-9), 2) := by decide +kernel
theorem dX4_sign_41 : decode cX4_sign 41 = .ok (.ireturn, 1) := by decide +kernel
noncomputable def f_X4_sign (t_signs : Int → Int) (t_count : Int) (t_readAt : Int) : Option (Int) := zg (zR t_readAt) (if t_readAt < 0 then some (-9) else zg (zR t_readAt ∧ zR t_count) (if t_count ≤ t_readAt then some (-9) else zg (zR t_readAt) (if 48 ≤ t_readAt then some (-9) else zg ((0 : Int) ≤ t_readAt ∧ t_readAt < (48 : Int)) (some (t_signs t_readAt)))))
theorem q_X4_sign_0 : Cond.fieldLink RX4 19 "EachSecondStruck$Letters" "readAt" "I" ∈ wsX4_sign := by decide +kernel
theorem q_X4_sign_1 : Cond.fieldLink RX4 15 "EachSecondStruck$Letters" "count" "I" ∈ wsX4_sign := by decide +kernel
theorem q_X4_sign_2 : Cond.fieldLink RX4 9 "EachSecondStruck$Letters" "signs" "[I" ∈ wsX4_sign := by decide +kernel
theorem in_X4_sign_X4 : ∀ w ∈ u_ws RX4 TX4 6, w ∈ wsX4_sign := by decide +kernel
set_option maxHeartbeats 4000000 in
set_option maxRecDepth 100000 in
theorem c_X4_sign (l : Launch) (dC : Nat → ClassId) (dI : Nat → Nat → Nat) (cA cN : ClassId) (sz : Nat) (ad_t : Nat) (ad_t_signs : Nat) (t_count : Int) (t_readAt : Int) (t_verb : Int) (t_first : Int) (t_second : Int) (t_signs : Int → Int)  (r0 : Int) (h : f_X4_sign t_signs t_count t_readAt = some r0) : Met l yX4_sign wsX4_sign { frames := 0, cells := 0, slots := 0, locals := 0 } (zPc (dC, dI) (zT cA cN) [kX4 ad_t ad_t_signs t_count t_readAt t_verb t_first t_second, kI cA ad_t_signs 48 t_signs] [.ref ad_t] sz) (zQi (dC, dI) [kX4 ad_t ad_t_signs t_count t_readAt t_verb t_first t_second, kI cA ad_t_signs 48 t_signs] r0 (va_A [kX4 ad_t ad_t_signs t_count t_readAt t_verb t_first t_second, kI cA ad_t_signs 48 t_signs] sz)) 0 0 (va_A [kX4 ad_t ad_t_signs t_count t_readAt t_verb t_first t_second, kI cA ad_t_signs 48 t_signs] sz) := by
  refine z_ofW (QF := fun A => zQi (dC, dI) [kX4 ad_t ad_t_signs t_count t_readAt t_verb t_first t_second, kI cA ad_t_signs 48 t_signs] r0 A) (by decide) rfl (Nat.le_of_ble_eq_true rfl) ?_
  intro p e s m below meth c ls A hx hb hml hr hlocks hnm hts hown hK hP hD hE hsz hA hS hl
  have hl : lv_has ls 1 [(0, .ref ad_t)] := hl
  unfold f_X4_sign at h
  refine lv_aload_n hx hb dX4_sign_0 rfl (lv_at hl 0 rfl) ?_
  refine va_get (D := (dC, dI)) (ci := 4) (v := .int (zi t_readAt)) (C := RX4) (T := TX4) (N := 6) hx hb hts in_X4_sign_X4 hown hK hP 0 rfl rfl 2 (by decide) (hts _ q_X4_sign_0) (fun _ h9 => h9) rfl dX4_sign_1 ?_
  refine z_if_lt (tgt := 39) hx hb dX4_sign_4 (by decide) h (fun h => ?_) (fun h => ?_)
  · refine z_bipush hx hb (by decide +kernel) dX4_sign_39 ?_
    cases h
    exact z_iret hx hb hr hlocks hP hD hS dX4_sign_41
  · refine lv_aload_n hx hb dX4_sign_7 rfl (lv_at hl 0 rfl) ?_
    refine va_get (D := (dC, dI)) (ci := 4) (v := .int (zi t_readAt)) (C := RX4) (T := TX4) (N := 6) hx hb hts in_X4_sign_X4 hown hK hP 0 rfl rfl 2 (by decide) (hts _ q_X4_sign_0) (fun _ h9 => h9) rfl dX4_sign_8 ?_
    refine lv_aload_n hx hb dX4_sign_11 rfl (lv_at hl 0 rfl) ?_
    refine va_get (D := (dC, dI)) (ci := 4) (v := .int (zi t_count)) (C := RX4) (T := TX4) (N := 6) hx hb hts in_X4_sign_X4 hown hK hP 0 rfl rfl 1 (by decide) (hts _ q_X4_sign_1) (fun _ h9 => h9) rfl dX4_sign_12 ?_
    refine z_icmp_ge (tgt := 39) hx hb dX4_sign_15 (by decide) h (fun q => q) (fun h => ?_) (fun h => ?_)
    · refine z_bipush hx hb (by decide +kernel) dX4_sign_39 ?_
      cases h
      exact z_iret hx hb hr hlocks hP hD hS dX4_sign_41
    · refine lv_aload_n hx hb dX4_sign_18 rfl (lv_at hl 0 rfl) ?_
      refine va_get (D := (dC, dI)) (ci := 4) (v := .int (zi t_readAt)) (C := RX4) (T := TX4) (N := 6) hx hb hts in_X4_sign_X4 hown hK hP 0 rfl rfl 2 (by decide) (hts _ q_X4_sign_0) (fun _ h9 => h9) rfl dX4_sign_19 ?_
      refine z_bipush hx hb (by decide +kernel) dX4_sign_22 ?_
      refine z_icmp_ge (tgt := 39) hx hb dX4_sign_24 (by decide) h (fun q => ⟨q, by decide⟩) (fun h => ?_) (fun h => ?_)
      · refine z_bipush hx hb (by decide +kernel) dX4_sign_39 ?_
        cases h
        exact z_iret hx hb hr hlocks hP hD hS dX4_sign_41
      · refine lv_aload_n hx hb dX4_sign_27 rfl (lv_at hl 0 rfl) ?_
        refine va_get (D := (dC, dI)) (ci := 4) (v := .ref ad_t_signs) (C := RX4) (T := TX4) (N := 6) hx hb hts in_X4_sign_X4 hown hK hP 0 rfl rfl 0 (by decide) (hts _ q_X4_sign_2) (fun _ h9 => h9) rfl dX4_sign_28 ?_
        refine lv_aload_n hx hb dX4_sign_31 rfl (lv_at hl 0 rfl) ?_
        refine va_get (D := (dC, dI)) (ci := 4) (v := .int (zi t_readAt)) (C := RX4) (T := TX4) (N := 6) hx hb hts in_X4_sign_X4 hown hK hP 0 rfl rfl 2 (by decide) (hts _ q_X4_sign_0) (fun _ h9 => h9) rfl dX4_sign_32 ?_
        refine z_iald (N := 48) hx hb hK hP 1 0 rfl rfl rfl (by decide) dX4_sign_35 h (fun h => ?_)
        refine lv_goto (tgt := 41) hx hb dX4_sign_36 (by decide) ?_
        cases h
        exact z_iret hx hb hr hlocks hP hD hS dX4_sign_41
-- X4_isDigit
theorem dX4_isDigit_0 : decode cX4_isDigit 0 = .ok (.iload_n 0, 1) := by decide +kernel
theorem dX4_isDigit_1 : decode cX4_isDigit 1 = .ok (.bipush 48, 2) := by decide +kernel
theorem dX4_isDigit_3 : decode cX4_isDigit 3 = .ok (.if_icmp .lt 13, 3) := by decide +kernel
theorem dX4_isDigit_6 : decode cX4_isDigit 6 = .ok (.iload_n 0, 1) := by decide +kernel
theorem dX4_isDigit_7 : decode cX4_isDigit 7 = .ok (.bipush 57, 2) := by decide +kernel
theorem dX4_isDigit_9 : decode cX4_isDigit 9 = .ok (.if_icmp .gt 7, 3) := by decide +kernel
theorem dX4_isDigit_12 : decode cX4_isDigit 12 = .ok (.iconst 1, 1) := by decide +kernel
theorem dX4_isDigit_13 : decode cX4_isDigit 13 = .ok (.goto 4, 3) := by decide +kernel
theorem dX4_isDigit_16 : decode cX4_isDigit 16 = .ok (.iconst 0, 1) := by decide +kernel
theorem dX4_isDigit_17 : decode cX4_isDigit 17 = .ok (.ireturn, 1) := by decide +kernel
noncomputable def f_X4_isDigit (v0 : Int) : Option (Int) := zg (zR v0) (if v0 < 48 then some 0 else zg (zR v0) (if 57 < v0 then some 0 else some 1))
set_option maxHeartbeats 4000000 in
set_option maxRecDepth 100000 in
theorem c_X4_isDigit (l : Launch) (dC : Nat → ClassId) (dI : Nat → Nat → Nat) (cA cN : ClassId) (sz : Nat)  (v0 : Int) (r0 : Int) (h : f_X4_isDigit v0 = some r0) : Met l yX4_isDigit wsX4_isDigit { frames := 0, cells := 0, slots := 0, locals := 0 } (zPc (dC, dI) (zT cA cN) [] [.int (zi v0)] sz) (zQi (dC, dI) [] r0 (va_A [] sz)) 0 0 (va_A [] sz) := by
  refine z_ofW (QF := fun A => zQi (dC, dI) [] r0 A) (by decide) rfl (Nat.le_of_ble_eq_true rfl) ?_
  intro p e s m below meth c ls A hx hb hml hr hlocks hnm hts hown hK hP hD hE hsz hA hS hl
  have hl : lv_has ls 1 [(0, .int (zi v0))] := hl
  unfold f_X4_isDigit at h
  refine lv_iload_n hx hb dX4_isDigit_0 rfl (lv_at hl 0 rfl) ?_
  refine z_bipush hx hb (by decide +kernel) dX4_isDigit_1 ?_
  refine z_icmp_lt (tgt := 16) hx hb dX4_isDigit_3 (by decide) h (fun q => ⟨q, by decide⟩) (fun h => ?_) (fun h => ?_)
  · refine z_iconst hx hb dX4_isDigit_16 ?_
    cases h
    exact z_zret hx hb hr hlocks (by decide) hP hD hS dX4_isDigit_17
  · refine lv_iload_n hx hb dX4_isDigit_6 rfl (lv_at hl 0 rfl) ?_
    refine z_bipush hx hb (by decide +kernel) dX4_isDigit_7 ?_
    refine z_icmp_gt (tgt := 16) hx hb dX4_isDigit_9 (by decide) h (fun q => ⟨q, by decide⟩) (fun h => ?_) (fun h => ?_)
    · refine z_iconst hx hb dX4_isDigit_16 ?_
      cases h
      exact z_zret hx hb hr hlocks (by decide) hP hD hS dX4_isDigit_17
    · refine z_iconst hx hb dX4_isDigit_12 ?_
      refine lv_goto (tgt := 17) hx hb dX4_isDigit_13 (by decide) ?_
      cases h
      exact z_zret hx hb hr hlocks (by decide) hP hD hS dX4_isDigit_17
-- X4_readNumber
theorem dX4_readNumber_0 : decode cX4_readNumber 0 = .ok (.bipush (-9), 2) := by decide +kernel
theorem dX4_readNumber_2 : decode cX4_readNumber 2 = .ok (.istore_n 2, 1) := by decide +kernel
theorem dX4_readNumber_3 : decode cX4_readNumber 3 = .ok (.iconst 0, 1) := by decide +kernel
theorem dX4_readNumber_4 : decode cX4_readNumber 4 = .ok (.istore_n 3, 1) := by decide +kernel
theorem dX4_readNumber_5 : decode cX4_readNumber 5 = .ok (.iload_n 3, 1) := by decide +kernel
theorem dX4_readNumber_6 : decode cX4_readNumber 6 = .ok (.iload_n 1, 1) := by decide +kernel
theorem dX4_readNumber_7 : decode cX4_readNumber 7 = .ok (.if_icmp .ge 46, 3) := by decide +kernel
theorem dX4_readNumber_10 : decode cX4_readNumber 10 = .ok (.aload_n 0, 1) := by decide +kernel
theorem dX4_readNumber_11 : decode cX4_readNumber 11 = .ok (.invokevirtual 26, 3) := by decide +kernel
theorem dX4_readNumber_14 : decode cX4_readNumber 14 = .ok (.invokestatic 53, 3) := by decide +kernel
theorem dX4_readNumber_17 : decode cX4_readNumber 17 = .ok (.ifCond .eq 36, 3) := by decide +kernel
theorem dX4_readNumber_20 : decode cX4_readNumber 20 = .ok (.iload_n 2, 1) := by decide +kernel
theorem dX4_readNumber_21 : decode cX4_readNumber 21 = .ok (.iconst 0, 1) := by decide +kernel
theorem dX4_readNumber_22 : decode cX4_readNumber 22 = .ok (.invokestatic 56, 3) := by decide +kernel
theorem dX4_readNumber_25 : decode cX4_readNumber 25 = .ok (.bipush 10, 2) := by decide +kernel
theorem dX4_readNumber_27 : decode cX4_readNumber 27 = .ok (.imul, 1) := by decide +kernel
theorem dX4_readNumber_28 : decode cX4_readNumber 28 = .ok (.aload_n 0, 1) := by decide +kernel
theorem dX4_readNumber_29 : decode cX4_readNumber 29 = .ok (.invokevirtual 26, 3) := by decide +kernel
theorem dX4_readNumber_32 : decode cX4_readNumber 32 = .ok (.iadd, 1) := by decide +kernel
theorem dX4_readNumber_33 : decode cX4_readNumber 33 = .ok (.bipush 48, 2) := by decide +kernel
theorem dX4_readNumber_35 : decode cX4_readNumber 35 = .ok (.isub, 1) := by decide +kernel
theorem dX4_readNumber_36 : decode cX4_readNumber 36 = .ok (.istore_n 2, 1) := by decide +kernel
theorem dX4_readNumber_37 : decode cX4_readNumber 37 = .ok (.aload_n 0, 1) := by decide +kernel
theorem dX4_readNumber_38 : decode cX4_readNumber 38 = .ok (.dup, 1) := by decide +kernel
theorem dX4_readNumber_39 : decode cX4_readNumber 39 = .ok (.getfield 19, 3) := by decide +kernel
theorem dX4_readNumber_42 : decode cX4_readNumber 42 = .ok (.iconst 1, 1) := by decide +kernel
theorem dX4_readNumber_43 : decode cX4_readNumber 43 = .ok (.iadd, 1) := by decide +kernel
theorem dX4_readNumber_44 : decode cX4_readNumber 44 = .ok (.putfield 19, 3) := by decide +kernel
theorem dX4_readNumber_47 : decode cX4_readNumber 47 = .ok (.iinc 3 1, 3) := by decide +kernel
theorem dX4_readNumber_50 : decode cX4_readNumber 50 = .ok (.goto (-45), 3) := by decide +kernel
theorem dX4_readNumber_53 : decode cX4_readNumber 53 = .ok (.iload_n 2, 1) := by decide +kernel
theorem dX4_readNumber_54 : decode cX4_readNumber 54 = .ok (.ireturn, 1) := by decide +kernel
set_option maxRecDepth 20000 in
theorem ggX4_readNumber_X4_sign : GoodIn wsX4_readNumber wsX4_sign := goodIn_r _ [10, 5, 11, 12, 16, 17, 18, 19, 20, 21] rfl (by decide +kernel)
set_option maxRecDepth 20000 in
theorem gX4_readNumber_X4_sign : GoodIn wsX4_readNumber (wsV RX4 26 RX4 yX4_sign wsX4_sign) := goodIn_app (goodIn_of _ (by decide +kernel)) ggX4_readNumber_X4_sign
set_option maxRecDepth 20000 in
theorem ggX4_readNumber_X4_isDigit : GoodIn wsX4_readNumber wsX4_isDigit := goodIn_r _ [15] rfl (by decide +kernel)
set_option maxRecDepth 20000 in
theorem gX4_readNumber_X4_isDigit : GoodIn wsX4_readNumber (va_wsS RX4 53 yX4_isDigit wsX4_isDigit) := goodIn_app (goodIn_of _ (by decide +kernel)) ggX4_readNumber_X4_isDigit
noncomputable def f_X4_readNumber_L5 : Nat → Int → Int → Int → (Int → Int) → Int → Int → Option (Int × Int)
  | 0, _, _, _, _, _, _ => none
  | n + 1, v1, v2, v3, t_signs, t_count, t_readAt => zg (zR v3 ∧ zR v1) (if v1 ≤ v3 then some (v2, t_readAt) else (f_X4_sign t_signs t_count t_readAt).bind (fun r_1 => (f_X4_isDigit r_1).bind (fun r_3 => zg (zR r_3) (if r_3 = 0 then some (v2, t_readAt) else zg (zR v2 ∧ zR 0) ((f_X4_sign t_signs t_count t_readAt).bind (fun r_5 => f_X4_readNumber_L5 n v1 ((((if v2 < 0 then 0 else v2) * 10) + r_5) - 48) (v3 + 1) t_signs t_count (t_readAt + 1)))))))
theorem f_X4_readNumber_L5_z (v1 : Int) (v2 : Int) (v3 : Int) (t_signs : Int → Int) (t_count : Int) (t_readAt : Int) : f_X4_readNumber_L5 0 v1 v2 v3 t_signs t_count t_readAt = none := rfl
theorem f_X4_readNumber_L5_s (n : Nat) (v1 : Int) (v2 : Int) (v3 : Int) (t_signs : Int → Int) (t_count : Int) (t_readAt : Int) : f_X4_readNumber_L5 (n + 1) v1 v2 v3 t_signs t_count t_readAt = zg (zR v3 ∧ zR v1) (if v1 ≤ v3 then some (v2, t_readAt) else (f_X4_sign t_signs t_count t_readAt).bind (fun r_1 => (f_X4_isDigit r_1).bind (fun r_3 => zg (zR r_3) (if r_3 = 0 then some (v2, t_readAt) else zg (zR v2 ∧ zR 0) ((f_X4_sign t_signs t_count t_readAt).bind (fun r_5 => f_X4_readNumber_L5 n v1 ((((if v2 < 0 then 0 else v2) * 10) + r_5) - 48) (v3 + 1) t_signs t_count (t_readAt + 1))))))) := rfl
noncomputable def f_X4_readNumber (v1 : Int) (t_signs : Int → Int) (t_count : Int) (t_readAt : Int) : Option (Int × Int) := (f_X4_readNumber_L5 zF v1 (-9) 0 t_signs t_count t_readAt).bind (fun (v2_7, t_readAt_8) => some (v2_7, t_readAt_8))
theorem q_X4_readNumber_0 : Cond.methodLink RX4 56 Lib.Math.max.name ∈ wsX4_readNumber := by decide +kernel
theorem q_X4_readNumber_1 : Cond.static Lib.Math.max.name ∈ wsX4_readNumber := by decide +kernel
theorem q_X4_readNumber_2 : Cond.initialized "java/lang/Math" ∈ wsX4_readNumber := by decide +kernel
theorem q_X4_readNumber_3 : Cond.code Lib.Math.max.name Lib.Math.max.code 2 (some .int) ∈ wsX4_readNumber := by decide +kernel
theorem q_X4_readNumber_4 : Cond.fieldLink RX4 19 "EachSecondStruck$Letters" "readAt" "I" ∈ wsX4_readNumber := by decide +kernel
theorem in_X4_readNumber_X4 : ∀ w ∈ u_ws RX4 TX4 6, w ∈ wsX4_readNumber := by decide +kernel
set_option maxHeartbeats 4000000 in
set_option maxRecDepth 100000 in
theorem c_X4_readNumber (l : Launch) (dC : Nat → ClassId) (dI : Nat → Nat → Nat) (cA cN : ClassId) (sz : Nat) (ad_t : Nat) (ad_t_signs : Nat) (t_count : Int) (t_readAt : Int) (t_verb : Int) (t_first : Int) (t_second : Int) (t_signs : Int → Int) (v1 : Int) (r0 : Int) (t_readAt9 : Int) (h : f_X4_readNumber v1 t_signs t_count t_readAt = some (r0, t_readAt9)) : Met l yX4_readNumber wsX4_readNumber { frames := 1, cells := 0, slots := 0, locals := 20 } (zPc (dC, dI) (zT cA cN) [kX4 ad_t ad_t_signs t_count t_readAt t_verb t_first t_second, kI cA ad_t_signs 48 t_signs] [.ref ad_t, .int (zi v1)] sz) (zQi (dC, dI) [kX4 ad_t ad_t_signs t_count t_readAt9 t_verb t_first t_second, kI cA ad_t_signs 48 t_signs] r0 (va_A [kX4 ad_t ad_t_signs t_count t_readAt t_verb t_first t_second, kI cA ad_t_signs 48 t_signs] sz)) 0 0 (va_A [kX4 ad_t ad_t_signs t_count t_readAt t_verb t_first t_second, kI cA ad_t_signs 48 t_signs] sz) := by
  refine z_ofW (QF := fun A => zQi (dC, dI) [kX4 ad_t ad_t_signs t_count t_readAt9 t_verb t_first t_second, kI cA ad_t_signs 48 t_signs] r0 A) (by decide) rfl (Nat.le_of_ble_eq_true rfl) ?_
  intro p e s m below meth c ls A hx hb hml hr hlocks hnm hts hown hK hP hD hE hsz hA hS hl
  have hl : lv_has ls 4 [(0, .ref ad_t), (1, .int (zi v1))] := hl
  unfold f_X4_readNumber at h
  refine z_bipush hx hb (by decide +kernel) dX4_readNumber_0 ?_
  refine lv_istore_n (lv' := [(2, .int (zi (-9))), (0, .ref ad_t), (1, .int (zi v1))]) hx hb dX4_readNumber_2 rfl hl (by decide) rfl (fun ls hl => ?_)
  refine z_iconst hx hb dX4_readNumber_3 ?_
  refine lv_istore_n (lv' := [(3, .int (zi 0)), (2, .int (zi (-9))), (0, .ref ad_t), (1, .int (zi v1))]) hx hb dX4_readNumber_4 rfl hl (by decide) rfl (fun ls hl => ?_)
  obtain ⟨⟨v2_9, t_readAt_10⟩, hl_11, h⟩ := zb h
  try dsimp only at h
  have hx5 : ∀ (v2_12 : Int) (t_readAt_13 : Int) (H : Heap) (locs : List Loc) (ls : Array Slot), some (v2_12, t_readAt_13) = some (v2_9, t_readAt_10) → va_P (dC, dI) vwCl [kX4 ad_t ad_t_signs t_count t_readAt_13 t_verb t_first t_second, kI cA ad_t_signs 48 t_signs] H → va_D A [kX4 ad_t ad_t_signs t_count t_readAt_13 t_verb t_first t_second, kI cA ad_t_signs 48 t_signs] → va_S A s.heap H locs → lv_has ls 4 [(2, .int (zi v2_12))] → W p l e { frames := 1, cells := 0, slots := 0, locals := 20 } s m ([.ref ad_t, .int (zi v1)] : List Value).toArray below meth c H locs 0 0 (MQ below (zQi (dC, dI) [kX4 ad_t ad_t_signs t_count t_readAt9 t_verb t_first t_second, kI cA ad_t_signs 48 t_signs] r0 A) ([.ref ad_t, .int (zi v1)] : List Value).toArray s 0 0 A) (F0 m 53 ls []) := by
    intro v2_12 t_readAt_13 H locs ls he hP hD hS hl
    obtain ⟨rfl, rfl⟩ := zinj2 he
    refine lv_iload_n hx hb dX4_readNumber_53 rfl (lv_at hl 0 rfl) ?_
    cases h
    exact z_iret hx hb hr hlocks hP hD hS dX4_readNumber_54
  clear h
  have hlp5 : ∀ (n : Nat) (v2_14 : Int) (v3_15 : Int) (t_readAt_16 : Int) (H : Heap) (locs : List Loc) (ls : Array Slot), f_X4_readNumber_L5 n v1 v2_14 v3_15 t_signs t_count t_readAt_16 = some (v2_9, t_readAt_10) → va_P (dC, dI) vwCl [kX4 ad_t ad_t_signs t_count t_readAt_16 t_verb t_first t_second, kI cA ad_t_signs 48 t_signs] H → va_D A [kX4 ad_t ad_t_signs t_count t_readAt_16 t_verb t_first t_second, kI cA ad_t_signs 48 t_signs] → va_S A s.heap H locs → lv_has ls 4 [(0, .ref ad_t), (1, .int (zi v1)), (2, .int (zi v2_14)), (3, .int (zi v3_15))] → W p l e { frames := 1, cells := 0, slots := 0, locals := 20 } s m ([.ref ad_t, .int (zi v1)] : List Value).toArray below meth c H locs 0 0 (MQ below (zQi (dC, dI) [kX4 ad_t ad_t_signs t_count t_readAt9 t_verb t_first t_second, kI cA ad_t_signs 48 t_signs] r0 A) ([.ref ad_t, .int (zi v1)] : List Value).toArray s 0 0 A) (F0 m 5 ls []) := by
    intro n
    induction n with
    | zero => intro v2_14 v3_15 t_readAt_16 H locs ls h; rw [f_X4_readNumber_L5_z] at h; cases h
    | succ n ih5 =>
      intro v2_14 v3_15 t_readAt_16 H locs ls h hP hD hS hl
      rw [f_X4_readNumber_L5_s] at h
      refine lv_iload_n hx hb dX4_readNumber_5 rfl (lv_at hl 3 rfl) ?_
      refine lv_iload_n hx hb dX4_readNumber_6 rfl (lv_at hl 1 rfl) ?_
      refine z_icmp_ge (tgt := 53) hx hb dX4_readNumber_7 (by decide) h (fun q => q) (fun h => ?_) (fun h => ?_)
      · exact hx5 _ _ _ _ _ h hP hD hS (lv_sub hl [2] rfl)
      · refine lv_aload_n hx hb dX4_readNumber_10 rfl (lv_at hl 0 rfl) ?_
        obtain ⟨r_17, hc_18, h⟩ := zb h
        try dsimp only at h
        refine z_calliU (wc := [kX4 ad_t ad_t_signs t_count t_readAt_16 t_verb t_first t_second, kI cA ad_t_signs 48 t_signs]) (wc' := [kX4 ad_t ad_t_signs t_count t_readAt_16 t_verb t_first t_second, kI cA ad_t_signs 48 t_signs]) (ws' := [kX4 ad_t ad_t_signs t_count t_readAt_16 t_verb t_first t_second, kI cA ad_t_signs 48 t_signs]) (va_runV (As := []) (rest := []) ⟨hx, hb, hml, hown, hts⟩ (c_X4_sign l dC dI cA cN _ ad_t ad_t_signs t_count t_readAt_16 t_verb t_first t_second t_signs r_17 hc_18) (cwV 0 hts gX4_readNumber_X4_sign rfl rfl rfl (by decide +kernel) ⟨Nat.le_of_ble_eq_true rfl, Nat.le_of_ble_eq_true rfl⟩) (zPc.preV hK hE hP hD [0, 1] rfl rfl (ci := 4) (q0 := 0) rfl rfl) rfl rfl hl.1 rfl (lv_room (Nat.le_of_ble_eq_true rfl)) dX4_readNumber_11 ⟨Nat.le_of_ble_eq_true rfl, Nat.le_of_ble_eq_true rfl⟩) hP hD hS hA [0, 1] rfl rfl rfl (fun H locs hP hD hS => ?_)
        obtain ⟨r_19, hc_20, h⟩ := zb h
        try dsimp only at h
        refine z_calliU (wc := []) (wc' := []) (ws' := [kX4 ad_t ad_t_signs t_count t_readAt_16 t_verb t_first t_second, kI cA ad_t_signs 48 t_signs]) (va_runS (As := [.int (zi r_17)]) (rest := []) ⟨hx, hb, hml, hown, hts⟩ (c_X4_isDigit l dC dI cA cN _ r_17 r_19 hc_20) (va_cwS 1 hts gX4_readNumber_X4_isDigit rfl rfl rfl (by decide +kernel) ⟨Nat.le_of_ble_eq_true rfl, Nat.le_of_ble_eq_true rfl⟩) (zPc.pre hK hE hP hD [] rfl rfl) rfl rfl hl.1 rfl (lv_room (Nat.le_of_ble_eq_true rfl)) dX4_readNumber_14 ⟨Nat.le_of_ble_eq_true rfl, Nat.le_of_ble_eq_true rfl⟩) hP hD hS hA [] rfl rfl rfl (fun H locs hP hD hS => ?_)
        refine z_if_eq (tgt := 53) hx hb dX4_readNumber_17 (by decide) h (fun h => ?_) (fun h => ?_)
        · exact hx5 _ _ _ _ _ h hP hD hS (lv_sub hl [2] rfl)
        · refine lv_iload_n hx hb dX4_readNumber_20 rfl (lv_at hl 2 rfl) ?_
          refine z_iconst hx hb dX4_readNumber_21 ?_
          refine z_mmax hx hb (hml.trans hl.1.symm) hown (hts _ q_X4_readNumber_0) (hts _ q_X4_readNumber_1) (hts _ q_X4_readNumber_2) (hts _ q_X4_readNumber_3) (Nat.le_of_ble_eq_true rfl) (Nat.le_of_ble_eq_true rfl) (Nat.le_of_ble_eq_true rfl) (Nat.le_of_ble_eq_true rfl) dX4_readNumber_22 h (fun h => ?_)
          refine z_bipush hx hb (by decide +kernel) dX4_readNumber_25 ?_
          refine z_imul hx hb dX4_readNumber_27 ?_
          refine lv_aload_n hx hb dX4_readNumber_28 rfl (lv_at hl 0 rfl) ?_
          obtain ⟨r_21, hc_22, h⟩ := zb h
          try dsimp only at h
          refine z_calliU (wc := [kX4 ad_t ad_t_signs t_count t_readAt_16 t_verb t_first t_second, kI cA ad_t_signs 48 t_signs]) (wc' := [kX4 ad_t ad_t_signs t_count t_readAt_16 t_verb t_first t_second, kI cA ad_t_signs 48 t_signs]) (ws' := [kX4 ad_t ad_t_signs t_count t_readAt_16 t_verb t_first t_second, kI cA ad_t_signs 48 t_signs]) (va_runV (As := []) (rest := [.int (zi ((if v2_14 < 0 then 0 else v2_14) * 10))]) ⟨hx, hb, hml, hown, hts⟩ (c_X4_sign l dC dI cA cN _ ad_t ad_t_signs t_count t_readAt_16 t_verb t_first t_second t_signs r_21 hc_22) (cwV 0 hts gX4_readNumber_X4_sign rfl rfl rfl (by decide +kernel) ⟨Nat.le_of_ble_eq_true rfl, Nat.le_of_ble_eq_true rfl⟩) (zPc.preV hK hE hP hD [0, 1] rfl rfl (ci := 4) (q0 := 0) rfl rfl) rfl rfl hl.1 rfl (lv_room (Nat.le_of_ble_eq_true rfl)) dX4_readNumber_29 ⟨Nat.le_of_ble_eq_true rfl, Nat.le_of_ble_eq_true rfl⟩) hP hD hS hA [0, 1] rfl rfl rfl (fun H locs hP hD hS => ?_)
          refine z_iadd hx hb dX4_readNumber_32 ?_
          refine z_bipush hx hb (by decide +kernel) dX4_readNumber_33 ?_
          refine z_isub hx hb dX4_readNumber_35 ?_
          refine lv_istore_n (lv' := [(2, .int (zi ((((if v2_14 < 0 then 0 else v2_14) * 10) + r_21) - 48))), (0, .ref ad_t), (1, .int (zi v1)), (3, .int (zi v3_15))]) hx hb dX4_readNumber_36 rfl hl (by decide) rfl (fun ls hl => ?_)
          refine lv_aload_n hx hb dX4_readNumber_37 rfl (lv_at hl 1 rfl) ?_
          refine lv_dup hx hb dX4_readNumber_38 rfl ?_
          refine va_get (D := (dC, dI)) (ci := 4) (v := .int (zi t_readAt_16)) (C := RX4) (T := TX4) (N := 6) hx hb hts in_X4_readNumber_X4 hown hK hP 0 rfl rfl 2 (by decide) (hts _ q_X4_readNumber_4) (fun _ h9 => h9) rfl dX4_readNumber_39 ?_
          refine z_iconst hx hb dX4_readNumber_42 ?_
          refine z_iadd hx hb dX4_readNumber_43 ?_
          refine va_put (D := (dC, dI)) (ci := 4) (v := .int (zi (t_readAt_16 + 1))) (ty := .int) (C := RX4) (T := TX4) (N := 6) hx hb hts in_X4_readNumber_X4 tyX4 tyX4_ok nmX4 hown hK hP hD hS 0 rfl rfl 2 (by decide) (hts _ q_X4_readNumber_4) (fun _ h9 => h9) rfl (by decide +kernel) rfl rfl (Nat.le_of_ble_eq_true rfl) dX4_readNumber_44 (fun H locs hP hD hS => ?_)
          have hP : va_P (dC, dI) vwCl [kX4 ad_t ad_t_signs t_count (t_readAt_16 + 1) t_verb t_first t_second, kI cA ad_t_signs 48 t_signs] H := hP
          have hD : va_D A [kX4 ad_t ad_t_signs t_count (t_readAt_16 + 1) t_verb t_first t_second, kI cA ad_t_signs 48 t_signs] := hD
          refine z_iinc (lv' := [(3, .int (zi (v3_15 + 1))), (2, .int (zi ((((if v2_14 < 0 then 0 else v2_14) * 10) + r_21) - 48))), (0, .ref ad_t), (1, .int (zi v1))]) hx hb dX4_readNumber_47 hl (k := 3) rfl (by decide) rfl (fun ls hl => ?_)
          refine lv_goto (tgt := 5) hx hb dX4_readNumber_50 (by decide) ?_
          exact ih5 _ _ _ _ _ _ h hP hD hS (lv_sub hl [2, 3, 1, 0] rfl)
  exact hlp5 zF _ _ _ _ _ _ hl_11 hP hD hS (lv_sub hl [2, 3, 1, 0] rfl)
-- X4_readFirst
theorem dX4_readFirst_0 : decode cX4_readFirst 0 = .ok (.aload_n 0, 1) := by decide +kernel
theorem dX4_readFirst_1 : decode cX4_readFirst 1 = .ok (.aload_n 0, 1) := by decide +kernel
theorem dX4_readFirst_2 : decode cX4_readFirst 2 = .ok (.iload_n 1, 1) := by decide +kernel
theorem dX4_readFirst_3 : decode cX4_readFirst 3 = .ok (.invokevirtual 46, 3) := by decide +kernel
theorem dX4_readFirst_6 : decode cX4_readFirst 6 = .ok (.putfield 50, 3) := by decide +kernel
theorem dX4_readFirst_9 : decode cX4_readFirst 9 = .ok (.aload_n 0, 1) := by decide +kernel
theorem dX4_readFirst_10 : decode cX4_readFirst 10 = .ok (.getfield 50, 3) := by decide +kernel
theorem dX4_readFirst_13 : decode cX4_readFirst 13 = .ok (.ifCond .lt 7, 3) := by decide +kernel
theorem dX4_readFirst_16 : decode cX4_readFirst 16 = .ok (.iconst 1, 1) := by decide +kernel
theorem dX4_readFirst_17 : decode cX4_readFirst 17 = .ok (.goto 4, 3) := by decide +kernel
theorem dX4_readFirst_20 : decode cX4_readFirst 20 = .ok (.iconst 0, 1) := by decide +kernel
theorem dX4_readFirst_21 : decode cX4_readFirst 21 = .ok (.ireturn, 1) := by decide +kernel
set_option maxRecDepth 20000 in
theorem ggX4_readFirst_X4_readNumber : GoodIn wsX4_readFirst wsX4_readNumber := goodIn_r _ [6, 7, 8, 9, 10, 11, 12, 13, 14, 5, 15, 16, 17, 18, 19, 20, 21, 22, 23, 24, 25, 26] rfl (by decide +kernel)
set_option maxRecDepth 20000 in
theorem gX4_readFirst_X4_readNumber : GoodIn wsX4_readFirst (wsV RX4 46 RX4 yX4_readNumber wsX4_readNumber) := goodIn_app (goodIn_of _ (by decide +kernel)) ggX4_readFirst_X4_readNumber
noncomputable def f_X4_readFirst (v1 : Int) (t_signs : Int → Int) (t_count : Int) (t_readAt : Int) (t_first : Int) : Option (Int × Int × Int) := (f_X4_readNumber v1 t_signs t_count t_readAt).bind (fun (r_1, t_readAt_2) => zg (zR r_1) (if r_1 < 0 then some (0, t_readAt_2, r_1) else some (1, t_readAt_2, r_1)))
theorem q_X4_readFirst_0 : Cond.fieldLink RX4 50 "EachSecondStruck$Letters" "first" "I" ∈ wsX4_readFirst := by decide +kernel
theorem in_X4_readFirst_X4 : ∀ w ∈ u_ws RX4 TX4 6, w ∈ wsX4_readFirst := by decide +kernel
set_option maxHeartbeats 4000000 in
set_option maxRecDepth 100000 in
theorem c_X4_readFirst (l : Launch) (dC : Nat → ClassId) (dI : Nat → Nat → Nat) (cA cN : ClassId) (sz : Nat) (ad_t : Nat) (ad_t_signs : Nat) (t_count : Int) (t_readAt : Int) (t_verb : Int) (t_first : Int) (t_second : Int) (t_signs : Int → Int) (v1 : Int) (r0 : Int) (t_readAt9 : Int) (t_first9 : Int) (h : f_X4_readFirst v1 t_signs t_count t_readAt t_first = some (r0, t_readAt9, t_first9)) : Met l yX4_readFirst wsX4_readFirst { frames := 2, cells := 0, slots := 0, locals := 43 } (zPc (dC, dI) (zT cA cN) [kX4 ad_t ad_t_signs t_count t_readAt t_verb t_first t_second, kI cA ad_t_signs 48 t_signs] [.ref ad_t, .int (zi v1)] sz) (zQi (dC, dI) [kX4 ad_t ad_t_signs t_count t_readAt9 t_verb t_first9 t_second, kI cA ad_t_signs 48 t_signs] r0 (va_A [kX4 ad_t ad_t_signs t_count t_readAt t_verb t_first t_second, kI cA ad_t_signs 48 t_signs] sz)) 0 0 (va_A [kX4 ad_t ad_t_signs t_count t_readAt t_verb t_first t_second, kI cA ad_t_signs 48 t_signs] sz) := by
  refine z_ofW (QF := fun A => zQi (dC, dI) [kX4 ad_t ad_t_signs t_count t_readAt9 t_verb t_first9 t_second, kI cA ad_t_signs 48 t_signs] r0 A) (by decide) rfl (Nat.le_of_ble_eq_true rfl) ?_
  intro p e s m below meth c ls A hx hb hml hr hlocks hnm hts hown hK hP hD hE hsz hA hS hl
  have hl : lv_has ls 2 [(0, .ref ad_t), (1, .int (zi v1))] := hl
  unfold f_X4_readFirst at h
  refine lv_aload_n hx hb dX4_readFirst_0 rfl (lv_at hl 0 rfl) ?_
  refine lv_aload_n hx hb dX4_readFirst_1 rfl (lv_at hl 0 rfl) ?_
  refine lv_iload_n hx hb dX4_readFirst_2 rfl (lv_at hl 1 rfl) ?_
  obtain ⟨⟨r_4, t_readAt_5⟩, hc_6, h⟩ := zb h
  try dsimp only at h
  refine z_calliU (wc := [kX4 ad_t ad_t_signs t_count t_readAt t_verb t_first t_second, kI cA ad_t_signs 48 t_signs]) (wc' := [kX4 ad_t ad_t_signs t_count t_readAt_5 t_verb t_first t_second, kI cA ad_t_signs 48 t_signs]) (ws' := [kX4 ad_t ad_t_signs t_count t_readAt_5 t_verb t_first t_second, kI cA ad_t_signs 48 t_signs]) (va_runV (As := [.int (zi v1)]) (rest := [.ref ad_t]) ⟨hx, hb, hml, hown, hts⟩ (c_X4_readNumber l dC dI cA cN _ ad_t ad_t_signs t_count t_readAt t_verb t_first t_second t_signs v1 r_4 t_readAt_5 hc_6) (cwV 1 hts gX4_readFirst_X4_readNumber rfl rfl rfl (by decide +kernel) ⟨Nat.le_of_ble_eq_true rfl, Nat.le_of_ble_eq_true rfl⟩) (zPc.preV hK hE hP hD [0, 1] rfl rfl (ci := 4) (q0 := 0) rfl rfl) rfl rfl hl.1 rfl (lv_room (Nat.le_of_ble_eq_true rfl)) dX4_readFirst_3 ⟨Nat.le_of_ble_eq_true rfl, Nat.le_of_ble_eq_true rfl⟩) hP hD hS hA [0, 1] rfl rfl rfl (fun H locs hP hD hS => ?_)
  refine va_put (D := (dC, dI)) (ci := 4) (v := .int (zi r_4)) (ty := .int) (C := RX4) (T := TX4) (N := 6) hx hb hts in_X4_readFirst_X4 tyX4 tyX4_ok nmX4 hown hK hP hD hS 0 rfl rfl 4 (by decide) (hts _ q_X4_readFirst_0) (fun _ h9 => h9) rfl (by decide +kernel) rfl rfl (Nat.le_of_ble_eq_true rfl) dX4_readFirst_6 (fun H locs hP hD hS => ?_)
  have hP : va_P (dC, dI) vwCl [kX4 ad_t ad_t_signs t_count t_readAt_5 t_verb r_4 t_second, kI cA ad_t_signs 48 t_signs] H := hP
  have hD : va_D A [kX4 ad_t ad_t_signs t_count t_readAt_5 t_verb r_4 t_second, kI cA ad_t_signs 48 t_signs] := hD
  refine lv_aload_n hx hb dX4_readFirst_9 rfl (lv_at hl 0 rfl) ?_
  refine va_get (D := (dC, dI)) (ci := 4) (v := .int (zi r_4)) (C := RX4) (T := TX4) (N := 6) hx hb hts in_X4_readFirst_X4 hown hK hP 0 rfl rfl 4 (by decide) (hts _ q_X4_readFirst_0) (fun _ h9 => h9) rfl dX4_readFirst_10 ?_
  refine z_if_lt (tgt := 20) hx hb dX4_readFirst_13 (by decide) h (fun h => ?_) (fun h => ?_)
  · refine z_iconst hx hb dX4_readFirst_20 ?_
    cases h
    exact z_zret hx hb hr hlocks (by decide) hP hD hS dX4_readFirst_21
  · refine z_iconst hx hb dX4_readFirst_16 ?_
    refine lv_goto (tgt := 21) hx hb dX4_readFirst_17 (by decide) ?_
    cases h
    exact z_zret hx hb hr hlocks (by decide) hP hD hS dX4_readFirst_21
-- X4_take
theorem dX4_take_0 : decode cX4_take 0 = .ok (.aload_n 0, 1) := by decide +kernel
theorem dX4_take_1 : decode cX4_take 1 = .ok (.invokevirtual 26, 3) := by decide +kernel
theorem dX4_take_4 : decode cX4_take 4 = .ok (.iload_n 1, 1) := by decide +kernel
theorem dX4_take_5 : decode cX4_take 5 = .ok (.if_icmp .eq 5, 3) := by decide +kernel
theorem dX4_take_8 : decode cX4_take 8 = .ok (.iconst 0, 1) := by decide +kernel
theorem dX4_take_9 : decode cX4_take 9 = .ok (.ireturn, 1) := by decide +kernel
theorem dX4_take_10 : decode cX4_take 10 = .ok (.aload_n 0, 1) := by decide +kernel
theorem dX4_take_11 : decode cX4_take 11 = .ok (.dup, 1) := by decide +kernel
theorem dX4_take_12 : decode cX4_take 12 = .ok (.getfield 19, 3) := by decide +kernel
theorem dX4_take_15 : decode cX4_take 15 = .ok (.iconst 1, 1) := by decide +kernel
theorem dX4_take_16 : decode cX4_take 16 = .ok (.iadd, 1) := by decide +kernel
theorem dX4_take_17 : decode cX4_take 17 = .ok (.putfield 19, 3) := by decide +kernel
theorem dX4_take_20 : decode cX4_take 20 = .ok (.iconst 1, 1) := by decide +kernel
theorem dX4_take_21 : decode cX4_take 21 = .ok (.ireturn, 1) := by decide +kernel
set_option maxRecDepth 20000 in
theorem ggX4_take_X4_sign : GoodIn wsX4_take wsX4_sign := goodIn_r _ [6, 1, 7, 8, 9, 10, 11, 12, 13, 14] rfl (by decide +kernel)
set_option maxRecDepth 20000 in
theorem gX4_take_X4_sign : GoodIn wsX4_take (wsV RX4 26 RX4 yX4_sign wsX4_sign) := goodIn_app (goodIn_of _ (by decide +kernel)) ggX4_take_X4_sign
noncomputable def f_X4_take (v1 : Int) (t_signs : Int → Int) (t_count : Int) (t_readAt : Int) : Option (Int × Int) := (f_X4_sign t_signs t_count t_readAt).bind (fun r_1 => zg (zR r_1 ∧ zR v1) (if r_1 = v1 then some (1, (t_readAt + 1)) else some (0, t_readAt)))
theorem q_X4_take_0 : Cond.fieldLink RX4 19 "EachSecondStruck$Letters" "readAt" "I" ∈ wsX4_take := by decide +kernel
theorem in_X4_take_X4 : ∀ w ∈ u_ws RX4 TX4 6, w ∈ wsX4_take := by decide +kernel
set_option maxHeartbeats 4000000 in
set_option maxRecDepth 100000 in
theorem c_X4_take (l : Launch) (dC : Nat → ClassId) (dI : Nat → Nat → Nat) (cA cN : ClassId) (sz : Nat) (ad_t : Nat) (ad_t_signs : Nat) (t_count : Int) (t_readAt : Int) (t_verb : Int) (t_first : Int) (t_second : Int) (t_signs : Int → Int) (v1 : Int) (r0 : Int) (t_readAt9 : Int) (h : f_X4_take v1 t_signs t_count t_readAt = some (r0, t_readAt9)) : Met l yX4_take wsX4_take { frames := 1, cells := 0, slots := 0, locals := 20 } (zPc (dC, dI) (zT cA cN) [kX4 ad_t ad_t_signs t_count t_readAt t_verb t_first t_second, kI cA ad_t_signs 48 t_signs] [.ref ad_t, .int (zi v1)] sz) (zQi (dC, dI) [kX4 ad_t ad_t_signs t_count t_readAt9 t_verb t_first t_second, kI cA ad_t_signs 48 t_signs] r0 (va_A [kX4 ad_t ad_t_signs t_count t_readAt t_verb t_first t_second, kI cA ad_t_signs 48 t_signs] sz)) 0 0 (va_A [kX4 ad_t ad_t_signs t_count t_readAt t_verb t_first t_second, kI cA ad_t_signs 48 t_signs] sz) := by
  refine z_ofW (QF := fun A => zQi (dC, dI) [kX4 ad_t ad_t_signs t_count t_readAt9 t_verb t_first t_second, kI cA ad_t_signs 48 t_signs] r0 A) (by decide) rfl (Nat.le_of_ble_eq_true rfl) ?_
  intro p e s m below meth c ls A hx hb hml hr hlocks hnm hts hown hK hP hD hE hsz hA hS hl
  have hl : lv_has ls 2 [(0, .ref ad_t), (1, .int (zi v1))] := hl
  unfold f_X4_take at h
  refine lv_aload_n hx hb dX4_take_0 rfl (lv_at hl 0 rfl) ?_
  obtain ⟨r_3, hc_4, h⟩ := zb h
  try dsimp only at h
  refine z_calliU (wc := [kX4 ad_t ad_t_signs t_count t_readAt t_verb t_first t_second, kI cA ad_t_signs 48 t_signs]) (wc' := [kX4 ad_t ad_t_signs t_count t_readAt t_verb t_first t_second, kI cA ad_t_signs 48 t_signs]) (ws' := [kX4 ad_t ad_t_signs t_count t_readAt t_verb t_first t_second, kI cA ad_t_signs 48 t_signs]) (va_runV (As := []) (rest := []) ⟨hx, hb, hml, hown, hts⟩ (c_X4_sign l dC dI cA cN _ ad_t ad_t_signs t_count t_readAt t_verb t_first t_second t_signs r_3 hc_4) (cwV 0 hts gX4_take_X4_sign rfl rfl rfl (by decide +kernel) ⟨Nat.le_of_ble_eq_true rfl, Nat.le_of_ble_eq_true rfl⟩) (zPc.preV hK hE hP hD [0, 1] rfl rfl (ci := 4) (q0 := 0) rfl rfl) rfl rfl hl.1 rfl (lv_room (Nat.le_of_ble_eq_true rfl)) dX4_take_1 ⟨Nat.le_of_ble_eq_true rfl, Nat.le_of_ble_eq_true rfl⟩) hP hD hS hA [0, 1] rfl rfl rfl (fun H locs hP hD hS => ?_)
  refine lv_iload_n hx hb dX4_take_4 rfl (lv_at hl 1 rfl) ?_
  refine z_icmp_eq (tgt := 10) hx hb dX4_take_5 (by decide) h (fun q => q) (fun h => ?_) (fun h => ?_)
  · refine lv_aload_n hx hb dX4_take_10 rfl (lv_at hl 0 rfl) ?_
    refine lv_dup hx hb dX4_take_11 rfl ?_
    refine va_get (D := (dC, dI)) (ci := 4) (v := .int (zi t_readAt)) (C := RX4) (T := TX4) (N := 6) hx hb hts in_X4_take_X4 hown hK hP 0 rfl rfl 2 (by decide) (hts _ q_X4_take_0) (fun _ h9 => h9) rfl dX4_take_12 ?_
    refine z_iconst hx hb dX4_take_15 ?_
    refine z_iadd hx hb dX4_take_16 ?_
    refine va_put (D := (dC, dI)) (ci := 4) (v := .int (zi (t_readAt + 1))) (ty := .int) (C := RX4) (T := TX4) (N := 6) hx hb hts in_X4_take_X4 tyX4 tyX4_ok nmX4 hown hK hP hD hS 0 rfl rfl 2 (by decide) (hts _ q_X4_take_0) (fun _ h9 => h9) rfl (by decide +kernel) rfl rfl (Nat.le_of_ble_eq_true rfl) dX4_take_17 (fun H locs hP hD hS => ?_)
    have hP : va_P (dC, dI) vwCl [kX4 ad_t ad_t_signs t_count (t_readAt + 1) t_verb t_first t_second, kI cA ad_t_signs 48 t_signs] H := hP
    have hD : va_D A [kX4 ad_t ad_t_signs t_count (t_readAt + 1) t_verb t_first t_second, kI cA ad_t_signs 48 t_signs] := hD
    refine z_iconst hx hb dX4_take_20 ?_
    cases h
    exact z_zret hx hb hr hlocks (by decide) hP hD hS dX4_take_21
  · refine z_iconst hx hb dX4_take_8 ?_
    cases h
    exact z_zret hx hb hr hlocks (by decide) hP hD hS dX4_take_9
-- X4_readSecond
theorem dX4_readSecond_0 : decode cX4_readSecond 0 = .ok (.aload_n 0, 1) := by decide +kernel
theorem dX4_readSecond_1 : decode cX4_readSecond 1 = .ok (.aload_n 0, 1) := by decide +kernel
theorem dX4_readSecond_2 : decode cX4_readSecond 2 = .ok (.iload_n 1, 1) := by decide +kernel
theorem dX4_readSecond_3 : decode cX4_readSecond 3 = .ok (.invokevirtual 46, 3) := by decide +kernel
theorem dX4_readSecond_6 : decode cX4_readSecond 6 = .ok (.putfield 33, 3) := by decide +kernel
theorem dX4_readSecond_9 : decode cX4_readSecond 9 = .ok (.aload_n 0, 1) := by decide +kernel
theorem dX4_readSecond_10 : decode cX4_readSecond 10 = .ok (.getfield 33, 3) := by decide +kernel
theorem dX4_readSecond_13 : decode cX4_readSecond 13 = .ok (.ifCond .lt 7, 3) := by decide +kernel
theorem dX4_readSecond_16 : decode cX4_readSecond 16 = .ok (.iconst 1, 1) := by decide +kernel
theorem dX4_readSecond_17 : decode cX4_readSecond 17 = .ok (.goto 4, 3) := by decide +kernel
theorem dX4_readSecond_20 : decode cX4_readSecond 20 = .ok (.iconst 0, 1) := by decide +kernel
theorem dX4_readSecond_21 : decode cX4_readSecond 21 = .ok (.ireturn, 1) := by decide +kernel
set_option maxRecDepth 20000 in
theorem ggX4_readSecond_X4_readNumber : GoodIn wsX4_readSecond wsX4_readNumber := goodIn_r _ [6, 7, 8, 9, 10, 11, 12, 13, 14, 5, 15, 16, 17, 18, 19, 20, 21, 22, 23, 24, 25, 26] rfl (by decide +kernel)
set_option maxRecDepth 20000 in
theorem gX4_readSecond_X4_readNumber : GoodIn wsX4_readSecond (wsV RX4 46 RX4 yX4_readNumber wsX4_readNumber) := goodIn_app (goodIn_of _ (by decide +kernel)) ggX4_readSecond_X4_readNumber
noncomputable def f_X4_readSecond (v1 : Int) (t_signs : Int → Int) (t_count : Int) (t_readAt : Int) (t_second : Int) : Option (Int × Int × Int) := (f_X4_readNumber v1 t_signs t_count t_readAt).bind (fun (r_1, t_readAt_2) => zg (zR r_1) (if r_1 < 0 then some (0, t_readAt_2, r_1) else some (1, t_readAt_2, r_1)))
theorem q_X4_readSecond_0 : Cond.fieldLink RX4 33 "EachSecondStruck$Letters" "second" "I" ∈ wsX4_readSecond := by decide +kernel
theorem in_X4_readSecond_X4 : ∀ w ∈ u_ws RX4 TX4 6, w ∈ wsX4_readSecond := by decide +kernel
set_option maxHeartbeats 4000000 in
set_option maxRecDepth 100000 in
theorem c_X4_readSecond (l : Launch) (dC : Nat → ClassId) (dI : Nat → Nat → Nat) (cA cN : ClassId) (sz : Nat) (ad_t : Nat) (ad_t_signs : Nat) (t_count : Int) (t_readAt : Int) (t_verb : Int) (t_first : Int) (t_second : Int) (t_signs : Int → Int) (v1 : Int) (r0 : Int) (t_readAt9 : Int) (t_second9 : Int) (h : f_X4_readSecond v1 t_signs t_count t_readAt t_second = some (r0, t_readAt9, t_second9)) : Met l yX4_readSecond wsX4_readSecond { frames := 2, cells := 0, slots := 0, locals := 43 } (zPc (dC, dI) (zT cA cN) [kX4 ad_t ad_t_signs t_count t_readAt t_verb t_first t_second, kI cA ad_t_signs 48 t_signs] [.ref ad_t, .int (zi v1)] sz) (zQi (dC, dI) [kX4 ad_t ad_t_signs t_count t_readAt9 t_verb t_first t_second9, kI cA ad_t_signs 48 t_signs] r0 (va_A [kX4 ad_t ad_t_signs t_count t_readAt t_verb t_first t_second, kI cA ad_t_signs 48 t_signs] sz)) 0 0 (va_A [kX4 ad_t ad_t_signs t_count t_readAt t_verb t_first t_second, kI cA ad_t_signs 48 t_signs] sz) := by
  refine z_ofW (QF := fun A => zQi (dC, dI) [kX4 ad_t ad_t_signs t_count t_readAt9 t_verb t_first t_second9, kI cA ad_t_signs 48 t_signs] r0 A) (by decide) rfl (Nat.le_of_ble_eq_true rfl) ?_
  intro p e s m below meth c ls A hx hb hml hr hlocks hnm hts hown hK hP hD hE hsz hA hS hl
  have hl : lv_has ls 2 [(0, .ref ad_t), (1, .int (zi v1))] := hl
  unfold f_X4_readSecond at h
  refine lv_aload_n hx hb dX4_readSecond_0 rfl (lv_at hl 0 rfl) ?_
  refine lv_aload_n hx hb dX4_readSecond_1 rfl (lv_at hl 0 rfl) ?_
  refine lv_iload_n hx hb dX4_readSecond_2 rfl (lv_at hl 1 rfl) ?_
  obtain ⟨⟨r_4, t_readAt_5⟩, hc_6, h⟩ := zb h
  try dsimp only at h
  refine z_calliU (wc := [kX4 ad_t ad_t_signs t_count t_readAt t_verb t_first t_second, kI cA ad_t_signs 48 t_signs]) (wc' := [kX4 ad_t ad_t_signs t_count t_readAt_5 t_verb t_first t_second, kI cA ad_t_signs 48 t_signs]) (ws' := [kX4 ad_t ad_t_signs t_count t_readAt_5 t_verb t_first t_second, kI cA ad_t_signs 48 t_signs]) (va_runV (As := [.int (zi v1)]) (rest := [.ref ad_t]) ⟨hx, hb, hml, hown, hts⟩ (c_X4_readNumber l dC dI cA cN _ ad_t ad_t_signs t_count t_readAt t_verb t_first t_second t_signs v1 r_4 t_readAt_5 hc_6) (cwV 1 hts gX4_readSecond_X4_readNumber rfl rfl rfl (by decide +kernel) ⟨Nat.le_of_ble_eq_true rfl, Nat.le_of_ble_eq_true rfl⟩) (zPc.preV hK hE hP hD [0, 1] rfl rfl (ci := 4) (q0 := 0) rfl rfl) rfl rfl hl.1 rfl (lv_room (Nat.le_of_ble_eq_true rfl)) dX4_readSecond_3 ⟨Nat.le_of_ble_eq_true rfl, Nat.le_of_ble_eq_true rfl⟩) hP hD hS hA [0, 1] rfl rfl rfl (fun H locs hP hD hS => ?_)
  refine va_put (D := (dC, dI)) (ci := 4) (v := .int (zi r_4)) (ty := .int) (C := RX4) (T := TX4) (N := 6) hx hb hts in_X4_readSecond_X4 tyX4 tyX4_ok nmX4 hown hK hP hD hS 0 rfl rfl 5 (by decide) (hts _ q_X4_readSecond_0) (fun _ h9 => h9) rfl (by decide +kernel) rfl rfl (Nat.le_of_ble_eq_true rfl) dX4_readSecond_6 (fun H locs hP hD hS => ?_)
  have hP : va_P (dC, dI) vwCl [kX4 ad_t ad_t_signs t_count t_readAt_5 t_verb t_first r_4, kI cA ad_t_signs 48 t_signs] H := hP
  have hD : va_D A [kX4 ad_t ad_t_signs t_count t_readAt_5 t_verb t_first r_4, kI cA ad_t_signs 48 t_signs] := hD
  refine lv_aload_n hx hb dX4_readSecond_9 rfl (lv_at hl 0 rfl) ?_
  refine va_get (D := (dC, dI)) (ci := 4) (v := .int (zi r_4)) (C := RX4) (T := TX4) (N := 6) hx hb hts in_X4_readSecond_X4 hown hK hP 0 rfl rfl 5 (by decide) (hts _ q_X4_readSecond_0) (fun _ h9 => h9) rfl dX4_readSecond_10 ?_
  refine z_if_lt (tgt := 20) hx hb dX4_readSecond_13 (by decide) h (fun h => ?_) (fun h => ?_)
  · refine z_iconst hx hb dX4_readSecond_20 ?_
    cases h
    exact z_zret hx hb hr hlocks (by decide) hP hD hS dX4_readSecond_21
  · refine z_iconst hx hb dX4_readSecond_16 ?_
    refine lv_goto (tgt := 21) hx hb dX4_readSecond_17 (by decide) ?_
    cases h
    exact z_zret hx hb hr hlocks (by decide) hP hD hS dX4_readSecond_21
-- X4_readStatement
theorem dX4_readStatement_0 : decode cX4_readStatement 0 = .ok (.aload_n 0, 1) := by decide +kernel
theorem dX4_readStatement_1 : decode cX4_readStatement 1 = .ok (.aload_n 0, 1) := by decide +kernel
theorem dX4_readStatement_2 : decode cX4_readStatement 2 = .ok (.invokevirtual 26, 3) := by decide +kernel
theorem dX4_readStatement_5 : decode cX4_readStatement 5 = .ok (.putfield 30, 3) := by decide +kernel
theorem dX4_readStatement_8 : decode cX4_readStatement 8 = .ok (.aload_n 0, 1) := by decide +kernel
theorem dX4_readStatement_9 : decode cX4_readStatement 9 = .ok (.iconst 0, 1) := by decide +kernel
theorem dX4_readStatement_10 : decode cX4_readStatement 10 = .ok (.putfield 33, 3) := by decide +kernel
theorem dX4_readStatement_13 : decode cX4_readStatement 13 = .ok (.aload_n 0, 1) := by decide +kernel
theorem dX4_readStatement_14 : decode cX4_readStatement 14 = .ok (.getfield 30, 3) := by decide +kernel
theorem dX4_readStatement_17 : decode cX4_readStatement 17 = .ok (.lookupswitch 200 #[(110, 43), (115, 76), (116, 117), (120, 150)], 43) := by decide +kernel
theorem dX4_readStatement_60 : decode cX4_readStatement 60 = .ok (.aload_n 0, 1) := by decide +kernel
theorem dX4_readStatement_61 : decode cX4_readStatement 61 = .ok (.dup, 1) := by decide +kernel
theorem dX4_readStatement_62 : decode cX4_readStatement 62 = .ok (.getfield 19, 3) := by decide +kernel
theorem dX4_readStatement_65 : decode cX4_readStatement 65 = .ok (.iconst 1, 1) := by decide +kernel
theorem dX4_readStatement_66 : decode cX4_readStatement 66 = .ok (.iadd, 1) := by decide +kernel
theorem dX4_readStatement_67 : decode cX4_readStatement 67 = .ok (.putfield 19, 3) := by decide +kernel
theorem dX4_readStatement_70 : decode cX4_readStatement 70 = .ok (.aload_n 0, 1) := by decide +kernel
theorem dX4_readStatement_71 : decode cX4_readStatement 71 = .ok (.iconst 3, 1) := by decide +kernel
theorem dX4_readStatement_72 : decode cX4_readStatement 72 = .ok (.invokevirtual 36, 3) := by decide +kernel
theorem dX4_readStatement_75 : decode cX4_readStatement 75 = .ok (.ifCond .eq 16, 3) := by decide +kernel
theorem dX4_readStatement_78 : decode cX4_readStatement 78 = .ok (.aload_n 0, 1) := by decide +kernel
theorem dX4_readStatement_79 : decode cX4_readStatement 79 = .ok (.bipush 59, 2) := by decide +kernel
theorem dX4_readStatement_81 : decode cX4_readStatement 81 = .ok (.invokevirtual 40, 3) := by decide +kernel
theorem dX4_readStatement_84 : decode cX4_readStatement 84 = .ok (.ifCond .eq 7, 3) := by decide +kernel
theorem dX4_readStatement_87 : decode cX4_readStatement 87 = .ok (.iconst 1, 1) := by decide +kernel
theorem dX4_readStatement_88 : decode cX4_readStatement 88 = .ok (.goto 4, 3) := by decide +kernel
theorem dX4_readStatement_91 : decode cX4_readStatement 91 = .ok (.iconst 0, 1) := by decide +kernel
theorem dX4_readStatement_92 : decode cX4_readStatement 92 = .ok (.ireturn, 1) := by decide +kernel
theorem dX4_readStatement_93 : decode cX4_readStatement 93 = .ok (.aload_n 0, 1) := by decide +kernel
theorem dX4_readStatement_94 : decode cX4_readStatement 94 = .ok (.dup, 1) := by decide +kernel
theorem dX4_readStatement_95 : decode cX4_readStatement 95 = .ok (.getfield 19, 3) := by decide +kernel
theorem dX4_readStatement_98 : decode cX4_readStatement 98 = .ok (.iconst 1, 1) := by decide +kernel
theorem dX4_readStatement_99 : decode cX4_readStatement 99 = .ok (.iadd, 1) := by decide +kernel
theorem dX4_readStatement_100 : decode cX4_readStatement 100 = .ok (.putfield 19, 3) := by decide +kernel
theorem dX4_readStatement_103 : decode cX4_readStatement 103 = .ok (.aload_n 0, 1) := by decide +kernel
theorem dX4_readStatement_104 : decode cX4_readStatement 104 = .ok (.iconst 1, 1) := by decide +kernel
theorem dX4_readStatement_105 : decode cX4_readStatement 105 = .ok (.invokevirtual 36, 3) := by decide +kernel
theorem dX4_readStatement_108 : decode cX4_readStatement 108 = .ok (.ifCond .eq 24, 3) := by decide +kernel
theorem dX4_readStatement_111 : decode cX4_readStatement 111 = .ok (.aload_n 0, 1) := by decide +kernel
theorem dX4_readStatement_112 : decode cX4_readStatement 112 = .ok (.iconst 1, 1) := by decide +kernel
theorem dX4_readStatement_113 : decode cX4_readStatement 113 = .ok (.invokevirtual 43, 3) := by decide +kernel
theorem dX4_readStatement_116 : decode cX4_readStatement 116 = .ok (.ifCond .eq 16, 3) := by decide +kernel
theorem dX4_readStatement_119 : decode cX4_readStatement 119 = .ok (.aload_n 0, 1) := by decide +kernel
theorem dX4_readStatement_120 : decode cX4_readStatement 120 = .ok (.bipush 59, 2) := by decide +kernel
theorem dX4_readStatement_122 : decode cX4_readStatement 122 = .ok (.invokevirtual 40, 3) := by decide +kernel
theorem dX4_readStatement_125 : decode cX4_readStatement 125 = .ok (.ifCond .eq 7, 3) := by decide +kernel
theorem dX4_readStatement_128 : decode cX4_readStatement 128 = .ok (.iconst 1, 1) := by decide +kernel
theorem dX4_readStatement_129 : decode cX4_readStatement 129 = .ok (.goto 4, 3) := by decide +kernel
theorem dX4_readStatement_132 : decode cX4_readStatement 132 = .ok (.iconst 0, 1) := by decide +kernel
theorem dX4_readStatement_133 : decode cX4_readStatement 133 = .ok (.ireturn, 1) := by decide +kernel
theorem dX4_readStatement_134 : decode cX4_readStatement 134 = .ok (.aload_n 0, 1) := by decide +kernel
theorem dX4_readStatement_135 : decode cX4_readStatement 135 = .ok (.dup, 1) := by decide +kernel
theorem dX4_readStatement_136 : decode cX4_readStatement 136 = .ok (.getfield 19, 3) := by decide +kernel
theorem dX4_readStatement_139 : decode cX4_readStatement 139 = .ok (.iconst 1, 1) := by decide +kernel
theorem dX4_readStatement_140 : decode cX4_readStatement 140 = .ok (.iadd, 1) := by decide +kernel
theorem dX4_readStatement_141 : decode cX4_readStatement 141 = .ok (.putfield 19, 3) := by decide +kernel
theorem dX4_readStatement_144 : decode cX4_readStatement 144 = .ok (.aload_n 0, 1) := by decide +kernel
theorem dX4_readStatement_145 : decode cX4_readStatement 145 = .ok (.iconst 1, 1) := by decide +kernel
theorem dX4_readStatement_146 : decode cX4_readStatement 146 = .ok (.invokevirtual 36, 3) := by decide +kernel
theorem dX4_readStatement_149 : decode cX4_readStatement 149 = .ok (.ifCond .eq 16, 3) := by decide +kernel
theorem dX4_readStatement_152 : decode cX4_readStatement 152 = .ok (.aload_n 0, 1) := by decide +kernel
theorem dX4_readStatement_153 : decode cX4_readStatement 153 = .ok (.bipush 59, 2) := by decide +kernel
theorem dX4_readStatement_155 : decode cX4_readStatement 155 = .ok (.invokevirtual 40, 3) := by decide +kernel
theorem dX4_readStatement_158 : decode cX4_readStatement 158 = .ok (.ifCond .eq 7, 3) := by decide +kernel
theorem dX4_readStatement_161 : decode cX4_readStatement 161 = .ok (.iconst 1, 1) := by decide +kernel
theorem dX4_readStatement_162 : decode cX4_readStatement 162 = .ok (.goto 4, 3) := by decide +kernel
theorem dX4_readStatement_165 : decode cX4_readStatement 165 = .ok (.iconst 0, 1) := by decide +kernel
theorem dX4_readStatement_166 : decode cX4_readStatement 166 = .ok (.ireturn, 1) := by decide +kernel
theorem dX4_readStatement_167 : decode cX4_readStatement 167 = .ok (.aload_n 0, 1) := by decide +kernel
theorem dX4_readStatement_168 : decode cX4_readStatement 168 = .ok (.dup, 1) := by decide +kernel
theorem dX4_readStatement_169 : decode cX4_readStatement 169 = .ok (.getfield 19, 3) := by decide +kernel
theorem dX4_readStatement_172 : decode cX4_readStatement 172 = .ok (.iconst 1, 1) := by decide +kernel
theorem dX4_readStatement_173 : decode cX4_readStatement 173 = .ok (.iadd, 1) := by decide +kernel
theorem dX4_readStatement_174 : decode cX4_readStatement 174 = .ok (.putfield 19, 3) := by decide +kernel
theorem dX4_readStatement_177 : decode cX4_readStatement 177 = .ok (.aload_n 0, 1) := by decide +kernel
theorem dX4_readStatement_178 : decode cX4_readStatement 178 = .ok (.iconst 3, 1) := by decide +kernel
theorem dX4_readStatement_179 : decode cX4_readStatement 179 = .ok (.invokevirtual 36, 3) := by decide +kernel
theorem dX4_readStatement_182 : decode cX4_readStatement 182 = .ok (.ifCond .eq 33, 3) := by decide +kernel
theorem dX4_readStatement_185 : decode cX4_readStatement 185 = .ok (.aload_n 0, 1) := by decide +kernel
theorem dX4_readStatement_186 : decode cX4_readStatement 186 = .ok (.bipush 44, 2) := by decide +kernel
theorem dX4_readStatement_188 : decode cX4_readStatement 188 = .ok (.invokevirtual 40, 3) := by decide +kernel
theorem dX4_readStatement_191 : decode cX4_readStatement 191 = .ok (.ifCond .eq 24, 3) := by decide +kernel
theorem dX4_readStatement_194 : decode cX4_readStatement 194 = .ok (.aload_n 0, 1) := by decide +kernel
theorem dX4_readStatement_195 : decode cX4_readStatement 195 = .ok (.iconst 3, 1) := by decide +kernel
theorem dX4_readStatement_196 : decode cX4_readStatement 196 = .ok (.invokevirtual 43, 3) := by decide +kernel
theorem dX4_readStatement_199 : decode cX4_readStatement 199 = .ok (.ifCond .eq 16, 3) := by decide +kernel
theorem dX4_readStatement_202 : decode cX4_readStatement 202 = .ok (.aload_n 0, 1) := by decide +kernel
theorem dX4_readStatement_203 : decode cX4_readStatement 203 = .ok (.bipush 59, 2) := by decide +kernel
theorem dX4_readStatement_205 : decode cX4_readStatement 205 = .ok (.invokevirtual 40, 3) := by decide +kernel
theorem dX4_readStatement_208 : decode cX4_readStatement 208 = .ok (.ifCond .eq 7, 3) := by decide +kernel
theorem dX4_readStatement_211 : decode cX4_readStatement 211 = .ok (.iconst 1, 1) := by decide +kernel
theorem dX4_readStatement_212 : decode cX4_readStatement 212 = .ok (.goto 4, 3) := by decide +kernel
theorem dX4_readStatement_215 : decode cX4_readStatement 215 = .ok (.iconst 0, 1) := by decide +kernel
theorem dX4_readStatement_216 : decode cX4_readStatement 216 = .ok (.ireturn, 1) := by decide +kernel
theorem dX4_readStatement_217 : decode cX4_readStatement 217 = .ok (.iconst 0, 1) := by decide +kernel
theorem dX4_readStatement_218 : decode cX4_readStatement 218 = .ok (.ireturn, 1) := by decide +kernel
set_option maxRecDepth 20000 in
theorem ggX4_readStatement_X4_sign : GoodIn wsX4_readStatement wsX4_sign := goodIn_r _ [8, 3, 9, 10, 35, 36, 37, 38, 39, 40] rfl (by decide +kernel)
set_option maxRecDepth 20000 in
theorem gX4_readStatement_X4_sign : GoodIn wsX4_readStatement (wsV RX4 26 RX4 yX4_sign wsX4_sign) := goodIn_app (goodIn_of _ (by decide +kernel)) ggX4_readStatement_X4_sign
set_option maxRecDepth 20000 in
theorem ggX4_readStatement_X4_readFirst : GoodIn wsX4_readStatement wsX4_readFirst := goodIn_r _ [14, 15, 16, 17, 18, 7, 19, 20, 21, 22, 23, 3, 4, 5, 6, 8, 9, 10, 24, 25, 26, 35, 36, 37, 38, 39, 40] rfl (by decide +kernel)
set_option maxRecDepth 20000 in
theorem gX4_readStatement_X4_readFirst : GoodIn wsX4_readStatement (wsV RX4 36 RX4 yX4_readFirst wsX4_readFirst) := goodIn_app (goodIn_of _ (by decide +kernel)) ggX4_readStatement_X4_readFirst
set_option maxRecDepth 20000 in
theorem ggX4_readStatement_X4_take : GoodIn wsX4_readStatement wsX4_take := goodIn_r _ [30, 3, 4, 5, 6, 7, 8, 9, 10, 35, 36, 37, 38, 39, 40] rfl (by decide +kernel)
set_option maxRecDepth 20000 in
theorem gX4_readStatement_X4_take : GoodIn wsX4_readStatement (wsV RX4 40 RX4 yX4_take wsX4_take) := goodIn_app (goodIn_of _ (by decide +kernel)) ggX4_readStatement_X4_take
set_option maxRecDepth 20000 in
theorem ggX4_readStatement_X4_readSecond : GoodIn wsX4_readStatement wsX4_readSecond := goodIn_r _ [34, 2, 16, 17, 18, 7, 19, 20, 21, 22, 23, 3, 4, 5, 6, 8, 9, 10, 24, 25, 26, 35, 36, 37, 38, 39, 40] rfl (by decide +kernel)
set_option maxRecDepth 20000 in
theorem gX4_readStatement_X4_readSecond : GoodIn wsX4_readStatement (wsV RX4 43 RX4 yX4_readSecond wsX4_readSecond) := goodIn_app (goodIn_of _ (by decide +kernel)) ggX4_readStatement_X4_readSecond
noncomputable def f_X4_readStatement (t_signs : Int → Int) (t_count : Int) (t_readAt : Int) (t_verb : Int) (t_first : Int) (t_second : Int) : Option (Int × Int × Int × Int × Int) := (f_X4_sign t_signs t_count t_readAt).bind (fun r_1 => zg (zR r_1) (if r_1 = 110 then (f_X4_readFirst 3 t_signs t_count (t_readAt + 1) t_first).bind (fun (r_35, t_readAt_36, t_first_37) => zg (zR r_35) (if r_35 = 0 then some (0, t_readAt_36, r_1, t_first_37, 0) else (f_X4_take 59 t_signs t_count t_readAt_36).bind (fun (r_39, t_readAt_40) => zg (zR r_39) (if r_39 = 0 then some (0, t_readAt_40, r_1, t_first_37, 0) else some (1, t_readAt_40, r_1, t_first_37, 0))))) else if r_1 = 115 then (f_X4_readFirst 1 t_signs t_count (t_readAt + 1) t_first).bind (fun (r_24, t_readAt_25, t_first_26) => zg (zR r_24) (if r_24 = 0 then some (0, t_readAt_25, r_1, t_first_26, 0) else (f_X4_readSecond 1 t_signs t_count t_readAt_25 0).bind (fun (r_28, t_readAt_29, t_second_30) => zg (zR r_28) (if r_28 = 0 then some (0, t_readAt_29, r_1, t_first_26, t_second_30) else (f_X4_take 59 t_signs t_count t_readAt_29).bind (fun (r_32, t_readAt_33) => zg (zR r_32) (if r_32 = 0 then some (0, t_readAt_33, r_1, t_first_26, t_second_30) else some (1, t_readAt_33, r_1, t_first_26, t_second_30))))))) else if r_1 = 116 then (f_X4_readFirst 1 t_signs t_count (t_readAt + 1) t_first).bind (fun (r_17, t_readAt_18, t_first_19) => zg (zR r_17) (if r_17 = 0 then some (0, t_readAt_18, r_1, t_first_19, 0) else (f_X4_take 59 t_signs t_count t_readAt_18).bind (fun (r_21, t_readAt_22) => zg (zR r_21) (if r_21 = 0 then some (0, t_readAt_22, r_1, t_first_19, 0) else some (1, t_readAt_22, r_1, t_first_19, 0))))) else if r_1 = 120 then (f_X4_readFirst 3 t_signs t_count (t_readAt + 1) t_first).bind (fun (r_3, t_readAt_4, t_first_5) => zg (zR r_3) (if r_3 = 0 then some (0, t_readAt_4, r_1, t_first_5, 0) else (f_X4_take 44 t_signs t_count t_readAt_4).bind (fun (r_7, t_readAt_8) => zg (zR r_7) (if r_7 = 0 then some (0, t_readAt_8, r_1, t_first_5, 0) else (f_X4_readSecond 3 t_signs t_count t_readAt_8 0).bind (fun (r_10, t_readAt_11, t_second_12) => zg (zR r_10) (if r_10 = 0 then some (0, t_readAt_11, r_1, t_first_5, t_second_12) else (f_X4_take 59 t_signs t_count t_readAt_11).bind (fun (r_14, t_readAt_15) => zg (zR r_14) (if r_14 = 0 then some (0, t_readAt_15, r_1, t_first_5, t_second_12) else some (1, t_readAt_15, r_1, t_first_5, t_second_12))))))))) else some (0, t_readAt, r_1, t_first, 0)))
theorem q_X4_readStatement_0 : Cond.fieldLink RX4 30 "EachSecondStruck$Letters" "verb" "I" ∈ wsX4_readStatement := by decide +kernel
theorem q_X4_readStatement_1 : Cond.fieldLink RX4 33 "EachSecondStruck$Letters" "second" "I" ∈ wsX4_readStatement := by decide +kernel
theorem q_X4_readStatement_2 : Cond.fieldLink RX4 19 "EachSecondStruck$Letters" "readAt" "I" ∈ wsX4_readStatement := by decide +kernel
theorem in_X4_readStatement_X4 : ∀ w ∈ u_ws RX4 TX4 6, w ∈ wsX4_readStatement := by decide +kernel
set_option maxHeartbeats 4000000 in
set_option maxRecDepth 100000 in
theorem c_X4_readStatement (l : Launch) (dC : Nat → ClassId) (dI : Nat → Nat → Nat) (cA cN : ClassId) (sz : Nat) (ad_t : Nat) (ad_t_signs : Nat) (t_count : Int) (t_readAt : Int) (t_verb : Int) (t_first : Int) (t_second : Int) (t_signs : Int → Int)  (r0 : Int) (t_readAt9 : Int) (t_verb9 : Int) (t_first9 : Int) (t_second9 : Int) (h : f_X4_readStatement t_signs t_count t_readAt t_verb t_first t_second = some (r0, t_readAt9, t_verb9, t_first9, t_second9)) : Met l yX4_readStatement wsX4_readStatement { frames := 3, cells := 0, slots := 0, locals := 64 } (zPc (dC, dI) (zT cA cN) [kX4 ad_t ad_t_signs t_count t_readAt t_verb t_first t_second, kI cA ad_t_signs 48 t_signs] [.ref ad_t] sz) (zQi (dC, dI) [kX4 ad_t ad_t_signs t_count t_readAt9 t_verb9 t_first9 t_second9, kI cA ad_t_signs 48 t_signs] r0 (va_A [kX4 ad_t ad_t_signs t_count t_readAt t_verb t_first t_second, kI cA ad_t_signs 48 t_signs] sz)) 0 0 (va_A [kX4 ad_t ad_t_signs t_count t_readAt t_verb t_first t_second, kI cA ad_t_signs 48 t_signs] sz) := by
  refine z_ofW (QF := fun A => zQi (dC, dI) [kX4 ad_t ad_t_signs t_count t_readAt9 t_verb9 t_first9 t_second9, kI cA ad_t_signs 48 t_signs] r0 A) (by decide) rfl (Nat.le_of_ble_eq_true rfl) ?_
  intro p e s m below meth c ls A hx hb hml hr hlocks hnm hts hown hK hP hD hE hsz hA hS hl
  have hl : lv_has ls 1 [(0, .ref ad_t)] := hl
  unfold f_X4_readStatement at h
  refine lv_aload_n hx hb dX4_readStatement_0 rfl (lv_at hl 0 rfl) ?_
  refine lv_aload_n hx hb dX4_readStatement_1 rfl (lv_at hl 0 rfl) ?_
  obtain ⟨r_42, hc_43, h⟩ := zb h
  try dsimp only at h
  refine z_calliU (wc := [kX4 ad_t ad_t_signs t_count t_readAt t_verb t_first t_second, kI cA ad_t_signs 48 t_signs]) (wc' := [kX4 ad_t ad_t_signs t_count t_readAt t_verb t_first t_second, kI cA ad_t_signs 48 t_signs]) (ws' := [kX4 ad_t ad_t_signs t_count t_readAt t_verb t_first t_second, kI cA ad_t_signs 48 t_signs]) (va_runV (As := []) (rest := [.ref ad_t]) ⟨hx, hb, hml, hown, hts⟩ (c_X4_sign l dC dI cA cN _ ad_t ad_t_signs t_count t_readAt t_verb t_first t_second t_signs r_42 hc_43) (cwV 0 hts gX4_readStatement_X4_sign rfl rfl rfl (by decide +kernel) ⟨Nat.le_of_ble_eq_true rfl, Nat.le_of_ble_eq_true rfl⟩) (zPc.preV hK hE hP hD [0, 1] rfl rfl (ci := 4) (q0 := 0) rfl rfl) rfl rfl hl.1 rfl (lv_room (Nat.le_of_ble_eq_true rfl)) dX4_readStatement_2 ⟨Nat.le_of_ble_eq_true rfl, Nat.le_of_ble_eq_true rfl⟩) hP hD hS hA [0, 1] rfl rfl rfl (fun H locs hP hD hS => ?_)
  refine va_put (D := (dC, dI)) (ci := 4) (v := .int (zi r_42)) (ty := .int) (C := RX4) (T := TX4) (N := 6) hx hb hts in_X4_readStatement_X4 tyX4 tyX4_ok nmX4 hown hK hP hD hS 0 rfl rfl 3 (by decide) (hts _ q_X4_readStatement_0) (fun _ h9 => h9) rfl (by decide +kernel) rfl rfl (Nat.le_of_ble_eq_true rfl) dX4_readStatement_5 (fun H locs hP hD hS => ?_)
  have hP : va_P (dC, dI) vwCl [kX4 ad_t ad_t_signs t_count t_readAt r_42 t_first t_second, kI cA ad_t_signs 48 t_signs] H := hP
  have hD : va_D A [kX4 ad_t ad_t_signs t_count t_readAt r_42 t_first t_second, kI cA ad_t_signs 48 t_signs] := hD
  refine lv_aload_n hx hb dX4_readStatement_8 rfl (lv_at hl 0 rfl) ?_
  refine z_iconst hx hb dX4_readStatement_9 ?_
  refine va_put (D := (dC, dI)) (ci := 4) (v := .int (zi 0)) (ty := .int) (C := RX4) (T := TX4) (N := 6) hx hb hts in_X4_readStatement_X4 tyX4 tyX4_ok nmX4 hown hK hP hD hS 0 rfl rfl 5 (by decide) (hts _ q_X4_readStatement_1) (fun _ h9 => h9) rfl (by decide +kernel) rfl rfl (Nat.le_of_ble_eq_true rfl) dX4_readStatement_10 (fun H locs hP hD hS => ?_)
  have hP : va_P (dC, dI) vwCl [kX4 ad_t ad_t_signs t_count t_readAt r_42 t_first 0, kI cA ad_t_signs 48 t_signs] H := hP
  have hD : va_D A [kX4 ad_t ad_t_signs t_count t_readAt r_42 t_first 0, kI cA ad_t_signs 48 t_signs] := hD
  refine lv_aload_n hx hb dX4_readStatement_13 rfl (lv_at hl 0 rfl) ?_
  refine va_get (D := (dC, dI)) (ci := 4) (v := .int (zi r_42)) (C := RX4) (T := TX4) (N := 6) hx hb hts in_X4_readStatement_X4 hown hK hP 0 rfl rfl 3 (by decide) (hts _ q_X4_readStatement_0) (fun _ h9 => h9) rfl dX4_readStatement_14 ?_
  obtain ⟨hg, h⟩ := zg_some h
  by_cases hk110 : r_42 = 110
  · have h := zit h hk110
    refine z_lookup (tgt := 60) (off := 43) hx hb dX4_readStatement_17 (by decide) hg (by rw [hk110] <;> rfl) (by decide) ?_
    refine lv_aload_n hx hb dX4_readStatement_60 rfl (lv_at hl 0 rfl) ?_
    refine lv_dup hx hb dX4_readStatement_61 rfl ?_
    refine va_get (D := (dC, dI)) (ci := 4) (v := .int (zi t_readAt)) (C := RX4) (T := TX4) (N := 6) hx hb hts in_X4_readStatement_X4 hown hK hP 0 rfl rfl 2 (by decide) (hts _ q_X4_readStatement_2) (fun _ h9 => h9) rfl dX4_readStatement_62 ?_
    refine z_iconst hx hb dX4_readStatement_65 ?_
    refine z_iadd hx hb dX4_readStatement_66 ?_
    refine va_put (D := (dC, dI)) (ci := 4) (v := .int (zi (t_readAt + 1))) (ty := .int) (C := RX4) (T := TX4) (N := 6) hx hb hts in_X4_readStatement_X4 tyX4 tyX4_ok nmX4 hown hK hP hD hS 0 rfl rfl 2 (by decide) (hts _ q_X4_readStatement_2) (fun _ h9 => h9) rfl (by decide +kernel) rfl rfl (Nat.le_of_ble_eq_true rfl) dX4_readStatement_67 (fun H locs hP hD hS => ?_)
    have hP : va_P (dC, dI) vwCl [kX4 ad_t ad_t_signs t_count (t_readAt + 1) r_42 t_first 0, kI cA ad_t_signs 48 t_signs] H := hP
    have hD : va_D A [kX4 ad_t ad_t_signs t_count (t_readAt + 1) r_42 t_first 0, kI cA ad_t_signs 48 t_signs] := hD
    refine lv_aload_n hx hb dX4_readStatement_70 rfl (lv_at hl 0 rfl) ?_
    refine z_iconst hx hb dX4_readStatement_71 ?_
    obtain ⟨⟨r_44, t_readAt_45, t_first_46⟩, hc_47, h⟩ := zb h
    try dsimp only at h
    refine z_calliU (wc := [kX4 ad_t ad_t_signs t_count (t_readAt + 1) r_42 t_first 0, kI cA ad_t_signs 48 t_signs]) (wc' := [kX4 ad_t ad_t_signs t_count t_readAt_45 r_42 t_first_46 0, kI cA ad_t_signs 48 t_signs]) (ws' := [kX4 ad_t ad_t_signs t_count t_readAt_45 r_42 t_first_46 0, kI cA ad_t_signs 48 t_signs]) (va_runV (As := [.int (zi 3)]) (rest := []) ⟨hx, hb, hml, hown, hts⟩ (c_X4_readFirst l dC dI cA cN _ ad_t ad_t_signs t_count (t_readAt + 1) r_42 t_first 0 t_signs 3 r_44 t_readAt_45 t_first_46 hc_47) (cwV 1 hts gX4_readStatement_X4_readFirst rfl rfl rfl (by decide +kernel) ⟨Nat.le_of_ble_eq_true rfl, Nat.le_of_ble_eq_true rfl⟩) (zPc.preV hK hE hP hD [0, 1] rfl rfl (ci := 4) (q0 := 0) rfl rfl) rfl rfl hl.1 rfl (lv_room (Nat.le_of_ble_eq_true rfl)) dX4_readStatement_72 ⟨Nat.le_of_ble_eq_true rfl, Nat.le_of_ble_eq_true rfl⟩) hP hD hS hA [0, 1] rfl rfl rfl (fun H locs hP hD hS => ?_)
    refine z_if_eq (tgt := 91) hx hb dX4_readStatement_75 (by decide) h (fun h => ?_) (fun h => ?_)
    · refine z_iconst hx hb dX4_readStatement_91 ?_
      cases h
      exact z_zret hx hb hr hlocks (by decide) hP hD hS dX4_readStatement_92
    · refine lv_aload_n hx hb dX4_readStatement_78 rfl (lv_at hl 0 rfl) ?_
      refine z_bipush hx hb (by decide +kernel) dX4_readStatement_79 ?_
      obtain ⟨⟨r_48, t_readAt_49⟩, hc_50, h⟩ := zb h
      try dsimp only at h
      refine z_calliU (wc := [kX4 ad_t ad_t_signs t_count t_readAt_45 r_42 t_first_46 0, kI cA ad_t_signs 48 t_signs]) (wc' := [kX4 ad_t ad_t_signs t_count t_readAt_49 r_42 t_first_46 0, kI cA ad_t_signs 48 t_signs]) (ws' := [kX4 ad_t ad_t_signs t_count t_readAt_49 r_42 t_first_46 0, kI cA ad_t_signs 48 t_signs]) (va_runV (As := [.int (zi 59)]) (rest := []) ⟨hx, hb, hml, hown, hts⟩ (c_X4_take l dC dI cA cN _ ad_t ad_t_signs t_count t_readAt_45 r_42 t_first_46 0 t_signs 59 r_48 t_readAt_49 hc_50) (cwV 1 hts gX4_readStatement_X4_take rfl rfl rfl (by decide +kernel) ⟨Nat.le_of_ble_eq_true rfl, Nat.le_of_ble_eq_true rfl⟩) (zPc.preV hK hE hP hD [0, 1] rfl rfl (ci := 4) (q0 := 0) rfl rfl) rfl rfl hl.1 rfl (lv_room (Nat.le_of_ble_eq_true rfl)) dX4_readStatement_81 ⟨Nat.le_of_ble_eq_true rfl, Nat.le_of_ble_eq_true rfl⟩) hP hD hS hA [0, 1] rfl rfl rfl (fun H locs hP hD hS => ?_)
      refine z_if_eq (tgt := 91) hx hb dX4_readStatement_84 (by decide) h (fun h => ?_) (fun h => ?_)
      · refine z_iconst hx hb dX4_readStatement_91 ?_
        cases h
        exact z_zret hx hb hr hlocks (by decide) hP hD hS dX4_readStatement_92
      · refine z_iconst hx hb dX4_readStatement_87 ?_
        refine lv_goto (tgt := 92) hx hb dX4_readStatement_88 (by decide) ?_
        cases h
        exact z_zret hx hb hr hlocks (by decide) hP hD hS dX4_readStatement_92
  · have h := zif h hk110
    by_cases hk115 : r_42 = 115
    · have h := zit h hk115
      refine z_lookup (tgt := 93) (off := 76) hx hb dX4_readStatement_17 (by decide) hg (by rw [hk115] <;> rfl) (by decide) ?_
      refine lv_aload_n hx hb dX4_readStatement_93 rfl (lv_at hl 0 rfl) ?_
      refine lv_dup hx hb dX4_readStatement_94 rfl ?_
      refine va_get (D := (dC, dI)) (ci := 4) (v := .int (zi t_readAt)) (C := RX4) (T := TX4) (N := 6) hx hb hts in_X4_readStatement_X4 hown hK hP 0 rfl rfl 2 (by decide) (hts _ q_X4_readStatement_2) (fun _ h9 => h9) rfl dX4_readStatement_95 ?_
      refine z_iconst hx hb dX4_readStatement_98 ?_
      refine z_iadd hx hb dX4_readStatement_99 ?_
      refine va_put (D := (dC, dI)) (ci := 4) (v := .int (zi (t_readAt + 1))) (ty := .int) (C := RX4) (T := TX4) (N := 6) hx hb hts in_X4_readStatement_X4 tyX4 tyX4_ok nmX4 hown hK hP hD hS 0 rfl rfl 2 (by decide) (hts _ q_X4_readStatement_2) (fun _ h9 => h9) rfl (by decide +kernel) rfl rfl (Nat.le_of_ble_eq_true rfl) dX4_readStatement_100 (fun H locs hP hD hS => ?_)
      have hP : va_P (dC, dI) vwCl [kX4 ad_t ad_t_signs t_count (t_readAt + 1) r_42 t_first 0, kI cA ad_t_signs 48 t_signs] H := hP
      have hD : va_D A [kX4 ad_t ad_t_signs t_count (t_readAt + 1) r_42 t_first 0, kI cA ad_t_signs 48 t_signs] := hD
      refine lv_aload_n hx hb dX4_readStatement_103 rfl (lv_at hl 0 rfl) ?_
      refine z_iconst hx hb dX4_readStatement_104 ?_
      obtain ⟨⟨r_51, t_readAt_52, t_first_53⟩, hc_54, h⟩ := zb h
      try dsimp only at h
      refine z_calliU (wc := [kX4 ad_t ad_t_signs t_count (t_readAt + 1) r_42 t_first 0, kI cA ad_t_signs 48 t_signs]) (wc' := [kX4 ad_t ad_t_signs t_count t_readAt_52 r_42 t_first_53 0, kI cA ad_t_signs 48 t_signs]) (ws' := [kX4 ad_t ad_t_signs t_count t_readAt_52 r_42 t_first_53 0, kI cA ad_t_signs 48 t_signs]) (va_runV (As := [.int (zi 1)]) (rest := []) ⟨hx, hb, hml, hown, hts⟩ (c_X4_readFirst l dC dI cA cN _ ad_t ad_t_signs t_count (t_readAt + 1) r_42 t_first 0 t_signs 1 r_51 t_readAt_52 t_first_53 hc_54) (cwV 1 hts gX4_readStatement_X4_readFirst rfl rfl rfl (by decide +kernel) ⟨Nat.le_of_ble_eq_true rfl, Nat.le_of_ble_eq_true rfl⟩) (zPc.preV hK hE hP hD [0, 1] rfl rfl (ci := 4) (q0 := 0) rfl rfl) rfl rfl hl.1 rfl (lv_room (Nat.le_of_ble_eq_true rfl)) dX4_readStatement_105 ⟨Nat.le_of_ble_eq_true rfl, Nat.le_of_ble_eq_true rfl⟩) hP hD hS hA [0, 1] rfl rfl rfl (fun H locs hP hD hS => ?_)
      refine z_if_eq (tgt := 132) hx hb dX4_readStatement_108 (by decide) h (fun h => ?_) (fun h => ?_)
      · refine z_iconst hx hb dX4_readStatement_132 ?_
        cases h
        exact z_zret hx hb hr hlocks (by decide) hP hD hS dX4_readStatement_133
      · refine lv_aload_n hx hb dX4_readStatement_111 rfl (lv_at hl 0 rfl) ?_
        refine z_iconst hx hb dX4_readStatement_112 ?_
        obtain ⟨⟨r_55, t_readAt_56, t_second_57⟩, hc_58, h⟩ := zb h
        try dsimp only at h
        refine z_calliU (wc := [kX4 ad_t ad_t_signs t_count t_readAt_52 r_42 t_first_53 0, kI cA ad_t_signs 48 t_signs]) (wc' := [kX4 ad_t ad_t_signs t_count t_readAt_56 r_42 t_first_53 t_second_57, kI cA ad_t_signs 48 t_signs]) (ws' := [kX4 ad_t ad_t_signs t_count t_readAt_56 r_42 t_first_53 t_second_57, kI cA ad_t_signs 48 t_signs]) (va_runV (As := [.int (zi 1)]) (rest := []) ⟨hx, hb, hml, hown, hts⟩ (c_X4_readSecond l dC dI cA cN _ ad_t ad_t_signs t_count t_readAt_52 r_42 t_first_53 0 t_signs 1 r_55 t_readAt_56 t_second_57 hc_58) (cwV 1 hts gX4_readStatement_X4_readSecond rfl rfl rfl (by decide +kernel) ⟨Nat.le_of_ble_eq_true rfl, Nat.le_of_ble_eq_true rfl⟩) (zPc.preV hK hE hP hD [0, 1] rfl rfl (ci := 4) (q0 := 0) rfl rfl) rfl rfl hl.1 rfl (lv_room (Nat.le_of_ble_eq_true rfl)) dX4_readStatement_113 ⟨Nat.le_of_ble_eq_true rfl, Nat.le_of_ble_eq_true rfl⟩) hP hD hS hA [0, 1] rfl rfl rfl (fun H locs hP hD hS => ?_)
        refine z_if_eq (tgt := 132) hx hb dX4_readStatement_116 (by decide) h (fun h => ?_) (fun h => ?_)
        · refine z_iconst hx hb dX4_readStatement_132 ?_
          cases h
          exact z_zret hx hb hr hlocks (by decide) hP hD hS dX4_readStatement_133
        · refine lv_aload_n hx hb dX4_readStatement_119 rfl (lv_at hl 0 rfl) ?_
          refine z_bipush hx hb (by decide +kernel) dX4_readStatement_120 ?_
          obtain ⟨⟨r_59, t_readAt_60⟩, hc_61, h⟩ := zb h
          try dsimp only at h
          refine z_calliU (wc := [kX4 ad_t ad_t_signs t_count t_readAt_56 r_42 t_first_53 t_second_57, kI cA ad_t_signs 48 t_signs]) (wc' := [kX4 ad_t ad_t_signs t_count t_readAt_60 r_42 t_first_53 t_second_57, kI cA ad_t_signs 48 t_signs]) (ws' := [kX4 ad_t ad_t_signs t_count t_readAt_60 r_42 t_first_53 t_second_57, kI cA ad_t_signs 48 t_signs]) (va_runV (As := [.int (zi 59)]) (rest := []) ⟨hx, hb, hml, hown, hts⟩ (c_X4_take l dC dI cA cN _ ad_t ad_t_signs t_count t_readAt_56 r_42 t_first_53 t_second_57 t_signs 59 r_59 t_readAt_60 hc_61) (cwV 1 hts gX4_readStatement_X4_take rfl rfl rfl (by decide +kernel) ⟨Nat.le_of_ble_eq_true rfl, Nat.le_of_ble_eq_true rfl⟩) (zPc.preV hK hE hP hD [0, 1] rfl rfl (ci := 4) (q0 := 0) rfl rfl) rfl rfl hl.1 rfl (lv_room (Nat.le_of_ble_eq_true rfl)) dX4_readStatement_122 ⟨Nat.le_of_ble_eq_true rfl, Nat.le_of_ble_eq_true rfl⟩) hP hD hS hA [0, 1] rfl rfl rfl (fun H locs hP hD hS => ?_)
          refine z_if_eq (tgt := 132) hx hb dX4_readStatement_125 (by decide) h (fun h => ?_) (fun h => ?_)
          · refine z_iconst hx hb dX4_readStatement_132 ?_
            cases h
            exact z_zret hx hb hr hlocks (by decide) hP hD hS dX4_readStatement_133
          · refine z_iconst hx hb dX4_readStatement_128 ?_
            refine lv_goto (tgt := 133) hx hb dX4_readStatement_129 (by decide) ?_
            cases h
            exact z_zret hx hb hr hlocks (by decide) hP hD hS dX4_readStatement_133
    · have h := zif h hk115
      by_cases hk116 : r_42 = 116
      · have h := zit h hk116
        refine z_lookup (tgt := 134) (off := 117) hx hb dX4_readStatement_17 (by decide) hg (by rw [hk116] <;> rfl) (by decide) ?_
        refine lv_aload_n hx hb dX4_readStatement_134 rfl (lv_at hl 0 rfl) ?_
        refine lv_dup hx hb dX4_readStatement_135 rfl ?_
        refine va_get (D := (dC, dI)) (ci := 4) (v := .int (zi t_readAt)) (C := RX4) (T := TX4) (N := 6) hx hb hts in_X4_readStatement_X4 hown hK hP 0 rfl rfl 2 (by decide) (hts _ q_X4_readStatement_2) (fun _ h9 => h9) rfl dX4_readStatement_136 ?_
        refine z_iconst hx hb dX4_readStatement_139 ?_
        refine z_iadd hx hb dX4_readStatement_140 ?_
        refine va_put (D := (dC, dI)) (ci := 4) (v := .int (zi (t_readAt + 1))) (ty := .int) (C := RX4) (T := TX4) (N := 6) hx hb hts in_X4_readStatement_X4 tyX4 tyX4_ok nmX4 hown hK hP hD hS 0 rfl rfl 2 (by decide) (hts _ q_X4_readStatement_2) (fun _ h9 => h9) rfl (by decide +kernel) rfl rfl (Nat.le_of_ble_eq_true rfl) dX4_readStatement_141 (fun H locs hP hD hS => ?_)
        have hP : va_P (dC, dI) vwCl [kX4 ad_t ad_t_signs t_count (t_readAt + 1) r_42 t_first 0, kI cA ad_t_signs 48 t_signs] H := hP
        have hD : va_D A [kX4 ad_t ad_t_signs t_count (t_readAt + 1) r_42 t_first 0, kI cA ad_t_signs 48 t_signs] := hD
        refine lv_aload_n hx hb dX4_readStatement_144 rfl (lv_at hl 0 rfl) ?_
        refine z_iconst hx hb dX4_readStatement_145 ?_
        obtain ⟨⟨r_62, t_readAt_63, t_first_64⟩, hc_65, h⟩ := zb h
        try dsimp only at h
        refine z_calliU (wc := [kX4 ad_t ad_t_signs t_count (t_readAt + 1) r_42 t_first 0, kI cA ad_t_signs 48 t_signs]) (wc' := [kX4 ad_t ad_t_signs t_count t_readAt_63 r_42 t_first_64 0, kI cA ad_t_signs 48 t_signs]) (ws' := [kX4 ad_t ad_t_signs t_count t_readAt_63 r_42 t_first_64 0, kI cA ad_t_signs 48 t_signs]) (va_runV (As := [.int (zi 1)]) (rest := []) ⟨hx, hb, hml, hown, hts⟩ (c_X4_readFirst l dC dI cA cN _ ad_t ad_t_signs t_count (t_readAt + 1) r_42 t_first 0 t_signs 1 r_62 t_readAt_63 t_first_64 hc_65) (cwV 1 hts gX4_readStatement_X4_readFirst rfl rfl rfl (by decide +kernel) ⟨Nat.le_of_ble_eq_true rfl, Nat.le_of_ble_eq_true rfl⟩) (zPc.preV hK hE hP hD [0, 1] rfl rfl (ci := 4) (q0 := 0) rfl rfl) rfl rfl hl.1 rfl (lv_room (Nat.le_of_ble_eq_true rfl)) dX4_readStatement_146 ⟨Nat.le_of_ble_eq_true rfl, Nat.le_of_ble_eq_true rfl⟩) hP hD hS hA [0, 1] rfl rfl rfl (fun H locs hP hD hS => ?_)
        refine z_if_eq (tgt := 165) hx hb dX4_readStatement_149 (by decide) h (fun h => ?_) (fun h => ?_)
        · refine z_iconst hx hb dX4_readStatement_165 ?_
          cases h
          exact z_zret hx hb hr hlocks (by decide) hP hD hS dX4_readStatement_166
        · refine lv_aload_n hx hb dX4_readStatement_152 rfl (lv_at hl 0 rfl) ?_
          refine z_bipush hx hb (by decide +kernel) dX4_readStatement_153 ?_
          obtain ⟨⟨r_66, t_readAt_67⟩, hc_68, h⟩ := zb h
          try dsimp only at h
          refine z_calliU (wc := [kX4 ad_t ad_t_signs t_count t_readAt_63 r_42 t_first_64 0, kI cA ad_t_signs 48 t_signs]) (wc' := [kX4 ad_t ad_t_signs t_count t_readAt_67 r_42 t_first_64 0, kI cA ad_t_signs 48 t_signs]) (ws' := [kX4 ad_t ad_t_signs t_count t_readAt_67 r_42 t_first_64 0, kI cA ad_t_signs 48 t_signs]) (va_runV (As := [.int (zi 59)]) (rest := []) ⟨hx, hb, hml, hown, hts⟩ (c_X4_take l dC dI cA cN _ ad_t ad_t_signs t_count t_readAt_63 r_42 t_first_64 0 t_signs 59 r_66 t_readAt_67 hc_68) (cwV 1 hts gX4_readStatement_X4_take rfl rfl rfl (by decide +kernel) ⟨Nat.le_of_ble_eq_true rfl, Nat.le_of_ble_eq_true rfl⟩) (zPc.preV hK hE hP hD [0, 1] rfl rfl (ci := 4) (q0 := 0) rfl rfl) rfl rfl hl.1 rfl (lv_room (Nat.le_of_ble_eq_true rfl)) dX4_readStatement_155 ⟨Nat.le_of_ble_eq_true rfl, Nat.le_of_ble_eq_true rfl⟩) hP hD hS hA [0, 1] rfl rfl rfl (fun H locs hP hD hS => ?_)
          refine z_if_eq (tgt := 165) hx hb dX4_readStatement_158 (by decide) h (fun h => ?_) (fun h => ?_)
          · refine z_iconst hx hb dX4_readStatement_165 ?_
            cases h
            exact z_zret hx hb hr hlocks (by decide) hP hD hS dX4_readStatement_166
          · refine z_iconst hx hb dX4_readStatement_161 ?_
            refine lv_goto (tgt := 166) hx hb dX4_readStatement_162 (by decide) ?_
            cases h
            exact z_zret hx hb hr hlocks (by decide) hP hD hS dX4_readStatement_166
      · have h := zif h hk116
        by_cases hk120 : r_42 = 120
        · have h := zit h hk120
          refine z_lookup (tgt := 167) (off := 150) hx hb dX4_readStatement_17 (by decide) hg (by rw [hk120] <;> rfl) (by decide) ?_
          refine lv_aload_n hx hb dX4_readStatement_167 rfl (lv_at hl 0 rfl) ?_
          refine lv_dup hx hb dX4_readStatement_168 rfl ?_
          refine va_get (D := (dC, dI)) (ci := 4) (v := .int (zi t_readAt)) (C := RX4) (T := TX4) (N := 6) hx hb hts in_X4_readStatement_X4 hown hK hP 0 rfl rfl 2 (by decide) (hts _ q_X4_readStatement_2) (fun _ h9 => h9) rfl dX4_readStatement_169 ?_
          refine z_iconst hx hb dX4_readStatement_172 ?_
          refine z_iadd hx hb dX4_readStatement_173 ?_
          refine va_put (D := (dC, dI)) (ci := 4) (v := .int (zi (t_readAt + 1))) (ty := .int) (C := RX4) (T := TX4) (N := 6) hx hb hts in_X4_readStatement_X4 tyX4 tyX4_ok nmX4 hown hK hP hD hS 0 rfl rfl 2 (by decide) (hts _ q_X4_readStatement_2) (fun _ h9 => h9) rfl (by decide +kernel) rfl rfl (Nat.le_of_ble_eq_true rfl) dX4_readStatement_174 (fun H locs hP hD hS => ?_)
          have hP : va_P (dC, dI) vwCl [kX4 ad_t ad_t_signs t_count (t_readAt + 1) r_42 t_first 0, kI cA ad_t_signs 48 t_signs] H := hP
          have hD : va_D A [kX4 ad_t ad_t_signs t_count (t_readAt + 1) r_42 t_first 0, kI cA ad_t_signs 48 t_signs] := hD
          refine lv_aload_n hx hb dX4_readStatement_177 rfl (lv_at hl 0 rfl) ?_
          refine z_iconst hx hb dX4_readStatement_178 ?_
          obtain ⟨⟨r_69, t_readAt_70, t_first_71⟩, hc_72, h⟩ := zb h
          try dsimp only at h
          refine z_calliU (wc := [kX4 ad_t ad_t_signs t_count (t_readAt + 1) r_42 t_first 0, kI cA ad_t_signs 48 t_signs]) (wc' := [kX4 ad_t ad_t_signs t_count t_readAt_70 r_42 t_first_71 0, kI cA ad_t_signs 48 t_signs]) (ws' := [kX4 ad_t ad_t_signs t_count t_readAt_70 r_42 t_first_71 0, kI cA ad_t_signs 48 t_signs]) (va_runV (As := [.int (zi 3)]) (rest := []) ⟨hx, hb, hml, hown, hts⟩ (c_X4_readFirst l dC dI cA cN _ ad_t ad_t_signs t_count (t_readAt + 1) r_42 t_first 0 t_signs 3 r_69 t_readAt_70 t_first_71 hc_72) (cwV 1 hts gX4_readStatement_X4_readFirst rfl rfl rfl (by decide +kernel) ⟨Nat.le_of_ble_eq_true rfl, Nat.le_of_ble_eq_true rfl⟩) (zPc.preV hK hE hP hD [0, 1] rfl rfl (ci := 4) (q0 := 0) rfl rfl) rfl rfl hl.1 rfl (lv_room (Nat.le_of_ble_eq_true rfl)) dX4_readStatement_179 ⟨Nat.le_of_ble_eq_true rfl, Nat.le_of_ble_eq_true rfl⟩) hP hD hS hA [0, 1] rfl rfl rfl (fun H locs hP hD hS => ?_)
          refine z_if_eq (tgt := 215) hx hb dX4_readStatement_182 (by decide) h (fun h => ?_) (fun h => ?_)
          · refine z_iconst hx hb dX4_readStatement_215 ?_
            cases h
            exact z_zret hx hb hr hlocks (by decide) hP hD hS dX4_readStatement_216
          · refine lv_aload_n hx hb dX4_readStatement_185 rfl (lv_at hl 0 rfl) ?_
            refine z_bipush hx hb (by decide +kernel) dX4_readStatement_186 ?_
            obtain ⟨⟨r_73, t_readAt_74⟩, hc_75, h⟩ := zb h
            try dsimp only at h
            refine z_calliU (wc := [kX4 ad_t ad_t_signs t_count t_readAt_70 r_42 t_first_71 0, kI cA ad_t_signs 48 t_signs]) (wc' := [kX4 ad_t ad_t_signs t_count t_readAt_74 r_42 t_first_71 0, kI cA ad_t_signs 48 t_signs]) (ws' := [kX4 ad_t ad_t_signs t_count t_readAt_74 r_42 t_first_71 0, kI cA ad_t_signs 48 t_signs]) (va_runV (As := [.int (zi 44)]) (rest := []) ⟨hx, hb, hml, hown, hts⟩ (c_X4_take l dC dI cA cN _ ad_t ad_t_signs t_count t_readAt_70 r_42 t_first_71 0 t_signs 44 r_73 t_readAt_74 hc_75) (cwV 1 hts gX4_readStatement_X4_take rfl rfl rfl (by decide +kernel) ⟨Nat.le_of_ble_eq_true rfl, Nat.le_of_ble_eq_true rfl⟩) (zPc.preV hK hE hP hD [0, 1] rfl rfl (ci := 4) (q0 := 0) rfl rfl) rfl rfl hl.1 rfl (lv_room (Nat.le_of_ble_eq_true rfl)) dX4_readStatement_188 ⟨Nat.le_of_ble_eq_true rfl, Nat.le_of_ble_eq_true rfl⟩) hP hD hS hA [0, 1] rfl rfl rfl (fun H locs hP hD hS => ?_)
            refine z_if_eq (tgt := 215) hx hb dX4_readStatement_191 (by decide) h (fun h => ?_) (fun h => ?_)
            · refine z_iconst hx hb dX4_readStatement_215 ?_
              cases h
              exact z_zret hx hb hr hlocks (by decide) hP hD hS dX4_readStatement_216
            · refine lv_aload_n hx hb dX4_readStatement_194 rfl (lv_at hl 0 rfl) ?_
              refine z_iconst hx hb dX4_readStatement_195 ?_
              obtain ⟨⟨r_76, t_readAt_77, t_second_78⟩, hc_79, h⟩ := zb h
              try dsimp only at h
              refine z_calliU (wc := [kX4 ad_t ad_t_signs t_count t_readAt_74 r_42 t_first_71 0, kI cA ad_t_signs 48 t_signs]) (wc' := [kX4 ad_t ad_t_signs t_count t_readAt_77 r_42 t_first_71 t_second_78, kI cA ad_t_signs 48 t_signs]) (ws' := [kX4 ad_t ad_t_signs t_count t_readAt_77 r_42 t_first_71 t_second_78, kI cA ad_t_signs 48 t_signs]) (va_runV (As := [.int (zi 3)]) (rest := []) ⟨hx, hb, hml, hown, hts⟩ (c_X4_readSecond l dC dI cA cN _ ad_t ad_t_signs t_count t_readAt_74 r_42 t_first_71 0 t_signs 3 r_76 t_readAt_77 t_second_78 hc_79) (cwV 1 hts gX4_readStatement_X4_readSecond rfl rfl rfl (by decide +kernel) ⟨Nat.le_of_ble_eq_true rfl, Nat.le_of_ble_eq_true rfl⟩) (zPc.preV hK hE hP hD [0, 1] rfl rfl (ci := 4) (q0 := 0) rfl rfl) rfl rfl hl.1 rfl (lv_room (Nat.le_of_ble_eq_true rfl)) dX4_readStatement_196 ⟨Nat.le_of_ble_eq_true rfl, Nat.le_of_ble_eq_true rfl⟩) hP hD hS hA [0, 1] rfl rfl rfl (fun H locs hP hD hS => ?_)
              refine z_if_eq (tgt := 215) hx hb dX4_readStatement_199 (by decide) h (fun h => ?_) (fun h => ?_)
              · refine z_iconst hx hb dX4_readStatement_215 ?_
                cases h
                exact z_zret hx hb hr hlocks (by decide) hP hD hS dX4_readStatement_216
              · refine lv_aload_n hx hb dX4_readStatement_202 rfl (lv_at hl 0 rfl) ?_
                refine z_bipush hx hb (by decide +kernel) dX4_readStatement_203 ?_
                obtain ⟨⟨r_80, t_readAt_81⟩, hc_82, h⟩ := zb h
                try dsimp only at h
                refine z_calliU (wc := [kX4 ad_t ad_t_signs t_count t_readAt_77 r_42 t_first_71 t_second_78, kI cA ad_t_signs 48 t_signs]) (wc' := [kX4 ad_t ad_t_signs t_count t_readAt_81 r_42 t_first_71 t_second_78, kI cA ad_t_signs 48 t_signs]) (ws' := [kX4 ad_t ad_t_signs t_count t_readAt_81 r_42 t_first_71 t_second_78, kI cA ad_t_signs 48 t_signs]) (va_runV (As := [.int (zi 59)]) (rest := []) ⟨hx, hb, hml, hown, hts⟩ (c_X4_take l dC dI cA cN _ ad_t ad_t_signs t_count t_readAt_77 r_42 t_first_71 t_second_78 t_signs 59 r_80 t_readAt_81 hc_82) (cwV 1 hts gX4_readStatement_X4_take rfl rfl rfl (by decide +kernel) ⟨Nat.le_of_ble_eq_true rfl, Nat.le_of_ble_eq_true rfl⟩) (zPc.preV hK hE hP hD [0, 1] rfl rfl (ci := 4) (q0 := 0) rfl rfl) rfl rfl hl.1 rfl (lv_room (Nat.le_of_ble_eq_true rfl)) dX4_readStatement_205 ⟨Nat.le_of_ble_eq_true rfl, Nat.le_of_ble_eq_true rfl⟩) hP hD hS hA [0, 1] rfl rfl rfl (fun H locs hP hD hS => ?_)
                refine z_if_eq (tgt := 215) hx hb dX4_readStatement_208 (by decide) h (fun h => ?_) (fun h => ?_)
                · refine z_iconst hx hb dX4_readStatement_215 ?_
                  cases h
                  exact z_zret hx hb hr hlocks (by decide) hP hD hS dX4_readStatement_216
                · refine z_iconst hx hb dX4_readStatement_211 ?_
                  refine lv_goto (tgt := 216) hx hb dX4_readStatement_212 (by decide) ?_
                  cases h
                  exact z_zret hx hb hr hlocks (by decide) hP hD hS dX4_readStatement_216
        · have h := zif h hk120
          refine z_lookup (tgt := 217) (off := 200) hx hb dX4_readStatement_17 (by decide) hg (by rw [Op.lookupswitch.offset_cons, if_neg (fun q => hk110 q.symm), Op.lookupswitch.offset_cons, if_neg (fun q => hk115 q.symm), Op.lookupswitch.offset_cons, if_neg (fun q => hk116 q.symm), Op.lookupswitch.offset_cons, if_neg (fun q => hk120 q.symm)] <;> rfl) (by decide) ?_
          refine z_iconst hx hb dX4_readStatement_217 ?_
          cases h
          exact z_zret hx hb hr hlocks (by decide) hP hD hS dX4_readStatement_218
-- X4_faultPlace
theorem dX4_faultPlace_0 : decode cX4_faultPlace 0 = .ok (.aload_n 0, 1) := by decide +kernel
theorem dX4_faultPlace_1 : decode cX4_faultPlace 1 = .ok (.iconst 0, 1) := by decide +kernel
theorem dX4_faultPlace_2 : decode cX4_faultPlace 2 = .ok (.putfield 19, 3) := by decide +kernel
theorem dX4_faultPlace_5 : decode cX4_faultPlace 5 = .ok (.iconst 0, 1) := by decide +kernel
theorem dX4_faultPlace_6 : decode cX4_faultPlace 6 = .ok (.istore_n 1, 1) := by decide +kernel
theorem dX4_faultPlace_7 : decode cX4_faultPlace 7 = .ok (.iload_n 1, 1) := by decide +kernel
theorem dX4_faultPlace_8 : decode cX4_faultPlace 8 = .ok (.bipush 48, 2) := by decide +kernel
theorem dX4_faultPlace_10 : decode cX4_faultPlace 10 = .ok (.if_icmp .gt 36, 3) := by decide +kernel
theorem dX4_faultPlace_13 : decode cX4_faultPlace 13 = .ok (.iload_n 1, 1) := by decide +kernel
theorem dX4_faultPlace_14 : decode cX4_faultPlace 14 = .ok (.ifCond .eq 14, 3) := by decide +kernel
theorem dX4_faultPlace_17 : decode cX4_faultPlace 17 = .ok (.aload_n 0, 1) := by decide +kernel
theorem dX4_faultPlace_18 : decode cX4_faultPlace 18 = .ok (.getfield 19, 3) := by decide +kernel
theorem dX4_faultPlace_21 : decode cX4_faultPlace 21 = .ok (.aload_n 0, 1) := by decide +kernel
theorem dX4_faultPlace_22 : decode cX4_faultPlace 22 = .ok (.getfield 15, 3) := by decide +kernel
theorem dX4_faultPlace_25 : decode cX4_faultPlace 25 = .ok (.if_icmp .ge 21, 3) := by decide +kernel
theorem dX4_faultPlace_28 : decode cX4_faultPlace 28 = .ok (.aload_n 0, 1) := by decide +kernel
theorem dX4_faultPlace_29 : decode cX4_faultPlace 29 = .ok (.invokevirtual 22, 3) := by decide +kernel
theorem dX4_faultPlace_32 : decode cX4_faultPlace 32 = .ok (.ifCond .ne 8, 3) := by decide +kernel
theorem dX4_faultPlace_35 : decode cX4_faultPlace 35 = .ok (.aload_n 0, 1) := by decide +kernel
theorem dX4_faultPlace_36 : decode cX4_faultPlace 36 = .ok (.getfield 19, 3) := by decide +kernel
theorem dX4_faultPlace_39 : decode cX4_faultPlace 39 = .ok (.ireturn, 1) := by decide +kernel
theorem dX4_faultPlace_40 : decode cX4_faultPlace 40 = .ok (.iinc 1 1, 3) := by decide +kernel
theorem dX4_faultPlace_43 : decode cX4_faultPlace 43 = .ok (.goto (-36), 3) := by decide +kernel
theorem dX4_faultPlace_46 : decode cX4_faultPlace 46 = .ok (.bipush (-9), 2) := by decide +kernel
theorem dX4_faultPlace_48 : decode cX4_faultPlace 48 = .ok (.ireturn, 1) := by decide +kernel
set_option maxRecDepth 20000 in
theorem ggX4_faultPlace_X4_readStatement : GoodIn wsX4_faultPlace wsX4_readStatement := goodIn_r _ [7, 8, 9, 1, 10, 11, 12, 6, 13, 2, 14, 15, 16, 17, 18, 19, 20, 21, 22, 23, 24, 25, 26, 27, 28, 29, 30, 31, 32, 33, 34, 35, 36, 37, 38, 39, 40, 41, 42, 43, 44] rfl (by decide +kernel)
set_option maxRecDepth 20000 in
theorem gX4_faultPlace_X4_readStatement : GoodIn wsX4_faultPlace (wsV RX4 22 RX4 yX4_readStatement wsX4_readStatement) := goodIn_app (goodIn_of _ (by decide +kernel)) ggX4_faultPlace_X4_readStatement
noncomputable def f_X4_faultPlace_J28 (ag : Int → (Int → Int) → Int → Int → Int → Int → Int → Option (Int × Int × Int × Int × Int)) (v1 : Int) (t_signs : Int → Int) (t_count : Int) (t_readAt : Int) (t_verb : Int) (t_first : Int) (t_second : Int) : Option (Int × Int × Int × Int × Int) := (f_X4_readStatement t_signs t_count t_readAt t_verb t_first t_second).bind (fun (r_1, t_readAt_2, t_verb_3, t_first_4, t_second_5) => zg (zR r_1) (if ¬ r_1 = 0 then ag (v1 + 1) t_signs t_count t_readAt_2 t_verb_3 t_first_4 t_second_5 else some (t_readAt_2, t_readAt_2, t_verb_3, t_first_4, t_second_5)))
noncomputable def f_X4_faultPlace_L7 : Nat → Int → (Int → Int) → Int → Int → Int → Int → Int → Option (Int × Int × Int × Int × Int)
  | 0, _, _, _, _, _, _, _ => none
  | n + 1, v1, t_signs, t_count, t_readAt, t_verb, t_first, t_second => zg (zR v1) (if 48 < v1 then some ((-9), t_readAt, t_verb, t_first, t_second) else zg (zR v1) (if v1 = 0 then f_X4_faultPlace_J28 (f_X4_faultPlace_L7 n) v1 t_signs t_count t_readAt t_verb t_first t_second else zg (zR t_readAt ∧ zR t_count) (if t_count ≤ t_readAt then some ((-9), t_readAt, t_verb, t_first, t_second) else f_X4_faultPlace_J28 (f_X4_faultPlace_L7 n) v1 t_signs t_count t_readAt t_verb t_first t_second)))
theorem f_X4_faultPlace_L7_z (v1 : Int) (t_signs : Int → Int) (t_count : Int) (t_readAt : Int) (t_verb : Int) (t_first : Int) (t_second : Int) : f_X4_faultPlace_L7 0 v1 t_signs t_count t_readAt t_verb t_first t_second = none := rfl
theorem f_X4_faultPlace_L7_s (n : Nat) (v1 : Int) (t_signs : Int → Int) (t_count : Int) (t_readAt : Int) (t_verb : Int) (t_first : Int) (t_second : Int) : f_X4_faultPlace_L7 (n + 1) v1 t_signs t_count t_readAt t_verb t_first t_second = zg (zR v1) (if 48 < v1 then some ((-9), t_readAt, t_verb, t_first, t_second) else zg (zR v1) (if v1 = 0 then f_X4_faultPlace_J28 (f_X4_faultPlace_L7 n) v1 t_signs t_count t_readAt t_verb t_first t_second else zg (zR t_readAt ∧ zR t_count) (if t_count ≤ t_readAt then some ((-9), t_readAt, t_verb, t_first, t_second) else f_X4_faultPlace_J28 (f_X4_faultPlace_L7 n) v1 t_signs t_count t_readAt t_verb t_first t_second))) := rfl
noncomputable def f_X4_faultPlace (t_signs : Int → Int) (t_count : Int) (t_readAt : Int) (t_verb : Int) (t_first : Int) (t_second : Int) : Option (Int × Int × Int × Int × Int) := f_X4_faultPlace_L7 zF 0 t_signs t_count 0 t_verb t_first t_second
theorem q_X4_faultPlace_0 : Cond.fieldLink RX4 19 "EachSecondStruck$Letters" "readAt" "I" ∈ wsX4_faultPlace := by decide +kernel
theorem q_X4_faultPlace_1 : Cond.fieldLink RX4 15 "EachSecondStruck$Letters" "count" "I" ∈ wsX4_faultPlace := by decide +kernel
theorem in_X4_faultPlace_X4 : ∀ w ∈ u_ws RX4 TX4 6, w ∈ wsX4_faultPlace := by decide +kernel
set_option maxHeartbeats 4000000 in
set_option maxRecDepth 100000 in
theorem c_X4_faultPlace (l : Launch) (dC : Nat → ClassId) (dI : Nat → Nat → Nat) (cA cN : ClassId) (sz : Nat) (ad_t : Nat) (ad_t_signs : Nat) (t_count : Int) (t_readAt : Int) (t_verb : Int) (t_first : Int) (t_second : Int) (t_signs : Int → Int)  (r0 : Int) (t_readAt9 : Int) (t_verb9 : Int) (t_first9 : Int) (t_second9 : Int) (h : f_X4_faultPlace t_signs t_count t_readAt t_verb t_first t_second = some (r0, t_readAt9, t_verb9, t_first9, t_second9)) : Met l yX4_faultPlace wsX4_faultPlace { frames := 4, cells := 0, slots := 0, locals := 84 } (zPc (dC, dI) (zT cA cN) [kX4 ad_t ad_t_signs t_count t_readAt t_verb t_first t_second, kI cA ad_t_signs 48 t_signs] [.ref ad_t] sz) (zQi (dC, dI) [kX4 ad_t ad_t_signs t_count t_readAt9 t_verb9 t_first9 t_second9, kI cA ad_t_signs 48 t_signs] r0 (va_A [kX4 ad_t ad_t_signs t_count t_readAt t_verb t_first t_second, kI cA ad_t_signs 48 t_signs] sz)) 0 0 (va_A [kX4 ad_t ad_t_signs t_count t_readAt t_verb t_first t_second, kI cA ad_t_signs 48 t_signs] sz) := by
  refine z_ofW (QF := fun A => zQi (dC, dI) [kX4 ad_t ad_t_signs t_count t_readAt9 t_verb9 t_first9 t_second9, kI cA ad_t_signs 48 t_signs] r0 A) (by decide) rfl (Nat.le_of_ble_eq_true rfl) ?_
  intro p e s m below meth c ls A hx hb hml hr hlocks hnm hts hown hK hP hD hE hsz hA hS hl
  have hl : lv_has ls 2 [(0, .ref ad_t)] := hl
  unfold f_X4_faultPlace at h
  refine lv_aload_n hx hb dX4_faultPlace_0 rfl (lv_at hl 0 rfl) ?_
  refine z_iconst hx hb dX4_faultPlace_1 ?_
  refine va_put (D := (dC, dI)) (ci := 4) (v := .int (zi 0)) (ty := .int) (C := RX4) (T := TX4) (N := 6) hx hb hts in_X4_faultPlace_X4 tyX4 tyX4_ok nmX4 hown hK hP hD hS 0 rfl rfl 2 (by decide) (hts _ q_X4_faultPlace_0) (fun _ h9 => h9) rfl (by decide +kernel) rfl rfl (Nat.le_of_ble_eq_true rfl) dX4_faultPlace_2 (fun H locs hP hD hS => ?_)
  have hP : va_P (dC, dI) vwCl [kX4 ad_t ad_t_signs t_count 0 t_verb t_first t_second, kI cA ad_t_signs 48 t_signs] H := hP
  have hD : va_D A [kX4 ad_t ad_t_signs t_count 0 t_verb t_first t_second, kI cA ad_t_signs 48 t_signs] := hD
  refine z_iconst hx hb dX4_faultPlace_5 ?_
  refine lv_istore_n (lv' := [(1, .int (zi 0)), (0, .ref ad_t)]) hx hb dX4_faultPlace_6 rfl hl (by decide) rfl (fun ls hl => ?_)
  have hlp7 : ∀ (n : Nat) (v1_7 : Int) (t_readAt_8 : Int) (t_verb_9 : Int) (t_first_10 : Int) (t_second_11 : Int) (H : Heap) (locs : List Loc) (ls : Array Slot), f_X4_faultPlace_L7 n v1_7 t_signs t_count t_readAt_8 t_verb_9 t_first_10 t_second_11 = some (r0, t_readAt9, t_verb9, t_first9, t_second9) → va_P (dC, dI) vwCl [kX4 ad_t ad_t_signs t_count t_readAt_8 t_verb_9 t_first_10 t_second_11, kI cA ad_t_signs 48 t_signs] H → va_D A [kX4 ad_t ad_t_signs t_count t_readAt_8 t_verb_9 t_first_10 t_second_11, kI cA ad_t_signs 48 t_signs] → va_S A s.heap H locs → lv_has ls 2 [(0, .ref ad_t), (1, .int (zi v1_7))] → W p l e { frames := 4, cells := 0, slots := 0, locals := 84 } s m ([.ref ad_t] : List Value).toArray below meth c H locs 0 0 (MQ below (zQi (dC, dI) [kX4 ad_t ad_t_signs t_count t_readAt9 t_verb9 t_first9 t_second9, kI cA ad_t_signs 48 t_signs] r0 A) ([.ref ad_t] : List Value).toArray s 0 0 A) (F0 m 7 ls []) := by
    intro n
    induction n with
    | zero => intro v1_7 t_readAt_8 t_verb_9 t_first_10 t_second_11 H locs ls h; rw [f_X4_faultPlace_L7_z] at h; cases h
    | succ n ih7 =>
      intro v1_7 t_readAt_8 t_verb_9 t_first_10 t_second_11 H locs ls h hP hD hS hl
      rw [f_X4_faultPlace_L7_s] at h
      refine lv_iload_n hx hb dX4_faultPlace_7 rfl (lv_at hl 1 rfl) ?_
      refine z_bipush hx hb (by decide +kernel) dX4_faultPlace_8 ?_
      refine z_icmp_gt (tgt := 46) hx hb dX4_faultPlace_10 (by decide) h (fun q => ⟨q, by decide⟩) (fun h => ?_) (fun h => ?_)
      · refine z_bipush hx hb (by decide +kernel) dX4_faultPlace_46 ?_
        cases h
        exact z_iret hx hb hr hlocks hP hD hS dX4_faultPlace_48
      · refine lv_iload_n hx hb dX4_faultPlace_13 rfl (lv_at hl 1 rfl) ?_
        have hj28 : ∀ (H : Heap) (locs : List Loc) (ls : Array Slot), f_X4_faultPlace_J28 (f_X4_faultPlace_L7 n) v1_7 t_signs t_count t_readAt_8 t_verb_9 t_first_10 t_second_11 = some (r0, t_readAt9, t_verb9, t_first9, t_second9) → va_P (dC, dI) vwCl [kX4 ad_t ad_t_signs t_count t_readAt_8 t_verb_9 t_first_10 t_second_11, kI cA ad_t_signs 48 t_signs] H → va_D A [kX4 ad_t ad_t_signs t_count t_readAt_8 t_verb_9 t_first_10 t_second_11, kI cA ad_t_signs 48 t_signs] → va_S A s.heap H locs → lv_has ls 2 [(0, .ref ad_t), (1, .int (zi v1_7))] → W p l e { frames := 4, cells := 0, slots := 0, locals := 84 } s m ([.ref ad_t] : List Value).toArray below meth c H locs 0 0 (MQ below (zQi (dC, dI) [kX4 ad_t ad_t_signs t_count t_readAt9 t_verb9 t_first9 t_second9, kI cA ad_t_signs 48 t_signs] r0 A) ([.ref ad_t] : List Value).toArray s 0 0 A) (F0 m 28 ls []) := by
          intro  H locs ls h hP hD hS hl
          unfold f_X4_faultPlace_J28 at h
          refine lv_aload_n hx hb dX4_faultPlace_28 rfl (lv_at hl 0 rfl) ?_
          obtain ⟨⟨r_12, t_readAt_13, t_verb_14, t_first_15, t_second_16⟩, hc_17, h⟩ := zb h
          try dsimp only at h
          refine z_calliU (wc := [kX4 ad_t ad_t_signs t_count t_readAt_8 t_verb_9 t_first_10 t_second_11, kI cA ad_t_signs 48 t_signs]) (wc' := [kX4 ad_t ad_t_signs t_count t_readAt_13 t_verb_14 t_first_15 t_second_16, kI cA ad_t_signs 48 t_signs]) (ws' := [kX4 ad_t ad_t_signs t_count t_readAt_13 t_verb_14 t_first_15 t_second_16, kI cA ad_t_signs 48 t_signs]) (va_runV (As := []) (rest := []) ⟨hx, hb, hml, hown, hts⟩ (c_X4_readStatement l dC dI cA cN _ ad_t ad_t_signs t_count t_readAt_8 t_verb_9 t_first_10 t_second_11 t_signs r_12 t_readAt_13 t_verb_14 t_first_15 t_second_16 hc_17) (cwV 0 hts gX4_faultPlace_X4_readStatement rfl rfl rfl (by decide +kernel) ⟨Nat.le_of_ble_eq_true rfl, Nat.le_of_ble_eq_true rfl⟩) (zPc.preV hK hE hP hD [0, 1] rfl rfl (ci := 4) (q0 := 0) rfl rfl) rfl rfl hl.1 rfl (lv_room (Nat.le_of_ble_eq_true rfl)) dX4_faultPlace_29 ⟨Nat.le_of_ble_eq_true rfl, Nat.le_of_ble_eq_true rfl⟩) hP hD hS hA [0, 1] rfl rfl rfl (fun H locs hP hD hS => ?_)
          refine z_if_ne (tgt := 40) hx hb dX4_faultPlace_32 (by decide) h (fun h => ?_) (fun h => ?_)
          · refine z_iinc (lv' := [(1, .int (zi (v1_7 + 1))), (0, .ref ad_t)]) hx hb dX4_faultPlace_40 hl (k := 1) rfl (by decide) rfl (fun ls hl => ?_)
            refine lv_goto (tgt := 7) hx hb dX4_faultPlace_43 (by decide) ?_
            exact ih7 _ _ _ _ _ _ _ _ h hP hD hS (lv_sub hl [1, 0] rfl)
          · refine lv_aload_n hx hb dX4_faultPlace_35 rfl (lv_at hl 0 rfl) ?_
            refine va_get (D := (dC, dI)) (ci := 4) (v := .int (zi t_readAt_13)) (C := RX4) (T := TX4) (N := 6) hx hb hts in_X4_faultPlace_X4 hown hK hP 0 rfl rfl 2 (by decide) (hts _ q_X4_faultPlace_0) (fun _ h9 => h9) rfl dX4_faultPlace_36 ?_
            cases h
            exact z_iret hx hb hr hlocks hP hD hS dX4_faultPlace_39
        refine z_if_eq (tgt := 28) hx hb dX4_faultPlace_14 (by decide) h (fun h => ?_) (fun h => ?_)
        · exact hj28 _ _ _ h hP hD hS (lv_sub hl [0, 1] rfl)
        · refine lv_aload_n hx hb dX4_faultPlace_17 rfl (lv_at hl 0 rfl) ?_
          refine va_get (D := (dC, dI)) (ci := 4) (v := .int (zi t_readAt_8)) (C := RX4) (T := TX4) (N := 6) hx hb hts in_X4_faultPlace_X4 hown hK hP 0 rfl rfl 2 (by decide) (hts _ q_X4_faultPlace_0) (fun _ h9 => h9) rfl dX4_faultPlace_18 ?_
          refine lv_aload_n hx hb dX4_faultPlace_21 rfl (lv_at hl 0 rfl) ?_
          refine va_get (D := (dC, dI)) (ci := 4) (v := .int (zi t_count)) (C := RX4) (T := TX4) (N := 6) hx hb hts in_X4_faultPlace_X4 hown hK hP 0 rfl rfl 1 (by decide) (hts _ q_X4_faultPlace_1) (fun _ h9 => h9) rfl dX4_faultPlace_22 ?_
          refine z_icmp_ge (tgt := 46) hx hb dX4_faultPlace_25 (by decide) h (fun q => q) (fun h => ?_) (fun h => ?_)
          · refine z_bipush hx hb (by decide +kernel) dX4_faultPlace_46 ?_
            cases h
            exact z_iret hx hb hr hlocks hP hD hS dX4_faultPlace_48
          · exact hj28 _ _ _ h hP hD hS (lv_sub hl [0, 1] rfl)
  exact hlp7 zF _ _ _ _ _ _ _ _ h hP hD hS (lv_sub hl [1, 0] rfl)
