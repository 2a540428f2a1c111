def GW (w : Cond) : Prop := w ∈ wsL_law ∧ ((w.onTables && w.keeps) = true ∨ ∃ ty, w = .arrayClass ty)
theorem gcons {ws : List Cond} {w : Cond} (h : GW w) (t : GoodIn wsL_law ws) : GoodIn wsL_law (w :: ws) := fun x hx => (List.mem_cons.mp hx).elim (fun e => e ▸ h) (t x)
theorem gnil {big : List Cond} : GoodIn big [] := fun x hx => absurd hx List.not_mem_nil
set_option maxRecDepth 20000 in
theorem GR1 : GoodIn wsL_law wsL_law_r1 := goodIn_sub (fun w h => (List.mem_append_left _ (List.mem_append_left _ (List.mem_append_left _ (List.mem_append_left _ (List.mem_append_left _ (List.mem_append_left _ (List.mem_append_left _ (List.mem_append_left _ (List.mem_append_left _ (List.mem_append_left _ (List.mem_append_left _ (List.mem_append_left _ (List.mem_append_left _ (List.mem_append_left _ h))))))))))))))) (by decide +kernel)
set_option maxRecDepth 20000 in
theorem GR2 : GoodIn wsL_law wsL_law_r2 := goodIn_sub (fun w h => (List.mem_append_left _ (List.mem_append_left _ (List.mem_append_left _ (List.mem_append_left _ (List.mem_append_left _ (List.mem_append_left _ (List.mem_append_left _ (List.mem_append_left _ (List.mem_append_left _ (List.mem_append_left _ (List.mem_append_left _ (List.mem_append_left _ (List.mem_append_left _ (List.mem_append_right _ (List.mem_append_left _ h)))))))))))))))) (by decide +kernel)
set_option maxRecDepth 20000 in
theorem GR3 : GoodIn wsL_law wsL_law_r3 := goodIn_sub (fun w h => (List.mem_append_left _ (List.mem_append_left _ (List.mem_append_left _ (List.mem_append_left _ (List.mem_append_left _ (List.mem_append_left _ (List.mem_append_left _ (List.mem_append_left _ (List.mem_append_left _ (List.mem_append_left _ (List.mem_append_left _ (List.mem_append_left _ (List.mem_append_left _ (List.mem_append_right _ (List.mem_append_right _ (List.mem_append_left _ h))))))))))))))))) (by decide +kernel)
set_option maxRecDepth 20000 in
theorem GR4 : GoodIn wsL_law wsL_law_r4 := goodIn_sub (fun w h => (List.mem_append_left _ (List.mem_append_left _ (List.mem_append_left _ (List.mem_append_left _ (List.mem_append_left _ (List.mem_append_left _ (List.mem_append_left _ (List.mem_append_left _ (List.mem_append_left _ (List.mem_append_left _ (List.mem_append_left _ (List.mem_append_left _ (List.mem_append_left _ (List.mem_append_right _ (List.mem_append_right _ (List.mem_append_right _ (List.mem_append_left _ h)))))))))))))))))) (by decide +kernel)
set_option maxRecDepth 20000 in
theorem GR5 : GoodIn wsL_law wsL_law_r5 := goodIn_sub (fun w h => (List.mem_append_left _ (List.mem_append_left _ (List.mem_append_left _ (List.mem_append_left _ (List.mem_append_left _ (List.mem_append_left _ (List.mem_append_left _ (List.mem_append_left _ (List.mem_append_left _ (List.mem_append_left _ (List.mem_append_left _ (List.mem_append_left _ (List.mem_append_left _ (List.mem_append_right _ (List.mem_append_right _ (List.mem_append_right _ (List.mem_append_right _ (List.mem_append_left _ h))))))))))))))))))) (by decide +kernel)
set_option maxRecDepth 20000 in
theorem GR6 : GoodIn wsL_law wsL_law_r6 := goodIn_sub (fun w h => (List.mem_append_left _ (List.mem_append_left _ (List.mem_append_left _ (List.mem_append_left _ (List.mem_append_left _ (List.mem_append_left _ (List.mem_append_left _ (List.mem_append_left _ (List.mem_append_left _ (List.mem_append_left _ (List.mem_append_left _ (List.mem_append_left _ (List.mem_append_left _ (List.mem_append_right _ (List.mem_append_right _ (List.mem_append_right _ (List.mem_append_right _ (List.mem_append_right _ (List.mem_append_left _ h)))))))))))))))))))) (by decide +kernel)
set_option maxRecDepth 20000 in
theorem GR7 : GoodIn wsL_law wsL_law_r7 := goodIn_sub (fun w h => (List.mem_append_left _ (List.mem_append_left _ (List.mem_append_left _ (List.mem_append_left _ (List.mem_append_left _ (List.mem_append_left _ (List.mem_append_left _ (List.mem_append_left _ (List.mem_append_left _ (List.mem_append_left _ (List.mem_append_left _ (List.mem_append_left _ (List.mem_append_left _ (List.mem_append_right _ (List.mem_append_right _ (List.mem_append_right _ (List.mem_append_right _ (List.mem_append_right _ (List.mem_append_right _ (List.mem_append_left _ h))))))))))))))))))))) (by decide +kernel)
set_option maxRecDepth 20000 in
theorem GR8 : GoodIn wsL_law wsL_law_r8 := goodIn_sub (fun w h => (List.mem_append_left _ (List.mem_append_left _ (List.mem_append_left _ (List.mem_append_left _ (List.mem_append_left _ (List.mem_append_left _ (List.mem_append_left _ (List.mem_append_left _ (List.mem_append_left _ (List.mem_append_left _ (List.mem_append_left _ (List.mem_append_left _ (List.mem_append_left _ (List.mem_append_right _ (List.mem_append_right _ (List.mem_append_right _ (List.mem_append_right _ (List.mem_append_right _ (List.mem_append_right _ (List.mem_append_right _ (List.mem_append_left _ h)))))))))))))))))))))) (by decide +kernel)
set_option maxRecDepth 20000 in
theorem GR9 : GoodIn wsL_law wsL_law_r9 := goodIn_sub (fun w h => (List.mem_append_left _ (List.mem_append_left _ (List.mem_append_left _ (List.mem_append_left _ (List.mem_append_left _ (List.mem_append_left _ (List.mem_append_left _ (List.mem_append_left _ (List.mem_append_left _ (List.mem_append_left _ (List.mem_append_left _ (List.mem_append_left _ (List.mem_append_left _ (List.mem_append_right _ (List.mem_append_right _ (List.mem_append_right _ (List.mem_append_right _ (List.mem_append_right _ (List.mem_append_right _ (List.mem_append_right _ (List.mem_append_right _ (List.mem_append_left _ h))))))))))))))))))))))) (by decide +kernel)
set_option maxRecDepth 20000 in
theorem GR10 : GoodIn wsL_law wsL_law_r10 := goodIn_sub (fun w h => (List.mem_append_left _ (List.mem_append_left _ (List.mem_append_left _ (List.mem_append_left _ (List.mem_append_left _ (List.mem_append_left _ (List.mem_append_left _ (List.mem_append_left _ (List.mem_append_left _ (List.mem_append_left _ (List.mem_append_left _ (List.mem_append_left _ (List.mem_append_left _ (List.mem_append_right _ (List.mem_append_right _ (List.mem_append_right _ (List.mem_append_right _ (List.mem_append_right _ (List.mem_append_right _ (List.mem_append_right _ (List.mem_append_right _ (List.mem_append_right _ (List.mem_append_left _ h)))))))))))))))))))))))) (by decide +kernel)
set_option maxRecDepth 20000 in
theorem GR11 : GoodIn wsL_law wsL_law_r11 := goodIn_sub (fun w h => (List.mem_append_left _ (List.mem_append_left _ (List.mem_append_left _ (List.mem_append_left _ (List.mem_append_left _ (List.mem_append_left _ (List.mem_append_left _ (List.mem_append_left _ (List.mem_append_left _ (List.mem_append_left _ (List.mem_append_left _ (List.mem_append_left _ (List.mem_append_left _ (List.mem_append_right _ (List.mem_append_right _ (List.mem_append_right _ (List.mem_append_right _ (List.mem_append_right _ (List.mem_append_right _ (List.mem_append_right _ (List.mem_append_right _ (List.mem_append_right _ (List.mem_append_right _ (List.mem_append_left _ h))))))))))))))))))))))))) (by decide +kernel)
set_option maxRecDepth 20000 in
theorem GR12 : GoodIn wsL_law wsL_law_r12 := goodIn_sub (fun w h => (List.mem_append_left _ (List.mem_append_left _ (List.mem_append_left _ (List.mem_append_left _ (List.mem_append_left _ (List.mem_append_left _ (List.mem_append_left _ (List.mem_append_left _ (List.mem_append_left _ (List.mem_append_left _ (List.mem_append_left _ (List.mem_append_left _ (List.mem_append_left _ (List.mem_append_right _ (List.mem_append_right _ (List.mem_append_right _ (List.mem_append_right _ (List.mem_append_right _ (List.mem_append_right _ (List.mem_append_right _ (List.mem_append_right _ (List.mem_append_right _ (List.mem_append_right _ (List.mem_append_right _ (List.mem_append_left _ h)))))))))))))))))))))))))) (by decide +kernel)
set_option maxRecDepth 20000 in
theorem GR13 : GoodIn wsL_law wsL_law_r13 := goodIn_sub (fun w h => (List.mem_append_left _ (List.mem_append_left _ (List.mem_append_left _ (List.mem_append_left _ (List.mem_append_left _ (List.mem_append_left _ (List.mem_append_left _ (List.mem_append_left _ (List.mem_append_left _ (List.mem_append_left _ (List.mem_append_left _ (List.mem_append_left _ (List.mem_append_left _ (List.mem_append_right _ (List.mem_append_right _ (List.mem_append_right _ (List.mem_append_right _ (List.mem_append_right _ (List.mem_append_right _ (List.mem_append_right _ (List.mem_append_right _ (List.mem_append_right _ (List.mem_append_right _ (List.mem_append_right _ (List.mem_append_right _ (List.mem_append_left _ h))))))))))))))))))))))))))) (by decide +kernel)
set_option maxRecDepth 20000 in
theorem GR14 : GoodIn wsL_law wsL_law_r14 := goodIn_sub (fun w h => (List.mem_append_left _ (List.mem_append_left _ (List.mem_append_left _ (List.mem_append_left _ (List.mem_append_left _ (List.mem_append_left _ (List.mem_append_left _ (List.mem_append_left _ (List.mem_append_left _ (List.mem_append_left _ (List.mem_append_left _ (List.mem_append_left _ (List.mem_append_left _ (List.mem_append_right _ (List.mem_append_right _ (List.mem_append_right _ (List.mem_append_right _ (List.mem_append_right _ (List.mem_append_right _ (List.mem_append_right _ (List.mem_append_right _ (List.mem_append_right _ (List.mem_append_right _ (List.mem_append_right _ (List.mem_append_right _ (List.mem_append_right _ (List.mem_append_left _ h)))))))))))))))))))))))))))) (by decide +kernel)
set_option maxRecDepth 20000 in
theorem GR15 : GoodIn wsL_law wsL_law_r15 := goodIn_sub (fun w h => (List.mem_append_left _ (List.mem_append_left _ (List.mem_append_left _ (List.mem_append_left _ (List.mem_append_left _ (List.mem_append_left _ (List.mem_append_left _ (List.mem_append_left _ (List.mem_append_left _ (List.mem_append_left _ (List.mem_append_left _ (List.mem_append_left _ (List.mem_append_left _ (List.mem_append_right _ (List.mem_append_right _ (List.mem_append_right _ (List.mem_append_right _ (List.mem_append_right _ (List.mem_append_right _ (List.mem_append_right _ (List.mem_append_right _ (List.mem_append_right _ (List.mem_append_right _ (List.mem_append_right _ (List.mem_append_right _ (List.mem_append_right _ (List.mem_append_right _ (List.mem_append_left _ h))))))))))))))))))))))))))))) (by decide +kernel)
set_option maxRecDepth 20000 in
theorem GR16 : GoodIn wsL_law wsL_law_r16 := goodIn_sub (fun w h => (List.mem_append_left _ (List.mem_append_left _ (List.mem_append_left _ (List.mem_append_left _ (List.mem_append_left _ (List.mem_append_left _ (List.mem_append_left _ (List.mem_append_left _ (List.mem_append_left _ (List.mem_append_left _ (List.mem_append_left _ (List.mem_append_left _ (List.mem_append_left _ (List.mem_append_right _ (List.mem_append_right _ (List.mem_append_right _ (List.mem_append_right _ (List.mem_append_right _ (List.mem_append_right _ (List.mem_append_right _ (List.mem_append_right _ (List.mem_append_right _ (List.mem_append_right _ (List.mem_append_right _ (List.mem_append_right _ (List.mem_append_right _ (List.mem_append_right _ (List.mem_append_right _ (List.mem_append_left _ h)))))))))))))))))))))))))))))) (by decide +kernel)
set_option maxRecDepth 20000 in
theorem GR17 : GoodIn wsL_law wsL_law_r17 := goodIn_sub (fun w h => (List.mem_append_left _ (List.mem_append_left _ (List.mem_append_left _ (List.mem_append_left _ (List.mem_append_left _ (List.mem_append_left _ (List.mem_append_left _ (List.mem_append_left _ (List.mem_append_left _ (List.mem_append_left _ (List.mem_append_left _ (List.mem_append_left _ (List.mem_append_left _ (List.mem_append_right _ (List.mem_append_right _ (List.mem_append_right _ (List.mem_append_right _ (List.mem_append_right _ (List.mem_append_right _ (List.mem_append_right _ (List.mem_append_right _ (List.mem_append_right _ (List.mem_append_right _ (List.mem_append_right _ (List.mem_append_right _ (List.mem_append_right _ (List.mem_append_right _ (List.mem_append_right _ (List.mem_append_right _ (List.mem_append_left _ h))))))))))))))))))))))))))))))) (by decide +kernel)
set_option maxRecDepth 20000 in
theorem GR18 : GoodIn wsL_law wsL_law_r18 := goodIn_sub (fun w h => (List.mem_append_left _ (List.mem_append_left _ (List.mem_append_left _ (List.mem_append_left _ (List.mem_append_left _ (List.mem_append_left _ (List.mem_append_left _ (List.mem_append_left _ (List.mem_append_left _ (List.mem_append_left _ (List.mem_append_left _ (List.mem_append_left _ (List.mem_append_left _ (List.mem_append_right _ (List.mem_append_right _ (List.mem_append_right _ (List.mem_append_right _ (List.mem_append_right _ (List.mem_append_right _ (List.mem_append_right _ (List.mem_append_right _ (List.mem_append_right _ (List.mem_append_right _ (List.mem_append_right _ (List.mem_append_right _ (List.mem_append_right _ (List.mem_append_right _ (List.mem_append_right _ (List.mem_append_right _ (List.mem_append_right _ (List.mem_append_left _ h)))))))))))))))))))))))))))))))) (by decide +kernel)
set_option maxRecDepth 20000 in
theorem GR19 : GoodIn wsL_law wsL_law_r19 := goodIn_sub (fun w h => (List.mem_append_left _ (List.mem_append_left _ (List.mem_append_left _ (List.mem_append_left _ (List.mem_append_left _ (List.mem_append_left _ (List.mem_append_left _ (List.mem_append_left _ (List.mem_append_left _ (List.mem_append_left _ (List.mem_append_left _ (List.mem_append_left _ (List.mem_append_left _ (List.mem_append_right _ (List.mem_append_right _ (List.mem_append_right _ (List.mem_append_right _ (List.mem_append_right _ (List.mem_append_right _ (List.mem_append_right _ (List.mem_append_right _ (List.mem_append_right _ (List.mem_append_right _ (List.mem_append_right _ (List.mem_append_right _ (List.mem_append_right _ (List.mem_append_right _ (List.mem_append_right _ (List.mem_append_right _ (List.mem_append_right _ (List.mem_append_right _ (List.mem_append_left _ h))))))))))))))))))))))))))))))))) (by decide +kernel)
set_option maxRecDepth 20000 in
theorem GR20 : GoodIn wsL_law wsL_law_r20 := goodIn_sub (fun w h => (List.mem_append_left _ (List.mem_append_left _ (List.mem_append_left _ (List.mem_append_left _ (List.mem_append_left _ (List.mem_append_left _ (List.mem_append_left _ (List.mem_append_left _ (List.mem_append_left _ (List.mem_append_left _ (List.mem_append_left _ (List.mem_append_left _ (List.mem_append_left _ (List.mem_append_right _ (List.mem_append_right _ (List.mem_append_right _ (List.mem_append_right _ (List.mem_append_right _ (List.mem_append_right _ (List.mem_append_right _ (List.mem_append_right _ (List.mem_append_right _ (List.mem_append_right _ (List.mem_append_right _ (List.mem_append_right _ (List.mem_append_right _ (List.mem_append_right _ (List.mem_append_right _ (List.mem_append_right _ (List.mem_append_right _ (List.mem_append_right _ (List.mem_append_right _ (List.mem_append_left _ h)))))))))))))))))))))))))))))))))) (by decide +kernel)
set_option maxRecDepth 20000 in
theorem GR21 : GoodIn wsL_law wsL_law_r21 := goodIn_sub (fun w h => (List.mem_append_left _ (List.mem_append_left _ (List.mem_append_left _ (List.mem_append_left _ (List.mem_append_left _ (List.mem_append_left _ (List.mem_append_left _ (List.mem_append_left _ (List.mem_append_left _ (List.mem_append_left _ (List.mem_append_left _ (List.mem_append_left _ (List.mem_append_left _ (List.mem_append_right _ (List.mem_append_right _ (List.mem_append_right _ (List.mem_append_right _ (List.mem_append_right _ (List.mem_append_right _ (List.mem_append_right _ (List.mem_append_right _ (List.mem_append_right _ (List.mem_append_right _ (List.mem_append_right _ (List.mem_append_right _ (List.mem_append_right _ (List.mem_append_right _ (List.mem_append_right _ (List.mem_append_right _ (List.mem_append_right _ (List.mem_append_right _ (List.mem_append_right _ (List.mem_append_right _ (List.mem_append_left _ h))))))))))))))))))))))))))))))))))) (by decide +kernel)
set_option maxRecDepth 20000 in
theorem GR22 : GoodIn wsL_law wsL_law_r22 := goodIn_sub (fun w h => (List.mem_append_left _ (List.mem_append_left _ (List.mem_append_left _ (List.mem_append_left _ (List.mem_append_left _ (List.mem_append_left _ (List.mem_append_left _ (List.mem_append_left _ (List.mem_append_left _ (List.mem_append_left _ (List.mem_append_left _ (List.mem_append_left _ (List.mem_append_left _ (List.mem_append_right _ (List.mem_append_right _ (List.mem_append_right _ (List.mem_append_right _ (List.mem_append_right _ (List.mem_append_right _ (List.mem_append_right _ (List.mem_append_right _ (List.mem_append_right _ (List.mem_append_right _ (List.mem_append_right _ (List.mem_append_right _ (List.mem_append_right _ (List.mem_append_right _ (List.mem_append_right _ (List.mem_append_right _ (List.mem_append_right _ (List.mem_append_right _ (List.mem_append_right _ (List.mem_append_right _ (List.mem_append_right _ (List.mem_append_left _ h)))))))))))))))))))))))))))))))))))) (by decide +kernel)
set_option maxRecDepth 20000 in
theorem GR23 : GoodIn wsL_law wsL_law_r23 := goodIn_sub (fun w h => (List.mem_append_left _ (List.mem_append_left _ (List.mem_append_left _ (List.mem_append_left _ (List.mem_append_left _ (List.mem_append_left _ (List.mem_append_left _ (List.mem_append_left _ (List.mem_append_left _ (List.mem_append_left _ (List.mem_append_left _ (List.mem_append_left _ (List.mem_append_left _ (List.mem_append_right _ (List.mem_append_right _ (List.mem_append_right _ (List.mem_append_right _ (List.mem_append_right _ (List.mem_append_right _ (List.mem_append_right _ (List.mem_append_right _ (List.mem_append_right _ (List.mem_append_right _ (List.mem_append_right _ (List.mem_append_right _ (List.mem_append_right _ (List.mem_append_right _ (List.mem_append_right _ (List.mem_append_right _ (List.mem_append_right _ (List.mem_append_right _ (List.mem_append_right _ (List.mem_append_right _ (List.mem_append_right _ (List.mem_append_right _ (List.mem_append_left _ h))))))))))))))))))))))))))))))))))))) (by decide +kernel)
set_option maxRecDepth 20000 in
theorem GR24 : GoodIn wsL_law wsL_law_r24 := goodIn_sub (fun w h => (List.mem_append_left _ (List.mem_append_left _ (List.mem_append_left _ (List.mem_append_left _ (List.mem_append_left _ (List.mem_append_left _ (List.mem_append_left _ (List.mem_append_left _ (List.mem_append_left _ (List.mem_append_left _ (List.mem_append_left _ (List.mem_append_left _ (List.mem_append_left _ (List.mem_append_right _ (List.mem_append_right _ (List.mem_append_right _ (List.mem_append_right _ (List.mem_append_right _ (List.mem_append_right _ (List.mem_append_right _ (List.mem_append_right _ (List.mem_append_right _ (List.mem_append_right _ (List.mem_append_right _ (List.mem_append_right _ (List.mem_append_right _ (List.mem_append_right _ (List.mem_append_right _ (List.mem_append_right _ (List.mem_append_right _ (List.mem_append_right _ (List.mem_append_right _ (List.mem_append_right _ (List.mem_append_right _ (List.mem_append_right _ (List.mem_append_right _ (List.mem_append_left _ h)))))))))))))))))))))))))))))))))))))) (by decide +kernel)
set_option maxRecDepth 20000 in
theorem GR25 : GoodIn wsL_law wsL_law_r25 := goodIn_sub (fun w h => (List.mem_append_left _ (List.mem_append_left _ (List.mem_append_left _ (List.mem_append_left _ (List.mem_append_left _ (List.mem_append_left _ (List.mem_append_left _ (List.mem_append_left _ (List.mem_append_left _ (List.mem_append_left _ (List.mem_append_left _ (List.mem_append_left _ (List.mem_append_left _ (List.mem_append_right _ (List.mem_append_right _ (List.mem_append_right _ (List.mem_append_right _ (List.mem_append_right _ (List.mem_append_right _ (List.mem_append_right _ (List.mem_append_right _ (List.mem_append_right _ (List.mem_append_right _ (List.mem_append_right _ (List.mem_append_right _ (List.mem_append_right _ (List.mem_append_right _ (List.mem_append_right _ (List.mem_append_right _ (List.mem_append_right _ (List.mem_append_right _ (List.mem_append_right _ (List.mem_append_right _ (List.mem_append_right _ (List.mem_append_right _ (List.mem_append_right _ (List.mem_append_right _ (List.mem_append_left _ h))))))))))))))))))))))))))))))))))))))) (by decide +kernel)
set_option maxRecDepth 20000 in
theorem GR26 : GoodIn wsL_law wsL_law_r26 := goodIn_sub (fun w h => (List.mem_append_left _ (List.mem_append_left _ (List.mem_append_left _ (List.mem_append_left _ (List.mem_append_left _ (List.mem_append_left _ (List.mem_append_left _ (List.mem_append_left _ (List.mem_append_left _ (List.mem_append_left _ (List.mem_append_left _ (List.mem_append_left _ (List.mem_append_left _ (List.mem_append_right _ (List.mem_append_right _ (List.mem_append_right _ (List.mem_append_right _ (List.mem_append_right _ (List.mem_append_right _ (List.mem_append_right _ (List.mem_append_right _ (List.mem_append_right _ (List.mem_append_right _ (List.mem_append_right _ (List.mem_append_right _ (List.mem_append_right _ (List.mem_append_right _ (List.mem_append_right _ (List.mem_append_right _ (List.mem_append_right _ (List.mem_append_right _ (List.mem_append_right _ (List.mem_append_right _ (List.mem_append_right _ (List.mem_append_right _ (List.mem_append_right _ (List.mem_append_right _ (List.mem_append_right _ (List.mem_append_left _ h)))))))))))))))))))))))))))))))))))))))) (by decide +kernel)
set_option maxRecDepth 20000 in
theorem GR27 : GoodIn wsL_law wsL_law_r27 := goodIn_sub (fun w h => (List.mem_append_left _ (List.mem_append_left _ (List.mem_append_left _ (List.mem_append_left _ (List.mem_append_left _ (List.mem_append_left _ (List.mem_append_left _ (List.mem_append_left _ (List.mem_append_left _ (List.mem_append_left _ (List.mem_append_left _ (List.mem_append_left _ (List.mem_append_left _ (List.mem_append_right _ (List.mem_append_right _ (List.mem_append_right _ (List.mem_append_right _ (List.mem_append_right _ (List.mem_append_right _ (List.mem_append_right _ (List.mem_append_right _ (List.mem_append_right _ (List.mem_append_right _ (List.mem_append_right _ (List.mem_append_right _ (List.mem_append_right _ (List.mem_append_right _ (List.mem_append_right _ (List.mem_append_right _ (List.mem_append_right _ (List.mem_append_right _ (List.mem_append_right _ (List.mem_append_right _ (List.mem_append_right _ (List.mem_append_right _ (List.mem_append_right _ (List.mem_append_right _ (List.mem_append_right _ (List.mem_append_right _ (List.mem_append_left _ h))))))))))))))))))))))))))))))))))))))))) (by decide +kernel)
set_option maxRecDepth 20000 in
theorem GR28 : GoodIn wsL_law wsL_law_r28 := goodIn_sub (fun w h => (List.mem_append_left _ (List.mem_append_left _ (List.mem_append_left _ (List.mem_append_left _ (List.mem_append_left _ (List.mem_append_left _ (List.mem_append_left _ (List.mem_append_left _ (List.mem_append_left _ (List.mem_append_left _ (List.mem_append_left _ (List.mem_append_left _ (List.mem_append_left _ (List.mem_append_right _ (List.mem_append_right _ (List.mem_append_right _ (List.mem_append_right _ (List.mem_append_right _ (List.mem_append_right _ (List.mem_append_right _ (List.mem_append_right _ (List.mem_append_right _ (List.mem_append_right _ (List.mem_append_right _ (List.mem_append_right _ (List.mem_append_right _ (List.mem_append_right _ (List.mem_append_right _ (List.mem_append_right _ (List.mem_append_right _ (List.mem_append_right _ (List.mem_append_right _ (List.mem_append_right _ (List.mem_append_right _ (List.mem_append_right _ (List.mem_append_right _ (List.mem_append_right _ (List.mem_append_right _ (List.mem_append_right _ (List.mem_append_right _ (List.mem_append_left _ h)))))))))))))))))))))))))))))))))))))))))) (by decide +kernel)
set_option maxRecDepth 20000 in
theorem GR29 : GoodIn wsL_law wsL_law_r29 := goodIn_sub (fun w h => (List.mem_append_left _ (List.mem_append_left _ (List.mem_append_left _ (List.mem_append_left _ (List.mem_append_left _ (List.mem_append_left _ (List.mem_append_left _ (List.mem_append_left _ (List.mem_append_left _ (List.mem_append_left _ (List.mem_append_left _ (List.mem_append_left _ (List.mem_append_left _ (List.mem_append_right _ (List.mem_append_right _ (List.mem_append_right _ (List.mem_append_right _ (List.mem_append_right _ (List.mem_append_right _ (List.mem_append_right _ (List.mem_append_right _ (List.mem_append_right _ (List.mem_append_right _ (List.mem_append_right _ (List.mem_append_right _ (List.mem_append_right _ (List.mem_append_right _ (List.mem_append_right _ (List.mem_append_right _ (List.mem_append_right _ (List.mem_append_right _ (List.mem_append_right _ (List.mem_append_right _ (List.mem_append_right _ (List.mem_append_right _ (List.mem_append_right _ (List.mem_append_right _ (List.mem_append_right _ (List.mem_append_right _ (List.mem_append_right _ (List.mem_append_right _ (List.mem_append_left _ h))))))))))))))))))))))))))))))))))))))))))) (by decide +kernel)
set_option maxRecDepth 20000 in
theorem GR30 : GoodIn wsL_law wsL_law_r30 := goodIn_sub (fun w h => (List.mem_append_left _ (List.mem_append_left _ (List.mem_append_left _ (List.mem_append_left _ (List.mem_append_left _ (List.mem_append_left _ (List.mem_append_left _ (List.mem_append_left _ (List.mem_append_left _ (List.mem_append_left _ (List.mem_append_left _ (List.mem_append_left _ (List.mem_append_left _ (List.mem_append_right _ (List.mem_append_right _ (List.mem_append_right _ (List.mem_append_right _ (List.mem_append_right _ (List.mem_append_right _ (List.mem_append_right _ (List.mem_append_right _ (List.mem_append_right _ (List.mem_append_right _ (List.mem_append_right _ (List.mem_append_right _ (List.mem_append_right _ (List.mem_append_right _ (List.mem_append_right _ (List.mem_append_right _ (List.mem_append_right _ (List.mem_append_right _ (List.mem_append_right _ (List.mem_append_right _ (List.mem_append_right _ (List.mem_append_right _ (List.mem_append_right _ (List.mem_append_right _ (List.mem_append_right _ (List.mem_append_right _ (List.mem_append_right _ (List.mem_append_right _ (List.mem_append_right _ (List.mem_append_left _ h)))))))))))))))))))))))))))))))))))))))))))) (by decide +kernel)
set_option maxRecDepth 20000 in
theorem GR31 : GoodIn wsL_law wsL_law_r31 := goodIn_sub (fun w h => (List.mem_append_left _ (List.mem_append_left _ (List.mem_append_left _ (List.mem_append_left _ (List.mem_append_left _ (List.mem_append_left _ (List.mem_append_left _ (List.mem_append_left _ (List.mem_append_left _ (List.mem_append_left _ (List.mem_append_left _ (List.mem_append_left _ (List.mem_append_left _ (List.mem_append_right _ (List.mem_append_right _ (List.mem_append_right _ (List.mem_append_right _ (List.mem_append_right _ (List.mem_append_right _ (List.mem_append_right _ (List.mem_append_right _ (List.mem_append_right _ (List.mem_append_right _ (List.mem_append_right _ (List.mem_append_right _ (List.mem_append_right _ (List.mem_append_right _ (List.mem_append_right _ (List.mem_append_right _ (List.mem_append_right _ (List.mem_append_right _ (List.mem_append_right _ (List.mem_append_right _ (List.mem_append_right _ (List.mem_append_right _ (List.mem_append_right _ (List.mem_append_right _ (List.mem_append_right _ (List.mem_append_right _ (List.mem_append_right _ (List.mem_append_right _ (List.mem_append_right _ (List.mem_append_right _ (List.mem_append_left _ h))))))))))))))))))))))))))))))))))))))))))))) (by decide +kernel)
set_option maxRecDepth 20000 in
theorem GR32 : GoodIn wsL_law wsL_law_r32 := goodIn_sub (fun w h => (List.mem_append_left _ (List.mem_append_left _ (List.mem_append_left _ (List.mem_append_left _ (List.mem_append_left _ (List.mem_append_left _ (List.mem_append_left _ (List.mem_append_left _ (List.mem_append_left _ (List.mem_append_left _ (List.mem_append_left _ (List.mem_append_left _ (List.mem_append_left _ (List.mem_append_right _ (List.mem_append_right _ (List.mem_append_right _ (List.mem_append_right _ (List.mem_append_right _ (List.mem_append_right _ (List.mem_append_right _ (List.mem_append_right _ (List.mem_append_right _ (List.mem_append_right _ (List.mem_append_right _ (List.mem_append_right _ (List.mem_append_right _ (List.mem_append_right _ (List.mem_append_right _ (List.mem_append_right _ (List.mem_append_right _ (List.mem_append_right _ (List.mem_append_right _ (List.mem_append_right _ (List.mem_append_right _ (List.mem_append_right _ (List.mem_append_right _ (List.mem_append_right _ (List.mem_append_right _ (List.mem_append_right _ (List.mem_append_right _ (List.mem_append_right _ (List.mem_append_right _ (List.mem_append_right _ (List.mem_append_right _ (List.mem_append_left _ h)))))))))))))))))))))))))))))))))))))))))))))) (by decide +kernel)
set_option maxRecDepth 20000 in
theorem GR33 : GoodIn wsL_law wsL_law_r33 := goodIn_sub (fun w h => (List.mem_append_left _ (List.mem_append_left _ (List.mem_append_left _ (List.mem_append_left _ (List.mem_append_left _ (List.mem_append_left _ (List.mem_append_left _ (List.mem_append_left _ (List.mem_append_left _ (List.mem_append_left _ (List.mem_append_left _ (List.mem_append_left _ (List.mem_append_left _ (List.mem_append_right _ (List.mem_append_right _ (List.mem_append_right _ (List.mem_append_right _ (List.mem_append_right _ (List.mem_append_right _ (List.mem_append_right _ (List.mem_append_right _ (List.mem_append_right _ (List.mem_append_right _ (List.mem_append_right _ (List.mem_append_right _ (List.mem_append_right _ (List.mem_append_right _ (List.mem_append_right _ (List.mem_append_right _ (List.mem_append_right _ (List.mem_append_right _ (List.mem_append_right _ (List.mem_append_right _ (List.mem_append_right _ (List.mem_append_right _ (List.mem_append_right _ (List.mem_append_right _ (List.mem_append_right _ (List.mem_append_right _ (List.mem_append_right _ (List.mem_append_right _ (List.mem_append_right _ (List.mem_append_right _ (List.mem_append_right _ (List.mem_append_right _ (List.mem_append_left _ h))))))))))))))))))))))))))))))))))))))))))))))) (by decide +kernel)
set_option maxRecDepth 20000 in
theorem GR34 : GoodIn wsL_law wsL_law_r34 := goodIn_sub (fun w h => (List.mem_append_left _ (List.mem_append_left _ (List.mem_append_left _ (List.mem_append_left _ (List.mem_append_left _ (List.mem_append_left _ (List.mem_append_left _ (List.mem_append_left _ (List.mem_append_left _ (List.mem_append_left _ (List.mem_append_left _ (List.mem_append_left _ (List.mem_append_left _ (List.mem_append_right _ (List.mem_append_right _ (List.mem_append_right _ (List.mem_append_right _ (List.mem_append_right _ (List.mem_append_right _ (List.mem_append_right _ (List.mem_append_right _ (List.mem_append_right _ (List.mem_append_right _ (List.mem_append_right _ (List.mem_append_right _ (List.mem_append_right _ (List.mem_append_right _ (List.mem_append_right _ (List.mem_append_right _ (List.mem_append_right _ (List.mem_append_right _ (List.mem_append_right _ (List.mem_append_right _ (List.mem_append_right _ (List.mem_append_right _ (List.mem_append_right _ (List.mem_append_right _ (List.mem_append_right _ (List.mem_append_right _ (List.mem_append_right _ (List.mem_append_right _ (List.mem_append_right _ (List.mem_append_right _ (List.mem_append_right _ (List.mem_append_right _ (List.mem_append_right _ h))))))))))))))))))))))))))))))))))))))))))))))) (by decide +kernel)
set_option maxRecDepth 20000 in
theorem GTwsX100 : GoodIn wsL_law wsX100 := goodIn_sub (fun w h => (List.mem_append_left _ (List.mem_append_left _ (List.mem_append_left _ (List.mem_append_left _ (List.mem_append_left _ (List.mem_append_left _ (List.mem_append_left _ (List.mem_append_left _ (List.mem_append_left _ (List.mem_append_left _ (List.mem_append_left _ (List.mem_append_left _ (List.mem_append_right _ h)))))))))))))) (by decide +kernel)
set_option maxRecDepth 20000 in
theorem GTwsX110 : GoodIn wsL_law wsX110 := goodIn_sub (fun w h => (List.mem_append_left _ (List.mem_append_left _ (List.mem_append_left _ (List.mem_append_left _ (List.mem_append_left _ (List.mem_append_left _ (List.mem_append_left _ (List.mem_append_left _ (List.mem_append_left _ (List.mem_append_left _ (List.mem_append_left _ (List.mem_append_right _ h))))))))))))) (by decide +kernel)
set_option maxRecDepth 20000 in
theorem GTwsX80 : GoodIn wsL_law wsX80 := goodIn_sub (fun w h => (List.mem_append_left _ (List.mem_append_left _ (List.mem_append_left _ (List.mem_append_left _ (List.mem_append_left _ (List.mem_append_left _ (List.mem_append_left _ (List.mem_append_left _ (List.mem_append_left _ (List.mem_append_left _ (List.mem_append_right _ h)))))))))))) (by decide +kernel)
set_option maxRecDepth 20000 in
theorem GTwsX40 : GoodIn wsL_law wsX40 := goodIn_sub (fun w h => (List.mem_append_left _ (List.mem_append_left _ (List.mem_append_left _ (List.mem_append_left _ (List.mem_append_left _ (List.mem_append_left _ (List.mem_append_left _ (List.mem_append_left _ (List.mem_append_left _ (List.mem_append_right _ h))))))))))) (by decide +kernel)
set_option maxRecDepth 20000 in
theorem GTwsX00 : GoodIn wsL_law wsX00 := goodIn_sub (fun w h => (List.mem_append_left _ (List.mem_append_left _ (List.mem_append_left _ (List.mem_append_left _ (List.mem_append_left _ (List.mem_append_left _ (List.mem_append_left _ (List.mem_append_left _ (List.mem_append_right _ h)))))))))) (by decide +kernel)
set_option maxRecDepth 20000 in
theorem GTwsX60 : GoodIn wsL_law wsX60 := goodIn_sub (fun w h => (List.mem_append_left _ (List.mem_append_left _ (List.mem_append_left _ (List.mem_append_left _ (List.mem_append_left _ (List.mem_append_left _ (List.mem_append_left _ (List.mem_append_right _ h))))))))) (by decide +kernel)
set_option maxRecDepth 20000 in
theorem GTwsX50 : GoodIn wsL_law wsX50 := goodIn_sub (fun w h => (List.mem_append_left _ (List.mem_append_left _ (List.mem_append_left _ (List.mem_append_left _ (List.mem_append_left _ (List.mem_append_left _ (List.mem_append_right _ h)))))))) (by decide +kernel)
set_option maxRecDepth 20000 in
theorem GTwsX70 : GoodIn wsL_law wsX70 := goodIn_sub (fun w h => (List.mem_append_left _ (List.mem_append_left _ (List.mem_append_left _ (List.mem_append_left _ (List.mem_append_left _ (List.mem_append_right _ h))))))) (by decide +kernel)
set_option maxRecDepth 20000 in
theorem GTwsX10 : GoodIn wsL_law wsX10 := goodIn_sub (fun w h => (List.mem_append_left _ (List.mem_append_left _ (List.mem_append_left _ (List.mem_append_left _ (List.mem_append_right _ h)))))) (by decide +kernel)
set_option maxRecDepth 20000 in
theorem GTwsX90 : GoodIn wsL_law wsX90 := goodIn_sub (fun w h => (List.mem_append_left _ (List.mem_append_left _ (List.mem_append_left _ (List.mem_append_right _ h))))) (by decide +kernel)
set_option maxRecDepth 20000 in
theorem GTwsX20 : GoodIn wsL_law wsX20 := goodIn_sub (fun w h => (List.mem_append_left _ (List.mem_append_left _ (List.mem_append_right _ h)))) (by decide +kernel)
set_option maxRecDepth 20000 in
theorem GTwsX30 : GoodIn wsL_law wsX30 := goodIn_sub (fun w h => (List.mem_append_left _ (List.mem_append_right _ h))) (by decide +kernel)
theorem G_2_8 : GW (Cond.initialized RX6) := GR2 _ (List.mem_of_getElem? (i := 8) rfl)
theorem G_2_7 : GW (Cond.instantiable RX6 0) := GR2 _ (List.mem_of_getElem? (i := 7) rfl)
theorem G_2_6 : GW (Cond.fieldLink RX10 46 "EachSecondStruck" "refusals" "[I") := GR2 _ (List.mem_of_getElem? (i := 6) rfl)
theorem G_2_5 : GW (Cond.fieldLink RX10 42 "EachSecondStruck" "toldOnes" "[I") := GR2 _ (List.mem_of_getElem? (i := 5) rfl)
theorem G_2_4 : GW (Cond.arrayClass .int) := GR2 _ (List.mem_of_getElem? (i := 4) rfl)
theorem G_2_3 : GW (Cond.fieldLink RX10 38 "EachSecondStruck" "endlessRow" "LEachSecondStruck$EndlessRow;") := GR2 _ (List.mem_of_getElem? (i := 3) rfl)
theorem G_2_2 : GW (Cond.initialized RX0) := GR2 _ (List.mem_of_getElem? (i := 2) rfl)
theorem G_2_1 : GW (Cond.instantiable RX0 1) := GR2 _ (List.mem_of_getElem? (i := 1) rfl)
theorem G_2_0 : GW (Cond.classLink RX10 35 RX0) := GR2 _ (List.mem_of_getElem? (i := 0) rfl)
theorem G_1_23 : GW (Cond.fieldLink RX10 31 "EachSecondStruck" "letters" "LEachSecondStruck$Letters;") := GR1 _ (List.mem_of_getElem? (i := 23) rfl)
theorem G_1_22 : GW (Cond.initialized RX4) := GR1 _ (List.mem_of_getElem? (i := 22) rfl)
theorem G_1_21 : GW (Cond.instantiable RX4 6) := GR1 _ (List.mem_of_getElem? (i := 21) rfl)
theorem G_1_20 : GW (Cond.classLink RX10 28 RX4) := GR1 _ (List.mem_of_getElem? (i := 20) rfl)
theorem G_1_19 : GW (Cond.fieldLink RX10 25 "EachSecondStruck" "kept" "LEachSecondStruck$Standing;") := GR1 _ (List.mem_of_getElem? (i := 19) rfl)
theorem G_1_18 : GW (Cond.fieldLink RX10 22 "EachSecondStruck" "mind" "LEachSecondStruck$Standing;") := GR1 _ (List.mem_of_getElem? (i := 18) rfl)
theorem G_1_17 : GW (Cond.fieldLink RX10 18 "EachSecondStruck" "now" "LEachSecondStruck$Standing;") := GR1 _ (List.mem_of_getElem? (i := 17) rfl)
theorem G_1_16 : GW (Cond.initialized RX8) := GR1 _ (List.mem_of_getElem? (i := 16) rfl)
theorem G_1_15 : GW (Cond.instantiable RX8 10) := GR1 _ (List.mem_of_getElem? (i := 15) rfl)
theorem G_1_14 : GW (Cond.classLink RX10 15 RX8) := GR1 _ (List.mem_of_getElem? (i := 14) rfl)
theorem G_1_13 : GW (Cond.fieldLink RX10 11 "EachSecondStruck" "strikers" "[LEachSecondStruck$Next;") := GR1 _ (List.mem_of_getElem? (i := 13) rfl)
theorem G_1_12 : GW (Cond.classLink RX10 9 RX6) := GR1 _ (List.mem_of_getElem? (i := 12) rfl)
theorem G_1_11 : GW (Cond.code objectInit ⟨#[0xb1]⟩ 1 none) := GR1 _ (List.mem_of_getElem? (i := 11) rfl)
theorem G_1_10 : GW (Cond.instanceMethod objectInit) := GR1 _ (List.mem_of_getElem? (i := 10) rfl)
theorem G_1_9 : GW (Cond.methodLink RX10 1 objectInit) := GR1 _ (List.mem_of_getElem? (i := 9) rfl)
theorem GB_wsX10_init_r1 : GoodIn wsL_law wsX10_init_r1 := (gcons G_1_9 (gcons G_1_10 (gcons G_1_11 (gcons G_1_12 (gcons G_1_13 (gcons G_1_14 (gcons G_1_15 (gcons G_1_16 (gcons G_1_17 (gcons G_1_18 (gcons G_1_19 (gcons G_1_20 (gcons G_1_21 (gcons G_1_22 (gcons G_1_23 (gcons G_2_0 (gcons G_2_1 (gcons G_2_2 (gcons G_2_3 (gcons G_2_4 (gcons G_2_5 (gcons G_2_6 (gcons G_2_7 (gcons G_2_8 gnil))))))))))))))))))))))))
theorem G_3_8 : GW (Cond.fieldLink RX8 15 "EachSecondStruck$Standing" "line" "[I") := GR3 _ (List.mem_of_getElem? (i := 8) rfl)
theorem G_3_7 : GW (Cond.fieldLink RX8 9 "EachSecondStruck$Standing" "steps" "[I") := GR3 _ (List.mem_of_getElem? (i := 7) rfl)
theorem G_3_6 : GW (Cond.methodLink RX8 3 objectInit) := GR3 _ (List.mem_of_getElem? (i := 6) rfl)
theorem G_3_5 : GW (Cond.code yX8_init cX8_init 1 none) := GR3 _ (List.mem_of_getElem? (i := 5) rfl)
theorem G_3_4 : GW (Cond.instanceMethod yX8_init) := GR3 _ (List.mem_of_getElem? (i := 4) rfl)
theorem G_3_3 : GW (Cond.fieldLink RX10 68 "EachSecondStruck$Standing" "figure" "I") := GR3 _ (List.mem_of_getElem? (i := 3) rfl)
theorem G_3_2 : GW (Cond.initialized RX3) := GR3 _ (List.mem_of_getElem? (i := 2) rfl)
theorem G_3_1 : GW (Cond.instantiable RX3 0) := GR3 _ (List.mem_of_getElem? (i := 1) rfl)
theorem G_3_0 : GW (Cond.classLink RX10 65 RX3) := GR3 _ (List.mem_of_getElem? (i := 0) rfl)
theorem G_2_23 : GW (Cond.initialized RX2) := GR2 _ (List.mem_of_getElem? (i := 23) rfl)
theorem G_2_22 : GW (Cond.instantiable RX2 0) := GR2 _ (List.mem_of_getElem? (i := 22) rfl)
theorem G_2_21 : GW (Cond.classLink RX10 62 RX2) := GR2 _ (List.mem_of_getElem? (i := 21) rfl)
theorem G_2_20 : GW (Cond.initialized RX9) := GR2 _ (List.mem_of_getElem? (i := 20) rfl)
theorem G_2_19 : GW (Cond.instantiable RX9 0) := GR2 _ (List.mem_of_getElem? (i := 19) rfl)
theorem G_2_18 : GW (Cond.classLink RX10 59 RX9) := GR2 _ (List.mem_of_getElem? (i := 18) rfl)
theorem G_2_17 : GW (Cond.initialized RX1) := GR2 _ (List.mem_of_getElem? (i := 17) rfl)
theorem G_2_16 : GW (Cond.instantiable RX1 0) := GR2 _ (List.mem_of_getElem? (i := 16) rfl)
theorem G_2_15 : GW (Cond.classLink RX10 56 RX1) := GR2 _ (List.mem_of_getElem? (i := 15) rfl)
theorem G_2_14 : GW (Cond.initialized RX7) := GR2 _ (List.mem_of_getElem? (i := 14) rfl)
theorem G_2_13 : GW (Cond.instantiable RX7 0) := GR2 _ (List.mem_of_getElem? (i := 13) rfl)
theorem G_2_12 : GW (Cond.classLink RX10 53 RX7) := GR2 _ (List.mem_of_getElem? (i := 12) rfl)
theorem G_2_11 : GW (Cond.initialized RX5) := GR2 _ (List.mem_of_getElem? (i := 11) rfl)
theorem G_2_10 : GW (Cond.instantiable RX5 0) := GR2 _ (List.mem_of_getElem? (i := 10) rfl)
theorem G_2_9 : GW (Cond.classLink RX10 50 RX5) := GR2 _ (List.mem_of_getElem? (i := 9) rfl)
theorem GB_wsX10_init_r2 : GoodIn wsL_law wsX10_init_r2 := (gcons G_2_9 (gcons G_2_10 (gcons G_2_11 (gcons G_2_12 (gcons G_2_13 (gcons G_2_14 (gcons G_2_15 (gcons G_2_16 (gcons G_2_17 (gcons G_2_18 (gcons G_2_19 (gcons G_2_20 (gcons G_2_21 (gcons G_2_22 (gcons G_2_23 (gcons G_3_0 (gcons G_3_1 (gcons G_3_2 (gcons G_3_3 (gcons G_3_4 (gcons G_3_5 (gcons G_3_6 (gcons G_3_7 (gcons G_3_8 gnil))))))))))))))))))))))))
theorem G_4_8 : GW (Cond.constant RX0 29 (1000000)) := GR4 _ (List.mem_of_getElem? (i := 8) rfl)
theorem G_4_7 : GW (Cond.code yX0_countIn cX0_countIn 4 (some .int)) := GR4 _ (List.mem_of_getElem? (i := 7) rfl)
theorem G_4_6 : GW (Cond.selects RX0 yX0_countIn yX0_countIn) := GR4 _ (List.mem_of_getElem? (i := 6) rfl)
theorem G_4_5 : GW (Cond.instanceMethod yX0_countIn) := GR4 _ (List.mem_of_getElem? (i := 5) rfl)
theorem G_4_4 : GW (Cond.methodLink RX0 19 yX0_countIn) := GR4 _ (List.mem_of_getElem? (i := 4) rfl)
theorem G_4_3 : GW (Cond.code Lib.Math.max.name Lib.Math.max.code 2 (some .int)) := GR4 _ (List.mem_of_getElem? (i := 3) rfl)
theorem G_4_2 : GW (Cond.initialized "java/lang/Math") := GR4 _ (List.mem_of_getElem? (i := 2) rfl)
theorem G_4_1 : GW (Cond.static Lib.Math.max.name) := GR4 _ (List.mem_of_getElem? (i := 1) rfl)
theorem G_4_0 : GW (Cond.methodLink RX0 23 Lib.Math.max.name) := GR4 _ (List.mem_of_getElem? (i := 0) rfl)
theorem G_3_23 : GW (Cond.code yX0_goUp cX0_goUp 7 (some .int)) := GR3 _ (List.mem_of_getElem? (i := 23) rfl)
theorem G_3_22 : GW (Cond.selects RX0 yX0_goUp yX0_goUp) := GR3 _ (List.mem_of_getElem? (i := 22) rfl)
theorem G_3_21 : GW (Cond.instanceMethod yX0_goUp) := GR3 _ (List.mem_of_getElem? (i := 21) rfl)
theorem G_3_20 : GW (Cond.methodLink RX0 15 yX0_goUp) := GR3 _ (List.mem_of_getElem? (i := 20) rfl)
theorem G_3_19 : GW (Cond.fieldLink RX0 11 "EachSecondStruck$EndlessRow" "luckCounts" "[I") := GR3 _ (List.mem_of_getElem? (i := 19) rfl)
theorem G_3_18 : GW (Cond.methodLink RX0 3 objectInit) := GR3 _ (List.mem_of_getElem? (i := 18) rfl)
theorem G_3_17 : GW (Cond.code yX0_init cX0_init 2 none) := GR3 _ (List.mem_of_getElem? (i := 17) rfl)
theorem G_3_16 : GW (Cond.instanceMethod yX0_init) := GR3 _ (List.mem_of_getElem? (i := 16) rfl)
theorem G_3_15 : GW (Cond.methodLink RX10 37 yX0_init) := GR3 _ (List.mem_of_getElem? (i := 15) rfl)
theorem G_3_14 : GW (Cond.fieldLink RX4 9 "EachSecondStruck$Letters" "signs" "[I") := GR3 _ (List.mem_of_getElem? (i := 14) rfl)
theorem G_3_13 : GW (Cond.methodLink RX4 3 objectInit) := GR3 _ (List.mem_of_getElem? (i := 13) rfl)
theorem G_3_12 : GW (Cond.code yX4_init cX4_init 1 none) := GR3 _ (List.mem_of_getElem? (i := 12) rfl)
theorem G_3_11 : GW (Cond.instanceMethod yX4_init) := GR3 _ (List.mem_of_getElem? (i := 11) rfl)
theorem G_3_10 : GW (Cond.fieldLink RX8 21 "EachSecondStruck$Standing" "wentIn" "[I") := GR3 _ (List.mem_of_getElem? (i := 10) rfl)
theorem G_3_9 : GW (Cond.fieldLink RX8 18 "EachSecondStruck$Standing" "gone" "[I") := GR3 _ (List.mem_of_getElem? (i := 9) rfl)
theorem GB_wsX10_init_r3 : GoodIn wsL_law wsX10_init_r3 := (gcons G_3_9 (gcons G_3_10 (gcons G_3_11 (gcons G_3_12 (gcons G_3_13 (gcons G_3_14 (gcons G_3_15 (gcons G_3_16 (gcons G_3_17 (gcons G_3_18 (gcons G_3_19 (gcons G_3_20 (gcons G_3_21 (gcons G_3_22 (gcons G_3_23 (gcons G_4_0 (gcons G_4_1 (gcons G_4_2 (gcons G_4_3 (gcons G_4_4 (gcons G_4_5 (gcons G_4_6 (gcons G_4_7 (gcons G_4_8 gnil))))))))))))))))))))))))
theorem G_5_8 : GW (Cond.static yJ7_fill_53178) := GR5 _ (List.mem_of_getElem? (i := 8) rfl)
theorem G_5_7 : GW (Cond.methodLink RX8 49 yJ7_fill_53178) := GR5 _ (List.mem_of_getElem? (i := 7) rfl)
theorem G_5_6 : GW (Cond.fieldLink RX8 31 "EachSecondStruck$Standing" "roundsBy" "I") := GR5 _ (List.mem_of_getElem? (i := 6) rfl)
theorem G_5_5 : GW (Cond.fieldLink RX8 28 "EachSecondStruck$Standing" "there" "I") := GR5 _ (List.mem_of_getElem? (i := 5) rfl)
theorem G_5_4 : GW (Cond.fieldLink RX8 24 "EachSecondStruck$Standing" "size" "I") := GR5 _ (List.mem_of_getElem? (i := 4) rfl)
theorem G_5_3 : GW (Cond.code yX8_beginWith cX8_beginWith 3 (some .boolean)) := GR5 _ (List.mem_of_getElem? (i := 3) rfl)
theorem G_5_2 : GW (Cond.selects RX8 yX8_beginWith yX8_beginWith) := GR5 _ (List.mem_of_getElem? (i := 2) rfl)
theorem G_5_1 : GW (Cond.instanceMethod yX8_beginWith) := GR5 _ (List.mem_of_getElem? (i := 1) rfl)
theorem G_5_0 : GW (Cond.methodLink RX10 72 yX8_beginWith) := GR5 _ (List.mem_of_getElem? (i := 0) rfl)
theorem G_4_23 : GW (Cond.code yX3_init cX3_init 1 none) := GR4 _ (List.mem_of_getElem? (i := 23) rfl)
theorem G_4_22 : GW (Cond.instanceMethod yX3_init) := GR4 _ (List.mem_of_getElem? (i := 22) rfl)
theorem G_4_21 : GW (Cond.code yX2_init cX2_init 1 none) := GR4 _ (List.mem_of_getElem? (i := 21) rfl)
theorem G_4_20 : GW (Cond.instanceMethod yX2_init) := GR4 _ (List.mem_of_getElem? (i := 20) rfl)
theorem G_4_19 : GW (Cond.code yX9_init cX9_init 1 none) := GR4 _ (List.mem_of_getElem? (i := 19) rfl)
theorem G_4_18 : GW (Cond.instanceMethod yX9_init) := GR4 _ (List.mem_of_getElem? (i := 18) rfl)
theorem G_4_17 : GW (Cond.code yX1_init cX1_init 1 none) := GR4 _ (List.mem_of_getElem? (i := 17) rfl)
theorem G_4_16 : GW (Cond.instanceMethod yX1_init) := GR4 _ (List.mem_of_getElem? (i := 16) rfl)
theorem G_4_15 : GW (Cond.code yX7_init cX7_init 1 none) := GR4 _ (List.mem_of_getElem? (i := 15) rfl)
theorem G_4_14 : GW (Cond.instanceMethod yX7_init) := GR4 _ (List.mem_of_getElem? (i := 14) rfl)
theorem G_4_13 : GW (Cond.code yX5_init cX5_init 1 none) := GR4 _ (List.mem_of_getElem? (i := 13) rfl)
theorem G_4_12 : GW (Cond.instanceMethod yX5_init) := GR4 _ (List.mem_of_getElem? (i := 12) rfl)
theorem G_4_11 : GW (Cond.methodLink RX6 1 objectInit) := GR4 _ (List.mem_of_getElem? (i := 11) rfl)
theorem G_4_10 : GW (Cond.code yX6_init cX6_init 1 none) := GR4 _ (List.mem_of_getElem? (i := 10) rfl)
theorem G_4_9 : GW (Cond.instanceMethod yX6_init) := GR4 _ (List.mem_of_getElem? (i := 9) rfl)
theorem GB_wsX10_init_r4 : GoodIn wsL_law wsX10_init_r4 := (gcons G_4_9 (gcons G_4_10 (gcons G_4_11 (gcons G_4_12 (gcons G_4_13 (gcons G_4_14 (gcons G_4_15 (gcons G_4_16 (gcons G_4_17 (gcons G_4_18 (gcons G_4_19 (gcons G_4_20 (gcons G_4_21 (gcons G_4_22 (gcons G_4_23 (gcons G_5_0 (gcons G_5_1 (gcons G_5_2 (gcons G_5_3 (gcons G_5_4 (gcons G_5_5 (gcons G_5_6 (gcons G_5_7 (gcons G_5_8 gnil))))))))))))))))))))))))
theorem G_5_10 : GW (Cond.code yJ7_fill_53178 cJ7_fill_53178 4 none) := GR5 _ (List.mem_of_getElem? (i := 10) rfl)
theorem G_5_9 : GW (Cond.initialized RJ7) := GR5 _ (List.mem_of_getElem? (i := 9) rfl)
theorem GB_wsX10_init_r5 : GoodIn wsL_law wsX10_init_r5 := (gcons G_5_9 (gcons G_5_10 gnil))
theorem G_1_8 : GW (Cond.code yX10_init cX10_init 1 none) := GR1 _ (List.mem_of_getElem? (i := 8) rfl)
theorem ggL_law_X10_init : GoodIn wsL_law wsX10_init := gcons G_1_8 (goodIn_app (goodIn_app (goodIn_app (goodIn_app (goodIn_app (goodIn_app (goodIn_app (goodIn_app (goodIn_app (goodIn_app (goodIn_app (goodIn_app GB_wsX10_init_r1 (goodIn_app GB_wsX10_init_r2 (goodIn_app GB_wsX10_init_r3 (goodIn_app GB_wsX10_init_r4 GB_wsX10_init_r5)))) GTwsX100) GTwsX80) GTwsX40) GTwsX00) GTwsX60) GTwsX50) GTwsX70) GTwsX10) GTwsX90) GTwsX20) GTwsX30)
set_option maxRecDepth 20000 in
theorem gL_law_X10_init : GoodIn wsL_law (wsX10_init) := ggL_law_X10_init
theorem G_6_10 : GW (Cond.fieldLink RX11 68 "EachSecondStruckModel" "sums" "[I") := GR6 _ (List.mem_of_getElem? (i := 10) rfl)
theorem G_6_9 : GW (Cond.fieldLink RX11 65 "EachSecondStruckModel" "unlucky" "[I") := GR6 _ (List.mem_of_getElem? (i := 9) rfl)
theorem G_6_8 : GW (Cond.fieldLink RX11 62 "EachSecondStruckModel" "lucky" "[I") := GR6 _ (List.mem_of_getElem? (i := 8) rfl)
theorem G_6_7 : GW (Cond.fieldLink RX11 59 "EachSecondStruckModel" "second" "[I") := GR6 _ (List.mem_of_getElem? (i := 7) rfl)
theorem G_6_6 : GW (Cond.fieldLink RX11 56 "EachSecondStruckModel" "first" "[I") := GR6 _ (List.mem_of_getElem? (i := 6) rfl)
theorem G_6_5 : GW (Cond.fieldLink RX11 53 "EachSecondStruckModel" "letterOf" "[I") := GR6 _ (List.mem_of_getElem? (i := 5) rfl)
theorem G_6_4 : GW (Cond.fieldLink RX11 50 "EachSecondStruckModel" "placeOf" "[I") := GR6 _ (List.mem_of_getElem? (i := 4) rfl)
theorem G_6_3 : GW (Cond.fieldLink RX11 47 "EachSecondStruckModel" "letters" "[I") := GR6 _ (List.mem_of_getElem? (i := 3) rfl)
theorem G_6_2 : GW (Cond.fieldLink RX11 44 "EachSecondStruckModel" "whenGone" "[I") := GR6 _ (List.mem_of_getElem? (i := 2) rfl)
theorem G_6_1 : GW (Cond.fieldLink RX11 41 "EachSecondStruckModel" "staying" "[I") := GR6 _ (List.mem_of_getElem? (i := 1) rfl)
theorem G_6_0 : GW (Cond.fieldLink RX11 38 "EachSecondStruckModel" "kept" "[I") := GR6 _ (List.mem_of_getElem? (i := 0) rfl)
theorem G_5_23 : GW (Cond.fieldLink RX11 35 "EachSecondStruckModel" "going" "[I") := GR5 _ (List.mem_of_getElem? (i := 23) rfl)
theorem G_5_22 : GW (Cond.fieldLink RX11 32 "EachSecondStruckModel" "gone" "[I") := GR5 _ (List.mem_of_getElem? (i := 22) rfl)
theorem G_5_21 : GW (Cond.fieldLink RX11 29 "EachSecondStruckModel" "refusals" "[I") := GR5 _ (List.mem_of_getElem? (i := 21) rfl)
theorem G_5_20 : GW (Cond.fieldLink RX11 26 "EachSecondStruckModel" "went" "[I") := GR5 _ (List.mem_of_getElem? (i := 20) rfl)
theorem G_5_19 : GW (Cond.fieldLink RX11 23 "EachSecondStruckModel" "row" "[I") := GR5 _ (List.mem_of_getElem? (i := 19) rfl)
theorem G_5_18 : GW (Cond.fieldLink RX11 19 "EachSecondStruckModel" "steps" "[I") := GR5 _ (List.mem_of_getElem? (i := 18) rfl)
theorem G_5_17 : GW (Cond.fieldLink RX11 16 "EachSecondStruckModel" "figure" "I") := GR5 _ (List.mem_of_getElem? (i := 17) rfl)
theorem G_5_16 : GW (Cond.fieldLink RX11 13 "EachSecondStruckModel" "many" "I") := GR5 _ (List.mem_of_getElem? (i := 16) rfl)
theorem G_5_15 : GW (Cond.fieldLink RX11 7 "EachSecondStruckModel" "size" "I") := GR5 _ (List.mem_of_getElem? (i := 15) rfl)
theorem G_5_14 : GW (Cond.methodLink RX11 1 objectInit) := GR5 _ (List.mem_of_getElem? (i := 14) rfl)
theorem GB_wsX11_init_r1 : GoodIn wsL_law wsX11_init_r1 := (gcons G_5_14 (gcons G_1_10 (gcons G_1_11 (gcons G_5_15 (gcons G_5_16 (gcons G_5_17 (gcons G_2_4 (gcons G_5_18 (gcons G_5_19 (gcons G_5_20 (gcons G_5_21 (gcons G_5_22 (gcons G_5_23 (gcons G_6_0 (gcons G_6_1 (gcons G_6_2 (gcons G_6_3 (gcons G_6_4 (gcons G_6_5 (gcons G_6_6 (gcons G_6_7 (gcons G_6_8 (gcons G_6_9 (gcons G_6_10 gnil))))))))))))))))))))))))
theorem G_6_18 : GW (Cond.fieldLink RX11 84 "EachSecondStruckModel" "rounds" "I") := GR6 _ (List.mem_of_getElem? (i := 18) rfl)
theorem G_6_17 : GW (Cond.code yX11_begin cX11_begin 3 none) := GR6 _ (List.mem_of_getElem? (i := 17) rfl)
theorem G_1_5 : GW (Cond.initialized RX11) := GR1 _ (List.mem_of_getElem? (i := 5) rfl)
theorem G_6_16 : GW (Cond.selects RX11 yX11_begin yX11_begin) := GR6 _ (List.mem_of_getElem? (i := 16) rfl)
theorem G_6_15 : GW (Cond.instanceMethod yX11_begin) := GR6 _ (List.mem_of_getElem? (i := 15) rfl)
theorem G_6_14 : GW (Cond.methodLink RX11 80 yX11_begin) := GR6 _ (List.mem_of_getElem? (i := 14) rfl)
theorem G_6_13 : GW (Cond.fieldLink RX11 77 "EachSecondStruckModel" "thrown" "I") := GR6 _ (List.mem_of_getElem? (i := 13) rfl)
theorem G_6_12 : GW (Cond.fieldLink RX11 74 "EachSecondStruckModel" "imaged" "[I") := GR6 _ (List.mem_of_getElem? (i := 12) rfl)
theorem G_6_11 : GW (Cond.fieldLink RX11 71 "EachSecondStruckModel" "told" "[I") := GR6 _ (List.mem_of_getElem? (i := 11) rfl)
theorem GB_wsX11_init_r2 : GoodIn wsL_law wsX11_init_r2 := (gcons G_6_11 (gcons G_6_12 (gcons G_6_13 (gcons G_6_14 (gcons G_6_15 (gcons G_6_16 (gcons G_1_5 (gcons G_6_17 (gcons G_6_18 gnil)))))))))
theorem G_5_13 : GW (Cond.code yX11_init cX11_init 1 none) := GR5 _ (List.mem_of_getElem? (i := 13) rfl)
theorem ggL_law_X11_init : GoodIn wsL_law wsX11_init := gcons G_5_13 (goodIn_app (goodIn_app GB_wsX11_init_r1 GB_wsX11_init_r2) GTwsX110)
set_option maxRecDepth 20000 in
theorem gL_law_X11_init : GoodIn wsL_law (wsX11_init) := ggL_law_X11_init
theorem G_6_22 : GW (Cond.code yX10_feed cX10_feed 2 (some .int)) := GR6 _ (List.mem_of_getElem? (i := 22) rfl)
theorem G_7_8 : GW (Cond.fieldLink RX4 15 "EachSecondStruck$Letters" "count" "I") := GR7 _ (List.mem_of_getElem? (i := 8) rfl)
theorem G_7_7 : GW (Cond.code yX4_append cX4_append 2 (some .int)) := GR7 _ (List.mem_of_getElem? (i := 7) rfl)
theorem G_7_6 : GW (Cond.selects RX4 yX4_append yX4_append) := GR7 _ (List.mem_of_getElem? (i := 6) rfl)
theorem G_7_5 : GW (Cond.instanceMethod yX4_append) := GR7 _ (List.mem_of_getElem? (i := 5) rfl)
theorem G_7_4 : GW (Cond.methodLink RX10 83 yX4_append) := GR7 _ (List.mem_of_getElem? (i := 4) rfl)
theorem G_7_3 : GW (Cond.code yX10_refuse cX10_refuse 2 (some .int)) := GR7 _ (List.mem_of_getElem? (i := 3) rfl)
theorem G_1_2 : GW (Cond.initialized RX10) := GR1 _ (List.mem_of_getElem? (i := 2) rfl)
theorem G_7_2 : GW (Cond.selects RX10 yX10_refuse yX10_refuse) := GR7 _ (List.mem_of_getElem? (i := 2) rfl)
theorem G_7_1 : GW (Cond.instanceMethod yX10_refuse) := GR7 _ (List.mem_of_getElem? (i := 1) rfl)
theorem G_7_0 : GW (Cond.methodLink RX10 76 yX10_refuse) := GR7 _ (List.mem_of_getElem? (i := 0) rfl)
theorem G_6_23 : GW (Cond.fieldLink RX10 80 "EachSecondStruck$Letters" "count" "I") := GR6 _ (List.mem_of_getElem? (i := 23) rfl)
theorem ggL_law_X10_feed : GoodIn wsL_law wsX10_feed := gcons G_6_22 (goodIn_app (goodIn_app (gcons G_1_23 (gcons G_6_23 (gcons G_7_0 (gcons G_7_1 (gcons G_7_2 (gcons G_1_2 (gcons G_7_3 (gcons G_2_6 (gcons G_7_4 (gcons G_7_5 (gcons G_7_6 (gcons G_1_22 (gcons G_7_7 (gcons G_7_8 (gcons G_3_14 gnil))))))))))))))) GTwsX100) GTwsX40)
set_option maxRecDepth 20000 in
theorem gL_law_X10_feed : GoodIn wsL_law (wsV RL 13 RX10 yX10_feed wsX10_feed) := goodIn_app (goodIn_of _ (by decide +kernel)) ggL_law_X10_feed
theorem G_7_12 : GW (Cond.code yX11_feed cX11_feed 2 (some .int)) := GR7 _ (List.mem_of_getElem? (i := 12) rfl)
theorem G_7_17 : GW (Cond.code yX11_refuse cX11_refuse 2 (some .int)) := GR7 _ (List.mem_of_getElem? (i := 17) rfl)
theorem G_7_16 : GW (Cond.selects RX11 yX11_refuse yX11_refuse) := GR7 _ (List.mem_of_getElem? (i := 16) rfl)
theorem G_7_15 : GW (Cond.instanceMethod yX11_refuse) := GR7 _ (List.mem_of_getElem? (i := 15) rfl)
theorem G_7_14 : GW (Cond.methodLink RX11 141 yX11_refuse) := GR7 _ (List.mem_of_getElem? (i := 14) rfl)
theorem G_7_13 : GW (Cond.fieldLink RX11 144 "EachSecondStruckModel" "letterMany" "I") := GR7 _ (List.mem_of_getElem? (i := 13) rfl)
theorem ggL_law_X11_feed : GoodIn wsL_law wsX11_feed := gcons G_7_12 (goodIn_app (gcons G_6_13 (gcons G_7_13 (gcons G_6_3 (gcons G_7_14 (gcons G_7_15 (gcons G_7_16 (gcons G_1_5 (gcons G_7_17 (gcons G_5_21 gnil))))))))) GTwsX110)
set_option maxRecDepth 20000 in
theorem gL_law_X11_feed : GoodIn wsL_law (wsV RL 17 RX11 yX11_feed wsX11_feed) := goodIn_app (goodIn_of _ (by decide +kernel)) ggL_law_X11_feed
theorem G_8_14 : GW (Cond.instanceMethod yX4_readFirst) := GR8 _ (List.mem_of_getElem? (i := 14) rfl)
theorem G_8_13 : GW (Cond.methodLink RX4 36 yX4_readFirst) := GR8 _ (List.mem_of_getElem? (i := 13) rfl)
theorem G_8_12 : GW (Cond.code yX4_sign cX4_sign 1 (some .int)) := GR8 _ (List.mem_of_getElem? (i := 12) rfl)
theorem G_8_11 : GW (Cond.selects RX4 yX4_sign yX4_sign) := GR8 _ (List.mem_of_getElem? (i := 11) rfl)
theorem G_8_10 : GW (Cond.instanceMethod yX4_sign) := GR8 _ (List.mem_of_getElem? (i := 10) rfl)
theorem G_8_9 : GW (Cond.methodLink RX4 26 yX4_sign) := GR8 _ (List.mem_of_getElem? (i := 9) rfl)
theorem G_8_8 : GW (Cond.fieldLink RX4 33 "EachSecondStruck$Letters" "second" "I") := GR8 _ (List.mem_of_getElem? (i := 8) rfl)
theorem G_8_7 : GW (Cond.fieldLink RX4 30 "EachSecondStruck$Letters" "verb" "I") := GR8 _ (List.mem_of_getElem? (i := 7) rfl)
theorem G_8_6 : GW (Cond.code yX4_readStatement cX4_readStatement 1 (some .boolean)) := GR8 _ (List.mem_of_getElem? (i := 6) rfl)
theorem G_8_5 : GW (Cond.selects RX4 yX4_readStatement yX4_readStatement) := GR8 _ (List.mem_of_getElem? (i := 5) rfl)
theorem G_8_4 : GW (Cond.instanceMethod yX4_readStatement) := GR8 _ (List.mem_of_getElem? (i := 4) rfl)
theorem G_8_3 : GW (Cond.methodLink RX4 22 yX4_readStatement) := GR8 _ (List.mem_of_getElem? (i := 3) rfl)
theorem G_8_2 : GW (Cond.fieldLink RX4 19 "EachSecondStruck$Letters" "readAt" "I") := GR8 _ (List.mem_of_getElem? (i := 2) rfl)
theorem G_8_1 : GW (Cond.code yX4_faultPlace cX4_faultPlace 2 (some .int)) := GR8 _ (List.mem_of_getElem? (i := 1) rfl)
theorem G_8_0 : GW (Cond.selects RX4 yX4_faultPlace yX4_faultPlace) := GR8 _ (List.mem_of_getElem? (i := 0) rfl)
theorem G_7_23 : GW (Cond.instanceMethod yX4_faultPlace) := GR7 _ (List.mem_of_getElem? (i := 23) rfl)
theorem G_7_22 : GW (Cond.methodLink RX10 86 yX4_faultPlace) := GR7 _ (List.mem_of_getElem? (i := 22) rfl)
theorem GB_wsX10_row_r1 : GoodIn wsL_law wsX10_row_r1 := (gcons G_1_23 (gcons G_1_18 (gcons G_1_17 (gcons G_6_23 (gcons G_7_22 (gcons G_7_23 (gcons G_8_0 (gcons G_1_22 (gcons G_8_1 (gcons G_8_2 (gcons G_7_8 (gcons G_8_3 (gcons G_8_4 (gcons G_8_5 (gcons G_8_6 (gcons G_8_7 (gcons G_8_8 (gcons G_8_9 (gcons G_8_10 (gcons G_8_11 (gcons G_8_12 (gcons G_3_14 (gcons G_8_13 (gcons G_8_14 gnil))))))))))))))))))))))))
theorem G_9_11 : GW (Cond.instanceMethod yX8_copyFrom) := GR9 _ (List.mem_of_getElem? (i := 11) rfl)
theorem G_9_10 : GW (Cond.methodLink RX10 90 yX8_copyFrom) := GR9 _ (List.mem_of_getElem? (i := 10) rfl)
theorem G_9_9 : GW (Cond.code yX4_readSecond cX4_readSecond 2 (some .boolean)) := GR9 _ (List.mem_of_getElem? (i := 9) rfl)
theorem G_9_8 : GW (Cond.selects RX4 yX4_readSecond yX4_readSecond) := GR9 _ (List.mem_of_getElem? (i := 8) rfl)
theorem G_9_7 : GW (Cond.instanceMethod yX4_readSecond) := GR9 _ (List.mem_of_getElem? (i := 7) rfl)
theorem G_9_6 : GW (Cond.methodLink RX4 43 yX4_readSecond) := GR9 _ (List.mem_of_getElem? (i := 6) rfl)
theorem G_9_5 : GW (Cond.code yX4_take cX4_take 2 (some .boolean)) := GR9 _ (List.mem_of_getElem? (i := 5) rfl)
theorem G_9_4 : GW (Cond.selects RX4 yX4_take yX4_take) := GR9 _ (List.mem_of_getElem? (i := 4) rfl)
theorem G_9_3 : GW (Cond.instanceMethod yX4_take) := GR9 _ (List.mem_of_getElem? (i := 3) rfl)
theorem G_9_2 : GW (Cond.methodLink RX4 40 yX4_take) := GR9 _ (List.mem_of_getElem? (i := 2) rfl)
theorem G_9_1 : GW (Cond.code yX4_isDigit cX4_isDigit 1 (some .boolean)) := GR9 _ (List.mem_of_getElem? (i := 1) rfl)
theorem G_9_0 : GW (Cond.static yX4_isDigit) := GR9 _ (List.mem_of_getElem? (i := 0) rfl)
theorem G_8_23 : GW (Cond.methodLink RX4 53 yX4_isDigit) := GR8 _ (List.mem_of_getElem? (i := 23) rfl)
theorem G_8_22 : GW (Cond.methodLink RX4 56 Lib.Math.max.name) := GR8 _ (List.mem_of_getElem? (i := 22) rfl)
theorem G_8_21 : GW (Cond.code yX4_readNumber cX4_readNumber 4 (some .int)) := GR8 _ (List.mem_of_getElem? (i := 21) rfl)
theorem G_8_20 : GW (Cond.selects RX4 yX4_readNumber yX4_readNumber) := GR8 _ (List.mem_of_getElem? (i := 20) rfl)
theorem G_8_19 : GW (Cond.instanceMethod yX4_readNumber) := GR8 _ (List.mem_of_getElem? (i := 19) rfl)
theorem G_8_18 : GW (Cond.methodLink RX4 46 yX4_readNumber) := GR8 _ (List.mem_of_getElem? (i := 18) rfl)
theorem G_8_17 : GW (Cond.fieldLink RX4 50 "EachSecondStruck$Letters" "first" "I") := GR8 _ (List.mem_of_getElem? (i := 17) rfl)
theorem G_8_16 : GW (Cond.code yX4_readFirst cX4_readFirst 2 (some .boolean)) := GR8 _ (List.mem_of_getElem? (i := 16) rfl)
theorem G_8_15 : GW (Cond.selects RX4 yX4_readFirst yX4_readFirst) := GR8 _ (List.mem_of_getElem? (i := 15) rfl)
theorem GB_wsX10_row_r2 : GoodIn wsL_law wsX10_row_r2 := (gcons G_8_15 (gcons G_8_16 (gcons G_8_17 (gcons G_8_18 (gcons G_8_19 (gcons G_8_20 (gcons G_8_21 (gcons G_8_22 (gcons G_4_1 (gcons G_4_2 (gcons G_4_3 (gcons G_8_23 (gcons G_9_0 (gcons G_9_1 (gcons G_9_2 (gcons G_9_3 (gcons G_9_4 (gcons G_9_5 (gcons G_9_6 (gcons G_9_7 (gcons G_9_8 (gcons G_9_9 (gcons G_9_10 (gcons G_9_11 gnil))))))))))))))))))))))))
theorem G_10_2 : GW (Cond.methodLink RX10 222 yX4_readStatement) := GR10 _ (List.mem_of_getElem? (i := 2) rfl)
theorem G_10_1 : GW (Cond.fieldLink RX10 219 "EachSecondStruck$Letters" "readAt" "I") := GR10 _ (List.mem_of_getElem? (i := 1) rfl)
theorem G_10_0 : GW (Cond.code yX10_carryOutStatements cX10_carryOutStatements 4 (some .int)) := GR10 _ (List.mem_of_getElem? (i := 0) rfl)
theorem G_9_23 : GW (Cond.selects RX10 yX10_carryOutStatements yX10_carryOutStatements) := GR9 _ (List.mem_of_getElem? (i := 23) rfl)
theorem G_9_22 : GW (Cond.instanceMethod yX10_carryOutStatements) := GR9 _ (List.mem_of_getElem? (i := 22) rfl)
theorem G_9_21 : GW (Cond.methodLink RX10 94 yX10_carryOutStatements) := GR9 _ (List.mem_of_getElem? (i := 21) rfl)
theorem G_9_20 : GW (Cond.initialized "java/lang/System") := GR9 _ (List.mem_of_getElem? (i := 20) rfl)
theorem G_9_19 : GW (Cond.static arraycopyName) := GR9 _ (List.mem_of_getElem? (i := 19) rfl)
theorem G_9_18 : GW (Cond.native arraycopyName) := GR9 _ (List.mem_of_getElem? (i := 18) rfl)
theorem G_9_17 : GW (Cond.methodLink RX8 43 arraycopyName) := GR9 _ (List.mem_of_getElem? (i := 17) rfl)
theorem G_9_16 : GW (Cond.fieldLink RX8 40 "EachSecondStruck$Standing" "stepCount" "I") := GR9 _ (List.mem_of_getElem? (i := 16) rfl)
theorem G_9_15 : GW (Cond.fieldLink RX8 37 "EachSecondStruck$Standing" "figure" "I") := GR9 _ (List.mem_of_getElem? (i := 15) rfl)
theorem G_9_14 : GW (Cond.fieldLink RX8 34 "EachSecondStruck$Standing" "kind" "I") := GR9 _ (List.mem_of_getElem? (i := 14) rfl)
theorem G_9_13 : GW (Cond.code yX8_copyFrom cX8_copyFrom 2 none) := GR9 _ (List.mem_of_getElem? (i := 13) rfl)
theorem G_9_12 : GW (Cond.selects RX8 yX8_copyFrom yX8_copyFrom) := GR9 _ (List.mem_of_getElem? (i := 12) rfl)
theorem GB_wsX10_row_r3 : GoodIn wsL_law wsX10_row_r3 := (gcons G_9_12 (gcons G_1_16 (gcons G_9_13 (gcons G_5_4 (gcons G_5_5 (gcons G_5_6 (gcons G_9_14 (gcons G_9_15 (gcons G_9_16 (gcons G_3_7 (gcons G_9_17 (gcons G_9_18 (gcons G_9_19 (gcons G_9_20 (gcons G_3_8 (gcons G_3_9 (gcons G_3_10 (gcons G_9_21 (gcons G_9_22 (gcons G_9_23 (gcons G_1_2 (gcons G_10_0 (gcons G_10_1 (gcons G_10_2 gnil))))))))))))))))))))))))
theorem G_10_17 : GW (Cond.methodLink RX10 103 yX8_addStep) := GR10 _ (List.mem_of_getElem? (i := 17) rfl)
theorem G_10_16 : GW (Cond.code yX10_isFigure cX10_isFigure 1 (some .boolean)) := GR10 _ (List.mem_of_getElem? (i := 16) rfl)
theorem G_10_15 : GW (Cond.static yX10_isFigure) := GR10 _ (List.mem_of_getElem? (i := 15) rfl)
theorem G_10_14 : GW (Cond.methodLink RX10 238 yX10_isFigure) := GR10 _ (List.mem_of_getElem? (i := 14) rfl)
theorem G_10_13 : GW (Cond.code yX10_isKind cX10_isKind 1 (some .boolean)) := GR10 _ (List.mem_of_getElem? (i := 13) rfl)
theorem G_10_12 : GW (Cond.static yX10_isKind) := GR10 _ (List.mem_of_getElem? (i := 12) rfl)
theorem G_10_11 : GW (Cond.methodLink RX10 166 yX10_isKind) := GR10 _ (List.mem_of_getElem? (i := 11) rfl)
theorem G_10_10 : GW (Cond.fieldLink RX10 116 "EachSecondStruck$Standing" "kind" "I") := GR10 _ (List.mem_of_getElem? (i := 10) rfl)
theorem G_10_9 : GW (Cond.fieldLink RX10 235 "EachSecondStruck$Letters" "verb" "I") := GR10 _ (List.mem_of_getElem? (i := 9) rfl)
theorem G_10_8 : GW (Cond.fieldLink RX10 232 "EachSecondStruck$Letters" "second" "I") := GR10 _ (List.mem_of_getElem? (i := 8) rfl)
theorem G_10_7 : GW (Cond.fieldLink RX10 229 "EachSecondStruck$Letters" "first" "I") := GR10 _ (List.mem_of_getElem? (i := 7) rfl)
theorem G_10_6 : GW (Cond.code yX10_carryOut cX10_carryOut 3 (some .boolean)) := GR10 _ (List.mem_of_getElem? (i := 6) rfl)
theorem G_10_5 : GW (Cond.selects RX10 yX10_carryOut yX10_carryOut) := GR10 _ (List.mem_of_getElem? (i := 5) rfl)
theorem G_10_4 : GW (Cond.instanceMethod yX10_carryOut) := GR10 _ (List.mem_of_getElem? (i := 4) rfl)
theorem G_10_3 : GW (Cond.methodLink RX10 226 yX10_carryOut) := GR10 _ (List.mem_of_getElem? (i := 3) rfl)
theorem GB_wsX10_row_r4 : GoodIn wsL_law wsX10_row_r4 := (gcons G_10_3 (gcons G_10_4 (gcons G_10_5 (gcons G_10_6 (gcons G_10_7 (gcons G_10_8 (gcons G_10_9 (gcons G_10_10 (gcons G_3_3 (gcons G_5_0 (gcons G_5_1 (gcons G_5_2 (gcons G_5_3 (gcons G_5_7 (gcons G_5_8 (gcons G_5_9 (gcons G_5_10 (gcons G_10_11 (gcons G_10_12 (gcons G_10_13 (gcons G_10_14 (gcons G_10_15 (gcons G_10_16 (gcons G_10_17 gnil))))))))))))))))))))))))
theorem G_11_8 : GW (Cond.code yX8_placeOf cX8_placeOf 3 (some .int)) := GR11 _ (List.mem_of_getElem? (i := 8) rfl)
theorem G_11_7 : GW (Cond.selects RX8 yX8_placeOf yX8_placeOf) := GR11 _ (List.mem_of_getElem? (i := 7) rfl)
theorem G_11_6 : GW (Cond.instanceMethod yX8_placeOf) := GR11 _ (List.mem_of_getElem? (i := 6) rfl)
theorem G_11_5 : GW (Cond.methodLink RX8 62 yX8_placeOf) := GR11 _ (List.mem_of_getElem? (i := 5) rfl)
theorem G_11_4 : GW (Cond.code yX8_hasNumber cX8_hasNumber 2 (some .boolean)) := GR11 _ (List.mem_of_getElem? (i := 4) rfl)
theorem G_11_3 : GW (Cond.selects RX8 yX8_hasNumber yX8_hasNumber) := GR11 _ (List.mem_of_getElem? (i := 3) rfl)
theorem G_11_2 : GW (Cond.instanceMethod yX8_hasNumber) := GR11 _ (List.mem_of_getElem? (i := 2) rfl)
theorem G_11_1 : GW (Cond.methodLink RX8 59 yX8_hasNumber) := GR11 _ (List.mem_of_getElem? (i := 1) rfl)
theorem G_11_0 : GW (Cond.code yX8_changePlaces cX8_changePlaces 5 (some .boolean)) := GR11 _ (List.mem_of_getElem? (i := 0) rfl)
theorem G_10_23 : GW (Cond.selects RX8 yX8_changePlaces yX8_changePlaces) := GR10 _ (List.mem_of_getElem? (i := 23) rfl)
theorem G_10_22 : GW (Cond.instanceMethod yX8_changePlaces) := GR10 _ (List.mem_of_getElem? (i := 22) rfl)
theorem G_10_21 : GW (Cond.methodLink RX10 112 yX8_changePlaces) := GR10 _ (List.mem_of_getElem? (i := 21) rfl)
theorem G_10_20 : GW (Cond.code yX8_addStep cX8_addStep 2 (some .boolean)) := GR10 _ (List.mem_of_getElem? (i := 20) rfl)
theorem G_10_19 : GW (Cond.selects RX8 yX8_addStep yX8_addStep) := GR10 _ (List.mem_of_getElem? (i := 19) rfl)
theorem G_10_18 : GW (Cond.instanceMethod yX8_addStep) := GR10 _ (List.mem_of_getElem? (i := 18) rfl)
theorem GB_wsX10_row_r5 : GoodIn wsL_law wsX10_row_r5 := (gcons G_10_18 (gcons G_10_19 (gcons G_10_20 (gcons G_10_21 (gcons G_10_22 (gcons G_10_23 (gcons G_11_0 (gcons G_11_1 (gcons G_11_2 (gcons G_11_3 (gcons G_11_4 (gcons G_11_5 (gcons G_11_6 (gcons G_11_7 (gcons G_11_8 gnil)))))))))))))))
theorem G_7_21 : GW (Cond.code yX10_row cX10_row 2 (some .int)) := GR7 _ (List.mem_of_getElem? (i := 21) rfl)
theorem ggL_law_X10_row : GoodIn wsL_law wsX10_row := gcons G_7_21 (goodIn_app (goodIn_app (goodIn_app (goodIn_app GB_wsX10_row_r1 (goodIn_app GB_wsX10_row_r2 (goodIn_app GB_wsX10_row_r3 (goodIn_app GB_wsX10_row_r4 GB_wsX10_row_r5)))) GTwsX100) GTwsX40) GTwsX80)
set_option maxRecDepth 20000 in
theorem gL_law_X10_row : GoodIn wsL_law (wsV RL 18 RX10 yX10_row wsX10_row) := goodIn_app (goodIn_of _ (by decide +kernel)) ggL_law_X10_row
theorem G_12_4 : GW (Cond.constantLong RX11 156 (48)) := GR12 _ (List.mem_of_getElem? (i := 4) rfl)
theorem G_12_3 : GW (Cond.code yX11_readNumber cX11_readNumber 3 (some .int)) := GR12 _ (List.mem_of_getElem? (i := 3) rfl)
theorem G_12_2 : GW (Cond.selects RX11 yX11_readNumber yX11_readNumber) := GR12 _ (List.mem_of_getElem? (i := 2) rfl)
theorem G_12_1 : GW (Cond.instanceMethod yX11_readNumber) := GR12 _ (List.mem_of_getElem? (i := 1) rfl)
theorem G_12_0 : GW (Cond.methodLink RX11 166 yX11_readNumber) := GR12 _ (List.mem_of_getElem? (i := 0) rfl)
theorem G_11_23 : GW (Cond.code yX11_here cX11_here 1 (some .int)) := GR11 _ (List.mem_of_getElem? (i := 23) rfl)
theorem G_11_22 : GW (Cond.selects RX11 yX11_here yX11_here) := GR11 _ (List.mem_of_getElem? (i := 22) rfl)
theorem G_11_21 : GW (Cond.instanceMethod yX11_here) := GR11 _ (List.mem_of_getElem? (i := 21) rfl)
theorem G_11_20 : GW (Cond.methodLink RX11 153 yX11_here) := GR11 _ (List.mem_of_getElem? (i := 20) rfl)
theorem G_11_19 : GW (Cond.code yX11_readStatement cX11_readStatement 3 none) := GR11 _ (List.mem_of_getElem? (i := 19) rfl)
theorem G_11_18 : GW (Cond.selects RX11 yX11_readStatement yX11_readStatement) := GR11 _ (List.mem_of_getElem? (i := 18) rfl)
theorem G_11_17 : GW (Cond.instanceMethod yX11_readStatement) := GR11 _ (List.mem_of_getElem? (i := 17) rfl)
theorem G_11_16 : GW (Cond.methodLink RX11 182 yX11_readStatement) := GR11 _ (List.mem_of_getElem? (i := 16) rfl)
theorem G_11_15 : GW (Cond.fieldLink RX11 163 "EachSecondStruckModel" "statements" "I") := GR11 _ (List.mem_of_getElem? (i := 15) rfl)
theorem G_11_14 : GW (Cond.fieldLink RX11 150 "EachSecondStruckModel" "isBad" "Z") := GR11 _ (List.mem_of_getElem? (i := 14) rfl)
theorem G_11_13 : GW (Cond.fieldLink RX11 147 "EachSecondStruckModel" "at" "I") := GR11 _ (List.mem_of_getElem? (i := 13) rfl)
theorem GB_wsX11_row_r1 : GoodIn wsL_law wsX11_row_r1 := (gcons G_6_13 (gcons G_11_13 (gcons G_11_14 (gcons G_11_15 (gcons G_7_13 (gcons G_6_4 (gcons G_11_16 (gcons G_11_17 (gcons G_11_18 (gcons G_1_5 (gcons G_11_19 (gcons G_6_5 (gcons G_6_6 (gcons G_6_7 (gcons G_11_20 (gcons G_11_21 (gcons G_11_22 (gcons G_11_23 (gcons G_6_3 (gcons G_12_0 (gcons G_12_1 (gcons G_12_2 (gcons G_12_3 (gcons G_12_4 gnil))))))))))))))))))))))))
theorem G_13_3 : GW (Cond.fieldLink RX11 115 "EachSecondStruckModel" "place" "I") := GR13 _ (List.mem_of_getElem? (i := 3) rfl)
theorem G_13_2 : GW (Cond.fieldLink RX11 108 "EachSecondStruckModel" "isTaking" "Z") := GR13 _ (List.mem_of_getElem? (i := 2) rfl)
theorem G_13_1 : GW (Cond.fieldLink RX11 112 "EachSecondStruckModel" "keptIn" "[I") := GR13 _ (List.mem_of_getElem? (i := 1) rfl)
theorem G_13_0 : GW (Cond.code yX11_carryAll cX11_carryAll 4 none) := GR13 _ (List.mem_of_getElem? (i := 0) rfl)
theorem G_12_23 : GW (Cond.selects RX11 yX11_carryAll yX11_carryAll) := GR12 _ (List.mem_of_getElem? (i := 23) rfl)
theorem G_12_22 : GW (Cond.instanceMethod yX11_carryAll) := GR12 _ (List.mem_of_getElem? (i := 22) rfl)
theorem G_12_21 : GW (Cond.methodLink RX11 121 yX11_carryAll) := GR12 _ (List.mem_of_getElem? (i := 21) rfl)
theorem G_12_20 : GW (Cond.code yX11_open cX11_open 1 none) := GR12 _ (List.mem_of_getElem? (i := 20) rfl)
theorem G_12_19 : GW (Cond.selects RX11 yX11_open yX11_open) := GR12 _ (List.mem_of_getElem? (i := 19) rfl)
theorem G_12_18 : GW (Cond.instanceMethod yX11_open) := GR12 _ (List.mem_of_getElem? (i := 18) rfl)
theorem G_12_17 : GW (Cond.methodLink RX11 125 yX11_open) := GR12 _ (List.mem_of_getElem? (i := 17) rfl)
theorem G_12_16 : GW (Cond.code yX11_take cX11_take 2 none) := GR12 _ (List.mem_of_getElem? (i := 16) rfl)
theorem G_12_15 : GW (Cond.selects RX11 yX11_take yX11_take) := GR12 _ (List.mem_of_getElem? (i := 15) rfl)
theorem G_12_14 : GW (Cond.instanceMethod yX11_take) := GR12 _ (List.mem_of_getElem? (i := 14) rfl)
theorem G_12_13 : GW (Cond.methodLink RX11 169 yX11_take) := GR12 _ (List.mem_of_getElem? (i := 13) rfl)
theorem G_12_12 : GW (Cond.code yX11_in cX11_in 6 (some .boolean)) := GR12 _ (List.mem_of_getElem? (i := 12) rfl)
theorem G_12_11 : GW (Cond.static yX11_in) := GR12 _ (List.mem_of_getElem? (i := 11) rfl)
theorem G_12_10 : GW (Cond.methodLink RX11 137 yX11_in) := GR12 _ (List.mem_of_getElem? (i := 10) rfl)
theorem G_12_9 : GW (Cond.code yX11_readDigit cX11_readDigit 1 (some .int)) := GR12 _ (List.mem_of_getElem? (i := 9) rfl)
theorem G_12_8 : GW (Cond.selects RX11 yX11_readDigit yX11_readDigit) := GR12 _ (List.mem_of_getElem? (i := 8) rfl)
theorem G_12_7 : GW (Cond.instanceMethod yX11_readDigit) := GR12 _ (List.mem_of_getElem? (i := 7) rfl)
theorem G_12_6 : GW (Cond.methodLink RX11 160 yX11_readDigit) := GR12 _ (List.mem_of_getElem? (i := 6) rfl)
theorem G_12_5 : GW (Cond.constantLong RX11 158 (57)) := GR12 _ (List.mem_of_getElem? (i := 5) rfl)
theorem GB_wsX11_row_r2 : GoodIn wsL_law wsX11_row_r2 := (gcons G_12_5 (gcons G_12_6 (gcons G_12_7 (gcons G_12_8 (gcons G_12_9 (gcons G_12_10 (gcons G_12_11 (gcons G_12_12 (gcons G_12_13 (gcons G_12_14 (gcons G_12_15 (gcons G_12_16 (gcons G_12_17 (gcons G_12_18 (gcons G_12_19 (gcons G_12_20 (gcons G_6_0 (gcons G_12_21 (gcons G_12_22 (gcons G_12_23 (gcons G_13_0 (gcons G_13_1 (gcons G_13_2 (gcons G_13_3 gnil))))))))))))))))))))))))
theorem G_13_16 : GW (Cond.instanceMethod yX11_isNumber) := GR13 _ (List.mem_of_getElem? (i := 16) rfl)
theorem G_13_15 : GW (Cond.methodLink RX11 174 yX11_isNumber) := GR13 _ (List.mem_of_getElem? (i := 15) rfl)
theorem G_13_14 : GW (Cond.constantLong RX11 172 (120)) := GR13 _ (List.mem_of_getElem? (i := 14) rfl)
theorem G_13_13 : GW (Cond.code yX11_comes cX11_comes 5 (some .boolean)) := GR13 _ (List.mem_of_getElem? (i := 13) rfl)
theorem G_13_12 : GW (Cond.selects RX11 yX11_comes yX11_comes) := GR13 _ (List.mem_of_getElem? (i := 12) rfl)
theorem G_13_11 : GW (Cond.instanceMethod yX11_comes) := GR13 _ (List.mem_of_getElem? (i := 11) rfl)
theorem G_13_10 : GW (Cond.methodLink RX11 185 yX11_comes) := GR13 _ (List.mem_of_getElem? (i := 10) rfl)
theorem G_13_9 : GW (Cond.code yX11_carry cX11_carry 2 (some .int)) := GR13 _ (List.mem_of_getElem? (i := 9) rfl)
theorem G_13_8 : GW (Cond.selects RX11 yX11_carry yX11_carry) := GR13 _ (List.mem_of_getElem? (i := 8) rfl)
theorem G_13_7 : GW (Cond.instanceMethod yX11_carry) := GR13 _ (List.mem_of_getElem? (i := 7) rfl)
theorem G_13_6 : GW (Cond.methodLink RX11 118 yX11_carry) := GR13 _ (List.mem_of_getElem? (i := 6) rfl)
theorem G_13_5 : GW (Cond.fieldLink RX11 90 "EachSecondStruckModel" "stepMany" "I") := GR13 _ (List.mem_of_getElem? (i := 5) rfl)
theorem G_13_4 : GW (Cond.fieldLink RX11 87 "EachSecondStruckModel" "kind" "I") := GR13 _ (List.mem_of_getElem? (i := 4) rfl)
theorem GB_wsX11_row_r3 : GoodIn wsL_law wsX11_row_r3 := (gcons G_5_15 (gcons G_5_16 (gcons G_6_18 (gcons G_13_4 (gcons G_5_17 (gcons G_13_5 (gcons G_5_18 (gcons G_5_19 (gcons G_5_20 (gcons G_13_6 (gcons G_13_7 (gcons G_13_8 (gcons G_13_9 (gcons G_13_10 (gcons G_13_11 (gcons G_13_12 (gcons G_13_13 (gcons G_13_14 (gcons G_6_14 (gcons G_6_15 (gcons G_6_16 (gcons G_6_17 (gcons G_13_15 (gcons G_13_16 gnil))))))))))))))))))))))))
theorem G_14_2 : GW (Cond.code yX11_close cX11_close 1 none) := GR14 _ (List.mem_of_getElem? (i := 2) rfl)
theorem G_14_1 : GW (Cond.selects RX11 yX11_close yX11_close) := GR14 _ (List.mem_of_getElem? (i := 1) rfl)
theorem G_14_0 : GW (Cond.instanceMethod yX11_close) := GR14 _ (List.mem_of_getElem? (i := 0) rfl)
theorem G_13_23 : GW (Cond.methodLink RX11 134 yX11_close) := GR13 _ (List.mem_of_getElem? (i := 23) rfl)
theorem G_13_22 : GW (Cond.code yX11_change cX11_change 6 none) := GR13 _ (List.mem_of_getElem? (i := 22) rfl)
theorem G_13_21 : GW (Cond.selects RX11 yX11_change yX11_change) := GR13 _ (List.mem_of_getElem? (i := 21) rfl)
theorem G_13_20 : GW (Cond.instanceMethod yX11_change) := GR13 _ (List.mem_of_getElem? (i := 20) rfl)
theorem G_13_19 : GW (Cond.methodLink RX11 178 yX11_change) := GR13 _ (List.mem_of_getElem? (i := 19) rfl)
theorem G_13_18 : GW (Cond.code yX11_isNumber cX11_isNumber 2 (some .boolean)) := GR13 _ (List.mem_of_getElem? (i := 18) rfl)
theorem G_13_17 : GW (Cond.selects RX11 yX11_isNumber yX11_isNumber) := GR13 _ (List.mem_of_getElem? (i := 17) rfl)
theorem GB_wsX11_row_r4 : GoodIn wsL_law wsX11_row_r4 := (gcons G_13_17 (gcons G_13_18 (gcons G_13_19 (gcons G_13_20 (gcons G_13_21 (gcons G_13_22 (gcons G_13_23 (gcons G_14_0 (gcons G_14_1 (gcons G_14_2 gnil))))))))))
theorem G_11_12 : GW (Cond.code yX11_row cX11_row 2 (some .int)) := GR11 _ (List.mem_of_getElem? (i := 12) rfl)
theorem ggL_law_X11_row : GoodIn wsL_law wsX11_row := gcons G_11_12 (goodIn_app (goodIn_app GB_wsX11_row_r1 (goodIn_app GB_wsX11_row_r2 (goodIn_app GB_wsX11_row_r3 GB_wsX11_row_r4))) GTwsX110)
set_option maxRecDepth 20000 in
theorem gL_law_X11_row : GoodIn wsL_law (wsV RL 22 RX11 yX11_row wsX11_row) := goodIn_app (goodIn_of _ (by decide +kernel)) ggL_law_X11_row
theorem G_14_6 : GW (Cond.code yX10_set cX10_set 3 (some .int)) := GR14 _ (List.mem_of_getElem? (i := 6) rfl)
theorem G_14_14 : GW (Cond.code yX10_setFigure cX10_setFigure 3 (some .int)) := GR14 _ (List.mem_of_getElem? (i := 14) rfl)
theorem G_14_13 : GW (Cond.selects RX10 yX10_setFigure yX10_setFigure) := GR14 _ (List.mem_of_getElem? (i := 13) rfl)
theorem G_14_12 : GW (Cond.instanceMethod yX10_setFigure) := GR14 _ (List.mem_of_getElem? (i := 12) rfl)
theorem G_14_11 : GW (Cond.methodLink RX10 100 yX10_setFigure) := GR14 _ (List.mem_of_getElem? (i := 11) rfl)
theorem G_14_10 : GW (Cond.code yX10_setKind cX10_setKind 3 (some .int)) := GR14 _ (List.mem_of_getElem? (i := 10) rfl)
theorem G_14_9 : GW (Cond.selects RX10 yX10_setKind yX10_setKind) := GR14 _ (List.mem_of_getElem? (i := 9) rfl)
theorem G_14_8 : GW (Cond.instanceMethod yX10_setKind) := GR14 _ (List.mem_of_getElem? (i := 8) rfl)
theorem G_14_7 : GW (Cond.methodLink RX10 97 yX10_setKind) := GR14 _ (List.mem_of_getElem? (i := 7) rfl)
theorem ggL_law_X10_set : GoodIn wsL_law wsX10_set := gcons G_14_6 (goodIn_app (goodIn_app (gcons G_7_0 (gcons G_7_1 (gcons G_7_2 (gcons G_1_2 (gcons G_7_3 (gcons G_2_6 (gcons G_14_7 (gcons G_14_8 (gcons G_14_9 (gcons G_14_10 (gcons G_1_17 (gcons G_10_10 (gcons G_10_11 (gcons G_10_12 (gcons G_10_13 (gcons G_14_11 (gcons G_14_12 (gcons G_14_13 (gcons G_14_14 (gcons G_3_3 gnil)))))))))))))))))))) GTwsX100) GTwsX80)
set_option maxRecDepth 20000 in
theorem gL_law_X10_set : GoodIn wsL_law (wsV RL 23 RX10 yX10_set wsX10_set) := goodIn_app (goodIn_of _ (by decide +kernel)) ggL_law_X10_set
theorem G_14_18 : GW (Cond.code yX11_set cX11_set 5 (some .int)) := GR14 _ (List.mem_of_getElem? (i := 18) rfl)
theorem ggL_law_X11_set : GoodIn wsL_law wsX11_set := gcons G_14_18 (goodIn_app (gcons G_6_13 (gcons G_13_4 (gcons G_5_17 (gcons G_12_10 (gcons G_12_11 (gcons G_1_5 (gcons G_12_12 (gcons G_7_14 (gcons G_7_15 (gcons G_7_16 (gcons G_7_17 (gcons G_5_21 gnil)))))))))))) GTwsX110)
set_option maxRecDepth 20000 in
theorem gL_law_X11_set : GoodIn wsL_law (wsV RL 27 RX11 yX11_set wsX11_set) := goodIn_app (goodIn_of _ (by decide +kernel)) ggL_law_X11_set
theorem G_14_22 : GW (Cond.code yX10_step cX10_step 2 (some .int)) := GR14 _ (List.mem_of_getElem? (i := 22) rfl)
theorem G_14_23 : GW (Cond.fieldLink RX10 106 "EachSecondStruck$Standing" "stepCount" "I") := GR14 _ (List.mem_of_getElem? (i := 23) rfl)
theorem ggL_law_X10_step : GoodIn wsL_law wsX10_step := gcons G_14_22 (goodIn_app (goodIn_app (gcons G_1_17 (gcons G_14_23 (gcons G_7_0 (gcons G_7_1 (gcons G_7_2 (gcons G_1_2 (gcons G_7_3 (gcons G_2_6 (gcons G_10_17 (gcons G_10_18 (gcons G_10_19 (gcons G_1_16 (gcons G_10_20 (gcons G_9_16 (gcons G_3_7 (gcons G_10_15 (gcons G_10_16 gnil))))))))))))))))) GTwsX100) GTwsX80)
set_option maxRecDepth 20000 in
theorem gL_law_X10_step : GoodIn wsL_law (wsV RL 28 RX10 yX10_step wsX10_step) := goodIn_app (goodIn_of _ (by decide +kernel)) ggL_law_X10_step
theorem G_15_3 : GW (Cond.code yX11_step cX11_step 2 (some .int)) := GR15 _ (List.mem_of_getElem? (i := 3) rfl)
theorem ggL_law_X11_step : GoodIn wsL_law wsX11_step := gcons G_15_3 (goodIn_app (gcons G_6_13 (gcons G_13_5 (gcons G_5_18 (gcons G_7_14 (gcons G_7_15 (gcons G_7_16 (gcons G_1_5 (gcons G_7_17 (gcons G_5_21 gnil))))))))) GTwsX110)
set_option maxRecDepth 20000 in
theorem gL_law_X11_step : GoodIn wsL_law (wsV RL 31 RX11 yX11_step wsX11_step) := goodIn_app (goodIn_of _ (by decide +kernel)) ggL_law_X11_step
theorem G_15_8 : GW (Cond.methodLink RX10 109 yX8_hasNumber) := GR15 _ (List.mem_of_getElem? (i := 8) rfl)
theorem GB_wsX10_swap_r1 : GoodIn wsL_law wsX10_swap_r1 := (gcons G_1_17 (gcons G_15_8 (gcons G_11_2 (gcons G_11_3 (gcons G_1_16 (gcons G_11_4 (gcons G_5_4 (gcons G_7_0 (gcons G_7_1 (gcons G_7_2 (gcons G_1_2 (gcons G_7_3 (gcons G_2_6 (gcons G_10_21 (gcons G_10_22 (gcons G_10_23 (gcons G_11_0 (gcons G_5_6 (gcons G_3_8 (gcons G_11_1 (gcons G_11_5 (gcons G_11_6 (gcons G_11_7 (gcons G_11_8 gnil))))))))))))))))))))))))
theorem GB_wsX10_swap_r2 : GoodIn wsL_law wsX10_swap_r2 := (gcons G_5_5 gnil)
theorem G_15_7 : GW (Cond.code yX10_swap cX10_swap 3 (some .int)) := GR15 _ (List.mem_of_getElem? (i := 7) rfl)
theorem ggL_law_X10_swap : GoodIn wsL_law wsX10_swap := gcons G_15_7 (goodIn_app (goodIn_app (goodIn_app GB_wsX10_swap_r1 GB_wsX10_swap_r2) GTwsX100) GTwsX80)
set_option maxRecDepth 20000 in
theorem gL_law_X10_swap : GoodIn wsL_law (wsV RL 32 RX10 yX10_swap wsX10_swap) := goodIn_app (goodIn_of _ (by decide +kernel)) ggL_law_X10_swap
theorem G_15_12 : GW (Cond.code yX11_swap cX11_swap 3 (some .int)) := GR15 _ (List.mem_of_getElem? (i := 12) rfl)
theorem ggL_law_X11_swap : GoodIn wsL_law wsX11_swap := gcons G_15_12 (goodIn_app (gcons G_6_13 (gcons G_6_18 (gcons G_13_15 (gcons G_13_16 (gcons G_13_17 (gcons G_1_5 (gcons G_13_18 (gcons G_5_15 (gcons G_12_10 (gcons G_12_11 (gcons G_12_12 (gcons G_7_14 (gcons G_7_15 (gcons G_7_16 (gcons G_7_17 (gcons G_5_21 (gcons G_13_19 (gcons G_13_20 (gcons G_13_21 (gcons G_13_22 (gcons G_5_16 (gcons G_5_19 gnil)))))))))))))))))))))) GTwsX110)
set_option maxRecDepth 20000 in
theorem gL_law_X11_swap : GoodIn wsL_law (wsV RL 35 RX11 yX11_swap wsX11_swap) := goodIn_app (goodIn_of _ (by decide +kernel)) ggL_law_X11_swap
theorem G_16_7 : GW (Cond.code yX3_countIn cX3_countIn 3 (some .int)) := GR16 _ (List.mem_of_getElem? (i := 7) rfl)
theorem G_16_6 : GW (Cond.instanceMethod yX3_countIn) := GR16 _ (List.mem_of_getElem? (i := 6) rfl)
theorem G_16_5 : GW (Cond.selects RX3 ⟨"EachSecondStruck$Next", "countIn", "(LEachSecondStruck$Standing;I)I"⟩ yX3_countIn) := GR16 _ (List.mem_of_getElem? (i := 5) rfl)
theorem G_16_4 : GW (Cond.instanceMethod ⟨"EachSecondStruck$Next", "countIn", "(LEachSecondStruck$Standing;I)I"⟩) := GR16 _ (List.mem_of_getElem? (i := 4) rfl)
theorem G_16_3 : GW (Cond.selects RX2 ⟨"EachSecondStruck$Next", "countIn", "(LEachSecondStruck$Standing;I)I"⟩ yX6_countIn) := GR16 _ (List.mem_of_getElem? (i := 3) rfl)
theorem G_16_2 : GW (Cond.code yX6_countIn cX6_countIn 3 (some .int)) := GR16 _ (List.mem_of_getElem? (i := 2) rfl)
theorem G_16_1 : GW (Cond.instanceMethod yX6_countIn) := GR16 _ (List.mem_of_getElem? (i := 1) rfl)
theorem G_16_0 : GW (Cond.selects RX1 ⟨"EachSecondStruck$Next", "countIn", "(LEachSecondStruck$Standing;I)I"⟩ yX6_countIn) := GR16 _ (List.mem_of_getElem? (i := 0) rfl)
theorem G_15_23 : GW (Cond.sameMethod "EachSecondStruck$Next" "EachSecondStruck$Next" "countIn" "(LEachSecondStruck$Standing;I)I") := GR15 _ (List.mem_of_getElem? (i := 23) rfl)
theorem G_15_22 : GW (Cond.methodLink RX10 126 ⟨"EachSecondStruck$Next", "countIn", "(LEachSecondStruck$Standing;I)I"⟩) := GR15 _ (List.mem_of_getElem? (i := 22) rfl)
theorem G_15_21 : GW (Cond.code yX10_striker cX10_striker 2 (some (.object "EachSecondStruck$Next"))) := GR15 _ (List.mem_of_getElem? (i := 21) rfl)
theorem G_15_20 : GW (Cond.selects RX10 yX10_striker yX10_striker) := GR15 _ (List.mem_of_getElem? (i := 20) rfl)
theorem G_15_19 : GW (Cond.instanceMethod yX10_striker) := GR15 _ (List.mem_of_getElem? (i := 19) rfl)
theorem G_15_18 : GW (Cond.methodLink RX10 119 yX10_striker) := GR15 _ (List.mem_of_getElem? (i := 18) rfl)
theorem G_15_17 : GW (Cond.fieldLink RX10 123 "EachSecondStruck$Standing" "roundsBy" "I") := GR15 _ (List.mem_of_getElem? (i := 17) rfl)
theorem GB_wsX10_next_r1 : GoodIn wsL_law wsX10_next_r1 := (gcons G_1_17 (gcons G_10_10 (gcons G_15_17 (gcons G_15_18 (gcons G_15_19 (gcons G_15_20 (gcons G_1_2 (gcons G_15_21 (gcons G_1_13 (gcons G_10_11 (gcons G_10_12 (gcons G_10_13 (gcons G_15_22 (gcons G_15_23 (gcons G_16_0 (gcons G_16_1 (gcons G_2_8 (gcons G_16_2 (gcons G_16_3 (gcons G_16_4 (gcons G_16_5 (gcons G_16_6 (gcons G_3_2 (gcons G_16_7 gnil))))))))))))))))))))))))
theorem G_16_23 : GW (Cond.selects RX9 ⟨"EachSecondStruck$Next", "countIn", "(LEachSecondStruck$Standing;I)I"⟩ yX9_countIn) := GR16 _ (List.mem_of_getElem? (i := 23) rfl)
theorem G_16_22 : GW (Cond.fieldLink RX7 7 "EachSecondStruck$Standing" "figure" "I") := GR16 _ (List.mem_of_getElem? (i := 22) rfl)
theorem G_16_21 : GW (Cond.code yX7_countIn cX7_countIn 3 (some .int)) := GR16 _ (List.mem_of_getElem? (i := 21) rfl)
theorem G_16_20 : GW (Cond.instanceMethod yX7_countIn) := GR16 _ (List.mem_of_getElem? (i := 20) rfl)
theorem G_16_19 : GW (Cond.selects RX7 ⟨"EachSecondStruck$Next", "countIn", "(LEachSecondStruck$Standing;I)I"⟩ yX7_countIn) := GR16 _ (List.mem_of_getElem? (i := 19) rfl)
theorem G_16_18 : GW (Cond.selects RX6 yX6_countIn yX6_countIn) := GR16 _ (List.mem_of_getElem? (i := 18) rfl)
theorem G_16_17 : GW (Cond.methodLink RX10 126 yX6_countIn) := GR16 _ (List.mem_of_getElem? (i := 17) rfl)
theorem G_16_16 : GW (Cond.code yX8_numberAt cX8_numberAt 2 (some .int)) := GR16 _ (List.mem_of_getElem? (i := 16) rfl)
theorem G_16_15 : GW (Cond.selects RX8 yX8_numberAt yX8_numberAt) := GR16 _ (List.mem_of_getElem? (i := 15) rfl)
theorem G_16_14 : GW (Cond.instanceMethod yX8_numberAt) := GR16 _ (List.mem_of_getElem? (i := 14) rfl)
theorem G_16_13 : GW (Cond.methodLink RX5 13 yX8_numberAt) := GR16 _ (List.mem_of_getElem? (i := 13) rfl)
theorem G_16_12 : GW (Cond.methodLink RX5 17 Lib.Math.max.name) := GR16 _ (List.mem_of_getElem? (i := 12) rfl)
theorem G_16_11 : GW (Cond.fieldLink RX5 7 "EachSecondStruck$Standing" "there" "I") := GR16 _ (List.mem_of_getElem? (i := 11) rfl)
theorem G_16_10 : GW (Cond.code yX5_countIn cX5_countIn 4 (some .int)) := GR16 _ (List.mem_of_getElem? (i := 10) rfl)
theorem G_16_9 : GW (Cond.instanceMethod yX5_countIn) := GR16 _ (List.mem_of_getElem? (i := 9) rfl)
theorem G_16_8 : GW (Cond.selects RX5 ⟨"EachSecondStruck$Next", "countIn", "(LEachSecondStruck$Standing;I)I"⟩ yX5_countIn) := GR16 _ (List.mem_of_getElem? (i := 8) rfl)
theorem GB_wsX10_next_r2 : GoodIn wsL_law wsX10_next_r2 := (gcons G_16_8 (gcons G_16_9 (gcons G_2_11 (gcons G_16_10 (gcons G_16_11 (gcons G_16_12 (gcons G_4_1 (gcons G_4_2 (gcons G_4_3 (gcons G_16_13 (gcons G_16_14 (gcons G_16_15 (gcons G_1_16 (gcons G_16_16 (gcons G_5_5 (gcons G_3_8 (gcons G_16_17 (gcons G_16_18 (gcons G_16_19 (gcons G_16_20 (gcons G_2_14 (gcons G_16_21 (gcons G_16_22 (gcons G_16_23 gnil))))))))))))))))))))))))
theorem G_17_6 : GW (Cond.superclass RX9 RX7) := GR17 _ (List.mem_of_getElem? (i := 6) rfl)
theorem G_17_5 : GW (Cond.sameMethod "EachSecondStruck$Same" "EachSecondStruck$Same" "countIn" "(LEachSecondStruck$Standing;I)I") := GR17 _ (List.mem_of_getElem? (i := 5) rfl)
theorem G_17_4 : GW (Cond.methodLink RX9 13 yX7_countIn) := GR17 _ (List.mem_of_getElem? (i := 4) rfl)
theorem G_17_3 : GW (Cond.fieldLink RX9 17 "EachSecondStruck$Standing" "steps" "[I") := GR17 _ (List.mem_of_getElem? (i := 3) rfl)
theorem G_17_2 : GW (Cond.fieldLink RX9 7 "EachSecondStruck$Standing" "stepCount" "I") := GR17 _ (List.mem_of_getElem? (i := 2) rfl)
theorem G_17_1 : GW (Cond.code yX9_countIn cX9_countIn 3 (some .int)) := GR17 _ (List.mem_of_getElem? (i := 1) rfl)
theorem G_17_0 : GW (Cond.instanceMethod yX9_countIn) := GR17 _ (List.mem_of_getElem? (i := 0) rfl)
theorem GB_wsX10_next_r3 : GoodIn wsL_law wsX10_next_r3 := (gcons G_17_0 (gcons G_2_20 (gcons G_17_1 (gcons G_17_2 (gcons G_17_3 (gcons G_17_4 (gcons G_17_5 (gcons G_17_6 gnil))))))))
theorem G_15_16 : GW (Cond.code yX10_next cX10_next 1 (some .int)) := GR15 _ (List.mem_of_getElem? (i := 16) rfl)
theorem ggL_law_X10_next : GoodIn wsL_law wsX10_next := gcons G_15_16 (goodIn_app (goodIn_app (goodIn_app GB_wsX10_next_r1 (goodIn_app GB_wsX10_next_r2 GB_wsX10_next_r3)) GTwsX100) GTwsX80)
set_option maxRecDepth 20000 in
theorem gL_law_X10_next : GoodIn wsL_law (wsV RL 36 RX10 yX10_next wsX10_next) := goodIn_app (goodIn_of _ (by decide +kernel)) ggL_law_X10_next
theorem G_17_10 : GW (Cond.code yX11_next cX11_next 1 (some .int)) := GR17 _ (List.mem_of_getElem? (i := 10) rfl)
theorem G_17_14 : GW (Cond.code yX11_countOf cX11_countOf 3 (some .int)) := GR17 _ (List.mem_of_getElem? (i := 14) rfl)
theorem G_17_13 : GW (Cond.selects RX11 yX11_countOf yX11_countOf) := GR17 _ (List.mem_of_getElem? (i := 13) rfl)
theorem G_17_12 : GW (Cond.instanceMethod yX11_countOf) := GR17 _ (List.mem_of_getElem? (i := 12) rfl)
theorem G_17_11 : GW (Cond.methodLink RX11 93 yX11_countOf) := GR17 _ (List.mem_of_getElem? (i := 11) rfl)
theorem ggL_law_X11_next : GoodIn wsL_law wsX11_next := gcons G_17_10 (goodIn_app (gcons G_6_13 (gcons G_6_18 (gcons G_17_11 (gcons G_17_12 (gcons G_17_13 (gcons G_1_5 (gcons G_17_14 (gcons G_13_4 (gcons G_13_5 (gcons G_5_18 (gcons G_5_17 (gcons G_5_16 (gcons G_5_19 gnil))))))))))))) GTwsX110)
set_option maxRecDepth 20000 in
theorem gL_law_X11_next : GoodIn wsL_law (wsV RL 39 RX11 yX11_next wsX11_next) := goodIn_app (goodIn_of _ (by decide +kernel)) ggL_law_X11_next
theorem G_17_23 : GW (Cond.methodLink RX8 66 ⟨"EachSecondStruck$Next", "countIn", "(LEachSecondStruck$Standing;I)I"⟩) := GR17 _ (List.mem_of_getElem? (i := 23) rfl)
theorem G_17_22 : GW (Cond.code yX8_letRoundPass cX8_letRoundPass 4 (some .int)) := GR17 _ (List.mem_of_getElem? (i := 22) rfl)
theorem G_17_21 : GW (Cond.selects RX8 yX8_letRoundPass yX8_letRoundPass) := GR17 _ (List.mem_of_getElem? (i := 21) rfl)
theorem G_17_20 : GW (Cond.instanceMethod yX8_letRoundPass) := GR17 _ (List.mem_of_getElem? (i := 20) rfl)
theorem G_17_19 : GW (Cond.methodLink RX10 130 yX8_letRoundPass) := GR17 _ (List.mem_of_getElem? (i := 19) rfl)
theorem GB_wsX10_round_r1 : GoodIn wsL_law wsX10_round_r1 := (gcons G_1_17 (gcons G_15_17 (gcons G_10_10 (gcons G_7_0 (gcons G_7_1 (gcons G_7_2 (gcons G_1_2 (gcons G_7_3 (gcons G_2_6 (gcons G_15_18 (gcons G_15_19 (gcons G_15_20 (gcons G_15_21 (gcons G_1_13 (gcons G_10_11 (gcons G_10_12 (gcons G_10_13 (gcons G_17_19 (gcons G_17_20 (gcons G_17_21 (gcons G_1_16 (gcons G_17_22 (gcons G_5_6 (gcons G_17_23 gnil))))))))))))))))))))))))
theorem GB_wsX10_round_r2 : GoodIn wsL_law wsX10_round_r2 := (gcons G_15_23 (gcons G_16_0 (gcons G_16_1 (gcons G_2_8 (gcons G_16_2 (gcons G_16_3 (gcons G_16_4 (gcons G_16_5 (gcons G_16_6 (gcons G_3_2 (gcons G_16_7 (gcons G_16_8 (gcons G_16_9 (gcons G_2_11 (gcons G_16_10 (gcons G_16_11 (gcons G_16_12 (gcons G_4_1 (gcons G_4_2 (gcons G_4_3 (gcons G_16_13 (gcons G_16_14 (gcons G_16_15 (gcons G_16_16 gnil))))))))))))))))))))))))
theorem G_18_6 : GW (Cond.instanceMethod ⟨"EachSecondStruck$Next", "firstPlace", "(I)I"⟩) := GR18 _ (List.mem_of_getElem? (i := 6) rfl)
theorem G_18_5 : GW (Cond.code yX6_firstPlace cX6_firstPlace 2 (some .int)) := GR18 _ (List.mem_of_getElem? (i := 5) rfl)
theorem G_18_4 : GW (Cond.instanceMethod yX6_firstPlace) := GR18 _ (List.mem_of_getElem? (i := 4) rfl)
theorem G_18_3 : GW (Cond.selects RX1 ⟨"EachSecondStruck$Next", "firstPlace", "(I)I"⟩ yX6_firstPlace) := GR18 _ (List.mem_of_getElem? (i := 3) rfl)
theorem G_18_2 : GW (Cond.sameMethod "EachSecondStruck$Next" "EachSecondStruck$Next" "firstPlace" "(I)I") := GR18 _ (List.mem_of_getElem? (i := 2) rfl)
theorem G_18_1 : GW (Cond.methodLink RX8 72 ⟨"EachSecondStruck$Next", "firstPlace", "(I)I"⟩) := GR18 _ (List.mem_of_getElem? (i := 1) rfl)
theorem G_18_0 : GW (Cond.methodLink RX8 66 yX6_countIn) := GR18 _ (List.mem_of_getElem? (i := 0) rfl)
theorem GB_wsX10_round_r3 : GoodIn wsL_law wsX10_round_r3 := (gcons G_5_5 (gcons G_3_8 (gcons G_18_0 (gcons G_16_18 (gcons G_16_19 (gcons G_16_20 (gcons G_2_14 (gcons G_16_21 (gcons G_16_22 (gcons G_16_23 (gcons G_17_0 (gcons G_2_20 (gcons G_17_1 (gcons G_17_2 (gcons G_17_3 (gcons G_17_4 (gcons G_17_5 (gcons G_17_6 (gcons G_18_1 (gcons G_18_2 (gcons G_18_3 (gcons G_18_4 (gcons G_18_5 (gcons G_18_6 gnil))))))))))))))))))))))))
theorem G_19_4 : GW (Cond.selects RX6 yX6_isFromBack yX6_isFromBack) := GR19 _ (List.mem_of_getElem? (i := 4) rfl)
theorem G_19_3 : GW (Cond.methodLink RX8 75 yX6_isFromBack) := GR19 _ (List.mem_of_getElem? (i := 3) rfl)
theorem G_19_2 : GW (Cond.selects RX5 ⟨"EachSecondStruck$Next", "isFromBack", "(I)Z"⟩ yX6_isFromBack) := GR19 _ (List.mem_of_getElem? (i := 2) rfl)
theorem G_19_1 : GW (Cond.selects RX3 ⟨"EachSecondStruck$Next", "isFromBack", "(I)Z"⟩ yX1_isFromBack) := GR19 _ (List.mem_of_getElem? (i := 1) rfl)
theorem G_19_0 : GW (Cond.instanceMethod yX6_isFromBack) := GR19 _ (List.mem_of_getElem? (i := 0) rfl)
theorem G_18_23 : GW (Cond.selects RX2 ⟨"EachSecondStruck$Next", "isFromBack", "(I)Z"⟩ yX6_isFromBack) := GR18 _ (List.mem_of_getElem? (i := 23) rfl)
theorem G_18_22 : GW (Cond.code yX6_isFromBack cX6_isFromBack 2 (some .boolean)) := GR18 _ (List.mem_of_getElem? (i := 22) rfl)
theorem G_18_21 : GW (Cond.code yX1_isFromBack cX1_isFromBack 2 (some .boolean)) := GR18 _ (List.mem_of_getElem? (i := 21) rfl)
theorem G_18_20 : GW (Cond.instanceMethod yX1_isFromBack) := GR18 _ (List.mem_of_getElem? (i := 20) rfl)
theorem G_18_19 : GW (Cond.selects RX1 ⟨"EachSecondStruck$Next", "isFromBack", "(I)Z"⟩ yX1_isFromBack) := GR18 _ (List.mem_of_getElem? (i := 19) rfl)
theorem G_18_18 : GW (Cond.instanceMethod ⟨"EachSecondStruck$Next", "isFromBack", "(I)Z"⟩) := GR18 _ (List.mem_of_getElem? (i := 18) rfl)
theorem G_18_17 : GW (Cond.sameMethod "EachSecondStruck$Next" "EachSecondStruck$Next" "isFromBack" "(I)Z") := GR18 _ (List.mem_of_getElem? (i := 17) rfl)
theorem G_18_16 : GW (Cond.methodLink RX8 75 ⟨"EachSecondStruck$Next", "isFromBack", "(I)Z"⟩) := GR18 _ (List.mem_of_getElem? (i := 16) rfl)
theorem G_18_15 : GW (Cond.selects RX9 ⟨"EachSecondStruck$Next", "firstPlace", "(I)I"⟩ yX6_firstPlace) := GR18 _ (List.mem_of_getElem? (i := 15) rfl)
theorem G_18_14 : GW (Cond.selects RX7 ⟨"EachSecondStruck$Next", "firstPlace", "(I)I"⟩ yX6_firstPlace) := GR18 _ (List.mem_of_getElem? (i := 14) rfl)
theorem G_18_13 : GW (Cond.selects RX6 yX6_firstPlace yX6_firstPlace) := GR18 _ (List.mem_of_getElem? (i := 13) rfl)
theorem G_18_12 : GW (Cond.methodLink RX8 72 yX6_firstPlace) := GR18 _ (List.mem_of_getElem? (i := 12) rfl)
theorem G_18_11 : GW (Cond.selects RX5 ⟨"EachSecondStruck$Next", "firstPlace", "(I)I"⟩ yX6_firstPlace) := GR18 _ (List.mem_of_getElem? (i := 11) rfl)
theorem G_18_10 : GW (Cond.selects RX3 ⟨"EachSecondStruck$Next", "firstPlace", "(I)I"⟩ yX6_firstPlace) := GR18 _ (List.mem_of_getElem? (i := 10) rfl)
theorem G_18_9 : GW (Cond.code yX2_firstPlace cX2_firstPlace 2 (some .int)) := GR18 _ (List.mem_of_getElem? (i := 9) rfl)
theorem G_18_8 : GW (Cond.instanceMethod yX2_firstPlace) := GR18 _ (List.mem_of_getElem? (i := 8) rfl)
theorem G_18_7 : GW (Cond.selects RX2 ⟨"EachSecondStruck$Next", "firstPlace", "(I)I"⟩ yX2_firstPlace) := GR18 _ (List.mem_of_getElem? (i := 7) rfl)
theorem GB_wsX10_round_r4 : GoodIn wsL_law wsX10_round_r4 := (gcons G_18_7 (gcons G_18_8 (gcons G_2_23 (gcons G_18_9 (gcons G_18_10 (gcons G_18_11 (gcons G_18_12 (gcons G_18_13 (gcons G_18_14 (gcons G_18_15 (gcons G_18_16 (gcons G_18_17 (gcons G_18_18 (gcons G_18_19 (gcons G_18_20 (gcons G_2_17 (gcons G_18_21 (gcons G_18_22 (gcons G_18_23 (gcons G_19_0 (gcons G_19_1 (gcons G_19_2 (gcons G_19_3 (gcons G_19_4 gnil))))))))))))))))))))))))
theorem G_19_19 : GW (Cond.code yX8_closeUp cX8_closeUp 4 none) := GR19 _ (List.mem_of_getElem? (i := 19) rfl)
theorem G_19_18 : GW (Cond.selects RX8 yX8_closeUp yX8_closeUp) := GR19 _ (List.mem_of_getElem? (i := 18) rfl)
theorem G_19_17 : GW (Cond.instanceMethod yX8_closeUp) := GR19 _ (List.mem_of_getElem? (i := 17) rfl)
theorem G_19_16 : GW (Cond.methodLink RX8 92 yX8_closeUp) := GR19 _ (List.mem_of_getElem? (i := 16) rfl)
theorem G_19_15 : GW (Cond.code yX8_goneCount cX8_goneCount 1 (some .int)) := GR19 _ (List.mem_of_getElem? (i := 15) rfl)
theorem G_19_14 : GW (Cond.selects RX8 yX8_goneCount yX8_goneCount) := GR19 _ (List.mem_of_getElem? (i := 14) rfl)
theorem G_19_13 : GW (Cond.instanceMethod yX8_goneCount) := GR19 _ (List.mem_of_getElem? (i := 13) rfl)
theorem G_19_12 : GW (Cond.methodLink RX8 88 yX8_goneCount) := GR19 _ (List.mem_of_getElem? (i := 12) rfl)
theorem G_19_11 : GW (Cond.methodLink RX8 82 Lib.Math.max.name) := GR19 _ (List.mem_of_getElem? (i := 11) rfl)
theorem G_19_10 : GW (Cond.code yX8_strike cX8_strike 10 (some .int)) := GR19 _ (List.mem_of_getElem? (i := 10) rfl)
theorem G_19_9 : GW (Cond.selects RX8 yX8_strike yX8_strike) := GR19 _ (List.mem_of_getElem? (i := 9) rfl)
theorem G_19_8 : GW (Cond.instanceMethod yX8_strike) := GR19 _ (List.mem_of_getElem? (i := 8) rfl)
theorem G_19_7 : GW (Cond.methodLink RX8 78 yX8_strike) := GR19 _ (List.mem_of_getElem? (i := 7) rfl)
theorem G_19_6 : GW (Cond.selects RX9 ⟨"EachSecondStruck$Next", "isFromBack", "(I)Z"⟩ yX6_isFromBack) := GR19 _ (List.mem_of_getElem? (i := 6) rfl)
theorem G_19_5 : GW (Cond.selects RX7 ⟨"EachSecondStruck$Next", "isFromBack", "(I)Z"⟩ yX6_isFromBack) := GR19 _ (List.mem_of_getElem? (i := 5) rfl)
theorem GB_wsX10_round_r5 : GoodIn wsL_law wsX10_round_r5 := (gcons G_19_5 (gcons G_19_6 (gcons G_19_7 (gcons G_19_8 (gcons G_19_9 (gcons G_19_10 (gcons G_19_11 (gcons G_3_10 (gcons G_3_9 (gcons G_19_12 (gcons G_19_13 (gcons G_19_14 (gcons G_19_15 (gcons G_5_4 (gcons G_19_16 (gcons G_19_17 (gcons G_19_18 (gcons G_19_19 gnil))))))))))))))))))
theorem G_17_18 : GW (Cond.code yX10_round cX10_round 1 (some .int)) := GR17 _ (List.mem_of_getElem? (i := 18) rfl)
theorem ggL_law_X10_round : GoodIn wsL_law wsX10_round := gcons G_17_18 (goodIn_app (goodIn_app (goodIn_app GB_wsX10_round_r1 (goodIn_app GB_wsX10_round_r2 (goodIn_app GB_wsX10_round_r3 (goodIn_app GB_wsX10_round_r4 GB_wsX10_round_r5)))) GTwsX100) GTwsX80)
set_option maxRecDepth 20000 in
theorem gL_law_X10_round : GoodIn wsL_law (wsV RL 40 RX10 yX10_round wsX10_round) := goodIn_app (goodIn_of _ (by decide +kernel)) ggL_law_X10_round
theorem G_20_5 : GW (Cond.instanceMethod yX11_strike) := GR20 _ (List.mem_of_getElem? (i := 5) rfl)
theorem G_20_4 : GW (Cond.methodLink RX11 97 yX11_strike) := GR20 _ (List.mem_of_getElem? (i := 4) rfl)
theorem G_20_3 : GW (Cond.code yX11_roundOn cX11_roundOn 2 (some .int)) := GR20 _ (List.mem_of_getElem? (i := 3) rfl)
theorem G_20_2 : GW (Cond.selects RX11 yX11_roundOn yX11_roundOn) := GR20 _ (List.mem_of_getElem? (i := 2) rfl)
theorem G_20_1 : GW (Cond.instanceMethod yX11_roundOn) := GR20 _ (List.mem_of_getElem? (i := 1) rfl)
theorem G_20_0 : GW (Cond.methodLink RX11 104 yX11_roundOn) := GR20 _ (List.mem_of_getElem? (i := 0) rfl)
theorem GB_wsX11_round_r1 : GoodIn wsL_law wsX11_round_r1 := (gcons G_6_13 (gcons G_6_18 (gcons G_7_14 (gcons G_7_15 (gcons G_7_16 (gcons G_1_5 (gcons G_7_17 (gcons G_5_21 (gcons G_20_0 (gcons G_20_1 (gcons G_20_2 (gcons G_20_3 (gcons G_13_4 (gcons G_17_11 (gcons G_17_12 (gcons G_17_13 (gcons G_17_14 (gcons G_13_5 (gcons G_5_18 (gcons G_5_17 (gcons G_5_16 (gcons G_5_19 (gcons G_20_4 (gcons G_20_5 gnil))))))))))))))))))))))))
theorem G_20_7 : GW (Cond.code yX11_strike cX11_strike 8 (some .int)) := GR20 _ (List.mem_of_getElem? (i := 7) rfl)
theorem G_20_6 : GW (Cond.selects RX11 yX11_strike yX11_strike) := GR20 _ (List.mem_of_getElem? (i := 6) rfl)
theorem GB_wsX11_round_r2 : GoodIn wsL_law wsX11_round_r2 := (gcons G_20_6 (gcons G_20_7 (gcons G_5_22 (gcons G_5_20 gnil))))
theorem G_19_23 : GW (Cond.code yX11_round cX11_round 1 (some .int)) := GR19 _ (List.mem_of_getElem? (i := 23) rfl)
theorem ggL_law_X11_round : GoodIn wsL_law wsX11_round := gcons G_19_23 (goodIn_app (goodIn_app GB_wsX11_round_r1 GB_wsX11_round_r2) GTwsX110)
set_option maxRecDepth 20000 in
theorem gL_law_X11_round : GoodIn wsL_law (wsV RL 43 RX11 yX11_round wsX11_round) := goodIn_app (goodIn_of _ (by decide +kernel)) ggL_law_X11_round
theorem G_20_11 : GW (Cond.code yX10_left cX10_left 2 (some .int)) := GR20 _ (List.mem_of_getElem? (i := 11) rfl)
theorem G_20_12 : GW (Cond.methodLink RX10 134 yX8_numberAt) := GR20 _ (List.mem_of_getElem? (i := 12) rfl)
theorem ggL_law_X10_left : GoodIn wsL_law wsX10_left := gcons G_20_11 (goodIn_app (goodIn_app (gcons G_1_17 (gcons G_7_0 (gcons G_7_1 (gcons G_7_2 (gcons G_1_2 (gcons G_7_3 (gcons G_2_6 (gcons G_20_12 (gcons G_16_14 (gcons G_16_15 (gcons G_1_16 (gcons G_16_16 (gcons G_5_5 (gcons G_3_8 gnil)))))))))))))) GTwsX100) GTwsX80)
set_option maxRecDepth 20000 in
theorem gL_law_X10_left : GoodIn wsL_law (wsV RL 44 RX10 yX10_left wsX10_left) := goodIn_app (goodIn_of _ (by decide +kernel)) ggL_law_X10_left
theorem G_20_16 : GW (Cond.code yX11_left cX11_left 2 (some .int)) := GR20 _ (List.mem_of_getElem? (i := 16) rfl)
theorem ggL_law_X11_left : GoodIn wsL_law wsX11_left := gcons G_20_16 (goodIn_app (gcons G_6_13 (gcons G_5_16 (gcons G_5_19 (gcons G_7_14 (gcons G_7_15 (gcons G_7_16 (gcons G_1_5 (gcons G_7_17 (gcons G_5_21 gnil))))))))) GTwsX110)
set_option maxRecDepth 20000 in
theorem gL_law_X11_left : GoodIn wsL_law (wsV RL 47 RX11 yX11_left wsX11_left) := goodIn_app (goodIn_of _ (by decide +kernel)) ggL_law_X11_left
theorem G_20_20 : GW (Cond.code yX10_place cX10_place 2 (some .int)) := GR20 _ (List.mem_of_getElem? (i := 20) rfl)
theorem G_20_21 : GW (Cond.methodLink RX10 137 yX8_placeOf) := GR20 _ (List.mem_of_getElem? (i := 21) rfl)
theorem ggL_law_X10_place : GoodIn wsL_law wsX10_place := gcons G_20_20 (goodIn_app (goodIn_app (gcons G_1_17 (gcons G_15_8 (gcons G_11_2 (gcons G_11_3 (gcons G_1_16 (gcons G_11_4 (gcons G_5_4 (gcons G_7_0 (gcons G_7_1 (gcons G_7_2 (gcons G_1_2 (gcons G_7_3 (gcons G_2_6 (gcons G_20_21 (gcons G_11_6 (gcons G_11_7 (gcons G_11_8 (gcons G_5_5 (gcons G_3_8 gnil))))))))))))))))))) GTwsX100) GTwsX80)
set_option maxRecDepth 20000 in
theorem gL_law_X10_place : GoodIn wsL_law (wsV RL 48 RX10 yX10_place wsX10_place) := goodIn_app (goodIn_of _ (by decide +kernel)) ggL_law_X10_place
theorem G_21_1 : GW (Cond.code yX11_place cX11_place 2 (some .int)) := GR21 _ (List.mem_of_getElem? (i := 1) rfl)
theorem G_21_5 : GW (Cond.code yX11_placeNow cX11_placeNow 3 (some .int)) := GR21 _ (List.mem_of_getElem? (i := 5) rfl)
theorem G_21_4 : GW (Cond.selects RX11 yX11_placeNow yX11_placeNow) := GR21 _ (List.mem_of_getElem? (i := 4) rfl)
theorem G_21_3 : GW (Cond.instanceMethod yX11_placeNow) := GR21 _ (List.mem_of_getElem? (i := 3) rfl)
theorem G_21_2 : GW (Cond.methodLink RX11 188 yX11_placeNow) := GR21 _ (List.mem_of_getElem? (i := 2) rfl)
theorem ggL_law_X11_place : GoodIn wsL_law wsX11_place := gcons G_21_1 (goodIn_app (gcons G_6_13 (gcons G_13_15 (gcons G_13_16 (gcons G_13_17 (gcons G_1_5 (gcons G_13_18 (gcons G_5_15 (gcons G_12_10 (gcons G_12_11 (gcons G_12_12 (gcons G_21_2 (gcons G_21_3 (gcons G_21_4 (gcons G_21_5 (gcons G_5_16 (gcons G_5_19 (gcons G_7_14 (gcons G_7_15 (gcons G_7_16 (gcons G_7_17 (gcons G_5_21 gnil))))))))))))))))))))) GTwsX110)
set_option maxRecDepth 20000 in
theorem gL_law_X11_place : GoodIn wsL_law (wsV RL 51 RX11 yX11_place wsX11_place) := goodIn_app (goodIn_of _ (by decide +kernel)) ggL_law_X11_place
theorem G_21_14 : GW (Cond.code yX10_goToEnd cX10_goToEnd 1 (some .int)) := GR21 _ (List.mem_of_getElem? (i := 14) rfl)
theorem G_21_13 : GW (Cond.selects RX10 yX10_goToEnd yX10_goToEnd) := GR21 _ (List.mem_of_getElem? (i := 13) rfl)
theorem G_21_12 : GW (Cond.instanceMethod yX10_goToEnd) := GR21 _ (List.mem_of_getElem? (i := 12) rfl)
theorem G_21_11 : GW (Cond.methodLink RX10 140 yX10_goToEnd) := GR21 _ (List.mem_of_getElem? (i := 11) rfl)
theorem G_21_10 : GW (Cond.fieldLink RX10 146 "EachSecondStruck$Standing" "wentIn" "[I") := GR21 _ (List.mem_of_getElem? (i := 10) rfl)
theorem GB_wsX10_when_r1 : GoodIn wsL_law wsX10_when_r1 := (gcons G_1_17 (gcons G_1_18 (gcons G_21_10 (gcons G_15_8 (gcons G_11_2 (gcons G_11_3 (gcons G_1_16 (gcons G_11_4 (gcons G_5_4 (gcons G_7_0 (gcons G_7_1 (gcons G_7_2 (gcons G_1_2 (gcons G_7_3 (gcons G_2_6 (gcons G_21_11 (gcons G_21_12 (gcons G_21_13 (gcons G_21_14 (gcons G_10_10 (gcons G_9_10 (gcons G_9_11 (gcons G_9_12 (gcons G_9_13 gnil))))))))))))))))))))))))
theorem G_21_17 : GW (Cond.selects RX8 yX8_goToEnd yX8_goToEnd) := GR21 _ (List.mem_of_getElem? (i := 17) rfl)
theorem G_21_16 : GW (Cond.instanceMethod yX8_goToEnd) := GR21 _ (List.mem_of_getElem? (i := 16) rfl)
theorem G_21_15 : GW (Cond.methodLink RX10 169 yX8_goToEnd) := GR21 _ (List.mem_of_getElem? (i := 15) rfl)
theorem GB_wsX10_when_r2 : GoodIn wsL_law wsX10_when_r2 := (gcons G_5_5 (gcons G_5_6 (gcons G_9_14 (gcons G_9_15 (gcons G_9_16 (gcons G_3_7 (gcons G_9_17 (gcons G_9_18 (gcons G_9_19 (gcons G_9_20 (gcons G_3_8 (gcons G_3_9 (gcons G_3_10 (gcons G_15_18 (gcons G_15_19 (gcons G_15_20 (gcons G_15_21 (gcons G_1_13 (gcons G_10_11 (gcons G_10_12 (gcons G_10_13 (gcons G_21_15 (gcons G_21_16 (gcons G_21_17 gnil))))))))))))))))))))))))
theorem G_22_11 : GW (Cond.methodLink RX8 99 yX8_letRoundPass) := GR22 _ (List.mem_of_getElem? (i := 11) rfl)
theorem G_22_10 : GW (Cond.methodLink RX9 21 Lib.Math.max.name) := GR22 _ (List.mem_of_getElem? (i := 10) rfl)
theorem G_22_9 : GW (Cond.code yX9_idleRoundsToEnd cX9_idleRoundsToEnd 2 (some .int)) := GR22 _ (List.mem_of_getElem? (i := 9) rfl)
theorem G_22_8 : GW (Cond.instanceMethod yX9_idleRoundsToEnd) := GR22 _ (List.mem_of_getElem? (i := 8) rfl)
theorem G_22_7 : GW (Cond.selects RX9 ⟨"EachSecondStruck$Next", "idleRoundsToEnd", "(LEachSecondStruck$Standing;)I"⟩ yX9_idleRoundsToEnd) := GR22 _ (List.mem_of_getElem? (i := 7) rfl)
theorem G_22_6 : GW (Cond.instanceMethod ⟨"EachSecondStruck$Next", "idleRoundsToEnd", "(LEachSecondStruck$Standing;)I"⟩) := GR22 _ (List.mem_of_getElem? (i := 6) rfl)
theorem G_22_5 : GW (Cond.selects RX7 ⟨"EachSecondStruck$Next", "idleRoundsToEnd", "(LEachSecondStruck$Standing;)I"⟩ yX6_idleRoundsToEnd) := GR22 _ (List.mem_of_getElem? (i := 5) rfl)
theorem G_22_4 : GW (Cond.selects RX6 yX6_idleRoundsToEnd yX6_idleRoundsToEnd) := GR22 _ (List.mem_of_getElem? (i := 4) rfl)
theorem G_22_3 : GW (Cond.methodLink RX8 95 yX6_idleRoundsToEnd) := GR22 _ (List.mem_of_getElem? (i := 3) rfl)
theorem G_22_2 : GW (Cond.selects RX5 ⟨"EachSecondStruck$Next", "idleRoundsToEnd", "(LEachSecondStruck$Standing;)I"⟩ yX6_idleRoundsToEnd) := GR22 _ (List.mem_of_getElem? (i := 2) rfl)
theorem G_22_1 : GW (Cond.selects RX3 ⟨"EachSecondStruck$Next", "idleRoundsToEnd", "(LEachSecondStruck$Standing;)I"⟩ yX6_idleRoundsToEnd) := GR22 _ (List.mem_of_getElem? (i := 1) rfl)
theorem G_22_0 : GW (Cond.selects RX2 ⟨"EachSecondStruck$Next", "idleRoundsToEnd", "(LEachSecondStruck$Standing;)I"⟩ yX6_idleRoundsToEnd) := GR22 _ (List.mem_of_getElem? (i := 0) rfl)
theorem G_21_23 : GW (Cond.code yX6_idleRoundsToEnd cX6_idleRoundsToEnd 2 (some .int)) := GR21 _ (List.mem_of_getElem? (i := 23) rfl)
theorem G_21_22 : GW (Cond.instanceMethod yX6_idleRoundsToEnd) := GR21 _ (List.mem_of_getElem? (i := 22) rfl)
theorem G_21_21 : GW (Cond.selects RX1 ⟨"EachSecondStruck$Next", "idleRoundsToEnd", "(LEachSecondStruck$Standing;)I"⟩ yX6_idleRoundsToEnd) := GR21 _ (List.mem_of_getElem? (i := 21) rfl)
theorem G_21_20 : GW (Cond.sameMethod "EachSecondStruck$Next" "EachSecondStruck$Next" "idleRoundsToEnd" "(LEachSecondStruck$Standing;)I") := GR21 _ (List.mem_of_getElem? (i := 20) rfl)
theorem G_21_19 : GW (Cond.methodLink RX8 95 ⟨"EachSecondStruck$Next", "idleRoundsToEnd", "(LEachSecondStruck$Standing;)I"⟩) := GR21 _ (List.mem_of_getElem? (i := 19) rfl)
theorem G_21_18 : GW (Cond.code yX8_goToEnd cX8_goToEnd 5 (some .int)) := GR21 _ (List.mem_of_getElem? (i := 18) rfl)
theorem GB_wsX10_when_r3 : GoodIn wsL_law wsX10_when_r3 := (gcons G_21_18 (gcons G_21_19 (gcons G_21_20 (gcons G_21_21 (gcons G_21_22 (gcons G_2_8 (gcons G_21_23 (gcons G_22_0 (gcons G_22_1 (gcons G_22_2 (gcons G_22_3 (gcons G_22_4 (gcons G_22_5 (gcons G_22_6 (gcons G_22_7 (gcons G_22_8 (gcons G_2_20 (gcons G_22_9 (gcons G_17_2 (gcons G_22_10 (gcons G_4_1 (gcons G_4_2 (gcons G_4_3 (gcons G_22_11 gnil))))))))))))))))))))))))
theorem GB_wsX10_when_r4 : GoodIn wsL_law wsX10_when_r4 := (gcons G_17_20 (gcons G_17_21 (gcons G_17_22 (gcons G_17_23 (gcons G_15_23 (gcons G_16_0 (gcons G_16_1 (gcons G_16_2 (gcons G_16_3 (gcons G_16_4 (gcons G_16_5 (gcons G_16_6 (gcons G_3_2 (gcons G_16_7 (gcons G_16_8 (gcons G_16_9 (gcons G_2_11 (gcons G_16_10 (gcons G_16_11 (gcons G_16_12 (gcons G_16_13 (gcons G_16_14 (gcons G_16_15 (gcons G_16_16 gnil))))))))))))))))))))))))
theorem GB_wsX10_when_r5 : GoodIn wsL_law wsX10_when_r5 := (gcons G_18_0 (gcons G_16_18 (gcons G_16_19 (gcons G_16_20 (gcons G_2_14 (gcons G_16_21 (gcons G_16_22 (gcons G_16_23 (gcons G_17_0 (gcons G_17_1 (gcons G_17_3 (gcons G_17_4 (gcons G_17_5 (gcons G_17_6 (gcons G_18_1 (gcons G_18_2 (gcons G_18_3 (gcons G_18_4 (gcons G_18_5 (gcons G_18_6 (gcons G_18_7 (gcons G_18_8 (gcons G_2_23 (gcons G_18_9 gnil))))))))))))))))))))))))
theorem GB_wsX10_when_r6 : GoodIn wsL_law wsX10_when_r6 := (gcons G_18_10 (gcons G_18_11 (gcons G_18_12 (gcons G_18_13 (gcons G_18_14 (gcons G_18_15 (gcons G_18_16 (gcons G_18_17 (gcons G_18_18 (gcons G_18_19 (gcons G_18_20 (gcons G_2_17 (gcons G_18_21 (gcons G_18_22 (gcons G_18_23 (gcons G_19_0 (gcons G_19_1 (gcons G_19_2 (gcons G_19_3 (gcons G_19_4 (gcons G_19_5 (gcons G_19_6 (gcons G_19_7 (gcons G_19_8 gnil))))))))))))))))))))))))
theorem G_22_15 : GW (Cond.code yX8_remains cX8_remains 2 (some .boolean)) := GR22 _ (List.mem_of_getElem? (i := 15) rfl)
theorem G_22_14 : GW (Cond.selects RX8 yX8_remains yX8_remains) := GR22 _ (List.mem_of_getElem? (i := 14) rfl)
theorem G_22_13 : GW (Cond.instanceMethod yX8_remains) := GR22 _ (List.mem_of_getElem? (i := 13) rfl)
theorem G_22_12 : GW (Cond.methodLink RX10 143 yX8_remains) := GR22 _ (List.mem_of_getElem? (i := 12) rfl)
theorem GB_wsX10_when_r7 : GoodIn wsL_law wsX10_when_r7 := (gcons G_19_9 (gcons G_19_10 (gcons G_19_11 (gcons G_19_12 (gcons G_19_13 (gcons G_19_14 (gcons G_19_15 (gcons G_19_16 (gcons G_19_17 (gcons G_19_18 (gcons G_19_19 (gcons G_22_12 (gcons G_22_13 (gcons G_22_14 (gcons G_22_15 (gcons G_11_1 gnil))))))))))))))))
theorem G_21_9 : GW (Cond.code yX10_when cX10_when 2 (some .int)) := GR21 _ (List.mem_of_getElem? (i := 9) rfl)
theorem ggL_law_X10_when : GoodIn wsL_law wsX10_when := gcons G_21_9 (goodIn_app (goodIn_app (goodIn_app GB_wsX10_when_r1 (goodIn_app GB_wsX10_when_r2 (goodIn_app GB_wsX10_when_r3 (goodIn_app GB_wsX10_when_r4 (goodIn_app GB_wsX10_when_r5 (goodIn_app GB_wsX10_when_r6 GB_wsX10_when_r7)))))) GTwsX100) GTwsX80)
set_option maxRecDepth 20000 in
theorem gL_law_X10_when : GoodIn wsL_law (wsV RL 52 RX10 yX10_when wsX10_when) := goodIn_app (goodIn_of _ (by decide +kernel)) ggL_law_X10_when
theorem G_23_0 : GW (Cond.fieldLink RX11 131 "EachSecondStruckModel" "stayMany" "I") := GR23 _ (List.mem_of_getElem? (i := 0) rfl)
theorem G_22_23 : GW (Cond.code yX11_lookAhead cX11_lookAhead 3 (some .int)) := GR22 _ (List.mem_of_getElem? (i := 23) rfl)
theorem G_22_22 : GW (Cond.selects RX11 yX11_lookAhead yX11_lookAhead) := GR22 _ (List.mem_of_getElem? (i := 22) rfl)
theorem G_22_21 : GW (Cond.instanceMethod yX11_lookAhead) := GR22 _ (List.mem_of_getElem? (i := 21) rfl)
theorem G_22_20 : GW (Cond.methodLink RX11 191 yX11_lookAhead) := GR22 _ (List.mem_of_getElem? (i := 20) rfl)
theorem GB_wsX11_when_r1 : GoodIn wsL_law wsX11_when_r1 := (gcons G_6_13 (gcons G_5_20 (gcons G_6_2 (gcons G_13_15 (gcons G_13_16 (gcons G_13_17 (gcons G_1_5 (gcons G_13_18 (gcons G_5_15 (gcons G_12_10 (gcons G_12_11 (gcons G_12_12 (gcons G_7_14 (gcons G_7_15 (gcons G_7_16 (gcons G_7_17 (gcons G_5_21 (gcons G_22_20 (gcons G_22_21 (gcons G_22_22 (gcons G_22_23 (gcons G_5_16 (gcons G_23_0 (gcons G_6_1 gnil))))))))))))))))))))))))
theorem G_23_1 : GW (Cond.fieldLink RX11 101 "EachSecondStruckModel" "goingMany" "I") := GR23 _ (List.mem_of_getElem? (i := 1) rfl)
theorem GB_wsX11_when_r2 : GoodIn wsL_law wsX11_when_r2 := (gcons G_5_19 (gcons G_23_1 (gcons G_5_23 (gcons G_12_17 (gcons G_12_18 (gcons G_12_19 (gcons G_12_20 (gcons G_6_0 (gcons G_12_21 (gcons G_12_22 (gcons G_12_23 (gcons G_13_0 (gcons G_13_1 (gcons G_13_2 (gcons G_13_3 (gcons G_6_18 (gcons G_13_4 (gcons G_5_17 (gcons G_13_5 (gcons G_5_18 (gcons G_13_6 (gcons G_13_7 (gcons G_13_8 (gcons G_13_9 gnil))))))))))))))))))))))))
theorem G_23_8 : GW (Cond.selects RX11 yX11_isStaying yX11_isStaying) := GR23 _ (List.mem_of_getElem? (i := 8) rfl)
theorem G_23_7 : GW (Cond.instanceMethod yX11_isStaying) := GR23 _ (List.mem_of_getElem? (i := 7) rfl)
theorem G_23_6 : GW (Cond.methodLink RX11 194 yX11_isStaying) := GR23 _ (List.mem_of_getElem? (i := 6) rfl)
theorem G_23_5 : GW (Cond.code yX11_runOut cX11_runOut 7 (some .int)) := GR23 _ (List.mem_of_getElem? (i := 5) rfl)
theorem G_23_4 : GW (Cond.selects RX11 yX11_runOut yX11_runOut) := GR23 _ (List.mem_of_getElem? (i := 4) rfl)
theorem G_23_3 : GW (Cond.instanceMethod yX11_runOut) := GR23 _ (List.mem_of_getElem? (i := 3) rfl)
theorem G_23_2 : GW (Cond.methodLink RX11 128 yX11_runOut) := GR23 _ (List.mem_of_getElem? (i := 2) rfl)
theorem GB_wsX11_when_r3 : GoodIn wsL_law wsX11_when_r3 := (gcons G_23_2 (gcons G_23_3 (gcons G_23_4 (gcons G_23_5 (gcons G_5_22 (gcons G_20_0 (gcons G_20_1 (gcons G_20_2 (gcons G_20_3 (gcons G_17_11 (gcons G_17_12 (gcons G_17_13 (gcons G_17_14 (gcons G_20_4 (gcons G_20_5 (gcons G_20_6 (gcons G_20_7 (gcons G_13_23 (gcons G_14_0 (gcons G_14_1 (gcons G_14_2 (gcons G_23_6 (gcons G_23_7 (gcons G_23_8 gnil))))))))))))))))))))))))
theorem G_23_9 : GW (Cond.code yX11_isStaying cX11_isStaying 4 (some .boolean)) := GR23 _ (List.mem_of_getElem? (i := 9) rfl)
theorem GB_wsX11_when_r4 : GoodIn wsL_law wsX11_when_r4 := (gcons G_23_9 gnil)
theorem G_22_19 : GW (Cond.code yX11_when cX11_when 2 (some .int)) := GR22 _ (List.mem_of_getElem? (i := 19) rfl)
theorem ggL_law_X11_when : GoodIn wsL_law wsX11_when := gcons G_22_19 (goodIn_app (goodIn_app GB_wsX11_when_r1 (goodIn_app GB_wsX11_when_r2 (goodIn_app GB_wsX11_when_r3 GB_wsX11_when_r4))) GTwsX110)
set_option maxRecDepth 20000 in
theorem gL_law_X11_when : GoodIn wsL_law (wsV RL 55 RX11 yX11_when wsX11_when) := goodIn_app (goodIn_of _ (by decide +kernel)) ggL_law_X11_when
theorem GB_wsX10_behind_r1 : GoodIn wsL_law wsX10_behind_r1 := (gcons G_1_17 (gcons G_1_18 (gcons G_10_10 (gcons G_15_8 (gcons G_11_2 (gcons G_11_3 (gcons G_1_16 (gcons G_11_4 (gcons G_5_4 (gcons G_7_0 (gcons G_7_1 (gcons G_7_2 (gcons G_1_2 (gcons G_7_3 (gcons G_2_6 (gcons G_9_10 (gcons G_9_11 (gcons G_9_12 (gcons G_9_13 (gcons G_5_5 (gcons G_5_6 (gcons G_9_14 (gcons G_9_15 (gcons G_9_16 gnil))))))))))))))))))))))))
theorem GB_wsX10_behind_r2 : GoodIn wsL_law wsX10_behind_r2 := (gcons G_3_7 (gcons G_9_17 (gcons G_9_18 (gcons G_9_19 (gcons G_9_20 (gcons G_3_8 (gcons G_3_9 (gcons G_3_10 (gcons G_15_18 (gcons G_15_19 (gcons G_15_20 (gcons G_15_21 (gcons G_1_13 (gcons G_10_11 (gcons G_10_12 (gcons G_10_13 (gcons G_17_19 (gcons G_17_20 (gcons G_17_21 (gcons G_17_22 (gcons G_17_23 (gcons G_15_23 (gcons G_16_0 (gcons G_16_1 gnil))))))))))))))))))))))))
theorem GB_wsX10_behind_r3 : GoodIn wsL_law wsX10_behind_r3 := (gcons G_2_8 (gcons G_16_2 (gcons G_16_3 (gcons G_16_4 (gcons G_16_5 (gcons G_16_6 (gcons G_3_2 (gcons G_16_7 (gcons G_16_8 (gcons G_16_9 (gcons G_2_11 (gcons G_16_10 (gcons G_16_11 (gcons G_16_12 (gcons G_4_1 (gcons G_4_2 (gcons G_4_3 (gcons G_16_13 (gcons G_16_14 (gcons G_16_15 (gcons G_16_16 (gcons G_18_0 (gcons G_16_18 (gcons G_16_19 gnil))))))))))))))))))))))))
theorem GB_wsX10_behind_r4 : GoodIn wsL_law wsX10_behind_r4 := (gcons G_16_20 (gcons G_2_14 (gcons G_16_21 (gcons G_16_22 (gcons G_16_23 (gcons G_17_0 (gcons G_2_20 (gcons G_17_1 (gcons G_17_2 (gcons G_17_3 (gcons G_17_4 (gcons G_17_5 (gcons G_17_6 (gcons G_18_1 (gcons G_18_2 (gcons G_18_3 (gcons G_18_4 (gcons G_18_5 (gcons G_18_6 (gcons G_18_7 (gcons G_18_8 (gcons G_2_23 (gcons G_18_9 (gcons G_18_10 gnil))))))))))))))))))))))))
theorem GB_wsX10_behind_r5 : GoodIn wsL_law wsX10_behind_r5 := (gcons G_18_11 (gcons G_18_12 (gcons G_18_13 (gcons G_18_14 (gcons G_18_15 (gcons G_18_16 (gcons G_18_17 (gcons G_18_18 (gcons G_18_19 (gcons G_18_20 (gcons G_2_17 (gcons G_18_21 (gcons G_18_22 (gcons G_18_23 (gcons G_19_0 (gcons G_19_1 (gcons G_19_2 (gcons G_19_3 (gcons G_19_4 (gcons G_19_5 (gcons G_19_6 (gcons G_19_7 (gcons G_19_8 (gcons G_19_9 gnil))))))))))))))))))))))))
theorem GB_wsX10_behind_r6 : GoodIn wsL_law wsX10_behind_r6 := (gcons G_19_10 (gcons G_19_11 (gcons G_19_12 (gcons G_19_13 (gcons G_19_14 (gcons G_19_15 (gcons G_19_16 (gcons G_19_17 (gcons G_19_18 (gcons G_19_19 (gcons G_20_21 (gcons G_11_6 (gcons G_11_7 (gcons G_11_8 gnil))))))))))))))
theorem G_23_13 : GW (Cond.code yX10_behind cX10_behind 5 (some .int)) := GR23 _ (List.mem_of_getElem? (i := 13) rfl)
theorem ggL_law_X10_behind : GoodIn wsL_law wsX10_behind := gcons G_23_13 (goodIn_app (goodIn_app (goodIn_app GB_wsX10_behind_r1 (goodIn_app GB_wsX10_behind_r2 (goodIn_app GB_wsX10_behind_r3 (goodIn_app GB_wsX10_behind_r4 (goodIn_app GB_wsX10_behind_r5 GB_wsX10_behind_r6))))) GTwsX100) GTwsX80)
set_option maxRecDepth 20000 in
theorem gL_law_X10_behind : GoodIn wsL_law (wsV RL 56 RX10 yX10_behind wsX10_behind) := goodIn_app (goodIn_of _ (by decide +kernel)) ggL_law_X10_behind
theorem GB_wsX11_behind_r1 : GoodIn wsL_law wsX11_behind_r1 := (gcons G_6_13 (gcons G_13_15 (gcons G_13_16 (gcons G_13_17 (gcons G_1_5 (gcons G_13_18 (gcons G_5_15 (gcons G_12_10 (gcons G_12_11 (gcons G_12_12 (gcons G_7_14 (gcons G_7_15 (gcons G_7_16 (gcons G_7_17 (gcons G_5_21 (gcons G_12_17 (gcons G_12_18 (gcons G_12_19 (gcons G_12_20 (gcons G_6_0 (gcons G_12_21 (gcons G_12_22 (gcons G_12_23 (gcons G_13_0 gnil))))))))))))))))))))))))
theorem GB_wsX11_behind_r2 : GoodIn wsL_law wsX11_behind_r2 := (gcons G_13_1 (gcons G_13_2 (gcons G_13_3 (gcons G_5_16 (gcons G_6_18 (gcons G_13_4 (gcons G_5_17 (gcons G_13_5 (gcons G_5_18 (gcons G_5_19 (gcons G_5_20 (gcons G_13_6 (gcons G_13_7 (gcons G_13_8 (gcons G_13_9 (gcons G_20_0 (gcons G_20_1 (gcons G_20_2 (gcons G_20_3 (gcons G_17_11 (gcons G_17_12 (gcons G_17_13 (gcons G_17_14 (gcons G_20_4 gnil))))))))))))))))))))))))
theorem GB_wsX11_behind_r3 : GoodIn wsL_law wsX11_behind_r3 := (gcons G_20_5 (gcons G_20_6 (gcons G_20_7 (gcons G_5_22 (gcons G_21_2 (gcons G_21_3 (gcons G_21_4 (gcons G_21_5 (gcons G_13_23 (gcons G_14_0 (gcons G_14_1 (gcons G_14_2 gnil))))))))))))
theorem G_23_17 : GW (Cond.code yX11_behind cX11_behind 5 (some .int)) := GR23 _ (List.mem_of_getElem? (i := 17) rfl)
theorem ggL_law_X11_behind : GoodIn wsL_law wsX11_behind := gcons G_23_17 (goodIn_app (goodIn_app GB_wsX11_behind_r1 (goodIn_app GB_wsX11_behind_r2 GB_wsX11_behind_r3)) GTwsX110)
set_option maxRecDepth 20000 in
theorem gL_law_X11_behind : GoodIn wsL_law (wsV RL 59 RX11 yX11_behind wsX11_behind) := goodIn_app (goodIn_of _ (by decide +kernel)) ggL_law_X11_behind
theorem GB_wsX10_rounds_r1 : GoodIn wsL_law wsX10_rounds_r1 := (gcons G_21_11 (gcons G_21_12 (gcons G_21_13 (gcons G_1_2 (gcons G_21_14 (gcons G_1_18 (gcons G_1_17 (gcons G_10_10 (gcons G_9_10 (gcons G_9_11 (gcons G_9_12 (gcons G_1_16 (gcons G_9_13 (gcons G_5_4 (gcons G_5_5 (gcons G_5_6 (gcons G_9_14 (gcons G_9_15 (gcons G_9_16 (gcons G_3_7 (gcons G_9_17 (gcons G_9_18 (gcons G_9_19 (gcons G_9_20 gnil))))))))))))))))))))))))
theorem GB_wsX10_rounds_r2 : GoodIn wsL_law wsX10_rounds_r2 := (gcons G_3_8 (gcons G_3_9 (gcons G_3_10 (gcons G_15_18 (gcons G_15_19 (gcons G_15_20 (gcons G_15_21 (gcons G_1_13 (gcons G_10_11 (gcons G_10_12 (gcons G_10_13 (gcons G_21_15 (gcons G_21_16 (gcons G_21_17 (gcons G_21_18 (gcons G_21_19 (gcons G_21_20 (gcons G_21_21 (gcons G_21_22 (gcons G_2_8 (gcons G_21_23 (gcons G_22_0 (gcons G_22_1 (gcons G_22_2 gnil))))))))))))))))))))))))
theorem GB_wsX10_rounds_r3 : GoodIn wsL_law wsX10_rounds_r3 := (gcons G_22_3 (gcons G_22_4 (gcons G_22_5 (gcons G_22_6 (gcons G_22_7 (gcons G_22_8 (gcons G_2_20 (gcons G_22_9 (gcons G_17_2 (gcons G_22_10 (gcons G_4_1 (gcons G_4_2 (gcons G_4_3 (gcons G_22_11 (gcons G_17_20 (gcons G_17_21 (gcons G_17_22 (gcons G_17_23 (gcons G_15_23 (gcons G_16_0 (gcons G_16_1 (gcons G_16_2 (gcons G_16_3 (gcons G_16_4 gnil))))))))))))))))))))))))
theorem GB_wsX10_rounds_r4 : GoodIn wsL_law wsX10_rounds_r4 := (gcons G_16_5 (gcons G_16_6 (gcons G_3_2 (gcons G_16_7 (gcons G_16_8 (gcons G_16_9 (gcons G_2_11 (gcons G_16_10 (gcons G_16_11 (gcons G_16_12 (gcons G_16_13 (gcons G_16_14 (gcons G_16_15 (gcons G_16_16 (gcons G_18_0 (gcons G_16_18 (gcons G_16_19 (gcons G_16_20 (gcons G_2_14 (gcons G_16_21 (gcons G_16_22 (gcons G_16_23 (gcons G_17_0 (gcons G_17_1 gnil))))))))))))))))))))))))
theorem GB_wsX10_rounds_r5 : GoodIn wsL_law wsX10_rounds_r5 := (gcons G_17_3 (gcons G_17_4 (gcons G_17_5 (gcons G_17_6 (gcons G_18_1 (gcons G_18_2 (gcons G_18_3 (gcons G_18_4 (gcons G_18_5 (gcons G_18_6 (gcons G_18_7 (gcons G_18_8 (gcons G_2_23 (gcons G_18_9 (gcons G_18_10 (gcons G_18_11 (gcons G_18_12 (gcons G_18_13 (gcons G_18_14 (gcons G_18_15 (gcons G_18_16 (gcons G_18_17 (gcons G_18_18 (gcons G_18_19 gnil))))))))))))))))))))))))
theorem GB_wsX10_rounds_r6 : GoodIn wsL_law wsX10_rounds_r6 := (gcons G_18_20 (gcons G_2_17 (gcons G_18_21 (gcons G_18_22 (gcons G_18_23 (gcons G_19_0 (gcons G_19_1 (gcons G_19_2 (gcons G_19_3 (gcons G_19_4 (gcons G_19_5 (gcons G_19_6 (gcons G_19_7 (gcons G_19_8 (gcons G_19_9 (gcons G_19_10 (gcons G_19_11 (gcons G_19_12 (gcons G_19_13 (gcons G_19_14 (gcons G_19_15 (gcons G_19_16 (gcons G_19_17 (gcons G_19_18 gnil))))))))))))))))))))))))
theorem GB_wsX10_rounds_r7 : GoodIn wsL_law wsX10_rounds_r7 := (gcons G_19_19 gnil)
theorem G_23_21 : GW (Cond.code yX10_rounds cX10_rounds 1 (some .int)) := GR23 _ (List.mem_of_getElem? (i := 21) rfl)
theorem ggL_law_X10_rounds : GoodIn wsL_law wsX10_rounds := gcons G_23_21 (goodIn_app (goodIn_app (goodIn_app GB_wsX10_rounds_r1 (goodIn_app GB_wsX10_rounds_r2 (goodIn_app GB_wsX10_rounds_r3 (goodIn_app GB_wsX10_rounds_r4 (goodIn_app GB_wsX10_rounds_r5 (goodIn_app GB_wsX10_rounds_r6 GB_wsX10_rounds_r7)))))) GTwsX100) GTwsX80)
set_option maxRecDepth 20000 in
theorem gL_law_X10_rounds : GoodIn wsL_law (wsV RL 60 RX10 yX10_rounds wsX10_rounds) := goodIn_app (goodIn_of _ (by decide +kernel)) ggL_law_X10_rounds
theorem GB_wsX11_rounds_r1 : GoodIn wsL_law wsX11_rounds_r1 := (gcons G_6_13 (gcons G_22_20 (gcons G_22_21 (gcons G_22_22 (gcons G_1_5 (gcons G_22_23 (gcons G_5_16 (gcons G_23_0 (gcons G_6_1 (gcons G_5_19 (gcons G_23_1 (gcons G_6_2 (gcons G_5_23 (gcons G_5_20 (gcons G_12_17 (gcons G_12_18 (gcons G_12_19 (gcons G_12_20 (gcons G_6_0 (gcons G_12_21 (gcons G_12_22 (gcons G_12_23 (gcons G_13_0 (gcons G_13_1 gnil))))))))))))))))))))))))
theorem GB_wsX11_rounds_r2 : GoodIn wsL_law wsX11_rounds_r2 := (gcons G_13_2 (gcons G_13_3 (gcons G_5_15 (gcons G_6_18 (gcons G_13_4 (gcons G_5_17 (gcons G_13_5 (gcons G_5_18 (gcons G_13_6 (gcons G_13_7 (gcons G_13_8 (gcons G_13_9 (gcons G_23_2 (gcons G_23_3 (gcons G_23_4 (gcons G_23_5 (gcons G_5_22 (gcons G_20_0 (gcons G_20_1 (gcons G_20_2 (gcons G_20_3 (gcons G_17_11 (gcons G_17_12 (gcons G_17_13 gnil))))))))))))))))))))))))
theorem GB_wsX11_rounds_r3 : GoodIn wsL_law wsX11_rounds_r3 := (gcons G_17_14 (gcons G_20_4 (gcons G_20_5 (gcons G_20_6 (gcons G_20_7 (gcons G_13_23 (gcons G_14_0 (gcons G_14_1 (gcons G_14_2 gnil)))))))))
theorem G_24_1 : GW (Cond.code yX11_rounds cX11_rounds 1 (some .int)) := GR24 _ (List.mem_of_getElem? (i := 1) rfl)
theorem ggL_law_X11_rounds : GoodIn wsL_law wsX11_rounds := gcons G_24_1 (goodIn_app (goodIn_app GB_wsX11_rounds_r1 (goodIn_app GB_wsX11_rounds_r2 GB_wsX11_rounds_r3)) GTwsX110)
set_option maxRecDepth 20000 in
theorem gL_law_X11_rounds : GoodIn wsL_law (wsV RL 63 RX11 yX11_rounds wsX11_rounds) := goodIn_app (goodIn_of _ (by decide +kernel)) ggL_law_X11_rounds
theorem GB_wsX10_stays_r1 : GoodIn wsL_law wsX10_stays_r1 := (gcons G_1_18 (gcons G_7_0 (gcons G_7_1 (gcons G_7_2 (gcons G_1_2 (gcons G_7_3 (gcons G_2_6 (gcons G_21_11 (gcons G_21_12 (gcons G_21_13 (gcons G_21_14 (gcons G_1_17 (gcons G_10_10 (gcons G_9_10 (gcons G_9_11 (gcons G_9_12 (gcons G_1_16 (gcons G_9_13 (gcons G_5_4 (gcons G_5_5 (gcons G_5_6 (gcons G_9_14 (gcons G_9_15 (gcons G_9_16 gnil))))))))))))))))))))))))
theorem GB_wsX10_stays_r2 : GoodIn wsL_law wsX10_stays_r2 := (gcons G_3_7 (gcons G_9_17 (gcons G_9_18 (gcons G_9_19 (gcons G_9_20 (gcons G_3_8 (gcons G_3_9 (gcons G_3_10 (gcons G_15_18 (gcons G_15_19 (gcons G_15_20 (gcons G_15_21 (gcons G_1_13 (gcons G_10_11 (gcons G_10_12 (gcons G_10_13 (gcons G_21_15 (gcons G_21_16 (gcons G_21_17 (gcons G_21_18 (gcons G_21_19 (gcons G_21_20 (gcons G_21_21 (gcons G_21_22 gnil))))))))))))))))))))))))
theorem GB_wsX10_stays_r3 : GoodIn wsL_law wsX10_stays_r3 := (gcons G_2_8 (gcons G_21_23 (gcons G_22_0 (gcons G_22_1 (gcons G_22_2 (gcons G_22_3 (gcons G_22_4 (gcons G_22_5 (gcons G_22_6 (gcons G_22_7 (gcons G_22_8 (gcons G_2_20 (gcons G_22_9 (gcons G_17_2 (gcons G_22_10 (gcons G_4_1 (gcons G_4_2 (gcons G_4_3 (gcons G_22_11 (gcons G_17_20 (gcons G_17_21 (gcons G_17_22 (gcons G_17_23 (gcons G_15_23 gnil))))))))))))))))))))))))
theorem GB_wsX10_stays_r4 : GoodIn wsL_law wsX10_stays_r4 := (gcons G_16_0 (gcons G_16_1 (gcons G_16_2 (gcons G_16_3 (gcons G_16_4 (gcons G_16_5 (gcons G_16_6 (gcons G_3_2 (gcons G_16_7 (gcons G_16_8 (gcons G_16_9 (gcons G_2_11 (gcons G_16_10 (gcons G_16_11 (gcons G_16_12 (gcons G_16_13 (gcons G_16_14 (gcons G_16_15 (gcons G_16_16 (gcons G_18_0 (gcons G_16_18 (gcons G_16_19 (gcons G_16_20 (gcons G_2_14 gnil))))))))))))))))))))))))
theorem GB_wsX10_stays_r5 : GoodIn wsL_law wsX10_stays_r5 := (gcons G_16_21 (gcons G_16_22 (gcons G_16_23 (gcons G_17_0 (gcons G_17_1 (gcons G_17_3 (gcons G_17_4 (gcons G_17_5 (gcons G_17_6 (gcons G_18_1 (gcons G_18_2 (gcons G_18_3 (gcons G_18_4 (gcons G_18_5 (gcons G_18_6 (gcons G_18_7 (gcons G_18_8 (gcons G_2_23 (gcons G_18_9 (gcons G_18_10 (gcons G_18_11 (gcons G_18_12 (gcons G_18_13 (gcons G_18_14 gnil))))))))))))))))))))))))
theorem GB_wsX10_stays_r6 : GoodIn wsL_law wsX10_stays_r6 := (gcons G_18_15 (gcons G_18_16 (gcons G_18_17 (gcons G_18_18 (gcons G_18_19 (gcons G_18_20 (gcons G_2_17 (gcons G_18_21 (gcons G_18_22 (gcons G_18_23 (gcons G_19_0 (gcons G_19_1 (gcons G_19_2 (gcons G_19_3 (gcons G_19_4 (gcons G_19_5 (gcons G_19_6 (gcons G_19_7 (gcons G_19_8 (gcons G_19_9 (gcons G_19_10 (gcons G_19_11 (gcons G_19_12 (gcons G_19_13 gnil))))))))))))))))))))))))
theorem GB_wsX10_stays_r7 : GoodIn wsL_law wsX10_stays_r7 := (gcons G_19_14 (gcons G_19_15 (gcons G_19_16 (gcons G_19_17 (gcons G_19_18 (gcons G_19_19 (gcons G_20_12 gnil)))))))
theorem G_24_5 : GW (Cond.code yX10_stays cX10_stays 2 (some .int)) := GR24 _ (List.mem_of_getElem? (i := 5) rfl)
theorem ggL_law_X10_stays : GoodIn wsL_law wsX10_stays := gcons G_24_5 (goodIn_app (goodIn_app (goodIn_app GB_wsX10_stays_r1 (goodIn_app GB_wsX10_stays_r2 (goodIn_app GB_wsX10_stays_r3 (goodIn_app GB_wsX10_stays_r4 (goodIn_app GB_wsX10_stays_r5 (goodIn_app GB_wsX10_stays_r6 GB_wsX10_stays_r7)))))) GTwsX100) GTwsX80)
set_option maxRecDepth 20000 in
theorem gL_law_X10_stays : GoodIn wsL_law (wsV RL 64 RX10 yX10_stays wsX10_stays) := goodIn_app (goodIn_of _ (by decide +kernel)) ggL_law_X10_stays
theorem GB_wsX11_stays_r1 : GoodIn wsL_law wsX11_stays_r1 := (gcons G_6_13 (gcons G_23_0 (gcons G_6_1 (gcons G_7_14 (gcons G_7_15 (gcons G_7_16 (gcons G_1_5 (gcons G_7_17 (gcons G_5_21 (gcons G_22_20 (gcons G_22_21 (gcons G_22_22 (gcons G_22_23 (gcons G_5_16 (gcons G_5_19 (gcons G_23_1 (gcons G_6_2 (gcons G_5_23 (gcons G_5_20 (gcons G_12_17 (gcons G_12_18 (gcons G_12_19 (gcons G_12_20 (gcons G_6_0 gnil))))))))))))))))))))))))
theorem GB_wsX11_stays_r2 : GoodIn wsL_law wsX11_stays_r2 := (gcons G_12_21 (gcons G_12_22 (gcons G_12_23 (gcons G_13_0 (gcons G_13_1 (gcons G_13_2 (gcons G_13_3 (gcons G_5_15 (gcons G_6_18 (gcons G_13_4 (gcons G_5_17 (gcons G_13_5 (gcons G_5_18 (gcons G_13_6 (gcons G_13_7 (gcons G_13_8 (gcons G_13_9 (gcons G_23_2 (gcons G_23_3 (gcons G_23_4 (gcons G_23_5 (gcons G_5_22 (gcons G_20_0 (gcons G_20_1 gnil))))))))))))))))))))))))
theorem GB_wsX11_stays_r3 : GoodIn wsL_law wsX11_stays_r3 := (gcons G_20_2 (gcons G_20_3 (gcons G_17_11 (gcons G_17_12 (gcons G_17_13 (gcons G_17_14 (gcons G_20_4 (gcons G_20_5 (gcons G_20_6 (gcons G_20_7 (gcons G_13_23 (gcons G_14_0 (gcons G_14_1 (gcons G_14_2 gnil))))))))))))))
theorem G_24_9 : GW (Cond.code yX11_stays cX11_stays 2 (some .int)) := GR24 _ (List.mem_of_getElem? (i := 9) rfl)
theorem ggL_law_X11_stays : GoodIn wsL_law wsX11_stays := gcons G_24_9 (goodIn_app (goodIn_app GB_wsX11_stays_r1 (goodIn_app GB_wsX11_stays_r2 GB_wsX11_stays_r3)) GTwsX110)
set_option maxRecDepth 20000 in
theorem gL_law_X11_stays : GoodIn wsL_law (wsV RL 67 RX11 yX11_stays wsX11_stays) := goodIn_app (goodIn_of _ (by decide +kernel)) ggL_law_X11_stays
theorem G_24_15 : GW (Cond.fieldLink RX10 152 "EachSecondStruck$Standing" "gone" "[I") := GR24 _ (List.mem_of_getElem? (i := 15) rfl)
theorem G_24_14 : GW (Cond.fieldLink RX10 149 "EachSecondStruck$Standing" "there" "I") := GR24 _ (List.mem_of_getElem? (i := 14) rfl)
theorem GB_wsX10_goes_r1 : GoodIn wsL_law wsX10_goes_r1 := (gcons G_1_17 (gcons G_24_14 (gcons G_1_18 (gcons G_24_15 (gcons G_7_0 (gcons G_7_1 (gcons G_7_2 (gcons G_1_2 (gcons G_7_3 (gcons G_2_6 (gcons G_21_11 (gcons G_21_12 (gcons G_21_13 (gcons G_21_14 (gcons G_10_10 (gcons G_9_10 (gcons G_9_11 (gcons G_9_12 (gcons G_1_16 (gcons G_9_13 (gcons G_5_4 (gcons G_5_5 (gcons G_5_6 (gcons G_9_14 gnil))))))))))))))))))))))))
theorem GB_wsX10_goes_r2 : GoodIn wsL_law wsX10_goes_r2 := (gcons G_9_15 (gcons G_9_16 (gcons G_3_7 (gcons G_9_17 (gcons G_9_18 (gcons G_9_19 (gcons G_9_20 (gcons G_3_8 (gcons G_3_9 (gcons G_3_10 (gcons G_15_18 (gcons G_15_19 (gcons G_15_20 (gcons G_15_21 (gcons G_1_13 (gcons G_10_11 (gcons G_10_12 (gcons G_10_13 (gcons G_21_15 (gcons G_21_16 (gcons G_21_17 (gcons G_21_18 (gcons G_21_19 (gcons G_21_20 gnil))))))))))))))))))))))))
theorem GB_wsX10_goes_r3 : GoodIn wsL_law wsX10_goes_r3 := (gcons G_21_21 (gcons G_21_22 (gcons G_2_8 (gcons G_21_23 (gcons G_22_0 (gcons G_22_1 (gcons G_22_2 (gcons G_22_3 (gcons G_22_4 (gcons G_22_5 (gcons G_22_6 (gcons G_22_7 (gcons G_22_8 (gcons G_2_20 (gcons G_22_9 (gcons G_17_2 (gcons G_22_10 (gcons G_4_1 (gcons G_4_2 (gcons G_4_3 (gcons G_22_11 (gcons G_17_20 (gcons G_17_21 (gcons G_17_22 gnil))))))))))))))))))))))))
theorem GB_wsX10_goes_r4 : GoodIn wsL_law wsX10_goes_r4 := (gcons G_17_23 (gcons G_15_23 (gcons G_16_0 (gcons G_16_1 (gcons G_16_2 (gcons G_16_3 (gcons G_16_4 (gcons G_16_5 (gcons G_16_6 (gcons G_3_2 (gcons G_16_7 (gcons G_16_8 (gcons G_16_9 (gcons G_2_11 (gcons G_16_10 (gcons G_16_11 (gcons G_16_12 (gcons G_16_13 (gcons G_16_14 (gcons G_16_15 (gcons G_16_16 (gcons G_18_0 (gcons G_16_18 (gcons G_16_19 gnil))))))))))))))))))))))))
theorem GB_wsX10_goes_r5 : GoodIn wsL_law wsX10_goes_r5 := (gcons G_16_20 (gcons G_2_14 (gcons G_16_21 (gcons G_16_22 (gcons G_16_23 (gcons G_17_0 (gcons G_17_1 (gcons G_17_3 (gcons G_17_4 (gcons G_17_5 (gcons G_17_6 (gcons G_18_1 (gcons G_18_2 (gcons G_18_3 (gcons G_18_4 (gcons G_18_5 (gcons G_18_6 (gcons G_18_7 (gcons G_18_8 (gcons G_2_23 (gcons G_18_9 (gcons G_18_10 (gcons G_18_11 (gcons G_18_12 gnil))))))))))))))))))))))))
theorem GB_wsX10_goes_r6 : GoodIn wsL_law wsX10_goes_r6 := (gcons G_18_13 (gcons G_18_14 (gcons G_18_15 (gcons G_18_16 (gcons G_18_17 (gcons G_18_18 (gcons G_18_19 (gcons G_18_20 (gcons G_2_17 (gcons G_18_21 (gcons G_18_22 (gcons G_18_23 (gcons G_19_0 (gcons G_19_1 (gcons G_19_2 (gcons G_19_3 (gcons G_19_4 (gcons G_19_5 (gcons G_19_6 (gcons G_19_7 (gcons G_19_8 (gcons G_19_9 (gcons G_19_10 (gcons G_19_11 gnil))))))))))))))))))))))))
theorem G_24_16 : GW (Cond.methodLink RX10 155 yX8_goneCount) := GR24 _ (List.mem_of_getElem? (i := 16) rfl)
theorem GB_wsX10_goes_r7 : GoodIn wsL_law wsX10_goes_r7 := (gcons G_19_12 (gcons G_19_13 (gcons G_19_14 (gcons G_19_15 (gcons G_19_16 (gcons G_19_17 (gcons G_19_18 (gcons G_19_19 (gcons G_24_16 gnil)))))))))
theorem G_24_13 : GW (Cond.code yX10_goes cX10_goes 2 (some .int)) := GR24 _ (List.mem_of_getElem? (i := 13) rfl)
theorem ggL_law_X10_goes : GoodIn wsL_law wsX10_goes := gcons G_24_13 (goodIn_app (goodIn_app (goodIn_app GB_wsX10_goes_r1 (goodIn_app GB_wsX10_goes_r2 (goodIn_app GB_wsX10_goes_r3 (goodIn_app GB_wsX10_goes_r4 (goodIn_app GB_wsX10_goes_r5 (goodIn_app GB_wsX10_goes_r6 GB_wsX10_goes_r7)))))) GTwsX100) GTwsX80)
set_option maxRecDepth 20000 in
theorem gL_law_X10_goes : GoodIn wsL_law (wsV RL 68 RX10 yX10_goes wsX10_goes) := goodIn_app (goodIn_of _ (by decide +kernel)) ggL_law_X10_goes
theorem GB_wsX11_goes_r1 : GoodIn wsL_law wsX11_goes_r1 := (gcons G_6_13 (gcons G_23_1 (gcons G_5_23 (gcons G_7_14 (gcons G_7_15 (gcons G_7_16 (gcons G_1_5 (gcons G_7_17 (gcons G_5_21 (gcons G_22_20 (gcons G_22_21 (gcons G_22_22 (gcons G_22_23 (gcons G_5_16 (gcons G_23_0 (gcons G_6_1 (gcons G_5_19 (gcons G_6_2 (gcons G_5_20 (gcons G_12_17 (gcons G_12_18 (gcons G_12_19 (gcons G_12_20 (gcons G_6_0 gnil))))))))))))))))))))))))
theorem GB_wsX11_goes_r2 : GoodIn wsL_law wsX11_goes_r2 := (gcons G_12_21 (gcons G_12_22 (gcons G_12_23 (gcons G_13_0 (gcons G_13_1 (gcons G_13_2 (gcons G_13_3 (gcons G_5_15 (gcons G_6_18 (gcons G_13_4 (gcons G_5_17 (gcons G_13_5 (gcons G_5_18 (gcons G_13_6 (gcons G_13_7 (gcons G_13_8 (gcons G_13_9 (gcons G_23_2 (gcons G_23_3 (gcons G_23_4 (gcons G_23_5 (gcons G_5_22 (gcons G_20_0 (gcons G_20_1 gnil))))))))))))))))))))))))
theorem GB_wsX11_goes_r3 : GoodIn wsL_law wsX11_goes_r3 := (gcons G_20_2 (gcons G_20_3 (gcons G_17_11 (gcons G_17_12 (gcons G_17_13 (gcons G_17_14 (gcons G_20_4 (gcons G_20_5 (gcons G_20_6 (gcons G_20_7 (gcons G_13_23 (gcons G_14_0 (gcons G_14_1 (gcons G_14_2 gnil))))))))))))))
theorem G_24_20 : GW (Cond.code yX11_goes cX11_goes 2 (some .int)) := GR24 _ (List.mem_of_getElem? (i := 20) rfl)
theorem ggL_law_X11_goes : GoodIn wsL_law wsX11_goes := gcons G_24_20 (goodIn_app (goodIn_app GB_wsX11_goes_r1 (goodIn_app GB_wsX11_goes_r2 GB_wsX11_goes_r3)) GTwsX110)
set_option maxRecDepth 20000 in
theorem gL_law_X11_goes : GoodIn wsL_law (wsV RL 71 RX11 yX11_goes wsX11_goes) := goodIn_app (goodIn_of _ (by decide +kernel)) ggL_law_X11_goes
theorem GB_wsX10_beside_r1 : GoodIn wsL_law wsX10_beside_r1 := (gcons G_1_17 (gcons G_1_18 (gcons G_15_8 (gcons G_11_2 (gcons G_11_3 (gcons G_1_16 (gcons G_11_4 (gcons G_5_4 (gcons G_7_0 (gcons G_7_1 (gcons G_7_2 (gcons G_1_2 (gcons G_7_3 (gcons G_2_6 (gcons G_21_11 (gcons G_21_12 (gcons G_21_13 (gcons G_21_14 (gcons G_10_10 (gcons G_9_10 (gcons G_9_11 (gcons G_9_12 (gcons G_9_13 (gcons G_5_5 gnil))))))))))))))))))))))))
theorem GB_wsX10_beside_r2 : GoodIn wsL_law wsX10_beside_r2 := (gcons G_5_6 (gcons G_9_14 (gcons G_9_15 (gcons G_9_16 (gcons G_3_7 (gcons G_9_17 (gcons G_9_18 (gcons G_9_19 (gcons G_9_20 (gcons G_3_8 (gcons G_3_9 (gcons G_3_10 (gcons G_15_18 (gcons G_15_19 (gcons G_15_20 (gcons G_15_21 (gcons G_1_13 (gcons G_10_11 (gcons G_10_12 (gcons G_10_13 (gcons G_21_15 (gcons G_21_16 (gcons G_21_17 (gcons G_21_18 gnil))))))))))))))))))))))))
theorem GB_wsX10_beside_r3 : GoodIn wsL_law wsX10_beside_r3 := (gcons G_21_19 (gcons G_21_20 (gcons G_21_21 (gcons G_21_22 (gcons G_2_8 (gcons G_21_23 (gcons G_22_0 (gcons G_22_1 (gcons G_22_2 (gcons G_22_3 (gcons G_22_4 (gcons G_22_5 (gcons G_22_6 (gcons G_22_7 (gcons G_22_8 (gcons G_2_20 (gcons G_22_9 (gcons G_17_2 (gcons G_22_10 (gcons G_4_1 (gcons G_4_2 (gcons G_4_3 (gcons G_22_11 (gcons G_17_20 gnil))))))))))))))))))))))))
theorem GB_wsX10_beside_r4 : GoodIn wsL_law wsX10_beside_r4 := (gcons G_17_21 (gcons G_17_22 (gcons G_17_23 (gcons G_15_23 (gcons G_16_0 (gcons G_16_1 (gcons G_16_2 (gcons G_16_3 (gcons G_16_4 (gcons G_16_5 (gcons G_16_6 (gcons G_3_2 (gcons G_16_7 (gcons G_16_8 (gcons G_16_9 (gcons G_2_11 (gcons G_16_10 (gcons G_16_11 (gcons G_16_12 (gcons G_16_13 (gcons G_16_14 (gcons G_16_15 (gcons G_16_16 (gcons G_18_0 gnil))))))))))))))))))))))))
theorem GB_wsX10_beside_r5 : GoodIn wsL_law wsX10_beside_r5 := (gcons G_16_18 (gcons G_16_19 (gcons G_16_20 (gcons G_2_14 (gcons G_16_21 (gcons G_16_22 (gcons G_16_23 (gcons G_17_0 (gcons G_17_1 (gcons G_17_3 (gcons G_17_4 (gcons G_17_5 (gcons G_17_6 (gcons G_18_1 (gcons G_18_2 (gcons G_18_3 (gcons G_18_4 (gcons G_18_5 (gcons G_18_6 (gcons G_18_7 (gcons G_18_8 (gcons G_2_23 (gcons G_18_9 (gcons G_18_10 gnil))))))))))))))))))))))))
theorem GB_wsX10_beside_r6 : GoodIn wsL_law wsX10_beside_r6 := (gcons G_18_11 (gcons G_18_12 (gcons G_18_13 (gcons G_18_14 (gcons G_18_15 (gcons G_18_16 (gcons G_18_17 (gcons G_18_18 (gcons G_18_19 (gcons G_18_20 (gcons G_2_17 (gcons G_18_21 (gcons G_18_22 (gcons G_18_23 (gcons G_19_0 (gcons G_19_1 (gcons G_19_2 (gcons G_19_3 (gcons G_19_4 (gcons G_19_5 (gcons G_19_6 (gcons G_19_7 (gcons G_19_8 (gcons G_19_9 gnil))))))))))))))))))))))))
theorem GB_wsX10_beside_r7 : GoodIn wsL_law wsX10_beside_r7 := (gcons G_19_10 (gcons G_19_11 (gcons G_19_12 (gcons G_19_13 (gcons G_19_14 (gcons G_19_15 (gcons G_19_16 (gcons G_19_17 (gcons G_19_18 (gcons G_19_19 (gcons G_20_21 (gcons G_11_6 (gcons G_11_7 (gcons G_11_8 (gcons G_20_12 gnil)))))))))))))))
theorem G_25_0 : GW (Cond.code yX10_beside cX10_beside 3 (some .int)) := GR25 _ (List.mem_of_getElem? (i := 0) rfl)
theorem ggL_law_X10_beside : GoodIn wsL_law wsX10_beside := gcons G_25_0 (goodIn_app (goodIn_app (goodIn_app GB_wsX10_beside_r1 (goodIn_app GB_wsX10_beside_r2 (goodIn_app GB_wsX10_beside_r3 (goodIn_app GB_wsX10_beside_r4 (goodIn_app GB_wsX10_beside_r5 (goodIn_app GB_wsX10_beside_r6 GB_wsX10_beside_r7)))))) GTwsX100) GTwsX80)
set_option maxRecDepth 20000 in
theorem gL_law_X10_beside : GoodIn wsL_law (wsV RL 72 RX10 yX10_beside wsX10_beside) := goodIn_app (goodIn_of _ (by decide +kernel)) ggL_law_X10_beside
theorem GB_wsX11_beside_r1 : GoodIn wsL_law wsX11_beside_r1 := (gcons G_6_13 (gcons G_23_0 (gcons G_6_1 (gcons G_13_15 (gcons G_13_16 (gcons G_13_17 (gcons G_1_5 (gcons G_13_18 (gcons G_5_15 (gcons G_12_10 (gcons G_12_11 (gcons G_12_12 (gcons G_7_14 (gcons G_7_15 (gcons G_7_16 (gcons G_7_17 (gcons G_5_21 (gcons G_22_20 (gcons G_22_21 (gcons G_22_22 (gcons G_22_23 (gcons G_5_16 (gcons G_5_19 (gcons G_23_1 gnil))))))))))))))))))))))))
theorem GB_wsX11_beside_r2 : GoodIn wsL_law wsX11_beside_r2 := (gcons G_6_2 (gcons G_5_23 (gcons G_5_20 (gcons G_12_17 (gcons G_12_18 (gcons G_12_19 (gcons G_12_20 (gcons G_6_0 (gcons G_12_21 (gcons G_12_22 (gcons G_12_23 (gcons G_13_0 (gcons G_13_1 (gcons G_13_2 (gcons G_13_3 (gcons G_6_18 (gcons G_13_4 (gcons G_5_17 (gcons G_13_5 (gcons G_5_18 (gcons G_13_6 (gcons G_13_7 (gcons G_13_8 (gcons G_13_9 gnil))))))))))))))))))))))))
theorem GB_wsX11_beside_r3 : GoodIn wsL_law wsX11_beside_r3 := (gcons G_23_2 (gcons G_23_3 (gcons G_23_4 (gcons G_23_5 (gcons G_5_22 (gcons G_20_0 (gcons G_20_1 (gcons G_20_2 (gcons G_20_3 (gcons G_17_11 (gcons G_17_12 (gcons G_17_13 (gcons G_17_14 (gcons G_20_4 (gcons G_20_5 (gcons G_20_6 (gcons G_20_7 (gcons G_13_23 (gcons G_14_0 (gcons G_14_1 (gcons G_14_2 gnil)))))))))))))))))))))
theorem G_25_4 : GW (Cond.code yX11_beside cX11_beside 3 (some .int)) := GR25 _ (List.mem_of_getElem? (i := 4) rfl)
theorem ggL_law_X11_beside : GoodIn wsL_law wsX11_beside := gcons G_25_4 (goodIn_app (goodIn_app GB_wsX11_beside_r1 (goodIn_app GB_wsX11_beside_r2 GB_wsX11_beside_r3)) GTwsX110)
set_option maxRecDepth 20000 in
theorem gL_law_X11_beside : GoodIn wsL_law (wsV RL 75 RX11 yX11_beside wsX11_beside) := goodIn_app (goodIn_of _ (by decide +kernel)) ggL_law_X11_beside
theorem G_25_12 : GW (Cond.code Lib.Math.abs.name Lib.Math.abs.code 1 (some .int)) := GR25 _ (List.mem_of_getElem? (i := 12) rfl)
theorem G_25_11 : GW (Cond.static Lib.Math.abs.name) := GR25 _ (List.mem_of_getElem? (i := 11) rfl)
theorem G_25_10 : GW (Cond.methodLink RX10 161 Lib.Math.abs.name) := GR25 _ (List.mem_of_getElem? (i := 10) rfl)
theorem G_25_9 : GW (Cond.fieldLink RX10 158 "EachSecondStruck$Standing" "line" "[I") := GR25 _ (List.mem_of_getElem? (i := 9) rfl)
theorem GB_wsX10_gap_r1 : GoodIn wsL_law wsX10_gap_r1 := (gcons G_1_18 (gcons G_24_14 (gcons G_25_9 (gcons G_25_10 (gcons G_25_11 (gcons G_4_2 (gcons G_25_12 (gcons G_7_0 (gcons G_7_1 (gcons G_7_2 (gcons G_1_2 (gcons G_7_3 (gcons G_2_6 (gcons G_21_11 (gcons G_21_12 (gcons G_21_13 (gcons G_21_14 (gcons G_1_17 (gcons G_10_10 (gcons G_9_10 (gcons G_9_11 (gcons G_9_12 (gcons G_1_16 (gcons G_9_13 gnil))))))))))))))))))))))))
theorem GB_wsX10_gap_r2 : GoodIn wsL_law wsX10_gap_r2 := (gcons G_5_4 (gcons G_5_5 (gcons G_5_6 (gcons G_9_14 (gcons G_9_15 (gcons G_9_16 (gcons G_3_7 (gcons G_9_17 (gcons G_9_18 (gcons G_9_19 (gcons G_9_20 (gcons G_3_8 (gcons G_3_9 (gcons G_3_10 (gcons G_15_18 (gcons G_15_19 (gcons G_15_20 (gcons G_15_21 (gcons G_1_13 (gcons G_10_11 (gcons G_10_12 (gcons G_10_13 (gcons G_21_15 (gcons G_21_16 gnil))))))))))))))))))))))))
theorem GB_wsX10_gap_r3 : GoodIn wsL_law wsX10_gap_r3 := (gcons G_21_17 (gcons G_21_18 (gcons G_21_19 (gcons G_21_20 (gcons G_21_21 (gcons G_21_22 (gcons G_2_8 (gcons G_21_23 (gcons G_22_0 (gcons G_22_1 (gcons G_22_2 (gcons G_22_3 (gcons G_22_4 (gcons G_22_5 (gcons G_22_6 (gcons G_22_7 (gcons G_22_8 (gcons G_2_20 (gcons G_22_9 (gcons G_17_2 (gcons G_22_10 (gcons G_4_1 (gcons G_4_3 (gcons G_22_11 gnil))))))))))))))))))))))))
theorem GB_wsX10_gap_r4 : GoodIn wsL_law wsX10_gap_r4 := (gcons G_17_20 (gcons G_17_21 (gcons G_17_22 (gcons G_17_23 (gcons G_15_23 (gcons G_16_0 (gcons G_16_1 (gcons G_16_2 (gcons G_16_3 (gcons G_16_4 (gcons G_16_5 (gcons G_16_6 (gcons G_3_2 (gcons G_16_7 (gcons G_16_8 (gcons G_16_9 (gcons G_2_11 (gcons G_16_10 (gcons G_16_11 (gcons G_16_12 (gcons G_16_13 (gcons G_16_14 (gcons G_16_15 (gcons G_16_16 gnil))))))))))))))))))))))))
theorem GB_wsX10_gap_r5 : GoodIn wsL_law wsX10_gap_r5 := (gcons G_18_0 (gcons G_16_18 (gcons G_16_19 (gcons G_16_20 (gcons G_2_14 (gcons G_16_21 (gcons G_16_22 (gcons G_16_23 (gcons G_17_0 (gcons G_17_1 (gcons G_17_3 (gcons G_17_4 (gcons G_17_5 (gcons G_17_6 (gcons G_18_1 (gcons G_18_2 (gcons G_18_3 (gcons G_18_4 (gcons G_18_5 (gcons G_18_6 (gcons G_18_7 (gcons G_18_8 (gcons G_2_23 (gcons G_18_9 gnil))))))))))))))))))))))))
theorem GB_wsX10_gap_r6 : GoodIn wsL_law wsX10_gap_r6 := (gcons G_18_10 (gcons G_18_11 (gcons G_18_12 (gcons G_18_13 (gcons G_18_14 (gcons G_18_15 (gcons G_18_16 (gcons G_18_17 (gcons G_18_18 (gcons G_18_19 (gcons G_18_20 (gcons G_2_17 (gcons G_18_21 (gcons G_18_22 (gcons G_18_23 (gcons G_19_0 (gcons G_19_1 (gcons G_19_2 (gcons G_19_3 (gcons G_19_4 (gcons G_19_5 (gcons G_19_6 (gcons G_19_7 (gcons G_19_8 gnil))))))))))))))))))))))))
theorem GB_wsX10_gap_r7 : GoodIn wsL_law wsX10_gap_r7 := (gcons G_19_9 (gcons G_19_10 (gcons G_19_11 (gcons G_19_12 (gcons G_19_13 (gcons G_19_14 (gcons G_19_15 (gcons G_19_16 (gcons G_19_17 (gcons G_19_18 (gcons G_19_19 gnil)))))))))))
theorem G_25_8 : GW (Cond.code yX10_gap cX10_gap 6 (some .int)) := GR25 _ (List.mem_of_getElem? (i := 8) rfl)
theorem ggL_law_X10_gap : GoodIn wsL_law wsX10_gap := gcons G_25_8 (goodIn_app (goodIn_app (goodIn_app GB_wsX10_gap_r1 (goodIn_app GB_wsX10_gap_r2 (goodIn_app GB_wsX10_gap_r3 (goodIn_app GB_wsX10_gap_r4 (goodIn_app GB_wsX10_gap_r5 (goodIn_app GB_wsX10_gap_r6 GB_wsX10_gap_r7)))))) GTwsX100) GTwsX80)
set_option maxRecDepth 20000 in
theorem gL_law_X10_gap : GoodIn wsL_law (wsV RL 76 RX10 yX10_gap wsX10_gap) := goodIn_app (goodIn_of _ (by decide +kernel)) ggL_law_X10_gap
theorem GB_wsX11_gap_r1 : GoodIn wsL_law wsX11_gap_r1 := (gcons G_6_13 (gcons G_23_0 (gcons G_6_1 (gcons G_12_10 (gcons G_12_11 (gcons G_1_5 (gcons G_12_12 (gcons G_7_14 (gcons G_7_15 (gcons G_7_16 (gcons G_7_17 (gcons G_5_21 (gcons G_22_20 (gcons G_22_21 (gcons G_22_22 (gcons G_22_23 (gcons G_5_16 (gcons G_5_19 (gcons G_23_1 (gcons G_6_2 (gcons G_5_23 (gcons G_5_20 (gcons G_12_17 (gcons G_12_18 gnil))))))))))))))))))))))))
theorem GB_wsX11_gap_r2 : GoodIn wsL_law wsX11_gap_r2 := (gcons G_12_19 (gcons G_12_20 (gcons G_6_0 (gcons G_12_21 (gcons G_12_22 (gcons G_12_23 (gcons G_13_0 (gcons G_13_1 (gcons G_13_2 (gcons G_13_3 (gcons G_5_15 (gcons G_6_18 (gcons G_13_4 (gcons G_5_17 (gcons G_13_5 (gcons G_5_18 (gcons G_13_6 (gcons G_13_7 (gcons G_13_8 (gcons G_13_9 (gcons G_23_2 (gcons G_23_3 (gcons G_23_4 (gcons G_23_5 gnil))))))))))))))))))))))))
theorem GB_wsX11_gap_r3 : GoodIn wsL_law wsX11_gap_r3 := (gcons G_5_22 (gcons G_20_0 (gcons G_20_1 (gcons G_20_2 (gcons G_20_3 (gcons G_17_11 (gcons G_17_12 (gcons G_17_13 (gcons G_17_14 (gcons G_20_4 (gcons G_20_5 (gcons G_20_6 (gcons G_20_7 (gcons G_13_23 (gcons G_14_0 (gcons G_14_1 (gcons G_14_2 gnil)))))))))))))))))
theorem G_25_16 : GW (Cond.code yX11_gap cX11_gap 6 (some .int)) := GR25 _ (List.mem_of_getElem? (i := 16) rfl)
theorem ggL_law_X11_gap : GoodIn wsL_law wsX11_gap := gcons G_25_16 (goodIn_app (goodIn_app GB_wsX11_gap_r1 (goodIn_app GB_wsX11_gap_r2 GB_wsX11_gap_r3)) GTwsX110)
set_option maxRecDepth 20000 in
theorem gL_law_X11_gap : GoodIn wsL_law (wsV RL 79 RX11 yX11_gap wsX11_gap) := goodIn_app (goodIn_of _ (by decide +kernel)) ggL_law_X11_gap
theorem GB_wsX10_near_r1 : GoodIn wsL_law wsX10_near_r1 := (gcons G_1_18 (gcons G_24_14 (gcons G_25_9 (gcons G_7_0 (gcons G_7_1 (gcons G_7_2 (gcons G_1_2 (gcons G_7_3 (gcons G_2_6 (gcons G_21_11 (gcons G_21_12 (gcons G_21_13 (gcons G_21_14 (gcons G_1_17 (gcons G_10_10 (gcons G_9_10 (gcons G_9_11 (gcons G_9_12 (gcons G_1_16 (gcons G_9_13 (gcons G_5_4 (gcons G_5_5 (gcons G_5_6 (gcons G_9_14 gnil))))))))))))))))))))))))
theorem GB_wsX10_near_r2 : GoodIn wsL_law wsX10_near_r2 := (gcons G_9_15 (gcons G_9_16 (gcons G_3_7 (gcons G_9_17 (gcons G_9_18 (gcons G_9_19 (gcons G_9_20 (gcons G_3_8 (gcons G_3_9 (gcons G_3_10 (gcons G_15_18 (gcons G_15_19 (gcons G_15_20 (gcons G_15_21 (gcons G_1_13 (gcons G_10_11 (gcons G_10_12 (gcons G_10_13 (gcons G_21_15 (gcons G_21_16 (gcons G_21_17 (gcons G_21_18 (gcons G_21_19 (gcons G_21_20 gnil))))))))))))))))))))))))
theorem GB_wsX10_near_r3 : GoodIn wsL_law wsX10_near_r3 := (gcons G_21_21 (gcons G_21_22 (gcons G_2_8 (gcons G_21_23 (gcons G_22_0 (gcons G_22_1 (gcons G_22_2 (gcons G_22_3 (gcons G_22_4 (gcons G_22_5 (gcons G_22_6 (gcons G_22_7 (gcons G_22_8 (gcons G_2_20 (gcons G_22_9 (gcons G_17_2 (gcons G_22_10 (gcons G_4_1 (gcons G_4_2 (gcons G_4_3 (gcons G_22_11 (gcons G_17_20 (gcons G_17_21 (gcons G_17_22 gnil))))))))))))))))))))))))
theorem GB_wsX10_near_r4 : GoodIn wsL_law wsX10_near_r4 := (gcons G_17_23 (gcons G_15_23 (gcons G_16_0 (gcons G_16_1 (gcons G_16_2 (gcons G_16_3 (gcons G_16_4 (gcons G_16_5 (gcons G_16_6 (gcons G_3_2 (gcons G_16_7 (gcons G_16_8 (gcons G_16_9 (gcons G_2_11 (gcons G_16_10 (gcons G_16_11 (gcons G_16_12 (gcons G_16_13 (gcons G_16_14 (gcons G_16_15 (gcons G_16_16 (gcons G_18_0 (gcons G_16_18 (gcons G_16_19 gnil))))))))))))))))))))))))
theorem GB_wsX10_near_r5 : GoodIn wsL_law wsX10_near_r5 := (gcons G_16_20 (gcons G_2_14 (gcons G_16_21 (gcons G_16_22 (gcons G_16_23 (gcons G_17_0 (gcons G_17_1 (gcons G_17_3 (gcons G_17_4 (gcons G_17_5 (gcons G_17_6 (gcons G_18_1 (gcons G_18_2 (gcons G_18_3 (gcons G_18_4 (gcons G_18_5 (gcons G_18_6 (gcons G_18_7 (gcons G_18_8 (gcons G_2_23 (gcons G_18_9 (gcons G_18_10 (gcons G_18_11 (gcons G_18_12 gnil))))))))))))))))))))))))
theorem GB_wsX10_near_r6 : GoodIn wsL_law wsX10_near_r6 := (gcons G_18_13 (gcons G_18_14 (gcons G_18_15 (gcons G_18_16 (gcons G_18_17 (gcons G_18_18 (gcons G_18_19 (gcons G_18_20 (gcons G_2_17 (gcons G_18_21 (gcons G_18_22 (gcons G_18_23 (gcons G_19_0 (gcons G_19_1 (gcons G_19_2 (gcons G_19_3 (gcons G_19_4 (gcons G_19_5 (gcons G_19_6 (gcons G_19_7 (gcons G_19_8 (gcons G_19_9 (gcons G_19_10 (gcons G_19_11 gnil))))))))))))))))))))))))
theorem GB_wsX10_near_r7 : GoodIn wsL_law wsX10_near_r7 := (gcons G_19_12 (gcons G_19_13 (gcons G_19_14 (gcons G_19_15 (gcons G_19_16 (gcons G_19_17 (gcons G_19_18 (gcons G_19_19 gnil))))))))
theorem G_25_20 : GW (Cond.code yX10_near cX10_near 4 (some .int)) := GR25 _ (List.mem_of_getElem? (i := 20) rfl)
theorem ggL_law_X10_near : GoodIn wsL_law wsX10_near := gcons G_25_20 (goodIn_app (goodIn_app (goodIn_app GB_wsX10_near_r1 (goodIn_app GB_wsX10_near_r2 (goodIn_app GB_wsX10_near_r3 (goodIn_app GB_wsX10_near_r4 (goodIn_app GB_wsX10_near_r5 (goodIn_app GB_wsX10_near_r6 GB_wsX10_near_r7)))))) GTwsX100) GTwsX80)
set_option maxRecDepth 20000 in
theorem gL_law_X10_near : GoodIn wsL_law (wsV RL 80 RX10 yX10_near wsX10_near) := goodIn_app (goodIn_of _ (by decide +kernel)) ggL_law_X10_near
theorem GB_wsX11_near_r1 : GoodIn wsL_law wsX11_near_r1 := (gcons G_6_13 (gcons G_23_0 (gcons G_6_1 (gcons G_7_14 (gcons G_7_15 (gcons G_7_16 (gcons G_1_5 (gcons G_7_17 (gcons G_5_21 (gcons G_22_20 (gcons G_22_21 (gcons G_22_22 (gcons G_22_23 (gcons G_5_16 (gcons G_5_19 (gcons G_23_1 (gcons G_6_2 (gcons G_5_23 (gcons G_5_20 (gcons G_12_17 (gcons G_12_18 (gcons G_12_19 (gcons G_12_20 (gcons G_6_0 gnil))))))))))))))))))))))))
theorem GB_wsX11_near_r2 : GoodIn wsL_law wsX11_near_r2 := (gcons G_12_21 (gcons G_12_22 (gcons G_12_23 (gcons G_13_0 (gcons G_13_1 (gcons G_13_2 (gcons G_13_3 (gcons G_5_15 (gcons G_6_18 (gcons G_13_4 (gcons G_5_17 (gcons G_13_5 (gcons G_5_18 (gcons G_13_6 (gcons G_13_7 (gcons G_13_8 (gcons G_13_9 (gcons G_23_2 (gcons G_23_3 (gcons G_23_4 (gcons G_23_5 (gcons G_5_22 (gcons G_20_0 (gcons G_20_1 gnil))))))))))))))))))))))))
theorem GB_wsX11_near_r3 : GoodIn wsL_law wsX11_near_r3 := (gcons G_20_2 (gcons G_20_3 (gcons G_17_11 (gcons G_17_12 (gcons G_17_13 (gcons G_17_14 (gcons G_20_4 (gcons G_20_5 (gcons G_20_6 (gcons G_20_7 (gcons G_13_23 (gcons G_14_0 (gcons G_14_1 (gcons G_14_2 gnil))))))))))))))
theorem G_26_0 : GW (Cond.code yX11_near cX11_near 4 (some .int)) := GR26 _ (List.mem_of_getElem? (i := 0) rfl)
theorem ggL_law_X11_near : GoodIn wsL_law wsX11_near := gcons G_26_0 (goodIn_app (goodIn_app GB_wsX11_near_r1 (goodIn_app GB_wsX11_near_r2 GB_wsX11_near_r3)) GTwsX110)
set_option maxRecDepth 20000 in
theorem gL_law_X11_near : GoodIn wsL_law (wsV RL 83 RX11 yX11_near wsX11_near) := goodIn_app (goodIn_of _ (by decide +kernel)) ggL_law_X11_near
theorem GB_wsX10_friends_r1 : GoodIn wsL_law wsX10_friends_r1 := (gcons G_1_17 (gcons G_24_14 (gcons G_1_18 (gcons G_25_9 (gcons G_21_11 (gcons G_21_12 (gcons G_21_13 (gcons G_1_2 (gcons G_21_14 (gcons G_10_10 (gcons G_9_10 (gcons G_9_11 (gcons G_9_12 (gcons G_1_16 (gcons G_9_13 (gcons G_5_4 (gcons G_5_5 (gcons G_5_6 (gcons G_9_14 (gcons G_9_15 (gcons G_9_16 (gcons G_3_7 (gcons G_9_17 (gcons G_9_18 gnil))))))))))))))))))))))))
theorem GB_wsX10_friends_r2 : GoodIn wsL_law wsX10_friends_r2 := (gcons G_9_19 (gcons G_9_20 (gcons G_3_8 (gcons G_3_9 (gcons G_3_10 (gcons G_15_18 (gcons G_15_19 (gcons G_15_20 (gcons G_15_21 (gcons G_1_13 (gcons G_10_11 (gcons G_10_12 (gcons G_10_13 (gcons G_21_15 (gcons G_21_16 (gcons G_21_17 (gcons G_21_18 (gcons G_21_19 (gcons G_21_20 (gcons G_21_21 (gcons G_21_22 (gcons G_2_8 (gcons G_21_23 (gcons G_22_0 gnil))))))))))))))))))))))))
theorem GB_wsX10_friends_r3 : GoodIn wsL_law wsX10_friends_r3 := (gcons G_22_1 (gcons G_22_2 (gcons G_22_3 (gcons G_22_4 (gcons G_22_5 (gcons G_22_6 (gcons G_22_7 (gcons G_22_8 (gcons G_2_20 (gcons G_22_9 (gcons G_17_2 (gcons G_22_10 (gcons G_4_1 (gcons G_4_2 (gcons G_4_3 (gcons G_22_11 (gcons G_17_20 (gcons G_17_21 (gcons G_17_22 (gcons G_17_23 (gcons G_15_23 (gcons G_16_0 (gcons G_16_1 (gcons G_16_2 gnil))))))))))))))))))))))))
theorem GB_wsX10_friends_r4 : GoodIn wsL_law wsX10_friends_r4 := (gcons G_16_3 (gcons G_16_4 (gcons G_16_5 (gcons G_16_6 (gcons G_3_2 (gcons G_16_7 (gcons G_16_8 (gcons G_16_9 (gcons G_2_11 (gcons G_16_10 (gcons G_16_11 (gcons G_16_12 (gcons G_16_13 (gcons G_16_14 (gcons G_16_15 (gcons G_16_16 (gcons G_18_0 (gcons G_16_18 (gcons G_16_19 (gcons G_16_20 (gcons G_2_14 (gcons G_16_21 (gcons G_16_22 (gcons G_16_23 gnil))))))))))))))))))))))))
theorem GB_wsX10_friends_r5 : GoodIn wsL_law wsX10_friends_r5 := (gcons G_17_0 (gcons G_17_1 (gcons G_17_3 (gcons G_17_4 (gcons G_17_5 (gcons G_17_6 (gcons G_18_1 (gcons G_18_2 (gcons G_18_3 (gcons G_18_4 (gcons G_18_5 (gcons G_18_6 (gcons G_18_7 (gcons G_18_8 (gcons G_2_23 (gcons G_18_9 (gcons G_18_10 (gcons G_18_11 (gcons G_18_12 (gcons G_18_13 (gcons G_18_14 (gcons G_18_15 (gcons G_18_16 (gcons G_18_17 gnil))))))))))))))))))))))))
theorem GB_wsX10_friends_r6 : GoodIn wsL_law wsX10_friends_r6 := (gcons G_18_18 (gcons G_18_19 (gcons G_18_20 (gcons G_2_17 (gcons G_18_21 (gcons G_18_22 (gcons G_18_23 (gcons G_19_0 (gcons G_19_1 (gcons G_19_2 (gcons G_19_3 (gcons G_19_4 (gcons G_19_5 (gcons G_19_6 (gcons G_19_7 (gcons G_19_8 (gcons G_19_9 (gcons G_19_10 (gcons G_19_11 (gcons G_19_12 (gcons G_19_13 (gcons G_19_14 (gcons G_19_15 (gcons G_19_16 gnil))))))))))))))))))))))))
theorem GB_wsX10_friends_r7 : GoodIn wsL_law wsX10_friends_r7 := (gcons G_19_17 (gcons G_19_18 (gcons G_19_19 (gcons G_22_12 (gcons G_22_13 (gcons G_22_14 (gcons G_22_15 (gcons G_11_1 (gcons G_11_2 (gcons G_11_3 (gcons G_11_4 gnil)))))))))))
theorem G_26_4 : GW (Cond.code yX10_friends cX10_friends 2 (some .int)) := GR26 _ (List.mem_of_getElem? (i := 4) rfl)
theorem ggL_law_X10_friends : GoodIn wsL_law wsX10_friends := gcons G_26_4 (goodIn_app (goodIn_app (goodIn_app GB_wsX10_friends_r1 (goodIn_app GB_wsX10_friends_r2 (goodIn_app GB_wsX10_friends_r3 (goodIn_app GB_wsX10_friends_r4 (goodIn_app GB_wsX10_friends_r5 (goodIn_app GB_wsX10_friends_r6 GB_wsX10_friends_r7)))))) GTwsX100) GTwsX80)
set_option maxRecDepth 20000 in
theorem gL_law_X10_friends : GoodIn wsL_law (wsV RL 84 RX10 yX10_friends wsX10_friends) := goodIn_app (goodIn_of _ (by decide +kernel)) ggL_law_X10_friends
theorem GB_wsX11_friends_r1 : GoodIn wsL_law wsX11_friends_r1 := (gcons G_6_13 (gcons G_5_16 (gcons G_5_19 (gcons G_22_20 (gcons G_22_21 (gcons G_22_22 (gcons G_1_5 (gcons G_22_23 (gcons G_23_0 (gcons G_6_1 (gcons G_23_1 (gcons G_6_2 (gcons G_5_23 (gcons G_5_20 (gcons G_12_17 (gcons G_12_18 (gcons G_12_19 (gcons G_12_20 (gcons G_6_0 (gcons G_12_21 (gcons G_12_22 (gcons G_12_23 (gcons G_13_0 (gcons G_13_1 gnil))))))))))))))))))))))))
theorem GB_wsX11_friends_r2 : GoodIn wsL_law wsX11_friends_r2 := (gcons G_13_2 (gcons G_13_3 (gcons G_5_15 (gcons G_6_18 (gcons G_13_4 (gcons G_5_17 (gcons G_13_5 (gcons G_5_18 (gcons G_13_6 (gcons G_13_7 (gcons G_13_8 (gcons G_13_9 (gcons G_23_2 (gcons G_23_3 (gcons G_23_4 (gcons G_23_5 (gcons G_5_22 (gcons G_20_0 (gcons G_20_1 (gcons G_20_2 (gcons G_20_3 (gcons G_17_11 (gcons G_17_12 (gcons G_17_13 gnil))))))))))))))))))))))))
theorem GB_wsX11_friends_r3 : GoodIn wsL_law wsX11_friends_r3 := (gcons G_17_14 (gcons G_20_4 (gcons G_20_5 (gcons G_20_6 (gcons G_20_7 (gcons G_13_23 (gcons G_14_0 (gcons G_14_1 (gcons G_14_2 (gcons G_23_6 (gcons G_23_7 (gcons G_23_8 (gcons G_23_9 gnil)))))))))))))
theorem G_26_8 : GW (Cond.code yX11_friends cX11_friends 2 (some .int)) := GR26 _ (List.mem_of_getElem? (i := 8) rfl)
theorem ggL_law_X11_friends : GoodIn wsL_law wsX11_friends := gcons G_26_8 (goodIn_app (goodIn_app GB_wsX11_friends_r1 (goodIn_app GB_wsX11_friends_r2 GB_wsX11_friends_r3)) GTwsX110)
set_option maxRecDepth 20000 in
theorem gL_law_X11_friends : GoodIn wsL_law (wsV RL 87 RX11 yX11_friends wsX11_friends) := goodIn_app (goodIn_of _ (by decide +kernel)) ggL_law_X11_friends
theorem GB_wsX10_byOther_r1 : GoodIn wsL_law wsX10_byOther_r1 := (gcons G_1_18 (gcons G_1_17 (gcons G_24_14 (gcons G_10_11 (gcons G_10_12 (gcons G_1_2 (gcons G_10_13 (gcons G_7_0 (gcons G_7_1 (gcons G_7_2 (gcons G_7_3 (gcons G_2_6 (gcons G_9_10 (gcons G_9_11 (gcons G_9_12 (gcons G_1_16 (gcons G_9_13 (gcons G_5_4 (gcons G_5_5 (gcons G_5_6 (gcons G_9_14 (gcons G_9_15 (gcons G_9_16 (gcons G_3_7 gnil))))))))))))))))))))))))
theorem GB_wsX10_byOther_r2 : GoodIn wsL_law wsX10_byOther_r2 := (gcons G_9_17 (gcons G_9_18 (gcons G_9_19 (gcons G_9_20 (gcons G_3_8 (gcons G_3_9 (gcons G_3_10 (gcons G_15_18 (gcons G_15_19 (gcons G_15_20 (gcons G_15_21 (gcons G_1_13 (gcons G_21_15 (gcons G_21_16 (gcons G_21_17 (gcons G_21_18 (gcons G_21_19 (gcons G_21_20 (gcons G_21_21 (gcons G_21_22 (gcons G_2_8 (gcons G_21_23 (gcons G_22_0 (gcons G_22_1 gnil))))))))))))))))))))))))
theorem GB_wsX10_byOther_r3 : GoodIn wsL_law wsX10_byOther_r3 := (gcons G_22_2 (gcons G_22_3 (gcons G_22_4 (gcons G_22_5 (gcons G_22_6 (gcons G_22_7 (gcons G_22_8 (gcons G_2_20 (gcons G_22_9 (gcons G_17_2 (gcons G_22_10 (gcons G_4_1 (gcons G_4_2 (gcons G_4_3 (gcons G_22_11 (gcons G_17_20 (gcons G_17_21 (gcons G_17_22 (gcons G_17_23 (gcons G_15_23 (gcons G_16_0 (gcons G_16_1 (gcons G_16_2 (gcons G_16_3 gnil))))))))))))))))))))))))
theorem GB_wsX10_byOther_r4 : GoodIn wsL_law wsX10_byOther_r4 := (gcons G_16_4 (gcons G_16_5 (gcons G_16_6 (gcons G_3_2 (gcons G_16_7 (gcons G_16_8 (gcons G_16_9 (gcons G_2_11 (gcons G_16_10 (gcons G_16_11 (gcons G_16_12 (gcons G_16_13 (gcons G_16_14 (gcons G_16_15 (gcons G_16_16 (gcons G_18_0 (gcons G_16_18 (gcons G_16_19 (gcons G_16_20 (gcons G_2_14 (gcons G_16_21 (gcons G_16_22 (gcons G_16_23 (gcons G_17_0 gnil))))))))))))))))))))))))
theorem GB_wsX10_byOther_r5 : GoodIn wsL_law wsX10_byOther_r5 := (gcons G_17_1 (gcons G_17_3 (gcons G_17_4 (gcons G_17_5 (gcons G_17_6 (gcons G_18_1 (gcons G_18_2 (gcons G_18_3 (gcons G_18_4 (gcons G_18_5 (gcons G_18_6 (gcons G_18_7 (gcons G_18_8 (gcons G_2_23 (gcons G_18_9 (gcons G_18_10 (gcons G_18_11 (gcons G_18_12 (gcons G_18_13 (gcons G_18_14 (gcons G_18_15 (gcons G_18_16 (gcons G_18_17 (gcons G_18_18 gnil))))))))))))))))))))))))
theorem GB_wsX10_byOther_r6 : GoodIn wsL_law wsX10_byOther_r6 := (gcons G_18_19 (gcons G_18_20 (gcons G_2_17 (gcons G_18_21 (gcons G_18_22 (gcons G_18_23 (gcons G_19_0 (gcons G_19_1 (gcons G_19_2 (gcons G_19_3 (gcons G_19_4 (gcons G_19_5 (gcons G_19_6 (gcons G_19_7 (gcons G_19_8 (gcons G_19_9 (gcons G_19_10 (gcons G_19_11 (gcons G_19_12 (gcons G_19_13 (gcons G_19_14 (gcons G_19_15 (gcons G_19_16 (gcons G_19_17 gnil))))))))))))))))))))))))
theorem GB_wsX10_byOther_r7 : GoodIn wsL_law wsX10_byOther_r7 := (gcons G_19_18 (gcons G_19_19 gnil))
theorem G_26_12 : GW (Cond.code yX10_byOther cX10_byOther 2 (some .int)) := GR26 _ (List.mem_of_getElem? (i := 12) rfl)
theorem ggL_law_X10_byOther : GoodIn wsL_law wsX10_byOther := gcons G_26_12 (goodIn_app (goodIn_app (goodIn_app GB_wsX10_byOther_r1 (goodIn_app GB_wsX10_byOther_r2 (goodIn_app GB_wsX10_byOther_r3 (goodIn_app GB_wsX10_byOther_r4 (goodIn_app GB_wsX10_byOther_r5 (goodIn_app GB_wsX10_byOther_r6 GB_wsX10_byOther_r7)))))) GTwsX100) GTwsX80)
set_option maxRecDepth 20000 in
theorem gL_law_X10_byOther : GoodIn wsL_law (wsV RL 88 RX10 yX10_byOther wsX10_byOther) := goodIn_app (goodIn_of _ (by decide +kernel)) ggL_law_X10_byOther
theorem G_26_17 : GW (Cond.constantLong RX11 197 (6)) := GR26 _ (List.mem_of_getElem? (i := 17) rfl)
theorem GB_wsX11_byOther_r1 : GoodIn wsL_law wsX11_byOther_r1 := (gcons G_6_13 (gcons G_26_17 (gcons G_13_4 (gcons G_23_0 (gcons G_12_10 (gcons G_12_11 (gcons G_1_5 (gcons G_12_12 (gcons G_7_14 (gcons G_7_15 (gcons G_7_16 (gcons G_7_17 (gcons G_5_21 (gcons G_22_20 (gcons G_22_21 (gcons G_22_22 (gcons G_22_23 (gcons G_5_16 (gcons G_6_1 (gcons G_5_19 (gcons G_23_1 (gcons G_6_2 (gcons G_5_23 (gcons G_5_20 gnil))))))))))))))))))))))))
theorem GB_wsX11_byOther_r2 : GoodIn wsL_law wsX11_byOther_r2 := (gcons G_12_17 (gcons G_12_18 (gcons G_12_19 (gcons G_12_20 (gcons G_6_0 (gcons G_12_21 (gcons G_12_22 (gcons G_12_23 (gcons G_13_0 (gcons G_13_1 (gcons G_13_2 (gcons G_13_3 (gcons G_5_15 (gcons G_6_18 (gcons G_5_17 (gcons G_13_5 (gcons G_5_18 (gcons G_13_6 (gcons G_13_7 (gcons G_13_8 (gcons G_13_9 (gcons G_23_2 (gcons G_23_3 (gcons G_23_4 gnil))))))))))))))))))))))))
theorem GB_wsX11_byOther_r3 : GoodIn wsL_law wsX11_byOther_r3 := (gcons G_23_5 (gcons G_5_22 (gcons G_20_0 (gcons G_20_1 (gcons G_20_2 (gcons G_20_3 (gcons G_17_11 (gcons G_17_12 (gcons G_17_13 (gcons G_17_14 (gcons G_20_4 (gcons G_20_5 (gcons G_20_6 (gcons G_20_7 (gcons G_13_23 (gcons G_14_0 (gcons G_14_1 (gcons G_14_2 gnil))))))))))))))))))
theorem G_26_16 : GW (Cond.code yX11_byOther cX11_byOther 3 (some .int)) := GR26 _ (List.mem_of_getElem? (i := 16) rfl)
theorem ggL_law_X11_byOther : GoodIn wsL_law wsX11_byOther := gcons G_26_16 (goodIn_app (goodIn_app GB_wsX11_byOther_r1 (goodIn_app GB_wsX11_byOther_r2 GB_wsX11_byOther_r3)) GTwsX110)
set_option maxRecDepth 20000 in
theorem gL_law_X11_byOther : GoodIn wsL_law (wsV RL 91 RX11 yX11_byOther wsX11_byOther) := goodIn_app (goodIn_of _ (by decide +kernel)) ggL_law_X11_byOther
theorem G_27_1 : GW (Cond.code yX0_numberWhoStays cX0_numberWhoStays 4 (some .int)) := GR27 _ (List.mem_of_getElem? (i := 1) rfl)
theorem G_27_0 : GW (Cond.selects RX0 yX0_numberWhoStays yX0_numberWhoStays) := GR27 _ (List.mem_of_getElem? (i := 0) rfl)
theorem G_26_23 : GW (Cond.instanceMethod yX0_numberWhoStays) := GR26 _ (List.mem_of_getElem? (i := 23) rfl)
theorem G_26_22 : GW (Cond.methodLink RX10 171 yX0_numberWhoStays) := GR26 _ (List.mem_of_getElem? (i := 22) rfl)
theorem GB_wsX10_endless_r1 : GoodIn wsL_law wsX10_endless_r1 := (gcons G_2_3 (gcons G_1_17 (gcons G_3_3 (gcons G_7_0 (gcons G_7_1 (gcons G_7_2 (gcons G_1_2 (gcons G_7_3 (gcons G_2_6 (gcons G_26_22 (gcons G_26_23 (gcons G_27_0 (gcons G_2_2 (gcons G_27_1 (gcons G_3_20 (gcons G_3_21 (gcons G_3_22 (gcons G_3_23 (gcons G_4_0 (gcons G_4_1 (gcons G_4_2 (gcons G_4_3 (gcons G_4_4 (gcons G_4_5 gnil))))))))))))))))))))))))
theorem GB_wsX10_endless_r2 : GoodIn wsL_law wsX10_endless_r2 := (gcons G_4_6 (gcons G_4_7 (gcons G_3_19 (gcons G_4_8 gnil))))
theorem G_26_21 : GW (Cond.code yX10_endless cX10_endless 3 (some .int)) := GR26 _ (List.mem_of_getElem? (i := 21) rfl)
theorem ggL_law_X10_endless : GoodIn wsL_law wsX10_endless := gcons G_26_21 (goodIn_app (goodIn_app (goodIn_app (goodIn_app GB_wsX10_endless_r1 GB_wsX10_endless_r2) GTwsX100) GTwsX80) GTwsX00)
set_option maxRecDepth 20000 in
theorem gL_law_X10_endless : GoodIn wsL_law (wsV RL 92 RX10 yX10_endless wsX10_endless) := goodIn_app (goodIn_of _ (by decide +kernel)) ggL_law_X10_endless
theorem G_27_5 : GW (Cond.code yX11_endless cX11_endless 6 (some .int)) := GR27 _ (List.mem_of_getElem? (i := 5) rfl)
theorem G_27_14 : GW (Cond.fieldLink RX11 199 "EachSecondStruckModel" "luckyMany" "I") := GR27 _ (List.mem_of_getElem? (i := 14) rfl)
theorem G_27_13 : GW (Cond.code yX11_findLucky cX11_findLucky 5 none) := GR27 _ (List.mem_of_getElem? (i := 13) rfl)
theorem G_27_12 : GW (Cond.selects RX11 yX11_findLucky yX11_findLucky) := GR27 _ (List.mem_of_getElem? (i := 12) rfl)
theorem G_27_11 : GW (Cond.instanceMethod yX11_findLucky) := GR27 _ (List.mem_of_getElem? (i := 11) rfl)
theorem G_27_10 : GW (Cond.methodLink RX11 208 yX11_findLucky) := GR27 _ (List.mem_of_getElem? (i := 10) rfl)
theorem G_27_9 : GW (Cond.constantLong RX11 202 (2)) := GR27 _ (List.mem_of_getElem? (i := 9) rfl)
theorem G_27_8 : GW (Cond.code yX11_wrongEndless cX11_wrongEndless 3 (some .int)) := GR27 _ (List.mem_of_getElem? (i := 8) rfl)
theorem G_27_7 : GW (Cond.static yX11_wrongEndless) := GR27 _ (List.mem_of_getElem? (i := 7) rfl)
theorem G_27_6 : GW (Cond.methodLink RX11 204 yX11_wrongEndless) := GR27 _ (List.mem_of_getElem? (i := 6) rfl)
theorem ggL_law_X11_endless : GoodIn wsL_law wsX11_endless := gcons G_27_5 (goodIn_app (gcons G_6_13 (gcons G_5_17 (gcons G_6_8 (gcons G_27_6 (gcons G_27_7 (gcons G_1_5 (gcons G_27_8 (gcons G_27_9 (gcons G_12_10 (gcons G_12_11 (gcons G_12_12 (gcons G_7_14 (gcons G_7_15 (gcons G_7_16 (gcons G_7_17 (gcons G_5_21 (gcons G_27_10 (gcons G_27_11 (gcons G_27_12 (gcons G_27_13 (gcons G_27_14 (gcons G_6_9 gnil)))))))))))))))))))))) GTwsX110)
set_option maxRecDepth 20000 in
theorem gL_law_X11_endless : GoodIn wsL_law (wsV RL 95 RX11 yX11_endless wsX11_endless) := goodIn_app (goodIn_of _ (by decide +kernel)) ggL_law_X11_endless
theorem G_27_18 : GW (Cond.code yX10_endlessWhen cX10_endlessWhen 3 (some .int)) := GR27 _ (List.mem_of_getElem? (i := 18) rfl)
theorem G_27_22 : GW (Cond.code yX0_roundOfGoing cX0_roundOfGoing 7 (some .int)) := GR27 _ (List.mem_of_getElem? (i := 22) rfl)
theorem G_27_21 : GW (Cond.selects RX0 yX0_roundOfGoing yX0_roundOfGoing) := GR27 _ (List.mem_of_getElem? (i := 21) rfl)
theorem G_27_20 : GW (Cond.instanceMethod yX0_roundOfGoing) := GR27 _ (List.mem_of_getElem? (i := 20) rfl)
theorem G_27_19 : GW (Cond.methodLink RX10 175 yX0_roundOfGoing) := GR27 _ (List.mem_of_getElem? (i := 19) rfl)
theorem ggL_law_X10_endlessWhen : GoodIn wsL_law wsX10_endlessWhen := gcons G_27_18 (goodIn_app (goodIn_app (goodIn_app (gcons G_2_3 (gcons G_1_17 (gcons G_3_3 (gcons G_7_0 (gcons G_7_1 (gcons G_7_2 (gcons G_1_2 (gcons G_7_3 (gcons G_2_6 (gcons G_27_19 (gcons G_27_20 (gcons G_27_21 (gcons G_2_2 (gcons G_27_22 (gcons G_4_4 (gcons G_4_5 (gcons G_4_6 (gcons G_4_7 (gcons G_3_19 (gcons G_4_8 gnil)))))))))))))))))))) GTwsX100) GTwsX80) GTwsX00)
set_option maxRecDepth 20000 in
theorem gL_law_X10_endlessWhen : GoodIn wsL_law (wsV RL 96 RX10 yX10_endlessWhen wsX10_endlessWhen) := goodIn_app (goodIn_of _ (by decide +kernel)) ggL_law_X10_endlessWhen
theorem G_28_2 : GW (Cond.code yX11_endlessWhen cX11_endlessWhen 7 (some .int)) := GR28 _ (List.mem_of_getElem? (i := 2) rfl)
theorem ggL_law_X11_endlessWhen : GoodIn wsL_law wsX11_endlessWhen := gcons G_28_2 (goodIn_app (gcons G_6_13 (gcons G_6_9 (gcons G_5_17 (gcons G_27_6 (gcons G_27_7 (gcons G_1_5 (gcons G_27_8 (gcons G_27_9 (gcons G_12_10 (gcons G_12_11 (gcons G_12_12 (gcons G_7_14 (gcons G_7_15 (gcons G_7_16 (gcons G_7_17 (gcons G_5_21 (gcons G_27_10 (gcons G_27_11 (gcons G_27_12 (gcons G_27_13 (gcons G_27_14 (gcons G_6_8 gnil)))))))))))))))))))))) GTwsX110)
set_option maxRecDepth 20000 in
theorem gL_law_X11_endlessWhen : GoodIn wsL_law (wsV RL 99 RX11 yX11_endlessWhen wsX11_endlessWhen) := goodIn_app (goodIn_of _ (by decide +kernel)) ggL_law_X11_endlessWhen
theorem G_28_6 : GW (Cond.code yX10_powers cX10_powers 5 (some .int)) := GR28 _ (List.mem_of_getElem? (i := 6) rfl)
theorem ggL_law_X10_powers : GoodIn wsL_law wsX10_powers := gcons G_28_6 (goodIn_app (gcons G_7_0 (gcons G_7_1 (gcons G_7_2 (gcons G_1_2 (gcons G_7_3 (gcons G_2_6 gnil)))))) GTwsX100)
set_option maxRecDepth 20000 in
theorem gL_law_X10_powers : GoodIn wsL_law (wsV RL 100 RX10 yX10_powers wsX10_powers) := goodIn_app (goodIn_of _ (by decide +kernel)) ggL_law_X10_powers
theorem G_28_10 : GW (Cond.code yX11_powers cX11_powers 8 (some .int)) := GR28 _ (List.mem_of_getElem? (i := 10) rfl)
theorem ggL_law_X11_powers : GoodIn wsL_law wsX11_powers := gcons G_28_10 (goodIn_app (gcons G_6_13 (gcons G_6_10 (gcons G_7_14 (gcons G_7_15 (gcons G_7_16 (gcons G_1_5 (gcons G_7_17 (gcons G_5_21 gnil)))))))) GTwsX110)
set_option maxRecDepth 20000 in
theorem gL_law_X11_powers : GoodIn wsL_law (wsV RL 103 RX11 yX11_powers wsX11_powers) := goodIn_app (goodIn_of _ (by decide +kernel)) ggL_law_X11_powers
theorem G_28_23 : GW (Cond.code yX10_partOfThrows cX10_partOfThrows 12 (some .long)) := GR28 _ (List.mem_of_getElem? (i := 23) rfl)
theorem G_28_22 : GW (Cond.selects RX10 yX10_partOfThrows yX10_partOfThrows) := GR28 _ (List.mem_of_getElem? (i := 22) rfl)
theorem G_28_21 : GW (Cond.instanceMethod yX10_partOfThrows) := GR28 _ (List.mem_of_getElem? (i := 21) rfl)
theorem G_28_20 : GW (Cond.methodLink RX10 182 yX10_partOfThrows) := GR28 _ (List.mem_of_getElem? (i := 20) rfl)
theorem G_28_19 : GW (Cond.constantLong RX10 217 (4000000000000000000)) := GR28 _ (List.mem_of_getElem? (i := 19) rfl)
theorem G_28_18 : GW (Cond.code yX10_refuseLong cX10_refuseLong 2 (some .long)) := GR28 _ (List.mem_of_getElem? (i := 18) rfl)
theorem G_28_17 : GW (Cond.selects RX10 yX10_refuseLong yX10_refuseLong) := GR28 _ (List.mem_of_getElem? (i := 17) rfl)
theorem G_28_16 : GW (Cond.instanceMethod yX10_refuseLong) := GR28 _ (List.mem_of_getElem? (i := 16) rfl)
theorem G_28_15 : GW (Cond.methodLink RX10 178 yX10_refuseLong) := GR28 _ (List.mem_of_getElem? (i := 15) rfl)
theorem GB_wsX10_throwsBy_r1 : GoodIn wsL_law wsX10_throwsBy_r1 := (gcons G_1_17 (gcons G_10_10 (gcons G_28_15 (gcons G_28_16 (gcons G_28_17 (gcons G_1_2 (gcons G_28_18 (gcons G_28_19 (gcons G_7_0 (gcons G_7_1 (gcons G_7_2 (gcons G_7_3 (gcons G_2_6 (gcons G_28_20 (gcons G_28_21 (gcons G_28_22 (gcons G_28_23 (gcons G_15_17 (gcons G_15_18 (gcons G_15_19 (gcons G_15_20 (gcons G_15_21 (gcons G_1_13 (gcons G_10_11 gnil))))))))))))))))))))))))
theorem GB_wsX10_throwsBy_r2 : GoodIn wsL_law wsX10_throwsBy_r2 := (gcons G_10_12 (gcons G_10_13 (gcons G_15_22 (gcons G_15_23 (gcons G_16_0 (gcons G_16_1 (gcons G_2_8 (gcons G_16_2 (gcons G_16_3 (gcons G_16_4 (gcons G_16_5 (gcons G_16_6 (gcons G_3_2 (gcons G_16_7 (gcons G_16_8 (gcons G_16_9 (gcons G_2_11 (gcons G_16_10 (gcons G_16_11 (gcons G_16_12 (gcons G_4_1 (gcons G_4_2 (gcons G_4_3 (gcons G_16_13 gnil))))))))))))))))))))))))
theorem G_29_1 : GW (Cond.static yX10_greatestDivisor) := GR29 _ (List.mem_of_getElem? (i := 1) rfl)
theorem G_29_0 : GW (Cond.methodLink RX10 241 yX10_greatestDivisor) := GR29 _ (List.mem_of_getElem? (i := 0) rfl)
theorem GB_wsX10_throwsBy_r3 : GoodIn wsL_law wsX10_throwsBy_r3 := (gcons G_16_14 (gcons G_16_15 (gcons G_1_16 (gcons G_16_16 (gcons G_5_5 (gcons G_3_8 (gcons G_16_17 (gcons G_16_18 (gcons G_16_19 (gcons G_16_20 (gcons G_2_14 (gcons G_16_21 (gcons G_16_22 (gcons G_16_23 (gcons G_17_0 (gcons G_2_20 (gcons G_17_1 (gcons G_17_2 (gcons G_17_3 (gcons G_17_4 (gcons G_17_5 (gcons G_17_6 (gcons G_29_0 (gcons G_29_1 gnil))))))))))))))))))))))))
theorem G_29_8 : GW (Cond.code Lib.MathLoose.max_long.x Lib.MathLoose.max_long.code 4 (some .long)) := GR29 _ (List.mem_of_getElem? (i := 8) rfl)
theorem G_29_7 : GW (Cond.static Lib.MathLoose.max_long.x) := GR29 _ (List.mem_of_getElem? (i := 7) rfl)
theorem G_29_6 : GW (Cond.methodLink RX10 248 Lib.MathLoose.max_long.x) := GR29 _ (List.mem_of_getElem? (i := 6) rfl)
theorem G_29_5 : GW (Cond.code Lib.MathLoose.abs_long.x Lib.MathLoose.abs_long.code 2 (some .long)) := GR29 _ (List.mem_of_getElem? (i := 5) rfl)
theorem G_29_4 : GW (Cond.static Lib.MathLoose.abs_long.x) := GR29 _ (List.mem_of_getElem? (i := 4) rfl)
theorem G_29_3 : GW (Cond.methodLink RX10 245 Lib.MathLoose.abs_long.x) := GR29 _ (List.mem_of_getElem? (i := 3) rfl)
theorem G_29_2 : GW (Cond.code yX10_greatestDivisor cX10_greatestDivisor 11 (some .long)) := GR29 _ (List.mem_of_getElem? (i := 2) rfl)
theorem GB_wsX10_throwsBy_r4 : GoodIn wsL_law wsX10_throwsBy_r4 := (gcons G_29_2 (gcons G_29_3 (gcons G_29_4 (gcons G_29_5 (gcons G_29_6 (gcons G_29_7 (gcons G_29_8 gnil)))))))
theorem G_28_14 : GW (Cond.code yX10_throwsBy cX10_throwsBy 3 (some .long)) := GR28 _ (List.mem_of_getElem? (i := 14) rfl)
theorem ggL_law_X10_throwsBy : GoodIn wsL_law wsX10_throwsBy := gcons G_28_14 (goodIn_app (goodIn_app (goodIn_app GB_wsX10_throwsBy_r1 (goodIn_app GB_wsX10_throwsBy_r2 (goodIn_app GB_wsX10_throwsBy_r3 GB_wsX10_throwsBy_r4))) GTwsX100) GTwsX80)
set_option maxRecDepth 20000 in
theorem gL_law_X10_throwsBy : GoodIn wsL_law (wsV RL 104 RX10 yX10_throwsBy wsX10_throwsBy) := goodIn_app (goodIn_of _ (by decide +kernel)) ggL_law_X10_throwsBy
theorem G_29_12 : GW (Cond.code yX11_throwsBy cX11_throwsBy 16 (some .long)) := GR29 _ (List.mem_of_getElem? (i := 12) rfl)
theorem G_29_13 : GW (Cond.constantLong RX11 211 (4000000000000000000)) := GR29 _ (List.mem_of_getElem? (i := 13) rfl)
theorem ggL_law_X11_throwsBy : GoodIn wsL_law wsX11_throwsBy := gcons G_29_12 (goodIn_app (gcons G_6_13 (gcons G_13_4 (gcons G_29_13 (gcons G_6_18 (gcons G_12_10 (gcons G_12_11 (gcons G_1_5 (gcons G_12_12 (gcons G_7_14 (gcons G_7_15 (gcons G_7_16 (gcons G_7_17 (gcons G_5_21 (gcons G_17_11 (gcons G_17_12 (gcons G_17_13 (gcons G_17_14 (gcons G_13_5 (gcons G_5_18 (gcons G_5_17 (gcons G_5_16 (gcons G_5_19 gnil)))))))))))))))))))))) GTwsX110)
set_option maxRecDepth 20000 in
theorem gL_law_X11_throwsBy : GoodIn wsL_law (wsV RL 108 RX11 yX11_throwsBy wsX11_throwsBy) := goodIn_app (goodIn_of _ (by decide +kernel)) ggL_law_X11_throwsBy
theorem G_29_17 : GW (Cond.code yX10_tell cX10_tell 2 (some .int)) := GR29 _ (List.mem_of_getElem? (i := 17) rfl)
theorem G_29_18 : GW (Cond.fieldLink RX10 186 "EachSecondStruck" "toldCount" "I") := GR29 _ (List.mem_of_getElem? (i := 18) rfl)
theorem ggL_law_X10_tell : GoodIn wsL_law wsX10_tell := gcons G_29_17 (goodIn_app (gcons G_29_18 (gcons G_2_5 (gcons G_7_0 (gcons G_7_1 (gcons G_7_2 (gcons G_1_2 (gcons G_7_3 (gcons G_2_6 gnil)))))))) GTwsX100)
set_option maxRecDepth 20000 in
theorem gL_law_X10_tell : GoodIn wsL_law (wsV RL 109 RX10 yX10_tell wsX10_tell) := goodIn_app (goodIn_of _ (by decide +kernel)) ggL_law_X10_tell
theorem G_29_22 : GW (Cond.code yX11_tell cX11_tell 2 (some .int)) := GR29 _ (List.mem_of_getElem? (i := 22) rfl)
theorem G_29_23 : GW (Cond.fieldLink RX11 213 "EachSecondStruckModel" "toldMany" "I") := GR29 _ (List.mem_of_getElem? (i := 23) rfl)
theorem ggL_law_X11_tell : GoodIn wsL_law wsX11_tell := gcons G_29_22 (goodIn_app (gcons G_6_13 (gcons G_29_23 (gcons G_6_11 (gcons G_7_14 (gcons G_7_15 (gcons G_7_16 (gcons G_1_5 (gcons G_7_17 (gcons G_5_21 gnil))))))))) GTwsX110)
set_option maxRecDepth 20000 in
theorem gL_law_X11_tell : GoodIn wsL_law (wsV RL 112 RX11 yX11_tell wsX11_tell) := goodIn_app (goodIn_of _ (by decide +kernel)) ggL_law_X11_tell
theorem G_30_3 : GW (Cond.code yX10_judge cX10_judge 4 (some .int)) := GR30 _ (List.mem_of_getElem? (i := 3) rfl)
theorem G_30_6 : GW (Cond.code Lib.Math.min.name Lib.Math.min.code 2 (some .int)) := GR30 _ (List.mem_of_getElem? (i := 6) rfl)
theorem G_30_5 : GW (Cond.static Lib.Math.min.name) := GR30 _ (List.mem_of_getElem? (i := 5) rfl)
theorem G_30_4 : GW (Cond.methodLink RX10 189 Lib.Math.min.name) := GR30 _ (List.mem_of_getElem? (i := 4) rfl)
theorem ggL_law_X10_judge : GoodIn wsL_law wsX10_judge := gcons G_30_3 (goodIn_app (goodIn_app (gcons G_29_18 (gcons G_1_17 (gcons G_24_14 (gcons G_30_4 (gcons G_30_5 (gcons G_4_2 (gcons G_30_6 (gcons G_2_5 (gcons G_25_9 gnil))))))))) GTwsX100) GTwsX80)
set_option maxRecDepth 20000 in
theorem gL_law_X10_judge : GoodIn wsL_law (wsV RL 113 RX10 yX10_judge wsX10_judge) := goodIn_app (goodIn_of _ (by decide +kernel)) ggL_law_X10_judge
theorem G_30_10 : GW (Cond.code yX11_judge cX11_judge 3 (some .int)) := GR30 _ (List.mem_of_getElem? (i := 10) rfl)
theorem ggL_law_X11_judge : GoodIn wsL_law wsX11_judge := gcons G_30_10 (goodIn_app (gcons G_6_13 (gcons G_29_23 (gcons G_5_16 (gcons G_6_11 (gcons G_5_19 gnil))))) GTwsX110)
set_option maxRecDepth 20000 in
theorem gL_law_X11_judge : GoodIn wsL_law (wsV RL 116 RX11 yX11_judge wsX11_judge) := goodIn_app (goodIn_of _ (by decide +kernel)) ggL_law_X11_judge
theorem G_30_17 : GW (Cond.selects RX10 yX10_findByKind yX10_findByKind) := GR30 _ (List.mem_of_getElem? (i := 17) rfl)
theorem G_30_16 : GW (Cond.instanceMethod yX10_findByKind) := GR30 _ (List.mem_of_getElem? (i := 16) rfl)
theorem G_30_15 : GW (Cond.methodLink RX10 193 yX10_findByKind) := GR30 _ (List.mem_of_getElem? (i := 15) rfl)
theorem GB_wsX10_find_r1 : GoodIn wsL_law wsX10_find_r1 := (gcons G_1_18 (gcons G_1_17 (gcons G_9_10 (gcons G_9_11 (gcons G_9_12 (gcons G_1_16 (gcons G_9_13 (gcons G_5_4 (gcons G_5_5 (gcons G_5_6 (gcons G_9_14 (gcons G_9_15 (gcons G_9_16 (gcons G_3_7 (gcons G_9_17 (gcons G_9_18 (gcons G_9_19 (gcons G_9_20 (gcons G_3_8 (gcons G_3_9 (gcons G_3_10 (gcons G_30_15 (gcons G_30_16 (gcons G_30_17 gnil))))))))))))))))))))))))
theorem G_30_23 : GW (Cond.fieldLink RX10 196 "EachSecondStruck$Standing" "size" "I") := GR30 _ (List.mem_of_getElem? (i := 23) rfl)
theorem G_30_22 : GW (Cond.code yX10_goToEndFromBeginning cX10_goToEndFromBeginning 4 none) := GR30 _ (List.mem_of_getElem? (i := 22) rfl)
theorem G_30_21 : GW (Cond.selects RX10 yX10_goToEndFromBeginning yX10_goToEndFromBeginning) := GR30 _ (List.mem_of_getElem? (i := 21) rfl)
theorem G_30_20 : GW (Cond.instanceMethod yX10_goToEndFromBeginning) := GR30 _ (List.mem_of_getElem? (i := 20) rfl)
theorem G_30_19 : GW (Cond.methodLink RX10 199 yX10_goToEndFromBeginning) := GR30 _ (List.mem_of_getElem? (i := 19) rfl)
theorem G_30_18 : GW (Cond.code yX10_findByKind cX10_findByKind 4 (some .int)) := GR30 _ (List.mem_of_getElem? (i := 18) rfl)
theorem GB_wsX10_find_r2 : GoodIn wsL_law wsX10_find_r2 := (gcons G_1_2 (gcons G_30_18 (gcons G_3_3 (gcons G_30_19 (gcons G_30_20 (gcons G_30_21 (gcons G_30_22 (gcons G_30_23 (gcons G_5_0 (gcons G_5_1 (gcons G_5_2 (gcons G_5_3 (gcons G_5_7 (gcons G_5_8 (gcons G_5_9 (gcons G_5_10 (gcons G_10_21 (gcons G_10_22 (gcons G_10_23 (gcons G_11_0 (gcons G_11_1 (gcons G_11_2 (gcons G_11_3 (gcons G_11_4 gnil))))))))))))))))))))))))
theorem GB_wsX10_find_r3 : GoodIn wsL_law wsX10_find_r3 := (gcons G_11_5 (gcons G_11_6 (gcons G_11_7 (gcons G_11_8 (gcons G_15_18 (gcons G_15_19 (gcons G_15_20 (gcons G_15_21 (gcons G_1_13 (gcons G_10_11 (gcons G_10_12 (gcons G_10_13 (gcons G_21_15 (gcons G_21_16 (gcons G_21_17 (gcons G_21_18 (gcons G_21_19 (gcons G_21_20 (gcons G_21_21 (gcons G_21_22 (gcons G_2_8 (gcons G_21_23 (gcons G_22_0 (gcons G_22_1 gnil))))))))))))))))))))))))
theorem GB_wsX10_find_r4 : GoodIn wsL_law wsX10_find_r4 := (gcons G_22_2 (gcons G_22_3 (gcons G_22_4 (gcons G_22_5 (gcons G_22_6 (gcons G_22_7 (gcons G_22_8 (gcons G_2_20 (gcons G_22_9 (gcons G_17_2 (gcons G_22_10 (gcons G_4_1 (gcons G_4_2 (gcons G_4_3 (gcons G_22_11 (gcons G_17_20 (gcons G_17_21 (gcons G_17_22 (gcons G_17_23 (gcons G_15_23 (gcons G_16_0 (gcons G_16_1 (gcons G_16_2 (gcons G_16_3 gnil))))))))))))))))))))))))
theorem GB_wsX10_find_r5 : GoodIn wsL_law wsX10_find_r5 := (gcons G_16_4 (gcons G_16_5 (gcons G_16_6 (gcons G_3_2 (gcons G_16_7 (gcons G_16_8 (gcons G_16_9 (gcons G_2_11 (gcons G_16_10 (gcons G_16_11 (gcons G_16_12 (gcons G_16_13 (gcons G_16_14 (gcons G_16_15 (gcons G_16_16 (gcons G_18_0 (gcons G_16_18 (gcons G_16_19 (gcons G_16_20 (gcons G_2_14 (gcons G_16_21 (gcons G_16_22 (gcons G_16_23 (gcons G_17_0 gnil))))))))))))))))))))))))
theorem GB_wsX10_find_r6 : GoodIn wsL_law wsX10_find_r6 := (gcons G_17_1 (gcons G_17_3 (gcons G_17_4 (gcons G_17_5 (gcons G_17_6 (gcons G_18_1 (gcons G_18_2 (gcons G_18_3 (gcons G_18_4 (gcons G_18_5 (gcons G_18_6 (gcons G_18_7 (gcons G_18_8 (gcons G_2_23 (gcons G_18_9 (gcons G_18_10 (gcons G_18_11 (gcons G_18_12 (gcons G_18_13 (gcons G_18_14 (gcons G_18_15 (gcons G_18_16 (gcons G_18_17 (gcons G_18_18 gnil))))))))))))))))))))))))
theorem GB_wsX10_find_r7 : GoodIn wsL_law wsX10_find_r7 := (gcons G_18_19 (gcons G_18_20 (gcons G_2_17 (gcons G_18_21 (gcons G_18_22 (gcons G_18_23 (gcons G_19_0 (gcons G_19_1 (gcons G_19_2 (gcons G_19_3 (gcons G_19_4 (gcons G_19_5 (gcons G_19_6 (gcons G_19_7 (gcons G_19_8 (gcons G_19_9 (gcons G_19_10 (gcons G_19_11 (gcons G_19_12 (gcons G_19_13 (gcons G_19_14 (gcons G_19_15 (gcons G_19_16 (gcons G_19_17 gnil))))))))))))))))))))))))
theorem G_31_3 : GW (Cond.code yX10_stayAsTold cX10_stayAsTold 6 (some .boolean)) := GR31 _ (List.mem_of_getElem? (i := 3) rfl)
theorem G_31_2 : GW (Cond.selects RX10 yX10_stayAsTold yX10_stayAsTold) := GR31 _ (List.mem_of_getElem? (i := 2) rfl)
theorem G_31_1 : GW (Cond.instanceMethod yX10_stayAsTold) := GR31 _ (List.mem_of_getElem? (i := 1) rfl)
theorem G_31_0 : GW (Cond.methodLink RX10 251 yX10_stayAsTold) := GR31 _ (List.mem_of_getElem? (i := 0) rfl)
theorem GB_wsX10_find_r8 : GoodIn wsL_law wsX10_find_r8 := (gcons G_19_18 (gcons G_19_19 (gcons G_31_0 (gcons G_31_1 (gcons G_31_2 (gcons G_31_3 (gcons G_24_14 (gcons G_29_18 (gcons G_25_9 (gcons G_2_5 gnil))))))))))
theorem G_30_14 : GW (Cond.code yX10_find cX10_find 3 (some .int)) := GR30 _ (List.mem_of_getElem? (i := 14) rfl)
theorem ggL_law_X10_find : GoodIn wsL_law wsX10_find := gcons G_30_14 (goodIn_app (goodIn_app (goodIn_app GB_wsX10_find_r1 (goodIn_app GB_wsX10_find_r2 (goodIn_app GB_wsX10_find_r3 (goodIn_app GB_wsX10_find_r4 (goodIn_app GB_wsX10_find_r5 (goodIn_app GB_wsX10_find_r6 (goodIn_app GB_wsX10_find_r7 GB_wsX10_find_r8))))))) GTwsX100) GTwsX80)
set_option maxRecDepth 20000 in
theorem gL_law_X10_find : GoodIn wsL_law (wsV RL 117 RX10 yX10_find wsX10_find) := goodIn_app (goodIn_of _ (by decide +kernel)) ggL_law_X10_find
theorem GB_wsX11_find_r1 : GoodIn wsL_law wsX11_find_r1 := (gcons G_6_13 (gcons G_5_15 (gcons G_13_4 (gcons G_5_17 (gcons G_12_17 (gcons G_12_18 (gcons G_12_19 (gcons G_1_5 (gcons G_12_20 (gcons G_6_0 (gcons G_12_21 (gcons G_12_22 (gcons G_12_23 (gcons G_13_0 (gcons G_13_1 (gcons G_13_2 (gcons G_13_3 (gcons G_5_16 (gcons G_6_18 (gcons G_13_5 (gcons G_5_18 (gcons G_5_19 (gcons G_5_20 (gcons G_13_6 gnil))))))))))))))))))))))))
theorem G_31_11 : GW (Cond.code yX11_isTold cX11_isTold 3 (some .boolean)) := GR31 _ (List.mem_of_getElem? (i := 11) rfl)
theorem G_31_10 : GW (Cond.selects RX11 yX11_isTold yX11_isTold) := GR31 _ (List.mem_of_getElem? (i := 10) rfl)
theorem G_31_9 : GW (Cond.instanceMethod yX11_isTold) := GR31 _ (List.mem_of_getElem? (i := 9) rfl)
theorem G_31_8 : GW (Cond.methodLink RX11 216 yX11_isTold) := GR31 _ (List.mem_of_getElem? (i := 8) rfl)
theorem GB_wsX11_find_r2 : GoodIn wsL_law wsX11_find_r2 := (gcons G_13_7 (gcons G_13_8 (gcons G_13_9 (gcons G_6_14 (gcons G_6_15 (gcons G_6_16 (gcons G_6_17 (gcons G_31_8 (gcons G_31_9 (gcons G_31_10 (gcons G_31_11 (gcons G_29_23 (gcons G_6_11 (gcons G_23_2 (gcons G_23_3 (gcons G_23_4 (gcons G_23_5 (gcons G_23_1 (gcons G_5_23 (gcons G_5_22 (gcons G_20_0 (gcons G_20_1 (gcons G_20_2 (gcons G_20_3 gnil))))))))))))))))))))))))
theorem GB_wsX11_find_r3 : GoodIn wsL_law wsX11_find_r3 := (gcons G_17_11 (gcons G_17_12 (gcons G_17_13 (gcons G_17_14 (gcons G_20_4 (gcons G_20_5 (gcons G_20_6 (gcons G_20_7 (gcons G_13_23 (gcons G_14_0 (gcons G_14_1 (gcons G_14_2 gnil))))))))))))
theorem G_31_7 : GW (Cond.code yX11_find cX11_find 5 (some .int)) := GR31 _ (List.mem_of_getElem? (i := 7) rfl)
theorem ggL_law_X11_find : GoodIn wsL_law wsX11_find := gcons G_31_7 (goodIn_app (goodIn_app GB_wsX11_find_r1 (goodIn_app GB_wsX11_find_r2 GB_wsX11_find_r3)) GTwsX110)
set_option maxRecDepth 20000 in
theorem gL_law_X11_find : GoodIn wsL_law (wsV RL 120 RX11 yX11_find wsX11_find) := goodIn_app (goodIn_of _ (by decide +kernel)) ggL_law_X11_find
theorem GB_wsX10_seen_r1 : GoodIn wsL_law wsX10_seen_r1 := (gcons G_1_17 (gcons G_30_23 (gcons G_1_18 (gcons G_10_10 (gcons G_7_0 (gcons G_7_1 (gcons G_7_2 (gcons G_1_2 (gcons G_7_3 (gcons G_2_6 (gcons G_9_10 (gcons G_9_11 (gcons G_9_12 (gcons G_1_16 (gcons G_9_13 (gcons G_5_4 (gcons G_5_5 (gcons G_5_6 (gcons G_9_14 (gcons G_9_15 (gcons G_9_16 (gcons G_3_7 (gcons G_9_17 (gcons G_9_18 gnil))))))))))))))))))))))))
theorem GB_wsX10_seen_r2 : GoodIn wsL_law wsX10_seen_r2 := (gcons G_9_19 (gcons G_9_20 (gcons G_3_8 (gcons G_3_9 (gcons G_3_10 (gcons G_30_19 (gcons G_30_20 (gcons G_30_21 (gcons G_30_22 (gcons G_5_0 (gcons G_5_1 (gcons G_5_2 (gcons G_5_3 (gcons G_5_7 (gcons G_5_8 (gcons G_5_9 (gcons G_5_10 (gcons G_10_21 (gcons G_10_22 (gcons G_10_23 (gcons G_11_0 (gcons G_11_1 (gcons G_11_2 (gcons G_11_3 gnil))))))))))))))))))))))))
theorem GB_wsX10_seen_r3 : GoodIn wsL_law wsX10_seen_r3 := (gcons G_11_4 (gcons G_11_5 (gcons G_11_6 (gcons G_11_7 (gcons G_11_8 (gcons G_15_18 (gcons G_15_19 (gcons G_15_20 (gcons G_15_21 (gcons G_1_13 (gcons G_10_11 (gcons G_10_12 (gcons G_10_13 (gcons G_21_15 (gcons G_21_16 (gcons G_21_17 (gcons G_21_18 (gcons G_21_19 (gcons G_21_20 (gcons G_21_21 (gcons G_21_22 (gcons G_2_8 (gcons G_21_23 (gcons G_22_0 gnil))))))))))))))))))))))))
theorem GB_wsX10_seen_r4 : GoodIn wsL_law wsX10_seen_r4 := (gcons G_22_1 (gcons G_22_2 (gcons G_22_3 (gcons G_22_4 (gcons G_22_5 (gcons G_22_6 (gcons G_22_7 (gcons G_22_8 (gcons G_2_20 (gcons G_22_9 (gcons G_17_2 (gcons G_22_10 (gcons G_4_1 (gcons G_4_2 (gcons G_4_3 (gcons G_22_11 (gcons G_17_20 (gcons G_17_21 (gcons G_17_22 (gcons G_17_23 (gcons G_15_23 (gcons G_16_0 (gcons G_16_1 (gcons G_16_2 gnil))))))))))))))))))))))))
theorem GB_wsX10_seen_r5 : GoodIn wsL_law wsX10_seen_r5 := (gcons G_16_3 (gcons G_16_4 (gcons G_16_5 (gcons G_16_6 (gcons G_3_2 (gcons G_16_7 (gcons G_16_8 (gcons G_16_9 (gcons G_2_11 (gcons G_16_10 (gcons G_16_11 (gcons G_16_12 (gcons G_16_13 (gcons G_16_14 (gcons G_16_15 (gcons G_16_16 (gcons G_18_0 (gcons G_16_18 (gcons G_16_19 (gcons G_16_20 (gcons G_2_14 (gcons G_16_21 (gcons G_16_22 (gcons G_16_23 gnil))))))))))))))))))))))))
theorem GB_wsX10_seen_r6 : GoodIn wsL_law wsX10_seen_r6 := (gcons G_17_0 (gcons G_17_1 (gcons G_17_3 (gcons G_17_4 (gcons G_17_5 (gcons G_17_6 (gcons G_18_1 (gcons G_18_2 (gcons G_18_3 (gcons G_18_4 (gcons G_18_5 (gcons G_18_6 (gcons G_18_7 (gcons G_18_8 (gcons G_2_23 (gcons G_18_9 (gcons G_18_10 (gcons G_18_11 (gcons G_18_12 (gcons G_18_13 (gcons G_18_14 (gcons G_18_15 (gcons G_18_16 (gcons G_18_17 gnil))))))))))))))))))))))))
theorem GB_wsX10_seen_r7 : GoodIn wsL_law wsX10_seen_r7 := (gcons G_18_18 (gcons G_18_19 (gcons G_18_20 (gcons G_2_17 (gcons G_18_21 (gcons G_18_22 (gcons G_18_23 (gcons G_19_0 (gcons G_19_1 (gcons G_19_2 (gcons G_19_3 (gcons G_19_4 (gcons G_19_5 (gcons G_19_6 (gcons G_19_7 (gcons G_19_8 (gcons G_19_9 (gcons G_19_10 (gcons G_19_11 (gcons G_19_12 (gcons G_19_13 (gcons G_19_14 (gcons G_19_15 (gcons G_19_16 gnil))))))))))))))))))))))))
theorem G_31_19 : GW (Cond.code yX10_stayBySwapped cX10_stayBySwapped 3 (some .boolean)) := GR31 _ (List.mem_of_getElem? (i := 19) rfl)
theorem G_31_18 : GW (Cond.selects RX10 yX10_stayBySwapped yX10_stayBySwapped) := GR31 _ (List.mem_of_getElem? (i := 18) rfl)
theorem G_31_17 : GW (Cond.instanceMethod yX10_stayBySwapped) := GR31 _ (List.mem_of_getElem? (i := 17) rfl)
theorem G_31_16 : GW (Cond.methodLink RX10 203 yX10_stayBySwapped) := GR31 _ (List.mem_of_getElem? (i := 16) rfl)
theorem GB_wsX10_seen_r8 : GoodIn wsL_law wsX10_seen_r8 := (gcons G_19_17 (gcons G_19_18 (gcons G_19_19 (gcons G_31_16 (gcons G_31_17 (gcons G_31_18 (gcons G_31_19 (gcons G_31_0 (gcons G_31_1 (gcons G_31_2 (gcons G_31_3 (gcons G_24_14 (gcons G_29_18 (gcons G_25_9 (gcons G_2_5 gnil)))))))))))))))
theorem G_31_15 : GW (Cond.code yX10_seen cX10_seen 6 (some .int)) := GR31 _ (List.mem_of_getElem? (i := 15) rfl)
theorem ggL_law_X10_seen : GoodIn wsL_law wsX10_seen := gcons G_31_15 (goodIn_app (goodIn_app (goodIn_app GB_wsX10_seen_r1 (goodIn_app GB_wsX10_seen_r2 (goodIn_app GB_wsX10_seen_r3 (goodIn_app GB_wsX10_seen_r4 (goodIn_app GB_wsX10_seen_r5 (goodIn_app GB_wsX10_seen_r6 (goodIn_app GB_wsX10_seen_r7 GB_wsX10_seen_r8))))))) GTwsX100) GTwsX80)
set_option maxRecDepth 20000 in
theorem gL_law_X10_seen : GoodIn wsL_law (wsV RL 121 RX10 yX10_seen wsX10_seen) := goodIn_app (goodIn_of _ (by decide +kernel)) ggL_law_X10_seen
theorem GB_wsX11_seen_r1 : GoodIn wsL_law wsX11_seen_r1 := (gcons G_6_13 (gcons G_5_15 (gcons G_5_19 (gcons G_12_10 (gcons G_12_11 (gcons G_1_5 (gcons G_12_12 (gcons G_7_14 (gcons G_7_15 (gcons G_7_16 (gcons G_7_17 (gcons G_5_21 (gcons G_12_17 (gcons G_12_18 (gcons G_12_19 (gcons G_12_20 (gcons G_6_0 (gcons G_12_21 (gcons G_12_22 (gcons G_12_23 (gcons G_13_0 (gcons G_13_1 (gcons G_13_2 (gcons G_13_3 gnil))))))))))))))))))))))))
theorem GB_wsX11_seen_r2 : GoodIn wsL_law wsX11_seen_r2 := (gcons G_5_16 (gcons G_6_18 (gcons G_13_4 (gcons G_5_17 (gcons G_13_5 (gcons G_5_18 (gcons G_5_20 (gcons G_13_6 (gcons G_13_7 (gcons G_13_8 (gcons G_13_9 (gcons G_6_14 (gcons G_6_15 (gcons G_6_16 (gcons G_6_17 (gcons G_31_8 (gcons G_31_9 (gcons G_31_10 (gcons G_31_11 (gcons G_29_23 (gcons G_6_11 (gcons G_23_2 (gcons G_23_3 (gcons G_23_4 gnil))))))))))))))))))))))))
theorem GB_wsX11_seen_r3 : GoodIn wsL_law wsX11_seen_r3 := (gcons G_23_5 (gcons G_23_1 (gcons G_5_23 (gcons G_5_22 (gcons G_20_0 (gcons G_20_1 (gcons G_20_2 (gcons G_20_3 (gcons G_17_11 (gcons G_17_12 (gcons G_17_13 (gcons G_17_14 (gcons G_20_4 (gcons G_20_5 (gcons G_20_6 (gcons G_20_7 (gcons G_13_23 (gcons G_14_0 (gcons G_14_1 (gcons G_14_2 gnil))))))))))))))))))))
theorem G_31_23 : GW (Cond.code yX11_seen cX11_seen 6 (some .int)) := GR31 _ (List.mem_of_getElem? (i := 23) rfl)
theorem ggL_law_X11_seen : GoodIn wsL_law wsX11_seen := gcons G_31_23 (goodIn_app (goodIn_app GB_wsX11_seen_r1 (goodIn_app GB_wsX11_seen_r2 GB_wsX11_seen_r3)) GTwsX110)
set_option maxRecDepth 20000 in
theorem gL_law_X11_seen : GoodIn wsL_law (wsV RL 124 RX11 yX11_seen wsX11_seen) := goodIn_app (goodIn_of _ (by decide +kernel)) ggL_law_X11_seen
theorem G_32_3 : GW (Cond.code yX10_clear cX10_clear 2 (some .int)) := GR32 _ (List.mem_of_getElem? (i := 3) rfl)
theorem ggL_law_X10_clear : GoodIn wsL_law wsX10_clear := gcons G_32_3 (goodIn_app (gcons G_29_18 gnil) GTwsX100)
set_option maxRecDepth 20000 in
theorem gL_law_X10_clear : GoodIn wsL_law (wsV RL 125 RX10 yX10_clear wsX10_clear) := goodIn_app (goodIn_of _ (by decide +kernel)) ggL_law_X10_clear
theorem G_32_7 : GW (Cond.code yX11_clear cX11_clear 2 (some .int)) := GR32 _ (List.mem_of_getElem? (i := 7) rfl)
theorem ggL_law_X11_clear : GoodIn wsL_law wsX11_clear := gcons G_32_7 (goodIn_app (gcons G_6_13 (gcons G_29_23 gnil)) GTwsX110)
set_option maxRecDepth 20000 in
theorem gL_law_X11_clear : GoodIn wsL_law (wsV RL 128 RX11 yX11_clear wsX11_clear) := goodIn_app (goodIn_of _ (by decide +kernel)) ggL_law_X11_clear
theorem G_32_14 : GW (Cond.constant RX10 208 (65536)) := GR32 _ (List.mem_of_getElem? (i := 14) rfl)
theorem G_32_13 : GW (Cond.constant RX10 207 (2147483647)) := GR32 _ (List.mem_of_getElem? (i := 13) rfl)
theorem G_32_12 : GW (Cond.constant RX10 206 (1103515245)) := GR32 _ (List.mem_of_getElem? (i := 12) rfl)
theorem GB_wsX10_seeds_r1 : GoodIn wsL_law wsX10_seeds_r1 := (gcons G_1_18 (gcons G_1_17 (gcons G_32_12 (gcons G_32_13 (gcons G_32_14 (gcons G_24_14 (gcons G_7_0 (gcons G_7_1 (gcons G_7_2 (gcons G_1_2 (gcons G_7_3 (gcons G_2_6 (gcons G_9_10 (gcons G_9_11 (gcons G_9_12 (gcons G_1_16 (gcons G_9_13 (gcons G_5_4 (gcons G_5_5 (gcons G_5_6 (gcons G_9_14 (gcons G_9_15 (gcons G_9_16 (gcons G_3_7 gnil))))))))))))))))))))))))
theorem G_32_15 : GW (Cond.methodLink RX10 209 yX8_strike) := GR32 _ (List.mem_of_getElem? (i := 15) rfl)
theorem GB_wsX10_seeds_r2 : GoodIn wsL_law wsX10_seeds_r2 := (gcons G_9_17 (gcons G_9_18 (gcons G_9_19 (gcons G_9_20 (gcons G_3_8 (gcons G_3_9 (gcons G_3_10 (gcons G_32_15 (gcons G_19_8 (gcons G_19_9 (gcons G_19_10 (gcons G_19_11 (gcons G_4_1 (gcons G_4_2 (gcons G_4_3 (gcons G_19_12 (gcons G_19_13 (gcons G_19_14 (gcons G_19_15 (gcons G_19_16 (gcons G_19_17 (gcons G_19_18 (gcons G_19_19 gnil)))))))))))))))))))))))
theorem G_32_11 : GW (Cond.code yX10_seeds cX10_seeds 6 (some .int)) := GR32 _ (List.mem_of_getElem? (i := 11) rfl)
theorem ggL_law_X10_seeds : GoodIn wsL_law wsX10_seeds := gcons G_32_11 (goodIn_app (goodIn_app (goodIn_app GB_wsX10_seeds_r1 GB_wsX10_seeds_r2) GTwsX100) GTwsX80)
set_option maxRecDepth 20000 in
theorem gL_law_X10_seeds : GoodIn wsL_law (wsV RL 129 RX10 yX10_seeds wsX10_seeds) := goodIn_app (goodIn_of _ (by decide +kernel)) ggL_law_X10_seeds
theorem G_32_22 : GW (Cond.constant RX11 222 (65536)) := GR32 _ (List.mem_of_getElem? (i := 22) rfl)
theorem G_32_21 : GW (Cond.constant RX11 221 (2147483647)) := GR32 _ (List.mem_of_getElem? (i := 21) rfl)
theorem G_32_20 : GW (Cond.constant RX11 220 (1103515245)) := GR32 _ (List.mem_of_getElem? (i := 20) rfl)
theorem GB_wsX11_seeds_r1 : GoodIn wsL_law wsX11_seeds_r1 := (gcons G_6_13 (gcons G_32_20 (gcons G_32_21 (gcons G_32_22 (gcons G_5_16 (gcons G_7_14 (gcons G_7_15 (gcons G_7_16 (gcons G_1_5 (gcons G_7_17 (gcons G_5_21 (gcons G_12_17 (gcons G_12_18 (gcons G_12_19 (gcons G_12_20 (gcons G_6_0 (gcons G_12_21 (gcons G_12_22 (gcons G_12_23 (gcons G_13_0 (gcons G_13_1 (gcons G_13_2 (gcons G_13_3 (gcons G_5_15 gnil))))))))))))))))))))))))
theorem GB_wsX11_seeds_r2 : GoodIn wsL_law wsX11_seeds_r2 := (gcons G_6_18 (gcons G_13_4 (gcons G_5_17 (gcons G_13_5 (gcons G_5_18 (gcons G_5_19 (gcons G_5_20 (gcons G_13_6 (gcons G_13_7 (gcons G_13_8 (gcons G_13_9 (gcons G_20_4 (gcons G_20_5 (gcons G_20_6 (gcons G_20_7 (gcons G_5_22 (gcons G_13_23 (gcons G_14_0 (gcons G_14_1 (gcons G_14_2 gnil))))))))))))))))))))
theorem G_32_19 : GW (Cond.code yX11_seeds cX11_seeds 5 (some .int)) := GR32 _ (List.mem_of_getElem? (i := 19) rfl)
theorem ggL_law_X11_seeds : GoodIn wsL_law wsX11_seeds := gcons G_32_19 (goodIn_app (goodIn_app GB_wsX11_seeds_r1 GB_wsX11_seeds_r2) GTwsX110)
set_option maxRecDepth 20000 in
theorem gL_law_X11_seeds : GoodIn wsL_law (wsV RL 132 RX11 yX11_seeds wsX11_seeds) := goodIn_app (goodIn_of _ (by decide +kernel)) ggL_law_X11_seeds
theorem G_33_2 : GW (Cond.code yX10_image cX10_image 1 (some .int)) := GR33 _ (List.mem_of_getElem? (i := 2) rfl)
theorem G_33_3 : GW (Cond.fieldLink RX10 213 "EachSecondStruck" "hasImage" "Z") := GR33 _ (List.mem_of_getElem? (i := 3) rfl)
theorem ggL_law_X10_image : GoodIn wsL_law wsX10_image := gcons G_33_2 (goodIn_app (goodIn_app (gcons G_1_19 (gcons G_1_17 (gcons G_33_3 (gcons G_24_14 (gcons G_9_10 (gcons G_9_11 (gcons G_9_12 (gcons G_1_16 (gcons G_9_13 (gcons G_5_4 (gcons G_5_5 (gcons G_5_6 (gcons G_9_14 (gcons G_9_15 (gcons G_9_16 (gcons G_3_7 (gcons G_9_17 (gcons G_9_18 (gcons G_9_19 (gcons G_9_20 (gcons G_3_8 (gcons G_3_9 (gcons G_3_10 gnil))))))))))))))))))))))) GTwsX100) GTwsX80)
set_option maxRecDepth 20000 in
theorem gL_law_X10_image : GoodIn wsL_law (wsV RL 133 RX10 yX10_image wsX10_image) := goodIn_app (goodIn_of _ (by decide +kernel)) ggL_law_X10_image
theorem G_33_7 : GW (Cond.code yX11_image cX11_image 1 (some .int)) := GR33 _ (List.mem_of_getElem? (i := 7) rfl)
theorem G_33_8 : GW (Cond.fieldLink RX11 223 "EachSecondStruckModel" "hasImage" "Z") := GR33 _ (List.mem_of_getElem? (i := 8) rfl)
theorem ggL_law_X11_image : GoodIn wsL_law wsX11_image := gcons G_33_7 (goodIn_app (gcons G_6_13 (gcons G_33_8 (gcons G_6_12 (gcons G_5_16 (gcons G_12_21 (gcons G_12_22 (gcons G_12_23 (gcons G_1_5 (gcons G_13_0 (gcons G_13_1 (gcons G_13_2 (gcons G_13_3 (gcons G_5_15 (gcons G_6_18 (gcons G_13_4 (gcons G_5_17 (gcons G_13_5 (gcons G_5_18 (gcons G_5_19 (gcons G_5_20 (gcons G_13_6 (gcons G_13_7 (gcons G_13_8 (gcons G_13_9 gnil)))))))))))))))))))))))) GTwsX110)
set_option maxRecDepth 20000 in
theorem gL_law_X11_image : GoodIn wsL_law (wsV RL 136 RX11 yX11_image wsX11_image) := goodIn_app (goodIn_of _ (by decide +kernel)) ggL_law_X11_image
theorem GB_wsX10_restore_r1 : GoodIn wsL_law wsX10_restore_r1 := (gcons G_33_3 (gcons G_1_17 (gcons G_1_19 (gcons G_24_14 (gcons G_7_0 (gcons G_7_1 (gcons G_7_2 (gcons G_1_2 (gcons G_7_3 (gcons G_2_6 (gcons G_9_10 (gcons G_9_11 (gcons G_9_12 (gcons G_1_16 (gcons G_9_13 (gcons G_5_4 (gcons G_5_5 (gcons G_5_6 (gcons G_9_14 (gcons G_9_15 (gcons G_9_16 (gcons G_3_7 (gcons G_9_17 (gcons G_9_18 gnil))))))))))))))))))))))))
theorem GB_wsX10_restore_r2 : GoodIn wsL_law wsX10_restore_r2 := (gcons G_9_19 (gcons G_9_20 (gcons G_3_8 (gcons G_3_9 (gcons G_3_10 gnil)))))
theorem G_33_12 : GW (Cond.code yX10_restore cX10_restore 1 (some .int)) := GR33 _ (List.mem_of_getElem? (i := 12) rfl)
theorem ggL_law_X10_restore : GoodIn wsL_law wsX10_restore := gcons G_33_12 (goodIn_app (goodIn_app (goodIn_app GB_wsX10_restore_r1 GB_wsX10_restore_r2) GTwsX100) GTwsX80)
set_option maxRecDepth 20000 in
theorem gL_law_X10_restore : GoodIn wsL_law (wsV RL 137 RX10 yX10_restore wsX10_restore) := goodIn_app (goodIn_of _ (by decide +kernel)) ggL_law_X10_restore
theorem GB_wsX11_restore_r1 : GoodIn wsL_law wsX11_restore_r1 := (gcons G_6_13 (gcons G_33_8 (gcons G_6_12 (gcons G_5_16 (gcons G_7_14 (gcons G_7_15 (gcons G_7_16 (gcons G_1_5 (gcons G_7_17 (gcons G_5_21 (gcons G_12_21 (gcons G_12_22 (gcons G_12_23 (gcons G_13_0 (gcons G_13_1 (gcons G_13_2 (gcons G_13_3 (gcons G_5_15 (gcons G_6_18 (gcons G_13_4 (gcons G_5_17 (gcons G_13_5 (gcons G_5_18 (gcons G_5_19 gnil))))))))))))))))))))))))
theorem GB_wsX11_restore_r2 : GoodIn wsL_law wsX11_restore_r2 := (gcons G_5_20 (gcons G_13_6 (gcons G_13_7 (gcons G_13_8 (gcons G_13_9 gnil)))))
theorem G_33_16 : GW (Cond.code yX11_restore cX11_restore 1 (some .int)) := GR33 _ (List.mem_of_getElem? (i := 16) rfl)
theorem ggL_law_X11_restore : GoodIn wsL_law wsX11_restore := gcons G_33_16 (goodIn_app (goodIn_app GB_wsX11_restore_r1 GB_wsX11_restore_r2) GTwsX110)
set_option maxRecDepth 20000 in
theorem gL_law_X11_restore : GoodIn wsL_law (wsV RL 140 RX11 yX11_restore wsX11_restore) := goodIn_app (goodIn_of _ (by decide +kernel)) ggL_law_X11_restore
theorem GB_wsX10_count_r1 : GoodIn wsL_law wsX10_count_r1 := (gcons G_2_6 (gcons G_1_17 (gcons G_30_23 (gcons G_24_14 (gcons G_15_17 (gcons G_10_10 (gcons G_3_3 (gcons G_14_23 (gcons G_1_23 (gcons G_6_23 (gcons G_29_18 (gcons G_1_18 (gcons G_21_11 (gcons G_21_12 (gcons G_21_13 (gcons G_1_2 (gcons G_21_14 (gcons G_9_10 (gcons G_9_11 (gcons G_9_12 (gcons G_1_16 (gcons G_9_13 (gcons G_5_4 (gcons G_5_5 gnil))))))))))))))))))))))))
theorem GB_wsX10_count_r2 : GoodIn wsL_law wsX10_count_r2 := (gcons G_5_6 (gcons G_9_14 (gcons G_9_15 (gcons G_9_16 (gcons G_3_7 (gcons G_9_17 (gcons G_9_18 (gcons G_9_19 (gcons G_9_20 (gcons G_3_8 (gcons G_3_9 (gcons G_3_10 (gcons G_15_18 (gcons G_15_19 (gcons G_15_20 (gcons G_15_21 (gcons G_1_13 (gcons G_10_11 (gcons G_10_12 (gcons G_10_13 (gcons G_21_15 (gcons G_21_16 (gcons G_21_17 (gcons G_21_18 gnil))))))))))))))))))))))))
theorem GB_wsX10_count_r3 : GoodIn wsL_law wsX10_count_r3 := (gcons G_21_19 (gcons G_21_20 (gcons G_21_21 (gcons G_21_22 (gcons G_2_8 (gcons G_21_23 (gcons G_22_0 (gcons G_22_1 (gcons G_22_2 (gcons G_22_3 (gcons G_22_4 (gcons G_22_5 (gcons G_22_6 (gcons G_22_7 (gcons G_22_8 (gcons G_2_20 (gcons G_22_9 (gcons G_17_2 (gcons G_22_10 (gcons G_4_1 (gcons G_4_2 (gcons G_4_3 (gcons G_22_11 (gcons G_17_20 gnil))))))))))))))))))))))))
theorem GB_wsX10_count_r4 : GoodIn wsL_law wsX10_count_r4 := (gcons G_17_21 (gcons G_17_22 (gcons G_17_23 (gcons G_15_23 (gcons G_16_0 (gcons G_16_1 (gcons G_16_2 (gcons G_16_3 (gcons G_16_4 (gcons G_16_5 (gcons G_16_6 (gcons G_3_2 (gcons G_16_7 (gcons G_16_8 (gcons G_16_9 (gcons G_2_11 (gcons G_16_10 (gcons G_16_11 (gcons G_16_12 (gcons G_16_13 (gcons G_16_14 (gcons G_16_15 (gcons G_16_16 (gcons G_18_0 gnil))))))))))))))))))))))))
theorem GB_wsX10_count_r5 : GoodIn wsL_law wsX10_count_r5 := (gcons G_16_18 (gcons G_16_19 (gcons G_16_20 (gcons G_2_14 (gcons G_16_21 (gcons G_16_22 (gcons G_16_23 (gcons G_17_0 (gcons G_17_1 (gcons G_17_3 (gcons G_17_4 (gcons G_17_5 (gcons G_17_6 (gcons G_18_1 (gcons G_18_2 (gcons G_18_3 (gcons G_18_4 (gcons G_18_5 (gcons G_18_6 (gcons G_18_7 (gcons G_18_8 (gcons G_2_23 (gcons G_18_9 (gcons G_18_10 gnil))))))))))))))))))))))))
theorem GB_wsX10_count_r6 : GoodIn wsL_law wsX10_count_r6 := (gcons G_18_11 (gcons G_18_12 (gcons G_18_13 (gcons G_18_14 (gcons G_18_15 (gcons G_18_16 (gcons G_18_17 (gcons G_18_18 (gcons G_18_19 (gcons G_18_20 (gcons G_2_17 (gcons G_18_21 (gcons G_18_22 (gcons G_18_23 (gcons G_19_0 (gcons G_19_1 (gcons G_19_2 (gcons G_19_3 (gcons G_19_4 (gcons G_19_5 (gcons G_19_6 (gcons G_19_7 (gcons G_19_8 (gcons G_19_9 gnil))))))))))))))))))))))))
theorem GB_wsX10_count_r7 : GoodIn wsL_law wsX10_count_r7 := (gcons G_19_10 (gcons G_19_11 (gcons G_19_12 (gcons G_19_13 (gcons G_19_14 (gcons G_19_15 (gcons G_19_16 (gcons G_19_17 (gcons G_19_18 (gcons G_19_19 gnil))))))))))
theorem G_33_20 : GW (Cond.code yX10_count cX10_count 2 (some .int)) := GR33 _ (List.mem_of_getElem? (i := 20) rfl)
theorem ggL_law_X10_count : GoodIn wsL_law wsX10_count := gcons G_33_20 (goodIn_app (goodIn_app (goodIn_app (goodIn_app GB_wsX10_count_r1 (goodIn_app GB_wsX10_count_r2 (goodIn_app GB_wsX10_count_r3 (goodIn_app GB_wsX10_count_r4 (goodIn_app GB_wsX10_count_r5 (goodIn_app GB_wsX10_count_r6 GB_wsX10_count_r7)))))) GTwsX100) GTwsX80) GTwsX40)
set_option maxRecDepth 20000 in
theorem gL_law_X10_count : GoodIn wsL_law (wsV RL 141 RX10 yX10_count wsX10_count) := goodIn_app (goodIn_of _ (by decide +kernel)) ggL_law_X10_count
theorem G_34_2 : GW (Cond.constantLong RX11 228 (16)) := GR34 _ (List.mem_of_getElem? (i := 2) rfl)
theorem G_34_1 : GW (Cond.constantLong RX11 226 (11)) := GR34 _ (List.mem_of_getElem? (i := 1) rfl)
theorem GB_wsX11_count_r1 : GoodIn wsL_law wsX11_count_r1 := (gcons G_6_13 (gcons G_5_15 (gcons G_5_16 (gcons G_6_18 (gcons G_13_4 (gcons G_5_17 (gcons G_13_5 (gcons G_7_13 (gcons G_29_23 (gcons G_23_0 (gcons G_34_1 (gcons G_34_2 (gcons G_5_21 (gcons G_22_20 (gcons G_22_21 (gcons G_22_22 (gcons G_1_5 (gcons G_22_23 (gcons G_6_1 (gcons G_5_19 (gcons G_23_1 (gcons G_6_2 (gcons G_5_23 (gcons G_5_20 gnil))))))))))))))))))))))))
theorem GB_wsX11_count_r2 : GoodIn wsL_law wsX11_count_r2 := (gcons G_12_17 (gcons G_12_18 (gcons G_12_19 (gcons G_12_20 (gcons G_6_0 (gcons G_12_21 (gcons G_12_22 (gcons G_12_23 (gcons G_13_0 (gcons G_13_1 (gcons G_13_2 (gcons G_13_3 (gcons G_5_18 (gcons G_13_6 (gcons G_13_7 (gcons G_13_8 (gcons G_13_9 (gcons G_23_2 (gcons G_23_3 (gcons G_23_4 (gcons G_23_5 (gcons G_5_22 (gcons G_20_0 (gcons G_20_1 gnil))))))))))))))))))))))))
theorem GB_wsX11_count_r3 : GoodIn wsL_law wsX11_count_r3 := (gcons G_20_2 (gcons G_20_3 (gcons G_17_11 (gcons G_17_12 (gcons G_17_13 (gcons G_17_14 (gcons G_20_4 (gcons G_20_5 (gcons G_20_6 (gcons G_20_7 (gcons G_13_23 (gcons G_14_0 (gcons G_14_1 (gcons G_14_2 (gcons G_12_10 (gcons G_12_11 (gcons G_12_12 gnil)))))))))))))))))
theorem G_34_0 : GW (Cond.code yX11_count cX11_count 2 (some .int)) := GR34 _ (List.mem_of_getElem? (i := 0) rfl)
theorem ggL_law_X11_count : GoodIn wsL_law wsX11_count := gcons G_34_0 (goodIn_app (goodIn_app GB_wsX11_count_r1 (goodIn_app GB_wsX11_count_r2 GB_wsX11_count_r3)) GTwsX110)
set_option maxRecDepth 20000 in
theorem gL_law_X11_count : GoodIn wsL_law (wsV RL 144 RX11 yX11_count wsX11_count) := goodIn_app (goodIn_of _ (by decide +kernel)) ggL_law_X11_count
theorem dL_law_0 : decode cL_law 0 = .ok (.new 7, 3) := by decide +kernel
theorem dL_law_3 : decode cL_law 3 = .ok (.dup, 1) := by decide +kernel
theorem dL_law_4 : decode cL_law 4 = .ok (.invokespecial 9, 3) := by decide +kernel
theorem dL_law_7 : decode cL_law 7 = .ok (.astore_n 1, 1) := by decide +kernel
theorem dL_law_8 : decode cL_law 8 = .ok (.new 10, 3) := by decide +kernel
theorem dL_law_11 : decode cL_law 11 = .ok (.dup, 1) := by decide +kernel
theorem dL_law_12 : decode cL_law 12 = .ok (.invokespecial 12, 3) := by decide +kernel
theorem dL_law_15 : decode cL_law 15 = .ok (.astore_n 2, 1) := by decide +kernel
theorem dL_law_16 : decode cL_law 16 = .ok (.iconst 0, 1) := by decide +kernel
theorem dL_law_17 : decode cL_law 17 = .ok (.istore_n 3, 1) := by decide +kernel
theorem dL_law_18 : decode cL_law 18 = .ok (.iload_n 3, 1) := by decide +kernel
theorem dL_law_19 : decode cL_law 19 = .ok (.aload_n 0, 1) := by decide +kernel
theorem dL_law_20 : decode cL_law 20 = .ok (.arraylength, 1) := by decide +kernel
theorem dL_law_21 : decode cL_law 21 = .ok (.iconst 3, 1) := by decide +kernel
theorem dL_law_22 : decode cL_law 22 = .ok (.isub, 1) := by decide +kernel
theorem dL_law_23 : decode cL_law 23 = .ok (.if_icmp .gt 875, 3) := by decide +kernel
theorem dL_law_26 : decode cL_law 26 = .ok (.aload_n 0, 1) := by decide +kernel
theorem dL_law_27 : decode cL_law 27 = .ok (.iload_n 3, 1) := by decide +kernel
theorem dL_law_28 : decode cL_law 28 = .ok (.iaload, 1) := by decide +kernel
theorem dL_law_29 : decode cL_law 29 = .ok (.bipush 31, 2) := by decide +kernel
theorem dL_law_31 : decode cL_law 31 = .ok (.iand, 1) := by decide +kernel
theorem dL_law_32 : decode cL_law 32 = .ok (.tableswitch 860 0 31 #[144, 167, 180, 213, 236, 269, 282, 295, 318, 341, 364, 397, 410, 433, 456, 479, 502, 525, 538, 561, 594, 627, 660, 693, 716, 729, 742, 765, 778, 811, 824, 837], 144) := by decide +kernel
theorem dL_law_176 : decode cL_law 176 = .ok (.aload_n 1, 1) := by decide +kernel
theorem dL_law_177 : decode cL_law 177 = .ok (.aload_n 0, 1) := by decide +kernel
theorem dL_law_178 : decode cL_law 178 = .ok (.iload_n 3, 1) := by decide +kernel
theorem dL_law_179 : decode cL_law 179 = .ok (.iconst 1, 1) := by decide +kernel
theorem dL_law_180 : decode cL_law 180 = .ok (.iadd, 1) := by decide +kernel
theorem dL_law_181 : decode cL_law 181 = .ok (.iaload, 1) := by decide +kernel
theorem dL_law_182 : decode cL_law 182 = .ok (.invokevirtual 13, 3) := by decide +kernel
theorem dL_law_185 : decode cL_law 185 = .ok (.pop, 1) := by decide +kernel
theorem dL_law_186 : decode cL_law 186 = .ok (.aload_n 2, 1) := by decide +kernel
theorem dL_law_187 : decode cL_law 187 = .ok (.aload_n 0, 1) := by decide +kernel
theorem dL_law_188 : decode cL_law 188 = .ok (.iload_n 3, 1) := by decide +kernel
theorem dL_law_189 : decode cL_law 189 = .ok (.iconst 1, 1) := by decide +kernel
theorem dL_law_190 : decode cL_law 190 = .ok (.iadd, 1) := by decide +kernel
theorem dL_law_191 : decode cL_law 191 = .ok (.iaload, 1) := by decide +kernel
theorem dL_law_192 : decode cL_law 192 = .ok (.invokevirtual 17, 3) := by decide +kernel
theorem dL_law_195 : decode cL_law 195 = .ok (.pop, 1) := by decide +kernel
theorem dL_law_196 : decode cL_law 196 = .ok (.goto 696, 3) := by decide +kernel
theorem dL_law_199 : decode cL_law 199 = .ok (.aload_n 1, 1) := by decide +kernel
theorem dL_law_200 : decode cL_law 200 = .ok (.invokevirtual 18, 3) := by decide +kernel
theorem dL_law_203 : decode cL_law 203 = .ok (.pop, 1) := by decide +kernel
theorem dL_law_204 : decode cL_law 204 = .ok (.aload_n 2, 1) := by decide +kernel
theorem dL_law_205 : decode cL_law 205 = .ok (.invokevirtual 22, 3) := by decide +kernel
theorem dL_law_208 : decode cL_law 208 = .ok (.pop, 1) := by decide +kernel
theorem dL_law_209 : decode cL_law 209 = .ok (.goto 683, 3) := by decide +kernel
theorem dL_law_212 : decode cL_law 212 = .ok (.aload_n 1, 1) := by decide +kernel
theorem dL_law_213 : decode cL_law 213 = .ok (.aload_n 0, 1) := by decide +kernel
theorem dL_law_214 : decode cL_law 214 = .ok (.iload_n 3, 1) := by decide +kernel
theorem dL_law_215 : decode cL_law 215 = .ok (.iconst 1, 1) := by decide +kernel
theorem dL_law_216 : decode cL_law 216 = .ok (.iadd, 1) := by decide +kernel
theorem dL_law_217 : decode cL_law 217 = .ok (.iaload, 1) := by decide +kernel
theorem dL_law_218 : decode cL_law 218 = .ok (.aload_n 0, 1) := by decide +kernel
theorem dL_law_219 : decode cL_law 219 = .ok (.iload_n 3, 1) := by decide +kernel
theorem dL_law_220 : decode cL_law 220 = .ok (.iconst 2, 1) := by decide +kernel
theorem dL_law_221 : decode cL_law 221 = .ok (.iadd, 1) := by decide +kernel
theorem dL_law_222 : decode cL_law 222 = .ok (.iaload, 1) := by decide +kernel
theorem dL_law_223 : decode cL_law 223 = .ok (.invokevirtual 23, 3) := by decide +kernel
theorem dL_law_226 : decode cL_law 226 = .ok (.pop, 1) := by decide +kernel
theorem dL_law_227 : decode cL_law 227 = .ok (.aload_n 2, 1) := by decide +kernel
theorem dL_law_228 : decode cL_law 228 = .ok (.aload_n 0, 1) := by decide +kernel
theorem dL_law_229 : decode cL_law 229 = .ok (.iload_n 3, 1) := by decide +kernel
theorem dL_law_230 : decode cL_law 230 = .ok (.iconst 1, 1) := by decide +kernel
theorem dL_law_231 : decode cL_law 231 = .ok (.iadd, 1) := by decide +kernel
theorem dL_law_232 : decode cL_law 232 = .ok (.iaload, 1) := by decide +kernel
theorem dL_law_233 : decode cL_law 233 = .ok (.aload_n 0, 1) := by decide +kernel
theorem dL_law_234 : decode cL_law 234 = .ok (.iload_n 3, 1) := by decide +kernel
theorem dL_law_235 : decode cL_law 235 = .ok (.iconst 2, 1) := by decide +kernel
theorem dL_law_236 : decode cL_law 236 = .ok (.iadd, 1) := by decide +kernel
theorem dL_law_237 : decode cL_law 237 = .ok (.iaload, 1) := by decide +kernel
theorem dL_law_238 : decode cL_law 238 = .ok (.invokevirtual 27, 3) := by decide +kernel
theorem dL_law_241 : decode cL_law 241 = .ok (.pop, 1) := by decide +kernel
theorem dL_law_242 : decode cL_law 242 = .ok (.goto 650, 3) := by decide +kernel
theorem dL_law_245 : decode cL_law 245 = .ok (.aload_n 1, 1) := by decide +kernel
theorem dL_law_246 : decode cL_law 246 = .ok (.aload_n 0, 1) := by decide +kernel
theorem dL_law_247 : decode cL_law 247 = .ok (.iload_n 3, 1) := by decide +kernel
theorem dL_law_248 : decode cL_law 248 = .ok (.iconst 1, 1) := by decide +kernel
theorem dL_law_249 : decode cL_law 249 = .ok (.iadd, 1) := by decide +kernel
theorem dL_law_250 : decode cL_law 250 = .ok (.iaload, 1) := by decide +kernel
theorem dL_law_251 : decode cL_law 251 = .ok (.invokevirtual 28, 3) := by decide +kernel
theorem dL_law_254 : decode cL_law 254 = .ok (.pop, 1) := by decide +kernel
theorem dL_law_255 : decode cL_law 255 = .ok (.aload_n 2, 1) := by decide +kernel
theorem dL_law_256 : decode cL_law 256 = .ok (.aload_n 0, 1) := by decide +kernel
theorem dL_law_257 : decode cL_law 257 = .ok (.iload_n 3, 1) := by decide +kernel
theorem dL_law_258 : decode cL_law 258 = .ok (.iconst 1, 1) := by decide +kernel
theorem dL_law_259 : decode cL_law 259 = .ok (.iadd, 1) := by decide +kernel
theorem dL_law_260 : decode cL_law 260 = .ok (.iaload, 1) := by decide +kernel
theorem dL_law_261 : decode cL_law 261 = .ok (.invokevirtual 31, 3) := by decide +kernel
theorem dL_law_264 : decode cL_law 264 = .ok (.pop, 1) := by decide +kernel
theorem dL_law_265 : decode cL_law 265 = .ok (.goto 627, 3) := by decide +kernel
theorem dL_law_268 : decode cL_law 268 = .ok (.aload_n 1, 1) := by decide +kernel
theorem dL_law_269 : decode cL_law 269 = .ok (.aload_n 0, 1) := by decide +kernel
theorem dL_law_270 : decode cL_law 270 = .ok (.iload_n 3, 1) := by decide +kernel
theorem dL_law_271 : decode cL_law 271 = .ok (.iconst 1, 1) := by decide +kernel
theorem dL_law_272 : decode cL_law 272 = .ok (.iadd, 1) := by decide +kernel
theorem dL_law_273 : decode cL_law 273 = .ok (.iaload, 1) := by decide +kernel
theorem dL_law_274 : decode cL_law 274 = .ok (.aload_n 0, 1) := by decide +kernel
theorem dL_law_275 : decode cL_law 275 = .ok (.iload_n 3, 1) := by decide +kernel
theorem dL_law_276 : decode cL_law 276 = .ok (.iconst 2, 1) := by decide +kernel
theorem dL_law_277 : decode cL_law 277 = .ok (.iadd, 1) := by decide +kernel
theorem dL_law_278 : decode cL_law 278 = .ok (.iaload, 1) := by decide +kernel
theorem dL_law_279 : decode cL_law 279 = .ok (.invokevirtual 32, 3) := by decide +kernel
theorem dL_law_282 : decode cL_law 282 = .ok (.pop, 1) := by decide +kernel
theorem dL_law_283 : decode cL_law 283 = .ok (.aload_n 2, 1) := by decide +kernel
theorem dL_law_284 : decode cL_law 284 = .ok (.aload_n 0, 1) := by decide +kernel
theorem dL_law_285 : decode cL_law 285 = .ok (.iload_n 3, 1) := by decide +kernel
theorem dL_law_286 : decode cL_law 286 = .ok (.iconst 1, 1) := by decide +kernel
theorem dL_law_287 : decode cL_law 287 = .ok (.iadd, 1) := by decide +kernel
theorem dL_law_288 : decode cL_law 288 = .ok (.iaload, 1) := by decide +kernel
theorem dL_law_289 : decode cL_law 289 = .ok (.aload_n 0, 1) := by decide +kernel
theorem dL_law_290 : decode cL_law 290 = .ok (.iload_n 3, 1) := by decide +kernel
theorem dL_law_291 : decode cL_law 291 = .ok (.iconst 2, 1) := by decide +kernel
theorem dL_law_292 : decode cL_law 292 = .ok (.iadd, 1) := by decide +kernel
theorem dL_law_293 : decode cL_law 293 = .ok (.iaload, 1) := by decide +kernel
theorem dL_law_294 : decode cL_law 294 = .ok (.invokevirtual 35, 3) := by decide +kernel
theorem dL_law_297 : decode cL_law 297 = .ok (.pop, 1) := by decide +kernel
theorem dL_law_298 : decode cL_law 298 = .ok (.goto 594, 3) := by decide +kernel
theorem dL_law_301 : decode cL_law 301 = .ok (.aload_n 1, 1) := by decide +kernel
theorem dL_law_302 : decode cL_law 302 = .ok (.invokevirtual 36, 3) := by decide +kernel
theorem dL_law_305 : decode cL_law 305 = .ok (.pop, 1) := by decide +kernel
theorem dL_law_306 : decode cL_law 306 = .ok (.aload_n 2, 1) := by decide +kernel
theorem dL_law_307 : decode cL_law 307 = .ok (.invokevirtual 39, 3) := by decide +kernel
theorem dL_law_310 : decode cL_law 310 = .ok (.pop, 1) := by decide +kernel
theorem dL_law_311 : decode cL_law 311 = .ok (.goto 581, 3) := by decide +kernel
theorem dL_law_314 : decode cL_law 314 = .ok (.aload_n 1, 1) := by decide +kernel
theorem dL_law_315 : decode cL_law 315 = .ok (.invokevirtual 40, 3) := by decide +kernel
theorem dL_law_318 : decode cL_law 318 = .ok (.pop, 1) := by decide +kernel
theorem dL_law_319 : decode cL_law 319 = .ok (.aload_n 2, 1) := by decide +kernel
theorem dL_law_320 : decode cL_law 320 = .ok (.invokevirtual 43, 3) := by decide +kernel
theorem dL_law_323 : decode cL_law 323 = .ok (.pop, 1) := by decide +kernel
theorem dL_law_324 : decode cL_law 324 = .ok (.goto 568, 3) := by decide +kernel
theorem dL_law_327 : decode cL_law 327 = .ok (.aload_n 1, 1) := by decide +kernel
theorem dL_law_328 : decode cL_law 328 = .ok (.aload_n 0, 1) := by decide +kernel
theorem dL_law_329 : decode cL_law 329 = .ok (.iload_n 3, 1) := by decide +kernel
theorem dL_law_330 : decode cL_law 330 = .ok (.iconst 1, 1) := by decide +kernel
theorem dL_law_331 : decode cL_law 331 = .ok (.iadd, 1) := by decide +kernel
theorem dL_law_332 : decode cL_law 332 = .ok (.iaload, 1) := by decide +kernel
theorem dL_law_333 : decode cL_law 333 = .ok (.invokevirtual 44, 3) := by decide +kernel
theorem dL_law_336 : decode cL_law 336 = .ok (.pop, 1) := by decide +kernel
theorem dL_law_337 : decode cL_law 337 = .ok (.aload_n 2, 1) := by decide +kernel
theorem dL_law_338 : decode cL_law 338 = .ok (.aload_n 0, 1) := by decide +kernel
theorem dL_law_339 : decode cL_law 339 = .ok (.iload_n 3, 1) := by decide +kernel
theorem dL_law_340 : decode cL_law 340 = .ok (.iconst 1, 1) := by decide +kernel
theorem dL_law_341 : decode cL_law 341 = .ok (.iadd, 1) := by decide +kernel
theorem dL_law_342 : decode cL_law 342 = .ok (.iaload, 1) := by decide +kernel
theorem dL_law_343 : decode cL_law 343 = .ok (.invokevirtual 47, 3) := by decide +kernel
theorem dL_law_346 : decode cL_law 346 = .ok (.pop, 1) := by decide +kernel
theorem dL_law_347 : decode cL_law 347 = .ok (.goto 545, 3) := by decide +kernel
theorem dL_law_350 : decode cL_law 350 = .ok (.aload_n 1, 1) := by decide +kernel
theorem dL_law_351 : decode cL_law 351 = .ok (.aload_n 0, 1) := by decide +kernel
theorem dL_law_352 : decode cL_law 352 = .ok (.iload_n 3, 1) := by decide +kernel
theorem dL_law_353 : decode cL_law 353 = .ok (.iconst 1, 1) := by decide +kernel
theorem dL_law_354 : decode cL_law 354 = .ok (.iadd, 1) := by decide +kernel
theorem dL_law_355 : decode cL_law 355 = .ok (.iaload, 1) := by decide +kernel
theorem dL_law_356 : decode cL_law 356 = .ok (.invokevirtual 48, 3) := by decide +kernel
theorem dL_law_359 : decode cL_law 359 = .ok (.pop, 1) := by decide +kernel
theorem dL_law_360 : decode cL_law 360 = .ok (.aload_n 2, 1) := by decide +kernel
theorem dL_law_361 : decode cL_law 361 = .ok (.aload_n 0, 1) := by decide +kernel
theorem dL_law_362 : decode cL_law 362 = .ok (.iload_n 3, 1) := by decide +kernel
theorem dL_law_363 : decode cL_law 363 = .ok (.iconst 1, 1) := by decide +kernel
theorem dL_law_364 : decode cL_law 364 = .ok (.iadd, 1) := by decide +kernel
theorem dL_law_365 : decode cL_law 365 = .ok (.iaload, 1) := by decide +kernel
theorem dL_law_366 : decode cL_law 366 = .ok (.invokevirtual 51, 3) := by decide +kernel
theorem dL_law_369 : decode cL_law 369 = .ok (.pop, 1) := by decide +kernel
theorem dL_law_370 : decode cL_law 370 = .ok (.goto 522, 3) := by decide +kernel
theorem dL_law_373 : decode cL_law 373 = .ok (.aload_n 1, 1) := by decide +kernel
theorem dL_law_374 : decode cL_law 374 = .ok (.aload_n 0, 1) := by decide +kernel
theorem dL_law_375 : decode cL_law 375 = .ok (.iload_n 3, 1) := by decide +kernel
theorem dL_law_376 : decode cL_law 376 = .ok (.iconst 1, 1) := by decide +kernel
theorem dL_law_377 : decode cL_law 377 = .ok (.iadd, 1) := by decide +kernel
theorem dL_law_378 : decode cL_law 378 = .ok (.iaload, 1) := by decide +kernel
theorem dL_law_379 : decode cL_law 379 = .ok (.invokevirtual 52, 3) := by decide +kernel
theorem dL_law_382 : decode cL_law 382 = .ok (.pop, 1) := by decide +kernel
theorem dL_law_383 : decode cL_law 383 = .ok (.aload_n 2, 1) := by decide +kernel
theorem dL_law_384 : decode cL_law 384 = .ok (.aload_n 0, 1) := by decide +kernel
theorem dL_law_385 : decode cL_law 385 = .ok (.iload_n 3, 1) := by decide +kernel
theorem dL_law_386 : decode cL_law 386 = .ok (.iconst 1, 1) := by decide +kernel
theorem dL_law_387 : decode cL_law 387 = .ok (.iadd, 1) := by decide +kernel
theorem dL_law_388 : decode cL_law 388 = .ok (.iaload, 1) := by decide +kernel
theorem dL_law_389 : decode cL_law 389 = .ok (.invokevirtual 55, 3) := by decide +kernel
theorem dL_law_392 : decode cL_law 392 = .ok (.pop, 1) := by decide +kernel
theorem dL_law_393 : decode cL_law 393 = .ok (.goto 499, 3) := by decide +kernel
theorem dL_law_396 : decode cL_law 396 = .ok (.aload_n 1, 1) := by decide +kernel
theorem dL_law_397 : decode cL_law 397 = .ok (.aload_n 0, 1) := by decide +kernel
theorem dL_law_398 : decode cL_law 398 = .ok (.iload_n 3, 1) := by decide +kernel
theorem dL_law_399 : decode cL_law 399 = .ok (.iconst 1, 1) := by decide +kernel
theorem dL_law_400 : decode cL_law 400 = .ok (.iadd, 1) := by decide +kernel
theorem dL_law_401 : decode cL_law 401 = .ok (.iaload, 1) := by decide +kernel
theorem dL_law_402 : decode cL_law 402 = .ok (.aload_n 0, 1) := by decide +kernel
theorem dL_law_403 : decode cL_law 403 = .ok (.iload_n 3, 1) := by decide +kernel
theorem dL_law_404 : decode cL_law 404 = .ok (.iconst 2, 1) := by decide +kernel
theorem dL_law_405 : decode cL_law 405 = .ok (.iadd, 1) := by decide +kernel
theorem dL_law_406 : decode cL_law 406 = .ok (.iaload, 1) := by decide +kernel
theorem dL_law_407 : decode cL_law 407 = .ok (.invokevirtual 56, 3) := by decide +kernel
theorem dL_law_410 : decode cL_law 410 = .ok (.pop, 1) := by decide +kernel
theorem dL_law_411 : decode cL_law 411 = .ok (.aload_n 2, 1) := by decide +kernel
theorem dL_law_412 : decode cL_law 412 = .ok (.aload_n 0, 1) := by decide +kernel
theorem dL_law_413 : decode cL_law 413 = .ok (.iload_n 3, 1) := by decide +kernel
theorem dL_law_414 : decode cL_law 414 = .ok (.iconst 1, 1) := by decide +kernel
theorem dL_law_415 : decode cL_law 415 = .ok (.iadd, 1) := by decide +kernel
theorem dL_law_416 : decode cL_law 416 = .ok (.iaload, 1) := by decide +kernel
theorem dL_law_417 : decode cL_law 417 = .ok (.aload_n 0, 1) := by decide +kernel
theorem dL_law_418 : decode cL_law 418 = .ok (.iload_n 3, 1) := by decide +kernel
theorem dL_law_419 : decode cL_law 419 = .ok (.iconst 2, 1) := by decide +kernel
theorem dL_law_420 : decode cL_law 420 = .ok (.iadd, 1) := by decide +kernel
theorem dL_law_421 : decode cL_law 421 = .ok (.iaload, 1) := by decide +kernel
theorem dL_law_422 : decode cL_law 422 = .ok (.invokevirtual 59, 3) := by decide +kernel
theorem dL_law_425 : decode cL_law 425 = .ok (.pop, 1) := by decide +kernel
theorem dL_law_426 : decode cL_law 426 = .ok (.goto 466, 3) := by decide +kernel
theorem dL_law_429 : decode cL_law 429 = .ok (.aload_n 1, 1) := by decide +kernel
theorem dL_law_430 : decode cL_law 430 = .ok (.invokevirtual 60, 3) := by decide +kernel
theorem dL_law_433 : decode cL_law 433 = .ok (.pop, 1) := by decide +kernel
theorem dL_law_434 : decode cL_law 434 = .ok (.aload_n 2, 1) := by decide +kernel
theorem dL_law_435 : decode cL_law 435 = .ok (.invokevirtual 63, 3) := by decide +kernel
theorem dL_law_438 : decode cL_law 438 = .ok (.pop, 1) := by decide +kernel
theorem dL_law_439 : decode cL_law 439 = .ok (.goto 453, 3) := by decide +kernel
theorem dL_law_442 : decode cL_law 442 = .ok (.aload_n 1, 1) := by decide +kernel
theorem dL_law_443 : decode cL_law 443 = .ok (.aload_n 0, 1) := by decide +kernel
theorem dL_law_444 : decode cL_law 444 = .ok (.iload_n 3, 1) := by decide +kernel
theorem dL_law_445 : decode cL_law 445 = .ok (.iconst 1, 1) := by decide +kernel
theorem dL_law_446 : decode cL_law 446 = .ok (.iadd, 1) := by decide +kernel
theorem dL_law_447 : decode cL_law 447 = .ok (.iaload, 1) := by decide +kernel
theorem dL_law_448 : decode cL_law 448 = .ok (.invokevirtual 64, 3) := by decide +kernel
theorem dL_law_451 : decode cL_law 451 = .ok (.pop, 1) := by decide +kernel
theorem dL_law_452 : decode cL_law 452 = .ok (.aload_n 2, 1) := by decide +kernel
theorem dL_law_453 : decode cL_law 453 = .ok (.aload_n 0, 1) := by decide +kernel
theorem dL_law_454 : decode cL_law 454 = .ok (.iload_n 3, 1) := by decide +kernel
theorem dL_law_455 : decode cL_law 455 = .ok (.iconst 1, 1) := by decide +kernel
theorem dL_law_456 : decode cL_law 456 = .ok (.iadd, 1) := by decide +kernel
theorem dL_law_457 : decode cL_law 457 = .ok (.iaload, 1) := by decide +kernel
theorem dL_law_458 : decode cL_law 458 = .ok (.invokevirtual 67, 3) := by decide +kernel
theorem dL_law_461 : decode cL_law 461 = .ok (.pop, 1) := by decide +kernel
theorem dL_law_462 : decode cL_law 462 = .ok (.goto 430, 3) := by decide +kernel
theorem dL_law_465 : decode cL_law 465 = .ok (.aload_n 1, 1) := by decide +kernel
theorem dL_law_466 : decode cL_law 466 = .ok (.aload_n 0, 1) := by decide +kernel
theorem dL_law_467 : decode cL_law 467 = .ok (.iload_n 3, 1) := by decide +kernel
theorem dL_law_468 : decode cL_law 468 = .ok (.iconst 1, 1) := by decide +kernel
theorem dL_law_469 : decode cL_law 469 = .ok (.iadd, 1) := by decide +kernel
theorem dL_law_470 : decode cL_law 470 = .ok (.iaload, 1) := by decide +kernel
theorem dL_law_471 : decode cL_law 471 = .ok (.invokevirtual 68, 3) := by decide +kernel
theorem dL_law_474 : decode cL_law 474 = .ok (.pop, 1) := by decide +kernel
theorem dL_law_475 : decode cL_law 475 = .ok (.aload_n 2, 1) := by decide +kernel
theorem dL_law_476 : decode cL_law 476 = .ok (.aload_n 0, 1) := by decide +kernel
theorem dL_law_477 : decode cL_law 477 = .ok (.iload_n 3, 1) := by decide +kernel
theorem dL_law_478 : decode cL_law 478 = .ok (.iconst 1, 1) := by decide +kernel
theorem dL_law_479 : decode cL_law 479 = .ok (.iadd, 1) := by decide +kernel
theorem dL_law_480 : decode cL_law 480 = .ok (.iaload, 1) := by decide +kernel
theorem dL_law_481 : decode cL_law 481 = .ok (.invokevirtual 71, 3) := by decide +kernel
theorem dL_law_484 : decode cL_law 484 = .ok (.pop, 1) := by decide +kernel
theorem dL_law_485 : decode cL_law 485 = .ok (.goto 407, 3) := by decide +kernel
theorem dL_law_488 : decode cL_law 488 = .ok (.aload_n 1, 1) := by decide +kernel
theorem dL_law_489 : decode cL_law 489 = .ok (.aload_n 0, 1) := by decide +kernel
theorem dL_law_490 : decode cL_law 490 = .ok (.iload_n 3, 1) := by decide +kernel
theorem dL_law_491 : decode cL_law 491 = .ok (.iconst 1, 1) := by decide +kernel
theorem dL_law_492 : decode cL_law 492 = .ok (.iadd, 1) := by decide +kernel
theorem dL_law_493 : decode cL_law 493 = .ok (.iaload, 1) := by decide +kernel
theorem dL_law_494 : decode cL_law 494 = .ok (.invokevirtual 72, 3) := by decide +kernel
theorem dL_law_497 : decode cL_law 497 = .ok (.pop, 1) := by decide +kernel
theorem dL_law_498 : decode cL_law 498 = .ok (.aload_n 2, 1) := by decide +kernel
theorem dL_law_499 : decode cL_law 499 = .ok (.aload_n 0, 1) := by decide +kernel
theorem dL_law_500 : decode cL_law 500 = .ok (.iload_n 3, 1) := by decide +kernel
theorem dL_law_501 : decode cL_law 501 = .ok (.iconst 1, 1) := by decide +kernel
theorem dL_law_502 : decode cL_law 502 = .ok (.iadd, 1) := by decide +kernel
theorem dL_law_503 : decode cL_law 503 = .ok (.iaload, 1) := by decide +kernel
theorem dL_law_504 : decode cL_law 504 = .ok (.invokevirtual 75, 3) := by decide +kernel
theorem dL_law_507 : decode cL_law 507 = .ok (.pop, 1) := by decide +kernel
theorem dL_law_508 : decode cL_law 508 = .ok (.goto 384, 3) := by decide +kernel
theorem dL_law_511 : decode cL_law 511 = .ok (.aload_n 1, 1) := by decide +kernel
theorem dL_law_512 : decode cL_law 512 = .ok (.aload_n 0, 1) := by decide +kernel
theorem dL_law_513 : decode cL_law 513 = .ok (.iload_n 3, 1) := by decide +kernel
theorem dL_law_514 : decode cL_law 514 = .ok (.iconst 1, 1) := by decide +kernel
theorem dL_law_515 : decode cL_law 515 = .ok (.iadd, 1) := by decide +kernel
theorem dL_law_516 : decode cL_law 516 = .ok (.iaload, 1) := by decide +kernel
theorem dL_law_517 : decode cL_law 517 = .ok (.invokevirtual 76, 3) := by decide +kernel
theorem dL_law_520 : decode cL_law 520 = .ok (.pop, 1) := by decide +kernel
theorem dL_law_521 : decode cL_law 521 = .ok (.aload_n 2, 1) := by decide +kernel
theorem dL_law_522 : decode cL_law 522 = .ok (.aload_n 0, 1) := by decide +kernel
theorem dL_law_523 : decode cL_law 523 = .ok (.iload_n 3, 1) := by decide +kernel
theorem dL_law_524 : decode cL_law 524 = .ok (.iconst 1, 1) := by decide +kernel
theorem dL_law_525 : decode cL_law 525 = .ok (.iadd, 1) := by decide +kernel
theorem dL_law_526 : decode cL_law 526 = .ok (.iaload, 1) := by decide +kernel
theorem dL_law_527 : decode cL_law 527 = .ok (.invokevirtual 79, 3) := by decide +kernel
theorem dL_law_530 : decode cL_law 530 = .ok (.pop, 1) := by decide +kernel
theorem dL_law_531 : decode cL_law 531 = .ok (.goto 361, 3) := by decide +kernel
theorem dL_law_534 : decode cL_law 534 = .ok (.aload_n 1, 1) := by decide +kernel
theorem dL_law_535 : decode cL_law 535 = .ok (.aload_n 0, 1) := by decide +kernel
theorem dL_law_536 : decode cL_law 536 = .ok (.iload_n 3, 1) := by decide +kernel
theorem dL_law_537 : decode cL_law 537 = .ok (.iconst 1, 1) := by decide +kernel
theorem dL_law_538 : decode cL_law 538 = .ok (.iadd, 1) := by decide +kernel
theorem dL_law_539 : decode cL_law 539 = .ok (.iaload, 1) := by decide +kernel
theorem dL_law_540 : decode cL_law 540 = .ok (.invokevirtual 80, 3) := by decide +kernel
theorem dL_law_543 : decode cL_law 543 = .ok (.pop, 1) := by decide +kernel
theorem dL_law_544 : decode cL_law 544 = .ok (.aload_n 2, 1) := by decide +kernel
theorem dL_law_545 : decode cL_law 545 = .ok (.aload_n 0, 1) := by decide +kernel
theorem dL_law_546 : decode cL_law 546 = .ok (.iload_n 3, 1) := by decide +kernel
theorem dL_law_547 : decode cL_law 547 = .ok (.iconst 1, 1) := by decide +kernel
theorem dL_law_548 : decode cL_law 548 = .ok (.iadd, 1) := by decide +kernel
theorem dL_law_549 : decode cL_law 549 = .ok (.iaload, 1) := by decide +kernel
theorem dL_law_550 : decode cL_law 550 = .ok (.invokevirtual 83, 3) := by decide +kernel
theorem dL_law_553 : decode cL_law 553 = .ok (.pop, 1) := by decide +kernel
theorem dL_law_554 : decode cL_law 554 = .ok (.goto 338, 3) := by decide +kernel
theorem dL_law_557 : decode cL_law 557 = .ok (.aload_n 1, 1) := by decide +kernel
theorem dL_law_558 : decode cL_law 558 = .ok (.invokevirtual 84, 3) := by decide +kernel
theorem dL_law_561 : decode cL_law 561 = .ok (.pop, 1) := by decide +kernel
theorem dL_law_562 : decode cL_law 562 = .ok (.aload_n 2, 1) := by decide +kernel
theorem dL_law_563 : decode cL_law 563 = .ok (.invokevirtual 87, 3) := by decide +kernel
theorem dL_law_566 : decode cL_law 566 = .ok (.pop, 1) := by decide +kernel
theorem dL_law_567 : decode cL_law 567 = .ok (.goto 325, 3) := by decide +kernel
theorem dL_law_570 : decode cL_law 570 = .ok (.aload_n 1, 1) := by decide +kernel
theorem dL_law_571 : decode cL_law 571 = .ok (.aload_n 0, 1) := by decide +kernel
theorem dL_law_572 : decode cL_law 572 = .ok (.iload_n 3, 1) := by decide +kernel
theorem dL_law_573 : decode cL_law 573 = .ok (.iconst 1, 1) := by decide +kernel
theorem dL_law_574 : decode cL_law 574 = .ok (.iadd, 1) := by decide +kernel
theorem dL_law_575 : decode cL_law 575 = .ok (.iaload, 1) := by decide +kernel
theorem dL_law_576 : decode cL_law 576 = .ok (.invokevirtual 88, 3) := by decide +kernel
theorem dL_law_579 : decode cL_law 579 = .ok (.pop, 1) := by decide +kernel
theorem dL_law_580 : decode cL_law 580 = .ok (.aload_n 2, 1) := by decide +kernel
theorem dL_law_581 : decode cL_law 581 = .ok (.aload_n 0, 1) := by decide +kernel
theorem dL_law_582 : decode cL_law 582 = .ok (.iload_n 3, 1) := by decide +kernel
theorem dL_law_583 : decode cL_law 583 = .ok (.iconst 1, 1) := by decide +kernel
theorem dL_law_584 : decode cL_law 584 = .ok (.iadd, 1) := by decide +kernel
theorem dL_law_585 : decode cL_law 585 = .ok (.iaload, 1) := by decide +kernel
theorem dL_law_586 : decode cL_law 586 = .ok (.invokevirtual 91, 3) := by decide +kernel
theorem dL_law_589 : decode cL_law 589 = .ok (.pop, 1) := by decide +kernel
theorem dL_law_590 : decode cL_law 590 = .ok (.goto 302, 3) := by decide +kernel
theorem dL_law_593 : decode cL_law 593 = .ok (.aload_n 1, 1) := by decide +kernel
theorem dL_law_594 : decode cL_law 594 = .ok (.aload_n 0, 1) := by decide +kernel
theorem dL_law_595 : decode cL_law 595 = .ok (.iload_n 3, 1) := by decide +kernel
theorem dL_law_596 : decode cL_law 596 = .ok (.iconst 1, 1) := by decide +kernel
theorem dL_law_597 : decode cL_law 597 = .ok (.iadd, 1) := by decide +kernel
theorem dL_law_598 : decode cL_law 598 = .ok (.iaload, 1) := by decide +kernel
theorem dL_law_599 : decode cL_law 599 = .ok (.aload_n 0, 1) := by decide +kernel
theorem dL_law_600 : decode cL_law 600 = .ok (.iload_n 3, 1) := by decide +kernel
theorem dL_law_601 : decode cL_law 601 = .ok (.iconst 2, 1) := by decide +kernel
theorem dL_law_602 : decode cL_law 602 = .ok (.iadd, 1) := by decide +kernel
theorem dL_law_603 : decode cL_law 603 = .ok (.iaload, 1) := by decide +kernel
theorem dL_law_604 : decode cL_law 604 = .ok (.invokevirtual 92, 3) := by decide +kernel
theorem dL_law_607 : decode cL_law 607 = .ok (.pop, 1) := by decide +kernel
theorem dL_law_608 : decode cL_law 608 = .ok (.aload_n 2, 1) := by decide +kernel
theorem dL_law_609 : decode cL_law 609 = .ok (.aload_n 0, 1) := by decide +kernel
theorem dL_law_610 : decode cL_law 610 = .ok (.iload_n 3, 1) := by decide +kernel
theorem dL_law_611 : decode cL_law 611 = .ok (.iconst 1, 1) := by decide +kernel
theorem dL_law_612 : decode cL_law 612 = .ok (.iadd, 1) := by decide +kernel
theorem dL_law_613 : decode cL_law 613 = .ok (.iaload, 1) := by decide +kernel
theorem dL_law_614 : decode cL_law 614 = .ok (.aload_n 0, 1) := by decide +kernel
theorem dL_law_615 : decode cL_law 615 = .ok (.iload_n 3, 1) := by decide +kernel
theorem dL_law_616 : decode cL_law 616 = .ok (.iconst 2, 1) := by decide +kernel
theorem dL_law_617 : decode cL_law 617 = .ok (.iadd, 1) := by decide +kernel
theorem dL_law_618 : decode cL_law 618 = .ok (.iaload, 1) := by decide +kernel
theorem dL_law_619 : decode cL_law 619 = .ok (.invokevirtual 95, 3) := by decide +kernel
theorem dL_law_622 : decode cL_law 622 = .ok (.pop, 1) := by decide +kernel
theorem dL_law_623 : decode cL_law 623 = .ok (.goto 269, 3) := by decide +kernel
theorem dL_law_626 : decode cL_law 626 = .ok (.aload_n 1, 1) := by decide +kernel
theorem dL_law_627 : decode cL_law 627 = .ok (.aload_n 0, 1) := by decide +kernel
theorem dL_law_628 : decode cL_law 628 = .ok (.iload_n 3, 1) := by decide +kernel
theorem dL_law_629 : decode cL_law 629 = .ok (.iconst 1, 1) := by decide +kernel
theorem dL_law_630 : decode cL_law 630 = .ok (.iadd, 1) := by decide +kernel
theorem dL_law_631 : decode cL_law 631 = .ok (.iaload, 1) := by decide +kernel
theorem dL_law_632 : decode cL_law 632 = .ok (.aload_n 0, 1) := by decide +kernel
theorem dL_law_633 : decode cL_law 633 = .ok (.iload_n 3, 1) := by decide +kernel
theorem dL_law_634 : decode cL_law 634 = .ok (.iconst 2, 1) := by decide +kernel
theorem dL_law_635 : decode cL_law 635 = .ok (.iadd, 1) := by decide +kernel
theorem dL_law_636 : decode cL_law 636 = .ok (.iaload, 1) := by decide +kernel
theorem dL_law_637 : decode cL_law 637 = .ok (.invokevirtual 96, 3) := by decide +kernel
theorem dL_law_640 : decode cL_law 640 = .ok (.pop, 1) := by decide +kernel
theorem dL_law_641 : decode cL_law 641 = .ok (.aload_n 2, 1) := by decide +kernel
theorem dL_law_642 : decode cL_law 642 = .ok (.aload_n 0, 1) := by decide +kernel
theorem dL_law_643 : decode cL_law 643 = .ok (.iload_n 3, 1) := by decide +kernel
theorem dL_law_644 : decode cL_law 644 = .ok (.iconst 1, 1) := by decide +kernel
theorem dL_law_645 : decode cL_law 645 = .ok (.iadd, 1) := by decide +kernel
theorem dL_law_646 : decode cL_law 646 = .ok (.iaload, 1) := by decide +kernel
theorem dL_law_647 : decode cL_law 647 = .ok (.aload_n 0, 1) := by decide +kernel
theorem dL_law_648 : decode cL_law 648 = .ok (.iload_n 3, 1) := by decide +kernel
theorem dL_law_649 : decode cL_law 649 = .ok (.iconst 2, 1) := by decide +kernel
theorem dL_law_650 : decode cL_law 650 = .ok (.iadd, 1) := by decide +kernel
theorem dL_law_651 : decode cL_law 651 = .ok (.iaload, 1) := by decide +kernel
theorem dL_law_652 : decode cL_law 652 = .ok (.invokevirtual 99, 3) := by decide +kernel
theorem dL_law_655 : decode cL_law 655 = .ok (.pop, 1) := by decide +kernel
theorem dL_law_656 : decode cL_law 656 = .ok (.goto 236, 3) := by decide +kernel
theorem dL_law_659 : decode cL_law 659 = .ok (.aload_n 1, 1) := by decide +kernel
theorem dL_law_660 : decode cL_law 660 = .ok (.aload_n 0, 1) := by decide +kernel
theorem dL_law_661 : decode cL_law 661 = .ok (.iload_n 3, 1) := by decide +kernel
theorem dL_law_662 : decode cL_law 662 = .ok (.iconst 1, 1) := by decide +kernel
theorem dL_law_663 : decode cL_law 663 = .ok (.iadd, 1) := by decide +kernel
theorem dL_law_664 : decode cL_law 664 = .ok (.iaload, 1) := by decide +kernel
theorem dL_law_665 : decode cL_law 665 = .ok (.aload_n 0, 1) := by decide +kernel
theorem dL_law_666 : decode cL_law 666 = .ok (.iload_n 3, 1) := by decide +kernel
theorem dL_law_667 : decode cL_law 667 = .ok (.iconst 2, 1) := by decide +kernel
theorem dL_law_668 : decode cL_law 668 = .ok (.iadd, 1) := by decide +kernel
theorem dL_law_669 : decode cL_law 669 = .ok (.iaload, 1) := by decide +kernel
theorem dL_law_670 : decode cL_law 670 = .ok (.invokevirtual 100, 3) := by decide +kernel
theorem dL_law_673 : decode cL_law 673 = .ok (.pop, 1) := by decide +kernel
theorem dL_law_674 : decode cL_law 674 = .ok (.aload_n 2, 1) := by decide +kernel
theorem dL_law_675 : decode cL_law 675 = .ok (.aload_n 0, 1) := by decide +kernel
theorem dL_law_676 : decode cL_law 676 = .ok (.iload_n 3, 1) := by decide +kernel
theorem dL_law_677 : decode cL_law 677 = .ok (.iconst 1, 1) := by decide +kernel
theorem dL_law_678 : decode cL_law 678 = .ok (.iadd, 1) := by decide +kernel
theorem dL_law_679 : decode cL_law 679 = .ok (.iaload, 1) := by decide +kernel
theorem dL_law_680 : decode cL_law 680 = .ok (.aload_n 0, 1) := by decide +kernel
theorem dL_law_681 : decode cL_law 681 = .ok (.iload_n 3, 1) := by decide +kernel
theorem dL_law_682 : decode cL_law 682 = .ok (.iconst 2, 1) := by decide +kernel
theorem dL_law_683 : decode cL_law 683 = .ok (.iadd, 1) := by decide +kernel
theorem dL_law_684 : decode cL_law 684 = .ok (.iaload, 1) := by decide +kernel
theorem dL_law_685 : decode cL_law 685 = .ok (.invokevirtual 103, 3) := by decide +kernel
theorem dL_law_688 : decode cL_law 688 = .ok (.pop, 1) := by decide +kernel
theorem dL_law_689 : decode cL_law 689 = .ok (.goto 203, 3) := by decide +kernel
theorem dL_law_692 : decode cL_law 692 = .ok (.aload_n 1, 1) := by decide +kernel
theorem dL_law_693 : decode cL_law 693 = .ok (.aload_n 0, 1) := by decide +kernel
theorem dL_law_694 : decode cL_law 694 = .ok (.iload_n 3, 1) := by decide +kernel
theorem dL_law_695 : decode cL_law 695 = .ok (.iconst 1, 1) := by decide +kernel
theorem dL_law_696 : decode cL_law 696 = .ok (.iadd, 1) := by decide +kernel
theorem dL_law_697 : decode cL_law 697 = .ok (.iaload, 1) := by decide +kernel
theorem dL_law_698 : decode cL_law 698 = .ok (.aload_n 0, 1) := by decide +kernel
theorem dL_law_699 : decode cL_law 699 = .ok (.iload_n 3, 1) := by decide +kernel
theorem dL_law_700 : decode cL_law 700 = .ok (.iconst 2, 1) := by decide +kernel
theorem dL_law_701 : decode cL_law 701 = .ok (.iadd, 1) := by decide +kernel
theorem dL_law_702 : decode cL_law 702 = .ok (.iaload, 1) := by decide +kernel
theorem dL_law_703 : decode cL_law 703 = .ok (.invokevirtual 104, 3) := by decide +kernel
theorem dL_law_706 : decode cL_law 706 = .ok (.pop2, 1) := by decide +kernel
theorem dL_law_707 : decode cL_law 707 = .ok (.aload_n 2, 1) := by decide +kernel
theorem dL_law_708 : decode cL_law 708 = .ok (.aload_n 0, 1) := by decide +kernel
theorem dL_law_709 : decode cL_law 709 = .ok (.iload_n 3, 1) := by decide +kernel
theorem dL_law_710 : decode cL_law 710 = .ok (.iconst 1, 1) := by decide +kernel
theorem dL_law_711 : decode cL_law 711 = .ok (.iadd, 1) := by decide +kernel
theorem dL_law_712 : decode cL_law 712 = .ok (.iaload, 1) := by decide +kernel
theorem dL_law_713 : decode cL_law 713 = .ok (.aload_n 0, 1) := by decide +kernel
theorem dL_law_714 : decode cL_law 714 = .ok (.iload_n 3, 1) := by decide +kernel
theorem dL_law_715 : decode cL_law 715 = .ok (.iconst 2, 1) := by decide +kernel
theorem dL_law_716 : decode cL_law 716 = .ok (.iadd, 1) := by decide +kernel
theorem dL_law_717 : decode cL_law 717 = .ok (.iaload, 1) := by decide +kernel
theorem dL_law_718 : decode cL_law 718 = .ok (.invokevirtual 108, 3) := by decide +kernel
theorem dL_law_721 : decode cL_law 721 = .ok (.pop2, 1) := by decide +kernel
theorem dL_law_722 : decode cL_law 722 = .ok (.goto 170, 3) := by decide +kernel
theorem dL_law_725 : decode cL_law 725 = .ok (.aload_n 1, 1) := by decide +kernel
theorem dL_law_726 : decode cL_law 726 = .ok (.aload_n 0, 1) := by decide +kernel
theorem dL_law_727 : decode cL_law 727 = .ok (.iload_n 3, 1) := by decide +kernel
theorem dL_law_728 : decode cL_law 728 = .ok (.iconst 1, 1) := by decide +kernel
theorem dL_law_729 : decode cL_law 729 = .ok (.iadd, 1) := by decide +kernel
theorem dL_law_730 : decode cL_law 730 = .ok (.iaload, 1) := by decide +kernel
theorem dL_law_731 : decode cL_law 731 = .ok (.invokevirtual 109, 3) := by decide +kernel
theorem dL_law_734 : decode cL_law 734 = .ok (.pop, 1) := by decide +kernel
theorem dL_law_735 : decode cL_law 735 = .ok (.aload_n 2, 1) := by decide +kernel
theorem dL_law_736 : decode cL_law 736 = .ok (.aload_n 0, 1) := by decide +kernel
theorem dL_law_737 : decode cL_law 737 = .ok (.iload_n 3, 1) := by decide +kernel
theorem dL_law_738 : decode cL_law 738 = .ok (.iconst 1, 1) := by decide +kernel
theorem dL_law_739 : decode cL_law 739 = .ok (.iadd, 1) := by decide +kernel
theorem dL_law_740 : decode cL_law 740 = .ok (.iaload, 1) := by decide +kernel
theorem dL_law_741 : decode cL_law 741 = .ok (.invokevirtual 112, 3) := by decide +kernel
theorem dL_law_744 : decode cL_law 744 = .ok (.pop, 1) := by decide +kernel
theorem dL_law_745 : decode cL_law 745 = .ok (.goto 147, 3) := by decide +kernel
theorem dL_law_748 : decode cL_law 748 = .ok (.aload_n 1, 1) := by decide +kernel
theorem dL_law_749 : decode cL_law 749 = .ok (.invokevirtual 113, 3) := by decide +kernel
theorem dL_law_752 : decode cL_law 752 = .ok (.pop, 1) := by decide +kernel
theorem dL_law_753 : decode cL_law 753 = .ok (.aload_n 2, 1) := by decide +kernel
theorem dL_law_754 : decode cL_law 754 = .ok (.invokevirtual 116, 3) := by decide +kernel
theorem dL_law_757 : decode cL_law 757 = .ok (.pop, 1) := by decide +kernel
theorem dL_law_758 : decode cL_law 758 = .ok (.goto 134, 3) := by decide +kernel
theorem dL_law_761 : decode cL_law 761 = .ok (.aload_n 1, 1) := by decide +kernel
theorem dL_law_762 : decode cL_law 762 = .ok (.invokevirtual 117, 3) := by decide +kernel
theorem dL_law_765 : decode cL_law 765 = .ok (.pop, 1) := by decide +kernel
theorem dL_law_766 : decode cL_law 766 = .ok (.aload_n 2, 1) := by decide +kernel
theorem dL_law_767 : decode cL_law 767 = .ok (.invokevirtual 120, 3) := by decide +kernel
theorem dL_law_770 : decode cL_law 770 = .ok (.pop, 1) := by decide +kernel
theorem dL_law_771 : decode cL_law 771 = .ok (.goto 121, 3) := by decide +kernel
theorem dL_law_774 : decode cL_law 774 = .ok (.aload_n 1, 1) := by decide +kernel
theorem dL_law_775 : decode cL_law 775 = .ok (.aload_n 0, 1) := by decide +kernel
theorem dL_law_776 : decode cL_law 776 = .ok (.iload_n 3, 1) := by decide +kernel
theorem dL_law_777 : decode cL_law 777 = .ok (.iconst 1, 1) := by decide +kernel
theorem dL_law_778 : decode cL_law 778 = .ok (.iadd, 1) := by decide +kernel
theorem dL_law_779 : decode cL_law 779 = .ok (.iaload, 1) := by decide +kernel
theorem dL_law_780 : decode cL_law 780 = .ok (.invokevirtual 121, 3) := by decide +kernel
theorem dL_law_783 : decode cL_law 783 = .ok (.pop, 1) := by decide +kernel
theorem dL_law_784 : decode cL_law 784 = .ok (.aload_n 2, 1) := by decide +kernel
theorem dL_law_785 : decode cL_law 785 = .ok (.aload_n 0, 1) := by decide +kernel
theorem dL_law_786 : decode cL_law 786 = .ok (.iload_n 3, 1) := by decide +kernel
theorem dL_law_787 : decode cL_law 787 = .ok (.iconst 1, 1) := by decide +kernel
theorem dL_law_788 : decode cL_law 788 = .ok (.iadd, 1) := by decide +kernel
theorem dL_law_789 : decode cL_law 789 = .ok (.iaload, 1) := by decide +kernel
theorem dL_law_790 : decode cL_law 790 = .ok (.invokevirtual 124, 3) := by decide +kernel
theorem dL_law_793 : decode cL_law 793 = .ok (.pop, 1) := by decide +kernel
theorem dL_law_794 : decode cL_law 794 = .ok (.goto 98, 3) := by decide +kernel
theorem dL_law_797 : decode cL_law 797 = .ok (.aload_n 1, 1) := by decide +kernel
theorem dL_law_798 : decode cL_law 798 = .ok (.invokevirtual 125, 3) := by decide +kernel
theorem dL_law_801 : decode cL_law 801 = .ok (.pop, 1) := by decide +kernel
theorem dL_law_802 : decode cL_law 802 = .ok (.aload_n 2, 1) := by decide +kernel
theorem dL_law_803 : decode cL_law 803 = .ok (.invokevirtual 128, 3) := by decide +kernel
theorem dL_law_806 : decode cL_law 806 = .ok (.pop, 1) := by decide +kernel
theorem dL_law_807 : decode cL_law 807 = .ok (.goto 85, 3) := by decide +kernel
theorem dL_law_810 : decode cL_law 810 = .ok (.aload_n 1, 1) := by decide +kernel
theorem dL_law_811 : decode cL_law 811 = .ok (.aload_n 0, 1) := by decide +kernel
theorem dL_law_812 : decode cL_law 812 = .ok (.iload_n 3, 1) := by decide +kernel
theorem dL_law_813 : decode cL_law 813 = .ok (.iconst 1, 1) := by decide +kernel
theorem dL_law_814 : decode cL_law 814 = .ok (.iadd, 1) := by decide +kernel
theorem dL_law_815 : decode cL_law 815 = .ok (.iaload, 1) := by decide +kernel
theorem dL_law_816 : decode cL_law 816 = .ok (.aload_n 0, 1) := by decide +kernel
theorem dL_law_817 : decode cL_law 817 = .ok (.iload_n 3, 1) := by decide +kernel
theorem dL_law_818 : decode cL_law 818 = .ok (.iconst 2, 1) := by decide +kernel
theorem dL_law_819 : decode cL_law 819 = .ok (.iadd, 1) := by decide +kernel
theorem dL_law_820 : decode cL_law 820 = .ok (.iaload, 1) := by decide +kernel
theorem dL_law_821 : decode cL_law 821 = .ok (.invokevirtual 129, 3) := by decide +kernel
theorem dL_law_824 : decode cL_law 824 = .ok (.pop, 1) := by decide +kernel
theorem dL_law_825 : decode cL_law 825 = .ok (.aload_n 2, 1) := by decide +kernel
theorem dL_law_826 : decode cL_law 826 = .ok (.aload_n 0, 1) := by decide +kernel
theorem dL_law_827 : decode cL_law 827 = .ok (.iload_n 3, 1) := by decide +kernel
theorem dL_law_828 : decode cL_law 828 = .ok (.iconst 1, 1) := by decide +kernel
theorem dL_law_829 : decode cL_law 829 = .ok (.iadd, 1) := by decide +kernel
theorem dL_law_830 : decode cL_law 830 = .ok (.iaload, 1) := by decide +kernel
theorem dL_law_831 : decode cL_law 831 = .ok (.aload_n 0, 1) := by decide +kernel
theorem dL_law_832 : decode cL_law 832 = .ok (.iload_n 3, 1) := by decide +kernel
theorem dL_law_833 : decode cL_law 833 = .ok (.iconst 2, 1) := by decide +kernel
theorem dL_law_834 : decode cL_law 834 = .ok (.iadd, 1) := by decide +kernel
theorem dL_law_835 : decode cL_law 835 = .ok (.iaload, 1) := by decide +kernel
theorem dL_law_836 : decode cL_law 836 = .ok (.invokevirtual 132, 3) := by decide +kernel
theorem dL_law_839 : decode cL_law 839 = .ok (.pop, 1) := by decide +kernel
theorem dL_law_840 : decode cL_law 840 = .ok (.goto 52, 3) := by decide +kernel
theorem dL_law_843 : decode cL_law 843 = .ok (.aload_n 1, 1) := by decide +kernel
theorem dL_law_844 : decode cL_law 844 = .ok (.invokevirtual 133, 3) := by decide +kernel
theorem dL_law_847 : decode cL_law 847 = .ok (.pop, 1) := by decide +kernel
theorem dL_law_848 : decode cL_law 848 = .ok (.aload_n 2, 1) := by decide +kernel
theorem dL_law_849 : decode cL_law 849 = .ok (.invokevirtual 136, 3) := by decide +kernel
theorem dL_law_852 : decode cL_law 852 = .ok (.pop, 1) := by decide +kernel
theorem dL_law_853 : decode cL_law 853 = .ok (.goto 39, 3) := by decide +kernel
theorem dL_law_856 : decode cL_law 856 = .ok (.aload_n 1, 1) := by decide +kernel
theorem dL_law_857 : decode cL_law 857 = .ok (.invokevirtual 137, 3) := by decide +kernel
theorem dL_law_860 : decode cL_law 860 = .ok (.aload_n 2, 1) := by decide +kernel
theorem dL_law_861 : decode cL_law 861 = .ok (.invokevirtual 140, 3) := by decide +kernel
theorem dL_law_864 : decode cL_law 864 = .ok (.if_icmp .eq 28, 3) := by decide +kernel
theorem dL_law_867 : decode cL_law 867 = .ok (.iconst 0, 1) := by decide +kernel
theorem dL_law_868 : decode cL_law 868 = .ok (.ireturn, 1) := by decide +kernel
theorem dL_law_869 : decode cL_law 869 = .ok (.aload_n 1, 1) := by decide +kernel
theorem dL_law_870 : decode cL_law 870 = .ok (.aload_n 0, 1) := by decide +kernel
theorem dL_law_871 : decode cL_law 871 = .ok (.iload_n 3, 1) := by decide +kernel
theorem dL_law_872 : decode cL_law 872 = .ok (.iconst 1, 1) := by decide +kernel
theorem dL_law_873 : decode cL_law 873 = .ok (.iadd, 1) := by decide +kernel
theorem dL_law_874 : decode cL_law 874 = .ok (.iaload, 1) := by decide +kernel
theorem dL_law_875 : decode cL_law 875 = .ok (.invokevirtual 141, 3) := by decide +kernel
theorem dL_law_878 : decode cL_law 878 = .ok (.pop, 1) := by decide +kernel
theorem dL_law_879 : decode cL_law 879 = .ok (.aload_n 2, 1) := by decide +kernel
theorem dL_law_880 : decode cL_law 880 = .ok (.aload_n 0, 1) := by decide +kernel
theorem dL_law_881 : decode cL_law 881 = .ok (.iload_n 3, 1) := by decide +kernel
theorem dL_law_882 : decode cL_law 882 = .ok (.iconst 1, 1) := by decide +kernel
theorem dL_law_883 : decode cL_law 883 = .ok (.iadd, 1) := by decide +kernel
theorem dL_law_884 : decode cL_law 884 = .ok (.iaload, 1) := by decide +kernel
theorem dL_law_885 : decode cL_law 885 = .ok (.invokevirtual 144, 3) := by decide +kernel
theorem dL_law_888 : decode cL_law 888 = .ok (.pop, 1) := by decide +kernel
theorem dL_law_889 : decode cL_law 889 = .ok (.goto 3, 3) := by decide +kernel
theorem dL_law_892 : decode cL_law 892 = .ok (.iinc 3 3, 3) := by decide +kernel
theorem dL_law_895 : decode cL_law 895 = .ok (.goto (-877), 3) := by decide +kernel
theorem dL_law_898 : decode cL_law 898 = .ok (.iconst 1, 1) := by decide +kernel
theorem dL_law_899 : decode cL_law 899 = .ok (.ireturn, 1) := by decide +kernel

