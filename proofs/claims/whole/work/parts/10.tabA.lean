theorem d_Lo_init_0 : decode prog_1_method_1_code 0 = .ok (.aload_n 0, 1) := by decide +kernel
theorem d_Lo_init_1 : decode prog_1_method_1_code 1 = .ok (.invokespecial 1, 3) := by decide +kernel
theorem d_Lo_init_4 : decode prog_1_method_1_code 4 = .ok (.aload_n 0, 1) := by decide +kernel
theorem d_Lo_init_5 : decode prog_1_method_1_code 5 = .ok (.new 7, 3) := by decide +kernel
theorem d_Lo_init_8 : decode prog_1_method_1_code 8 = .ok (.dup, 1) := by decide +kernel
theorem d_Lo_init_9 : decode prog_1_method_1_code 9 = .ok (.invokespecial 9, 3) := by decide +kernel
theorem d_Lo_init_12 : decode prog_1_method_1_code 12 = .ok (.putfield 10, 3) := by decide +kernel
theorem d_Lo_init_15 : decode prog_1_method_1_code 15 = .ok (.aload_n 0, 1) := by decide +kernel
theorem d_Lo_init_16 : decode prog_1_method_1_code 16 = .ok (.new 16, 3) := by decide +kernel
theorem d_Lo_init_19 : decode prog_1_method_1_code 19 = .ok (.dup, 1) := by decide +kernel
theorem d_Lo_init_20 : decode prog_1_method_1_code 20 = .ok (.aload_n 0, 1) := by decide +kernel
theorem d_Lo_init_21 : decode prog_1_method_1_code 21 = .ok (.getfield 10, 3) := by decide +kernel
theorem d_Lo_init_24 : decode prog_1_method_1_code 24 = .ok (.invokespecial 18, 3) := by decide +kernel
theorem d_Lo_init_27 : decode prog_1_method_1_code 27 = .ok (.putfield 21, 3) := by decide +kernel
theorem d_Lo_init_30 : decode prog_1_method_1_code 30 = .ok (.return_, 1) := by decide +kernel
def tb_Lo_init : List pm_I := [
  pm_aload 1 0,
  pm_oinit 2,
  pm_aload 3 0,
  pm_newo 4 1 4,
  pm_dup 5,
  pm_callc 6 16 1,
  pm_putr 7 0 0,
  pm_aload 8 0,
  pm_newo 9 3 7,
  pm_dup 10,
  pm_aload 11 0,
  pm_getr 12 0 0,
  pm_callc 13 31 2,
  pm_putr 14 0 1,
  pm_vret]
def bp_Lo_init : List Nat := [0, 1, 4, 5, 8, 9, 12, 15, 16, 19, 20, 21, 24, 27, 30]
set_option maxRecDepth 100000 in
theorem sd_Lo_init : pm_Sl prog_1_method_1_code 1 R_Lo "<init>" (none) pm_Y (pm_b bp_Lo_init) 0 tb_Lo_init := by
  refine ⟨so_aloadn d_Lo_init_0 rfl rfl, ?_⟩
  refine ⟨so_oinit (pm_in1 (List.mem_append_left _ (List.mem_of_getElem? (i := 18) rfl))) (pm_in1 (List.mem_append_left _ (List.mem_of_getElem? (i := 19) rfl))) (pm_in1 (List.mem_append_left _ (List.mem_of_getElem? (i := 20) rfl))) d_Lo_init_1 rfl, ?_⟩
  refine ⟨so_aloadn d_Lo_init_4 rfl rfl, ?_⟩
  refine ⟨so_newo (ci := 1) rfl (by decide +kernel) (pm_in1 (List.mem_append_left _ (List.mem_of_getElem? (i := 21) rfl))) (pm_in1 (List.mem_append_left _ (List.mem_of_getElem? (i := 22) rfl))) (pm_in1 (List.mem_append_left _ (List.mem_of_getElem? (i := 2) rfl))) d_Lo_init_5 rfl, ?_⟩
  refine ⟨so_dup d_Lo_init_8 rfl, ?_⟩
  refine ⟨so_callc rfl rfl mc_Sh_init mi_Sh mj_Sh_init ml_Lo_9 yd_Sh_init (by decide) d_Lo_init_9 rfl, ?_⟩
  refine ⟨so_putr (ci := 0) (k := 0) rfl (by decide) rfl rfl (Or.inr ⟨rfl, rfl, rfl, pm_in1 (List.mem_append_left _ (List.mem_of_getElem? (i := 194) rfl))⟩) d_Lo_init_12 rfl, ?_⟩
  refine ⟨so_aloadn d_Lo_init_15 rfl rfl, ?_⟩
  refine ⟨so_newo (ci := 3) rfl (by decide +kernel) (pm_in1 (List.mem_append_left _ (List.mem_of_getElem? (i := 80) rfl))) (pm_in1 (List.mem_append_left _ (List.mem_of_getElem? (i := 81) rfl))) (pm_in1 (List.mem_append_left _ (List.mem_of_getElem? (i := 5) rfl))) d_Lo_init_16 rfl, ?_⟩
  refine ⟨so_dup d_Lo_init_19 rfl, ?_⟩
  refine ⟨so_aloadn d_Lo_init_20 rfl rfl, ?_⟩
  refine ⟨so_getr (ci := 0) (k := 0) rfl (by decide) rfl rfl fl_Lo_10 d_Lo_init_21 rfl, ?_⟩
  refine ⟨so_callc rfl rfl mc_Ru_init mi_Ru mj_Ru_init ml_Lo_18 yd_Ru_init (by decide) d_Lo_init_24 rfl, ?_⟩
  refine ⟨so_putr (ci := 0) (k := 1) rfl (by decide) rfl rfl (Or.inr ⟨rfl, rfl, rfl, pm_in1 (List.mem_append_left _ (List.mem_of_getElem? (i := 195) rfl))⟩) d_Lo_init_27 rfl, ?_⟩
  refine ⟨so_vret d_Lo_init_30 rfl, ?_⟩
  exact trivial
theorem d_Lo_statement_0 : decode prog_1_method_2_code 0 = .ok (.aload_n 0, 1) := by decide +kernel
theorem d_Lo_statement_1 : decode prog_1_method_2_code 1 = .ok (.getfield 10, 3) := by decide +kernel
theorem d_Lo_statement_4 : decode prog_1_method_2_code 4 = .ok (.iload_n 1, 1) := by decide +kernel
theorem d_Lo_statement_5 : decode prog_1_method_2_code 5 = .ok (.iload_n 2, 1) := by decide +kernel
theorem d_Lo_statement_6 : decode prog_1_method_2_code 6 = .ok (.invokevirtual 25, 3) := by decide +kernel
theorem d_Lo_statement_9 : decode prog_1_method_2_code 9 = .ok (.ireturn, 1) := by decide +kernel
def tb_Lo_statement : List pm_I := [
  pm_aload 1 0,
  pm_getr 2 0 0,
  pm_iload 3 1,
  pm_iload 4 2,
  pm_callv 5 17 3 1,
  pm_iret]
def bp_Lo_statement : List Nat := [0, 1, 4, 5, 6, 9]
set_option maxRecDepth 100000 in
theorem sd_Lo_statement : pm_Sl prog_1_method_2_code 3 R_Lo "statement" (some .int) pm_Y (pm_b bp_Lo_statement) 0 tb_Lo_statement := by
  refine ⟨so_aloadn d_Lo_statement_0 rfl rfl, ?_⟩
  refine ⟨so_getr (ci := 0) (k := 0) rfl (by decide) rfl rfl fl_Lo_10 d_Lo_statement_1 rfl, ?_⟩
  refine ⟨so_iloadn d_Lo_statement_4 rfl rfl, ?_⟩
  refine ⟨so_iloadn d_Lo_statement_5 rfl rfl, ?_⟩
  refine ⟨so_callv (ci := 1) rfl rfl mc_Sh_addStatement mi_Sh mj_Sh_addStatement ms_Sh_addStatement ml_Lo_25 yd_Sh_addStatement (by decide) d_Lo_statement_6 rfl, ?_⟩
  refine ⟨so_iret d_Lo_statement_9 rfl, ?_⟩
  exact trivial
theorem d_Lo_isBelow_0 : decode prog_1_method_16_code 0 = .ok (.iload_n 0, 1) := by decide +kernel
theorem d_Lo_isBelow_1 : decode prog_1_method_16_code 1 = .ok (.ifCond .lt 12, 3) := by decide +kernel
theorem d_Lo_isBelow_4 : decode prog_1_method_16_code 4 = .ok (.iload_n 0, 1) := by decide +kernel
theorem d_Lo_isBelow_5 : decode prog_1_method_16_code 5 = .ok (.iload_n 1, 1) := by decide +kernel
theorem d_Lo_isBelow_6 : decode prog_1_method_16_code 6 = .ok (.if_icmp .ge 7, 3) := by decide +kernel
theorem d_Lo_isBelow_9 : decode prog_1_method_16_code 9 = .ok (.iconst 1, 1) := by decide +kernel
theorem d_Lo_isBelow_10 : decode prog_1_method_16_code 10 = .ok (.goto 4, 3) := by decide +kernel
theorem d_Lo_isBelow_13 : decode prog_1_method_16_code 13 = .ok (.iconst 0, 1) := by decide +kernel
theorem d_Lo_isBelow_14 : decode prog_1_method_16_code 14 = .ok (.ireturn, 1) := by decide +kernel
def tb_Lo_isBelow : List pm_I := [
  pm_iload 1 0,
  pm_if 7 2 (fun a => decide (a < 0)),
  pm_iload 3 0,
  pm_iload 4 1,
  pm_icmp 7 5 (fun a b => decide (b ≤ a)),
  pm_const 6 1,
  pm_goto 8,
  pm_const 8 0,
  pm_zret]
def bp_Lo_isBelow : List Nat := [0, 1, 4, 5, 6, 9, 10, 13, 14]
set_option maxRecDepth 100000 in
theorem sd_Lo_isBelow : pm_Sl prog_1_method_16_code 2 R_Lo "isBelow" (some .boolean) pm_Y (pm_b bp_Lo_isBelow) 0 tb_Lo_isBelow := by
  refine ⟨so_iloadn d_Lo_isBelow_0 rfl rfl, ?_⟩
  refine ⟨so_if_lt d_Lo_isBelow_1 rfl rfl, ?_⟩
  refine ⟨so_iloadn d_Lo_isBelow_4 rfl rfl, ?_⟩
  refine ⟨so_iloadn d_Lo_isBelow_5 rfl rfl, ?_⟩
  refine ⟨so_icmp_ge d_Lo_isBelow_6 rfl rfl, ?_⟩
  refine ⟨so_const1 d_Lo_isBelow_9 (by decide) rfl, ?_⟩
  refine ⟨so_goto d_Lo_isBelow_10 rfl, ?_⟩
  refine ⟨so_const1 d_Lo_isBelow_13 (by decide) rfl, ?_⟩
  refine ⟨so_zret d_Lo_isBelow_14 rfl, ?_⟩
  exact trivial
theorem d_Lo_body_0 : decode prog_1_method_3_code 0 = .ok (.aload_n 0, 1) := by decide +kernel
theorem d_Lo_body_1 : decode prog_1_method_3_code 1 = .ok (.getfield 10, 3) := by decide +kernel
theorem d_Lo_body_4 : decode prog_1_method_3_code 4 = .ok (.iload_n 1, 1) := by decide +kernel
theorem d_Lo_body_5 : decode prog_1_method_3_code 5 = .ok (.bipush 15, 2) := by decide +kernel
theorem d_Lo_body_7 : decode prog_1_method_3_code 7 = .ok (.iand, 1) := by decide +kernel
theorem d_Lo_body_8 : decode prog_1_method_3_code 8 = .ok (.invokevirtual 29, 3) := by decide +kernel
theorem d_Lo_body_11 : decode prog_1_method_3_code 11 = .ok (.ireturn, 1) := by decide +kernel
def tb_Lo_body : List pm_I := [
  pm_aload 1 0,
  pm_getr 2 0 0,
  pm_iload 3 1,
  pm_const 4 15,
  pm_bin 5 (fun a b => a &&& b),
  pm_callv 6 19 2 1,
  pm_iret]
def bp_Lo_body : List Nat := [0, 1, 4, 5, 7, 8, 11]
set_option maxRecDepth 100000 in
theorem sd_Lo_body : pm_Sl prog_1_method_3_code 2 R_Lo "body" (some .int) pm_Y (pm_b bp_Lo_body) 0 tb_Lo_body := by
  refine ⟨so_aloadn d_Lo_body_0 rfl rfl, ?_⟩
  refine ⟨so_getr (ci := 0) (k := 0) rfl (by decide) rfl rfl fl_Lo_10 d_Lo_body_1 rfl, ?_⟩
  refine ⟨so_iloadn d_Lo_body_4 rfl rfl, ?_⟩
  refine ⟨so_const2 d_Lo_body_5 (by decide) rfl, ?_⟩
  refine ⟨so_iand d_Lo_body_7 rfl, ?_⟩
  refine ⟨so_callv (ci := 1) rfl rfl mc_Sh_closeText mi_Sh mj_Sh_closeText ms_Sh_closeText ml_Lo_29 yd_Sh_closeText (by decide) d_Lo_body_8 rfl, ?_⟩
  refine ⟨so_iret d_Lo_body_11 rfl, ?_⟩
  exact trivial
theorem d_Lo_guard_0 : decode prog_1_method_4_code 0 = .ok (.aload_n 0, 1) := by decide +kernel
theorem d_Lo_guard_1 : decode prog_1_method_4_code 1 = .ok (.getfield 10, 3) := by decide +kernel
theorem d_Lo_guard_4 : decode prog_1_method_4_code 4 = .ok (.iload_n 1, 1) := by decide +kernel
theorem d_Lo_guard_5 : decode prog_1_method_4_code 5 = .ok (.iload_n 2, 1) := by decide +kernel
theorem d_Lo_guard_6 : decode prog_1_method_4_code 6 = .ok (.invokevirtual 33, 3) := by decide +kernel
theorem d_Lo_guard_9 : decode prog_1_method_4_code 9 = .ok (.ireturn, 1) := by decide +kernel
def tb_Lo_guard : List pm_I := [
  pm_aload 1 0,
  pm_getr 2 0 0,
  pm_iload 3 1,
  pm_iload 4 2,
  pm_callv 5 20 3 1,
  pm_zret]
def bp_Lo_guard : List Nat := [0, 1, 4, 5, 6, 9]
set_option maxRecDepth 100000 in
theorem sd_Lo_guard : pm_Sl prog_1_method_4_code 3 R_Lo "guard" (some .boolean) pm_Y (pm_b bp_Lo_guard) 0 tb_Lo_guard := by
  refine ⟨so_aloadn d_Lo_guard_0 rfl rfl, ?_⟩
  refine ⟨so_getr (ci := 0) (k := 0) rfl (by decide) rfl rfl fl_Lo_10 d_Lo_guard_1 rfl, ?_⟩
  refine ⟨so_iloadn d_Lo_guard_4 rfl rfl, ?_⟩
  refine ⟨so_iloadn d_Lo_guard_5 rfl rfl, ?_⟩
  refine ⟨so_callv (ci := 1) rfl rfl mc_Sh_setGuard mi_Sh mj_Sh_setGuard ms_Sh_setGuard ml_Lo_33 yd_Sh_setGuard (by decide) d_Lo_guard_6 rfl, ?_⟩
  refine ⟨so_zret d_Lo_guard_9 rfl, ?_⟩
  exact trivial
theorem d_Lo_check_0 : decode prog_1_method_5_code 0 = .ok (.aload_n 0, 1) := by decide +kernel
theorem d_Lo_check_1 : decode prog_1_method_5_code 1 = .ok (.getfield 10, 3) := by decide +kernel
theorem d_Lo_check_4 : decode prog_1_method_5_code 4 = .ok (.iload_n 1, 1) := by decide +kernel
theorem d_Lo_check_5 : decode prog_1_method_5_code 5 = .ok (.invokevirtual 37, 3) := by decide +kernel
theorem d_Lo_check_8 : decode prog_1_method_5_code 8 = .ok (.ifCond .eq 14, 3) := by decide +kernel
theorem d_Lo_check_11 : decode prog_1_method_5_code 11 = .ok (.aload_n 0, 1) := by decide +kernel
theorem d_Lo_check_12 : decode prog_1_method_5_code 12 = .ok (.getfield 10, 3) := by decide +kernel
theorem d_Lo_check_15 : decode prog_1_method_5_code 15 = .ok (.iload_n 1, 1) := by decide +kernel
theorem d_Lo_check_16 : decode prog_1_method_5_code 16 = .ok (.invokevirtual 41, 3) := by decide +kernel
theorem d_Lo_check_19 : decode prog_1_method_5_code 19 = .ok (.goto 4, 3) := by decide +kernel
theorem d_Lo_check_22 : decode prog_1_method_5_code 22 = .ok (.iconst (-1), 1) := by decide +kernel
theorem d_Lo_check_23 : decode prog_1_method_5_code 23 = .ok (.ireturn, 1) := by decide +kernel
def tb_Lo_check : List pm_I := [
  pm_aload 1 0,
  pm_getr 2 0 0,
  pm_iload 3 1,
  pm_callv 4 21 2 1,
  pm_if 10 5 (fun a => decide (a = 0)),
  pm_aload 6 0,
  pm_getr 7 0 0,
  pm_iload 8 1,
  pm_callv 9 22 2 1,
  pm_goto 11,
  pm_const 11 (-1),
  pm_iret]
def bp_Lo_check : List Nat := [0, 1, 4, 5, 8, 11, 12, 15, 16, 19, 22, 23]
set_option maxRecDepth 100000 in
theorem sd_Lo_check : pm_Sl prog_1_method_5_code 2 R_Lo "check" (some .int) pm_Y (pm_b bp_Lo_check) 0 tb_Lo_check := by
  refine ⟨so_aloadn d_Lo_check_0 rfl rfl, ?_⟩
  refine ⟨so_getr (ci := 0) (k := 0) rfl (by decide) rfl rfl fl_Lo_10 d_Lo_check_1 rfl, ?_⟩
  refine ⟨so_iloadn d_Lo_check_4 rfl rfl, ?_⟩
  refine ⟨so_callv (ci := 1) rfl rfl mc_Sh_contains mi_Sh mj_Sh_contains ms_Sh_contains ml_Lo_37 yd_Sh_contains (by decide) d_Lo_check_5 rfl, ?_⟩
  refine ⟨so_if_eq d_Lo_check_8 rfl rfl, ?_⟩
  refine ⟨so_aloadn d_Lo_check_11 rfl rfl, ?_⟩
  refine ⟨so_getr (ci := 0) (k := 0) rfl (by decide) rfl rfl fl_Lo_10 d_Lo_check_12 rfl, ?_⟩
  refine ⟨so_iloadn d_Lo_check_15 rfl rfl, ?_⟩
  refine ⟨so_callv (ci := 1) rfl rfl mc_Sh_firstWrong mi_Sh mj_Sh_firstWrong ms_Sh_firstWrong ml_Lo_41 yd_Sh_firstWrong (by decide) d_Lo_check_16 rfl, ?_⟩
  refine ⟨so_goto d_Lo_check_19 rfl, ?_⟩
  refine ⟨so_const1 d_Lo_check_22 (by decide) rfl, ?_⟩
  refine ⟨so_iret d_Lo_check_23 rfl, ?_⟩
  exact trivial
theorem d_Lo_sound_0 : decode prog_1_method_6_code 0 = .ok (.aload_n 0, 1) := by decide +kernel
theorem d_Lo_sound_1 : decode prog_1_method_6_code 1 = .ok (.getfield 10, 3) := by decide +kernel
theorem d_Lo_sound_4 : decode prog_1_method_6_code 4 = .ok (.invokevirtual 44, 3) := by decide +kernel
theorem d_Lo_sound_7 : decode prog_1_method_6_code 7 = .ok (.ireturn, 1) := by decide +kernel
def tb_Lo_sound : List pm_I := [
  pm_aload 1 0,
  pm_getr 2 0 0,
  pm_callv 3 25 1 1,
  pm_zret]
def bp_Lo_sound : List Nat := [0, 1, 4, 7]
set_option maxRecDepth 100000 in
theorem sd_Lo_sound : pm_Sl prog_1_method_6_code 1 R_Lo "sound" (some .boolean) pm_Y (pm_b bp_Lo_sound) 0 tb_Lo_sound := by
  refine ⟨so_aloadn d_Lo_sound_0 rfl rfl, ?_⟩
  refine ⟨so_getr (ci := 0) (k := 0) rfl (by decide) rfl rfl fl_Lo_10 d_Lo_sound_1 rfl, ?_⟩
  refine ⟨so_callv (ci := 1) rfl rfl mc_Sh_allRight mi_Sh mj_Sh_allRight ms_Sh_allRight ml_Lo_44 yd_Sh_allRight (by decide) d_Lo_sound_4 rfl, ?_⟩
  refine ⟨so_zret d_Lo_sound_7 rfl, ?_⟩
  exact trivial
theorem d_Lo_start_0 : decode prog_1_method_7_code 0 = .ok (.aload_n 0, 1) := by decide +kernel
theorem d_Lo_start_1 : decode prog_1_method_7_code 1 = .ok (.getfield 10, 3) := by decide +kernel
theorem d_Lo_start_4 : decode prog_1_method_7_code 4 = .ok (.iload_n 1, 1) := by decide +kernel
theorem d_Lo_start_5 : decode prog_1_method_7_code 5 = .ok (.invokevirtual 37, 3) := by decide +kernel
theorem d_Lo_start_8 : decode prog_1_method_7_code 8 = .ok (.ifCond .ne 5, 3) := by decide +kernel
theorem d_Lo_start_11 : decode prog_1_method_7_code 11 = .ok (.iconst 0, 1) := by decide +kernel
theorem d_Lo_start_12 : decode prog_1_method_7_code 12 = .ok (.ireturn, 1) := by decide +kernel
theorem d_Lo_start_13 : decode prog_1_method_7_code 13 = .ok (.aload_n 0, 1) := by decide +kernel
theorem d_Lo_start_14 : decode prog_1_method_7_code 14 = .ok (.getfield 21, 3) := by decide +kernel
theorem d_Lo_start_17 : decode prog_1_method_7_code 17 = .ok (.iload_n 1, 1) := by decide +kernel
theorem d_Lo_start_18 : decode prog_1_method_7_code 18 = .ok (.iload_n 2, 1) := by decide +kernel
theorem d_Lo_start_19 : decode prog_1_method_7_code 19 = .ok (.invokevirtual 48, 3) := by decide +kernel
theorem d_Lo_start_22 : decode prog_1_method_7_code 22 = .ok (.iconst 1, 1) := by decide +kernel
theorem d_Lo_start_23 : decode prog_1_method_7_code 23 = .ok (.ireturn, 1) := by decide +kernel
def tb_Lo_start : List pm_I := [
  pm_aload 1 0,
  pm_getr 2 0 0,
  pm_iload 3 1,
  pm_callv 4 21 2 1,
  pm_if 7 5 (fun a => decide (a ≠ 0)),
  pm_const 6 0,
  pm_zret,
  pm_aload 8 0,
  pm_getr 9 0 1,
  pm_iload 10 1,
  pm_iload 11 2,
  pm_callv 12 32 3 3,
  pm_const 13 1,
  pm_zret]
def bp_Lo_start : List Nat := [0, 1, 4, 5, 8, 11, 12, 13, 14, 17, 18, 19, 22, 23]
set_option maxRecDepth 100000 in
theorem sd_Lo_start : pm_Sl prog_1_method_7_code 3 R_Lo "start" (some .boolean) pm_Y (pm_b bp_Lo_start) 0 tb_Lo_start := by
  refine ⟨so_aloadn d_Lo_start_0 rfl rfl, ?_⟩
  refine ⟨so_getr (ci := 0) (k := 0) rfl (by decide) rfl rfl fl_Lo_10 d_Lo_start_1 rfl, ?_⟩
  refine ⟨so_iloadn d_Lo_start_4 rfl rfl, ?_⟩
  refine ⟨so_callv (ci := 1) rfl rfl mc_Sh_contains mi_Sh mj_Sh_contains ms_Sh_contains ml_Lo_37 yd_Sh_contains (by decide) d_Lo_start_5 rfl, ?_⟩
  refine ⟨so_if_ne d_Lo_start_8 rfl rfl, ?_⟩
  refine ⟨so_const1 d_Lo_start_11 (by decide) rfl, ?_⟩
  refine ⟨so_zret d_Lo_start_12 rfl, ?_⟩
  refine ⟨so_aloadn d_Lo_start_13 rfl rfl, ?_⟩
  refine ⟨so_getr (ci := 0) (k := 1) rfl (by decide) rfl rfl fl_Lo_21 d_Lo_start_14 rfl, ?_⟩
  refine ⟨so_iloadn d_Lo_start_17 rfl rfl, ?_⟩
  refine ⟨so_iloadn d_Lo_start_18 rfl rfl, ?_⟩
  refine ⟨so_callv (ci := 3) rfl rfl mc_Ru_begin mi_Ru mj_Ru_begin ms_Ru_begin ml_Lo_48 yd_Ru_begin (by decide) d_Lo_start_19 rfl, ?_⟩
  refine ⟨so_const1 d_Lo_start_22 (by decide) rfl, ?_⟩
  refine ⟨so_zret d_Lo_start_23 rfl, ?_⟩
  exact trivial
theorem d_Lo_step_0 : decode prog_1_method_8_code 0 = .ok (.aload_n 0, 1) := by decide +kernel
theorem d_Lo_step_1 : decode prog_1_method_8_code 1 = .ok (.getfield 21, 3) := by decide +kernel
theorem d_Lo_step_4 : decode prog_1_method_8_code 4 = .ok (.iload_n 1, 1) := by decide +kernel
theorem d_Lo_step_5 : decode prog_1_method_8_code 5 = .ok (.invokevirtual 52, 3) := by decide +kernel
theorem d_Lo_step_8 : decode prog_1_method_8_code 8 = .ok (.ireturn, 1) := by decide +kernel
def tb_Lo_step : List pm_I := [
  pm_aload 1 0,
  pm_getr 2 0 1,
  pm_iload 3 1,
  pm_callv 4 36 2 3,
  pm_iret]
def bp_Lo_step : List Nat := [0, 1, 4, 5, 8]
set_option maxRecDepth 100000 in
theorem sd_Lo_step : pm_Sl prog_1_method_8_code 2 R_Lo "step" (some .int) pm_Y (pm_b bp_Lo_step) 0 tb_Lo_step := by
  refine ⟨so_aloadn d_Lo_step_0 rfl rfl, ?_⟩
  refine ⟨so_getr (ci := 0) (k := 1) rfl (by decide) rfl rfl fl_Lo_21 d_Lo_step_1 rfl, ?_⟩
  refine ⟨so_iloadn d_Lo_step_4 rfl rfl, ?_⟩
  refine ⟨so_callv (ci := 3) rfl rfl mc_Ru_advance mi_Ru mj_Ru_advance ms_Ru_advance ml_Lo_52 yd_Ru_advance (by decide) d_Lo_step_5 rfl, ?_⟩
  refine ⟨so_iret d_Lo_step_8 rfl, ?_⟩
  exact trivial
theorem d_Lo_has_0 : decode prog_1_method_9_code 0 = .ok (.aload_n 0, 1) := by decide +kernel
theorem d_Lo_has_1 : decode prog_1_method_9_code 1 = .ok (.getfield 21, 3) := by decide +kernel
theorem d_Lo_has_4 : decode prog_1_method_9_code 4 = .ok (.iload_n 1, 1) := by decide +kernel
theorem d_Lo_has_5 : decode prog_1_method_9_code 5 = .ok (.invokevirtual 55, 3) := by decide +kernel
theorem d_Lo_has_8 : decode prog_1_method_9_code 8 = .ok (.ireturn, 1) := by decide +kernel
def tb_Lo_has : List pm_I := [
  pm_aload 1 0,
  pm_getr 2 0 1,
  pm_iload 3 1,
  pm_callv 4 44 2 3,
  pm_iret]
def bp_Lo_has : List Nat := [0, 1, 4, 5, 8]
set_option maxRecDepth 100000 in
theorem sd_Lo_has : pm_Sl prog_1_method_9_code 2 R_Lo "has" (some .int) pm_Y (pm_b bp_Lo_has) 0 tb_Lo_has := by
  refine ⟨so_aloadn d_Lo_has_0 rfl rfl, ?_⟩
  refine ⟨so_getr (ci := 0) (k := 1) rfl (by decide) rfl rfl fl_Lo_21 d_Lo_has_1 rfl, ?_⟩
  refine ⟨so_iloadn d_Lo_has_4 rfl rfl, ?_⟩
  refine ⟨so_callv (ci := 3) rfl rfl mc_Ru_valueOf mi_Ru mj_Ru_valueOf ms_Ru_valueOf ml_Lo_55 yd_Ru_valueOf (by decide) d_Lo_has_5 rfl, ?_⟩
  refine ⟨so_iret d_Lo_has_8 rfl, ?_⟩
  exact trivial
theorem d_Lo_cell_0 : decode prog_1_method_10_code 0 = .ok (.aload_n 0, 1) := by decide +kernel
theorem d_Lo_cell_1 : decode prog_1_method_10_code 1 = .ok (.getfield 21, 3) := by decide +kernel
theorem d_Lo_cell_4 : decode prog_1_method_10_code 4 = .ok (.iload_n 1, 1) := by decide +kernel
theorem d_Lo_cell_5 : decode prog_1_method_10_code 5 = .ok (.invokevirtual 58, 3) := by decide +kernel
theorem d_Lo_cell_8 : decode prog_1_method_10_code 8 = .ok (.ireturn, 1) := by decide +kernel
def tb_Lo_cell : List pm_I := [
  pm_aload 1 0,
  pm_getr 2 0 1,
  pm_iload 3 1,
  pm_callv 4 45 2 3,
  pm_iret]
def bp_Lo_cell : List Nat := [0, 1, 4, 5, 8]
set_option maxRecDepth 100000 in
theorem sd_Lo_cell : pm_Sl prog_1_method_10_code 2 R_Lo "cell" (some .int) pm_Y (pm_b bp_Lo_cell) 0 tb_Lo_cell := by
  refine ⟨so_aloadn d_Lo_cell_0 rfl rfl, ?_⟩
  refine ⟨so_getr (ci := 0) (k := 1) rfl (by decide) rfl rfl fl_Lo_21 d_Lo_cell_1 rfl, ?_⟩
  refine ⟨so_iloadn d_Lo_cell_4 rfl rfl, ?_⟩
  refine ⟨so_callv (ci := 3) rfl rfl mc_Ru_contentOf mi_Ru mj_Ru_contentOf ms_Ru_contentOf ml_Lo_58 yd_Ru_contentOf (by decide) d_Lo_cell_5 rfl, ?_⟩
  refine ⟨so_iret d_Lo_cell_8 rfl, ?_⟩
  exact trivial
theorem d_Lo_holder_0 : decode prog_1_method_11_code 0 = .ok (.aload_n 0, 1) := by decide +kernel
theorem d_Lo_holder_1 : decode prog_1_method_11_code 1 = .ok (.getfield 21, 3) := by decide +kernel
theorem d_Lo_holder_4 : decode prog_1_method_11_code 4 = .ok (.iload_n 1, 1) := by decide +kernel
theorem d_Lo_holder_5 : decode prog_1_method_11_code 5 = .ok (.invokevirtual 61, 3) := by decide +kernel
theorem d_Lo_holder_8 : decode prog_1_method_11_code 8 = .ok (.ireturn, 1) := by decide +kernel
def tb_Lo_holder : List pm_I := [
  pm_aload 1 0,
  pm_getr 2 0 1,
  pm_iload 3 1,
  pm_callv 4 46 2 3,
  pm_iret]
def bp_Lo_holder : List Nat := [0, 1, 4, 5, 8]
set_option maxRecDepth 100000 in
theorem sd_Lo_holder : pm_Sl prog_1_method_11_code 2 R_Lo "holder" (some .int) pm_Y (pm_b bp_Lo_holder) 0 tb_Lo_holder := by
  refine ⟨so_aloadn d_Lo_holder_0 rfl rfl, ?_⟩
  refine ⟨so_getr (ci := 0) (k := 1) rfl (by decide) rfl rfl fl_Lo_21 d_Lo_holder_1 rfl, ?_⟩
  refine ⟨so_iloadn d_Lo_holder_4 rfl rfl, ?_⟩
  refine ⟨so_callv (ci := 3) rfl rfl mc_Ru_holderOf mi_Ru mj_Ru_holderOf ms_Ru_holderOf ml_Lo_61 yd_Ru_holderOf (by decide) d_Lo_holder_5 rfl, ?_⟩
  refine ⟨so_iret d_Lo_holder_8 rfl, ?_⟩
  exact trivial
theorem d_Lo_state_0 : decode prog_1_method_12_code 0 = .ok (.aload_n 0, 1) := by decide +kernel
theorem d_Lo_state_1 : decode prog_1_method_12_code 1 = .ok (.getfield 21, 3) := by decide +kernel
theorem d_Lo_state_4 : decode prog_1_method_12_code 4 = .ok (.iload_n 1, 1) := by decide +kernel
theorem d_Lo_state_5 : decode prog_1_method_12_code 5 = .ok (.invokevirtual 64, 3) := by decide +kernel
theorem d_Lo_state_8 : decode prog_1_method_12_code 8 = .ok (.ireturn, 1) := by decide +kernel
def tb_Lo_state : List pm_I := [
  pm_aload 1 0,
  pm_getr 2 0 1,
  pm_iload 3 1,
  pm_callv 4 47 2 3,
  pm_iret]
def bp_Lo_state : List Nat := [0, 1, 4, 5, 8]
set_option maxRecDepth 100000 in
theorem sd_Lo_state : pm_Sl prog_1_method_12_code 2 R_Lo "state" (some .int) pm_Y (pm_b bp_Lo_state) 0 tb_Lo_state := by
  refine ⟨so_aloadn d_Lo_state_0 rfl rfl, ?_⟩
  refine ⟨so_getr (ci := 0) (k := 1) rfl (by decide) rfl rfl fl_Lo_21 d_Lo_state_1 rfl, ?_⟩
  refine ⟨so_iloadn d_Lo_state_4 rfl rfl, ?_⟩
  refine ⟨so_callv (ci := 3) rfl rfl mc_Ru_stateOf mi_Ru mj_Ru_stateOf ms_Ru_stateOf ml_Lo_64 yd_Ru_stateOf (by decide) d_Lo_state_5 rfl, ?_⟩
  refine ⟨so_iret d_Lo_state_8 rfl, ?_⟩
  exact trivial
theorem d_Lo_count_0 : decode prog_1_method_13_code 0 = .ok (.aload_n 0, 1) := by decide +kernel
theorem d_Lo_count_1 : decode prog_1_method_13_code 1 = .ok (.getfield 21, 3) := by decide +kernel
theorem d_Lo_count_4 : decode prog_1_method_13_code 4 = .ok (.iload_n 1, 1) := by decide +kernel
theorem d_Lo_count_5 : decode prog_1_method_13_code 5 = .ok (.invokevirtual 67, 3) := by decide +kernel
theorem d_Lo_count_8 : decode prog_1_method_13_code 8 = .ok (.ireturn, 1) := by decide +kernel
def tb_Lo_count : List pm_I := [
  pm_aload 1 0,
  pm_getr 2 0 1,
  pm_iload 3 1,
  pm_callv 4 48 2 3,
  pm_iret]
def bp_Lo_count : List Nat := [0, 1, 4, 5, 8]
set_option maxRecDepth 100000 in
theorem sd_Lo_count : pm_Sl prog_1_method_13_code 2 R_Lo "count" (some .int) pm_Y (pm_b bp_Lo_count) 0 tb_Lo_count := by
  refine ⟨so_aloadn d_Lo_count_0 rfl rfl, ?_⟩
  refine ⟨so_getr (ci := 0) (k := 1) rfl (by decide) rfl rfl fl_Lo_21 d_Lo_count_1 rfl, ?_⟩
  refine ⟨so_iloadn d_Lo_count_4 rfl rfl, ?_⟩
  refine ⟨so_callv (ci := 3) rfl rfl mc_Ru_countOf mi_Ru mj_Ru_countOf ms_Ru_countOf ml_Lo_67 yd_Ru_countOf (by decide) d_Lo_count_5 rfl, ?_⟩
  refine ⟨so_iret d_Lo_count_8 rfl, ?_⟩
  exact trivial
theorem d_Lo_race_0 : decode prog_1_method_14_code 0 = .ok (.aload_n 0, 1) := by decide +kernel
theorem d_Lo_race_1 : decode prog_1_method_14_code 1 = .ok (.getfield 21, 3) := by decide +kernel
theorem d_Lo_race_4 : decode prog_1_method_14_code 4 = .ok (.iload_n 1, 1) := by decide +kernel
theorem d_Lo_race_5 : decode prog_1_method_14_code 5 = .ok (.iload_n 2, 1) := by decide +kernel
theorem d_Lo_race_6 : decode prog_1_method_14_code 6 = .ok (.invokevirtual 70, 3) := by decide +kernel
theorem d_Lo_race_9 : decode prog_1_method_14_code 9 = .ok (.ireturn, 1) := by decide +kernel
def tb_Lo_race : List pm_I := [
  pm_aload 1 0,
  pm_getr 2 0 1,
  pm_iload 3 1,
  pm_iload 4 2,
  pm_callv 5 49 3 3,
  pm_iret]
def bp_Lo_race : List Nat := [0, 1, 4, 5, 6, 9]
set_option maxRecDepth 100000 in
theorem sd_Lo_race : pm_Sl prog_1_method_14_code 3 R_Lo "race" (some .int) pm_Y (pm_b bp_Lo_race) 0 tb_Lo_race := by
  refine ⟨so_aloadn d_Lo_race_0 rfl rfl, ?_⟩
  refine ⟨so_getr (ci := 0) (k := 1) rfl (by decide) rfl rfl fl_Lo_21 d_Lo_race_1 rfl, ?_⟩
  refine ⟨so_iloadn d_Lo_race_4 rfl rfl, ?_⟩
  refine ⟨so_iloadn d_Lo_race_5 rfl rfl, ?_⟩
  refine ⟨so_callv (ci := 3) rfl rfl mc_Ru_racePart mi_Ru mj_Ru_racePart ms_Ru_racePart ml_Lo_70 yd_Ru_racePart (by decide) d_Lo_race_6 rfl, ?_⟩
  refine ⟨so_iret d_Lo_race_9 rfl, ?_⟩
  exact trivial
theorem d_Lo_stuck_0 : decode prog_1_method_15_code 0 = .ok (.aload_n 0, 1) := by decide +kernel
theorem d_Lo_stuck_1 : decode prog_1_method_15_code 1 = .ok (.getfield 21, 3) := by decide +kernel
theorem d_Lo_stuck_4 : decode prog_1_method_15_code 4 = .ok (.invokevirtual 73, 3) := by decide +kernel
theorem d_Lo_stuck_7 : decode prog_1_method_15_code 7 = .ok (.ireturn, 1) := by decide +kernel
def tb_Lo_stuck : List pm_I := [
  pm_aload 1 0,
  pm_getr 2 0 1,
  pm_callv 3 50 1 3,
  pm_zret]
def bp_Lo_stuck : List Nat := [0, 1, 4, 7]
set_option maxRecDepth 100000 in
theorem sd_Lo_stuck : pm_Sl prog_1_method_15_code 1 R_Lo "stuck" (some .boolean) pm_Y (pm_b bp_Lo_stuck) 0 tb_Lo_stuck := by
  refine ⟨so_aloadn d_Lo_stuck_0 rfl rfl, ?_⟩
  refine ⟨so_getr (ci := 0) (k := 1) rfl (by decide) rfl rfl fl_Lo_21 d_Lo_stuck_1 rfl, ?_⟩
  refine ⟨so_callv (ci := 3) rfl rfl mc_Ru_isStuck mi_Ru mj_Ru_isStuck ms_Ru_isStuck ml_Lo_73 yd_Ru_isStuck (by decide) d_Lo_stuck_4 rfl, ?_⟩
  refine ⟨so_zret d_Lo_stuck_7 rfl, ?_⟩
  exact trivial
theorem d_Sh_init_0 : decode prog_7_method_1_code 0 = .ok (.aload_n 0, 1) := by decide +kernel
theorem d_Sh_init_1 : decode prog_7_method_1_code 1 = .ok (.invokespecial 3, 3) := by decide +kernel
theorem d_Sh_init_4 : decode prog_7_method_1_code 4 = .ok (.aload_n 0, 1) := by decide +kernel
theorem d_Sh_init_5 : decode prog_7_method_1_code 5 = .ok (.bipush 8, 2) := by decide +kernel
theorem d_Sh_init_7 : decode prog_7_method_1_code 7 = .ok (.anewarray 9, 3) := by decide +kernel
theorem d_Sh_init_10 : decode prog_7_method_1_code 10 = .ok (.putfield 11, 3) := by decide +kernel
theorem d_Sh_init_13 : decode prog_7_method_1_code 13 = .ok (.aload_n 0, 1) := by decide +kernel
theorem d_Sh_init_14 : decode prog_7_method_1_code 14 = .ok (.bipush 8, 2) := by decide +kernel
theorem d_Sh_init_16 : decode prog_7_method_1_code 16 = .ok (.newarray .int, 2) := by decide +kernel
theorem d_Sh_init_18 : decode prog_7_method_1_code 18 = .ok (.putfield 17, 3) := by decide +kernel
theorem d_Sh_init_21 : decode prog_7_method_1_code 21 = .ok (.aload_n 0, 1) := by decide +kernel
theorem d_Sh_init_22 : decode prog_7_method_1_code 22 = .ok (.new 9, 3) := by decide +kernel
theorem d_Sh_init_25 : decode prog_7_method_1_code 25 = .ok (.dup, 1) := by decide +kernel
theorem d_Sh_init_26 : decode prog_7_method_1_code 26 = .ok (.invokespecial 21, 3) := by decide +kernel
theorem d_Sh_init_29 : decode prog_7_method_1_code 29 = .ok (.putfield 22, 3) := by decide +kernel
theorem d_Sh_init_32 : decode prog_7_method_1_code 32 = .ok (.iconst 0, 1) := by decide +kernel
theorem d_Sh_init_33 : decode prog_7_method_1_code 33 = .ok (.istore_n 1, 1) := by decide +kernel
theorem d_Sh_init_34 : decode prog_7_method_1_code 34 = .ok (.iload_n 1, 1) := by decide +kernel
theorem d_Sh_init_35 : decode prog_7_method_1_code 35 = .ok (.bipush 8, 2) := by decide +kernel
theorem d_Sh_init_37 : decode prog_7_method_1_code 37 = .ok (.if_icmp .ge 22, 3) := by decide +kernel
theorem d_Sh_init_40 : decode prog_7_method_1_code 40 = .ok (.aload_n 0, 1) := by decide +kernel
theorem d_Sh_init_41 : decode prog_7_method_1_code 41 = .ok (.getfield 11, 3) := by decide +kernel
theorem d_Sh_init_44 : decode prog_7_method_1_code 44 = .ok (.iload_n 1, 1) := by decide +kernel
theorem d_Sh_init_45 : decode prog_7_method_1_code 45 = .ok (.new 9, 3) := by decide +kernel
theorem d_Sh_init_48 : decode prog_7_method_1_code 48 = .ok (.dup, 1) := by decide +kernel
theorem d_Sh_init_49 : decode prog_7_method_1_code 49 = .ok (.invokespecial 21, 3) := by decide +kernel
theorem d_Sh_init_52 : decode prog_7_method_1_code 52 = .ok (.aastore, 1) := by decide +kernel
theorem d_Sh_init_53 : decode prog_7_method_1_code 53 = .ok (.iinc 1 1, 3) := by decide +kernel
theorem d_Sh_init_56 : decode prog_7_method_1_code 56 = .ok (.goto (-22), 3) := by decide +kernel
theorem d_Sh_init_59 : decode prog_7_method_1_code 59 = .ok (.aload_n 0, 1) := by decide +kernel
theorem d_Sh_init_60 : decode prog_7_method_1_code 60 = .ok (.getfield 17, 3) := by decide +kernel
theorem d_Sh_init_63 : decode prog_7_method_1_code 63 = .ok (.iconst (-1), 1) := by decide +kernel
theorem d_Sh_init_64 : decode prog_7_method_1_code 64 = .ok (.invokestatic 26, 3) := by decide +kernel
theorem d_Sh_init_67 : decode prog_7_method_1_code 67 = .ok (.return_, 1) := by decide +kernel
def tb_Sh_init : List pm_I := [
  pm_aload 1 0,
  pm_oinit 2,
  pm_aload 3 0,
  pm_const 4 8,
  pm_newa 5 2,
  pm_putr 6 1 0,
  pm_aload 7 0,
  pm_const 8 8,
  pm_newa 9 0,
  pm_putr 10 1 1,
  pm_aload 11 0,
  pm_newo 12 2 6,
  pm_dup 13,
  pm_callc 14 26 1,
  pm_putr 15 1 2,
  pm_const 16 0,
  pm_istore 17 1,
  pm_iload 18 1,
  pm_const 19 8,
  pm_icmp 29 20 (fun a b => decide (b ≤ a)),
  pm_aload 21 0,
  pm_getr 22 1 0,
  pm_iload 23 1,
  pm_newo 24 2 6,
  pm_dup 25,
  pm_callc 26 26 1,
  pm_aast 27 2 2,
  pm_iinc 28 1 1,
  pm_goto 17,
  pm_aload 30 0,
  pm_getr 31 1 1,
  pm_const 32 (-1),
  pm_calls 33 103 2,
  pm_vret]
def bp_Sh_init : List Nat := [0, 1, 4, 5, 7, 10, 13, 14, 16, 18, 21, 22, 25, 26, 29, 32, 33, 34, 35, 37, 40, 41, 44, 45, 48, 49, 52, 53, 56, 59, 60, 63, 64, 67]
set_option maxRecDepth 100000 in
theorem sd_Sh_init : pm_Sl prog_7_method_1_code 2 R_Sh "<init>" (none) pm_Y (pm_b bp_Sh_init) 0 tb_Sh_init := by
  refine ⟨so_aloadn d_Sh_init_0 rfl rfl, ?_⟩
  refine ⟨so_oinit (pm_in1 (List.mem_append_left _ (List.mem_of_getElem? (i := 26) rfl))) (pm_in1 (List.mem_append_left _ (List.mem_of_getElem? (i := 19) rfl))) (pm_in1 (List.mem_append_left _ (List.mem_of_getElem? (i := 20) rfl))) d_Sh_init_1 rfl, ?_⟩
  refine ⟨so_aloadn d_Sh_init_4 rfl rfl, ?_⟩
  refine ⟨so_const2 d_Sh_init_5 (by decide) rfl, ?_⟩
  refine ⟨so_anew rfl (by decide) (fun _ => rfl) (pm_in1 (List.mem_append_left _ (List.mem_of_getElem? (i := 27) rfl))) d_Sh_init_7 rfl, ?_⟩
  refine ⟨so_putr (ci := 1) (k := 0) rfl (by decide) rfl rfl (Or.inr ⟨rfl, rfl, rfl, pm_in1 (List.mem_append_left _ (List.mem_of_getElem? (i := 66) rfl))⟩) d_Sh_init_10 rfl, ?_⟩
  refine ⟨so_aloadn d_Sh_init_13 rfl rfl, ?_⟩
  refine ⟨so_const2 d_Sh_init_14 (by decide) rfl, ?_⟩
  refine ⟨so_newi d_Sh_init_16 rfl, ?_⟩
  refine ⟨so_putr (ci := 1) (k := 1) rfl (by decide) rfl rfl (Or.inr ⟨rfl, rfl, rfl, pm_in1 (List.mem_append_left _ (List.mem_of_getElem? (i := 68) rfl))⟩) d_Sh_init_18 rfl, ?_⟩
  refine ⟨so_aloadn d_Sh_init_21 rfl rfl, ?_⟩
  refine ⟨so_newo (ci := 2) rfl (by decide +kernel) (pm_in1 (List.mem_append_left _ (List.mem_of_getElem? (i := 27) rfl))) (pm_in1 (List.mem_append_left _ (List.mem_of_getElem? (i := 29) rfl))) (pm_in1 (List.mem_append_left _ (List.mem_of_getElem? (i := 3) rfl))) d_Sh_init_22 rfl, ?_⟩
  refine ⟨so_dup d_Sh_init_25 rfl, ?_⟩
  refine ⟨so_callc rfl rfl mc_Bo_init mi_Bo mj_Bo_init ml_Sh_21 yd_Bo_init (by decide) d_Sh_init_26 rfl, ?_⟩
  refine ⟨so_putr (ci := 1) (k := 2) rfl (by decide) rfl rfl (Or.inl ⟨rfl, fl_Sh_22⟩) d_Sh_init_29 rfl, ?_⟩
  refine ⟨so_const1 d_Sh_init_32 (by decide) rfl, ?_⟩
  refine ⟨so_istoren d_Sh_init_33 rfl (by decide) rfl, ?_⟩
  refine ⟨so_iloadn d_Sh_init_34 rfl rfl, ?_⟩
  refine ⟨so_const2 d_Sh_init_35 (by decide) rfl, ?_⟩
  refine ⟨so_icmp_ge d_Sh_init_37 rfl rfl, ?_⟩
  refine ⟨so_aloadn d_Sh_init_40 rfl rfl, ?_⟩
  refine ⟨so_getr (ci := 1) (k := 0) rfl (by decide) rfl rfl fl_Sh_11 d_Sh_init_41 rfl, ?_⟩
  refine ⟨so_iloadn d_Sh_init_44 rfl rfl, ?_⟩
  refine ⟨so_newo (ci := 2) rfl (by decide +kernel) (pm_in1 (List.mem_append_left _ (List.mem_of_getElem? (i := 27) rfl))) (pm_in1 (List.mem_append_left _ (List.mem_of_getElem? (i := 29) rfl))) (pm_in1 (List.mem_append_left _ (List.mem_of_getElem? (i := 3) rfl))) d_Sh_init_45 rfl, ?_⟩
  refine ⟨so_dup d_Sh_init_48 rfl, ?_⟩
  refine ⟨so_callc rfl rfl mc_Bo_init mi_Bo mj_Bo_init ml_Sh_21 yd_Bo_init (by decide) d_Sh_init_49 rfl, ?_⟩
  refine ⟨so_aast rfl rfl (by decide) (fun _ => rfl) d_Sh_init_52 rfl, ?_⟩
  refine ⟨so_iinc d_Sh_init_53 (by decide) (by decide) rfl, ?_⟩
  refine ⟨so_goto d_Sh_init_56 rfl, ?_⟩
  refine ⟨so_aloadn d_Sh_init_59 rfl rfl, ?_⟩
  refine ⟨so_getr (ci := 1) (k := 1) rfl (by decide) rfl rfl fl_Sh_17 d_Sh_init_60 rfl, ?_⟩
  refine ⟨so_const1 d_Sh_init_63 (by decide) rfl, ?_⟩
  refine ⟨so_calls rfl mc_Ar_fill mi_Ar mt_Ar_fill ml_Sh_26 yd_Ar_fill (by decide) d_Sh_init_64 rfl, ?_⟩
  refine ⟨so_vret d_Sh_init_67 rfl, ?_⟩
  exact trivial
theorem d_Sh_addStatement_0 : decode prog_7_method_3_code 0 = .ok (.iload_n 1, 1) := by decide +kernel
theorem d_Sh_addStatement_1 : decode prog_7_method_3_code 1 = .ok (.iload_n 2, 1) := by decide +kernel
theorem d_Sh_addStatement_2 : decode prog_7_method_3_code 2 = .ok (.invokestatic 40, 3) := by decide +kernel
theorem d_Sh_addStatement_5 : decode prog_7_method_3_code 5 = .ok (.ifCond .eq 15, 3) := by decide +kernel
theorem d_Sh_addStatement_8 : decode prog_7_method_3_code 8 = .ok (.aload_n 0, 1) := by decide +kernel
theorem d_Sh_addStatement_9 : decode prog_7_method_3_code 9 = .ok (.getfield 22, 3) := by decide +kernel
theorem d_Sh_addStatement_12 : decode prog_7_method_3_code 12 = .ok (.iload_n 1, 1) := by decide +kernel
theorem d_Sh_addStatement_13 : decode prog_7_method_3_code 13 = .ok (.iload_n 2, 1) := by decide +kernel
theorem d_Sh_addStatement_14 : decode prog_7_method_3_code 14 = .ok (.invokevirtual 43, 3) := by decide +kernel
theorem d_Sh_addStatement_17 : decode prog_7_method_3_code 17 = .ok (.goto 4, 3) := by decide +kernel
theorem d_Sh_addStatement_20 : decode prog_7_method_3_code 20 = .ok (.iconst (-1), 1) := by decide +kernel
theorem d_Sh_addStatement_21 : decode prog_7_method_3_code 21 = .ok (.ireturn, 1) := by decide +kernel
def tb_Sh_addStatement : List pm_I := [
  pm_iload 1 1,
  pm_iload 2 2,
  pm_calls 3 18 2,
  pm_if 10 4 (fun a => decide (a = 0)),
  pm_aload 5 0,
  pm_getr 6 1 2,
  pm_iload 7 1,
  pm_iload 8 2,
  pm_callv 9 27 3 2,
  pm_goto 11,
  pm_const 11 (-1),
  pm_iret]
def bp_Sh_addStatement : List Nat := [0, 1, 2, 5, 8, 9, 12, 13, 14, 17, 20, 21]
set_option maxRecDepth 100000 in
theorem sd_Sh_addStatement : pm_Sl prog_7_method_3_code 3 R_Sh "addStatement" (some .int) pm_Y (pm_b bp_Sh_addStatement) 0 tb_Sh_addStatement := by
  refine ⟨so_iloadn d_Sh_addStatement_0 rfl rfl, ?_⟩
  refine ⟨so_iloadn d_Sh_addStatement_1 rfl rfl, ?_⟩
  refine ⟨so_calls rfl mc_Sh_fits mi_Sh mt_Sh_fits ml_Sh_40 yd_Sh_fits (by decide) d_Sh_addStatement_2 rfl, ?_⟩
  refine ⟨so_if_eq d_Sh_addStatement_5 rfl rfl, ?_⟩
  refine ⟨so_aloadn d_Sh_addStatement_8 rfl rfl, ?_⟩
  refine ⟨so_getr (ci := 1) (k := 2) rfl (by decide) rfl rfl fl_Sh_22 d_Sh_addStatement_9 rfl, ?_⟩
  refine ⟨so_iloadn d_Sh_addStatement_12 rfl rfl, ?_⟩
  refine ⟨so_iloadn d_Sh_addStatement_13 rfl rfl, ?_⟩
  refine ⟨so_callv (ci := 2) rfl rfl mc_Bo_append mi_Bo mj_Bo_append ms_Bo_append ml_Sh_43 yd_Bo_append (by decide) d_Sh_addStatement_14 rfl, ?_⟩
  refine ⟨so_goto d_Sh_addStatement_17 rfl, ?_⟩
  refine ⟨so_const1 d_Sh_addStatement_20 (by decide) rfl, ?_⟩
  refine ⟨so_iret d_Sh_addStatement_21 rfl, ?_⟩
  exact trivial
theorem d_Sh_fits_0 : decode prog_7_method_4_code 0 = .ok (.iload_n 0, 1) := by decide +kernel
theorem d_Sh_fits_1 : decode prog_7_method_4_code 1 = .ok (.tableswitch 79 0 10 #[59, 59, 79, 79, 66, 79, 79, 79, 79, 72, 72], 59) := by decide +kernel
theorem d_Sh_fits_60 : decode prog_7_method_4_code 60 = .ok (.iload_n 1, 1) := by decide +kernel
theorem d_Sh_fits_61 : decode prog_7_method_4_code 61 = .ok (.bipush 8, 2) := by decide +kernel
theorem d_Sh_fits_63 : decode prog_7_method_4_code 63 = .ok (.invokestatic 36, 3) := by decide +kernel
theorem d_Sh_fits_66 : decode prog_7_method_4_code 66 = .ok (.ireturn, 1) := by decide +kernel
theorem d_Sh_fits_67 : decode prog_7_method_4_code 67 = .ok (.iload_n 1, 1) := by decide +kernel
theorem d_Sh_fits_68 : decode prog_7_method_4_code 68 = .ok (.iconst 4, 1) := by decide +kernel
theorem d_Sh_fits_69 : decode prog_7_method_4_code 69 = .ok (.invokestatic 36, 3) := by decide +kernel
theorem d_Sh_fits_72 : decode prog_7_method_4_code 72 = .ok (.ireturn, 1) := by decide +kernel
theorem d_Sh_fits_73 : decode prog_7_method_4_code 73 = .ok (.iload_n 1, 1) := by decide +kernel
theorem d_Sh_fits_74 : decode prog_7_method_4_code 74 = .ok (.bipush 8, 2) := by decide +kernel
theorem d_Sh_fits_76 : decode prog_7_method_4_code 76 = .ok (.invokestatic 36, 3) := by decide +kernel
theorem d_Sh_fits_79 : decode prog_7_method_4_code 79 = .ok (.ireturn, 1) := by decide +kernel
theorem d_Sh_fits_80 : decode prog_7_method_4_code 80 = .ok (.iload_n 0, 1) := by decide +kernel
theorem d_Sh_fits_81 : decode prog_7_method_4_code 81 = .ok (.bipush 11, 2) := by decide +kernel
theorem d_Sh_fits_83 : decode prog_7_method_4_code 83 = .ok (.invokestatic 36, 3) := by decide +kernel
theorem d_Sh_fits_86 : decode prog_7_method_4_code 86 = .ok (.ireturn, 1) := by decide +kernel
def tb_Sh_fits : List pm_I := [
  pm_iload 1 0,
  pm_sw [(0, 2), (1, 2), (2, 14), (3, 14), (4, 6), (5, 14), (6, 14), (7, 14), (8, 14), (9, 10), (10, 10)] 14,
  pm_iload 3 1,
  pm_const 4 8,
  pm_calls 5 2 2,
  pm_zret,
  pm_iload 7 1,
  pm_const 8 4,
  pm_calls 9 2 2,
  pm_zret,
  pm_iload 11 1,
  pm_const 12 8,
  pm_calls 13 2 2,
  pm_zret,
  pm_iload 15 0,
  pm_const 16 11,
  pm_calls 17 2 2,
  pm_zret]
def bp_Sh_fits : List Nat := [0, 1, 60, 61, 63, 66, 67, 68, 69, 72, 73, 74, 76, 79, 80, 81, 83, 86]
set_option maxRecDepth 100000 in
theorem sd_Sh_fits : pm_Sl prog_7_method_4_code 2 R_Sh "fits" (some .boolean) pm_Y (pm_b bp_Sh_fits) 0 tb_Sh_fits := by
  refine ⟨so_iloadn d_Sh_fits_0 rfl rfl, ?_⟩
  refine ⟨so_tsw d_Sh_fits_1 (by decide +kernel) (by decide +kernel) rfl, ?_⟩
  refine ⟨so_iloadn d_Sh_fits_60 rfl rfl, ?_⟩
  refine ⟨so_const2 d_Sh_fits_61 (by decide) rfl, ?_⟩
  refine ⟨so_calls rfl mc_Lo_isBelow mi_Lo mt_Lo_isBelow ml_Sh_36 yd_Lo_isBelow (by decide) d_Sh_fits_63 rfl, ?_⟩
  refine ⟨so_zret d_Sh_fits_66 rfl, ?_⟩
  refine ⟨so_iloadn d_Sh_fits_67 rfl rfl, ?_⟩
  refine ⟨so_const1 d_Sh_fits_68 (by decide) rfl, ?_⟩
  refine ⟨so_calls rfl mc_Lo_isBelow mi_Lo mt_Lo_isBelow ml_Sh_36 yd_Lo_isBelow (by decide) d_Sh_fits_69 rfl, ?_⟩
  refine ⟨so_zret d_Sh_fits_72 rfl, ?_⟩
  refine ⟨so_iloadn d_Sh_fits_73 rfl rfl, ?_⟩
  refine ⟨so_const2 d_Sh_fits_74 (by decide) rfl, ?_⟩
  refine ⟨so_calls rfl mc_Lo_isBelow mi_Lo mt_Lo_isBelow ml_Sh_36 yd_Lo_isBelow (by decide) d_Sh_fits_76 rfl, ?_⟩
  refine ⟨so_zret d_Sh_fits_79 rfl, ?_⟩
  refine ⟨so_iloadn d_Sh_fits_80 rfl rfl, ?_⟩
  refine ⟨so_const2 d_Sh_fits_81 (by decide) rfl, ?_⟩
  refine ⟨so_calls rfl mc_Lo_isBelow mi_Lo mt_Lo_isBelow ml_Sh_36 yd_Lo_isBelow (by decide) d_Sh_fits_83 rfl, ?_⟩
  refine ⟨so_zret d_Sh_fits_86 rfl, ?_⟩
  exact trivial
theorem d_Sh_closeText_0 : decode prog_7_method_5_code 0 = .ok (.aload_n 0, 1) := by decide +kernel
theorem d_Sh_closeText_1 : decode prog_7_method_5_code 1 = .ok (.getfield 32, 3) := by decide +kernel
theorem d_Sh_closeText_4 : decode prog_7_method_5_code 4 = .ok (.bipush 8, 2) := by decide +kernel
theorem d_Sh_closeText_6 : decode prog_7_method_5_code 6 = .ok (.if_icmp .ge 14, 3) := by decide +kernel
theorem d_Sh_closeText_9 : decode prog_7_method_5_code 9 = .ok (.aload_n 0, 1) := by decide +kernel
theorem d_Sh_closeText_10 : decode prog_7_method_5_code 10 = .ok (.getfield 22, 3) := by decide +kernel
theorem d_Sh_closeText_13 : decode prog_7_method_5_code 13 = .ok (.iload_n 1, 1) := by decide +kernel
theorem d_Sh_closeText_14 : decode prog_7_method_5_code 14 = .ok (.invokevirtual 47, 3) := by decide +kernel
theorem d_Sh_closeText_17 : decode prog_7_method_5_code 17 = .ok (.ifCond .ne 12, 3) := by decide +kernel
theorem d_Sh_closeText_20 : decode prog_7_method_5_code 20 = .ok (.aload_n 0, 1) := by decide +kernel
theorem d_Sh_closeText_21 : decode prog_7_method_5_code 21 = .ok (.getfield 22, 3) := by decide +kernel
theorem d_Sh_closeText_24 : decode prog_7_method_5_code 24 = .ok (.invokevirtual 51, 3) := by decide +kernel
theorem d_Sh_closeText_27 : decode prog_7_method_5_code 27 = .ok (.iconst (-1), 1) := by decide +kernel
theorem d_Sh_closeText_28 : decode prog_7_method_5_code 28 = .ok (.ireturn, 1) := by decide +kernel
theorem d_Sh_closeText_29 : decode prog_7_method_5_code 29 = .ok (.aload_n 0, 1) := by decide +kernel
theorem d_Sh_closeText_30 : decode prog_7_method_5_code 30 = .ok (.getfield 11, 3) := by decide +kernel
theorem d_Sh_closeText_33 : decode prog_7_method_5_code 33 = .ok (.aload_n 0, 1) := by decide +kernel
theorem d_Sh_closeText_34 : decode prog_7_method_5_code 34 = .ok (.getfield 32, 3) := by decide +kernel
theorem d_Sh_closeText_37 : decode prog_7_method_5_code 37 = .ok (.aaload, 1) := by decide +kernel
theorem d_Sh_closeText_38 : decode prog_7_method_5_code 38 = .ok (.astore_n 2, 1) := by decide +kernel
theorem d_Sh_closeText_39 : decode prog_7_method_5_code 39 = .ok (.aload_n 0, 1) := by decide +kernel
theorem d_Sh_closeText_40 : decode prog_7_method_5_code 40 = .ok (.getfield 11, 3) := by decide +kernel
theorem d_Sh_closeText_43 : decode prog_7_method_5_code 43 = .ok (.aload_n 0, 1) := by decide +kernel
theorem d_Sh_closeText_44 : decode prog_7_method_5_code 44 = .ok (.getfield 32, 3) := by decide +kernel
theorem d_Sh_closeText_47 : decode prog_7_method_5_code 47 = .ok (.aload_n 0, 1) := by decide +kernel
theorem d_Sh_closeText_48 : decode prog_7_method_5_code 48 = .ok (.getfield 22, 3) := by decide +kernel
theorem d_Sh_closeText_51 : decode prog_7_method_5_code 51 = .ok (.aastore, 1) := by decide +kernel
theorem d_Sh_closeText_52 : decode prog_7_method_5_code 52 = .ok (.aload_n 0, 1) := by decide +kernel
theorem d_Sh_closeText_53 : decode prog_7_method_5_code 53 = .ok (.aload_n 2, 1) := by decide +kernel
theorem d_Sh_closeText_54 : decode prog_7_method_5_code 54 = .ok (.putfield 22, 3) := by decide +kernel
theorem d_Sh_closeText_57 : decode prog_7_method_5_code 57 = .ok (.aload_n 0, 1) := by decide +kernel
theorem d_Sh_closeText_58 : decode prog_7_method_5_code 58 = .ok (.dup, 1) := by decide +kernel
theorem d_Sh_closeText_59 : decode prog_7_method_5_code 59 = .ok (.getfield 32, 3) := by decide +kernel
theorem d_Sh_closeText_62 : decode prog_7_method_5_code 62 = .ok (.iconst 1, 1) := by decide +kernel
theorem d_Sh_closeText_63 : decode prog_7_method_5_code 63 = .ok (.iadd, 1) := by decide +kernel
theorem d_Sh_closeText_64 : decode prog_7_method_5_code 64 = .ok (.putfield 32, 3) := by decide +kernel
theorem d_Sh_closeText_67 : decode prog_7_method_5_code 67 = .ok (.aload_n 0, 1) := by decide +kernel
theorem d_Sh_closeText_68 : decode prog_7_method_5_code 68 = .ok (.getfield 32, 3) := by decide +kernel
theorem d_Sh_closeText_71 : decode prog_7_method_5_code 71 = .ok (.iconst 1, 1) := by decide +kernel
theorem d_Sh_closeText_72 : decode prog_7_method_5_code 72 = .ok (.isub, 1) := by decide +kernel
theorem d_Sh_closeText_73 : decode prog_7_method_5_code 73 = .ok (.ireturn, 1) := by decide +kernel
def tb_Sh_closeText : List pm_I := [
  pm_aload 1 0,
  pm_geti 2 1 3,
  pm_const 3 8,
  pm_icmp 9 4 (fun a b => decide (b ≤ a)),
  pm_aload 5 0,
  pm_getr 6 1 2,
  pm_iload 7 1,
  pm_callv 8 28 2 2,
  pm_if 14 9 (fun a => decide (a ≠ 0)),
  pm_aload 10 0,
  pm_getr 11 1 2,
  pm_callv 12 30 1 2,
  pm_const 13 (-1),
  pm_iret,
  pm_aload 15 0,
  pm_getr 16 1 0,
  pm_aload 17 0,
  pm_geti 18 1 3,
  pm_aald 19 2,
  pm_astore 20 2,
  pm_aload 21 0,
  pm_getr 22 1 0,
  pm_aload 23 0,
  pm_geti 24 1 3,
  pm_aload 25 0,
  pm_getr 26 1 2,
  pm_aast 27 2 2,
  pm_aload 28 0,
  pm_aload 29 2,
  pm_putr 30 1 2,
  pm_aload 31 0,
  pm_dup 32,
  pm_geti 33 1 3,
  pm_const 34 1,
  pm_bin 35 (fun a b => a + b),
  pm_puti 36 1 3,
  pm_aload 37 0,
  pm_geti 38 1 3,
  pm_const 39 1,
  pm_bin 40 (fun a b => a - b),
  pm_iret]
def bp_Sh_closeText : List Nat := [0, 1, 4, 6, 9, 10, 13, 14, 17, 20, 21, 24, 27, 28, 29, 30, 33, 34, 37, 38, 39, 40, 43, 44, 47, 48, 51, 52, 53, 54, 57, 58, 59, 62, 63, 64, 67, 68, 71, 72, 73]
set_option maxRecDepth 100000 in
theorem sd_Sh_closeText : pm_Sl prog_7_method_5_code 3 R_Sh "closeText" (some .int) pm_Y (pm_b bp_Sh_closeText) 0 tb_Sh_closeText := by
  refine ⟨so_aloadn d_Sh_closeText_0 rfl rfl, ?_⟩
  refine ⟨so_geti (ci := 1) (k := 3) rfl (by decide) rfl rfl fl_Sh_32 d_Sh_closeText_1 rfl, ?_⟩
  refine ⟨so_const2 d_Sh_closeText_4 (by decide) rfl, ?_⟩
  refine ⟨so_icmp_ge d_Sh_closeText_6 rfl rfl, ?_⟩
  refine ⟨so_aloadn d_Sh_closeText_9 rfl rfl, ?_⟩
  refine ⟨so_getr (ci := 1) (k := 2) rfl (by decide) rfl rfl fl_Sh_22 d_Sh_closeText_10 rfl, ?_⟩
  refine ⟨so_iloadn d_Sh_closeText_13 rfl rfl, ?_⟩
  refine ⟨so_callv (ci := 2) rfl rfl mc_Bo_joinBlocks mi_Bo mj_Bo_joinBlocks ms_Bo_joinBlocks ml_Sh_47 yd_Bo_joinBlocks (by decide) d_Sh_closeText_14 rfl, ?_⟩
  refine ⟨so_if_ne d_Sh_closeText_17 rfl rfl, ?_⟩
  refine ⟨so_aloadn d_Sh_closeText_20 rfl rfl, ?_⟩
  refine ⟨so_getr (ci := 1) (k := 2) rfl (by decide) rfl rfl fl_Sh_22 d_Sh_closeText_21 rfl, ?_⟩
  refine ⟨so_callv (ci := 2) rfl rfl mc_Bo_clear mi_Bo mj_Bo_clear ms_Bo_clear ml_Sh_51 yd_Bo_clear (by decide) d_Sh_closeText_24 rfl, ?_⟩
  refine ⟨so_const1 d_Sh_closeText_27 (by decide) rfl, ?_⟩
  refine ⟨so_iret d_Sh_closeText_28 rfl, ?_⟩
  refine ⟨so_aloadn d_Sh_closeText_29 rfl rfl, ?_⟩
  refine ⟨so_getr (ci := 1) (k := 0) rfl (by decide) rfl rfl fl_Sh_11 d_Sh_closeText_30 rfl, ?_⟩
  refine ⟨so_aloadn d_Sh_closeText_33 rfl rfl, ?_⟩
  refine ⟨so_geti (ci := 1) (k := 3) rfl (by decide) rfl rfl fl_Sh_32 d_Sh_closeText_34 rfl, ?_⟩
  refine ⟨so_aald rfl (by decide) (fun _ => rfl) d_Sh_closeText_37 rfl, ?_⟩
  refine ⟨so_astoren d_Sh_closeText_38 rfl (by decide) rfl, ?_⟩
  refine ⟨so_aloadn d_Sh_closeText_39 rfl rfl, ?_⟩
  refine ⟨so_getr (ci := 1) (k := 0) rfl (by decide) rfl rfl fl_Sh_11 d_Sh_closeText_40 rfl, ?_⟩
  refine ⟨so_aloadn d_Sh_closeText_43 rfl rfl, ?_⟩
  refine ⟨so_geti (ci := 1) (k := 3) rfl (by decide) rfl rfl fl_Sh_32 d_Sh_closeText_44 rfl, ?_⟩
  refine ⟨so_aloadn d_Sh_closeText_47 rfl rfl, ?_⟩
  refine ⟨so_getr (ci := 1) (k := 2) rfl (by decide) rfl rfl fl_Sh_22 d_Sh_closeText_48 rfl, ?_⟩
  refine ⟨so_aast rfl rfl (by decide) (fun _ => rfl) d_Sh_closeText_51 rfl, ?_⟩
  refine ⟨so_aloadn d_Sh_closeText_52 rfl rfl, ?_⟩
  refine ⟨so_aloadn d_Sh_closeText_53 rfl rfl, ?_⟩
  refine ⟨so_putr (ci := 1) (k := 2) rfl (by decide) rfl rfl (Or.inl ⟨rfl, fl_Sh_22⟩) d_Sh_closeText_54 rfl, ?_⟩
  refine ⟨so_aloadn d_Sh_closeText_57 rfl rfl, ?_⟩
  refine ⟨so_dup d_Sh_closeText_58 rfl, ?_⟩
  refine ⟨so_geti (ci := 1) (k := 3) rfl (by decide) rfl rfl fl_Sh_32 d_Sh_closeText_59 rfl, ?_⟩
  refine ⟨so_const1 d_Sh_closeText_62 (by decide) rfl, ?_⟩
  refine ⟨so_iadd d_Sh_closeText_63 rfl, ?_⟩
  refine ⟨so_puti (ci := 1) (k := 3) rfl (by decide) rfl rfl (Or.inl ⟨rfl, fl_Sh_32⟩) d_Sh_closeText_64 rfl, ?_⟩
  refine ⟨so_aloadn d_Sh_closeText_67 rfl rfl, ?_⟩
  refine ⟨so_geti (ci := 1) (k := 3) rfl (by decide) rfl rfl fl_Sh_32 d_Sh_closeText_68 rfl, ?_⟩
  refine ⟨so_const1 d_Sh_closeText_71 (by decide) rfl, ?_⟩
  refine ⟨so_isub d_Sh_closeText_72 rfl, ?_⟩
  refine ⟨so_iret d_Sh_closeText_73 rfl, ?_⟩
  exact trivial
theorem d_Sh_setGuard_0 : decode prog_7_method_6_code 0 = .ok (.iload_n 1, 1) := by decide +kernel
theorem d_Sh_setGuard_1 : decode prog_7_method_6_code 1 = .ok (.bipush 8, 2) := by decide +kernel
theorem d_Sh_setGuard_3 : decode prog_7_method_6_code 3 = .ok (.invokestatic 36, 3) := by decide +kernel
theorem d_Sh_setGuard_6 : decode prog_7_method_6_code 6 = .ok (.ifCond .eq 16, 3) := by decide +kernel
theorem d_Sh_setGuard_9 : decode prog_7_method_6_code 9 = .ok (.iload_n 2, 1) := by decide +kernel
theorem d_Sh_setGuard_10 : decode prog_7_method_6_code 10 = .ok (.iconst (-1), 1) := by decide +kernel
theorem d_Sh_setGuard_11 : decode prog_7_method_6_code 11 = .ok (.if_icmp .eq 13, 3) := by decide +kernel
theorem d_Sh_setGuard_14 : decode prog_7_method_6_code 14 = .ok (.iload_n 2, 1) := by decide +kernel
theorem d_Sh_setGuard_15 : decode prog_7_method_6_code 15 = .ok (.iconst 4, 1) := by decide +kernel
theorem d_Sh_setGuard_16 : decode prog_7_method_6_code 16 = .ok (.invokestatic 36, 3) := by decide +kernel
theorem d_Sh_setGuard_19 : decode prog_7_method_6_code 19 = .ok (.ifCond .ne 5, 3) := by decide +kernel
theorem d_Sh_setGuard_22 : decode prog_7_method_6_code 22 = .ok (.iconst 0, 1) := by decide +kernel
theorem d_Sh_setGuard_23 : decode prog_7_method_6_code 23 = .ok (.ireturn, 1) := by decide +kernel
theorem d_Sh_setGuard_24 : decode prog_7_method_6_code 24 = .ok (.aload_n 0, 1) := by decide +kernel
theorem d_Sh_setGuard_25 : decode prog_7_method_6_code 25 = .ok (.getfield 17, 3) := by decide +kernel
theorem d_Sh_setGuard_28 : decode prog_7_method_6_code 28 = .ok (.iload_n 1, 1) := by decide +kernel
theorem d_Sh_setGuard_29 : decode prog_7_method_6_code 29 = .ok (.iload_n 2, 1) := by decide +kernel
theorem d_Sh_setGuard_30 : decode prog_7_method_6_code 30 = .ok (.iastore, 1) := by decide +kernel
theorem d_Sh_setGuard_31 : decode prog_7_method_6_code 31 = .ok (.iconst 1, 1) := by decide +kernel
theorem d_Sh_setGuard_32 : decode prog_7_method_6_code 32 = .ok (.ireturn, 1) := by decide +kernel
def tb_Sh_setGuard : List pm_I := [
  pm_iload 1 1,
  pm_const 2 8,
  pm_calls 3 2 2,
  pm_if 11 4 (fun a => decide (a = 0)),
  pm_iload 5 2,
  pm_const 6 (-1),
  pm_icmp 13 7 (fun a b => decide (a = b)),
  pm_iload 8 2,
  pm_const 9 4,
  pm_calls 10 2 2,
  pm_if 13 11 (fun a => decide (a ≠ 0)),
  pm_const 12 0,
  pm_zret,
  pm_aload 14 0,
  pm_getr 15 1 1,
  pm_iload 16 1,
  pm_iload 17 2,
  pm_iast 18,
  pm_const 19 1,
  pm_zret]
def bp_Sh_setGuard : List Nat := [0, 1, 3, 6, 9, 10, 11, 14, 15, 16, 19, 22, 23, 24, 25, 28, 29, 30, 31, 32]
set_option maxRecDepth 100000 in
theorem sd_Sh_setGuard : pm_Sl prog_7_method_6_code 3 R_Sh "setGuard" (some .boolean) pm_Y (pm_b bp_Sh_setGuard) 0 tb_Sh_setGuard := by
  refine ⟨so_iloadn d_Sh_setGuard_0 rfl rfl, ?_⟩
  refine ⟨so_const2 d_Sh_setGuard_1 (by decide) rfl, ?_⟩
  refine ⟨so_calls rfl mc_Lo_isBelow mi_Lo mt_Lo_isBelow ml_Sh_36 yd_Lo_isBelow (by decide) d_Sh_setGuard_3 rfl, ?_⟩
  refine ⟨so_if_eq d_Sh_setGuard_6 rfl rfl, ?_⟩
  refine ⟨so_iloadn d_Sh_setGuard_9 rfl rfl, ?_⟩
  refine ⟨so_const1 d_Sh_setGuard_10 (by decide) rfl, ?_⟩
  refine ⟨so_icmp_eq d_Sh_setGuard_11 rfl rfl, ?_⟩
  refine ⟨so_iloadn d_Sh_setGuard_14 rfl rfl, ?_⟩
  refine ⟨so_const1 d_Sh_setGuard_15 (by decide) rfl, ?_⟩
  refine ⟨so_calls rfl mc_Lo_isBelow mi_Lo mt_Lo_isBelow ml_Sh_36 yd_Lo_isBelow (by decide) d_Sh_setGuard_16 rfl, ?_⟩
  refine ⟨so_if_ne d_Sh_setGuard_19 rfl rfl, ?_⟩
  refine ⟨so_const1 d_Sh_setGuard_22 (by decide) rfl, ?_⟩
  refine ⟨so_zret d_Sh_setGuard_23 rfl, ?_⟩
  refine ⟨so_aloadn d_Sh_setGuard_24 rfl rfl, ?_⟩
  refine ⟨so_getr (ci := 1) (k := 1) rfl (by decide) rfl rfl fl_Sh_17 d_Sh_setGuard_25 rfl, ?_⟩
  refine ⟨so_iloadn d_Sh_setGuard_28 rfl rfl, ?_⟩
  refine ⟨so_iloadn d_Sh_setGuard_29 rfl rfl, ?_⟩
  refine ⟨so_iast d_Sh_setGuard_30 rfl, ?_⟩
  refine ⟨so_const1 d_Sh_setGuard_31 (by decide) rfl, ?_⟩
  refine ⟨so_zret d_Sh_setGuard_32 rfl, ?_⟩
  exact trivial
theorem d_Sh_contains_0 : decode prog_7_method_2_code 0 = .ok (.iload_n 1, 1) := by decide +kernel
theorem d_Sh_contains_1 : decode prog_7_method_2_code 1 = .ok (.aload_n 0, 1) := by decide +kernel
theorem d_Sh_contains_2 : decode prog_7_method_2_code 2 = .ok (.getfield 32, 3) := by decide +kernel
theorem d_Sh_contains_5 : decode prog_7_method_2_code 5 = .ok (.invokestatic 36, 3) := by decide +kernel
theorem d_Sh_contains_8 : decode prog_7_method_2_code 8 = .ok (.ireturn, 1) := by decide +kernel
def tb_Sh_contains : List pm_I := [
  pm_iload 1 1,
  pm_aload 2 0,
  pm_geti 3 1 3,
  pm_calls 4 2 2,
  pm_zret]
def bp_Sh_contains : List Nat := [0, 1, 2, 5, 8]
set_option maxRecDepth 100000 in
theorem sd_Sh_contains : pm_Sl prog_7_method_2_code 2 R_Sh "contains" (some .boolean) pm_Y (pm_b bp_Sh_contains) 0 tb_Sh_contains := by
  refine ⟨so_iloadn d_Sh_contains_0 rfl rfl, ?_⟩
  refine ⟨so_aloadn d_Sh_contains_1 rfl rfl, ?_⟩
  refine ⟨so_geti (ci := 1) (k := 3) rfl (by decide) rfl rfl fl_Sh_32 d_Sh_contains_2 rfl, ?_⟩
  refine ⟨so_calls rfl mc_Lo_isBelow mi_Lo mt_Lo_isBelow ml_Sh_36 yd_Lo_isBelow (by decide) d_Sh_contains_5 rfl, ?_⟩
  refine ⟨so_zret d_Sh_contains_8 rfl, ?_⟩
  exact trivial
theorem d_Sh_firstWrong_0 : decode prog_7_method_7_code 0 = .ok (.aload_n 0, 1) := by decide +kernel
theorem d_Sh_firstWrong_1 : decode prog_7_method_7_code 1 = .ok (.getfield 11, 3) := by decide +kernel
theorem d_Sh_firstWrong_4 : decode prog_7_method_7_code 4 = .ok (.iload_n 1, 1) := by decide +kernel
theorem d_Sh_firstWrong_5 : decode prog_7_method_7_code 5 = .ok (.aaload, 1) := by decide +kernel
theorem d_Sh_firstWrong_6 : decode prog_7_method_7_code 6 = .ok (.astore_n 2, 1) := by decide +kernel
theorem d_Sh_firstWrong_7 : decode prog_7_method_7_code 7 = .ok (.iconst 0, 1) := by decide +kernel
theorem d_Sh_firstWrong_8 : decode prog_7_method_7_code 8 = .ok (.istore_n 3, 1) := by decide +kernel
theorem d_Sh_firstWrong_9 : decode prog_7_method_7_code 9 = .ok (.iload_n 3, 1) := by decide +kernel
theorem d_Sh_firstWrong_10 : decode prog_7_method_7_code 10 = .ok (.aload_n 2, 1) := by decide +kernel
theorem d_Sh_firstWrong_11 : decode prog_7_method_7_code 11 = .ok (.getfield 54, 3) := by decide +kernel
theorem d_Sh_firstWrong_14 : decode prog_7_method_7_code 14 = .ok (.if_icmp .ge 20, 3) := by decide +kernel
theorem d_Sh_firstWrong_17 : decode prog_7_method_7_code 17 = .ok (.aload_n 0, 1) := by decide +kernel
theorem d_Sh_firstWrong_18 : decode prog_7_method_7_code 18 = .ok (.aload_n 2, 1) := by decide +kernel
theorem d_Sh_firstWrong_19 : decode prog_7_method_7_code 19 = .ok (.iload_n 3, 1) := by decide +kernel
theorem d_Sh_firstWrong_20 : decode prog_7_method_7_code 20 = .ok (.invokevirtual 57, 3) := by decide +kernel
theorem d_Sh_firstWrong_23 : decode prog_7_method_7_code 23 = .ok (.ifCond .ne 5, 3) := by decide +kernel
theorem d_Sh_firstWrong_26 : decode prog_7_method_7_code 26 = .ok (.iload_n 3, 1) := by decide +kernel
theorem d_Sh_firstWrong_27 : decode prog_7_method_7_code 27 = .ok (.ireturn, 1) := by decide +kernel
theorem d_Sh_firstWrong_28 : decode prog_7_method_7_code 28 = .ok (.iinc 3 1, 3) := by decide +kernel
theorem d_Sh_firstWrong_31 : decode prog_7_method_7_code 31 = .ok (.goto (-22), 3) := by decide +kernel
theorem d_Sh_firstWrong_34 : decode prog_7_method_7_code 34 = .ok (.aload_n 2, 1) := by decide +kernel
theorem d_Sh_firstWrong_35 : decode prog_7_method_7_code 35 = .ok (.getfield 54, 3) := by decide +kernel
theorem d_Sh_firstWrong_38 : decode prog_7_method_7_code 38 = .ok (.ireturn, 1) := by decide +kernel
def tb_Sh_firstWrong : List pm_I := [
  pm_aload 1 0,
  pm_getr 2 1 0,
  pm_iload 3 1,
  pm_aald 4 2,
  pm_astore 5 2,
  pm_const 6 0,
  pm_istore 7 3,
  pm_iload 8 3,
  pm_aload 9 2,
  pm_geti 10 2 4,
  pm_icmp 20 11 (fun a b => decide (b ≤ a)),
  pm_aload 12 0,
  pm_aload 13 2,
  pm_iload 14 3,
  pm_callv 15 23 3 1,
  pm_if 18 16 (fun a => decide (a ≠ 0)),
  pm_iload 17 3,
  pm_iret,
  pm_iinc 19 3 1,
  pm_goto 7,
  pm_aload 21 2,
  pm_geti 22 2 4,
  pm_iret]
def bp_Sh_firstWrong : List Nat := [0, 1, 4, 5, 6, 7, 8, 9, 10, 11, 14, 17, 18, 19, 20, 23, 26, 27, 28, 31, 34, 35, 38]
set_option maxRecDepth 100000 in
theorem sd_Sh_firstWrong : pm_Sl prog_7_method_7_code 4 R_Sh "firstWrong" (some .int) pm_Y (pm_b bp_Sh_firstWrong) 0 tb_Sh_firstWrong := by
  refine ⟨so_aloadn d_Sh_firstWrong_0 rfl rfl, ?_⟩
  refine ⟨so_getr (ci := 1) (k := 0) rfl (by decide) rfl rfl fl_Sh_11 d_Sh_firstWrong_1 rfl, ?_⟩
  refine ⟨so_iloadn d_Sh_firstWrong_4 rfl rfl, ?_⟩
  refine ⟨so_aald rfl (by decide) (fun _ => rfl) d_Sh_firstWrong_5 rfl, ?_⟩
  refine ⟨so_astoren d_Sh_firstWrong_6 rfl (by decide) rfl, ?_⟩
  refine ⟨so_const1 d_Sh_firstWrong_7 (by decide) rfl, ?_⟩
  refine ⟨so_istoren d_Sh_firstWrong_8 rfl (by decide) rfl, ?_⟩
  refine ⟨so_iloadn d_Sh_firstWrong_9 rfl rfl, ?_⟩
  refine ⟨so_aloadn d_Sh_firstWrong_10 rfl rfl, ?_⟩
  refine ⟨so_geti (ci := 2) (k := 4) rfl (by decide) rfl rfl fl_Sh_54 d_Sh_firstWrong_11 rfl, ?_⟩
  refine ⟨so_icmp_ge d_Sh_firstWrong_14 rfl rfl, ?_⟩
  refine ⟨so_aloadn d_Sh_firstWrong_17 rfl rfl, ?_⟩
  refine ⟨so_aloadn d_Sh_firstWrong_18 rfl rfl, ?_⟩
  refine ⟨so_iloadn d_Sh_firstWrong_19 rfl rfl, ?_⟩
  refine ⟨so_callv (ci := 1) rfl rfl mc_Sh_isRight mi_Sh mj_Sh_isRight ms_Sh_isRight ml_Sh_57 yd_Sh_isRight (by decide) d_Sh_firstWrong_20 rfl, ?_⟩
  refine ⟨so_if_ne d_Sh_firstWrong_23 rfl rfl, ?_⟩
  refine ⟨so_iloadn d_Sh_firstWrong_26 rfl rfl, ?_⟩
  refine ⟨so_iret d_Sh_firstWrong_27 rfl, ?_⟩
  refine ⟨so_iinc d_Sh_firstWrong_28 (by decide) (by decide) rfl, ?_⟩
  refine ⟨so_goto d_Sh_firstWrong_31 rfl, ?_⟩
  refine ⟨so_aloadn d_Sh_firstWrong_34 rfl rfl, ?_⟩
  refine ⟨so_geti (ci := 2) (k := 4) rfl (by decide) rfl rfl fl_Sh_54 d_Sh_firstWrong_35 rfl, ?_⟩
  refine ⟨so_iret d_Sh_firstWrong_38 rfl, ?_⟩
  exact trivial
theorem d_Sh_isRight_0 : decode prog_7_method_9_code 0 = .ok (.aload_n 1, 1) := by decide +kernel
theorem d_Sh_isRight_1 : decode prog_7_method_9_code 1 = .ok (.getfield 65, 3) := by decide +kernel
theorem d_Sh_isRight_4 : decode prog_7_method_9_code 4 = .ok (.iload_n 2, 1) := by decide +kernel
theorem d_Sh_isRight_5 : decode prog_7_method_9_code 5 = .ok (.iaload, 1) := by decide +kernel
theorem d_Sh_isRight_6 : decode prog_7_method_9_code 6 = .ok (.istore_n 3, 1) := by decide +kernel
theorem d_Sh_isRight_7 : decode prog_7_method_9_code 7 = .ok (.aload_n 1, 1) := by decide +kernel
theorem d_Sh_isRight_8 : decode prog_7_method_9_code 8 = .ok (.getfield 68, 3) := by decide +kernel
theorem d_Sh_isRight_11 : decode prog_7_method_9_code 11 = .ok (.iload_n 2, 1) := by decide +kernel
theorem d_Sh_isRight_12 : decode prog_7_method_9_code 12 = .ok (.iaload, 1) := by decide +kernel
theorem d_Sh_isRight_13 : decode prog_7_method_9_code 13 = .ok (.istore 4, 2) := by decide +kernel
theorem d_Sh_isRight_15 : decode prog_7_method_9_code 15 = .ok (.aload_n 1, 1) := by decide +kernel
theorem d_Sh_isRight_16 : decode prog_7_method_9_code 16 = .ok (.getfield 71, 3) := by decide +kernel
theorem d_Sh_isRight_19 : decode prog_7_method_9_code 19 = .ok (.iload_n 2, 1) := by decide +kernel
theorem d_Sh_isRight_20 : decode prog_7_method_9_code 20 = .ok (.iaload, 1) := by decide +kernel
theorem d_Sh_isRight_21 : decode prog_7_method_9_code 21 = .ok (.lookupswitch 152 #[(0, 43), (1, 69), (9, 95), (10, 121)], 43) := by decide +kernel
theorem d_Sh_isRight_64 : decode prog_7_method_9_code 64 = .ok (.aload_n 0, 1) := by decide +kernel
theorem d_Sh_isRight_65 : decode prog_7_method_9_code 65 = .ok (.getfield 17, 3) := by decide +kernel
theorem d_Sh_isRight_68 : decode prog_7_method_9_code 68 = .ok (.iload_n 3, 1) := by decide +kernel
theorem d_Sh_isRight_69 : decode prog_7_method_9_code 69 = .ok (.iaload, 1) := by decide +kernel
theorem d_Sh_isRight_70 : decode prog_7_method_9_code 70 = .ok (.iconst (-1), 1) := by decide +kernel
theorem d_Sh_isRight_71 : decode prog_7_method_9_code 71 = .ok (.if_icmp .eq 13, 3) := by decide +kernel
theorem d_Sh_isRight_74 : decode prog_7_method_9_code 74 = .ok (.aload_n 0, 1) := by decide +kernel
theorem d_Sh_isRight_75 : decode prog_7_method_9_code 75 = .ok (.iload_n 3, 1) := by decide +kernel
theorem d_Sh_isRight_76 : decode prog_7_method_9_code 76 = .ok (.iload 4, 2) := by decide +kernel
theorem d_Sh_isRight_78 : decode prog_7_method_9_code 78 = .ok (.invokevirtual 74, 3) := by decide +kernel
theorem d_Sh_isRight_81 : decode prog_7_method_9_code 81 = .ok (.ifCond .eq 7, 3) := by decide +kernel
theorem d_Sh_isRight_84 : decode prog_7_method_9_code 84 = .ok (.iconst 1, 1) := by decide +kernel
theorem d_Sh_isRight_85 : decode prog_7_method_9_code 85 = .ok (.goto 4, 3) := by decide +kernel
theorem d_Sh_isRight_88 : decode prog_7_method_9_code 88 = .ok (.iconst 0, 1) := by decide +kernel
theorem d_Sh_isRight_89 : decode prog_7_method_9_code 89 = .ok (.ireturn, 1) := by decide +kernel
theorem d_Sh_isRight_90 : decode prog_7_method_9_code 90 = .ok (.aload_n 0, 1) := by decide +kernel
theorem d_Sh_isRight_91 : decode prog_7_method_9_code 91 = .ok (.getfield 17, 3) := by decide +kernel
theorem d_Sh_isRight_94 : decode prog_7_method_9_code 94 = .ok (.iload_n 3, 1) := by decide +kernel
theorem d_Sh_isRight_95 : decode prog_7_method_9_code 95 = .ok (.iaload, 1) := by decide +kernel
theorem d_Sh_isRight_96 : decode prog_7_method_9_code 96 = .ok (.iconst (-1), 1) := by decide +kernel
theorem d_Sh_isRight_97 : decode prog_7_method_9_code 97 = .ok (.if_icmp .eq 17, 3) := by decide +kernel
theorem d_Sh_isRight_100 : decode prog_7_method_9_code 100 = .ok (.aload_n 0, 1) := by decide +kernel
theorem d_Sh_isRight_101 : decode prog_7_method_9_code 101 = .ok (.iload_n 3, 1) := by decide +kernel
theorem d_Sh_isRight_102 : decode prog_7_method_9_code 102 = .ok (.iload 4, 2) := by decide +kernel
theorem d_Sh_isRight_104 : decode prog_7_method_9_code 104 = .ok (.invokevirtual 74, 3) := by decide +kernel
theorem d_Sh_isRight_107 : decode prog_7_method_9_code 107 = .ok (.ifCond .eq 7, 3) := by decide +kernel
theorem d_Sh_isRight_110 : decode prog_7_method_9_code 110 = .ok (.iconst 1, 1) := by decide +kernel
theorem d_Sh_isRight_111 : decode prog_7_method_9_code 111 = .ok (.goto 4, 3) := by decide +kernel
theorem d_Sh_isRight_114 : decode prog_7_method_9_code 114 = .ok (.iconst 0, 1) := by decide +kernel
theorem d_Sh_isRight_115 : decode prog_7_method_9_code 115 = .ok (.ireturn, 1) := by decide +kernel
theorem d_Sh_isRight_116 : decode prog_7_method_9_code 116 = .ok (.aload_n 0, 1) := by decide +kernel
theorem d_Sh_isRight_117 : decode prog_7_method_9_code 117 = .ok (.iload_n 3, 1) := by decide +kernel
theorem d_Sh_isRight_118 : decode prog_7_method_9_code 118 = .ok (.invokevirtual 77, 3) := by decide +kernel
theorem d_Sh_isRight_121 : decode prog_7_method_9_code 121 = .ok (.ifCond .eq 19, 3) := by decide +kernel
theorem d_Sh_isRight_124 : decode prog_7_method_9_code 124 = .ok (.aload_n 0, 1) := by decide +kernel
theorem d_Sh_isRight_125 : decode prog_7_method_9_code 125 = .ok (.getfield 11, 3) := by decide +kernel
theorem d_Sh_isRight_128 : decode prog_7_method_9_code 128 = .ok (.iload_n 3, 1) := by decide +kernel
theorem d_Sh_isRight_129 : decode prog_7_method_9_code 129 = .ok (.aaload, 1) := by decide +kernel
theorem d_Sh_isRight_130 : decode prog_7_method_9_code 130 = .ok (.getfield 80, 3) := by decide +kernel
theorem d_Sh_isRight_133 : decode prog_7_method_9_code 133 = .ok (.ifCond .ne 7, 3) := by decide +kernel
theorem d_Sh_isRight_136 : decode prog_7_method_9_code 136 = .ok (.iconst 1, 1) := by decide +kernel
theorem d_Sh_isRight_137 : decode prog_7_method_9_code 137 = .ok (.goto 4, 3) := by decide +kernel
theorem d_Sh_isRight_140 : decode prog_7_method_9_code 140 = .ok (.iconst 0, 1) := by decide +kernel
theorem d_Sh_isRight_141 : decode prog_7_method_9_code 141 = .ok (.ireturn, 1) := by decide +kernel
theorem d_Sh_isRight_142 : decode prog_7_method_9_code 142 = .ok (.aload_n 0, 1) := by decide +kernel
theorem d_Sh_isRight_143 : decode prog_7_method_9_code 143 = .ok (.iload_n 3, 1) := by decide +kernel
theorem d_Sh_isRight_144 : decode prog_7_method_9_code 144 = .ok (.invokevirtual 77, 3) := by decide +kernel
theorem d_Sh_isRight_147 : decode prog_7_method_9_code 147 = .ok (.ifCond .eq 24, 3) := by decide +kernel
theorem d_Sh_isRight_150 : decode prog_7_method_9_code 150 = .ok (.aload_n 0, 1) := by decide +kernel
theorem d_Sh_isRight_151 : decode prog_7_method_9_code 151 = .ok (.getfield 11, 3) := by decide +kernel
theorem d_Sh_isRight_154 : decode prog_7_method_9_code 154 = .ok (.iload_n 3, 1) := by decide +kernel
theorem d_Sh_isRight_155 : decode prog_7_method_9_code 155 = .ok (.aaload, 1) := by decide +kernel
theorem d_Sh_isRight_156 : decode prog_7_method_9_code 156 = .ok (.getfield 80, 3) := by decide +kernel
theorem d_Sh_isRight_159 : decode prog_7_method_9_code 159 = .ok (.iload 4, 2) := by decide +kernel
theorem d_Sh_isRight_161 : decode prog_7_method_9_code 161 = .ok (.iconst (-1), 1) := by decide +kernel
theorem d_Sh_isRight_162 : decode prog_7_method_9_code 162 = .ok (.ixor, 1) := by decide +kernel
theorem d_Sh_isRight_163 : decode prog_7_method_9_code 163 = .ok (.iand, 1) := by decide +kernel
theorem d_Sh_isRight_164 : decode prog_7_method_9_code 164 = .ok (.ifCond .ne 7, 3) := by decide +kernel
theorem d_Sh_isRight_167 : decode prog_7_method_9_code 167 = .ok (.iconst 1, 1) := by decide +kernel
theorem d_Sh_isRight_168 : decode prog_7_method_9_code 168 = .ok (.goto 4, 3) := by decide +kernel
theorem d_Sh_isRight_171 : decode prog_7_method_9_code 171 = .ok (.iconst 0, 1) := by decide +kernel
theorem d_Sh_isRight_172 : decode prog_7_method_9_code 172 = .ok (.ireturn, 1) := by decide +kernel
theorem d_Sh_isRight_173 : decode prog_7_method_9_code 173 = .ok (.iconst 1, 1) := by decide +kernel
theorem d_Sh_isRight_174 : decode prog_7_method_9_code 174 = .ok (.ireturn, 1) := by decide +kernel
def tb_Sh_isRight : List pm_I := [
  pm_aload 1 1,
  pm_getr 2 2 1,
  pm_iload 3 2,
  pm_iald 4 0,
  pm_istore 5 3,
  pm_aload 6 1,
  pm_getr 7 2 3,
  pm_iload 8 2,
  pm_iald 9 0,
  pm_istore 10 4,
  pm_aload 11 1,
  pm_getr 12 2 0,
  pm_iload 13 2,
  pm_iald 14 0,
  pm_sw [(0, 15), (1, 30), (9, 45), (10, 59)] 77,
  pm_aload 16 0,
  pm_getr 17 1 1,
  pm_iload 18 3,
  pm_iald 19 0,
  pm_const 20 (-1),
  pm_icmp 26 21 (fun a b => decide (a = b)),
  pm_aload 22 0,
  pm_iload 23 3,
  pm_iload 24 4,
  pm_callv 25 24 3 1,
  pm_if 28 26 (fun a => decide (a = 0)),
  pm_const 27 1,
  pm_goto 29,
  pm_const 29 0,
  pm_zret,
  pm_aload 31 0,
  pm_getr 32 1 1,
  pm_iload 33 3,
  pm_iald 34 0,
  pm_const 35 (-1),
  pm_icmp 43 36 (fun a b => decide (a = b)),
  pm_aload 37 0,
  pm_iload 38 3,
  pm_iload 39 4,
  pm_callv 40 24 3 1,
  pm_if 43 41 (fun a => decide (a = 0)),
  pm_const 42 1,
  pm_goto 44,
  pm_const 44 0,
  pm_zret,
  pm_aload 46 0,
  pm_iload 47 3,
  pm_callv 48 21 2 1,
  pm_if 57 49 (fun a => decide (a = 0)),
  pm_aload 50 0,
  pm_getr 51 1 0,
  pm_iload 52 3,
  pm_aald 53 2,
  pm_geti 54 2 5,
  pm_if 57 55 (fun a => decide (a ≠ 0)),
  pm_const 56 1,
  pm_goto 58,
  pm_const 58 0,
  pm_zret,
  pm_aload 60 0,
  pm_iload 61 3,
  pm_callv 62 21 2 1,
  pm_if 75 63 (fun a => decide (a = 0)),
  pm_aload 64 0,
  pm_getr 65 1 0,
  pm_iload 66 3,
  pm_aald 67 2,
  pm_geti 68 2 5,
  pm_iload 69 4,
  pm_const 70 (-1),
  pm_bin 71 (fun a b => a ^^^ b),
  pm_bin 72 (fun a b => a &&& b),
  pm_if 75 73 (fun a => decide (a ≠ 0)),
  pm_const 74 1,
  pm_goto 76,
  pm_const 76 0,
  pm_zret,
  pm_const 78 1,
  pm_zret]
def bp_Sh_isRight : List Nat := [0, 1, 4, 5, 6, 7, 8, 11, 12, 13, 15, 16, 19, 20, 21, 64, 65, 68, 69, 70, 71, 74, 75, 76, 78, 81, 84, 85, 88, 89, 90, 91, 94, 95, 96, 97, 100, 101, 102, 104, 107, 110, 111, 114, 115, 116, 117, 118, 121, 124, 125, 128, 129, 130, 133, 136, 137, 140, 141, 142, 143, 144, 147, 150, 151, 154, 155, 156, 159, 161, 162, 163, 164, 167, 168, 171, 172, 173, 174]
set_option maxRecDepth 100000 in
theorem sd_Sh_isRight : pm_Sl prog_7_method_9_code 5 R_Sh "isRight" (some .boolean) pm_Y (pm_b bp_Sh_isRight) 0 tb_Sh_isRight := by
  refine ⟨so_aloadn d_Sh_isRight_0 rfl rfl, ?_⟩
  refine ⟨so_getr (ci := 2) (k := 1) rfl (by decide) rfl rfl fl_Sh_65 d_Sh_isRight_1 rfl, ?_⟩
  refine ⟨so_iloadn d_Sh_isRight_4 rfl rfl, ?_⟩
  refine ⟨so_iald d_Sh_isRight_5 rfl, ?_⟩
  refine ⟨so_istoren d_Sh_isRight_6 rfl (by decide) rfl, ?_⟩
  refine ⟨so_aloadn d_Sh_isRight_7 rfl rfl, ?_⟩
  refine ⟨so_getr (ci := 2) (k := 3) rfl (by decide) rfl rfl fl_Sh_68 d_Sh_isRight_8 rfl, ?_⟩
  refine ⟨so_iloadn d_Sh_isRight_11 rfl rfl, ?_⟩
  refine ⟨so_iald d_Sh_isRight_12 rfl, ?_⟩
  refine ⟨so_istore d_Sh_isRight_13 (by decide) rfl, ?_⟩
  refine ⟨so_aloadn d_Sh_isRight_15 rfl rfl, ?_⟩
  refine ⟨so_getr (ci := 2) (k := 0) rfl (by decide) rfl rfl fl_Sh_71 d_Sh_isRight_16 rfl, ?_⟩
  refine ⟨so_iloadn d_Sh_isRight_19 rfl rfl, ?_⟩
  refine ⟨so_iald d_Sh_isRight_20 rfl, ?_⟩
  refine ⟨so_lsw d_Sh_isRight_21 (by decide +kernel) (by decide +kernel) rfl, ?_⟩
  refine ⟨so_aloadn d_Sh_isRight_64 rfl rfl, ?_⟩
  refine ⟨so_getr (ci := 1) (k := 1) rfl (by decide) rfl rfl fl_Sh_17 d_Sh_isRight_65 rfl, ?_⟩
  refine ⟨so_iloadn d_Sh_isRight_68 rfl rfl, ?_⟩
  refine ⟨so_iald d_Sh_isRight_69 rfl, ?_⟩
  refine ⟨so_const1 d_Sh_isRight_70 (by decide) rfl, ?_⟩
  refine ⟨so_icmp_eq d_Sh_isRight_71 rfl rfl, ?_⟩
  refine ⟨so_aloadn d_Sh_isRight_74 rfl rfl, ?_⟩
  refine ⟨so_iloadn d_Sh_isRight_75 rfl rfl, ?_⟩
  refine ⟨so_iload d_Sh_isRight_76 rfl, ?_⟩
  refine ⟨so_callv (ci := 1) rfl rfl mc_Sh_guardHeld mi_Sh mj_Sh_guardHeld ms_Sh_guardHeld ml_Sh_74 yd_Sh_guardHeld (by decide) d_Sh_isRight_78 rfl, ?_⟩
  refine ⟨so_if_eq d_Sh_isRight_81 rfl rfl, ?_⟩
  refine ⟨so_const1 d_Sh_isRight_84 (by decide) rfl, ?_⟩
  refine ⟨so_goto d_Sh_isRight_85 rfl, ?_⟩
  refine ⟨so_const1 d_Sh_isRight_88 (by decide) rfl, ?_⟩
  refine ⟨so_zret d_Sh_isRight_89 rfl, ?_⟩
  refine ⟨so_aloadn d_Sh_isRight_90 rfl rfl, ?_⟩
  refine ⟨so_getr (ci := 1) (k := 1) rfl (by decide) rfl rfl fl_Sh_17 d_Sh_isRight_91 rfl, ?_⟩
  refine ⟨so_iloadn d_Sh_isRight_94 rfl rfl, ?_⟩
  refine ⟨so_iald d_Sh_isRight_95 rfl, ?_⟩
  refine ⟨so_const1 d_Sh_isRight_96 (by decide) rfl, ?_⟩
  refine ⟨so_icmp_eq d_Sh_isRight_97 rfl rfl, ?_⟩
  refine ⟨so_aloadn d_Sh_isRight_100 rfl rfl, ?_⟩
  refine ⟨so_iloadn d_Sh_isRight_101 rfl rfl, ?_⟩
  refine ⟨so_iload d_Sh_isRight_102 rfl, ?_⟩
  refine ⟨so_callv (ci := 1) rfl rfl mc_Sh_guardHeld mi_Sh mj_Sh_guardHeld ms_Sh_guardHeld ml_Sh_74 yd_Sh_guardHeld (by decide) d_Sh_isRight_104 rfl, ?_⟩
  refine ⟨so_if_eq d_Sh_isRight_107 rfl rfl, ?_⟩
  refine ⟨so_const1 d_Sh_isRight_110 (by decide) rfl, ?_⟩
  refine ⟨so_goto d_Sh_isRight_111 rfl, ?_⟩
  refine ⟨so_const1 d_Sh_isRight_114 (by decide) rfl, ?_⟩
  refine ⟨so_zret d_Sh_isRight_115 rfl, ?_⟩
  refine ⟨so_aloadn d_Sh_isRight_116 rfl rfl, ?_⟩
  refine ⟨so_iloadn d_Sh_isRight_117 rfl rfl, ?_⟩
  refine ⟨so_callv (ci := 1) rfl rfl mc_Sh_contains mi_Sh mj_Sh_contains ms_Sh_contains ml_Sh_77 yd_Sh_contains (by decide) d_Sh_isRight_118 rfl, ?_⟩
  refine ⟨so_if_eq d_Sh_isRight_121 rfl rfl, ?_⟩
  refine ⟨so_aloadn d_Sh_isRight_124 rfl rfl, ?_⟩
  refine ⟨so_getr (ci := 1) (k := 0) rfl (by decide) rfl rfl fl_Sh_11 d_Sh_isRight_125 rfl, ?_⟩
  refine ⟨so_iloadn d_Sh_isRight_128 rfl rfl, ?_⟩
  refine ⟨so_aald rfl (by decide) (fun _ => rfl) d_Sh_isRight_129 rfl, ?_⟩
  refine ⟨so_geti (ci := 2) (k := 5) rfl (by decide) rfl rfl fl_Sh_80 d_Sh_isRight_130 rfl, ?_⟩
  refine ⟨so_if_ne d_Sh_isRight_133 rfl rfl, ?_⟩
  refine ⟨so_const1 d_Sh_isRight_136 (by decide) rfl, ?_⟩
  refine ⟨so_goto d_Sh_isRight_137 rfl, ?_⟩
  refine ⟨so_const1 d_Sh_isRight_140 (by decide) rfl, ?_⟩
  refine ⟨so_zret d_Sh_isRight_141 rfl, ?_⟩
  refine ⟨so_aloadn d_Sh_isRight_142 rfl rfl, ?_⟩
  refine ⟨so_iloadn d_Sh_isRight_143 rfl rfl, ?_⟩
  refine ⟨so_callv (ci := 1) rfl rfl mc_Sh_contains mi_Sh mj_Sh_contains ms_Sh_contains ml_Sh_77 yd_Sh_contains (by decide) d_Sh_isRight_144 rfl, ?_⟩
  refine ⟨so_if_eq d_Sh_isRight_147 rfl rfl, ?_⟩
  refine ⟨so_aloadn d_Sh_isRight_150 rfl rfl, ?_⟩
  refine ⟨so_getr (ci := 1) (k := 0) rfl (by decide) rfl rfl fl_Sh_11 d_Sh_isRight_151 rfl, ?_⟩
  refine ⟨so_iloadn d_Sh_isRight_154 rfl rfl, ?_⟩
  refine ⟨so_aald rfl (by decide) (fun _ => rfl) d_Sh_isRight_155 rfl, ?_⟩
  refine ⟨so_geti (ci := 2) (k := 5) rfl (by decide) rfl rfl fl_Sh_80 d_Sh_isRight_156 rfl, ?_⟩
  refine ⟨so_iload d_Sh_isRight_159 rfl, ?_⟩
  refine ⟨so_const1 d_Sh_isRight_161 (by decide) rfl, ?_⟩
  refine ⟨so_ixor d_Sh_isRight_162 rfl, ?_⟩
  refine ⟨so_iand d_Sh_isRight_163 rfl, ?_⟩
  refine ⟨so_if_ne d_Sh_isRight_164 rfl rfl, ?_⟩
  refine ⟨so_const1 d_Sh_isRight_167 (by decide) rfl, ?_⟩
  refine ⟨so_goto d_Sh_isRight_168 rfl, ?_⟩
  refine ⟨so_const1 d_Sh_isRight_171 (by decide) rfl, ?_⟩
  refine ⟨so_zret d_Sh_isRight_172 rfl, ?_⟩
  refine ⟨so_const1 d_Sh_isRight_173 (by decide) rfl, ?_⟩
  refine ⟨so_zret d_Sh_isRight_174 rfl, ?_⟩
  exact trivial
theorem d_Sh_guardHeld_0 : decode prog_7_method_10_code 0 = .ok (.iload_n 2, 1) := by decide +kernel
theorem d_Sh_guardHeld_1 : decode prog_7_method_10_code 1 = .ok (.iconst 1, 1) := by decide +kernel
theorem d_Sh_guardHeld_2 : decode prog_7_method_10_code 2 = .ok (.aload_n 0, 1) := by decide +kernel
theorem d_Sh_guardHeld_3 : decode prog_7_method_10_code 3 = .ok (.getfield 17, 3) := by decide +kernel
theorem d_Sh_guardHeld_6 : decode prog_7_method_10_code 6 = .ok (.iload_n 1, 1) := by decide +kernel
theorem d_Sh_guardHeld_7 : decode prog_7_method_10_code 7 = .ok (.iaload, 1) := by decide +kernel
theorem d_Sh_guardHeld_8 : decode prog_7_method_10_code 8 = .ok (.ishl, 1) := by decide +kernel
theorem d_Sh_guardHeld_9 : decode prog_7_method_10_code 9 = .ok (.iand, 1) := by decide +kernel
theorem d_Sh_guardHeld_10 : decode prog_7_method_10_code 10 = .ok (.ifCond .eq 7, 3) := by decide +kernel
theorem d_Sh_guardHeld_13 : decode prog_7_method_10_code 13 = .ok (.iconst 1, 1) := by decide +kernel
theorem d_Sh_guardHeld_14 : decode prog_7_method_10_code 14 = .ok (.goto 4, 3) := by decide +kernel
theorem d_Sh_guardHeld_17 : decode prog_7_method_10_code 17 = .ok (.iconst 0, 1) := by decide +kernel
theorem d_Sh_guardHeld_18 : decode prog_7_method_10_code 18 = .ok (.ireturn, 1) := by decide +kernel
def tb_Sh_guardHeld : List pm_I := [
  pm_iload 1 2,
  pm_const 2 1,
  pm_aload 3 0,
  pm_getr 4 1 1,
  pm_iload 5 1,
  pm_iald 6 0,
  pm_bin 7 (fun a b => a <<< (b &&& 31)),
  pm_bin 8 (fun a b => a &&& b),
  pm_if 11 9 (fun a => decide (a = 0)),
  pm_const 10 1,
  pm_goto 12,
  pm_const 12 0,
  pm_zret]
def bp_Sh_guardHeld : List Nat := [0, 1, 2, 3, 6, 7, 8, 9, 10, 13, 14, 17, 18]
set_option maxRecDepth 100000 in
theorem sd_Sh_guardHeld : pm_Sl prog_7_method_10_code 3 R_Sh "guardHeld" (some .boolean) pm_Y (pm_b bp_Sh_guardHeld) 0 tb_Sh_guardHeld := by
  refine ⟨so_iloadn d_Sh_guardHeld_0 rfl rfl, ?_⟩
  refine ⟨so_const1 d_Sh_guardHeld_1 (by decide) rfl, ?_⟩
  refine ⟨so_aloadn d_Sh_guardHeld_2 rfl rfl, ?_⟩
  refine ⟨so_getr (ci := 1) (k := 1) rfl (by decide) rfl rfl fl_Sh_17 d_Sh_guardHeld_3 rfl, ?_⟩
  refine ⟨so_iloadn d_Sh_guardHeld_6 rfl rfl, ?_⟩
  refine ⟨so_iald d_Sh_guardHeld_7 rfl, ?_⟩
  refine ⟨so_ishl d_Sh_guardHeld_8 rfl, ?_⟩
  refine ⟨so_iand d_Sh_guardHeld_9 rfl, ?_⟩
  refine ⟨so_if_eq d_Sh_guardHeld_10 rfl rfl, ?_⟩
  refine ⟨so_const1 d_Sh_guardHeld_13 (by decide) rfl, ?_⟩
  refine ⟨so_goto d_Sh_guardHeld_14 rfl, ?_⟩
  refine ⟨so_const1 d_Sh_guardHeld_17 (by decide) rfl, ?_⟩
  refine ⟨so_zret d_Sh_guardHeld_18 rfl, ?_⟩
  exact trivial
theorem d_Sh_allRight_0 : decode prog_7_method_8_code 0 = .ok (.iconst 0, 1) := by decide +kernel
theorem d_Sh_allRight_1 : decode prog_7_method_8_code 1 = .ok (.istore_n 1, 1) := by decide +kernel
theorem d_Sh_allRight_2 : decode prog_7_method_8_code 2 = .ok (.iload_n 1, 1) := by decide +kernel
theorem d_Sh_allRight_3 : decode prog_7_method_8_code 3 = .ok (.aload_n 0, 1) := by decide +kernel
theorem d_Sh_allRight_4 : decode prog_7_method_8_code 4 = .ok (.getfield 32, 3) := by decide +kernel
theorem d_Sh_allRight_7 : decode prog_7_method_8_code 7 = .ok (.if_icmp .ge 28, 3) := by decide +kernel
theorem d_Sh_allRight_10 : decode prog_7_method_8_code 10 = .ok (.aload_n 0, 1) := by decide +kernel
theorem d_Sh_allRight_11 : decode prog_7_method_8_code 11 = .ok (.iload_n 1, 1) := by decide +kernel
theorem d_Sh_allRight_12 : decode prog_7_method_8_code 12 = .ok (.invokevirtual 61, 3) := by decide +kernel
theorem d_Sh_allRight_15 : decode prog_7_method_8_code 15 = .ok (.aload_n 0, 1) := by decide +kernel
theorem d_Sh_allRight_16 : decode prog_7_method_8_code 16 = .ok (.getfield 11, 3) := by decide +kernel
theorem d_Sh_allRight_19 : decode prog_7_method_8_code 19 = .ok (.iload_n 1, 1) := by decide +kernel
theorem d_Sh_allRight_20 : decode prog_7_method_8_code 20 = .ok (.aaload, 1) := by decide +kernel
theorem d_Sh_allRight_21 : decode prog_7_method_8_code 21 = .ok (.getfield 54, 3) := by decide +kernel
theorem d_Sh_allRight_24 : decode prog_7_method_8_code 24 = .ok (.if_icmp .ge 5, 3) := by decide +kernel
theorem d_Sh_allRight_27 : decode prog_7_method_8_code 27 = .ok (.iconst 0, 1) := by decide +kernel
theorem d_Sh_allRight_28 : decode prog_7_method_8_code 28 = .ok (.ireturn, 1) := by decide +kernel
theorem d_Sh_allRight_29 : decode prog_7_method_8_code 29 = .ok (.iinc 1 1, 3) := by decide +kernel
theorem d_Sh_allRight_32 : decode prog_7_method_8_code 32 = .ok (.goto (-30), 3) := by decide +kernel
theorem d_Sh_allRight_35 : decode prog_7_method_8_code 35 = .ok (.iconst 1, 1) := by decide +kernel
theorem d_Sh_allRight_36 : decode prog_7_method_8_code 36 = .ok (.ireturn, 1) := by decide +kernel
def tb_Sh_allRight : List pm_I := [
  pm_const 1 0,
  pm_istore 2 1,
  pm_iload 3 1,
  pm_aload 4 0,
  pm_geti 5 1 3,
  pm_icmp 19 6 (fun a b => decide (b ≤ a)),
  pm_aload 7 0,
  pm_iload 8 1,
  pm_callv 9 22 2 1,
  pm_aload 10 0,
  pm_getr 11 1 0,
  pm_iload 12 1,
  pm_aald 13 2,
  pm_geti 14 2 4,
  pm_icmp 17 15 (fun a b => decide (b ≤ a)),
  pm_const 16 0,
  pm_zret,
  pm_iinc 18 1 1,
  pm_goto 2,
  pm_const 20 1,
  pm_zret]
def bp_Sh_allRight : List Nat := [0, 1, 2, 3, 4, 7, 10, 11, 12, 15, 16, 19, 20, 21, 24, 27, 28, 29, 32, 35, 36]
set_option maxRecDepth 100000 in
theorem sd_Sh_allRight : pm_Sl prog_7_method_8_code 2 R_Sh "allRight" (some .boolean) pm_Y (pm_b bp_Sh_allRight) 0 tb_Sh_allRight := by
  refine ⟨so_const1 d_Sh_allRight_0 (by decide) rfl, ?_⟩
  refine ⟨so_istoren d_Sh_allRight_1 rfl (by decide) rfl, ?_⟩
  refine ⟨so_iloadn d_Sh_allRight_2 rfl rfl, ?_⟩
  refine ⟨so_aloadn d_Sh_allRight_3 rfl rfl, ?_⟩
  refine ⟨so_geti (ci := 1) (k := 3) rfl (by decide) rfl rfl fl_Sh_32 d_Sh_allRight_4 rfl, ?_⟩
  refine ⟨so_icmp_ge d_Sh_allRight_7 rfl rfl, ?_⟩
  refine ⟨so_aloadn d_Sh_allRight_10 rfl rfl, ?_⟩
  refine ⟨so_iloadn d_Sh_allRight_11 rfl rfl, ?_⟩
  refine ⟨so_callv (ci := 1) rfl rfl mc_Sh_firstWrong mi_Sh mj_Sh_firstWrong ms_Sh_firstWrong ml_Sh_61 yd_Sh_firstWrong (by decide) d_Sh_allRight_12 rfl, ?_⟩
  refine ⟨so_aloadn d_Sh_allRight_15 rfl rfl, ?_⟩
  refine ⟨so_getr (ci := 1) (k := 0) rfl (by decide) rfl rfl fl_Sh_11 d_Sh_allRight_16 rfl, ?_⟩
  refine ⟨so_iloadn d_Sh_allRight_19 rfl rfl, ?_⟩
  refine ⟨so_aald rfl (by decide) (fun _ => rfl) d_Sh_allRight_20 rfl, ?_⟩
  refine ⟨so_geti (ci := 2) (k := 4) rfl (by decide) rfl rfl fl_Sh_54 d_Sh_allRight_21 rfl, ?_⟩
  refine ⟨so_icmp_ge d_Sh_allRight_24 rfl rfl, ?_⟩
  refine ⟨so_const1 d_Sh_allRight_27 (by decide) rfl, ?_⟩
  refine ⟨so_zret d_Sh_allRight_28 rfl, ?_⟩
  refine ⟨so_iinc d_Sh_allRight_29 (by decide) (by decide) rfl, ?_⟩
  refine ⟨so_goto d_Sh_allRight_32 rfl, ?_⟩
  refine ⟨so_const1 d_Sh_allRight_35 (by decide) rfl, ?_⟩
  refine ⟨so_zret d_Sh_allRight_36 rfl, ?_⟩
  exact trivial
theorem d_Bo_init_0 : decode prog_2_method_1_code 0 = .ok (.aload_n 0, 1) := by decide +kernel
theorem d_Bo_init_1 : decode prog_2_method_1_code 1 = .ok (.invokespecial 3, 3) := by decide +kernel
theorem d_Bo_init_4 : decode prog_2_method_1_code 4 = .ok (.aload_n 0, 1) := by decide +kernel
theorem d_Bo_init_5 : decode prog_2_method_1_code 5 = .ok (.bipush 64, 2) := by decide +kernel
theorem d_Bo_init_7 : decode prog_2_method_1_code 7 = .ok (.newarray .int, 2) := by decide +kernel
theorem d_Bo_init_9 : decode prog_2_method_1_code 9 = .ok (.putfield 9, 3) := by decide +kernel
theorem d_Bo_init_12 : decode prog_2_method_1_code 12 = .ok (.aload_n 0, 1) := by decide +kernel
theorem d_Bo_init_13 : decode prog_2_method_1_code 13 = .ok (.bipush 64, 2) := by decide +kernel
theorem d_Bo_init_15 : decode prog_2_method_1_code 15 = .ok (.newarray .int, 2) := by decide +kernel
theorem d_Bo_init_17 : decode prog_2_method_1_code 17 = .ok (.putfield 15, 3) := by decide +kernel
theorem d_Bo_init_20 : decode prog_2_method_1_code 20 = .ok (.aload_n 0, 1) := by decide +kernel
theorem d_Bo_init_21 : decode prog_2_method_1_code 21 = .ok (.bipush 64, 2) := by decide +kernel
theorem d_Bo_init_23 : decode prog_2_method_1_code 23 = .ok (.newarray .int, 2) := by decide +kernel
theorem d_Bo_init_25 : decode prog_2_method_1_code 25 = .ok (.putfield 18, 3) := by decide +kernel
theorem d_Bo_init_28 : decode prog_2_method_1_code 28 = .ok (.aload_n 0, 1) := by decide +kernel
theorem d_Bo_init_29 : decode prog_2_method_1_code 29 = .ok (.bipush 64, 2) := by decide +kernel
theorem d_Bo_init_31 : decode prog_2_method_1_code 31 = .ok (.newarray .int, 2) := by decide +kernel
theorem d_Bo_init_33 : decode prog_2_method_1_code 33 = .ok (.putfield 21, 3) := by decide +kernel
theorem d_Bo_init_36 : decode prog_2_method_1_code 36 = .ok (.return_, 1) := by decide +kernel
def tb_Bo_init : List pm_I := [
  pm_aload 1 0,
  pm_oinit 2,
  pm_aload 3 0,
  pm_const 4 64,
  pm_newa 5 0,
  pm_putr 6 2 0,
  pm_aload 7 0,
  pm_const 8 64,
  pm_newa 9 0,
  pm_putr 10 2 1,
  pm_aload 11 0,
  pm_const 12 64,
  pm_newa 13 0,
  pm_putr 14 2 2,
  pm_aload 15 0,
  pm_const 16 64,
  pm_newa 17 0,
  pm_putr 18 2 3,
  pm_vret]
def bp_Bo_init : List Nat := [0, 1, 4, 5, 7, 9, 12, 13, 15, 17, 20, 21, 23, 25, 28, 29, 31, 33, 36]
set_option maxRecDepth 100000 in
theorem sd_Bo_init : pm_Sl prog_2_method_1_code 1 R_Bo "<init>" (none) pm_Y (pm_b bp_Bo_init) 0 tb_Bo_init := by
  refine ⟨so_aloadn d_Bo_init_0 rfl rfl, ?_⟩
  refine ⟨so_oinit (pm_in1 (List.mem_append_left _ (List.mem_of_getElem? (i := 33) rfl))) (pm_in1 (List.mem_append_left _ (List.mem_of_getElem? (i := 19) rfl))) (pm_in1 (List.mem_append_left _ (List.mem_of_getElem? (i := 20) rfl))) d_Bo_init_1 rfl, ?_⟩
  refine ⟨so_aloadn d_Bo_init_4 rfl rfl, ?_⟩
  refine ⟨so_const2 d_Bo_init_5 (by decide) rfl, ?_⟩
  refine ⟨so_newi d_Bo_init_7 rfl, ?_⟩
  refine ⟨so_putr (ci := 2) (k := 0) rfl (by decide) rfl rfl (Or.inr ⟨rfl, rfl, rfl, pm_in1 (List.mem_append_left _ (List.mem_of_getElem? (i := 34) rfl))⟩) d_Bo_init_9 rfl, ?_⟩
  refine ⟨so_aloadn d_Bo_init_12 rfl rfl, ?_⟩
  refine ⟨so_const2 d_Bo_init_13 (by decide) rfl, ?_⟩
  refine ⟨so_newi d_Bo_init_15 rfl, ?_⟩
  refine ⟨so_putr (ci := 2) (k := 1) rfl (by decide) rfl rfl (Or.inr ⟨rfl, rfl, rfl, pm_in1 (List.mem_append_left _ (List.mem_of_getElem? (i := 37) rfl))⟩) d_Bo_init_17 rfl, ?_⟩
  refine ⟨so_aloadn d_Bo_init_20 rfl rfl, ?_⟩
  refine ⟨so_const2 d_Bo_init_21 (by decide) rfl, ?_⟩
  refine ⟨so_newi d_Bo_init_23 rfl, ?_⟩
  refine ⟨so_putr (ci := 2) (k := 2) rfl (by decide) rfl rfl (Or.inr ⟨rfl, rfl, rfl, pm_in1 (List.mem_append_left _ (List.mem_of_getElem? (i := 40) rfl))⟩) d_Bo_init_25 rfl, ?_⟩
  refine ⟨so_aloadn d_Bo_init_28 rfl rfl, ?_⟩
  refine ⟨so_const2 d_Bo_init_29 (by decide) rfl, ?_⟩
  refine ⟨so_newi d_Bo_init_31 rfl, ?_⟩
  refine ⟨so_putr (ci := 2) (k := 3) rfl (by decide) rfl rfl (Or.inr ⟨rfl, rfl, rfl, pm_in1 (List.mem_append_left _ (List.mem_of_getElem? (i := 42) rfl))⟩) d_Bo_init_33 rfl, ?_⟩
  refine ⟨so_vret d_Bo_init_36 rfl, ?_⟩
  exact trivial
theorem d_Bo_append_0 : decode prog_2_method_3_code 0 = .ok (.aload_n 0, 1) := by decide +kernel
theorem d_Bo_append_1 : decode prog_2_method_3_code 1 = .ok (.getfield 24, 3) := by decide +kernel
theorem d_Bo_append_4 : decode prog_2_method_3_code 4 = .ok (.bipush 64, 2) := by decide +kernel
theorem d_Bo_append_6 : decode prog_2_method_3_code 6 = .ok (.if_icmp .lt 5, 3) := by decide +kernel
theorem d_Bo_append_9 : decode prog_2_method_3_code 9 = .ok (.iconst (-1), 1) := by decide +kernel
theorem d_Bo_append_10 : decode prog_2_method_3_code 10 = .ok (.ireturn, 1) := by decide +kernel
theorem d_Bo_append_11 : decode prog_2_method_3_code 11 = .ok (.aload_n 0, 1) := by decide +kernel
theorem d_Bo_append_12 : decode prog_2_method_3_code 12 = .ok (.getfield 9, 3) := by decide +kernel
theorem d_Bo_append_15 : decode prog_2_method_3_code 15 = .ok (.aload_n 0, 1) := by decide +kernel
theorem d_Bo_append_16 : decode prog_2_method_3_code 16 = .ok (.getfield 24, 3) := by decide +kernel
theorem d_Bo_append_19 : decode prog_2_method_3_code 19 = .ok (.iload_n 1, 1) := by decide +kernel
theorem d_Bo_append_20 : decode prog_2_method_3_code 20 = .ok (.iastore, 1) := by decide +kernel
theorem d_Bo_append_21 : decode prog_2_method_3_code 21 = .ok (.aload_n 0, 1) := by decide +kernel
theorem d_Bo_append_22 : decode prog_2_method_3_code 22 = .ok (.getfield 15, 3) := by decide +kernel
theorem d_Bo_append_25 : decode prog_2_method_3_code 25 = .ok (.aload_n 0, 1) := by decide +kernel
theorem d_Bo_append_26 : decode prog_2_method_3_code 26 = .ok (.getfield 24, 3) := by decide +kernel
theorem d_Bo_append_29 : decode prog_2_method_3_code 29 = .ok (.iload_n 2, 1) := by decide +kernel
theorem d_Bo_append_30 : decode prog_2_method_3_code 30 = .ok (.iastore, 1) := by decide +kernel
theorem d_Bo_append_31 : decode prog_2_method_3_code 31 = .ok (.aload_n 0, 1) := by decide +kernel
theorem d_Bo_append_32 : decode prog_2_method_3_code 32 = .ok (.dup, 1) := by decide +kernel
theorem d_Bo_append_33 : decode prog_2_method_3_code 33 = .ok (.getfield 24, 3) := by decide +kernel
theorem d_Bo_append_36 : decode prog_2_method_3_code 36 = .ok (.iconst 1, 1) := by decide +kernel
theorem d_Bo_append_37 : decode prog_2_method_3_code 37 = .ok (.iadd, 1) := by decide +kernel
theorem d_Bo_append_38 : decode prog_2_method_3_code 38 = .ok (.putfield 24, 3) := by decide +kernel
theorem d_Bo_append_41 : decode prog_2_method_3_code 41 = .ok (.aload_n 0, 1) := by decide +kernel
theorem d_Bo_append_42 : decode prog_2_method_3_code 42 = .ok (.getfield 24, 3) := by decide +kernel
theorem d_Bo_append_45 : decode prog_2_method_3_code 45 = .ok (.ireturn, 1) := by decide +kernel
def tb_Bo_append : List pm_I := [
  pm_aload 1 0,
  pm_geti 2 2 4,
  pm_const 3 64,
  pm_icmp 6 4 (fun a b => decide (a < b)),
  pm_const 5 (-1),
  pm_iret,
  pm_aload 7 0,
  pm_getr 8 2 0,
  pm_aload 9 0,
  pm_geti 10 2 4,
  pm_iload 11 1,
  pm_iast 12,
  pm_aload 13 0,
  pm_getr 14 2 1,
  pm_aload 15 0,
  pm_geti 16 2 4,
  pm_iload 17 2,
  pm_iast 18,
  pm_aload 19 0,
  pm_dup 20,
  pm_geti 21 2 4,
  pm_const 22 1,
  pm_bin 23 (fun a b => a + b),
  pm_puti 24 2 4,
  pm_aload 25 0,
  pm_geti 26 2 4,
  pm_iret]
def bp_Bo_append : List Nat := [0, 1, 4, 6, 9, 10, 11, 12, 15, 16, 19, 20, 21, 22, 25, 26, 29, 30, 31, 32, 33, 36, 37, 38, 41, 42, 45]
set_option maxRecDepth 100000 in
theorem sd_Bo_append : pm_Sl prog_2_method_3_code 3 R_Bo "append" (some .int) pm_Y (pm_b bp_Bo_append) 0 tb_Bo_append := by
  refine ⟨so_aloadn d_Bo_append_0 rfl rfl, ?_⟩
  refine ⟨so_geti (ci := 2) (k := 4) rfl (by decide) rfl rfl fl_Bo_24 d_Bo_append_1 rfl, ?_⟩
  refine ⟨so_const2 d_Bo_append_4 (by decide) rfl, ?_⟩
  refine ⟨so_icmp_lt d_Bo_append_6 rfl rfl, ?_⟩
  refine ⟨so_const1 d_Bo_append_9 (by decide) rfl, ?_⟩
  refine ⟨so_iret d_Bo_append_10 rfl, ?_⟩
  refine ⟨so_aloadn d_Bo_append_11 rfl rfl, ?_⟩
  refine ⟨so_getr (ci := 2) (k := 0) rfl (by decide) rfl rfl fl_Bo_9 d_Bo_append_12 rfl, ?_⟩
  refine ⟨so_aloadn d_Bo_append_15 rfl rfl, ?_⟩
  refine ⟨so_geti (ci := 2) (k := 4) rfl (by decide) rfl rfl fl_Bo_24 d_Bo_append_16 rfl, ?_⟩
  refine ⟨so_iloadn d_Bo_append_19 rfl rfl, ?_⟩
  refine ⟨so_iast d_Bo_append_20 rfl, ?_⟩
  refine ⟨so_aloadn d_Bo_append_21 rfl rfl, ?_⟩
  refine ⟨so_getr (ci := 2) (k := 1) rfl (by decide) rfl rfl fl_Bo_15 d_Bo_append_22 rfl, ?_⟩
  refine ⟨so_aloadn d_Bo_append_25 rfl rfl, ?_⟩
  refine ⟨so_geti (ci := 2) (k := 4) rfl (by decide) rfl rfl fl_Bo_24 d_Bo_append_26 rfl, ?_⟩
  refine ⟨so_iloadn d_Bo_append_29 rfl rfl, ?_⟩
  refine ⟨so_iast d_Bo_append_30 rfl, ?_⟩
  refine ⟨so_aloadn d_Bo_append_31 rfl rfl, ?_⟩
  refine ⟨so_dup d_Bo_append_32 rfl, ?_⟩
  refine ⟨so_geti (ci := 2) (k := 4) rfl (by decide) rfl rfl fl_Bo_24 d_Bo_append_33 rfl, ?_⟩
  refine ⟨so_const1 d_Bo_append_36 (by decide) rfl, ?_⟩
  refine ⟨so_iadd d_Bo_append_37 rfl, ?_⟩
  refine ⟨so_puti (ci := 2) (k := 4) rfl (by decide) rfl rfl (Or.inl ⟨rfl, fl_Bo_24⟩) d_Bo_append_38 rfl, ?_⟩
  refine ⟨so_aloadn d_Bo_append_41 rfl rfl, ?_⟩
  refine ⟨so_geti (ci := 2) (k := 4) rfl (by decide) rfl rfl fl_Bo_24 d_Bo_append_42 rfl, ?_⟩
  refine ⟨so_iret d_Bo_append_45 rfl, ?_⟩
  exact trivial
theorem d_Bo_joinBlocks_0 : decode prog_2_method_4_code 0 = .ok (.aload_n 0, 1) := by decide +kernel
theorem d_Bo_joinBlocks_1 : decode prog_2_method_4_code 1 = .ok (.iload_n 1, 1) := by decide +kernel
theorem d_Bo_joinBlocks_2 : decode prog_2_method_4_code 2 = .ok (.putfield 28, 3) := by decide +kernel
theorem d_Bo_joinBlocks_5 : decode prog_2_method_4_code 5 = .ok (.iload_n 1, 1) := by decide +kernel
theorem d_Bo_joinBlocks_6 : decode prog_2_method_4_code 6 = .ok (.istore_n 2, 1) := by decide +kernel
theorem d_Bo_joinBlocks_7 : decode prog_2_method_4_code 7 = .ok (.iconst (-1), 1) := by decide +kernel
theorem d_Bo_joinBlocks_8 : decode prog_2_method_4_code 8 = .ok (.istore_n 3, 1) := by decide +kernel
theorem d_Bo_joinBlocks_9 : decode prog_2_method_4_code 9 = .ok (.iconst 0, 1) := by decide +kernel
theorem d_Bo_joinBlocks_10 : decode prog_2_method_4_code 10 = .ok (.istore 4, 2) := by decide +kernel
theorem d_Bo_joinBlocks_12 : decode prog_2_method_4_code 12 = .ok (.iload 4, 2) := by decide +kernel
theorem d_Bo_joinBlocks_14 : decode prog_2_method_4_code 14 = .ok (.aload_n 0, 1) := by decide +kernel
theorem d_Bo_joinBlocks_15 : decode prog_2_method_4_code 15 = .ok (.getfield 24, 3) := by decide +kernel
theorem d_Bo_joinBlocks_18 : decode prog_2_method_4_code 18 = .ok (.if_icmp .ge 170, 3) := by decide +kernel
theorem d_Bo_joinBlocks_21 : decode prog_2_method_4_code 21 = .ok (.aload_n 0, 1) := by decide +kernel
theorem d_Bo_joinBlocks_22 : decode prog_2_method_4_code 22 = .ok (.getfield 21, 3) := by decide +kernel
theorem d_Bo_joinBlocks_25 : decode prog_2_method_4_code 25 = .ok (.iload 4, 2) := by decide +kernel
theorem d_Bo_joinBlocks_27 : decode prog_2_method_4_code 27 = .ok (.iload_n 2, 1) := by decide +kernel
theorem d_Bo_joinBlocks_28 : decode prog_2_method_4_code 28 = .ok (.iastore, 1) := by decide +kernel
theorem d_Bo_joinBlocks_29 : decode prog_2_method_4_code 29 = .ok (.aload_n 0, 1) := by decide +kernel
theorem d_Bo_joinBlocks_30 : decode prog_2_method_4_code 30 = .ok (.getfield 9, 3) := by decide +kernel
theorem d_Bo_joinBlocks_33 : decode prog_2_method_4_code 33 = .ok (.iload 4, 2) := by decide +kernel
theorem d_Bo_joinBlocks_35 : decode prog_2_method_4_code 35 = .ok (.iaload, 1) := by decide +kernel
theorem d_Bo_joinBlocks_36 : decode prog_2_method_4_code 36 = .ok (.tableswitch 146 4 8 #[36, 121, 62, 76, 62], 36) := by decide +kernel
theorem d_Bo_joinBlocks_72 : decode prog_2_method_4_code 72 = .ok (.iload_n 2, 1) := by decide +kernel
theorem d_Bo_joinBlocks_73 : decode prog_2_method_4_code 73 = .ok (.iconst 1, 1) := by decide +kernel
theorem d_Bo_joinBlocks_74 : decode prog_2_method_4_code 74 = .ok (.aload_n 0, 1) := by decide +kernel
theorem d_Bo_joinBlocks_75 : decode prog_2_method_4_code 75 = .ok (.getfield 15, 3) := by decide +kernel
theorem d_Bo_joinBlocks_78 : decode prog_2_method_4_code 78 = .ok (.iload 4, 2) := by decide +kernel
theorem d_Bo_joinBlocks_80 : decode prog_2_method_4_code 80 = .ok (.iaload, 1) := by decide +kernel
theorem d_Bo_joinBlocks_81 : decode prog_2_method_4_code 81 = .ok (.ishl, 1) := by decide +kernel
theorem d_Bo_joinBlocks_82 : decode prog_2_method_4_code 82 = .ok (.ior, 1) := by decide +kernel
theorem d_Bo_joinBlocks_83 : decode prog_2_method_4_code 83 = .ok (.istore_n 2, 1) := by decide +kernel
theorem d_Bo_joinBlocks_84 : decode prog_2_method_4_code 84 = .ok (.aload_n 0, 1) := by decide +kernel
theorem d_Bo_joinBlocks_85 : decode prog_2_method_4_code 85 = .ok (.getfield 18, 3) := by decide +kernel
theorem d_Bo_joinBlocks_88 : decode prog_2_method_4_code 88 = .ok (.iload 4, 2) := by decide +kernel
theorem d_Bo_joinBlocks_90 : decode prog_2_method_4_code 90 = .ok (.iload_n 3, 1) := by decide +kernel
theorem d_Bo_joinBlocks_91 : decode prog_2_method_4_code 91 = .ok (.iastore, 1) := by decide +kernel
theorem d_Bo_joinBlocks_92 : decode prog_2_method_4_code 92 = .ok (.iload 4, 2) := by decide +kernel
theorem d_Bo_joinBlocks_94 : decode prog_2_method_4_code 94 = .ok (.istore_n 3, 1) := by decide +kernel
theorem d_Bo_joinBlocks_95 : decode prog_2_method_4_code 95 = .ok (.goto 87, 3) := by decide +kernel
theorem d_Bo_joinBlocks_98 : decode prog_2_method_4_code 98 = .ok (.aload_n 0, 1) := by decide +kernel
theorem d_Bo_joinBlocks_99 : decode prog_2_method_4_code 99 = .ok (.getfield 18, 3) := by decide +kernel
theorem d_Bo_joinBlocks_102 : decode prog_2_method_4_code 102 = .ok (.iload 4, 2) := by decide +kernel
theorem d_Bo_joinBlocks_104 : decode prog_2_method_4_code 104 = .ok (.iload_n 3, 1) := by decide +kernel
theorem d_Bo_joinBlocks_105 : decode prog_2_method_4_code 105 = .ok (.iastore, 1) := by decide +kernel
theorem d_Bo_joinBlocks_106 : decode prog_2_method_4_code 106 = .ok (.iload 4, 2) := by decide +kernel
theorem d_Bo_joinBlocks_108 : decode prog_2_method_4_code 108 = .ok (.istore_n 3, 1) := by decide +kernel
theorem d_Bo_joinBlocks_109 : decode prog_2_method_4_code 109 = .ok (.goto 73, 3) := by decide +kernel
theorem d_Bo_joinBlocks_112 : decode prog_2_method_4_code 112 = .ok (.iload_n 3, 1) := by decide +kernel
theorem d_Bo_joinBlocks_113 : decode prog_2_method_4_code 113 = .ok (.iconst (-1), 1) := by decide +kernel
theorem d_Bo_joinBlocks_114 : decode prog_2_method_4_code 114 = .ok (.if_icmp .eq 14, 3) := by decide +kernel
theorem d_Bo_joinBlocks_117 : decode prog_2_method_4_code 117 = .ok (.aload_n 0, 1) := by decide +kernel
theorem d_Bo_joinBlocks_118 : decode prog_2_method_4_code 118 = .ok (.getfield 9, 3) := by decide +kernel
theorem d_Bo_joinBlocks_121 : decode prog_2_method_4_code 121 = .ok (.iload_n 3, 1) := by decide +kernel
theorem d_Bo_joinBlocks_122 : decode prog_2_method_4_code 122 = .ok (.iaload, 1) := by decide +kernel
theorem d_Bo_joinBlocks_123 : decode prog_2_method_4_code 123 = .ok (.bipush 6, 2) := by decide +kernel
theorem d_Bo_joinBlocks_125 : decode prog_2_method_4_code 125 = .ok (.if_icmp .eq 5, 3) := by decide +kernel
theorem d_Bo_joinBlocks_128 : decode prog_2_method_4_code 128 = .ok (.iconst 0, 1) := by decide +kernel
theorem d_Bo_joinBlocks_129 : decode prog_2_method_4_code 129 = .ok (.ireturn, 1) := by decide +kernel
theorem d_Bo_joinBlocks_130 : decode prog_2_method_4_code 130 = .ok (.aload_n 0, 1) := by decide +kernel
theorem d_Bo_joinBlocks_131 : decode prog_2_method_4_code 131 = .ok (.getfield 18, 3) := by decide +kernel
theorem d_Bo_joinBlocks_134 : decode prog_2_method_4_code 134 = .ok (.iload 4, 2) := by decide +kernel
theorem d_Bo_joinBlocks_136 : decode prog_2_method_4_code 136 = .ok (.aload_n 0, 1) := by decide +kernel
theorem d_Bo_joinBlocks_137 : decode prog_2_method_4_code 137 = .ok (.getfield 18, 3) := by decide +kernel
theorem d_Bo_joinBlocks_140 : decode prog_2_method_4_code 140 = .ok (.iload_n 3, 1) := by decide +kernel
theorem d_Bo_joinBlocks_141 : decode prog_2_method_4_code 141 = .ok (.iaload, 1) := by decide +kernel
theorem d_Bo_joinBlocks_142 : decode prog_2_method_4_code 142 = .ok (.iastore, 1) := by decide +kernel
theorem d_Bo_joinBlocks_143 : decode prog_2_method_4_code 143 = .ok (.aload_n 0, 1) := by decide +kernel
theorem d_Bo_joinBlocks_144 : decode prog_2_method_4_code 144 = .ok (.getfield 18, 3) := by decide +kernel
theorem d_Bo_joinBlocks_147 : decode prog_2_method_4_code 147 = .ok (.iload_n 3, 1) := by decide +kernel
theorem d_Bo_joinBlocks_148 : decode prog_2_method_4_code 148 = .ok (.iload 4, 2) := by decide +kernel
theorem d_Bo_joinBlocks_150 : decode prog_2_method_4_code 150 = .ok (.iastore, 1) := by decide +kernel
theorem d_Bo_joinBlocks_151 : decode prog_2_method_4_code 151 = .ok (.iload 4, 2) := by decide +kernel
theorem d_Bo_joinBlocks_153 : decode prog_2_method_4_code 153 = .ok (.istore_n 3, 1) := by decide +kernel
theorem d_Bo_joinBlocks_154 : decode prog_2_method_4_code 154 = .ok (.goto 28, 3) := by decide +kernel
theorem d_Bo_joinBlocks_157 : decode prog_2_method_4_code 157 = .ok (.iload_n 3, 1) := by decide +kernel
theorem d_Bo_joinBlocks_158 : decode prog_2_method_4_code 158 = .ok (.iconst (-1), 1) := by decide +kernel
theorem d_Bo_joinBlocks_159 : decode prog_2_method_4_code 159 = .ok (.if_icmp .ne 5, 3) := by decide +kernel
theorem d_Bo_joinBlocks_162 : decode prog_2_method_4_code 162 = .ok (.iconst 0, 1) := by decide +kernel
theorem d_Bo_joinBlocks_163 : decode prog_2_method_4_code 163 = .ok (.ireturn, 1) := by decide +kernel
theorem d_Bo_joinBlocks_164 : decode prog_2_method_4_code 164 = .ok (.aload_n 0, 1) := by decide +kernel
theorem d_Bo_joinBlocks_165 : decode prog_2_method_4_code 165 = .ok (.getfield 21, 3) := by decide +kernel
theorem d_Bo_joinBlocks_168 : decode prog_2_method_4_code 168 = .ok (.iload_n 3, 1) := by decide +kernel
theorem d_Bo_joinBlocks_169 : decode prog_2_method_4_code 169 = .ok (.iaload, 1) := by decide +kernel
theorem d_Bo_joinBlocks_170 : decode prog_2_method_4_code 170 = .ok (.istore_n 2, 1) := by decide +kernel
theorem d_Bo_joinBlocks_171 : decode prog_2_method_4_code 171 = .ok (.aload_n 0, 1) := by decide +kernel
theorem d_Bo_joinBlocks_172 : decode prog_2_method_4_code 172 = .ok (.iload_n 3, 1) := by decide +kernel
theorem d_Bo_joinBlocks_173 : decode prog_2_method_4_code 173 = .ok (.iload 4, 2) := by decide +kernel
theorem d_Bo_joinBlocks_175 : decode prog_2_method_4_code 175 = .ok (.invokevirtual 31, 3) := by decide +kernel
theorem d_Bo_joinBlocks_178 : decode prog_2_method_4_code 178 = .ok (.istore_n 3, 1) := by decide +kernel
theorem d_Bo_joinBlocks_179 : decode prog_2_method_4_code 179 = .ok (.goto 3, 3) := by decide +kernel
theorem d_Bo_joinBlocks_182 : decode prog_2_method_4_code 182 = .ok (.iinc 4 1, 3) := by decide +kernel
theorem d_Bo_joinBlocks_185 : decode prog_2_method_4_code 185 = .ok (.goto (-173), 3) := by decide +kernel
theorem d_Bo_joinBlocks_188 : decode prog_2_method_4_code 188 = .ok (.iload_n 3, 1) := by decide +kernel
theorem d_Bo_joinBlocks_189 : decode prog_2_method_4_code 189 = .ok (.iconst (-1), 1) := by decide +kernel
theorem d_Bo_joinBlocks_190 : decode prog_2_method_4_code 190 = .ok (.if_icmp .ne 7, 3) := by decide +kernel
theorem d_Bo_joinBlocks_193 : decode prog_2_method_4_code 193 = .ok (.iconst 1, 1) := by decide +kernel
theorem d_Bo_joinBlocks_194 : decode prog_2_method_4_code 194 = .ok (.goto 4, 3) := by decide +kernel
theorem d_Bo_joinBlocks_197 : decode prog_2_method_4_code 197 = .ok (.iconst 0, 1) := by decide +kernel
theorem d_Bo_joinBlocks_198 : decode prog_2_method_4_code 198 = .ok (.ireturn, 1) := by decide +kernel
def tb_Bo_joinBlocks : List pm_I := [
  pm_aload 1 0,
  pm_iload 2 1,
  pm_puti 3 2 5,
  pm_iload 4 1,
  pm_istore 5 2,
  pm_const 6 (-1),
  pm_istore 7 3,
  pm_const 8 0,
  pm_istore 9 4,
  pm_iload 10 4,
  pm_aload 11 0,
  pm_geti 12 2 4,
  pm_icmp 93 13 (fun a b => decide (b ≤ a)),
  pm_aload 14 0,
  pm_getr 15 2 3,
  pm_iload 16 4,
  pm_iload 17 2,
  pm_iast 18,
  pm_aload 19 0,
  pm_getr 20 2 0,
  pm_iload 21 4,
  pm_iald 22 0,
  pm_sw [(4, 23), (5, 75), (6, 40), (7, 48), (8, 40)] 91,
  pm_iload 24 2,
  pm_const 25 1,
  pm_aload 26 0,
  pm_getr 27 2 1,
  pm_iload 28 4,
  pm_iald 29 0,
  pm_bin 30 (fun a b => a <<< (b &&& 31)),
  pm_bin 31 (fun a b => a ||| b),
  pm_istore 32 2,
  pm_aload 33 0,
  pm_getr 34 2 2,
  pm_iload 35 4,
  pm_iload 36 3,
  pm_iast 37,
  pm_iload 38 4,
  pm_istore 39 3,
  pm_goto 91,
  pm_aload 41 0,
  pm_getr 42 2 2,
  pm_iload 43 4,
  pm_iload 44 3,
  pm_iast 45,
  pm_iload 46 4,
  pm_istore 47 3,
  pm_goto 91,
  pm_iload 49 3,
  pm_const 50 (-1),
  pm_icmp 57 51 (fun a b => decide (a = b)),
  pm_aload 52 0,
  pm_getr 53 2 0,
  pm_iload 54 3,
  pm_iald 55 0,
  pm_const 56 6,
  pm_icmp 59 57 (fun a b => decide (a = b)),
  pm_const 58 0,
  pm_zret,
  pm_aload 60 0,
  pm_getr 61 2 2,
  pm_iload 62 4,
  pm_aload 63 0,
  pm_getr 64 2 2,
  pm_iload 65 3,
  pm_iald 66 0,
  pm_iast 67,
  pm_aload 68 0,
  pm_getr 69 2 2,
  pm_iload 70 3,
  pm_iload 71 4,
  pm_iast 72,
  pm_iload 73 4,
  pm_istore 74 3,
  pm_goto 91,
  pm_iload 76 3,
  pm_const 77 (-1),
  pm_icmp 80 78 (fun a b => decide (a ≠ b)),
  pm_const 79 0,
  pm_zret,
  pm_aload 81 0,
  pm_getr 82 2 3,
  pm_iload 83 3,
  pm_iald 84 0,
  pm_istore 85 2,
  pm_aload 86 0,
  pm_iload 87 3,
  pm_iload 88 4,
  pm_callv 89 29 3 2,
  pm_istore 90 3,
  pm_goto 91,
  pm_iinc 92 4 1,
  pm_goto 9,
  pm_iload 94 3,
  pm_const 95 (-1),
  pm_icmp 98 96 (fun a b => decide (a ≠ b)),
  pm_const 97 1,
  pm_goto 99,
  pm_const 99 0,
  pm_zret]
def bp_Bo_joinBlocks : List Nat := [0, 1, 2, 5, 6, 7, 8, 9, 10, 12, 14, 15, 18, 21, 22, 25, 27, 28, 29, 30, 33, 35, 36, 72, 73, 74, 75, 78, 80, 81, 82, 83, 84, 85, 88, 90, 91, 92, 94, 95, 98, 99, 102, 104, 105, 106, 108, 109, 112, 113, 114, 117, 118, 121, 122, 123, 125, 128, 129, 130, 131, 134, 136, 137, 140, 141, 142, 143, 144, 147, 148, 150, 151, 153, 154, 157, 158, 159, 162, 163, 164, 165, 168, 169, 170, 171, 172, 173, 175, 178, 179, 182, 185, 188, 189, 190, 193, 194, 197, 198]
set_option maxRecDepth 100000 in
theorem sd_Bo_joinBlocks : pm_Sl prog_2_method_4_code 5 R_Bo "joinBlocks" (some .boolean) pm_Y (pm_b bp_Bo_joinBlocks) 0 tb_Bo_joinBlocks := by
  refine ⟨so_aloadn d_Bo_joinBlocks_0 rfl rfl, ?_⟩
  refine ⟨so_iloadn d_Bo_joinBlocks_1 rfl rfl, ?_⟩
  refine ⟨so_puti (ci := 2) (k := 5) rfl (by decide) rfl rfl (Or.inl ⟨rfl, fl_Bo_28⟩) d_Bo_joinBlocks_2 rfl, ?_⟩
  refine ⟨so_iloadn d_Bo_joinBlocks_5 rfl rfl, ?_⟩
  refine ⟨so_istoren d_Bo_joinBlocks_6 rfl (by decide) rfl, ?_⟩
  refine ⟨so_const1 d_Bo_joinBlocks_7 (by decide) rfl, ?_⟩
  refine ⟨so_istoren d_Bo_joinBlocks_8 rfl (by decide) rfl, ?_⟩
  refine ⟨so_const1 d_Bo_joinBlocks_9 (by decide) rfl, ?_⟩
  refine ⟨so_istore d_Bo_joinBlocks_10 (by decide) rfl, ?_⟩
  refine ⟨so_iload d_Bo_joinBlocks_12 rfl, ?_⟩
  refine ⟨so_aloadn d_Bo_joinBlocks_14 rfl rfl, ?_⟩
  refine ⟨so_geti (ci := 2) (k := 4) rfl (by decide) rfl rfl fl_Bo_24 d_Bo_joinBlocks_15 rfl, ?_⟩
  refine ⟨so_icmp_ge d_Bo_joinBlocks_18 rfl rfl, ?_⟩
  refine ⟨so_aloadn d_Bo_joinBlocks_21 rfl rfl, ?_⟩
  refine ⟨so_getr (ci := 2) (k := 3) rfl (by decide) rfl rfl fl_Bo_21 d_Bo_joinBlocks_22 rfl, ?_⟩
  refine ⟨so_iload d_Bo_joinBlocks_25 rfl, ?_⟩
  refine ⟨so_iloadn d_Bo_joinBlocks_27 rfl rfl, ?_⟩
  refine ⟨so_iast d_Bo_joinBlocks_28 rfl, ?_⟩
  refine ⟨so_aloadn d_Bo_joinBlocks_29 rfl rfl, ?_⟩
  refine ⟨so_getr (ci := 2) (k := 0) rfl (by decide) rfl rfl fl_Bo_9 d_Bo_joinBlocks_30 rfl, ?_⟩
  refine ⟨so_iload d_Bo_joinBlocks_33 rfl, ?_⟩
  refine ⟨so_iald d_Bo_joinBlocks_35 rfl, ?_⟩
  refine ⟨so_tsw d_Bo_joinBlocks_36 (by decide +kernel) (by decide +kernel) rfl, ?_⟩
  refine ⟨so_iloadn d_Bo_joinBlocks_72 rfl rfl, ?_⟩
  refine ⟨so_const1 d_Bo_joinBlocks_73 (by decide) rfl, ?_⟩
  refine ⟨so_aloadn d_Bo_joinBlocks_74 rfl rfl, ?_⟩
  refine ⟨so_getr (ci := 2) (k := 1) rfl (by decide) rfl rfl fl_Bo_15 d_Bo_joinBlocks_75 rfl, ?_⟩
  refine ⟨so_iload d_Bo_joinBlocks_78 rfl, ?_⟩
  refine ⟨so_iald d_Bo_joinBlocks_80 rfl, ?_⟩
  refine ⟨so_ishl d_Bo_joinBlocks_81 rfl, ?_⟩
  refine ⟨so_ior d_Bo_joinBlocks_82 rfl, ?_⟩
  refine ⟨so_istoren d_Bo_joinBlocks_83 rfl (by decide) rfl, ?_⟩
  refine ⟨so_aloadn d_Bo_joinBlocks_84 rfl rfl, ?_⟩
  refine ⟨so_getr (ci := 2) (k := 2) rfl (by decide) rfl rfl fl_Bo_18 d_Bo_joinBlocks_85 rfl, ?_⟩
  refine ⟨so_iload d_Bo_joinBlocks_88 rfl, ?_⟩
  refine ⟨so_iloadn d_Bo_joinBlocks_90 rfl rfl, ?_⟩
  refine ⟨so_iast d_Bo_joinBlocks_91 rfl, ?_⟩
  refine ⟨so_iload d_Bo_joinBlocks_92 rfl, ?_⟩
  refine ⟨so_istoren d_Bo_joinBlocks_94 rfl (by decide) rfl, ?_⟩
  refine ⟨so_goto d_Bo_joinBlocks_95 rfl, ?_⟩
  refine ⟨so_aloadn d_Bo_joinBlocks_98 rfl rfl, ?_⟩
  refine ⟨so_getr (ci := 2) (k := 2) rfl (by decide) rfl rfl fl_Bo_18 d_Bo_joinBlocks_99 rfl, ?_⟩
  refine ⟨so_iload d_Bo_joinBlocks_102 rfl, ?_⟩
  refine ⟨so_iloadn d_Bo_joinBlocks_104 rfl rfl, ?_⟩
  refine ⟨so_iast d_Bo_joinBlocks_105 rfl, ?_⟩
  refine ⟨so_iload d_Bo_joinBlocks_106 rfl, ?_⟩
  refine ⟨so_istoren d_Bo_joinBlocks_108 rfl (by decide) rfl, ?_⟩
  refine ⟨so_goto d_Bo_joinBlocks_109 rfl, ?_⟩
  refine ⟨so_iloadn d_Bo_joinBlocks_112 rfl rfl, ?_⟩
  refine ⟨so_const1 d_Bo_joinBlocks_113 (by decide) rfl, ?_⟩
  refine ⟨so_icmp_eq d_Bo_joinBlocks_114 rfl rfl, ?_⟩
  refine ⟨so_aloadn d_Bo_joinBlocks_117 rfl rfl, ?_⟩
  refine ⟨so_getr (ci := 2) (k := 0) rfl (by decide) rfl rfl fl_Bo_9 d_Bo_joinBlocks_118 rfl, ?_⟩
  refine ⟨so_iloadn d_Bo_joinBlocks_121 rfl rfl, ?_⟩
  refine ⟨so_iald d_Bo_joinBlocks_122 rfl, ?_⟩
  refine ⟨so_const2 d_Bo_joinBlocks_123 (by decide) rfl, ?_⟩
  refine ⟨so_icmp_eq d_Bo_joinBlocks_125 rfl rfl, ?_⟩
  refine ⟨so_const1 d_Bo_joinBlocks_128 (by decide) rfl, ?_⟩
  refine ⟨so_zret d_Bo_joinBlocks_129 rfl, ?_⟩
  refine ⟨so_aloadn d_Bo_joinBlocks_130 rfl rfl, ?_⟩
  refine ⟨so_getr (ci := 2) (k := 2) rfl (by decide) rfl rfl fl_Bo_18 d_Bo_joinBlocks_131 rfl, ?_⟩
  refine ⟨so_iload d_Bo_joinBlocks_134 rfl, ?_⟩
  refine ⟨so_aloadn d_Bo_joinBlocks_136 rfl rfl, ?_⟩
  refine ⟨so_getr (ci := 2) (k := 2) rfl (by decide) rfl rfl fl_Bo_18 d_Bo_joinBlocks_137 rfl, ?_⟩
  refine ⟨so_iloadn d_Bo_joinBlocks_140 rfl rfl, ?_⟩
  refine ⟨so_iald d_Bo_joinBlocks_141 rfl, ?_⟩
  refine ⟨so_iast d_Bo_joinBlocks_142 rfl, ?_⟩
  refine ⟨so_aloadn d_Bo_joinBlocks_143 rfl rfl, ?_⟩
  refine ⟨so_getr (ci := 2) (k := 2) rfl (by decide) rfl rfl fl_Bo_18 d_Bo_joinBlocks_144 rfl, ?_⟩
  refine ⟨so_iloadn d_Bo_joinBlocks_147 rfl rfl, ?_⟩
  refine ⟨so_iload d_Bo_joinBlocks_148 rfl, ?_⟩
  refine ⟨so_iast d_Bo_joinBlocks_150 rfl, ?_⟩
  refine ⟨so_iload d_Bo_joinBlocks_151 rfl, ?_⟩
  refine ⟨so_istoren d_Bo_joinBlocks_153 rfl (by decide) rfl, ?_⟩
  refine ⟨so_goto d_Bo_joinBlocks_154 rfl, ?_⟩
  refine ⟨so_iloadn d_Bo_joinBlocks_157 rfl rfl, ?_⟩
  refine ⟨so_const1 d_Bo_joinBlocks_158 (by decide) rfl, ?_⟩
  refine ⟨so_icmp_ne d_Bo_joinBlocks_159 rfl rfl, ?_⟩
  refine ⟨so_const1 d_Bo_joinBlocks_162 (by decide) rfl, ?_⟩
  refine ⟨so_zret d_Bo_joinBlocks_163 rfl, ?_⟩
  refine ⟨so_aloadn d_Bo_joinBlocks_164 rfl rfl, ?_⟩
  refine ⟨so_getr (ci := 2) (k := 3) rfl (by decide) rfl rfl fl_Bo_21 d_Bo_joinBlocks_165 rfl, ?_⟩
  refine ⟨so_iloadn d_Bo_joinBlocks_168 rfl rfl, ?_⟩
  refine ⟨so_iald d_Bo_joinBlocks_169 rfl, ?_⟩
  refine ⟨so_istoren d_Bo_joinBlocks_170 rfl (by decide) rfl, ?_⟩
  refine ⟨so_aloadn d_Bo_joinBlocks_171 rfl rfl, ?_⟩
  refine ⟨so_iloadn d_Bo_joinBlocks_172 rfl rfl, ?_⟩
  refine ⟨so_iload d_Bo_joinBlocks_173 rfl, ?_⟩
  refine ⟨so_callv (ci := 2) rfl rfl mc_Bo_closeBlock mi_Bo mj_Bo_closeBlock ms_Bo_closeBlock ml_Bo_31 yd_Bo_closeBlock (by decide) d_Bo_joinBlocks_175 rfl, ?_⟩
  refine ⟨so_istoren d_Bo_joinBlocks_178 rfl (by decide) rfl, ?_⟩
  refine ⟨so_goto d_Bo_joinBlocks_179 rfl, ?_⟩
  refine ⟨so_iinc d_Bo_joinBlocks_182 (by decide) (by decide) rfl, ?_⟩
  refine ⟨so_goto d_Bo_joinBlocks_185 rfl, ?_⟩
  refine ⟨so_iloadn d_Bo_joinBlocks_188 rfl rfl, ?_⟩
  refine ⟨so_const1 d_Bo_joinBlocks_189 (by decide) rfl, ?_⟩
  refine ⟨so_icmp_ne d_Bo_joinBlocks_190 rfl rfl, ?_⟩
  refine ⟨so_const1 d_Bo_joinBlocks_193 (by decide) rfl, ?_⟩
  refine ⟨so_goto d_Bo_joinBlocks_194 rfl, ?_⟩
  refine ⟨so_const1 d_Bo_joinBlocks_197 (by decide) rfl, ?_⟩
  refine ⟨so_zret d_Bo_joinBlocks_198 rfl, ?_⟩
  exact trivial
theorem d_Bo_closeBlock_0 : decode prog_2_method_5_code 0 = .ok (.aload_n 0, 1) := by decide +kernel
theorem d_Bo_closeBlock_1 : decode prog_2_method_5_code 1 = .ok (.getfield 18, 3) := by decide +kernel
theorem d_Bo_closeBlock_4 : decode prog_2_method_5_code 4 = .ok (.iload_n 1, 1) := by decide +kernel
theorem d_Bo_closeBlock_5 : decode prog_2_method_5_code 5 = .ok (.iaload, 1) := by decide +kernel
theorem d_Bo_closeBlock_6 : decode prog_2_method_5_code 6 = .ok (.istore_n 3, 1) := by decide +kernel
theorem d_Bo_closeBlock_7 : decode prog_2_method_5_code 7 = .ok (.aload_n 0, 1) := by decide +kernel
theorem d_Bo_closeBlock_8 : decode prog_2_method_5_code 8 = .ok (.getfield 18, 3) := by decide +kernel
theorem d_Bo_closeBlock_11 : decode prog_2_method_5_code 11 = .ok (.iload_n 1, 1) := by decide +kernel
theorem d_Bo_closeBlock_12 : decode prog_2_method_5_code 12 = .ok (.iload_n 2, 1) := by decide +kernel
theorem d_Bo_closeBlock_13 : decode prog_2_method_5_code 13 = .ok (.iastore, 1) := by decide +kernel
theorem d_Bo_closeBlock_14 : decode prog_2_method_5_code 14 = .ok (.aload_n 0, 1) := by decide +kernel
theorem d_Bo_closeBlock_15 : decode prog_2_method_5_code 15 = .ok (.getfield 18, 3) := by decide +kernel
theorem d_Bo_closeBlock_18 : decode prog_2_method_5_code 18 = .ok (.iload_n 2, 1) := by decide +kernel
theorem d_Bo_closeBlock_19 : decode prog_2_method_5_code 19 = .ok (.iload_n 1, 1) := by decide +kernel
theorem d_Bo_closeBlock_20 : decode prog_2_method_5_code 20 = .ok (.iastore, 1) := by decide +kernel
theorem d_Bo_closeBlock_21 : decode prog_2_method_5_code 21 = .ok (.iload_n 3, 1) := by decide +kernel
theorem d_Bo_closeBlock_22 : decode prog_2_method_5_code 22 = .ok (.ireturn, 1) := by decide +kernel
def tb_Bo_closeBlock : List pm_I := [
  pm_aload 1 0,
  pm_getr 2 2 2,
  pm_iload 3 1,
  pm_iald 4 0,
  pm_istore 5 3,
  pm_aload 6 0,
  pm_getr 7 2 2,
  pm_iload 8 1,
  pm_iload 9 2,
  pm_iast 10,
  pm_aload 11 0,
  pm_getr 12 2 2,
  pm_iload 13 2,
  pm_iload 14 1,
  pm_iast 15,
  pm_iload 16 3,
  pm_iret]
def bp_Bo_closeBlock : List Nat := [0, 1, 4, 5, 6, 7, 8, 11, 12, 13, 14, 15, 18, 19, 20, 21, 22]
set_option maxRecDepth 100000 in
theorem sd_Bo_closeBlock : pm_Sl prog_2_method_5_code 4 R_Bo "closeBlock" (some .int) pm_Y (pm_b bp_Bo_closeBlock) 0 tb_Bo_closeBlock := by
  refine ⟨so_aloadn d_Bo_closeBlock_0 rfl rfl, ?_⟩
  refine ⟨so_getr (ci := 2) (k := 2) rfl (by decide) rfl rfl fl_Bo_18 d_Bo_closeBlock_1 rfl, ?_⟩
  refine ⟨so_iloadn d_Bo_closeBlock_4 rfl rfl, ?_⟩
  refine ⟨so_iald d_Bo_closeBlock_5 rfl, ?_⟩
  refine ⟨so_istoren d_Bo_closeBlock_6 rfl (by decide) rfl, ?_⟩
  refine ⟨so_aloadn d_Bo_closeBlock_7 rfl rfl, ?_⟩
  refine ⟨so_getr (ci := 2) (k := 2) rfl (by decide) rfl rfl fl_Bo_18 d_Bo_closeBlock_8 rfl, ?_⟩
  refine ⟨so_iloadn d_Bo_closeBlock_11 rfl rfl, ?_⟩
  refine ⟨so_iloadn d_Bo_closeBlock_12 rfl rfl, ?_⟩
  refine ⟨so_iast d_Bo_closeBlock_13 rfl, ?_⟩
  refine ⟨so_aloadn d_Bo_closeBlock_14 rfl rfl, ?_⟩
  refine ⟨so_getr (ci := 2) (k := 2) rfl (by decide) rfl rfl fl_Bo_18 d_Bo_closeBlock_15 rfl, ?_⟩
  refine ⟨so_iloadn d_Bo_closeBlock_18 rfl rfl, ?_⟩
  refine ⟨so_iloadn d_Bo_closeBlock_19 rfl rfl, ?_⟩
  refine ⟨so_iast d_Bo_closeBlock_20 rfl, ?_⟩
  refine ⟨so_iloadn d_Bo_closeBlock_21 rfl rfl, ?_⟩
  refine ⟨so_iret d_Bo_closeBlock_22 rfl, ?_⟩
  exact trivial
theorem d_Bo_clear_0 : decode prog_2_method_2_code 0 = .ok (.aload_n 0, 1) := by decide +kernel
theorem d_Bo_clear_1 : decode prog_2_method_2_code 1 = .ok (.iconst 0, 1) := by decide +kernel
theorem d_Bo_clear_2 : decode prog_2_method_2_code 2 = .ok (.putfield 24, 3) := by decide +kernel
theorem d_Bo_clear_5 : decode prog_2_method_2_code 5 = .ok (.return_, 1) := by decide +kernel
def tb_Bo_clear : List pm_I := [
  pm_aload 1 0,
  pm_const 2 0,
  pm_puti 3 2 4,
  pm_vret]
def bp_Bo_clear : List Nat := [0, 1, 2, 5]
set_option maxRecDepth 100000 in
theorem sd_Bo_clear : pm_Sl prog_2_method_2_code 1 R_Bo "clear" (none) pm_Y (pm_b bp_Bo_clear) 0 tb_Bo_clear := by
  refine ⟨so_aloadn d_Bo_clear_0 rfl rfl, ?_⟩
  refine ⟨so_const1 d_Bo_clear_1 (by decide) rfl, ?_⟩
  refine ⟨so_puti (ci := 2) (k := 4) rfl (by decide) rfl rfl (Or.inl ⟨rfl, fl_Bo_24⟩) d_Bo_clear_2 rfl, ?_⟩
  refine ⟨so_vret d_Bo_clear_5 rfl, ?_⟩
  exact trivial
theorem d_Rl_init_0 : decode prog_5_method_1_code 0 = .ok (.aload_n 0, 1) := by decide +kernel
theorem d_Rl_init_1 : decode prog_5_method_1_code 1 = .ok (.invokespecial 3, 3) := by decide +kernel
theorem d_Rl_init_4 : decode prog_5_method_1_code 4 = .ok (.aload_n 0, 1) := by decide +kernel
theorem d_Rl_init_5 : decode prog_5_method_1_code 5 = .ok (.sipush 256, 3) := by decide +kernel
theorem d_Rl_init_8 : decode prog_5_method_1_code 8 = .ok (.newarray .int, 2) := by decide +kernel
theorem d_Rl_init_10 : decode prog_5_method_1_code 10 = .ok (.putfield 9, 3) := by decide +kernel
theorem d_Rl_init_13 : decode prog_5_method_1_code 13 = .ok (.return_, 1) := by decide +kernel
def tb_Rl_init : List pm_I := [
  pm_aload 1 0,
  pm_oinit 2,
  pm_aload 3 0,
  pm_const 4 256,
  pm_newa 5 0,
  pm_putr 6 4 0,
  pm_vret]
def bp_Rl_init : List Nat := [0, 1, 4, 5, 8, 10, 13]
set_option maxRecDepth 100000 in
theorem sd_Rl_init : pm_Sl prog_5_method_1_code 1 R_Rl "<init>" (none) pm_Y (pm_b bp_Rl_init) 0 tb_Rl_init := by
  refine ⟨so_aloadn d_Rl_init_0 rfl rfl, ?_⟩
  refine ⟨so_oinit (pm_in1 (List.mem_append_left _ (List.mem_of_getElem? (i := 97) rfl))) (pm_in1 (List.mem_append_left _ (List.mem_of_getElem? (i := 19) rfl))) (pm_in1 (List.mem_append_left _ (List.mem_of_getElem? (i := 20) rfl))) d_Rl_init_1 rfl, ?_⟩
  refine ⟨so_aloadn d_Rl_init_4 rfl rfl, ?_⟩
  refine ⟨so_const3 d_Rl_init_5 (by decide) rfl, ?_⟩
  refine ⟨so_newi d_Rl_init_8 rfl, ?_⟩
  refine ⟨so_putr (ci := 4) (k := 0) rfl (by decide) rfl rfl (Or.inr ⟨rfl, rfl, rfl, pm_in1 (List.mem_append_left _ (List.mem_of_getElem? (i := 98) rfl))⟩) d_Rl_init_10 rfl, ?_⟩
  refine ⟨so_vret d_Rl_init_13 rfl, ?_⟩
  exact trivial
theorem d_Rl_clear_0 : decode prog_5_method_2_code 0 = .ok (.aload_n 0, 1) := by decide +kernel
theorem d_Rl_clear_1 : decode prog_5_method_2_code 1 = .ok (.iconst 0, 1) := by decide +kernel
theorem d_Rl_clear_2 : decode prog_5_method_2_code 2 = .ok (.putfield 15, 3) := by decide +kernel
theorem d_Rl_clear_5 : decode prog_5_method_2_code 5 = .ok (.return_, 1) := by decide +kernel
def tb_Rl_clear : List pm_I := [
  pm_aload 1 0,
  pm_const 2 0,
  pm_puti 3 4 1,
  pm_vret]
def bp_Rl_clear : List Nat := [0, 1, 2, 5]
set_option maxRecDepth 100000 in
theorem sd_Rl_clear : pm_Sl prog_5_method_2_code 1 R_Rl "clear" (none) pm_Y (pm_b bp_Rl_clear) 0 tb_Rl_clear := by
  refine ⟨so_aloadn d_Rl_clear_0 rfl rfl, ?_⟩
  refine ⟨so_const1 d_Rl_clear_1 (by decide) rfl, ?_⟩
  refine ⟨so_puti (ci := 4) (k := 1) rfl (by decide) rfl rfl (Or.inl ⟨rfl, fl_Rl_15⟩) d_Rl_clear_2 rfl, ?_⟩
  refine ⟨so_vret d_Rl_clear_5 rfl, ?_⟩
  exact trivial
theorem d_Rl_add_0 : decode prog_5_method_3_code 0 = .ok (.aload_n 0, 1) := by decide +kernel
theorem d_Rl_add_1 : decode prog_5_method_3_code 1 = .ok (.getfield 15, 3) := by decide +kernel
theorem d_Rl_add_4 : decode prog_5_method_3_code 4 = .ok (.bipush 64, 2) := by decide +kernel
theorem d_Rl_add_6 : decode prog_5_method_3_code 6 = .ok (.if_icmp .ge 58, 3) := by decide +kernel
theorem d_Rl_add_9 : decode prog_5_method_3_code 9 = .ok (.aload_n 0, 1) := by decide +kernel
theorem d_Rl_add_10 : decode prog_5_method_3_code 10 = .ok (.getfield 15, 3) := by decide +kernel
theorem d_Rl_add_13 : decode prog_5_method_3_code 13 = .ok (.iconst 4, 1) := by decide +kernel
theorem d_Rl_add_14 : decode prog_5_method_3_code 14 = .ok (.imul, 1) := by decide +kernel
theorem d_Rl_add_15 : decode prog_5_method_3_code 15 = .ok (.istore 5, 2) := by decide +kernel
theorem d_Rl_add_17 : decode prog_5_method_3_code 17 = .ok (.aload_n 0, 1) := by decide +kernel
theorem d_Rl_add_18 : decode prog_5_method_3_code 18 = .ok (.getfield 9, 3) := by decide +kernel
theorem d_Rl_add_21 : decode prog_5_method_3_code 21 = .ok (.iload 5, 2) := by decide +kernel
theorem d_Rl_add_23 : decode prog_5_method_3_code 23 = .ok (.iload_n 1, 1) := by decide +kernel
theorem d_Rl_add_24 : decode prog_5_method_3_code 24 = .ok (.iastore, 1) := by decide +kernel
theorem d_Rl_add_25 : decode prog_5_method_3_code 25 = .ok (.aload_n 0, 1) := by decide +kernel
theorem d_Rl_add_26 : decode prog_5_method_3_code 26 = .ok (.getfield 9, 3) := by decide +kernel
theorem d_Rl_add_29 : decode prog_5_method_3_code 29 = .ok (.iload 5, 2) := by decide +kernel
theorem d_Rl_add_31 : decode prog_5_method_3_code 31 = .ok (.iconst 1, 1) := by decide +kernel
theorem d_Rl_add_32 : decode prog_5_method_3_code 32 = .ok (.iadd, 1) := by decide +kernel
theorem d_Rl_add_33 : decode prog_5_method_3_code 33 = .ok (.iload_n 2, 1) := by decide +kernel
theorem d_Rl_add_34 : decode prog_5_method_3_code 34 = .ok (.iastore, 1) := by decide +kernel
theorem d_Rl_add_35 : decode prog_5_method_3_code 35 = .ok (.aload_n 0, 1) := by decide +kernel
theorem d_Rl_add_36 : decode prog_5_method_3_code 36 = .ok (.getfield 9, 3) := by decide +kernel
theorem d_Rl_add_39 : decode prog_5_method_3_code 39 = .ok (.iload 5, 2) := by decide +kernel
theorem d_Rl_add_41 : decode prog_5_method_3_code 41 = .ok (.iconst 2, 1) := by decide +kernel
theorem d_Rl_add_42 : decode prog_5_method_3_code 42 = .ok (.iadd, 1) := by decide +kernel
theorem d_Rl_add_43 : decode prog_5_method_3_code 43 = .ok (.iload_n 3, 1) := by decide +kernel
theorem d_Rl_add_44 : decode prog_5_method_3_code 44 = .ok (.iastore, 1) := by decide +kernel
theorem d_Rl_add_45 : decode prog_5_method_3_code 45 = .ok (.aload_n 0, 1) := by decide +kernel
theorem d_Rl_add_46 : decode prog_5_method_3_code 46 = .ok (.getfield 9, 3) := by decide +kernel
theorem d_Rl_add_49 : decode prog_5_method_3_code 49 = .ok (.iload 5, 2) := by decide +kernel
theorem d_Rl_add_51 : decode prog_5_method_3_code 51 = .ok (.iconst 3, 1) := by decide +kernel
theorem d_Rl_add_52 : decode prog_5_method_3_code 52 = .ok (.iadd, 1) := by decide +kernel
theorem d_Rl_add_53 : decode prog_5_method_3_code 53 = .ok (.iload 4, 2) := by decide +kernel
theorem d_Rl_add_55 : decode prog_5_method_3_code 55 = .ok (.ifCond .eq 7, 3) := by decide +kernel
theorem d_Rl_add_58 : decode prog_5_method_3_code 58 = .ok (.iconst 1, 1) := by decide +kernel
theorem d_Rl_add_59 : decode prog_5_method_3_code 59 = .ok (.goto 4, 3) := by decide +kernel
theorem d_Rl_add_62 : decode prog_5_method_3_code 62 = .ok (.iconst 0, 1) := by decide +kernel
theorem d_Rl_add_63 : decode prog_5_method_3_code 63 = .ok (.iastore, 1) := by decide +kernel
theorem d_Rl_add_64 : decode prog_5_method_3_code 64 = .ok (.aload_n 0, 1) := by decide +kernel
theorem d_Rl_add_65 : decode prog_5_method_3_code 65 = .ok (.dup, 1) := by decide +kernel
theorem d_Rl_add_66 : decode prog_5_method_3_code 66 = .ok (.getfield 15, 3) := by decide +kernel
theorem d_Rl_add_69 : decode prog_5_method_3_code 69 = .ok (.iconst 1, 1) := by decide +kernel
theorem d_Rl_add_70 : decode prog_5_method_3_code 70 = .ok (.iadd, 1) := by decide +kernel
theorem d_Rl_add_71 : decode prog_5_method_3_code 71 = .ok (.putfield 15, 3) := by decide +kernel
theorem d_Rl_add_74 : decode prog_5_method_3_code 74 = .ok (.return_, 1) := by decide +kernel
def tb_Rl_add : List pm_I := [
  pm_aload 1 0,
  pm_geti 2 4 1,
  pm_const 3 64,
  pm_icmp 39 4 (fun a b => decide (b ≤ a)),
  pm_aload 5 0,
  pm_geti 6 4 1,
  pm_const 7 4,
  pm_bin 8 (fun a b => a * b),
  pm_istore 9 5,
  pm_aload 10 0,
  pm_getr 11 4 0,
  pm_iload 12 5,
  pm_iload 13 1,
  pm_iast 14,
  pm_aload 15 0,
  pm_getr 16 4 0,
  pm_iload 17 5,
  pm_const 18 1,
  pm_bin 19 (fun a b => a + b),
  pm_iload 20 2,
  pm_iast 21,
  pm_aload 22 0,
  pm_getr 23 4 0,
  pm_iload 24 5,
  pm_const 25 2,
  pm_bin 26 (fun a b => a + b),
  pm_iload 27 3,
  pm_iast 28,
  pm_aload 29 0,
  pm_getr 30 4 0,
  pm_iload 31 5,
  pm_const 32 3,
  pm_bin 33 (fun a b => a + b),
  pm_iload 34 4,
  pm_if 37 35 (fun a => decide (a = 0)),
  pm_const 36 1,
  pm_goto 38,
  pm_const 38 0,
  pm_iast 39,
  pm_aload 40 0,
  pm_dup 41,
  pm_geti 42 4 1,
  pm_const 43 1,
  pm_bin 44 (fun a b => a + b),
  pm_puti 45 4 1,
  pm_vret]
def bp_Rl_add : List Nat := [0, 1, 4, 6, 9, 10, 13, 14, 15, 17, 18, 21, 23, 24, 25, 26, 29, 31, 32, 33, 34, 35, 36, 39, 41, 42, 43, 44, 45, 46, 49, 51, 52, 53, 55, 58, 59, 62, 63, 64, 65, 66, 69, 70, 71, 74]
set_option maxRecDepth 100000 in
theorem sd_Rl_add : pm_Sl prog_5_method_3_code 6 R_Rl "add" (none) pm_Y (pm_b bp_Rl_add) 0 tb_Rl_add := by
  refine ⟨so_aloadn d_Rl_add_0 rfl rfl, ?_⟩
  refine ⟨so_geti (ci := 4) (k := 1) rfl (by decide) rfl rfl fl_Rl_15 d_Rl_add_1 rfl, ?_⟩
  refine ⟨so_const2 d_Rl_add_4 (by decide) rfl, ?_⟩
  refine ⟨so_icmp_ge d_Rl_add_6 rfl rfl, ?_⟩
  refine ⟨so_aloadn d_Rl_add_9 rfl rfl, ?_⟩
  refine ⟨so_geti (ci := 4) (k := 1) rfl (by decide) rfl rfl fl_Rl_15 d_Rl_add_10 rfl, ?_⟩
  refine ⟨so_const1 d_Rl_add_13 (by decide) rfl, ?_⟩
  refine ⟨so_imul d_Rl_add_14 rfl, ?_⟩
  refine ⟨so_istore d_Rl_add_15 (by decide) rfl, ?_⟩
  refine ⟨so_aloadn d_Rl_add_17 rfl rfl, ?_⟩
  refine ⟨so_getr (ci := 4) (k := 0) rfl (by decide) rfl rfl fl_Rl_9 d_Rl_add_18 rfl, ?_⟩
  refine ⟨so_iload d_Rl_add_21 rfl, ?_⟩
  refine ⟨so_iloadn d_Rl_add_23 rfl rfl, ?_⟩
  refine ⟨so_iast d_Rl_add_24 rfl, ?_⟩
  refine ⟨so_aloadn d_Rl_add_25 rfl rfl, ?_⟩
  refine ⟨so_getr (ci := 4) (k := 0) rfl (by decide) rfl rfl fl_Rl_9 d_Rl_add_26 rfl, ?_⟩
  refine ⟨so_iload d_Rl_add_29 rfl, ?_⟩
  refine ⟨so_const1 d_Rl_add_31 (by decide) rfl, ?_⟩
  refine ⟨so_iadd d_Rl_add_32 rfl, ?_⟩
  refine ⟨so_iloadn d_Rl_add_33 rfl rfl, ?_⟩
  refine ⟨so_iast d_Rl_add_34 rfl, ?_⟩
  refine ⟨so_aloadn d_Rl_add_35 rfl rfl, ?_⟩
  refine ⟨so_getr (ci := 4) (k := 0) rfl (by decide) rfl rfl fl_Rl_9 d_Rl_add_36 rfl, ?_⟩
  refine ⟨so_iload d_Rl_add_39 rfl, ?_⟩
  refine ⟨so_const1 d_Rl_add_41 (by decide) rfl, ?_⟩
  refine ⟨so_iadd d_Rl_add_42 rfl, ?_⟩
  refine ⟨so_iloadn d_Rl_add_43 rfl rfl, ?_⟩
  refine ⟨so_iast d_Rl_add_44 rfl, ?_⟩
  refine ⟨so_aloadn d_Rl_add_45 rfl rfl, ?_⟩
  refine ⟨so_getr (ci := 4) (k := 0) rfl (by decide) rfl rfl fl_Rl_9 d_Rl_add_46 rfl, ?_⟩
  refine ⟨so_iload d_Rl_add_49 rfl, ?_⟩
  refine ⟨so_const1 d_Rl_add_51 (by decide) rfl, ?_⟩
  refine ⟨so_iadd d_Rl_add_52 rfl, ?_⟩
  refine ⟨so_iload d_Rl_add_53 rfl, ?_⟩
  refine ⟨so_if_eq d_Rl_add_55 rfl rfl, ?_⟩
  refine ⟨so_const1 d_Rl_add_58 (by decide) rfl, ?_⟩
  refine ⟨so_goto d_Rl_add_59 rfl, ?_⟩
  refine ⟨so_const1 d_Rl_add_62 (by decide) rfl, ?_⟩
  refine ⟨so_iast d_Rl_add_63 rfl, ?_⟩
  refine ⟨so_aloadn d_Rl_add_64 rfl rfl, ?_⟩
  refine ⟨so_dup d_Rl_add_65 rfl, ?_⟩
  refine ⟨so_geti (ci := 4) (k := 1) rfl (by decide) rfl rfl fl_Rl_15 d_Rl_add_66 rfl, ?_⟩
  refine ⟨so_const1 d_Rl_add_69 (by decide) rfl, ?_⟩
  refine ⟨so_iadd d_Rl_add_70 rfl, ?_⟩
  refine ⟨so_puti (ci := 4) (k := 1) rfl (by decide) rfl rfl (Or.inl ⟨rfl, fl_Rl_15⟩) d_Rl_add_71 rfl, ?_⟩
  refine ⟨so_vret d_Rl_add_74 rfl, ?_⟩
  exact trivial
theorem d_Rl_part_0 : decode prog_5_method_4_code 0 = .ok (.iload_n 1, 1) := by decide +kernel
theorem d_Rl_part_1 : decode prog_5_method_4_code 1 = .ok (.aload_n 0, 1) := by decide +kernel
theorem d_Rl_part_2 : decode prog_5_method_4_code 2 = .ok (.getfield 15, 3) := by decide +kernel
theorem d_Rl_part_5 : decode prog_5_method_4_code 5 = .ok (.bipush 64, 2) := by decide +kernel
theorem d_Rl_part_7 : decode prog_5_method_4_code 7 = .ok (.invokestatic 19, 3) := by decide +kernel
theorem d_Rl_part_10 : decode prog_5_method_4_code 10 = .ok (.invokestatic 25, 3) := by decide +kernel
theorem d_Rl_part_13 : decode prog_5_method_4_code 13 = .ok (.ifCond .eq 15, 3) := by decide +kernel
theorem d_Rl_part_16 : decode prog_5_method_4_code 16 = .ok (.iload_n 2, 1) := by decide +kernel
theorem d_Rl_part_17 : decode prog_5_method_4_code 17 = .ok (.iconst 4, 1) := by decide +kernel
theorem d_Rl_part_18 : decode prog_5_method_4_code 18 = .ok (.invokestatic 25, 3) := by decide +kernel
theorem d_Rl_part_21 : decode prog_5_method_4_code 21 = .ok (.ifCond .eq 7, 3) := by decide +kernel
theorem d_Rl_part_24 : decode prog_5_method_4_code 24 = .ok (.iconst 1, 1) := by decide +kernel
theorem d_Rl_part_25 : decode prog_5_method_4_code 25 = .ok (.goto 4, 3) := by decide +kernel
theorem d_Rl_part_28 : decode prog_5_method_4_code 28 = .ok (.iconst 0, 1) := by decide +kernel
theorem d_Rl_part_29 : decode prog_5_method_4_code 29 = .ok (.istore_n 3, 1) := by decide +kernel
theorem d_Rl_part_30 : decode prog_5_method_4_code 30 = .ok (.iload_n 3, 1) := by decide +kernel
theorem d_Rl_part_31 : decode prog_5_method_4_code 31 = .ok (.ifCond .eq 16, 3) := by decide +kernel
theorem d_Rl_part_34 : decode prog_5_method_4_code 34 = .ok (.aload_n 0, 1) := by decide +kernel
theorem d_Rl_part_35 : decode prog_5_method_4_code 35 = .ok (.getfield 9, 3) := by decide +kernel
theorem d_Rl_part_38 : decode prog_5_method_4_code 38 = .ok (.iload_n 1, 1) := by decide +kernel
theorem d_Rl_part_39 : decode prog_5_method_4_code 39 = .ok (.iconst 4, 1) := by decide +kernel
theorem d_Rl_part_40 : decode prog_5_method_4_code 40 = .ok (.imul, 1) := by decide +kernel
theorem d_Rl_part_41 : decode prog_5_method_4_code 41 = .ok (.iload_n 2, 1) := by decide +kernel
theorem d_Rl_part_42 : decode prog_5_method_4_code 42 = .ok (.iadd, 1) := by decide +kernel
theorem d_Rl_part_43 : decode prog_5_method_4_code 43 = .ok (.iaload, 1) := by decide +kernel
theorem d_Rl_part_44 : decode prog_5_method_4_code 44 = .ok (.goto 4, 3) := by decide +kernel
theorem d_Rl_part_47 : decode prog_5_method_4_code 47 = .ok (.iconst (-1), 1) := by decide +kernel
theorem d_Rl_part_48 : decode prog_5_method_4_code 48 = .ok (.ireturn, 1) := by decide +kernel
def tb_Rl_part : List pm_I := [
  pm_iload 1 1,
  pm_aload 2 0,
  pm_geti 3 4 1,
  pm_const 4 64,
  pm_min 5,
  pm_calls 6 2 2,
  pm_if 13 7 (fun a => decide (a = 0)),
  pm_iload 8 2,
  pm_const 9 4,
  pm_calls 10 2 2,
  pm_if 13 11 (fun a => decide (a = 0)),
  pm_const 12 1,
  pm_goto 14,
  pm_const 14 0,
  pm_istore 15 3,
  pm_iload 16 3,
  pm_if 26 17 (fun a => decide (a = 0)),
  pm_aload 18 0,
  pm_getr 19 4 0,
  pm_iload 20 1,
  pm_const 21 4,
  pm_bin 22 (fun a b => a * b),
  pm_iload 23 2,
  pm_bin 24 (fun a b => a + b),
  pm_iald 25 0,
  pm_goto 27,
  pm_const 27 (-1),
  pm_iret]
def bp_Rl_part : List Nat := [0, 1, 2, 5, 7, 10, 13, 16, 17, 18, 21, 24, 25, 28, 29, 30, 31, 34, 35, 38, 39, 40, 41, 42, 43, 44, 47, 48]
set_option maxRecDepth 100000 in
theorem sd_Rl_part : pm_Sl prog_5_method_4_code 4 R_Rl "part" (some .int) pm_Y (pm_b bp_Rl_part) 0 tb_Rl_part := by
  refine ⟨so_iloadn d_Rl_part_0 rfl rfl, ?_⟩
  refine ⟨so_aloadn d_Rl_part_1 rfl rfl, ?_⟩
  refine ⟨so_geti (ci := 4) (k := 1) rfl (by decide) rfl rfl fl_Rl_15 d_Rl_part_2 rfl, ?_⟩
  refine ⟨so_const2 d_Rl_part_5 (by decide) rfl, ?_⟩
  refine ⟨so_min (pm_in1 (List.mem_append_right _ (List.mem_append_left _ (List.mem_of_getElem? (i := 209) rfl)))) (pm_in1 (List.mem_append_right _ (List.mem_append_left _ (List.mem_of_getElem? (i := 210) rfl)))) (pm_in1 (List.mem_append_left _ (List.mem_of_getElem? (i := 11) rfl))) (pm_in1 (List.mem_append_right _ (List.mem_append_left _ (List.mem_of_getElem? (i := 211) rfl)))) d_Rl_part_7 rfl, ?_⟩
  refine ⟨so_calls rfl mc_Lo_isBelow mi_Lo mt_Lo_isBelow ml_Rl_25 yd_Lo_isBelow (by decide) d_Rl_part_10 rfl, ?_⟩
  refine ⟨so_if_eq d_Rl_part_13 rfl rfl, ?_⟩
  refine ⟨so_iloadn d_Rl_part_16 rfl rfl, ?_⟩
  refine ⟨so_const1 d_Rl_part_17 (by decide) rfl, ?_⟩
  refine ⟨so_calls rfl mc_Lo_isBelow mi_Lo mt_Lo_isBelow ml_Rl_25 yd_Lo_isBelow (by decide) d_Rl_part_18 rfl, ?_⟩
  refine ⟨so_if_eq d_Rl_part_21 rfl rfl, ?_⟩
  refine ⟨so_const1 d_Rl_part_24 (by decide) rfl, ?_⟩
  refine ⟨so_goto d_Rl_part_25 rfl, ?_⟩
  refine ⟨so_const1 d_Rl_part_28 (by decide) rfl, ?_⟩
  refine ⟨so_istoren d_Rl_part_29 rfl (by decide) rfl, ?_⟩
  refine ⟨so_iloadn d_Rl_part_30 rfl rfl, ?_⟩
  refine ⟨so_if_eq d_Rl_part_31 rfl rfl, ?_⟩
  refine ⟨so_aloadn d_Rl_part_34 rfl rfl, ?_⟩
  refine ⟨so_getr (ci := 4) (k := 0) rfl (by decide) rfl rfl fl_Rl_9 d_Rl_part_35 rfl, ?_⟩
  refine ⟨so_iloadn d_Rl_part_38 rfl rfl, ?_⟩
  refine ⟨so_const1 d_Rl_part_39 (by decide) rfl, ?_⟩
  refine ⟨so_imul d_Rl_part_40 rfl, ?_⟩
  refine ⟨so_iloadn d_Rl_part_41 rfl rfl, ?_⟩
  refine ⟨so_iadd d_Rl_part_42 rfl, ?_⟩
  refine ⟨so_iald d_Rl_part_43 rfl, ?_⟩
  refine ⟨so_goto d_Rl_part_44 rfl, ?_⟩
  refine ⟨so_const1 d_Rl_part_47 (by decide) rfl, ?_⟩
  refine ⟨so_iret d_Rl_part_48 rfl, ?_⟩
  exact trivial
theorem d_Ar_fill_0 : decode prog_13_method_103_code 0 = .ok (.iconst 0, 1) := by decide +kernel
theorem d_Ar_fill_1 : decode prog_13_method_103_code 1 = .ok (.istore_n 2, 1) := by decide +kernel
theorem d_Ar_fill_2 : decode prog_13_method_103_code 2 = .ok (.aload_n 0, 1) := by decide +kernel
theorem d_Ar_fill_3 : decode prog_13_method_103_code 3 = .ok (.arraylength, 1) := by decide +kernel
theorem d_Ar_fill_4 : decode prog_13_method_103_code 4 = .ok (.istore_n 3, 1) := by decide +kernel
theorem d_Ar_fill_5 : decode prog_13_method_103_code 5 = .ok (.iload_n 2, 1) := by decide +kernel
theorem d_Ar_fill_6 : decode prog_13_method_103_code 6 = .ok (.iload_n 3, 1) := by decide +kernel
theorem d_Ar_fill_7 : decode prog_13_method_103_code 7 = .ok (.if_icmp .ge 13, 3) := by decide +kernel
theorem d_Ar_fill_10 : decode prog_13_method_103_code 10 = .ok (.aload_n 0, 1) := by decide +kernel
theorem d_Ar_fill_11 : decode prog_13_method_103_code 11 = .ok (.iload_n 2, 1) := by decide +kernel
theorem d_Ar_fill_12 : decode prog_13_method_103_code 12 = .ok (.iload_n 1, 1) := by decide +kernel
theorem d_Ar_fill_13 : decode prog_13_method_103_code 13 = .ok (.iastore, 1) := by decide +kernel
theorem d_Ar_fill_14 : decode prog_13_method_103_code 14 = .ok (.iinc 2 1, 3) := by decide +kernel
theorem d_Ar_fill_17 : decode prog_13_method_103_code 17 = .ok (.goto (-12), 3) := by decide +kernel
theorem d_Ar_fill_20 : decode prog_13_method_103_code 20 = .ok (.return_, 1) := by decide +kernel
def tb_Ar_fill : List pm_I := [
  pm_const 1 0,
  pm_istore 2 2,
  pm_aload 3 0,
  pm_alen 4 0,
  pm_istore 5 3,
  pm_iload 6 2,
  pm_iload 7 3,
  pm_icmp 14 8 (fun a b => decide (b ≤ a)),
  pm_aload 9 0,
  pm_iload 10 2,
  pm_iload 11 1,
  pm_iast 12,
  pm_iinc 13 2 1,
  pm_goto 5,
  pm_vret]
def bp_Ar_fill : List Nat := [0, 1, 2, 3, 4, 5, 6, 7, 10, 11, 12, 13, 14, 17, 20]
set_option maxRecDepth 100000 in
theorem sd_Ar_fill : pm_Sl prog_13_method_103_code 4 R_Ar "fill" (none) pm_Y (pm_b bp_Ar_fill) 0 tb_Ar_fill := by
  refine ⟨so_const1 d_Ar_fill_0 (by decide) rfl, ?_⟩
  refine ⟨so_istoren d_Ar_fill_1 rfl (by decide) rfl, ?_⟩
  refine ⟨so_aloadn d_Ar_fill_2 rfl rfl, ?_⟩
  refine ⟨so_alen rfl (by decide) d_Ar_fill_3 rfl, ?_⟩
  refine ⟨so_istoren d_Ar_fill_4 rfl (by decide) rfl, ?_⟩
  refine ⟨so_iloadn d_Ar_fill_5 rfl rfl, ?_⟩
  refine ⟨so_iloadn d_Ar_fill_6 rfl rfl, ?_⟩
  refine ⟨so_icmp_ge d_Ar_fill_7 rfl rfl, ?_⟩
  refine ⟨so_aloadn d_Ar_fill_10 rfl rfl, ?_⟩
  refine ⟨so_iloadn d_Ar_fill_11 rfl rfl, ?_⟩
  refine ⟨so_iloadn d_Ar_fill_12 rfl rfl, ?_⟩
  refine ⟨so_iast d_Ar_fill_13 rfl, ?_⟩
  refine ⟨so_iinc d_Ar_fill_14 (by decide) (by decide) rfl, ?_⟩
  refine ⟨so_goto d_Ar_fill_17 rfl, ?_⟩
  refine ⟨so_vret d_Ar_fill_20 rfl, ?_⟩
  exact trivial
