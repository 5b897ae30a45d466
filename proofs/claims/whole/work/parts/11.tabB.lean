theorem d_Ru_init_0 : decode prog_6_method_1_code 0 = .ok (.aload_n 0, 1) := by decide +kernel
theorem d_Ru_init_1 : decode prog_6_method_1_code 1 = .ok (.invokespecial 3, 3) := by decide +kernel
theorem d_Ru_init_4 : decode prog_6_method_1_code 4 = .ok (.aload_n 0, 1) := by decide +kernel
theorem d_Ru_init_5 : decode prog_6_method_1_code 5 = .ok (.bipush 6, 2) := by decide +kernel
theorem d_Ru_init_7 : decode prog_6_method_1_code 7 = .ok (.anewarray 9, 3) := by decide +kernel
theorem d_Ru_init_10 : decode prog_6_method_1_code 10 = .ok (.putfield 11, 3) := by decide +kernel
theorem d_Ru_init_13 : decode prog_6_method_1_code 13 = .ok (.aload_n 0, 1) := by decide +kernel
theorem d_Ru_init_14 : decode prog_6_method_1_code 14 = .ok (.iconst 4, 1) := by decide +kernel
theorem d_Ru_init_15 : decode prog_6_method_1_code 15 = .ok (.anewarray 17, 3) := by decide +kernel
theorem d_Ru_init_18 : decode prog_6_method_1_code 18 = .ok (.putfield 19, 3) := by decide +kernel
theorem d_Ru_init_21 : decode prog_6_method_1_code 21 = .ok (.aload_n 0, 1) := by decide +kernel
theorem d_Ru_init_22 : decode prog_6_method_1_code 22 = .ok (.bipush 8, 2) := by decide +kernel
theorem d_Ru_init_24 : decode prog_6_method_1_code 24 = .ok (.anewarray 23, 3) := by decide +kernel
theorem d_Ru_init_27 : decode prog_6_method_1_code 27 = .ok (.putfield 25, 3) := by decide +kernel
theorem d_Ru_init_30 : decode prog_6_method_1_code 30 = .ok (.aload_n 0, 1) := by decide +kernel
theorem d_Ru_init_31 : decode prog_6_method_1_code 31 = .ok (.new 29, 3) := by decide +kernel
theorem d_Ru_init_34 : decode prog_6_method_1_code 34 = .ok (.dup, 1) := by decide +kernel
theorem d_Ru_init_35 : decode prog_6_method_1_code 35 = .ok (.invokespecial 31, 3) := by decide +kernel
theorem d_Ru_init_38 : decode prog_6_method_1_code 38 = .ok (.putfield 32, 3) := by decide +kernel
theorem d_Ru_init_41 : decode prog_6_method_1_code 41 = .ok (.aload_n 0, 1) := by decide +kernel
theorem d_Ru_init_42 : decode prog_6_method_1_code 42 = .ok (.aload_n 1, 1) := by decide +kernel
theorem d_Ru_init_43 : decode prog_6_method_1_code 43 = .ok (.putfield 36, 3) := by decide +kernel
theorem d_Ru_init_46 : decode prog_6_method_1_code 46 = .ok (.iconst 0, 1) := by decide +kernel
theorem d_Ru_init_47 : decode prog_6_method_1_code 47 = .ok (.istore_n 2, 1) := by decide +kernel
theorem d_Ru_init_48 : decode prog_6_method_1_code 48 = .ok (.iload_n 2, 1) := by decide +kernel
theorem d_Ru_init_49 : decode prog_6_method_1_code 49 = .ok (.bipush 6, 2) := by decide +kernel
theorem d_Ru_init_51 : decode prog_6_method_1_code 51 = .ok (.if_icmp .ge 23, 3) := by decide +kernel
theorem d_Ru_init_54 : decode prog_6_method_1_code 54 = .ok (.aload_n 0, 1) := by decide +kernel
theorem d_Ru_init_55 : decode prog_6_method_1_code 55 = .ok (.getfield 11, 3) := by decide +kernel
theorem d_Ru_init_58 : decode prog_6_method_1_code 58 = .ok (.iload_n 2, 1) := by decide +kernel
theorem d_Ru_init_59 : decode prog_6_method_1_code 59 = .ok (.new 9, 3) := by decide +kernel
theorem d_Ru_init_62 : decode prog_6_method_1_code 62 = .ok (.dup, 1) := by decide +kernel
theorem d_Ru_init_63 : decode prog_6_method_1_code 63 = .ok (.iload_n 2, 1) := by decide +kernel
theorem d_Ru_init_64 : decode prog_6_method_1_code 64 = .ok (.invokespecial 40, 3) := by decide +kernel
theorem d_Ru_init_67 : decode prog_6_method_1_code 67 = .ok (.aastore, 1) := by decide +kernel
theorem d_Ru_init_68 : decode prog_6_method_1_code 68 = .ok (.iinc 2 1, 3) := by decide +kernel
theorem d_Ru_init_71 : decode prog_6_method_1_code 71 = .ok (.goto (-23), 3) := by decide +kernel
theorem d_Ru_init_74 : decode prog_6_method_1_code 74 = .ok (.iconst 0, 1) := by decide +kernel
theorem d_Ru_init_75 : decode prog_6_method_1_code 75 = .ok (.istore_n 2, 1) := by decide +kernel
theorem d_Ru_init_76 : decode prog_6_method_1_code 76 = .ok (.iload_n 2, 1) := by decide +kernel
theorem d_Ru_init_77 : decode prog_6_method_1_code 77 = .ok (.iconst 4, 1) := by decide +kernel
theorem d_Ru_init_78 : decode prog_6_method_1_code 78 = .ok (.if_icmp .ge 22, 3) := by decide +kernel
theorem d_Ru_init_81 : decode prog_6_method_1_code 81 = .ok (.aload_n 0, 1) := by decide +kernel
theorem d_Ru_init_82 : decode prog_6_method_1_code 82 = .ok (.getfield 19, 3) := by decide +kernel
theorem d_Ru_init_85 : decode prog_6_method_1_code 85 = .ok (.iload_n 2, 1) := by decide +kernel
theorem d_Ru_init_86 : decode prog_6_method_1_code 86 = .ok (.new 17, 3) := by decide +kernel
theorem d_Ru_init_89 : decode prog_6_method_1_code 89 = .ok (.dup, 1) := by decide +kernel
theorem d_Ru_init_90 : decode prog_6_method_1_code 90 = .ok (.invokespecial 43, 3) := by decide +kernel
theorem d_Ru_init_93 : decode prog_6_method_1_code 93 = .ok (.aastore, 1) := by decide +kernel
theorem d_Ru_init_94 : decode prog_6_method_1_code 94 = .ok (.iinc 2 1, 3) := by decide +kernel
theorem d_Ru_init_97 : decode prog_6_method_1_code 97 = .ok (.goto (-21), 3) := by decide +kernel
theorem d_Ru_init_100 : decode prog_6_method_1_code 100 = .ok (.iconst 0, 1) := by decide +kernel
theorem d_Ru_init_101 : decode prog_6_method_1_code 101 = .ok (.istore_n 2, 1) := by decide +kernel
theorem d_Ru_init_102 : decode prog_6_method_1_code 102 = .ok (.iload_n 2, 1) := by decide +kernel
theorem d_Ru_init_103 : decode prog_6_method_1_code 103 = .ok (.bipush 8, 2) := by decide +kernel
theorem d_Ru_init_105 : decode prog_6_method_1_code 105 = .ok (.if_icmp .ge 22, 3) := by decide +kernel
theorem d_Ru_init_108 : decode prog_6_method_1_code 108 = .ok (.aload_n 0, 1) := by decide +kernel
theorem d_Ru_init_109 : decode prog_6_method_1_code 109 = .ok (.getfield 25, 3) := by decide +kernel
theorem d_Ru_init_112 : decode prog_6_method_1_code 112 = .ok (.iload_n 2, 1) := by decide +kernel
theorem d_Ru_init_113 : decode prog_6_method_1_code 113 = .ok (.new 23, 3) := by decide +kernel
theorem d_Ru_init_116 : decode prog_6_method_1_code 116 = .ok (.dup, 1) := by decide +kernel
theorem d_Ru_init_117 : decode prog_6_method_1_code 117 = .ok (.invokespecial 44, 3) := by decide +kernel
theorem d_Ru_init_120 : decode prog_6_method_1_code 120 = .ok (.aastore, 1) := by decide +kernel
theorem d_Ru_init_121 : decode prog_6_method_1_code 121 = .ok (.iinc 2 1, 3) := by decide +kernel
theorem d_Ru_init_124 : decode prog_6_method_1_code 124 = .ok (.goto (-22), 3) := by decide +kernel
theorem d_Ru_init_127 : decode prog_6_method_1_code 127 = .ok (.return_, 1) := by decide +kernel
def tb_Ru_init : List pm_I := [
  pm_aload 1 0,
  pm_oinit 2,
  pm_aload 3 0,
  pm_const 4 6,
  pm_newa 5 3,
  pm_putr 6 3 1,
  pm_aload 7 0,
  pm_const 8 4,
  pm_newa 9 4,
  pm_putr 10 3 2,
  pm_aload 11 0,
  pm_const 12 8,
  pm_newa 13 5,
  pm_putr 14 3 3,
  pm_aload 15 0,
  pm_newo 16 4 2,
  pm_dup 17,
  pm_callc 18 51 1,
  pm_putr 19 3 4,
  pm_aload 20 0,
  pm_aload 21 1,
  pm_putr 22 3 0,
  pm_const 23 0,
  pm_istore 24 2,
  pm_iload 25 2,
  pm_const 26 6,
  pm_icmp 37 27 (fun a b => decide (b ≤ a)),
  pm_aload 28 0,
  pm_getr 29 3 1,
  pm_iload 30 2,
  pm_newo 31 5 6,
  pm_dup 32,
  pm_iload 33 2,
  pm_callc 34 55 2,
  pm_aast 35 3 5,
  pm_iinc 36 2 1,
  pm_goto 24,
  pm_const 38 0,
  pm_istore 39 2,
  pm_iload 40 2,
  pm_const 41 4,
  pm_icmp 51 42 (fun a b => decide (b ≤ a)),
  pm_aload 43 0,
  pm_getr 44 3 2,
  pm_iload 45 2,
  pm_newo 46 6 3,
  pm_dup 47,
  pm_callc 48 61 1,
  pm_aast 49 4 6,
  pm_iinc 50 2 1,
  pm_goto 39,
  pm_const 52 0,
  pm_istore 53 2,
  pm_iload 54 2,
  pm_const 55 8,
  pm_icmp 65 56 (fun a b => decide (b ≤ a)),
  pm_aload 57 0,
  pm_getr 58 3 3,
  pm_iload 59 2,
  pm_newo 60 7 3,
  pm_dup 61,
  pm_callc 62 66 1,
  pm_aast 63 5 7,
  pm_iinc 64 2 1,
  pm_goto 53,
  pm_vret]
def bp_Ru_init : List Nat := [0, 1, 4, 5, 7, 10, 13, 14, 15, 18, 21, 22, 24, 27, 30, 31, 34, 35, 38, 41, 42, 43, 46, 47, 48, 49, 51, 54, 55, 58, 59, 62, 63, 64, 67, 68, 71, 74, 75, 76, 77, 78, 81, 82, 85, 86, 89, 90, 93, 94, 97, 100, 101, 102, 103, 105, 108, 109, 112, 113, 116, 117, 120, 121, 124, 127]
set_option maxRecDepth 100000 in
theorem sd_Ru_init : pm_Sl prog_6_method_1_code 3 R_Ru "<init>" (none) pm_Y (pm_b bp_Ru_init) 0 tb_Ru_init := by
  refine ⟨so_aloadn d_Ru_init_0 rfl rfl, ?_⟩
  refine ⟨so_oinit (pm_in1 (List.mem_append_left _ (List.mem_of_getElem? (i := 85) rfl))) (pm_in1 (List.mem_append_left _ (List.mem_of_getElem? (i := 19) rfl))) (pm_in1 (List.mem_append_left _ (List.mem_of_getElem? (i := 20) rfl))) d_Ru_init_1 rfl, ?_⟩
  refine ⟨so_aloadn d_Ru_init_4 rfl rfl, ?_⟩
  refine ⟨so_const2 d_Ru_init_5 (by decide) rfl, ?_⟩
  refine ⟨so_anew rfl (by decide) (fun _ => rfl) (pm_in1 (List.mem_append_left _ (List.mem_of_getElem? (i := 86) rfl))) d_Ru_init_7 rfl, ?_⟩
  refine ⟨so_putr (ci := 3) (k := 1) rfl (by decide) rfl rfl (Or.inr ⟨rfl, rfl, rfl, pm_in1 (List.mem_append_left _ (List.mem_of_getElem? (i := 173) rfl))⟩) d_Ru_init_10 rfl, ?_⟩
  refine ⟨so_aloadn d_Ru_init_13 rfl rfl, ?_⟩
  refine ⟨so_const1 d_Ru_init_14 (by decide) rfl, ?_⟩
  refine ⟨so_anew rfl (by decide) (fun _ => rfl) (pm_in1 (List.mem_append_left _ (List.mem_of_getElem? (i := 88) rfl))) d_Ru_init_15 rfl, ?_⟩
  refine ⟨so_putr (ci := 3) (k := 2) rfl (by decide) rfl rfl (Or.inr ⟨rfl, rfl, rfl, pm_in1 (List.mem_append_left _ (List.mem_of_getElem? (i := 174) rfl))⟩) d_Ru_init_18 rfl, ?_⟩
  refine ⟨so_aloadn d_Ru_init_21 rfl rfl, ?_⟩
  refine ⟨so_const2 d_Ru_init_22 (by decide) rfl, ?_⟩
  refine ⟨so_anew rfl (by decide) (fun _ => rfl) (pm_in1 (List.mem_append_left _ (List.mem_of_getElem? (i := 90) rfl))) d_Ru_init_24 rfl, ?_⟩
  refine ⟨so_putr (ci := 3) (k := 3) rfl (by decide) rfl rfl (Or.inr ⟨rfl, rfl, rfl, pm_in1 (List.mem_append_left _ (List.mem_of_getElem? (i := 175) rfl))⟩) d_Ru_init_27 rfl, ?_⟩
  refine ⟨so_aloadn d_Ru_init_30 rfl rfl, ?_⟩
  refine ⟨so_newo (ci := 4) rfl (by decide +kernel) (pm_in1 (List.mem_append_left _ (List.mem_of_getElem? (i := 92) rfl))) (pm_in1 (List.mem_append_left _ (List.mem_of_getElem? (i := 93) rfl))) (pm_in1 (List.mem_append_left _ (List.mem_of_getElem? (i := 6) rfl))) d_Ru_init_31 rfl, ?_⟩
  refine ⟨so_dup d_Ru_init_34 rfl, ?_⟩
  refine ⟨so_callc rfl rfl mc_Rl_init mi_Rl mj_Rl_init ml_Ru_31 yd_Rl_init (by decide) d_Ru_init_35 rfl, ?_⟩
  refine ⟨so_putr (ci := 3) (k := 4) rfl (by decide) rfl rfl (Or.inr ⟨rfl, rfl, rfl, pm_in1 (List.mem_append_left _ (List.mem_of_getElem? (i := 176) rfl))⟩) d_Ru_init_38 rfl, ?_⟩
  refine ⟨so_aloadn d_Ru_init_41 rfl rfl, ?_⟩
  refine ⟨so_aloadn d_Ru_init_42 rfl rfl, ?_⟩
  refine ⟨so_putr (ci := 3) (k := 0) rfl (by decide) rfl rfl (Or.inr ⟨rfl, rfl, rfl, pm_in1 (List.mem_append_left _ (List.mem_of_getElem? (i := 172) rfl))⟩) d_Ru_init_43 rfl, ?_⟩
  refine ⟨so_const1 d_Ru_init_46 (by decide) rfl, ?_⟩
  refine ⟨so_istoren d_Ru_init_47 rfl (by decide) rfl, ?_⟩
  refine ⟨so_iloadn d_Ru_init_48 rfl rfl, ?_⟩
  refine ⟨so_const2 d_Ru_init_49 (by decide) rfl, ?_⟩
  refine ⟨so_icmp_ge d_Ru_init_51 rfl rfl, ?_⟩
  refine ⟨so_aloadn d_Ru_init_54 rfl rfl, ?_⟩
  refine ⟨so_getr (ci := 3) (k := 1) rfl (by decide) rfl rfl fl_Ru_11 d_Ru_init_55 rfl, ?_⟩
  refine ⟨so_iloadn d_Ru_init_58 rfl rfl, ?_⟩
  refine ⟨so_newo (ci := 5) rfl (by decide +kernel) (pm_in1 (List.mem_append_left _ (List.mem_of_getElem? (i := 86) rfl))) (pm_in1 (List.mem_append_left _ (List.mem_of_getElem? (i := 106) rfl))) (pm_in1 (List.mem_append_left _ (List.mem_of_getElem? (i := 7) rfl))) d_Ru_init_59 rfl, ?_⟩
  refine ⟨so_dup d_Ru_init_62 rfl, ?_⟩
  refine ⟨so_iloadn d_Ru_init_63 rfl rfl, ?_⟩
  refine ⟨so_callc rfl rfl mc_Sd_init mi_Sd mj_Sd_init ml_Ru_40 yd_Sd_init (by decide) d_Ru_init_64 rfl, ?_⟩
  refine ⟨so_aast rfl rfl (by decide) (fun _ => rfl) d_Ru_init_67 rfl, ?_⟩
  refine ⟨so_iinc d_Ru_init_68 (by decide) (by decide) rfl, ?_⟩
  refine ⟨so_goto d_Ru_init_71 rfl, ?_⟩
  refine ⟨so_const1 d_Ru_init_74 (by decide) rfl, ?_⟩
  refine ⟨so_istoren d_Ru_init_75 rfl (by decide) rfl, ?_⟩
  refine ⟨so_iloadn d_Ru_init_76 rfl rfl, ?_⟩
  refine ⟨so_const1 d_Ru_init_77 (by decide) rfl, ?_⟩
  refine ⟨so_icmp_ge d_Ru_init_78 rfl rfl, ?_⟩
  refine ⟨so_aloadn d_Ru_init_81 rfl rfl, ?_⟩
  refine ⟨so_getr (ci := 3) (k := 2) rfl (by decide) rfl rfl fl_Ru_19 d_Ru_init_82 rfl, ?_⟩
  refine ⟨so_iloadn d_Ru_init_85 rfl rfl, ?_⟩
  refine ⟨so_newo (ci := 6) rfl (by decide +kernel) (pm_in1 (List.mem_append_left _ (List.mem_of_getElem? (i := 88) rfl))) (pm_in1 (List.mem_append_left _ (List.mem_of_getElem? (i := 138) rfl))) (pm_in1 (List.mem_append_left _ (List.mem_of_getElem? (i := 8) rfl))) d_Ru_init_86 rfl, ?_⟩
  refine ⟨so_dup d_Ru_init_89 rfl, ?_⟩
  refine ⟨so_callc rfl rfl mc_Lk_init mi_Lk mj_Lk_init ml_Ru_43 yd_Lk_init (by decide) d_Ru_init_90 rfl, ?_⟩
  refine ⟨so_aast rfl rfl (by decide) (fun _ => rfl) d_Ru_init_93 rfl, ?_⟩
  refine ⟨so_iinc d_Ru_init_94 (by decide) (by decide) rfl, ?_⟩
  refine ⟨so_goto d_Ru_init_97 rfl, ?_⟩
  refine ⟨so_const1 d_Ru_init_100 (by decide) rfl, ?_⟩
  refine ⟨so_istoren d_Ru_init_101 rfl (by decide) rfl, ?_⟩
  refine ⟨so_iloadn d_Ru_init_102 rfl rfl, ?_⟩
  refine ⟨so_const2 d_Ru_init_103 (by decide) rfl, ?_⟩
  refine ⟨so_icmp_ge d_Ru_init_105 rfl rfl, ?_⟩
  refine ⟨so_aloadn d_Ru_init_108 rfl rfl, ?_⟩
  refine ⟨so_getr (ci := 3) (k := 3) rfl (by decide) rfl rfl fl_Ru_25 d_Ru_init_109 rfl, ?_⟩
  refine ⟨so_iloadn d_Ru_init_112 rfl rfl, ?_⟩
  refine ⟨so_newo (ci := 7) rfl (by decide +kernel) (pm_in1 (List.mem_append_left _ (List.mem_of_getElem? (i := 90) rfl))) (pm_in1 (List.mem_append_left _ (List.mem_of_getElem? (i := 154) rfl))) (pm_in1 (List.mem_append_left _ (List.mem_of_getElem? (i := 9) rfl))) d_Ru_init_113 rfl, ?_⟩
  refine ⟨so_dup d_Ru_init_116 rfl, ?_⟩
  refine ⟨so_callc rfl rfl mc_Ce_init mi_Ce mj_Ce_init ml_Ru_44 yd_Ce_init (by decide) d_Ru_init_117 rfl, ?_⟩
  refine ⟨so_aast rfl rfl (by decide) (fun _ => rfl) d_Ru_init_120 rfl, ?_⟩
  refine ⟨so_iinc d_Ru_init_121 (by decide) (by decide) rfl, ?_⟩
  refine ⟨so_goto d_Ru_init_124 rfl, ?_⟩
  refine ⟨so_vret d_Ru_init_127 rfl, ?_⟩
  exact trivial
theorem d_Ru_begin_0 : decode prog_6_method_2_code 0 = .ok (.iconst 0, 1) := by decide +kernel
theorem d_Ru_begin_1 : decode prog_6_method_2_code 1 = .ok (.istore_n 3, 1) := by decide +kernel
theorem d_Ru_begin_2 : decode prog_6_method_2_code 2 = .ok (.iload_n 3, 1) := by decide +kernel
theorem d_Ru_begin_3 : decode prog_6_method_2_code 3 = .ok (.iconst 4, 1) := by decide +kernel
theorem d_Ru_begin_4 : decode prog_6_method_2_code 4 = .ok (.if_icmp .ge 18, 3) := by decide +kernel
theorem d_Ru_begin_7 : decode prog_6_method_2_code 7 = .ok (.aload_n 0, 1) := by decide +kernel
theorem d_Ru_begin_8 : decode prog_6_method_2_code 8 = .ok (.getfield 19, 3) := by decide +kernel
theorem d_Ru_begin_11 : decode prog_6_method_2_code 11 = .ok (.iload_n 3, 1) := by decide +kernel
theorem d_Ru_begin_12 : decode prog_6_method_2_code 12 = .ok (.aaload, 1) := by decide +kernel
theorem d_Ru_begin_13 : decode prog_6_method_2_code 13 = .ok (.invokevirtual 45, 3) := by decide +kernel
theorem d_Ru_begin_16 : decode prog_6_method_2_code 16 = .ok (.iinc 3 1, 3) := by decide +kernel
theorem d_Ru_begin_19 : decode prog_6_method_2_code 19 = .ok (.goto (-17), 3) := by decide +kernel
theorem d_Ru_begin_22 : decode prog_6_method_2_code 22 = .ok (.iconst 0, 1) := by decide +kernel
theorem d_Ru_begin_23 : decode prog_6_method_2_code 23 = .ok (.istore_n 3, 1) := by decide +kernel
theorem d_Ru_begin_24 : decode prog_6_method_2_code 24 = .ok (.iload_n 3, 1) := by decide +kernel
theorem d_Ru_begin_25 : decode prog_6_method_2_code 25 = .ok (.bipush 8, 2) := by decide +kernel
theorem d_Ru_begin_27 : decode prog_6_method_2_code 27 = .ok (.if_icmp .ge 18, 3) := by decide +kernel
theorem d_Ru_begin_30 : decode prog_6_method_2_code 30 = .ok (.aload_n 0, 1) := by decide +kernel
theorem d_Ru_begin_31 : decode prog_6_method_2_code 31 = .ok (.getfield 25, 3) := by decide +kernel
theorem d_Ru_begin_34 : decode prog_6_method_2_code 34 = .ok (.iload_n 3, 1) := by decide +kernel
theorem d_Ru_begin_35 : decode prog_6_method_2_code 35 = .ok (.aaload, 1) := by decide +kernel
theorem d_Ru_begin_36 : decode prog_6_method_2_code 36 = .ok (.invokevirtual 48, 3) := by decide +kernel
theorem d_Ru_begin_39 : decode prog_6_method_2_code 39 = .ok (.iinc 3 1, 3) := by decide +kernel
theorem d_Ru_begin_42 : decode prog_6_method_2_code 42 = .ok (.goto (-18), 3) := by decide +kernel
theorem d_Ru_begin_45 : decode prog_6_method_2_code 45 = .ok (.aload_n 0, 1) := by decide +kernel
theorem d_Ru_begin_46 : decode prog_6_method_2_code 46 = .ok (.getfield 32, 3) := by decide +kernel
theorem d_Ru_begin_49 : decode prog_6_method_2_code 49 = .ok (.invokevirtual 49, 3) := by decide +kernel
theorem d_Ru_begin_52 : decode prog_6_method_2_code 52 = .ok (.aload_n 0, 1) := by decide +kernel
theorem d_Ru_begin_53 : decode prog_6_method_2_code 53 = .ok (.iconst 0, 1) := by decide +kernel
theorem d_Ru_begin_54 : decode prog_6_method_2_code 54 = .ok (.putfield 50, 3) := by decide +kernel
theorem d_Ru_begin_57 : decode prog_6_method_2_code 57 = .ok (.aload_n 0, 1) := by decide +kernel
theorem d_Ru_begin_58 : decode prog_6_method_2_code 58 = .ok (.iconst 1, 1) := by decide +kernel
theorem d_Ru_begin_59 : decode prog_6_method_2_code 59 = .ok (.putfield 54, 3) := by decide +kernel
theorem d_Ru_begin_62 : decode prog_6_method_2_code 62 = .ok (.aload_n 0, 1) := by decide +kernel
theorem d_Ru_begin_63 : decode prog_6_method_2_code 63 = .ok (.getfield 11, 3) := by decide +kernel
theorem d_Ru_begin_66 : decode prog_6_method_2_code 66 = .ok (.iconst 0, 1) := by decide +kernel
theorem d_Ru_begin_67 : decode prog_6_method_2_code 67 = .ok (.aaload, 1) := by decide +kernel
theorem d_Ru_begin_68 : decode prog_6_method_2_code 68 = .ok (.getfield 57, 3) := by decide +kernel
theorem d_Ru_begin_71 : decode prog_6_method_2_code 71 = .ok (.iconst 0, 1) := by decide +kernel
theorem d_Ru_begin_72 : decode prog_6_method_2_code 72 = .ok (.invokestatic 61, 3) := by decide +kernel
theorem d_Ru_begin_75 : decode prog_6_method_2_code 75 = .ok (.aload_n 0, 1) := by decide +kernel
theorem d_Ru_begin_76 : decode prog_6_method_2_code 76 = .ok (.getfield 11, 3) := by decide +kernel
theorem d_Ru_begin_79 : decode prog_6_method_2_code 79 = .ok (.iconst 0, 1) := by decide +kernel
theorem d_Ru_begin_80 : decode prog_6_method_2_code 80 = .ok (.aaload, 1) := by decide +kernel
theorem d_Ru_begin_81 : decode prog_6_method_2_code 81 = .ok (.iload_n 1, 1) := by decide +kernel
theorem d_Ru_begin_82 : decode prog_6_method_2_code 82 = .ok (.iload_n 2, 1) := by decide +kernel
theorem d_Ru_begin_83 : decode prog_6_method_2_code 83 = .ok (.invokevirtual 67, 3) := by decide +kernel
theorem d_Ru_begin_86 : decode prog_6_method_2_code 86 = .ok (.aload_n 0, 1) := by decide +kernel
theorem d_Ru_begin_87 : decode prog_6_method_2_code 87 = .ok (.aload_n 0, 1) := by decide +kernel
theorem d_Ru_begin_88 : decode prog_6_method_2_code 88 = .ok (.getfield 11, 3) := by decide +kernel
theorem d_Ru_begin_91 : decode prog_6_method_2_code 91 = .ok (.iconst 0, 1) := by decide +kernel
theorem d_Ru_begin_92 : decode prog_6_method_2_code 92 = .ok (.aaload, 1) := by decide +kernel
theorem d_Ru_begin_93 : decode prog_6_method_2_code 93 = .ok (.invokevirtual 71, 3) := by decide +kernel
theorem d_Ru_begin_96 : decode prog_6_method_2_code 96 = .ok (.return_, 1) := by decide +kernel
def tb_Ru_begin : List pm_I := [
  pm_const 1 0,
  pm_istore 2 3,
  pm_iload 3 3,
  pm_const 4 4,
  pm_icmp 12 5 (fun a b => decide (b ≤ a)),
  pm_aload 6 0,
  pm_getr 7 3 2,
  pm_iload 8 3,
  pm_aald 9 4,
  pm_callv 10 62 1 6,
  pm_iinc 11 3 1,
  pm_goto 2,
  pm_const 13 0,
  pm_istore 14 3,
  pm_iload 15 3,
  pm_const 16 8,
  pm_icmp 24 17 (fun a b => decide (b ≤ a)),
  pm_aload 18 0,
  pm_getr 19 3 3,
  pm_iload 20 3,
  pm_aald 21 5,
  pm_callv 22 67 1 7,
  pm_iinc 23 3 1,
  pm_goto 14,
  pm_aload 25 0,
  pm_getr 26 3 4,
  pm_callv 27 52 1 4,
  pm_aload 28 0,
  pm_const 29 0,
  pm_puti 30 3 6,
  pm_aload 31 0,
  pm_const 32 1,
  pm_puti 33 3 5,
  pm_aload 34 0,
  pm_getr 35 3 1,
  pm_const 36 0,
  pm_aald 37 3,
  pm_getr 38 5 3,
  pm_const 39 0,
  pm_calls 40 103 2,
  pm_aload 41 0,
  pm_getr 42 3 1,
  pm_const 43 0,
  pm_aald 44 3,
  pm_iload 45 1,
  pm_iload 46 2,
  pm_callv 47 56 3 5,
  pm_aload 48 0,
  pm_aload 49 0,
  pm_getr 50 3 1,
  pm_const 51 0,
  pm_aald 52 3,
  pm_callv 53 33 2 3,
  pm_vret]
def bp_Ru_begin : List Nat := [0, 1, 2, 3, 4, 7, 8, 11, 12, 13, 16, 19, 22, 23, 24, 25, 27, 30, 31, 34, 35, 36, 39, 42, 45, 46, 49, 52, 53, 54, 57, 58, 59, 62, 63, 66, 67, 68, 71, 72, 75, 76, 79, 80, 81, 82, 83, 86, 87, 88, 91, 92, 93, 96]
set_option maxRecDepth 100000 in
theorem sd_Ru_begin : pm_Sl prog_6_method_2_code 4 R_Ru "begin" (none) pm_Y (pm_b bp_Ru_begin) 0 tb_Ru_begin := by
  refine ⟨so_const1 d_Ru_begin_0 (by decide) rfl, ?_⟩
  refine ⟨so_istoren d_Ru_begin_1 rfl (by decide) rfl, ?_⟩
  refine ⟨so_iloadn d_Ru_begin_2 rfl rfl, ?_⟩
  refine ⟨so_const1 d_Ru_begin_3 (by decide) rfl, ?_⟩
  refine ⟨so_icmp_ge d_Ru_begin_4 rfl rfl, ?_⟩
  refine ⟨so_aloadn d_Ru_begin_7 rfl rfl, ?_⟩
  refine ⟨so_getr (ci := 3) (k := 2) rfl (by decide) rfl rfl fl_Ru_19 d_Ru_begin_8 rfl, ?_⟩
  refine ⟨so_iloadn d_Ru_begin_11 rfl rfl, ?_⟩
  refine ⟨so_aald rfl (by decide) (fun _ => rfl) d_Ru_begin_12 rfl, ?_⟩
  refine ⟨so_callv (ci := 6) rfl rfl mc_Lk_clear mi_Lk mj_Lk_clear ms_Lk_clear ml_Ru_45 yd_Lk_clear (by decide) d_Ru_begin_13 rfl, ?_⟩
  refine ⟨so_iinc d_Ru_begin_16 (by decide) (by decide) rfl, ?_⟩
  refine ⟨so_goto d_Ru_begin_19 rfl, ?_⟩
  refine ⟨so_const1 d_Ru_begin_22 (by decide) rfl, ?_⟩
  refine ⟨so_istoren d_Ru_begin_23 rfl (by decide) rfl, ?_⟩
  refine ⟨so_iloadn d_Ru_begin_24 rfl rfl, ?_⟩
  refine ⟨so_const2 d_Ru_begin_25 (by decide) rfl, ?_⟩
  refine ⟨so_icmp_ge d_Ru_begin_27 rfl rfl, ?_⟩
  refine ⟨so_aloadn d_Ru_begin_30 rfl rfl, ?_⟩
  refine ⟨so_getr (ci := 3) (k := 3) rfl (by decide) rfl rfl fl_Ru_25 d_Ru_begin_31 rfl, ?_⟩
  refine ⟨so_iloadn d_Ru_begin_34 rfl rfl, ?_⟩
  refine ⟨so_aald rfl (by decide) (fun _ => rfl) d_Ru_begin_35 rfl, ?_⟩
  refine ⟨so_callv (ci := 7) rfl rfl mc_Ce_clear mi_Ce mj_Ce_clear ms_Ce_clear ml_Ru_48 yd_Ce_clear (by decide) d_Ru_begin_36 rfl, ?_⟩
  refine ⟨so_iinc d_Ru_begin_39 (by decide) (by decide) rfl, ?_⟩
  refine ⟨so_goto d_Ru_begin_42 rfl, ?_⟩
  refine ⟨so_aloadn d_Ru_begin_45 rfl rfl, ?_⟩
  refine ⟨so_getr (ci := 3) (k := 4) rfl (by decide) rfl rfl fl_Ru_32 d_Ru_begin_46 rfl, ?_⟩
  refine ⟨so_callv (ci := 4) rfl rfl mc_Rl_clear mi_Rl mj_Rl_clear ms_Rl_clear ml_Ru_49 yd_Rl_clear (by decide) d_Ru_begin_49 rfl, ?_⟩
  refine ⟨so_aloadn d_Ru_begin_52 rfl rfl, ?_⟩
  refine ⟨so_const1 d_Ru_begin_53 (by decide) rfl, ?_⟩
  refine ⟨so_puti (ci := 3) (k := 6) rfl (by decide) rfl rfl (Or.inl ⟨rfl, fl_Ru_50⟩) d_Ru_begin_54 rfl, ?_⟩
  refine ⟨so_aloadn d_Ru_begin_57 rfl rfl, ?_⟩
  refine ⟨so_const1 d_Ru_begin_58 (by decide) rfl, ?_⟩
  refine ⟨so_puti (ci := 3) (k := 5) rfl (by decide) rfl rfl (Or.inl ⟨rfl, fl_Ru_54⟩) d_Ru_begin_59 rfl, ?_⟩
  refine ⟨so_aloadn d_Ru_begin_62 rfl rfl, ?_⟩
  refine ⟨so_getr (ci := 3) (k := 1) rfl (by decide) rfl rfl fl_Ru_11 d_Ru_begin_63 rfl, ?_⟩
  refine ⟨so_const1 d_Ru_begin_66 (by decide) rfl, ?_⟩
  refine ⟨so_aald rfl (by decide) (fun _ => rfl) d_Ru_begin_67 rfl, ?_⟩
  refine ⟨so_getr (ci := 5) (k := 3) rfl (by decide) rfl rfl fl_Ru_57 d_Ru_begin_68 rfl, ?_⟩
  refine ⟨so_const1 d_Ru_begin_71 (by decide) rfl, ?_⟩
  refine ⟨so_calls rfl mc_Ar_fill mi_Ar mt_Ar_fill ml_Ru_61 yd_Ar_fill (by decide) d_Ru_begin_72 rfl, ?_⟩
  refine ⟨so_aloadn d_Ru_begin_75 rfl rfl, ?_⟩
  refine ⟨so_getr (ci := 3) (k := 1) rfl (by decide) rfl rfl fl_Ru_11 d_Ru_begin_76 rfl, ?_⟩
  refine ⟨so_const1 d_Ru_begin_79 (by decide) rfl, ?_⟩
  refine ⟨so_aald rfl (by decide) (fun _ => rfl) d_Ru_begin_80 rfl, ?_⟩
  refine ⟨so_iloadn d_Ru_begin_81 rfl rfl, ?_⟩
  refine ⟨so_iloadn d_Ru_begin_82 rfl rfl, ?_⟩
  refine ⟨so_callv (ci := 5) rfl rfl mc_Sd_begin mi_Sd mj_Sd_begin ms_Sd_begin ml_Ru_67 yd_Sd_begin (by decide) d_Ru_begin_83 rfl, ?_⟩
  refine ⟨so_aloadn d_Ru_begin_86 rfl rfl, ?_⟩
  refine ⟨so_aloadn d_Ru_begin_87 rfl rfl, ?_⟩
  refine ⟨so_getr (ci := 3) (k := 1) rfl (by decide) rfl rfl fl_Ru_11 d_Ru_begin_88 rfl, ?_⟩
  refine ⟨so_const1 d_Ru_begin_91 (by decide) rfl, ?_⟩
  refine ⟨so_aald rfl (by decide) (fun _ => rfl) d_Ru_begin_92 rfl, ?_⟩
  refine ⟨so_callv (ci := 3) rfl rfl mc_Ru_leaveEnded mi_Ru mj_Ru_leaveEnded ms_Ru_leaveEnded ml_Ru_71 yd_Ru_leaveEnded (by decide) d_Ru_begin_93 rfl, ?_⟩
  refine ⟨so_vret d_Ru_begin_96 rfl, ?_⟩
  exact trivial
theorem d_Ru_leaveEnded_0 : decode prog_6_method_6_code 0 = .ok (.aload_n 1, 1) := by decide +kernel
theorem d_Ru_leaveEnded_1 : decode prog_6_method_6_code 1 = .ok (.getfield 98, 3) := by decide +kernel
theorem d_Ru_leaveEnded_4 : decode prog_6_method_6_code 4 = .ok (.ifCond .le 31, 3) := by decide +kernel
theorem d_Ru_leaveEnded_7 : decode prog_6_method_6_code 7 = .ok (.aload_n 1, 1) := by decide +kernel
theorem d_Ru_leaveEnded_8 : decode prog_6_method_6_code 8 = .ok (.invokestatic 104, 3) := by decide +kernel
theorem d_Ru_leaveEnded_11 : decode prog_6_method_6_code 11 = .ok (.aload_n 0, 1) := by decide +kernel
theorem d_Ru_leaveEnded_12 : decode prog_6_method_6_code 12 = .ok (.aload_n 1, 1) := by decide +kernel
theorem d_Ru_leaveEnded_13 : decode prog_6_method_6_code 13 = .ok (.invokevirtual 108, 3) := by decide +kernel
theorem d_Ru_leaveEnded_16 : decode prog_6_method_6_code 16 = .ok (.getfield 112, 3) := by decide +kernel
theorem d_Ru_leaveEnded_19 : decode prog_6_method_6_code 19 = .ok (.if_icmp .lt 16, 3) := by decide +kernel
theorem d_Ru_leaveEnded_22 : decode prog_6_method_6_code 22 = .ok (.aload_n 1, 1) := by decide +kernel
theorem d_Ru_leaveEnded_23 : decode prog_6_method_6_code 23 = .ok (.dup, 1) := by decide +kernel
theorem d_Ru_leaveEnded_24 : decode prog_6_method_6_code 24 = .ok (.getfield 98, 3) := by decide +kernel
theorem d_Ru_leaveEnded_27 : decode prog_6_method_6_code 27 = .ok (.iconst 1, 1) := by decide +kernel
theorem d_Ru_leaveEnded_28 : decode prog_6_method_6_code 28 = .ok (.isub, 1) := by decide +kernel
theorem d_Ru_leaveEnded_29 : decode prog_6_method_6_code 29 = .ok (.putfield 98, 3) := by decide +kernel
theorem d_Ru_leaveEnded_32 : decode prog_6_method_6_code 32 = .ok (.goto (-32), 3) := by decide +kernel
theorem d_Ru_leaveEnded_35 : decode prog_6_method_6_code 35 = .ok (.return_, 1) := by decide +kernel
def tb_Ru_leaveEnded : List pm_I := [
  pm_aload 1 1,
  pm_geti 2 5 4,
  pm_if 17 3 (fun a => decide (a ≤ 0)),
  pm_aload 4 1,
  pm_calls 5 34 1,
  pm_aload 6 0,
  pm_aload 7 1,
  pm_callv 8 35 2 3,
  pm_geti 9 2 4,
  pm_icmp 17 10 (fun a b => decide (a < b)),
  pm_aload 11 1,
  pm_dup 12,
  pm_geti 13 5 4,
  pm_const 14 1,
  pm_bin 15 (fun a b => a - b),
  pm_puti 16 5 4,
  pm_goto 0,
  pm_vret]
def bp_Ru_leaveEnded : List Nat := [0, 1, 4, 7, 8, 11, 12, 13, 16, 19, 22, 23, 24, 27, 28, 29, 32, 35]
set_option maxRecDepth 100000 in
theorem sd_Ru_leaveEnded : pm_Sl prog_6_method_6_code 2 R_Ru "leaveEnded" (none) pm_Y (pm_b bp_Ru_leaveEnded) 0 tb_Ru_leaveEnded := by
  refine ⟨so_aloadn d_Ru_leaveEnded_0 rfl rfl, ?_⟩
  refine ⟨so_geti (ci := 5) (k := 4) rfl (by decide) rfl rfl fl_Ru_98 d_Ru_leaveEnded_1 rfl, ?_⟩
  refine ⟨so_if_le d_Ru_leaveEnded_4 rfl rfl, ?_⟩
  refine ⟨so_aloadn d_Ru_leaveEnded_7 rfl rfl, ?_⟩
  refine ⟨so_calls rfl mc_Ru_placeOf mi_Ru mt_Ru_placeOf ml_Ru_104 yd_Ru_placeOf (by decide) d_Ru_leaveEnded_8 rfl, ?_⟩
  refine ⟨so_aloadn d_Ru_leaveEnded_11 rfl rfl, ?_⟩
  refine ⟨so_aloadn d_Ru_leaveEnded_12 rfl rfl, ?_⟩
  refine ⟨so_callv (ci := 3) rfl rfl mc_Ru_bodyOf mi_Ru mj_Ru_bodyOf ms_Ru_bodyOf ml_Ru_108 yd_Ru_bodyOf (by decide) d_Ru_leaveEnded_13 rfl, ?_⟩
  refine ⟨so_geti (ci := 2) (k := 4) rfl (by decide) rfl rfl fl_Ru_112 d_Ru_leaveEnded_16 rfl, ?_⟩
  refine ⟨so_icmp_lt d_Ru_leaveEnded_19 rfl rfl, ?_⟩
  refine ⟨so_aloadn d_Ru_leaveEnded_22 rfl rfl, ?_⟩
  refine ⟨so_dup d_Ru_leaveEnded_23 rfl, ?_⟩
  refine ⟨so_geti (ci := 5) (k := 4) rfl (by decide) rfl rfl fl_Ru_98 d_Ru_leaveEnded_24 rfl, ?_⟩
  refine ⟨so_const1 d_Ru_leaveEnded_27 (by decide) rfl, ?_⟩
  refine ⟨so_isub d_Ru_leaveEnded_28 rfl, ?_⟩
  refine ⟨so_puti (ci := 5) (k := 4) rfl (by decide) rfl rfl (Or.inl ⟨rfl, fl_Ru_98⟩) d_Ru_leaveEnded_29 rfl, ?_⟩
  refine ⟨so_goto d_Ru_leaveEnded_32 rfl, ?_⟩
  refine ⟨so_vret d_Ru_leaveEnded_35 rfl, ?_⟩
  exact trivial
theorem d_Ru_placeOf_0 : decode prog_6_method_5_code 0 = .ok (.aload_n 0, 1) := by decide +kernel
theorem d_Ru_placeOf_1 : decode prog_6_method_5_code 1 = .ok (.getfield 101, 3) := by decide +kernel
theorem d_Ru_placeOf_4 : decode prog_6_method_5_code 4 = .ok (.aload_n 0, 1) := by decide +kernel
theorem d_Ru_placeOf_5 : decode prog_6_method_5_code 5 = .ok (.getfield 98, 3) := by decide +kernel
theorem d_Ru_placeOf_8 : decode prog_6_method_5_code 8 = .ok (.iconst 1, 1) := by decide +kernel
theorem d_Ru_placeOf_9 : decode prog_6_method_5_code 9 = .ok (.isub, 1) := by decide +kernel
theorem d_Ru_placeOf_10 : decode prog_6_method_5_code 10 = .ok (.iaload, 1) := by decide +kernel
theorem d_Ru_placeOf_11 : decode prog_6_method_5_code 11 = .ok (.ireturn, 1) := by decide +kernel
def tb_Ru_placeOf : List pm_I := [
  pm_aload 1 0,
  pm_getr 2 5 2,
  pm_aload 3 0,
  pm_geti 4 5 4,
  pm_const 5 1,
  pm_bin 6 (fun a b => a - b),
  pm_iald 7 0,
  pm_iret]
def bp_Ru_placeOf : List Nat := [0, 1, 4, 5, 8, 9, 10, 11]
set_option maxRecDepth 100000 in
theorem sd_Ru_placeOf : pm_Sl prog_6_method_5_code 1 R_Ru "placeOf" (some .int) pm_Y (pm_b bp_Ru_placeOf) 0 tb_Ru_placeOf := by
  refine ⟨so_aloadn d_Ru_placeOf_0 rfl rfl, ?_⟩
  refine ⟨so_getr (ci := 5) (k := 2) rfl (by decide) rfl rfl fl_Ru_101 d_Ru_placeOf_1 rfl, ?_⟩
  refine ⟨so_aloadn d_Ru_placeOf_4 rfl rfl, ?_⟩
  refine ⟨so_geti (ci := 5) (k := 4) rfl (by decide) rfl rfl fl_Ru_98 d_Ru_placeOf_5 rfl, ?_⟩
  refine ⟨so_const1 d_Ru_placeOf_8 (by decide) rfl, ?_⟩
  refine ⟨so_isub d_Ru_placeOf_9 rfl, ?_⟩
  refine ⟨so_iald d_Ru_placeOf_10 rfl, ?_⟩
  refine ⟨so_iret d_Ru_placeOf_11 rfl, ?_⟩
  exact trivial
theorem d_Ru_bodyOf_0 : decode prog_6_method_4_code 0 = .ok (.aload_n 0, 1) := by decide +kernel
theorem d_Ru_bodyOf_1 : decode prog_6_method_4_code 1 = .ok (.getfield 36, 3) := by decide +kernel
theorem d_Ru_bodyOf_4 : decode prog_6_method_4_code 4 = .ok (.getfield 90, 3) := by decide +kernel
theorem d_Ru_bodyOf_7 : decode prog_6_method_4_code 7 = .ok (.aload_n 1, 1) := by decide +kernel
theorem d_Ru_bodyOf_8 : decode prog_6_method_4_code 8 = .ok (.getfield 96, 3) := by decide +kernel
theorem d_Ru_bodyOf_11 : decode prog_6_method_4_code 11 = .ok (.aload_n 1, 1) := by decide +kernel
theorem d_Ru_bodyOf_12 : decode prog_6_method_4_code 12 = .ok (.getfield 98, 3) := by decide +kernel
theorem d_Ru_bodyOf_15 : decode prog_6_method_4_code 15 = .ok (.iconst 1, 1) := by decide +kernel
theorem d_Ru_bodyOf_16 : decode prog_6_method_4_code 16 = .ok (.isub, 1) := by decide +kernel
theorem d_Ru_bodyOf_17 : decode prog_6_method_4_code 17 = .ok (.iaload, 1) := by decide +kernel
theorem d_Ru_bodyOf_18 : decode prog_6_method_4_code 18 = .ok (.aaload, 1) := by decide +kernel
theorem d_Ru_bodyOf_19 : decode prog_6_method_4_code 19 = .ok (.areturn, 1) := by decide +kernel
def tb_Ru_bodyOf : List pm_I := [
  pm_aload 1 0,
  pm_getr 2 3 0,
  pm_getr 3 1 0,
  pm_aload 4 1,
  pm_getr 5 5 1,
  pm_aload 6 1,
  pm_geti 7 5 4,
  pm_const 8 1,
  pm_bin 9 (fun a b => a - b),
  pm_iald 10 0,
  pm_aald 11 2,
  pm_aret]
def bp_Ru_bodyOf : List Nat := [0, 1, 4, 7, 8, 11, 12, 15, 16, 17, 18, 19]
set_option maxRecDepth 100000 in
theorem sd_Ru_bodyOf : pm_Sl prog_6_method_4_code 2 R_Ru "bodyOf" (some (.object "LockLoom$Body")) pm_Y (pm_b bp_Ru_bodyOf) 0 tb_Ru_bodyOf := by
  refine ⟨so_aloadn d_Ru_bodyOf_0 rfl rfl, ?_⟩
  refine ⟨so_getr (ci := 3) (k := 0) rfl (by decide) rfl rfl fl_Ru_36 d_Ru_bodyOf_1 rfl, ?_⟩
  refine ⟨so_getr (ci := 1) (k := 0) rfl (by decide) rfl rfl fl_Ru_90 d_Ru_bodyOf_4 rfl, ?_⟩
  refine ⟨so_aloadn d_Ru_bodyOf_7 rfl rfl, ?_⟩
  refine ⟨so_getr (ci := 5) (k := 1) rfl (by decide) rfl rfl fl_Ru_96 d_Ru_bodyOf_8 rfl, ?_⟩
  refine ⟨so_aloadn d_Ru_bodyOf_11 rfl rfl, ?_⟩
  refine ⟨so_geti (ci := 5) (k := 4) rfl (by decide) rfl rfl fl_Ru_98 d_Ru_bodyOf_12 rfl, ?_⟩
  refine ⟨so_const1 d_Ru_bodyOf_15 (by decide) rfl, ?_⟩
  refine ⟨so_isub d_Ru_bodyOf_16 rfl, ?_⟩
  refine ⟨so_iald d_Ru_bodyOf_17 rfl, ?_⟩
  refine ⟨so_aald rfl (by decide) (fun _ => rfl) d_Ru_bodyOf_18 rfl, ?_⟩
  refine ⟨so_aret d_Ru_bodyOf_19 rfl, ?_⟩
  exact trivial
theorem d_Ru_advance_0 : decode prog_6_method_3_code 0 = .ok (.iload_n 1, 1) := by decide +kernel
theorem d_Ru_advance_1 : decode prog_6_method_3_code 1 = .ok (.aload_n 0, 1) := by decide +kernel
theorem d_Ru_advance_2 : decode prog_6_method_3_code 2 = .ok (.getfield 54, 3) := by decide +kernel
theorem d_Ru_advance_5 : decode prog_6_method_3_code 5 = .ok (.invokestatic 75, 3) := by decide +kernel
theorem d_Ru_advance_8 : decode prog_6_method_3_code 8 = .ok (.ifCond .eq 13, 3) := by decide +kernel
theorem d_Ru_advance_11 : decode prog_6_method_3_code 11 = .ok (.aload_n 0, 1) := by decide +kernel
theorem d_Ru_advance_12 : decode prog_6_method_3_code 12 = .ok (.getfield 50, 3) := by decide +kernel
theorem d_Ru_advance_15 : decode prog_6_method_3_code 15 = .ok (.sipush 4000, 3) := by decide +kernel
theorem d_Ru_advance_18 : decode prog_6_method_3_code 18 = .ok (.if_icmp .lt 5, 3) := by decide +kernel
theorem d_Ru_advance_21 : decode prog_6_method_3_code 21 = .ok (.iconst (-1), 1) := by decide +kernel
theorem d_Ru_advance_22 : decode prog_6_method_3_code 22 = .ok (.ireturn, 1) := by decide +kernel
theorem d_Ru_advance_23 : decode prog_6_method_3_code 23 = .ok (.aload_n 0, 1) := by decide +kernel
theorem d_Ru_advance_24 : decode prog_6_method_3_code 24 = .ok (.getfield 11, 3) := by decide +kernel
theorem d_Ru_advance_27 : decode prog_6_method_3_code 27 = .ok (.iload_n 1, 1) := by decide +kernel
theorem d_Ru_advance_28 : decode prog_6_method_3_code 28 = .ok (.aaload, 1) := by decide +kernel
theorem d_Ru_advance_29 : decode prog_6_method_3_code 29 = .ok (.astore_n 2, 1) := by decide +kernel
theorem d_Ru_advance_30 : decode prog_6_method_3_code 30 = .ok (.aload_n 2, 1) := by decide +kernel
theorem d_Ru_advance_31 : decode prog_6_method_3_code 31 = .ok (.invokevirtual 79, 3) := by decide +kernel
theorem d_Ru_advance_34 : decode prog_6_method_3_code 34 = .ok (.ifCond .eq 5, 3) := by decide +kernel
theorem d_Ru_advance_37 : decode prog_6_method_3_code 37 = .ok (.iconst (-1), 1) := by decide +kernel
theorem d_Ru_advance_38 : decode prog_6_method_3_code 38 = .ok (.ireturn, 1) := by decide +kernel
theorem d_Ru_advance_39 : decode prog_6_method_3_code 39 = .ok (.aload_n 0, 1) := by decide +kernel
theorem d_Ru_advance_40 : decode prog_6_method_3_code 40 = .ok (.aload_n 2, 1) := by decide +kernel
theorem d_Ru_advance_41 : decode prog_6_method_3_code 41 = .ok (.invokevirtual 83, 3) := by decide +kernel
theorem d_Ru_advance_44 : decode prog_6_method_3_code 44 = .ok (.ifCond .eq 5, 3) := by decide +kernel
theorem d_Ru_advance_47 : decode prog_6_method_3_code 47 = .ok (.iconst 0, 1) := by decide +kernel
theorem d_Ru_advance_48 : decode prog_6_method_3_code 48 = .ok (.ireturn, 1) := by decide +kernel
theorem d_Ru_advance_49 : decode prog_6_method_3_code 49 = .ok (.aload_n 0, 1) := by decide +kernel
theorem d_Ru_advance_50 : decode prog_6_method_3_code 50 = .ok (.dup, 1) := by decide +kernel
theorem d_Ru_advance_51 : decode prog_6_method_3_code 51 = .ok (.getfield 50, 3) := by decide +kernel
theorem d_Ru_advance_54 : decode prog_6_method_3_code 54 = .ok (.iconst 1, 1) := by decide +kernel
theorem d_Ru_advance_55 : decode prog_6_method_3_code 55 = .ok (.iadd, 1) := by decide +kernel
theorem d_Ru_advance_56 : decode prog_6_method_3_code 56 = .ok (.putfield 50, 3) := by decide +kernel
theorem d_Ru_advance_59 : decode prog_6_method_3_code 59 = .ok (.aload_n 2, 1) := by decide +kernel
theorem d_Ru_advance_60 : decode prog_6_method_3_code 60 = .ok (.getfield 57, 3) := by decide +kernel
theorem d_Ru_advance_63 : decode prog_6_method_3_code 63 = .ok (.iload_n 1, 1) := by decide +kernel
theorem d_Ru_advance_64 : decode prog_6_method_3_code 64 = .ok (.aload_n 0, 1) := by decide +kernel
theorem d_Ru_advance_65 : decode prog_6_method_3_code 65 = .ok (.getfield 50, 3) := by decide +kernel
theorem d_Ru_advance_68 : decode prog_6_method_3_code 68 = .ok (.iastore, 1) := by decide +kernel
theorem d_Ru_advance_69 : decode prog_6_method_3_code 69 = .ok (.aload_n 0, 1) := by decide +kernel
theorem d_Ru_advance_70 : decode prog_6_method_3_code 70 = .ok (.aload_n 2, 1) := by decide +kernel
theorem d_Ru_advance_71 : decode prog_6_method_3_code 71 = .ok (.invokevirtual 87, 3) := by decide +kernel
theorem d_Ru_advance_74 : decode prog_6_method_3_code 74 = .ok (.aload_n 0, 1) := by decide +kernel
theorem d_Ru_advance_75 : decode prog_6_method_3_code 75 = .ok (.aload_n 2, 1) := by decide +kernel
theorem d_Ru_advance_76 : decode prog_6_method_3_code 76 = .ok (.invokevirtual 71, 3) := by decide +kernel
theorem d_Ru_advance_79 : decode prog_6_method_3_code 79 = .ok (.iconst 1, 1) := by decide +kernel
theorem d_Ru_advance_80 : decode prog_6_method_3_code 80 = .ok (.ireturn, 1) := by decide +kernel
def tb_Ru_advance : List pm_I := [
  pm_iload 1 1,
  pm_aload 2 0,
  pm_geti 3 3 5,
  pm_calls 4 2 2,
  pm_if 9 5 (fun a => decide (a = 0)),
  pm_aload 6 0,
  pm_geti 7 3 6,
  pm_const 8 4000,
  pm_icmp 11 9 (fun a b => decide (a < b)),
  pm_const 10 (-1),
  pm_iret,
  pm_aload 12 0,
  pm_getr 13 3 1,
  pm_iload 14 1,
  pm_aald 15 3,
  pm_astore 16 2,
  pm_aload 17 2,
  pm_callv 18 58 1 5,
  pm_if 21 19 (fun a => decide (a = 0)),
  pm_const 20 (-1),
  pm_iret,
  pm_aload 22 0,
  pm_aload 23 2,
  pm_callv 24 37 2 3,
  pm_if 27 25 (fun a => decide (a = 0)),
  pm_const 26 0,
  pm_iret,
  pm_aload 28 0,
  pm_dup 29,
  pm_geti 30 3 6,
  pm_const 31 1,
  pm_bin 32 (fun a b => a + b),
  pm_puti 33 3 6,
  pm_aload 34 2,
  pm_getr 35 5 3,
  pm_iload 36 1,
  pm_aload 37 0,
  pm_geti 38 3 6,
  pm_iast 39,
  pm_aload 40 0,
  pm_aload 41 2,
  pm_callv 42 38 2 3,
  pm_aload 43 0,
  pm_aload 44 2,
  pm_callv 45 33 2 3,
  pm_const 46 1,
  pm_iret]
def bp_Ru_advance : List Nat := [0, 1, 2, 5, 8, 11, 12, 15, 18, 21, 22, 23, 24, 27, 28, 29, 30, 31, 34, 37, 38, 39, 40, 41, 44, 47, 48, 49, 50, 51, 54, 55, 56, 59, 60, 63, 64, 65, 68, 69, 70, 71, 74, 75, 76, 79, 80]
set_option maxRecDepth 100000 in
theorem sd_Ru_advance : pm_Sl prog_6_method_3_code 3 R_Ru "advance" (some .int) pm_Y (pm_b bp_Ru_advance) 0 tb_Ru_advance := by
  refine ⟨so_iloadn d_Ru_advance_0 rfl rfl, ?_⟩
  refine ⟨so_aloadn d_Ru_advance_1 rfl rfl, ?_⟩
  refine ⟨so_geti (ci := 3) (k := 5) rfl (by decide) rfl rfl fl_Ru_54 d_Ru_advance_2 rfl, ?_⟩
  refine ⟨so_calls rfl mc_Lo_isBelow mi_Lo mt_Lo_isBelow ml_Ru_75 yd_Lo_isBelow (by decide) d_Ru_advance_5 rfl, ?_⟩
  refine ⟨so_if_eq d_Ru_advance_8 rfl rfl, ?_⟩
  refine ⟨so_aloadn d_Ru_advance_11 rfl rfl, ?_⟩
  refine ⟨so_geti (ci := 3) (k := 6) rfl (by decide) rfl rfl fl_Ru_50 d_Ru_advance_12 rfl, ?_⟩
  refine ⟨so_const3 d_Ru_advance_15 (by decide) rfl, ?_⟩
  refine ⟨so_icmp_lt d_Ru_advance_18 rfl rfl, ?_⟩
  refine ⟨so_const1 d_Ru_advance_21 (by decide) rfl, ?_⟩
  refine ⟨so_iret d_Ru_advance_22 rfl, ?_⟩
  refine ⟨so_aloadn d_Ru_advance_23 rfl rfl, ?_⟩
  refine ⟨so_getr (ci := 3) (k := 1) rfl (by decide) rfl rfl fl_Ru_11 d_Ru_advance_24 rfl, ?_⟩
  refine ⟨so_iloadn d_Ru_advance_27 rfl rfl, ?_⟩
  refine ⟨so_aald rfl (by decide) (fun _ => rfl) d_Ru_advance_28 rfl, ?_⟩
  refine ⟨so_astoren d_Ru_advance_29 rfl (by decide) rfl, ?_⟩
  refine ⟨so_aloadn d_Ru_advance_30 rfl rfl, ?_⟩
  refine ⟨so_callv (ci := 5) rfl rfl mc_Sd_isDone mi_Sd mj_Sd_isDone ms_Sd_isDone ml_Ru_79 yd_Sd_isDone (by decide) d_Ru_advance_31 rfl, ?_⟩
  refine ⟨so_if_eq d_Ru_advance_34 rfl rfl, ?_⟩
  refine ⟨so_const1 d_Ru_advance_37 (by decide) rfl, ?_⟩
  refine ⟨so_iret d_Ru_advance_38 rfl, ?_⟩
  refine ⟨so_aloadn d_Ru_advance_39 rfl rfl, ?_⟩
  refine ⟨so_aloadn d_Ru_advance_40 rfl rfl, ?_⟩
  refine ⟨so_callv (ci := 3) rfl rfl mc_Ru_wouldWait mi_Ru mj_Ru_wouldWait ms_Ru_wouldWait ml_Ru_83 yd_Ru_wouldWait (by decide) d_Ru_advance_41 rfl, ?_⟩
  refine ⟨so_if_eq d_Ru_advance_44 rfl rfl, ?_⟩
  refine ⟨so_const1 d_Ru_advance_47 (by decide) rfl, ?_⟩
  refine ⟨so_iret d_Ru_advance_48 rfl, ?_⟩
  refine ⟨so_aloadn d_Ru_advance_49 rfl rfl, ?_⟩
  refine ⟨so_dup d_Ru_advance_50 rfl, ?_⟩
  refine ⟨so_geti (ci := 3) (k := 6) rfl (by decide) rfl rfl fl_Ru_50 d_Ru_advance_51 rfl, ?_⟩
  refine ⟨so_const1 d_Ru_advance_54 (by decide) rfl, ?_⟩
  refine ⟨so_iadd d_Ru_advance_55 rfl, ?_⟩
  refine ⟨so_puti (ci := 3) (k := 6) rfl (by decide) rfl rfl (Or.inl ⟨rfl, fl_Ru_50⟩) d_Ru_advance_56 rfl, ?_⟩
  refine ⟨so_aloadn d_Ru_advance_59 rfl rfl, ?_⟩
  refine ⟨so_getr (ci := 5) (k := 3) rfl (by decide) rfl rfl fl_Ru_57 d_Ru_advance_60 rfl, ?_⟩
  refine ⟨so_iloadn d_Ru_advance_63 rfl rfl, ?_⟩
  refine ⟨so_aloadn d_Ru_advance_64 rfl rfl, ?_⟩
  refine ⟨so_geti (ci := 3) (k := 6) rfl (by decide) rfl rfl fl_Ru_50 d_Ru_advance_65 rfl, ?_⟩
  refine ⟨so_iast d_Ru_advance_68 rfl, ?_⟩
  refine ⟨so_aloadn d_Ru_advance_69 rfl rfl, ?_⟩
  refine ⟨so_aloadn d_Ru_advance_70 rfl rfl, ?_⟩
  refine ⟨so_callv (ci := 3) rfl rfl mc_Ru_perform mi_Ru mj_Ru_perform ms_Ru_perform ml_Ru_87 yd_Ru_perform (by decide) d_Ru_advance_71 rfl, ?_⟩
  refine ⟨so_aloadn d_Ru_advance_74 rfl rfl, ?_⟩
  refine ⟨so_aloadn d_Ru_advance_75 rfl rfl, ?_⟩
  refine ⟨so_callv (ci := 3) rfl rfl mc_Ru_leaveEnded mi_Ru mj_Ru_leaveEnded ms_Ru_leaveEnded ml_Ru_71 yd_Ru_leaveEnded (by decide) d_Ru_advance_76 rfl, ?_⟩
  refine ⟨so_const1 d_Ru_advance_79 (by decide) rfl, ?_⟩
  refine ⟨so_iret d_Ru_advance_80 rfl, ?_⟩
  exact trivial
theorem d_Ru_wouldWait_0 : decode prog_6_method_7_code 0 = .ok (.aload_n 0, 1) := by decide +kernel
theorem d_Ru_wouldWait_1 : decode prog_6_method_7_code 1 = .ok (.aload_n 1, 1) := by decide +kernel
theorem d_Ru_wouldWait_2 : decode prog_6_method_7_code 2 = .ok (.invokevirtual 108, 3) := by decide +kernel
theorem d_Ru_wouldWait_5 : decode prog_6_method_7_code 5 = .ok (.astore_n 2, 1) := by decide +kernel
theorem d_Ru_wouldWait_6 : decode prog_6_method_7_code 6 = .ok (.aload_n 1, 1) := by decide +kernel
theorem d_Ru_wouldWait_7 : decode prog_6_method_7_code 7 = .ok (.invokestatic 104, 3) := by decide +kernel
theorem d_Ru_wouldWait_10 : decode prog_6_method_7_code 10 = .ok (.istore_n 3, 1) := by decide +kernel
theorem d_Ru_wouldWait_11 : decode prog_6_method_7_code 11 = .ok (.aload_n 2, 1) := by decide +kernel
theorem d_Ru_wouldWait_12 : decode prog_6_method_7_code 12 = .ok (.getfield 117, 3) := by decide +kernel
theorem d_Ru_wouldWait_15 : decode prog_6_method_7_code 15 = .ok (.iload_n 3, 1) := by decide +kernel
theorem d_Ru_wouldWait_16 : decode prog_6_method_7_code 16 = .ok (.iaload, 1) := by decide +kernel
theorem d_Ru_wouldWait_17 : decode prog_6_method_7_code 17 = .ok (.iconst 4, 1) := by decide +kernel
theorem d_Ru_wouldWait_18 : decode prog_6_method_7_code 18 = .ok (.if_icmp .ne 25, 3) := by decide +kernel
theorem d_Ru_wouldWait_21 : decode prog_6_method_7_code 21 = .ok (.aload_n 0, 1) := by decide +kernel
theorem d_Ru_wouldWait_22 : decode prog_6_method_7_code 22 = .ok (.getfield 19, 3) := by decide +kernel
theorem d_Ru_wouldWait_25 : decode prog_6_method_7_code 25 = .ok (.aload_n 2, 1) := by decide +kernel
theorem d_Ru_wouldWait_26 : decode prog_6_method_7_code 26 = .ok (.getfield 120, 3) := by decide +kernel
theorem d_Ru_wouldWait_29 : decode prog_6_method_7_code 29 = .ok (.iload_n 3, 1) := by decide +kernel
theorem d_Ru_wouldWait_30 : decode prog_6_method_7_code 30 = .ok (.iaload, 1) := by decide +kernel
theorem d_Ru_wouldWait_31 : decode prog_6_method_7_code 31 = .ok (.aaload, 1) := by decide +kernel
theorem d_Ru_wouldWait_32 : decode prog_6_method_7_code 32 = .ok (.aload_n 1, 1) := by decide +kernel
theorem d_Ru_wouldWait_33 : decode prog_6_method_7_code 33 = .ok (.invokevirtual 123, 3) := by decide +kernel
theorem d_Ru_wouldWait_36 : decode prog_6_method_7_code 36 = .ok (.ifCond .eq 7, 3) := by decide +kernel
theorem d_Ru_wouldWait_39 : decode prog_6_method_7_code 39 = .ok (.iconst 1, 1) := by decide +kernel
theorem d_Ru_wouldWait_40 : decode prog_6_method_7_code 40 = .ok (.goto 4, 3) := by decide +kernel
theorem d_Ru_wouldWait_43 : decode prog_6_method_7_code 43 = .ok (.iconst 0, 1) := by decide +kernel
theorem d_Ru_wouldWait_44 : decode prog_6_method_7_code 44 = .ok (.ireturn, 1) := by decide +kernel
def tb_Ru_wouldWait : List pm_I := [
  pm_aload 1 0,
  pm_aload 2 1,
  pm_callv 3 35 2 3,
  pm_astore 4 2,
  pm_aload 5 1,
  pm_calls 6 34 1,
  pm_istore 7 3,
  pm_aload 8 2,
  pm_getr 9 2 0,
  pm_iload 10 3,
  pm_iald 11 0,
  pm_const 12 4,
  pm_icmp 25 13 (fun a b => decide (a ≠ b)),
  pm_aload 14 0,
  pm_getr 15 3 2,
  pm_aload 16 2,
  pm_getr 17 2 1,
  pm_iload 18 3,
  pm_iald 19 0,
  pm_aald 20 4,
  pm_aload 21 1,
  pm_callv 22 63 2 6,
  pm_if 25 23 (fun a => decide (a = 0)),
  pm_const 24 1,
  pm_goto 26,
  pm_const 26 0,
  pm_zret]
def bp_Ru_wouldWait : List Nat := [0, 1, 2, 5, 6, 7, 10, 11, 12, 15, 16, 17, 18, 21, 22, 25, 26, 29, 30, 31, 32, 33, 36, 39, 40, 43, 44]
set_option maxRecDepth 100000 in
theorem sd_Ru_wouldWait : pm_Sl prog_6_method_7_code 4 R_Ru "wouldWait" (some .boolean) pm_Y (pm_b bp_Ru_wouldWait) 0 tb_Ru_wouldWait := by
  refine ⟨so_aloadn d_Ru_wouldWait_0 rfl rfl, ?_⟩
  refine ⟨so_aloadn d_Ru_wouldWait_1 rfl rfl, ?_⟩
  refine ⟨so_callv (ci := 3) rfl rfl mc_Ru_bodyOf mi_Ru mj_Ru_bodyOf ms_Ru_bodyOf ml_Ru_108 yd_Ru_bodyOf (by decide) d_Ru_wouldWait_2 rfl, ?_⟩
  refine ⟨so_astoren d_Ru_wouldWait_5 rfl (by decide) rfl, ?_⟩
  refine ⟨so_aloadn d_Ru_wouldWait_6 rfl rfl, ?_⟩
  refine ⟨so_calls rfl mc_Ru_placeOf mi_Ru mt_Ru_placeOf ml_Ru_104 yd_Ru_placeOf (by decide) d_Ru_wouldWait_7 rfl, ?_⟩
  refine ⟨so_istoren d_Ru_wouldWait_10 rfl (by decide) rfl, ?_⟩
  refine ⟨so_aloadn d_Ru_wouldWait_11 rfl rfl, ?_⟩
  refine ⟨so_getr (ci := 2) (k := 0) rfl (by decide) rfl rfl fl_Ru_117 d_Ru_wouldWait_12 rfl, ?_⟩
  refine ⟨so_iloadn d_Ru_wouldWait_15 rfl rfl, ?_⟩
  refine ⟨so_iald d_Ru_wouldWait_16 rfl, ?_⟩
  refine ⟨so_const1 d_Ru_wouldWait_17 (by decide) rfl, ?_⟩
  refine ⟨so_icmp_ne d_Ru_wouldWait_18 rfl rfl, ?_⟩
  refine ⟨so_aloadn d_Ru_wouldWait_21 rfl rfl, ?_⟩
  refine ⟨so_getr (ci := 3) (k := 2) rfl (by decide) rfl rfl fl_Ru_19 d_Ru_wouldWait_22 rfl, ?_⟩
  refine ⟨so_aloadn d_Ru_wouldWait_25 rfl rfl, ?_⟩
  refine ⟨so_getr (ci := 2) (k := 1) rfl (by decide) rfl rfl fl_Ru_120 d_Ru_wouldWait_26 rfl, ?_⟩
  refine ⟨so_iloadn d_Ru_wouldWait_29 rfl rfl, ?_⟩
  refine ⟨so_iald d_Ru_wouldWait_30 rfl, ?_⟩
  refine ⟨so_aald rfl (by decide) (fun _ => rfl) d_Ru_wouldWait_31 rfl, ?_⟩
  refine ⟨so_aloadn d_Ru_wouldWait_32 rfl rfl, ?_⟩
  refine ⟨so_callv (ci := 6) rfl rfl mc_Lk_refuses mi_Lk mj_Lk_refuses ms_Lk_refuses ml_Ru_123 yd_Lk_refuses (by decide) d_Ru_wouldWait_33 rfl, ?_⟩
  refine ⟨so_if_eq d_Ru_wouldWait_36 rfl rfl, ?_⟩
  refine ⟨so_const1 d_Ru_wouldWait_39 (by decide) rfl, ?_⟩
  refine ⟨so_goto d_Ru_wouldWait_40 rfl, ?_⟩
  refine ⟨so_const1 d_Ru_wouldWait_43 (by decide) rfl, ?_⟩
  refine ⟨so_zret d_Ru_wouldWait_44 rfl, ?_⟩
  exact trivial
theorem d_Ru_perform_0 : decode prog_6_method_8_code 0 = .ok (.aload_n 0, 1) := by decide +kernel
theorem d_Ru_perform_1 : decode prog_6_method_8_code 1 = .ok (.aload_n 1, 1) := by decide +kernel
theorem d_Ru_perform_2 : decode prog_6_method_8_code 2 = .ok (.invokevirtual 108, 3) := by decide +kernel
theorem d_Ru_perform_5 : decode prog_6_method_8_code 5 = .ok (.astore_n 2, 1) := by decide +kernel
theorem d_Ru_perform_6 : decode prog_6_method_8_code 6 = .ok (.aload_n 1, 1) := by decide +kernel
theorem d_Ru_perform_7 : decode prog_6_method_8_code 7 = .ok (.invokestatic 104, 3) := by decide +kernel
theorem d_Ru_perform_10 : decode prog_6_method_8_code 10 = .ok (.istore_n 3, 1) := by decide +kernel
theorem d_Ru_perform_11 : decode prog_6_method_8_code 11 = .ok (.aload_n 2, 1) := by decide +kernel
theorem d_Ru_perform_12 : decode prog_6_method_8_code 12 = .ok (.getfield 120, 3) := by decide +kernel
theorem d_Ru_perform_15 : decode prog_6_method_8_code 15 = .ok (.iload_n 3, 1) := by decide +kernel
theorem d_Ru_perform_16 : decode prog_6_method_8_code 16 = .ok (.iaload, 1) := by decide +kernel
theorem d_Ru_perform_17 : decode prog_6_method_8_code 17 = .ok (.istore 4, 2) := by decide +kernel
theorem d_Ru_perform_19 : decode prog_6_method_8_code 19 = .ok (.aload_n 1, 1) := by decide +kernel
theorem d_Ru_perform_20 : decode prog_6_method_8_code 20 = .ok (.iload_n 3, 1) := by decide +kernel
theorem d_Ru_perform_21 : decode prog_6_method_8_code 21 = .ok (.iconst 1, 1) := by decide +kernel
theorem d_Ru_perform_22 : decode prog_6_method_8_code 22 = .ok (.iadd, 1) := by decide +kernel
theorem d_Ru_perform_23 : decode prog_6_method_8_code 23 = .ok (.invokevirtual 126, 3) := by decide +kernel
theorem d_Ru_perform_26 : decode prog_6_method_8_code 26 = .ok (.aload_n 2, 1) := by decide +kernel
theorem d_Ru_perform_27 : decode prog_6_method_8_code 27 = .ok (.getfield 117, 3) := by decide +kernel
theorem d_Ru_perform_30 : decode prog_6_method_8_code 30 = .ok (.iload_n 3, 1) := by decide +kernel
theorem d_Ru_perform_31 : decode prog_6_method_8_code 31 = .ok (.iaload, 1) := by decide +kernel
theorem d_Ru_perform_32 : decode prog_6_method_8_code 32 = .ok (.tableswitch 175 0 9 #[56, 66, 76, 90, 99, 113, 128, 150, 128, 165], 56) := by decide +kernel
theorem d_Ru_perform_88 : decode prog_6_method_8_code 88 = .ok (.aload_n 0, 1) := by decide +kernel
theorem d_Ru_perform_89 : decode prog_6_method_8_code 89 = .ok (.aload_n 1, 1) := by decide +kernel
theorem d_Ru_perform_90 : decode prog_6_method_8_code 90 = .ok (.iload 4, 2) := by decide +kernel
theorem d_Ru_perform_92 : decode prog_6_method_8_code 92 = .ok (.invokevirtual 129, 3) := by decide +kernel
theorem d_Ru_perform_95 : decode prog_6_method_8_code 95 = .ok (.goto 130, 3) := by decide +kernel
theorem d_Ru_perform_98 : decode prog_6_method_8_code 98 = .ok (.aload_n 0, 1) := by decide +kernel
theorem d_Ru_perform_99 : decode prog_6_method_8_code 99 = .ok (.aload_n 1, 1) := by decide +kernel
theorem d_Ru_perform_100 : decode prog_6_method_8_code 100 = .ok (.iload 4, 2) := by decide +kernel
theorem d_Ru_perform_102 : decode prog_6_method_8_code 102 = .ok (.invokevirtual 133, 3) := by decide +kernel
theorem d_Ru_perform_105 : decode prog_6_method_8_code 105 = .ok (.goto 120, 3) := by decide +kernel
theorem d_Ru_perform_108 : decode prog_6_method_8_code 108 = .ok (.aload_n 1, 1) := by decide +kernel
theorem d_Ru_perform_109 : decode prog_6_method_8_code 109 = .ok (.dup, 1) := by decide +kernel
theorem d_Ru_perform_110 : decode prog_6_method_8_code 110 = .ok (.getfield 136, 3) := by decide +kernel
theorem d_Ru_perform_113 : decode prog_6_method_8_code 113 = .ok (.iload 4, 2) := by decide +kernel
theorem d_Ru_perform_115 : decode prog_6_method_8_code 115 = .ok (.iadd, 1) := by decide +kernel
theorem d_Ru_perform_116 : decode prog_6_method_8_code 116 = .ok (.putfield 136, 3) := by decide +kernel
theorem d_Ru_perform_119 : decode prog_6_method_8_code 119 = .ok (.goto 106, 3) := by decide +kernel
theorem d_Ru_perform_122 : decode prog_6_method_8_code 122 = .ok (.aload_n 1, 1) := by decide +kernel
theorem d_Ru_perform_123 : decode prog_6_method_8_code 123 = .ok (.iload 4, 2) := by decide +kernel
theorem d_Ru_perform_125 : decode prog_6_method_8_code 125 = .ok (.putfield 136, 3) := by decide +kernel
theorem d_Ru_perform_128 : decode prog_6_method_8_code 128 = .ok (.goto 97, 3) := by decide +kernel
theorem d_Ru_perform_131 : decode prog_6_method_8_code 131 = .ok (.aload_n 0, 1) := by decide +kernel
theorem d_Ru_perform_132 : decode prog_6_method_8_code 132 = .ok (.getfield 19, 3) := by decide +kernel
theorem d_Ru_perform_135 : decode prog_6_method_8_code 135 = .ok (.iload 4, 2) := by decide +kernel
theorem d_Ru_perform_137 : decode prog_6_method_8_code 137 = .ok (.aaload, 1) := by decide +kernel
theorem d_Ru_perform_138 : decode prog_6_method_8_code 138 = .ok (.aload_n 1, 1) := by decide +kernel
theorem d_Ru_perform_139 : decode prog_6_method_8_code 139 = .ok (.invokevirtual 139, 3) := by decide +kernel
theorem d_Ru_perform_142 : decode prog_6_method_8_code 142 = .ok (.goto 83, 3) := by decide +kernel
theorem d_Ru_perform_145 : decode prog_6_method_8_code 145 = .ok (.aload_n 0, 1) := by decide +kernel
theorem d_Ru_perform_146 : decode prog_6_method_8_code 146 = .ok (.aload_n 1, 1) := by decide +kernel
theorem d_Ru_perform_147 : decode prog_6_method_8_code 147 = .ok (.aload_n 2, 1) := by decide +kernel
theorem d_Ru_perform_148 : decode prog_6_method_8_code 148 = .ok (.aload_n 2, 1) := by decide +kernel
theorem d_Ru_perform_149 : decode prog_6_method_8_code 149 = .ok (.getfield 142, 3) := by decide +kernel
theorem d_Ru_perform_152 : decode prog_6_method_8_code 152 = .ok (.iload_n 3, 1) := by decide +kernel
theorem d_Ru_perform_153 : decode prog_6_method_8_code 153 = .ok (.iaload, 1) := by decide +kernel
theorem d_Ru_perform_154 : decode prog_6_method_8_code 154 = .ok (.invokevirtual 145, 3) := by decide +kernel
theorem d_Ru_perform_157 : decode prog_6_method_8_code 157 = .ok (.goto 68, 3) := by decide +kernel
theorem d_Ru_perform_160 : decode prog_6_method_8_code 160 = .ok (.aload_n 1, 1) := by decide +kernel
theorem d_Ru_perform_161 : decode prog_6_method_8_code 161 = .ok (.getfield 136, 3) := by decide +kernel
theorem d_Ru_perform_164 : decode prog_6_method_8_code 164 = .ok (.ifCond .ne 61, 3) := by decide +kernel
theorem d_Ru_perform_167 : decode prog_6_method_8_code 167 = .ok (.aload_n 1, 1) := by decide +kernel
theorem d_Ru_perform_168 : decode prog_6_method_8_code 168 = .ok (.aload_n 2, 1) := by decide +kernel
theorem d_Ru_perform_169 : decode prog_6_method_8_code 169 = .ok (.getfield 142, 3) := by decide +kernel
theorem d_Ru_perform_172 : decode prog_6_method_8_code 172 = .ok (.iload_n 3, 1) := by decide +kernel
theorem d_Ru_perform_173 : decode prog_6_method_8_code 173 = .ok (.iaload, 1) := by decide +kernel
theorem d_Ru_perform_174 : decode prog_6_method_8_code 174 = .ok (.iconst 1, 1) := by decide +kernel
theorem d_Ru_perform_175 : decode prog_6_method_8_code 175 = .ok (.iadd, 1) := by decide +kernel
theorem d_Ru_perform_176 : decode prog_6_method_8_code 176 = .ok (.invokevirtual 126, 3) := by decide +kernel
theorem d_Ru_perform_179 : decode prog_6_method_8_code 179 = .ok (.goto 46, 3) := by decide +kernel
theorem d_Ru_perform_182 : decode prog_6_method_8_code 182 = .ok (.aload_n 1, 1) := by decide +kernel
theorem d_Ru_perform_183 : decode prog_6_method_8_code 183 = .ok (.aload_n 2, 1) := by decide +kernel
theorem d_Ru_perform_184 : decode prog_6_method_8_code 184 = .ok (.getfield 142, 3) := by decide +kernel
theorem d_Ru_perform_187 : decode prog_6_method_8_code 187 = .ok (.iload_n 3, 1) := by decide +kernel
theorem d_Ru_perform_188 : decode prog_6_method_8_code 188 = .ok (.iaload, 1) := by decide +kernel
theorem d_Ru_perform_189 : decode prog_6_method_8_code 189 = .ok (.iconst 1, 1) := by decide +kernel
theorem d_Ru_perform_190 : decode prog_6_method_8_code 190 = .ok (.iadd, 1) := by decide +kernel
theorem d_Ru_perform_191 : decode prog_6_method_8_code 191 = .ok (.invokevirtual 126, 3) := by decide +kernel
theorem d_Ru_perform_194 : decode prog_6_method_8_code 194 = .ok (.goto 31, 3) := by decide +kernel
theorem d_Ru_perform_197 : decode prog_6_method_8_code 197 = .ok (.aload_n 0, 1) := by decide +kernel
theorem d_Ru_perform_198 : decode prog_6_method_8_code 198 = .ok (.aload_n 1, 1) := by decide +kernel
theorem d_Ru_perform_199 : decode prog_6_method_8_code 199 = .ok (.iload 4, 2) := by decide +kernel
theorem d_Ru_perform_201 : decode prog_6_method_8_code 201 = .ok (.invokevirtual 149, 3) := by decide +kernel
theorem d_Ru_perform_204 : decode prog_6_method_8_code 204 = .ok (.goto 21, 3) := by decide +kernel
theorem d_Ru_perform_207 : decode prog_6_method_8_code 207 = .ok (.aload_n 0, 1) := by decide +kernel
theorem d_Ru_perform_208 : decode prog_6_method_8_code 208 = .ok (.getfield 36, 3) := by decide +kernel
theorem d_Ru_perform_211 : decode prog_6_method_8_code 211 = .ok (.iload 4, 2) := by decide +kernel
theorem d_Ru_perform_213 : decode prog_6_method_8_code 213 = .ok (.invokevirtual 152, 3) := by decide +kernel
theorem d_Ru_perform_216 : decode prog_6_method_8_code 216 = .ok (.ifCond .eq 9, 3) := by decide +kernel
theorem d_Ru_perform_219 : decode prog_6_method_8_code 219 = .ok (.aload_n 1, 1) := by decide +kernel
theorem d_Ru_perform_220 : decode prog_6_method_8_code 220 = .ok (.iload 4, 2) := by decide +kernel
theorem d_Ru_perform_222 : decode prog_6_method_8_code 222 = .ok (.invokevirtual 156, 3) := by decide +kernel
theorem d_Ru_perform_225 : decode prog_6_method_8_code 225 = .ok (.return_, 1) := by decide +kernel
def tb_Ru_perform : List pm_I := [
  pm_aload 1 0,
  pm_aload 2 1,
  pm_callv 3 35 2 3,
  pm_astore 4 2,
  pm_aload 5 1,
  pm_calls 6 34 1,
  pm_istore 7 3,
  pm_aload 8 2,
  pm_getr 9 2 1,
  pm_iload 10 3,
  pm_iald 11 0,
  pm_istore 12 4,
  pm_aload 13 1,
  pm_iload 14 3,
  pm_const 15 1,
  pm_bin 16 (fun a b => a + b),
  pm_callv 17 59 2 5,
  pm_aload 18 2,
  pm_getr 19 2 0,
  pm_iload 20 3,
  pm_iald 21 0,
  pm_sw [(0, 22), (1, 27), (2, 32), (3, 39), (4, 43), (5, 50), (6, 59), (7, 71), (8, 59), (9, 80)] 85,
  pm_aload 23 0,
  pm_aload 24 1,
  pm_iload 25 4,
  pm_callv 26 39 3 3,
  pm_goto 93,
  pm_aload 28 0,
  pm_aload 29 1,
  pm_iload 30 4,
  pm_callv 31 41 3 3,
  pm_goto 93,
  pm_aload 33 1,
  pm_dup 34,
  pm_geti 35 5 5,
  pm_iload 36 4,
  pm_bin 37 (fun a b => a + b),
  pm_puti 38 5 5,
  pm_goto 93,
  pm_aload 40 1,
  pm_iload 41 4,
  pm_puti 42 5 5,
  pm_goto 93,
  pm_aload 44 0,
  pm_getr 45 3 2,
  pm_iload 46 4,
  pm_aald 47 4,
  pm_aload 48 1,
  pm_callv 49 64 2 6,
  pm_goto 93,
  pm_aload 51 0,
  pm_aload 52 1,
  pm_aload 53 2,
  pm_aload 54 2,
  pm_getr 55 2 2,
  pm_iload 56 3,
  pm_iald 57 0,
  pm_callv 58 42 4 3,
  pm_goto 93,
  pm_aload 60 1,
  pm_geti 61 5 5,
  pm_if 93 62 (fun a => decide (a ≠ 0)),
  pm_aload 63 1,
  pm_aload 64 2,
  pm_getr 65 2 2,
  pm_iload 66 3,
  pm_iald 67 0,
  pm_const 68 1,
  pm_bin 69 (fun a b => a + b),
  pm_callv 70 59 2 5,
  pm_goto 93,
  pm_aload 72 1,
  pm_aload 73 2,
  pm_getr 74 2 2,
  pm_iload 75 3,
  pm_iald 76 0,
  pm_const 77 1,
  pm_bin 78 (fun a b => a + b),
  pm_callv 79 59 2 5,
  pm_goto 93,
  pm_aload 81 0,
  pm_aload 82 1,
  pm_iload 83 4,
  pm_callv 84 43 3 3,
  pm_goto 93,
  pm_aload 86 0,
  pm_getr 87 3 0,
  pm_iload 88 4,
  pm_callv 89 21 2 1,
  pm_if 93 90 (fun a => decide (a = 0)),
  pm_aload 91 1,
  pm_iload 92 4,
  pm_callv 93 57 2 5,
  pm_vret]
def bp_Ru_perform : List Nat := [0, 1, 2, 5, 6, 7, 10, 11, 12, 15, 16, 17, 19, 20, 21, 22, 23, 26, 27, 30, 31, 32, 88, 89, 90, 92, 95, 98, 99, 100, 102, 105, 108, 109, 110, 113, 115, 116, 119, 122, 123, 125, 128, 131, 132, 135, 137, 138, 139, 142, 145, 146, 147, 148, 149, 152, 153, 154, 157, 160, 161, 164, 167, 168, 169, 172, 173, 174, 175, 176, 179, 182, 183, 184, 187, 188, 189, 190, 191, 194, 197, 198, 199, 201, 204, 207, 208, 211, 213, 216, 219, 220, 222, 225]
set_option maxRecDepth 100000 in
theorem sd_Ru_perform : pm_Sl prog_6_method_8_code 5 R_Ru "perform" (none) pm_Y (pm_b bp_Ru_perform) 0 tb_Ru_perform := by
  refine ⟨so_aloadn d_Ru_perform_0 rfl rfl, ?_⟩
  refine ⟨so_aloadn d_Ru_perform_1 rfl rfl, ?_⟩
  refine ⟨so_callv (ci := 3) rfl rfl mc_Ru_bodyOf mi_Ru mj_Ru_bodyOf ms_Ru_bodyOf ml_Ru_108 yd_Ru_bodyOf (by decide) d_Ru_perform_2 rfl, ?_⟩
  refine ⟨so_astoren d_Ru_perform_5 rfl (by decide) rfl, ?_⟩
  refine ⟨so_aloadn d_Ru_perform_6 rfl rfl, ?_⟩
  refine ⟨so_calls rfl mc_Ru_placeOf mi_Ru mt_Ru_placeOf ml_Ru_104 yd_Ru_placeOf (by decide) d_Ru_perform_7 rfl, ?_⟩
  refine ⟨so_istoren d_Ru_perform_10 rfl (by decide) rfl, ?_⟩
  refine ⟨so_aloadn d_Ru_perform_11 rfl rfl, ?_⟩
  refine ⟨so_getr (ci := 2) (k := 1) rfl (by decide) rfl rfl fl_Ru_120 d_Ru_perform_12 rfl, ?_⟩
  refine ⟨so_iloadn d_Ru_perform_15 rfl rfl, ?_⟩
  refine ⟨so_iald d_Ru_perform_16 rfl, ?_⟩
  refine ⟨so_istore d_Ru_perform_17 (by decide) rfl, ?_⟩
  refine ⟨so_aloadn d_Ru_perform_19 rfl rfl, ?_⟩
  refine ⟨so_iloadn d_Ru_perform_20 rfl rfl, ?_⟩
  refine ⟨so_const1 d_Ru_perform_21 (by decide) rfl, ?_⟩
  refine ⟨so_iadd d_Ru_perform_22 rfl, ?_⟩
  refine ⟨so_callv (ci := 5) rfl rfl mc_Sd_moveTo mi_Sd mj_Sd_moveTo ms_Sd_moveTo ml_Ru_126 yd_Sd_moveTo (by decide) d_Ru_perform_23 rfl, ?_⟩
  refine ⟨so_aloadn d_Ru_perform_26 rfl rfl, ?_⟩
  refine ⟨so_getr (ci := 2) (k := 0) rfl (by decide) rfl rfl fl_Ru_117 d_Ru_perform_27 rfl, ?_⟩
  refine ⟨so_iloadn d_Ru_perform_30 rfl rfl, ?_⟩
  refine ⟨so_iald d_Ru_perform_31 rfl, ?_⟩
  refine ⟨so_tsw d_Ru_perform_32 (by decide +kernel) (by decide +kernel) rfl, ?_⟩
  refine ⟨so_aloadn d_Ru_perform_88 rfl rfl, ?_⟩
  refine ⟨so_aloadn d_Ru_perform_89 rfl rfl, ?_⟩
  refine ⟨so_iload d_Ru_perform_90 rfl, ?_⟩
  refine ⟨so_callv (ci := 3) rfl rfl mc_Ru_readCell mi_Ru mj_Ru_readCell ms_Ru_readCell ml_Ru_129 yd_Ru_readCell (by decide) d_Ru_perform_92 rfl, ?_⟩
  refine ⟨so_goto d_Ru_perform_95 rfl, ?_⟩
  refine ⟨so_aloadn d_Ru_perform_98 rfl rfl, ?_⟩
  refine ⟨so_aloadn d_Ru_perform_99 rfl rfl, ?_⟩
  refine ⟨so_iload d_Ru_perform_100 rfl, ?_⟩
  refine ⟨so_callv (ci := 3) rfl rfl mc_Ru_writeCell mi_Ru mj_Ru_writeCell ms_Ru_writeCell ml_Ru_133 yd_Ru_writeCell (by decide) d_Ru_perform_102 rfl, ?_⟩
  refine ⟨so_goto d_Ru_perform_105 rfl, ?_⟩
  refine ⟨so_aloadn d_Ru_perform_108 rfl rfl, ?_⟩
  refine ⟨so_dup d_Ru_perform_109 rfl, ?_⟩
  refine ⟨so_geti (ci := 5) (k := 5) rfl (by decide) rfl rfl fl_Ru_136 d_Ru_perform_110 rfl, ?_⟩
  refine ⟨so_iload d_Ru_perform_113 rfl, ?_⟩
  refine ⟨so_iadd d_Ru_perform_115 rfl, ?_⟩
  refine ⟨so_puti (ci := 5) (k := 5) rfl (by decide) rfl rfl (Or.inl ⟨rfl, fl_Ru_136⟩) d_Ru_perform_116 rfl, ?_⟩
  refine ⟨so_goto d_Ru_perform_119 rfl, ?_⟩
  refine ⟨so_aloadn d_Ru_perform_122 rfl rfl, ?_⟩
  refine ⟨so_iload d_Ru_perform_123 rfl, ?_⟩
  refine ⟨so_puti (ci := 5) (k := 5) rfl (by decide) rfl rfl (Or.inl ⟨rfl, fl_Ru_136⟩) d_Ru_perform_125 rfl, ?_⟩
  refine ⟨so_goto d_Ru_perform_128 rfl, ?_⟩
  refine ⟨so_aloadn d_Ru_perform_131 rfl rfl, ?_⟩
  refine ⟨so_getr (ci := 3) (k := 2) rfl (by decide) rfl rfl fl_Ru_19 d_Ru_perform_132 rfl, ?_⟩
  refine ⟨so_iload d_Ru_perform_135 rfl, ?_⟩
  refine ⟨so_aald rfl (by decide) (fun _ => rfl) d_Ru_perform_137 rfl, ?_⟩
  refine ⟨so_aloadn d_Ru_perform_138 rfl rfl, ?_⟩
  refine ⟨so_callv (ci := 6) rfl rfl mc_Lk_take mi_Lk mj_Lk_take ms_Lk_take ml_Ru_139 yd_Lk_take (by decide) d_Ru_perform_139 rfl, ?_⟩
  refine ⟨so_goto d_Ru_perform_142 rfl, ?_⟩
  refine ⟨so_aloadn d_Ru_perform_145 rfl rfl, ?_⟩
  refine ⟨so_aloadn d_Ru_perform_146 rfl rfl, ?_⟩
  refine ⟨so_aloadn d_Ru_perform_147 rfl rfl, ?_⟩
  refine ⟨so_aloadn d_Ru_perform_148 rfl rfl, ?_⟩
  refine ⟨so_getr (ci := 2) (k := 2) rfl (by decide) rfl rfl fl_Ru_142 d_Ru_perform_149 rfl, ?_⟩
  refine ⟨so_iloadn d_Ru_perform_152 rfl rfl, ?_⟩
  refine ⟨so_iald d_Ru_perform_153 rfl, ?_⟩
  refine ⟨so_callv (ci := 3) rfl rfl mc_Ru_endBlock mi_Ru mj_Ru_endBlock ms_Ru_endBlock ml_Ru_145 yd_Ru_endBlock (by decide) d_Ru_perform_154 rfl, ?_⟩
  refine ⟨so_goto d_Ru_perform_157 rfl, ?_⟩
  refine ⟨so_aloadn d_Ru_perform_160 rfl rfl, ?_⟩
  refine ⟨so_geti (ci := 5) (k := 5) rfl (by decide) rfl rfl fl_Ru_136 d_Ru_perform_161 rfl, ?_⟩
  refine ⟨so_if_ne d_Ru_perform_164 rfl rfl, ?_⟩
  refine ⟨so_aloadn d_Ru_perform_167 rfl rfl, ?_⟩
  refine ⟨so_aloadn d_Ru_perform_168 rfl rfl, ?_⟩
  refine ⟨so_getr (ci := 2) (k := 2) rfl (by decide) rfl rfl fl_Ru_142 d_Ru_perform_169 rfl, ?_⟩
  refine ⟨so_iloadn d_Ru_perform_172 rfl rfl, ?_⟩
  refine ⟨so_iald d_Ru_perform_173 rfl, ?_⟩
  refine ⟨so_const1 d_Ru_perform_174 (by decide) rfl, ?_⟩
  refine ⟨so_iadd d_Ru_perform_175 rfl, ?_⟩
  refine ⟨so_callv (ci := 5) rfl rfl mc_Sd_moveTo mi_Sd mj_Sd_moveTo ms_Sd_moveTo ml_Ru_126 yd_Sd_moveTo (by decide) d_Ru_perform_176 rfl, ?_⟩
  refine ⟨so_goto d_Ru_perform_179 rfl, ?_⟩
  refine ⟨so_aloadn d_Ru_perform_182 rfl rfl, ?_⟩
  refine ⟨so_aloadn d_Ru_perform_183 rfl rfl, ?_⟩
  refine ⟨so_getr (ci := 2) (k := 2) rfl (by decide) rfl rfl fl_Ru_142 d_Ru_perform_184 rfl, ?_⟩
  refine ⟨so_iloadn d_Ru_perform_187 rfl rfl, ?_⟩
  refine ⟨so_iald d_Ru_perform_188 rfl, ?_⟩
  refine ⟨so_const1 d_Ru_perform_189 (by decide) rfl, ?_⟩
  refine ⟨so_iadd d_Ru_perform_190 rfl, ?_⟩
  refine ⟨so_callv (ci := 5) rfl rfl mc_Sd_moveTo mi_Sd mj_Sd_moveTo ms_Sd_moveTo ml_Ru_126 yd_Sd_moveTo (by decide) d_Ru_perform_191 rfl, ?_⟩
  refine ⟨so_goto d_Ru_perform_194 rfl, ?_⟩
  refine ⟨so_aloadn d_Ru_perform_197 rfl rfl, ?_⟩
  refine ⟨so_aloadn d_Ru_perform_198 rfl rfl, ?_⟩
  refine ⟨so_iload d_Ru_perform_199 rfl, ?_⟩
  refine ⟨so_callv (ci := 3) rfl rfl mc_Ru_fork mi_Ru mj_Ru_fork ms_Ru_fork ml_Ru_149 yd_Ru_fork (by decide) d_Ru_perform_201 rfl, ?_⟩
  refine ⟨so_goto d_Ru_perform_204 rfl, ?_⟩
  refine ⟨so_aloadn d_Ru_perform_207 rfl rfl, ?_⟩
  refine ⟨so_getr (ci := 3) (k := 0) rfl (by decide) rfl rfl fl_Ru_36 d_Ru_perform_208 rfl, ?_⟩
  refine ⟨so_iload d_Ru_perform_211 rfl, ?_⟩
  refine ⟨so_callv (ci := 1) rfl rfl mc_Sh_contains mi_Sh mj_Sh_contains ms_Sh_contains ml_Ru_152 yd_Sh_contains (by decide) d_Ru_perform_213 rfl, ?_⟩
  refine ⟨so_if_eq d_Ru_perform_216 rfl rfl, ?_⟩
  refine ⟨so_aloadn d_Ru_perform_219 rfl rfl, ?_⟩
  refine ⟨so_iload d_Ru_perform_220 rfl, ?_⟩
  refine ⟨so_callv (ci := 5) rfl rfl mc_Sd_enter mi_Sd mj_Sd_enter ms_Sd_enter ml_Ru_156 yd_Sd_enter (by decide) d_Ru_perform_222 rfl, ?_⟩
  refine ⟨so_vret d_Ru_perform_225 rfl, ?_⟩
  exact trivial
theorem d_Ru_readCell_0 : decode prog_6_method_9_code 0 = .ok (.aload_n 0, 1) := by decide +kernel
theorem d_Ru_readCell_1 : decode prog_6_method_9_code 1 = .ok (.aload_n 1, 1) := by decide +kernel
theorem d_Ru_readCell_2 : decode prog_6_method_9_code 2 = .ok (.iload_n 2, 1) := by decide +kernel
theorem d_Ru_readCell_3 : decode prog_6_method_9_code 3 = .ok (.iconst 0, 1) := by decide +kernel
theorem d_Ru_readCell_4 : decode prog_6_method_9_code 4 = .ok (.invokevirtual 159, 3) := by decide +kernel
theorem d_Ru_readCell_7 : decode prog_6_method_9_code 7 = .ok (.aload_n 0, 1) := by decide +kernel
theorem d_Ru_readCell_8 : decode prog_6_method_9_code 8 = .ok (.getfield 25, 3) := by decide +kernel
theorem d_Ru_readCell_11 : decode prog_6_method_9_code 11 = .ok (.iload_n 2, 1) := by decide +kernel
theorem d_Ru_readCell_12 : decode prog_6_method_9_code 12 = .ok (.aaload, 1) := by decide +kernel
theorem d_Ru_readCell_13 : decode prog_6_method_9_code 13 = .ok (.getfield 163, 3) := by decide +kernel
theorem d_Ru_readCell_16 : decode prog_6_method_9_code 16 = .ok (.aload_n 1, 1) := by decide +kernel
theorem d_Ru_readCell_17 : decode prog_6_method_9_code 17 = .ok (.getfield 166, 3) := by decide +kernel
theorem d_Ru_readCell_20 : decode prog_6_method_9_code 20 = .ok (.aload_n 0, 1) := by decide +kernel
theorem d_Ru_readCell_21 : decode prog_6_method_9_code 21 = .ok (.getfield 50, 3) := by decide +kernel
theorem d_Ru_readCell_24 : decode prog_6_method_9_code 24 = .ok (.iastore, 1) := by decide +kernel
theorem d_Ru_readCell_25 : decode prog_6_method_9_code 25 = .ok (.aload_n 1, 1) := by decide +kernel
theorem d_Ru_readCell_26 : decode prog_6_method_9_code 26 = .ok (.aload_n 0, 1) := by decide +kernel
theorem d_Ru_readCell_27 : decode prog_6_method_9_code 27 = .ok (.getfield 25, 3) := by decide +kernel
theorem d_Ru_readCell_30 : decode prog_6_method_9_code 30 = .ok (.iload_n 2, 1) := by decide +kernel
theorem d_Ru_readCell_31 : decode prog_6_method_9_code 31 = .ok (.aaload, 1) := by decide +kernel
theorem d_Ru_readCell_32 : decode prog_6_method_9_code 32 = .ok (.getfield 169, 3) := by decide +kernel
theorem d_Ru_readCell_35 : decode prog_6_method_9_code 35 = .ok (.putfield 136, 3) := by decide +kernel
theorem d_Ru_readCell_38 : decode prog_6_method_9_code 38 = .ok (.return_, 1) := by decide +kernel
def tb_Ru_readCell : List pm_I := [
  pm_aload 1 0,
  pm_aload 2 1,
  pm_iload 3 2,
  pm_const 4 0,
  pm_callv 5 40 4 3,
  pm_aload 6 0,
  pm_getr 7 3 3,
  pm_iload 8 2,
  pm_aald 9 5,
  pm_getr 10 7 0,
  pm_aload 11 1,
  pm_geti 12 5 0,
  pm_aload 13 0,
  pm_geti 14 3 6,
  pm_iast 15,
  pm_aload 16 1,
  pm_aload 17 0,
  pm_getr 18 3 3,
  pm_iload 19 2,
  pm_aald 20 5,
  pm_geti 21 7 2,
  pm_puti 22 5 5,
  pm_vret]
def bp_Ru_readCell : List Nat := [0, 1, 2, 3, 4, 7, 8, 11, 12, 13, 16, 17, 20, 21, 24, 25, 26, 27, 30, 31, 32, 35, 38]
set_option maxRecDepth 100000 in
theorem sd_Ru_readCell : pm_Sl prog_6_method_9_code 3 R_Ru "readCell" (none) pm_Y (pm_b bp_Ru_readCell) 0 tb_Ru_readCell := by
  refine ⟨so_aloadn d_Ru_readCell_0 rfl rfl, ?_⟩
  refine ⟨so_aloadn d_Ru_readCell_1 rfl rfl, ?_⟩
  refine ⟨so_iloadn d_Ru_readCell_2 rfl rfl, ?_⟩
  refine ⟨so_const1 d_Ru_readCell_3 (by decide) rfl, ?_⟩
  refine ⟨so_callv (ci := 3) rfl rfl mc_Ru_noteRace mi_Ru mj_Ru_noteRace ms_Ru_noteRace ml_Ru_159 yd_Ru_noteRace (by decide) d_Ru_readCell_4 rfl, ?_⟩
  refine ⟨so_aloadn d_Ru_readCell_7 rfl rfl, ?_⟩
  refine ⟨so_getr (ci := 3) (k := 3) rfl (by decide) rfl rfl fl_Ru_25 d_Ru_readCell_8 rfl, ?_⟩
  refine ⟨so_iloadn d_Ru_readCell_11 rfl rfl, ?_⟩
  refine ⟨so_aald rfl (by decide) (fun _ => rfl) d_Ru_readCell_12 rfl, ?_⟩
  refine ⟨so_getr (ci := 7) (k := 0) rfl (by decide) rfl rfl fl_Ru_163 d_Ru_readCell_13 rfl, ?_⟩
  refine ⟨so_aloadn d_Ru_readCell_16 rfl rfl, ?_⟩
  refine ⟨so_geti (ci := 5) (k := 0) rfl (by decide) rfl rfl fl_Ru_166 d_Ru_readCell_17 rfl, ?_⟩
  refine ⟨so_aloadn d_Ru_readCell_20 rfl rfl, ?_⟩
  refine ⟨so_geti (ci := 3) (k := 6) rfl (by decide) rfl rfl fl_Ru_50 d_Ru_readCell_21 rfl, ?_⟩
  refine ⟨so_iast d_Ru_readCell_24 rfl, ?_⟩
  refine ⟨so_aloadn d_Ru_readCell_25 rfl rfl, ?_⟩
  refine ⟨so_aloadn d_Ru_readCell_26 rfl rfl, ?_⟩
  refine ⟨so_getr (ci := 3) (k := 3) rfl (by decide) rfl rfl fl_Ru_25 d_Ru_readCell_27 rfl, ?_⟩
  refine ⟨so_iloadn d_Ru_readCell_30 rfl rfl, ?_⟩
  refine ⟨so_aald rfl (by decide) (fun _ => rfl) d_Ru_readCell_31 rfl, ?_⟩
  refine ⟨so_geti (ci := 7) (k := 2) rfl (by decide) rfl rfl fl_Ru_169 d_Ru_readCell_32 rfl, ?_⟩
  refine ⟨so_puti (ci := 5) (k := 5) rfl (by decide) rfl rfl (Or.inl ⟨rfl, fl_Ru_136⟩) d_Ru_readCell_35 rfl, ?_⟩
  refine ⟨so_vret d_Ru_readCell_38 rfl, ?_⟩
  exact trivial
theorem d_Ru_noteRace_0 : decode prog_6_method_11_code 0 = .ok (.aload_n 0, 1) := by decide +kernel
theorem d_Ru_noteRace_1 : decode prog_6_method_11_code 1 = .ok (.getfield 25, 3) := by decide +kernel
theorem d_Ru_noteRace_4 : decode prog_6_method_11_code 4 = .ok (.iload_n 2, 1) := by decide +kernel
theorem d_Ru_noteRace_5 : decode prog_6_method_11_code 5 = .ok (.aaload, 1) := by decide +kernel
theorem d_Ru_noteRace_6 : decode prog_6_method_11_code 6 = .ok (.aload_n 1, 1) := by decide +kernel
theorem d_Ru_noteRace_7 : decode prog_6_method_11_code 7 = .ok (.getfield 57, 3) := by decide +kernel
theorem d_Ru_noteRace_10 : decode prog_6_method_11_code 10 = .ok (.iload_n 3, 1) := by decide +kernel
theorem d_Ru_noteRace_11 : decode prog_6_method_11_code 11 = .ok (.invokevirtual 173, 3) := by decide +kernel
theorem d_Ru_noteRace_14 : decode prog_6_method_11_code 14 = .ok (.ifCond .eq 22, 3) := by decide +kernel
theorem d_Ru_noteRace_17 : decode prog_6_method_11_code 17 = .ok (.aload_n 0, 1) := by decide +kernel
theorem d_Ru_noteRace_18 : decode prog_6_method_11_code 18 = .ok (.getfield 32, 3) := by decide +kernel
theorem d_Ru_noteRace_21 : decode prog_6_method_11_code 21 = .ok (.aload_n 0, 1) := by decide +kernel
theorem d_Ru_noteRace_22 : decode prog_6_method_11_code 22 = .ok (.getfield 50, 3) := by decide +kernel
theorem d_Ru_noteRace_25 : decode prog_6_method_11_code 25 = .ok (.iconst 1, 1) := by decide +kernel
theorem d_Ru_noteRace_26 : decode prog_6_method_11_code 26 = .ok (.isub, 1) := by decide +kernel
theorem d_Ru_noteRace_27 : decode prog_6_method_11_code 27 = .ok (.aload_n 1, 1) := by decide +kernel
theorem d_Ru_noteRace_28 : decode prog_6_method_11_code 28 = .ok (.getfield 166, 3) := by decide +kernel
theorem d_Ru_noteRace_31 : decode prog_6_method_11_code 31 = .ok (.iload_n 2, 1) := by decide +kernel
theorem d_Ru_noteRace_32 : decode prog_6_method_11_code 32 = .ok (.iload_n 3, 1) := by decide +kernel
theorem d_Ru_noteRace_33 : decode prog_6_method_11_code 33 = .ok (.invokevirtual 177, 3) := by decide +kernel
theorem d_Ru_noteRace_36 : decode prog_6_method_11_code 36 = .ok (.return_, 1) := by decide +kernel
def tb_Ru_noteRace : List pm_I := [
  pm_aload 1 0,
  pm_getr 2 3 3,
  pm_iload 3 2,
  pm_aald 4 5,
  pm_aload 5 1,
  pm_getr 6 5 3,
  pm_iload 7 3,
  pm_callv 8 68 3 7,
  pm_if 20 9 (fun a => decide (a = 0)),
  pm_aload 10 0,
  pm_getr 11 3 4,
  pm_aload 12 0,
  pm_geti 13 3 6,
  pm_const 14 1,
  pm_bin 15 (fun a b => a - b),
  pm_aload 16 1,
  pm_geti 17 5 0,
  pm_iload 18 2,
  pm_iload 19 3,
  pm_callv 20 53 5 4,
  pm_vret]
def bp_Ru_noteRace : List Nat := [0, 1, 4, 5, 6, 7, 10, 11, 14, 17, 18, 21, 22, 25, 26, 27, 28, 31, 32, 33, 36]
set_option maxRecDepth 100000 in
theorem sd_Ru_noteRace : pm_Sl prog_6_method_11_code 4 R_Ru "noteRace" (none) pm_Y (pm_b bp_Ru_noteRace) 0 tb_Ru_noteRace := by
  refine ⟨so_aloadn d_Ru_noteRace_0 rfl rfl, ?_⟩
  refine ⟨so_getr (ci := 3) (k := 3) rfl (by decide) rfl rfl fl_Ru_25 d_Ru_noteRace_1 rfl, ?_⟩
  refine ⟨so_iloadn d_Ru_noteRace_4 rfl rfl, ?_⟩
  refine ⟨so_aald rfl (by decide) (fun _ => rfl) d_Ru_noteRace_5 rfl, ?_⟩
  refine ⟨so_aloadn d_Ru_noteRace_6 rfl rfl, ?_⟩
  refine ⟨so_getr (ci := 5) (k := 3) rfl (by decide) rfl rfl fl_Ru_57 d_Ru_noteRace_7 rfl, ?_⟩
  refine ⟨so_iloadn d_Ru_noteRace_10 rfl rfl, ?_⟩
  refine ⟨so_callv (ci := 7) rfl rfl mc_Ce_races mi_Ce mj_Ce_races ms_Ce_races ml_Ru_173 yd_Ce_races (by decide) d_Ru_noteRace_11 rfl, ?_⟩
  refine ⟨so_if_eq d_Ru_noteRace_14 rfl rfl, ?_⟩
  refine ⟨so_aloadn d_Ru_noteRace_17 rfl rfl, ?_⟩
  refine ⟨so_getr (ci := 3) (k := 4) rfl (by decide) rfl rfl fl_Ru_32 d_Ru_noteRace_18 rfl, ?_⟩
  refine ⟨so_aloadn d_Ru_noteRace_21 rfl rfl, ?_⟩
  refine ⟨so_geti (ci := 3) (k := 6) rfl (by decide) rfl rfl fl_Ru_50 d_Ru_noteRace_22 rfl, ?_⟩
  refine ⟨so_const1 d_Ru_noteRace_25 (by decide) rfl, ?_⟩
  refine ⟨so_isub d_Ru_noteRace_26 rfl, ?_⟩
  refine ⟨so_aloadn d_Ru_noteRace_27 rfl rfl, ?_⟩
  refine ⟨so_geti (ci := 5) (k := 0) rfl (by decide) rfl rfl fl_Ru_166 d_Ru_noteRace_28 rfl, ?_⟩
  refine ⟨so_iloadn d_Ru_noteRace_31 rfl rfl, ?_⟩
  refine ⟨so_iloadn d_Ru_noteRace_32 rfl rfl, ?_⟩
  refine ⟨so_callv (ci := 4) rfl rfl mc_Rl_add mi_Rl mj_Rl_add ms_Rl_add ml_Ru_177 yd_Rl_add (by decide) d_Ru_noteRace_33 rfl, ?_⟩
  refine ⟨so_vret d_Ru_noteRace_36 rfl, ?_⟩
  exact trivial
theorem d_Ru_writeCell_0 : decode prog_6_method_10_code 0 = .ok (.aload_n 0, 1) := by decide +kernel
theorem d_Ru_writeCell_1 : decode prog_6_method_10_code 1 = .ok (.aload_n 1, 1) := by decide +kernel
theorem d_Ru_writeCell_2 : decode prog_6_method_10_code 2 = .ok (.iload_n 2, 1) := by decide +kernel
theorem d_Ru_writeCell_3 : decode prog_6_method_10_code 3 = .ok (.iconst 1, 1) := by decide +kernel
theorem d_Ru_writeCell_4 : decode prog_6_method_10_code 4 = .ok (.invokevirtual 159, 3) := by decide +kernel
theorem d_Ru_writeCell_7 : decode prog_6_method_10_code 7 = .ok (.aload_n 0, 1) := by decide +kernel
theorem d_Ru_writeCell_8 : decode prog_6_method_10_code 8 = .ok (.getfield 25, 3) := by decide +kernel
theorem d_Ru_writeCell_11 : decode prog_6_method_10_code 11 = .ok (.iload_n 2, 1) := by decide +kernel
theorem d_Ru_writeCell_12 : decode prog_6_method_10_code 12 = .ok (.aaload, 1) := by decide +kernel
theorem d_Ru_writeCell_13 : decode prog_6_method_10_code 13 = .ok (.getfield 170, 3) := by decide +kernel
theorem d_Ru_writeCell_16 : decode prog_6_method_10_code 16 = .ok (.aload_n 1, 1) := by decide +kernel
theorem d_Ru_writeCell_17 : decode prog_6_method_10_code 17 = .ok (.getfield 166, 3) := by decide +kernel
theorem d_Ru_writeCell_20 : decode prog_6_method_10_code 20 = .ok (.aload_n 0, 1) := by decide +kernel
theorem d_Ru_writeCell_21 : decode prog_6_method_10_code 21 = .ok (.getfield 50, 3) := by decide +kernel
theorem d_Ru_writeCell_24 : decode prog_6_method_10_code 24 = .ok (.iastore, 1) := by decide +kernel
theorem d_Ru_writeCell_25 : decode prog_6_method_10_code 25 = .ok (.aload_n 0, 1) := by decide +kernel
theorem d_Ru_writeCell_26 : decode prog_6_method_10_code 26 = .ok (.getfield 25, 3) := by decide +kernel
theorem d_Ru_writeCell_29 : decode prog_6_method_10_code 29 = .ok (.iload_n 2, 1) := by decide +kernel
theorem d_Ru_writeCell_30 : decode prog_6_method_10_code 30 = .ok (.aaload, 1) := by decide +kernel
theorem d_Ru_writeCell_31 : decode prog_6_method_10_code 31 = .ok (.aload_n 1, 1) := by decide +kernel
theorem d_Ru_writeCell_32 : decode prog_6_method_10_code 32 = .ok (.getfield 136, 3) := by decide +kernel
theorem d_Ru_writeCell_35 : decode prog_6_method_10_code 35 = .ok (.putfield 169, 3) := by decide +kernel
theorem d_Ru_writeCell_38 : decode prog_6_method_10_code 38 = .ok (.return_, 1) := by decide +kernel
def tb_Ru_writeCell : List pm_I := [
  pm_aload 1 0,
  pm_aload 2 1,
  pm_iload 3 2,
  pm_const 4 1,
  pm_callv 5 40 4 3,
  pm_aload 6 0,
  pm_getr 7 3 3,
  pm_iload 8 2,
  pm_aald 9 5,
  pm_getr 10 7 1,
  pm_aload 11 1,
  pm_geti 12 5 0,
  pm_aload 13 0,
  pm_geti 14 3 6,
  pm_iast 15,
  pm_aload 16 0,
  pm_getr 17 3 3,
  pm_iload 18 2,
  pm_aald 19 5,
  pm_aload 20 1,
  pm_geti 21 5 5,
  pm_puti 22 7 2,
  pm_vret]
def bp_Ru_writeCell : List Nat := [0, 1, 2, 3, 4, 7, 8, 11, 12, 13, 16, 17, 20, 21, 24, 25, 26, 29, 30, 31, 32, 35, 38]
set_option maxRecDepth 100000 in
theorem sd_Ru_writeCell : pm_Sl prog_6_method_10_code 3 R_Ru "writeCell" (none) pm_Y (pm_b bp_Ru_writeCell) 0 tb_Ru_writeCell := by
  refine ⟨so_aloadn d_Ru_writeCell_0 rfl rfl, ?_⟩
  refine ⟨so_aloadn d_Ru_writeCell_1 rfl rfl, ?_⟩
  refine ⟨so_iloadn d_Ru_writeCell_2 rfl rfl, ?_⟩
  refine ⟨so_const1 d_Ru_writeCell_3 (by decide) rfl, ?_⟩
  refine ⟨so_callv (ci := 3) rfl rfl mc_Ru_noteRace mi_Ru mj_Ru_noteRace ms_Ru_noteRace ml_Ru_159 yd_Ru_noteRace (by decide) d_Ru_writeCell_4 rfl, ?_⟩
  refine ⟨so_aloadn d_Ru_writeCell_7 rfl rfl, ?_⟩
  refine ⟨so_getr (ci := 3) (k := 3) rfl (by decide) rfl rfl fl_Ru_25 d_Ru_writeCell_8 rfl, ?_⟩
  refine ⟨so_iloadn d_Ru_writeCell_11 rfl rfl, ?_⟩
  refine ⟨so_aald rfl (by decide) (fun _ => rfl) d_Ru_writeCell_12 rfl, ?_⟩
  refine ⟨so_getr (ci := 7) (k := 1) rfl (by decide) rfl rfl fl_Ru_170 d_Ru_writeCell_13 rfl, ?_⟩
  refine ⟨so_aloadn d_Ru_writeCell_16 rfl rfl, ?_⟩
  refine ⟨so_geti (ci := 5) (k := 0) rfl (by decide) rfl rfl fl_Ru_166 d_Ru_writeCell_17 rfl, ?_⟩
  refine ⟨so_aloadn d_Ru_writeCell_20 rfl rfl, ?_⟩
  refine ⟨so_geti (ci := 3) (k := 6) rfl (by decide) rfl rfl fl_Ru_50 d_Ru_writeCell_21 rfl, ?_⟩
  refine ⟨so_iast d_Ru_writeCell_24 rfl, ?_⟩
  refine ⟨so_aloadn d_Ru_writeCell_25 rfl rfl, ?_⟩
  refine ⟨so_getr (ci := 3) (k := 3) rfl (by decide) rfl rfl fl_Ru_25 d_Ru_writeCell_26 rfl, ?_⟩
  refine ⟨so_iloadn d_Ru_writeCell_29 rfl rfl, ?_⟩
  refine ⟨so_aald rfl (by decide) (fun _ => rfl) d_Ru_writeCell_30 rfl, ?_⟩
  refine ⟨so_aloadn d_Ru_writeCell_31 rfl rfl, ?_⟩
  refine ⟨so_geti (ci := 5) (k := 5) rfl (by decide) rfl rfl fl_Ru_136 d_Ru_writeCell_32 rfl, ?_⟩
  refine ⟨so_puti (ci := 7) (k := 2) rfl (by decide) rfl rfl (Or.inl ⟨rfl, fl_Ru_169⟩) d_Ru_writeCell_35 rfl, ?_⟩
  refine ⟨so_vret d_Ru_writeCell_38 rfl, ?_⟩
  exact trivial
theorem d_Ru_endBlock_0 : decode prog_6_method_12_code 0 = .ok (.aload_n 2, 1) := by decide +kernel
theorem d_Ru_endBlock_1 : decode prog_6_method_12_code 1 = .ok (.getfield 117, 3) := by decide +kernel
theorem d_Ru_endBlock_4 : decode prog_6_method_12_code 4 = .ok (.iload_n 3, 1) := by decide +kernel
theorem d_Ru_endBlock_5 : decode prog_6_method_12_code 5 = .ok (.iaload, 1) := by decide +kernel
theorem d_Ru_endBlock_6 : decode prog_6_method_12_code 6 = .ok (.iconst 4, 1) := by decide +kernel
theorem d_Ru_endBlock_7 : decode prog_6_method_12_code 7 = .ok (.if_icmp .ne 21, 3) := by decide +kernel
theorem d_Ru_endBlock_10 : decode prog_6_method_12_code 10 = .ok (.aload_n 0, 1) := by decide +kernel
theorem d_Ru_endBlock_11 : decode prog_6_method_12_code 11 = .ok (.getfield 19, 3) := by decide +kernel
theorem d_Ru_endBlock_14 : decode prog_6_method_12_code 14 = .ok (.aload_n 2, 1) := by decide +kernel
theorem d_Ru_endBlock_15 : decode prog_6_method_12_code 15 = .ok (.getfield 120, 3) := by decide +kernel
theorem d_Ru_endBlock_18 : decode prog_6_method_12_code 18 = .ok (.iload_n 3, 1) := by decide +kernel
theorem d_Ru_endBlock_19 : decode prog_6_method_12_code 19 = .ok (.iaload, 1) := by decide +kernel
theorem d_Ru_endBlock_20 : decode prog_6_method_12_code 20 = .ok (.aaload, 1) := by decide +kernel
theorem d_Ru_endBlock_21 : decode prog_6_method_12_code 21 = .ok (.aload_n 1, 1) := by decide +kernel
theorem d_Ru_endBlock_22 : decode prog_6_method_12_code 22 = .ok (.invokevirtual 181, 3) := by decide +kernel
theorem d_Ru_endBlock_25 : decode prog_6_method_12_code 25 = .ok (.goto 19, 3) := by decide +kernel
theorem d_Ru_endBlock_28 : decode prog_6_method_12_code 28 = .ok (.aload_n 2, 1) := by decide +kernel
theorem d_Ru_endBlock_29 : decode prog_6_method_12_code 29 = .ok (.getfield 117, 3) := by decide +kernel
theorem d_Ru_endBlock_32 : decode prog_6_method_12_code 32 = .ok (.iload_n 3, 1) := by decide +kernel
theorem d_Ru_endBlock_33 : decode prog_6_method_12_code 33 = .ok (.iaload, 1) := by decide +kernel
theorem d_Ru_endBlock_34 : decode prog_6_method_12_code 34 = .ok (.bipush 8, 2) := by decide +kernel
theorem d_Ru_endBlock_36 : decode prog_6_method_12_code 36 = .ok (.if_icmp .ne 8, 3) := by decide +kernel
theorem d_Ru_endBlock_39 : decode prog_6_method_12_code 39 = .ok (.aload_n 1, 1) := by decide +kernel
theorem d_Ru_endBlock_40 : decode prog_6_method_12_code 40 = .ok (.iload_n 3, 1) := by decide +kernel
theorem d_Ru_endBlock_41 : decode prog_6_method_12_code 41 = .ok (.invokevirtual 126, 3) := by decide +kernel
theorem d_Ru_endBlock_44 : decode prog_6_method_12_code 44 = .ok (.return_, 1) := by decide +kernel
def tb_Ru_endBlock : List pm_I := [
  pm_aload 1 2,
  pm_getr 2 2 0,
  pm_iload 3 3,
  pm_iald 4 0,
  pm_const 5 4,
  pm_icmp 16 6 (fun a b => decide (a ≠ b)),
  pm_aload 7 0,
  pm_getr 8 3 2,
  pm_aload 9 2,
  pm_getr 10 2 1,
  pm_iload 11 3,
  pm_iald 12 0,
  pm_aald 13 4,
  pm_aload 14 1,
  pm_callv 15 65 2 6,
  pm_goto 25,
  pm_aload 17 2,
  pm_getr 18 2 0,
  pm_iload 19 3,
  pm_iald 20 0,
  pm_const 21 8,
  pm_icmp 25 22 (fun a b => decide (a ≠ b)),
  pm_aload 23 1,
  pm_iload 24 3,
  pm_callv 25 59 2 5,
  pm_vret]
def bp_Ru_endBlock : List Nat := [0, 1, 4, 5, 6, 7, 10, 11, 14, 15, 18, 19, 20, 21, 22, 25, 28, 29, 32, 33, 34, 36, 39, 40, 41, 44]
set_option maxRecDepth 100000 in
theorem sd_Ru_endBlock : pm_Sl prog_6_method_12_code 4 R_Ru "endBlock" (none) pm_Y (pm_b bp_Ru_endBlock) 0 tb_Ru_endBlock := by
  refine ⟨so_aloadn d_Ru_endBlock_0 rfl rfl, ?_⟩
  refine ⟨so_getr (ci := 2) (k := 0) rfl (by decide) rfl rfl fl_Ru_117 d_Ru_endBlock_1 rfl, ?_⟩
  refine ⟨so_iloadn d_Ru_endBlock_4 rfl rfl, ?_⟩
  refine ⟨so_iald d_Ru_endBlock_5 rfl, ?_⟩
  refine ⟨so_const1 d_Ru_endBlock_6 (by decide) rfl, ?_⟩
  refine ⟨so_icmp_ne d_Ru_endBlock_7 rfl rfl, ?_⟩
  refine ⟨so_aloadn d_Ru_endBlock_10 rfl rfl, ?_⟩
  refine ⟨so_getr (ci := 3) (k := 2) rfl (by decide) rfl rfl fl_Ru_19 d_Ru_endBlock_11 rfl, ?_⟩
  refine ⟨so_aloadn d_Ru_endBlock_14 rfl rfl, ?_⟩
  refine ⟨so_getr (ci := 2) (k := 1) rfl (by decide) rfl rfl fl_Ru_120 d_Ru_endBlock_15 rfl, ?_⟩
  refine ⟨so_iloadn d_Ru_endBlock_18 rfl rfl, ?_⟩
  refine ⟨so_iald d_Ru_endBlock_19 rfl, ?_⟩
  refine ⟨so_aald rfl (by decide) (fun _ => rfl) d_Ru_endBlock_20 rfl, ?_⟩
  refine ⟨so_aloadn d_Ru_endBlock_21 rfl rfl, ?_⟩
  refine ⟨so_callv (ci := 6) rfl rfl mc_Lk_release mi_Lk mj_Lk_release ms_Lk_release ml_Ru_181 yd_Lk_release (by decide) d_Ru_endBlock_22 rfl, ?_⟩
  refine ⟨so_goto d_Ru_endBlock_25 rfl, ?_⟩
  refine ⟨so_aloadn d_Ru_endBlock_28 rfl rfl, ?_⟩
  refine ⟨so_getr (ci := 2) (k := 0) rfl (by decide) rfl rfl fl_Ru_117 d_Ru_endBlock_29 rfl, ?_⟩
  refine ⟨so_iloadn d_Ru_endBlock_32 rfl rfl, ?_⟩
  refine ⟨so_iald d_Ru_endBlock_33 rfl, ?_⟩
  refine ⟨so_const2 d_Ru_endBlock_34 (by decide) rfl, ?_⟩
  refine ⟨so_icmp_ne d_Ru_endBlock_36 rfl rfl, ?_⟩
  refine ⟨so_aloadn d_Ru_endBlock_39 rfl rfl, ?_⟩
  refine ⟨so_iloadn d_Ru_endBlock_40 rfl rfl, ?_⟩
  refine ⟨so_callv (ci := 5) rfl rfl mc_Sd_moveTo mi_Sd mj_Sd_moveTo ms_Sd_moveTo ml_Ru_126 yd_Sd_moveTo (by decide) d_Ru_endBlock_41 rfl, ?_⟩
  refine ⟨so_vret d_Ru_endBlock_44 rfl, ?_⟩
  exact trivial
theorem d_Ru_fork_0 : decode prog_6_method_13_code 0 = .ok (.aload_n 0, 1) := by decide +kernel
theorem d_Ru_fork_1 : decode prog_6_method_13_code 1 = .ok (.getfield 36, 3) := by decide +kernel
theorem d_Ru_fork_4 : decode prog_6_method_13_code 4 = .ok (.iload_n 2, 1) := by decide +kernel
theorem d_Ru_fork_5 : decode prog_6_method_13_code 5 = .ok (.invokevirtual 152, 3) := by decide +kernel
theorem d_Ru_fork_8 : decode prog_6_method_13_code 8 = .ok (.ifCond .eq 12, 3) := by decide +kernel
theorem d_Ru_fork_11 : decode prog_6_method_13_code 11 = .ok (.aload_n 0, 1) := by decide +kernel
theorem d_Ru_fork_12 : decode prog_6_method_13_code 12 = .ok (.getfield 54, 3) := by decide +kernel
theorem d_Ru_fork_15 : decode prog_6_method_13_code 15 = .ok (.bipush 6, 2) := by decide +kernel
theorem d_Ru_fork_17 : decode prog_6_method_13_code 17 = .ok (.if_icmp .lt 4, 3) := by decide +kernel
theorem d_Ru_fork_20 : decode prog_6_method_13_code 20 = .ok (.return_, 1) := by decide +kernel
theorem d_Ru_fork_21 : decode prog_6_method_13_code 21 = .ok (.aload_n 0, 1) := by decide +kernel
theorem d_Ru_fork_22 : decode prog_6_method_13_code 22 = .ok (.getfield 11, 3) := by decide +kernel
theorem d_Ru_fork_25 : decode prog_6_method_13_code 25 = .ok (.aload_n 0, 1) := by decide +kernel
theorem d_Ru_fork_26 : decode prog_6_method_13_code 26 = .ok (.getfield 54, 3) := by decide +kernel
theorem d_Ru_fork_29 : decode prog_6_method_13_code 29 = .ok (.aaload, 1) := by decide +kernel
theorem d_Ru_fork_30 : decode prog_6_method_13_code 30 = .ok (.astore_n 3, 1) := by decide +kernel
theorem d_Ru_fork_31 : decode prog_6_method_13_code 31 = .ok (.aload_n 0, 1) := by decide +kernel
theorem d_Ru_fork_32 : decode prog_6_method_13_code 32 = .ok (.dup, 1) := by decide +kernel
theorem d_Ru_fork_33 : decode prog_6_method_13_code 33 = .ok (.getfield 54, 3) := by decide +kernel
theorem d_Ru_fork_36 : decode prog_6_method_13_code 36 = .ok (.iconst 1, 1) := by decide +kernel
theorem d_Ru_fork_37 : decode prog_6_method_13_code 37 = .ok (.iadd, 1) := by decide +kernel
theorem d_Ru_fork_38 : decode prog_6_method_13_code 38 = .ok (.putfield 54, 3) := by decide +kernel
theorem d_Ru_fork_41 : decode prog_6_method_13_code 41 = .ok (.aload_n 1, 1) := by decide +kernel
theorem d_Ru_fork_42 : decode prog_6_method_13_code 42 = .ok (.getfield 57, 3) := by decide +kernel
theorem d_Ru_fork_45 : decode prog_6_method_13_code 45 = .ok (.iconst 0, 1) := by decide +kernel
theorem d_Ru_fork_46 : decode prog_6_method_13_code 46 = .ok (.aload_n 3, 1) := by decide +kernel
theorem d_Ru_fork_47 : decode prog_6_method_13_code 47 = .ok (.getfield 57, 3) := by decide +kernel
theorem d_Ru_fork_50 : decode prog_6_method_13_code 50 = .ok (.iconst 0, 1) := by decide +kernel
theorem d_Ru_fork_51 : decode prog_6_method_13_code 51 = .ok (.bipush 6, 2) := by decide +kernel
theorem d_Ru_fork_53 : decode prog_6_method_13_code 53 = .ok (.invokestatic 184, 3) := by decide +kernel
theorem d_Ru_fork_56 : decode prog_6_method_13_code 56 = .ok (.aload_n 3, 1) := by decide +kernel
theorem d_Ru_fork_57 : decode prog_6_method_13_code 57 = .ok (.iload_n 2, 1) := by decide +kernel
theorem d_Ru_fork_58 : decode prog_6_method_13_code 58 = .ok (.aload_n 1, 1) := by decide +kernel
theorem d_Ru_fork_59 : decode prog_6_method_13_code 59 = .ok (.getfield 136, 3) := by decide +kernel
theorem d_Ru_fork_62 : decode prog_6_method_13_code 62 = .ok (.invokevirtual 67, 3) := by decide +kernel
theorem d_Ru_fork_65 : decode prog_6_method_13_code 65 = .ok (.aload_n 0, 1) := by decide +kernel
theorem d_Ru_fork_66 : decode prog_6_method_13_code 66 = .ok (.aload_n 3, 1) := by decide +kernel
theorem d_Ru_fork_67 : decode prog_6_method_13_code 67 = .ok (.invokevirtual 71, 3) := by decide +kernel
theorem d_Ru_fork_70 : decode prog_6_method_13_code 70 = .ok (.return_, 1) := by decide +kernel
def tb_Ru_fork : List pm_I := [
  pm_aload 1 0,
  pm_getr 2 3 0,
  pm_iload 3 2,
  pm_callv 4 21 2 1,
  pm_if 9 5 (fun a => decide (a = 0)),
  pm_aload 6 0,
  pm_geti 7 3 5,
  pm_const 8 6,
  pm_icmp 10 9 (fun a b => decide (a < b)),
  pm_vret,
  pm_aload 11 0,
  pm_getr 12 3 1,
  pm_aload 13 0,
  pm_geti 14 3 5,
  pm_aald 15 3,
  pm_astore 16 3,
  pm_aload 17 0,
  pm_dup 18,
  pm_geti 19 3 5,
  pm_const 20 1,
  pm_bin 21 (fun a b => a + b),
  pm_puti 22 3 5,
  pm_aload 23 1,
  pm_getr 24 5 3,
  pm_const 25 0,
  pm_aload 26 3,
  pm_getr 27 5 3,
  pm_const 28 0,
  pm_const 29 6,
  pm_copy 30,
  pm_aload 31 3,
  pm_iload 32 2,
  pm_aload 33 1,
  pm_geti 34 5 5,
  pm_callv 35 56 3 5,
  pm_aload 36 0,
  pm_aload 37 3,
  pm_callv 38 33 2 3,
  pm_vret]
def bp_Ru_fork : List Nat := [0, 1, 4, 5, 8, 11, 12, 15, 17, 20, 21, 22, 25, 26, 29, 30, 31, 32, 33, 36, 37, 38, 41, 42, 45, 46, 47, 50, 51, 53, 56, 57, 58, 59, 62, 65, 66, 67, 70]
set_option maxRecDepth 100000 in
theorem sd_Ru_fork : pm_Sl prog_6_method_13_code 4 R_Ru "fork" (none) pm_Y (pm_b bp_Ru_fork) 0 tb_Ru_fork := by
  refine ⟨so_aloadn d_Ru_fork_0 rfl rfl, ?_⟩
  refine ⟨so_getr (ci := 3) (k := 0) rfl (by decide) rfl rfl fl_Ru_36 d_Ru_fork_1 rfl, ?_⟩
  refine ⟨so_iloadn d_Ru_fork_4 rfl rfl, ?_⟩
  refine ⟨so_callv (ci := 1) rfl rfl mc_Sh_contains mi_Sh mj_Sh_contains ms_Sh_contains ml_Ru_152 yd_Sh_contains (by decide) d_Ru_fork_5 rfl, ?_⟩
  refine ⟨so_if_eq d_Ru_fork_8 rfl rfl, ?_⟩
  refine ⟨so_aloadn d_Ru_fork_11 rfl rfl, ?_⟩
  refine ⟨so_geti (ci := 3) (k := 5) rfl (by decide) rfl rfl fl_Ru_54 d_Ru_fork_12 rfl, ?_⟩
  refine ⟨so_const2 d_Ru_fork_15 (by decide) rfl, ?_⟩
  refine ⟨so_icmp_lt d_Ru_fork_17 rfl rfl, ?_⟩
  refine ⟨so_vret d_Ru_fork_20 rfl, ?_⟩
  refine ⟨so_aloadn d_Ru_fork_21 rfl rfl, ?_⟩
  refine ⟨so_getr (ci := 3) (k := 1) rfl (by decide) rfl rfl fl_Ru_11 d_Ru_fork_22 rfl, ?_⟩
  refine ⟨so_aloadn d_Ru_fork_25 rfl rfl, ?_⟩
  refine ⟨so_geti (ci := 3) (k := 5) rfl (by decide) rfl rfl fl_Ru_54 d_Ru_fork_26 rfl, ?_⟩
  refine ⟨so_aald rfl (by decide) (fun _ => rfl) d_Ru_fork_29 rfl, ?_⟩
  refine ⟨so_astoren d_Ru_fork_30 rfl (by decide) rfl, ?_⟩
  refine ⟨so_aloadn d_Ru_fork_31 rfl rfl, ?_⟩
  refine ⟨so_dup d_Ru_fork_32 rfl, ?_⟩
  refine ⟨so_geti (ci := 3) (k := 5) rfl (by decide) rfl rfl fl_Ru_54 d_Ru_fork_33 rfl, ?_⟩
  refine ⟨so_const1 d_Ru_fork_36 (by decide) rfl, ?_⟩
  refine ⟨so_iadd d_Ru_fork_37 rfl, ?_⟩
  refine ⟨so_puti (ci := 3) (k := 5) rfl (by decide) rfl rfl (Or.inl ⟨rfl, fl_Ru_54⟩) d_Ru_fork_38 rfl, ?_⟩
  refine ⟨so_aloadn d_Ru_fork_41 rfl rfl, ?_⟩
  refine ⟨so_getr (ci := 5) (k := 3) rfl (by decide) rfl rfl fl_Ru_57 d_Ru_fork_42 rfl, ?_⟩
  refine ⟨so_const1 d_Ru_fork_45 (by decide) rfl, ?_⟩
  refine ⟨so_aloadn d_Ru_fork_46 rfl rfl, ?_⟩
  refine ⟨so_getr (ci := 5) (k := 3) rfl (by decide) rfl rfl fl_Ru_57 d_Ru_fork_47 rfl, ?_⟩
  refine ⟨so_const1 d_Ru_fork_50 (by decide) rfl, ?_⟩
  refine ⟨so_const2 d_Ru_fork_51 (by decide) rfl, ?_⟩
  refine ⟨so_copy (pm_in1 (List.mem_append_right _ (List.mem_append_left _ (List.mem_of_getElem? (i := 155) rfl)))) (pm_in1 (List.mem_append_right _ (List.mem_append_left _ (List.mem_of_getElem? (i := 149) rfl)))) (pm_in1 (List.mem_append_right _ (List.mem_append_left _ (List.mem_of_getElem? (i := 148) rfl)))) (pm_in1 (List.mem_append_left _ (List.mem_of_getElem? (i := 12) rfl))) d_Ru_fork_53 rfl, ?_⟩
  refine ⟨so_aloadn d_Ru_fork_56 rfl rfl, ?_⟩
  refine ⟨so_iloadn d_Ru_fork_57 rfl rfl, ?_⟩
  refine ⟨so_aloadn d_Ru_fork_58 rfl rfl, ?_⟩
  refine ⟨so_geti (ci := 5) (k := 5) rfl (by decide) rfl rfl fl_Ru_136 d_Ru_fork_59 rfl, ?_⟩
  refine ⟨so_callv (ci := 5) rfl rfl mc_Sd_begin mi_Sd mj_Sd_begin ms_Sd_begin ml_Ru_67 yd_Sd_begin (by decide) d_Ru_fork_62 rfl, ?_⟩
  refine ⟨so_aloadn d_Ru_fork_65 rfl rfl, ?_⟩
  refine ⟨so_aloadn d_Ru_fork_66 rfl rfl, ?_⟩
  refine ⟨so_callv (ci := 3) rfl rfl mc_Ru_leaveEnded mi_Ru mj_Ru_leaveEnded ms_Ru_leaveEnded ml_Ru_71 yd_Ru_leaveEnded (by decide) d_Ru_fork_67 rfl, ?_⟩
  refine ⟨so_vret d_Ru_fork_70 rfl, ?_⟩
  exact trivial
theorem d_Ru_valueOf_0 : decode prog_6_method_14_code 0 = .ok (.iload_n 1, 1) := by decide +kernel
theorem d_Ru_valueOf_1 : decode prog_6_method_14_code 1 = .ok (.aload_n 0, 1) := by decide +kernel
theorem d_Ru_valueOf_2 : decode prog_6_method_14_code 2 = .ok (.getfield 54, 3) := by decide +kernel
theorem d_Ru_valueOf_5 : decode prog_6_method_14_code 5 = .ok (.invokestatic 75, 3) := by decide +kernel
theorem d_Ru_valueOf_8 : decode prog_6_method_14_code 8 = .ok (.ifCond .eq 15, 3) := by decide +kernel
theorem d_Ru_valueOf_11 : decode prog_6_method_14_code 11 = .ok (.aload_n 0, 1) := by decide +kernel
theorem d_Ru_valueOf_12 : decode prog_6_method_14_code 12 = .ok (.getfield 11, 3) := by decide +kernel
theorem d_Ru_valueOf_15 : decode prog_6_method_14_code 15 = .ok (.iload_n 1, 1) := by decide +kernel
theorem d_Ru_valueOf_16 : decode prog_6_method_14_code 16 = .ok (.aaload, 1) := by decide +kernel
theorem d_Ru_valueOf_17 : decode prog_6_method_14_code 17 = .ok (.getfield 136, 3) := by decide +kernel
theorem d_Ru_valueOf_20 : decode prog_6_method_14_code 20 = .ok (.goto 4, 3) := by decide +kernel
theorem d_Ru_valueOf_23 : decode prog_6_method_14_code 23 = .ok (.iconst 0, 1) := by decide +kernel
theorem d_Ru_valueOf_24 : decode prog_6_method_14_code 24 = .ok (.ireturn, 1) := by decide +kernel
def tb_Ru_valueOf : List pm_I := [
  pm_iload 1 1,
  pm_aload 2 0,
  pm_geti 3 3 5,
  pm_calls 4 2 2,
  pm_if 11 5 (fun a => decide (a = 0)),
  pm_aload 6 0,
  pm_getr 7 3 1,
  pm_iload 8 1,
  pm_aald 9 3,
  pm_geti 10 5 5,
  pm_goto 12,
  pm_const 12 0,
  pm_iret]
def bp_Ru_valueOf : List Nat := [0, 1, 2, 5, 8, 11, 12, 15, 16, 17, 20, 23, 24]
set_option maxRecDepth 100000 in
theorem sd_Ru_valueOf : pm_Sl prog_6_method_14_code 2 R_Ru "valueOf" (some .int) pm_Y (pm_b bp_Ru_valueOf) 0 tb_Ru_valueOf := by
  refine ⟨so_iloadn d_Ru_valueOf_0 rfl rfl, ?_⟩
  refine ⟨so_aloadn d_Ru_valueOf_1 rfl rfl, ?_⟩
  refine ⟨so_geti (ci := 3) (k := 5) rfl (by decide) rfl rfl fl_Ru_54 d_Ru_valueOf_2 rfl, ?_⟩
  refine ⟨so_calls rfl mc_Lo_isBelow mi_Lo mt_Lo_isBelow ml_Ru_75 yd_Lo_isBelow (by decide) d_Ru_valueOf_5 rfl, ?_⟩
  refine ⟨so_if_eq d_Ru_valueOf_8 rfl rfl, ?_⟩
  refine ⟨so_aloadn d_Ru_valueOf_11 rfl rfl, ?_⟩
  refine ⟨so_getr (ci := 3) (k := 1) rfl (by decide) rfl rfl fl_Ru_11 d_Ru_valueOf_12 rfl, ?_⟩
  refine ⟨so_iloadn d_Ru_valueOf_15 rfl rfl, ?_⟩
  refine ⟨so_aald rfl (by decide) (fun _ => rfl) d_Ru_valueOf_16 rfl, ?_⟩
  refine ⟨so_geti (ci := 5) (k := 5) rfl (by decide) rfl rfl fl_Ru_136 d_Ru_valueOf_17 rfl, ?_⟩
  refine ⟨so_goto d_Ru_valueOf_20 rfl, ?_⟩
  refine ⟨so_const1 d_Ru_valueOf_23 (by decide) rfl, ?_⟩
  refine ⟨so_iret d_Ru_valueOf_24 rfl, ?_⟩
  exact trivial
theorem d_Ru_contentOf_0 : decode prog_6_method_15_code 0 = .ok (.iload_n 1, 1) := by decide +kernel
theorem d_Ru_contentOf_1 : decode prog_6_method_15_code 1 = .ok (.bipush 8, 2) := by decide +kernel
theorem d_Ru_contentOf_3 : decode prog_6_method_15_code 3 = .ok (.invokestatic 75, 3) := by decide +kernel
theorem d_Ru_contentOf_6 : decode prog_6_method_15_code 6 = .ok (.ifCond .eq 15, 3) := by decide +kernel
theorem d_Ru_contentOf_9 : decode prog_6_method_15_code 9 = .ok (.aload_n 0, 1) := by decide +kernel
theorem d_Ru_contentOf_10 : decode prog_6_method_15_code 10 = .ok (.getfield 25, 3) := by decide +kernel
theorem d_Ru_contentOf_13 : decode prog_6_method_15_code 13 = .ok (.iload_n 1, 1) := by decide +kernel
theorem d_Ru_contentOf_14 : decode prog_6_method_15_code 14 = .ok (.aaload, 1) := by decide +kernel
theorem d_Ru_contentOf_15 : decode prog_6_method_15_code 15 = .ok (.getfield 169, 3) := by decide +kernel
theorem d_Ru_contentOf_18 : decode prog_6_method_15_code 18 = .ok (.goto 4, 3) := by decide +kernel
theorem d_Ru_contentOf_21 : decode prog_6_method_15_code 21 = .ok (.iconst 0, 1) := by decide +kernel
theorem d_Ru_contentOf_22 : decode prog_6_method_15_code 22 = .ok (.ireturn, 1) := by decide +kernel
def tb_Ru_contentOf : List pm_I := [
  pm_iload 1 1,
  pm_const 2 8,
  pm_calls 3 2 2,
  pm_if 10 4 (fun a => decide (a = 0)),
  pm_aload 5 0,
  pm_getr 6 3 3,
  pm_iload 7 1,
  pm_aald 8 5,
  pm_geti 9 7 2,
  pm_goto 11,
  pm_const 11 0,
  pm_iret]
def bp_Ru_contentOf : List Nat := [0, 1, 3, 6, 9, 10, 13, 14, 15, 18, 21, 22]
set_option maxRecDepth 100000 in
theorem sd_Ru_contentOf : pm_Sl prog_6_method_15_code 2 R_Ru "contentOf" (some .int) pm_Y (pm_b bp_Ru_contentOf) 0 tb_Ru_contentOf := by
  refine ⟨so_iloadn d_Ru_contentOf_0 rfl rfl, ?_⟩
  refine ⟨so_const2 d_Ru_contentOf_1 (by decide) rfl, ?_⟩
  refine ⟨so_calls rfl mc_Lo_isBelow mi_Lo mt_Lo_isBelow ml_Ru_75 yd_Lo_isBelow (by decide) d_Ru_contentOf_3 rfl, ?_⟩
  refine ⟨so_if_eq d_Ru_contentOf_6 rfl rfl, ?_⟩
  refine ⟨so_aloadn d_Ru_contentOf_9 rfl rfl, ?_⟩
  refine ⟨so_getr (ci := 3) (k := 3) rfl (by decide) rfl rfl fl_Ru_25 d_Ru_contentOf_10 rfl, ?_⟩
  refine ⟨so_iloadn d_Ru_contentOf_13 rfl rfl, ?_⟩
  refine ⟨so_aald rfl (by decide) (fun _ => rfl) d_Ru_contentOf_14 rfl, ?_⟩
  refine ⟨so_geti (ci := 7) (k := 2) rfl (by decide) rfl rfl fl_Ru_169 d_Ru_contentOf_15 rfl, ?_⟩
  refine ⟨so_goto d_Ru_contentOf_18 rfl, ?_⟩
  refine ⟨so_const1 d_Ru_contentOf_21 (by decide) rfl, ?_⟩
  refine ⟨so_iret d_Ru_contentOf_22 rfl, ?_⟩
  exact trivial
theorem d_Ru_holderOf_0 : decode prog_6_method_16_code 0 = .ok (.iload_n 1, 1) := by decide +kernel
theorem d_Ru_holderOf_1 : decode prog_6_method_16_code 1 = .ok (.iconst 4, 1) := by decide +kernel
theorem d_Ru_holderOf_2 : decode prog_6_method_16_code 2 = .ok (.invokestatic 75, 3) := by decide +kernel
theorem d_Ru_holderOf_5 : decode prog_6_method_16_code 5 = .ok (.ifCond .eq 15, 3) := by decide +kernel
theorem d_Ru_holderOf_8 : decode prog_6_method_16_code 8 = .ok (.aload_n 0, 1) := by decide +kernel
theorem d_Ru_holderOf_9 : decode prog_6_method_16_code 9 = .ok (.getfield 19, 3) := by decide +kernel
theorem d_Ru_holderOf_12 : decode prog_6_method_16_code 12 = .ok (.iload_n 1, 1) := by decide +kernel
theorem d_Ru_holderOf_13 : decode prog_6_method_16_code 13 = .ok (.aaload, 1) := by decide +kernel
theorem d_Ru_holderOf_14 : decode prog_6_method_16_code 14 = .ok (.getfield 190, 3) := by decide +kernel
theorem d_Ru_holderOf_17 : decode prog_6_method_16_code 17 = .ok (.goto 4, 3) := by decide +kernel
theorem d_Ru_holderOf_20 : decode prog_6_method_16_code 20 = .ok (.iconst (-1), 1) := by decide +kernel
theorem d_Ru_holderOf_21 : decode prog_6_method_16_code 21 = .ok (.ireturn, 1) := by decide +kernel
def tb_Ru_holderOf : List pm_I := [
  pm_iload 1 1,
  pm_const 2 4,
  pm_calls 3 2 2,
  pm_if 10 4 (fun a => decide (a = 0)),
  pm_aload 5 0,
  pm_getr 6 3 2,
  pm_iload 7 1,
  pm_aald 8 4,
  pm_geti 9 6 1,
  pm_goto 11,
  pm_const 11 (-1),
  pm_iret]
def bp_Ru_holderOf : List Nat := [0, 1, 2, 5, 8, 9, 12, 13, 14, 17, 20, 21]
set_option maxRecDepth 100000 in
theorem sd_Ru_holderOf : pm_Sl prog_6_method_16_code 2 R_Ru "holderOf" (some .int) pm_Y (pm_b bp_Ru_holderOf) 0 tb_Ru_holderOf := by
  refine ⟨so_iloadn d_Ru_holderOf_0 rfl rfl, ?_⟩
  refine ⟨so_const1 d_Ru_holderOf_1 (by decide) rfl, ?_⟩
  refine ⟨so_calls rfl mc_Lo_isBelow mi_Lo mt_Lo_isBelow ml_Ru_75 yd_Lo_isBelow (by decide) d_Ru_holderOf_2 rfl, ?_⟩
  refine ⟨so_if_eq d_Ru_holderOf_5 rfl rfl, ?_⟩
  refine ⟨so_aloadn d_Ru_holderOf_8 rfl rfl, ?_⟩
  refine ⟨so_getr (ci := 3) (k := 2) rfl (by decide) rfl rfl fl_Ru_19 d_Ru_holderOf_9 rfl, ?_⟩
  refine ⟨so_iloadn d_Ru_holderOf_12 rfl rfl, ?_⟩
  refine ⟨so_aald rfl (by decide) (fun _ => rfl) d_Ru_holderOf_13 rfl, ?_⟩
  refine ⟨so_geti (ci := 6) (k := 1) rfl (by decide) rfl rfl fl_Ru_190 d_Ru_holderOf_14 rfl, ?_⟩
  refine ⟨so_goto d_Ru_holderOf_17 rfl, ?_⟩
  refine ⟨so_const1 d_Ru_holderOf_20 (by decide) rfl, ?_⟩
  refine ⟨so_iret d_Ru_holderOf_21 rfl, ?_⟩
  exact trivial
theorem d_Ru_stateOf_0 : decode prog_6_method_17_code 0 = .ok (.iload_n 1, 1) := by decide +kernel
theorem d_Ru_stateOf_1 : decode prog_6_method_17_code 1 = .ok (.aload_n 0, 1) := by decide +kernel
theorem d_Ru_stateOf_2 : decode prog_6_method_17_code 2 = .ok (.getfield 54, 3) := by decide +kernel
theorem d_Ru_stateOf_5 : decode prog_6_method_17_code 5 = .ok (.invokestatic 75, 3) := by decide +kernel
theorem d_Ru_stateOf_8 : decode prog_6_method_17_code 8 = .ok (.ifCond .ne 5, 3) := by decide +kernel
theorem d_Ru_stateOf_11 : decode prog_6_method_17_code 11 = .ok (.iconst (-1), 1) := by decide +kernel
theorem d_Ru_stateOf_12 : decode prog_6_method_17_code 12 = .ok (.ireturn, 1) := by decide +kernel
theorem d_Ru_stateOf_13 : decode prog_6_method_17_code 13 = .ok (.aload_n 0, 1) := by decide +kernel
theorem d_Ru_stateOf_14 : decode prog_6_method_17_code 14 = .ok (.getfield 11, 3) := by decide +kernel
theorem d_Ru_stateOf_17 : decode prog_6_method_17_code 17 = .ok (.iload_n 1, 1) := by decide +kernel
theorem d_Ru_stateOf_18 : decode prog_6_method_17_code 18 = .ok (.aaload, 1) := by decide +kernel
theorem d_Ru_stateOf_19 : decode prog_6_method_17_code 19 = .ok (.invokevirtual 79, 3) := by decide +kernel
theorem d_Ru_stateOf_22 : decode prog_6_method_17_code 22 = .ok (.ifCond .eq 5, 3) := by decide +kernel
theorem d_Ru_stateOf_25 : decode prog_6_method_17_code 25 = .ok (.iconst 2, 1) := by decide +kernel
theorem d_Ru_stateOf_26 : decode prog_6_method_17_code 26 = .ok (.ireturn, 1) := by decide +kernel
theorem d_Ru_stateOf_27 : decode prog_6_method_17_code 27 = .ok (.aload_n 0, 1) := by decide +kernel
theorem d_Ru_stateOf_28 : decode prog_6_method_17_code 28 = .ok (.aload_n 0, 1) := by decide +kernel
theorem d_Ru_stateOf_29 : decode prog_6_method_17_code 29 = .ok (.getfield 11, 3) := by decide +kernel
theorem d_Ru_stateOf_32 : decode prog_6_method_17_code 32 = .ok (.iload_n 1, 1) := by decide +kernel
theorem d_Ru_stateOf_33 : decode prog_6_method_17_code 33 = .ok (.aaload, 1) := by decide +kernel
theorem d_Ru_stateOf_34 : decode prog_6_method_17_code 34 = .ok (.invokevirtual 83, 3) := by decide +kernel
theorem d_Ru_stateOf_37 : decode prog_6_method_17_code 37 = .ok (.ifCond .eq 7, 3) := by decide +kernel
theorem d_Ru_stateOf_40 : decode prog_6_method_17_code 40 = .ok (.iconst 1, 1) := by decide +kernel
theorem d_Ru_stateOf_41 : decode prog_6_method_17_code 41 = .ok (.goto 4, 3) := by decide +kernel
theorem d_Ru_stateOf_44 : decode prog_6_method_17_code 44 = .ok (.iconst 0, 1) := by decide +kernel
theorem d_Ru_stateOf_45 : decode prog_6_method_17_code 45 = .ok (.ireturn, 1) := by decide +kernel
def tb_Ru_stateOf : List pm_I := [
  pm_iload 1 1,
  pm_aload 2 0,
  pm_geti 3 3 5,
  pm_calls 4 2 2,
  pm_if 7 5 (fun a => decide (a ≠ 0)),
  pm_const 6 (-1),
  pm_iret,
  pm_aload 8 0,
  pm_getr 9 3 1,
  pm_iload 10 1,
  pm_aald 11 3,
  pm_callv 12 58 1 5,
  pm_if 15 13 (fun a => decide (a = 0)),
  pm_const 14 2,
  pm_iret,
  pm_aload 16 0,
  pm_aload 17 0,
  pm_getr 18 3 1,
  pm_iload 19 1,
  pm_aald 20 3,
  pm_callv 21 37 2 3,
  pm_if 24 22 (fun a => decide (a = 0)),
  pm_const 23 1,
  pm_goto 25,
  pm_const 25 0,
  pm_iret]
def bp_Ru_stateOf : List Nat := [0, 1, 2, 5, 8, 11, 12, 13, 14, 17, 18, 19, 22, 25, 26, 27, 28, 29, 32, 33, 34, 37, 40, 41, 44, 45]
set_option maxRecDepth 100000 in
theorem sd_Ru_stateOf : pm_Sl prog_6_method_17_code 2 R_Ru "stateOf" (some .int) pm_Y (pm_b bp_Ru_stateOf) 0 tb_Ru_stateOf := by
  refine ⟨so_iloadn d_Ru_stateOf_0 rfl rfl, ?_⟩
  refine ⟨so_aloadn d_Ru_stateOf_1 rfl rfl, ?_⟩
  refine ⟨so_geti (ci := 3) (k := 5) rfl (by decide) rfl rfl fl_Ru_54 d_Ru_stateOf_2 rfl, ?_⟩
  refine ⟨so_calls rfl mc_Lo_isBelow mi_Lo mt_Lo_isBelow ml_Ru_75 yd_Lo_isBelow (by decide) d_Ru_stateOf_5 rfl, ?_⟩
  refine ⟨so_if_ne d_Ru_stateOf_8 rfl rfl, ?_⟩
  refine ⟨so_const1 d_Ru_stateOf_11 (by decide) rfl, ?_⟩
  refine ⟨so_iret d_Ru_stateOf_12 rfl, ?_⟩
  refine ⟨so_aloadn d_Ru_stateOf_13 rfl rfl, ?_⟩
  refine ⟨so_getr (ci := 3) (k := 1) rfl (by decide) rfl rfl fl_Ru_11 d_Ru_stateOf_14 rfl, ?_⟩
  refine ⟨so_iloadn d_Ru_stateOf_17 rfl rfl, ?_⟩
  refine ⟨so_aald rfl (by decide) (fun _ => rfl) d_Ru_stateOf_18 rfl, ?_⟩
  refine ⟨so_callv (ci := 5) rfl rfl mc_Sd_isDone mi_Sd mj_Sd_isDone ms_Sd_isDone ml_Ru_79 yd_Sd_isDone (by decide) d_Ru_stateOf_19 rfl, ?_⟩
  refine ⟨so_if_eq d_Ru_stateOf_22 rfl rfl, ?_⟩
  refine ⟨so_const1 d_Ru_stateOf_25 (by decide) rfl, ?_⟩
  refine ⟨so_iret d_Ru_stateOf_26 rfl, ?_⟩
  refine ⟨so_aloadn d_Ru_stateOf_27 rfl rfl, ?_⟩
  refine ⟨so_aloadn d_Ru_stateOf_28 rfl rfl, ?_⟩
  refine ⟨so_getr (ci := 3) (k := 1) rfl (by decide) rfl rfl fl_Ru_11 d_Ru_stateOf_29 rfl, ?_⟩
  refine ⟨so_iloadn d_Ru_stateOf_32 rfl rfl, ?_⟩
  refine ⟨so_aald rfl (by decide) (fun _ => rfl) d_Ru_stateOf_33 rfl, ?_⟩
  refine ⟨so_callv (ci := 3) rfl rfl mc_Ru_wouldWait mi_Ru mj_Ru_wouldWait ms_Ru_wouldWait ml_Ru_83 yd_Ru_wouldWait (by decide) d_Ru_stateOf_34 rfl, ?_⟩
  refine ⟨so_if_eq d_Ru_stateOf_37 rfl rfl, ?_⟩
  refine ⟨so_const1 d_Ru_stateOf_40 (by decide) rfl, ?_⟩
  refine ⟨so_goto d_Ru_stateOf_41 rfl, ?_⟩
  refine ⟨so_const1 d_Ru_stateOf_44 (by decide) rfl, ?_⟩
  refine ⟨so_iret d_Ru_stateOf_45 rfl, ?_⟩
  exact trivial
theorem d_Ru_countOf_0 : decode prog_6_method_18_code 0 = .ok (.aload_n 0, 1) := by decide +kernel
theorem d_Ru_countOf_1 : decode prog_6_method_18_code 1 = .ok (.getfield 54, 3) := by decide +kernel
theorem d_Ru_countOf_4 : decode prog_6_method_18_code 4 = .ok (.ifCond .ne 5, 3) := by decide +kernel
theorem d_Ru_countOf_7 : decode prog_6_method_18_code 7 = .ok (.iconst (-1), 1) := by decide +kernel
theorem d_Ru_countOf_8 : decode prog_6_method_18_code 8 = .ok (.ireturn, 1) := by decide +kernel
theorem d_Ru_countOf_9 : decode prog_6_method_18_code 9 = .ok (.iload_n 1, 1) := by decide +kernel
theorem d_Ru_countOf_10 : decode prog_6_method_18_code 10 = .ok (.tableswitch 44 0 2 #[26, 31, 36], 26) := by decide +kernel
theorem d_Ru_countOf_36 : decode prog_6_method_18_code 36 = .ok (.aload_n 0, 1) := by decide +kernel
theorem d_Ru_countOf_37 : decode prog_6_method_18_code 37 = .ok (.getfield 54, 3) := by decide +kernel
theorem d_Ru_countOf_40 : decode prog_6_method_18_code 40 = .ok (.ireturn, 1) := by decide +kernel
theorem d_Ru_countOf_41 : decode prog_6_method_18_code 41 = .ok (.aload_n 0, 1) := by decide +kernel
theorem d_Ru_countOf_42 : decode prog_6_method_18_code 42 = .ok (.getfield 50, 3) := by decide +kernel
theorem d_Ru_countOf_45 : decode prog_6_method_18_code 45 = .ok (.ireturn, 1) := by decide +kernel
theorem d_Ru_countOf_46 : decode prog_6_method_18_code 46 = .ok (.aload_n 0, 1) := by decide +kernel
theorem d_Ru_countOf_47 : decode prog_6_method_18_code 47 = .ok (.getfield 32, 3) := by decide +kernel
theorem d_Ru_countOf_50 : decode prog_6_method_18_code 50 = .ok (.getfield 193, 3) := by decide +kernel
theorem d_Ru_countOf_53 : decode prog_6_method_18_code 53 = .ok (.ireturn, 1) := by decide +kernel
theorem d_Ru_countOf_54 : decode prog_6_method_18_code 54 = .ok (.iconst (-1), 1) := by decide +kernel
theorem d_Ru_countOf_55 : decode prog_6_method_18_code 55 = .ok (.ireturn, 1) := by decide +kernel
def tb_Ru_countOf : List pm_I := [
  pm_aload 1 0,
  pm_geti 2 3 5,
  pm_if 5 3 (fun a => decide (a ≠ 0)),
  pm_const 4 (-1),
  pm_iret,
  pm_iload 6 1,
  pm_sw [(0, 7), (1, 10), (2, 13)] 17,
  pm_aload 8 0,
  pm_geti 9 3 5,
  pm_iret,
  pm_aload 11 0,
  pm_geti 12 3 6,
  pm_iret,
  pm_aload 14 0,
  pm_getr 15 3 4,
  pm_geti 16 4 1,
  pm_iret,
  pm_const 18 (-1),
  pm_iret]
def bp_Ru_countOf : List Nat := [0, 1, 4, 7, 8, 9, 10, 36, 37, 40, 41, 42, 45, 46, 47, 50, 53, 54, 55]
set_option maxRecDepth 100000 in
theorem sd_Ru_countOf : pm_Sl prog_6_method_18_code 2 R_Ru "countOf" (some .int) pm_Y (pm_b bp_Ru_countOf) 0 tb_Ru_countOf := by
  refine ⟨so_aloadn d_Ru_countOf_0 rfl rfl, ?_⟩
  refine ⟨so_geti (ci := 3) (k := 5) rfl (by decide) rfl rfl fl_Ru_54 d_Ru_countOf_1 rfl, ?_⟩
  refine ⟨so_if_ne d_Ru_countOf_4 rfl rfl, ?_⟩
  refine ⟨so_const1 d_Ru_countOf_7 (by decide) rfl, ?_⟩
  refine ⟨so_iret d_Ru_countOf_8 rfl, ?_⟩
  refine ⟨so_iloadn d_Ru_countOf_9 rfl rfl, ?_⟩
  refine ⟨so_tsw d_Ru_countOf_10 (by decide +kernel) (by decide +kernel) rfl, ?_⟩
  refine ⟨so_aloadn d_Ru_countOf_36 rfl rfl, ?_⟩
  refine ⟨so_geti (ci := 3) (k := 5) rfl (by decide) rfl rfl fl_Ru_54 d_Ru_countOf_37 rfl, ?_⟩
  refine ⟨so_iret d_Ru_countOf_40 rfl, ?_⟩
  refine ⟨so_aloadn d_Ru_countOf_41 rfl rfl, ?_⟩
  refine ⟨so_geti (ci := 3) (k := 6) rfl (by decide) rfl rfl fl_Ru_50 d_Ru_countOf_42 rfl, ?_⟩
  refine ⟨so_iret d_Ru_countOf_45 rfl, ?_⟩
  refine ⟨so_aloadn d_Ru_countOf_46 rfl rfl, ?_⟩
  refine ⟨so_getr (ci := 3) (k := 4) rfl (by decide) rfl rfl fl_Ru_32 d_Ru_countOf_47 rfl, ?_⟩
  refine ⟨so_geti (ci := 4) (k := 1) rfl (by decide) rfl rfl fl_Ru_193 d_Ru_countOf_50 rfl, ?_⟩
  refine ⟨so_iret d_Ru_countOf_53 rfl, ?_⟩
  refine ⟨so_const1 d_Ru_countOf_54 (by decide) rfl, ?_⟩
  refine ⟨so_iret d_Ru_countOf_55 rfl, ?_⟩
  exact trivial
theorem d_Ru_racePart_0 : decode prog_6_method_19_code 0 = .ok (.aload_n 0, 1) := by decide +kernel
theorem d_Ru_racePart_1 : decode prog_6_method_19_code 1 = .ok (.getfield 32, 3) := by decide +kernel
theorem d_Ru_racePart_4 : decode prog_6_method_19_code 4 = .ok (.iload_n 1, 1) := by decide +kernel
theorem d_Ru_racePart_5 : decode prog_6_method_19_code 5 = .ok (.iload_n 2, 1) := by decide +kernel
theorem d_Ru_racePart_6 : decode prog_6_method_19_code 6 = .ok (.invokevirtual 196, 3) := by decide +kernel
theorem d_Ru_racePart_9 : decode prog_6_method_19_code 9 = .ok (.ireturn, 1) := by decide +kernel
def tb_Ru_racePart : List pm_I := [
  pm_aload 1 0,
  pm_getr 2 3 4,
  pm_iload 3 1,
  pm_iload 4 2,
  pm_callv 5 54 3 4,
  pm_iret]
def bp_Ru_racePart : List Nat := [0, 1, 4, 5, 6, 9]
set_option maxRecDepth 100000 in
theorem sd_Ru_racePart : pm_Sl prog_6_method_19_code 3 R_Ru "racePart" (some .int) pm_Y (pm_b bp_Ru_racePart) 0 tb_Ru_racePart := by
  refine ⟨so_aloadn d_Ru_racePart_0 rfl rfl, ?_⟩
  refine ⟨so_getr (ci := 3) (k := 4) rfl (by decide) rfl rfl fl_Ru_32 d_Ru_racePart_1 rfl, ?_⟩
  refine ⟨so_iloadn d_Ru_racePart_4 rfl rfl, ?_⟩
  refine ⟨so_iloadn d_Ru_racePart_5 rfl rfl, ?_⟩
  refine ⟨so_callv (ci := 4) rfl rfl mc_Rl_part mi_Rl mj_Rl_part ms_Rl_part ml_Ru_196 yd_Rl_part (by decide) d_Ru_racePart_6 rfl, ?_⟩
  refine ⟨so_iret d_Ru_racePart_9 rfl, ?_⟩
  exact trivial
theorem d_Ru_isStuck_0 : decode prog_6_method_20_code 0 = .ok (.iconst 0, 1) := by decide +kernel
theorem d_Ru_isStuck_1 : decode prog_6_method_20_code 1 = .ok (.istore_n 1, 1) := by decide +kernel
theorem d_Ru_isStuck_2 : decode prog_6_method_20_code 2 = .ok (.iconst 0, 1) := by decide +kernel
theorem d_Ru_isStuck_3 : decode prog_6_method_20_code 3 = .ok (.istore_n 2, 1) := by decide +kernel
theorem d_Ru_isStuck_4 : decode prog_6_method_20_code 4 = .ok (.iload_n 2, 1) := by decide +kernel
theorem d_Ru_isStuck_5 : decode prog_6_method_20_code 5 = .ok (.aload_n 0, 1) := by decide +kernel
theorem d_Ru_isStuck_6 : decode prog_6_method_20_code 6 = .ok (.getfield 54, 3) := by decide +kernel
theorem d_Ru_isStuck_9 : decode prog_6_method_20_code 9 = .ok (.if_icmp .ge 36, 3) := by decide +kernel
theorem d_Ru_isStuck_12 : decode prog_6_method_20_code 12 = .ok (.aload_n 0, 1) := by decide +kernel
theorem d_Ru_isStuck_13 : decode prog_6_method_20_code 13 = .ok (.iload_n 2, 1) := by decide +kernel
theorem d_Ru_isStuck_14 : decode prog_6_method_20_code 14 = .ok (.invokevirtual 200, 3) := by decide +kernel
theorem d_Ru_isStuck_17 : decode prog_6_method_20_code 17 = .ok (.istore_n 3, 1) := by decide +kernel
theorem d_Ru_isStuck_18 : decode prog_6_method_20_code 18 = .ok (.iload_n 3, 1) := by decide +kernel
theorem d_Ru_isStuck_19 : decode prog_6_method_20_code 19 = .ok (.ifCond .ne 5, 3) := by decide +kernel
theorem d_Ru_isStuck_22 : decode prog_6_method_20_code 22 = .ok (.iconst 0, 1) := by decide +kernel
theorem d_Ru_isStuck_23 : decode prog_6_method_20_code 23 = .ok (.ireturn, 1) := by decide +kernel
theorem d_Ru_isStuck_24 : decode prog_6_method_20_code 24 = .ok (.iload_n 1, 1) := by decide +kernel
theorem d_Ru_isStuck_25 : decode prog_6_method_20_code 25 = .ok (.ifCond .ne 8, 3) := by decide +kernel
theorem d_Ru_isStuck_28 : decode prog_6_method_20_code 28 = .ok (.iload_n 3, 1) := by decide +kernel
theorem d_Ru_isStuck_29 : decode prog_6_method_20_code 29 = .ok (.iconst 1, 1) := by decide +kernel
theorem d_Ru_isStuck_30 : decode prog_6_method_20_code 30 = .ok (.if_icmp .ne 7, 3) := by decide +kernel
theorem d_Ru_isStuck_33 : decode prog_6_method_20_code 33 = .ok (.iconst 1, 1) := by decide +kernel
theorem d_Ru_isStuck_34 : decode prog_6_method_20_code 34 = .ok (.goto 4, 3) := by decide +kernel
theorem d_Ru_isStuck_37 : decode prog_6_method_20_code 37 = .ok (.iconst 0, 1) := by decide +kernel
theorem d_Ru_isStuck_38 : decode prog_6_method_20_code 38 = .ok (.istore_n 1, 1) := by decide +kernel
theorem d_Ru_isStuck_39 : decode prog_6_method_20_code 39 = .ok (.iinc 2 1, 3) := by decide +kernel
theorem d_Ru_isStuck_42 : decode prog_6_method_20_code 42 = .ok (.goto (-38), 3) := by decide +kernel
theorem d_Ru_isStuck_45 : decode prog_6_method_20_code 45 = .ok (.iload_n 1, 1) := by decide +kernel
theorem d_Ru_isStuck_46 : decode prog_6_method_20_code 46 = .ok (.ireturn, 1) := by decide +kernel
def tb_Ru_isStuck : List pm_I := [
  pm_const 1 0,
  pm_istore 2 1,
  pm_const 3 0,
  pm_istore 4 2,
  pm_iload 5 2,
  pm_aload 6 0,
  pm_geti 7 3 5,
  pm_icmp 27 8 (fun a b => decide (b ≤ a)),
  pm_aload 9 0,
  pm_iload 10 2,
  pm_callv 11 47 2 3,
  pm_istore 12 3,
  pm_iload 13 3,
  pm_if 16 14 (fun a => decide (a ≠ 0)),
  pm_const 15 0,
  pm_zret,
  pm_iload 17 1,
  pm_if 21 18 (fun a => decide (a ≠ 0)),
  pm_iload 19 3,
  pm_const 20 1,
  pm_icmp 23 21 (fun a b => decide (a ≠ b)),
  pm_const 22 1,
  pm_goto 24,
  pm_const 24 0,
  pm_istore 25 1,
  pm_iinc 26 2 1,
  pm_goto 4,
  pm_iload 28 1,
  pm_zret]
def bp_Ru_isStuck : List Nat := [0, 1, 2, 3, 4, 5, 6, 9, 12, 13, 14, 17, 18, 19, 22, 23, 24, 25, 28, 29, 30, 33, 34, 37, 38, 39, 42, 45, 46]
set_option maxRecDepth 100000 in
theorem sd_Ru_isStuck : pm_Sl prog_6_method_20_code 4 R_Ru "isStuck" (some .boolean) pm_Y (pm_b bp_Ru_isStuck) 0 tb_Ru_isStuck := by
  refine ⟨so_const1 d_Ru_isStuck_0 (by decide) rfl, ?_⟩
  refine ⟨so_istoren d_Ru_isStuck_1 rfl (by decide) rfl, ?_⟩
  refine ⟨so_const1 d_Ru_isStuck_2 (by decide) rfl, ?_⟩
  refine ⟨so_istoren d_Ru_isStuck_3 rfl (by decide) rfl, ?_⟩
  refine ⟨so_iloadn d_Ru_isStuck_4 rfl rfl, ?_⟩
  refine ⟨so_aloadn d_Ru_isStuck_5 rfl rfl, ?_⟩
  refine ⟨so_geti (ci := 3) (k := 5) rfl (by decide) rfl rfl fl_Ru_54 d_Ru_isStuck_6 rfl, ?_⟩
  refine ⟨so_icmp_ge d_Ru_isStuck_9 rfl rfl, ?_⟩
  refine ⟨so_aloadn d_Ru_isStuck_12 rfl rfl, ?_⟩
  refine ⟨so_iloadn d_Ru_isStuck_13 rfl rfl, ?_⟩
  refine ⟨so_callv (ci := 3) rfl rfl mc_Ru_stateOf mi_Ru mj_Ru_stateOf ms_Ru_stateOf ml_Ru_200 yd_Ru_stateOf (by decide) d_Ru_isStuck_14 rfl, ?_⟩
  refine ⟨so_istoren d_Ru_isStuck_17 rfl (by decide) rfl, ?_⟩
  refine ⟨so_iloadn d_Ru_isStuck_18 rfl rfl, ?_⟩
  refine ⟨so_if_ne d_Ru_isStuck_19 rfl rfl, ?_⟩
  refine ⟨so_const1 d_Ru_isStuck_22 (by decide) rfl, ?_⟩
  refine ⟨so_zret d_Ru_isStuck_23 rfl, ?_⟩
  refine ⟨so_iloadn d_Ru_isStuck_24 rfl rfl, ?_⟩
  refine ⟨so_if_ne d_Ru_isStuck_25 rfl rfl, ?_⟩
  refine ⟨so_iloadn d_Ru_isStuck_28 rfl rfl, ?_⟩
  refine ⟨so_const1 d_Ru_isStuck_29 (by decide) rfl, ?_⟩
  refine ⟨so_icmp_ne d_Ru_isStuck_30 rfl rfl, ?_⟩
  refine ⟨so_const1 d_Ru_isStuck_33 (by decide) rfl, ?_⟩
  refine ⟨so_goto d_Ru_isStuck_34 rfl, ?_⟩
  refine ⟨so_const1 d_Ru_isStuck_37 (by decide) rfl, ?_⟩
  refine ⟨so_istoren d_Ru_isStuck_38 rfl (by decide) rfl, ?_⟩
  refine ⟨so_iinc d_Ru_isStuck_39 (by decide) (by decide) rfl, ?_⟩
  refine ⟨so_goto d_Ru_isStuck_42 rfl, ?_⟩
  refine ⟨so_iloadn d_Ru_isStuck_45 rfl rfl, ?_⟩
  refine ⟨so_zret d_Ru_isStuck_46 rfl, ?_⟩
  exact trivial
theorem d_Sd_init_0 : decode prog_8_method_1_code 0 = .ok (.aload_n 0, 1) := by decide +kernel
theorem d_Sd_init_1 : decode prog_8_method_1_code 1 = .ok (.invokespecial 3, 3) := by decide +kernel
theorem d_Sd_init_4 : decode prog_8_method_1_code 4 = .ok (.aload_n 0, 1) := by decide +kernel
theorem d_Sd_init_5 : decode prog_8_method_1_code 5 = .ok (.bipush 8, 2) := by decide +kernel
theorem d_Sd_init_7 : decode prog_8_method_1_code 7 = .ok (.newarray .int, 2) := by decide +kernel
theorem d_Sd_init_9 : decode prog_8_method_1_code 9 = .ok (.putfield 9, 3) := by decide +kernel
theorem d_Sd_init_12 : decode prog_8_method_1_code 12 = .ok (.aload_n 0, 1) := by decide +kernel
theorem d_Sd_init_13 : decode prog_8_method_1_code 13 = .ok (.bipush 8, 2) := by decide +kernel
theorem d_Sd_init_15 : decode prog_8_method_1_code 15 = .ok (.newarray .int, 2) := by decide +kernel
theorem d_Sd_init_17 : decode prog_8_method_1_code 17 = .ok (.putfield 15, 3) := by decide +kernel
theorem d_Sd_init_20 : decode prog_8_method_1_code 20 = .ok (.aload_n 0, 1) := by decide +kernel
theorem d_Sd_init_21 : decode prog_8_method_1_code 21 = .ok (.bipush 6, 2) := by decide +kernel
theorem d_Sd_init_23 : decode prog_8_method_1_code 23 = .ok (.newarray .int, 2) := by decide +kernel
theorem d_Sd_init_25 : decode prog_8_method_1_code 25 = .ok (.putfield 18, 3) := by decide +kernel
theorem d_Sd_init_28 : decode prog_8_method_1_code 28 = .ok (.aload_n 0, 1) := by decide +kernel
theorem d_Sd_init_29 : decode prog_8_method_1_code 29 = .ok (.iload_n 1, 1) := by decide +kernel
theorem d_Sd_init_30 : decode prog_8_method_1_code 30 = .ok (.putfield 21, 3) := by decide +kernel
theorem d_Sd_init_33 : decode prog_8_method_1_code 33 = .ok (.return_, 1) := by decide +kernel
def tb_Sd_init : List pm_I := [
  pm_aload 1 0,
  pm_oinit 2,
  pm_aload 3 0,
  pm_const 4 8,
  pm_newa 5 0,
  pm_putr 6 5 1,
  pm_aload 7 0,
  pm_const 8 8,
  pm_newa 9 0,
  pm_putr 10 5 2,
  pm_aload 11 0,
  pm_const 12 6,
  pm_newa 13 0,
  pm_putr 14 5 3,
  pm_aload 15 0,
  pm_iload 16 1,
  pm_puti 17 5 0,
  pm_vret]
def bp_Sd_init : List Nat := [0, 1, 4, 5, 7, 9, 12, 13, 15, 17, 20, 21, 23, 25, 28, 29, 30, 33]
set_option maxRecDepth 100000 in
theorem sd_Sd_init : pm_Sl prog_8_method_1_code 2 R_Sd "<init>" (none) pm_Y (pm_b bp_Sd_init) 0 tb_Sd_init := by
  refine ⟨so_aloadn d_Sd_init_0 rfl rfl, ?_⟩
  refine ⟨so_oinit (pm_in1 (List.mem_append_left _ (List.mem_of_getElem? (i := 110) rfl))) (pm_in1 (List.mem_append_left _ (List.mem_of_getElem? (i := 19) rfl))) (pm_in1 (List.mem_append_left _ (List.mem_of_getElem? (i := 20) rfl))) d_Sd_init_1 rfl, ?_⟩
  refine ⟨so_aloadn d_Sd_init_4 rfl rfl, ?_⟩
  refine ⟨so_const2 d_Sd_init_5 (by decide) rfl, ?_⟩
  refine ⟨so_newi d_Sd_init_7 rfl, ?_⟩
  refine ⟨so_putr (ci := 5) (k := 1) rfl (by decide) rfl rfl (Or.inr ⟨rfl, rfl, rfl, pm_in1 (List.mem_append_left _ (List.mem_of_getElem? (i := 114) rfl))⟩) d_Sd_init_9 rfl, ?_⟩
  refine ⟨so_aloadn d_Sd_init_12 rfl rfl, ?_⟩
  refine ⟨so_const2 d_Sd_init_13 (by decide) rfl, ?_⟩
  refine ⟨so_newi d_Sd_init_15 rfl, ?_⟩
  refine ⟨so_putr (ci := 5) (k := 2) rfl (by decide) rfl rfl (Or.inr ⟨rfl, rfl, rfl, pm_in1 (List.mem_append_left _ (List.mem_of_getElem? (i := 116) rfl))⟩) d_Sd_init_17 rfl, ?_⟩
  refine ⟨so_aloadn d_Sd_init_20 rfl rfl, ?_⟩
  refine ⟨so_const2 d_Sd_init_21 (by decide) rfl, ?_⟩
  refine ⟨so_newi d_Sd_init_23 rfl, ?_⟩
  refine ⟨so_putr (ci := 5) (k := 3) rfl (by decide) rfl rfl (Or.inr ⟨rfl, rfl, rfl, pm_in1 (List.mem_append_left _ (List.mem_of_getElem? (i := 118) rfl))⟩) d_Sd_init_25 rfl, ?_⟩
  refine ⟨so_aloadn d_Sd_init_28 rfl rfl, ?_⟩
  refine ⟨so_iloadn d_Sd_init_29 rfl rfl, ?_⟩
  refine ⟨so_puti (ci := 5) (k := 0) rfl (by decide) rfl rfl (Or.inr ⟨rfl, rfl, rfl, pm_in1 (List.mem_append_left _ (List.mem_of_getElem? (i := 111) rfl))⟩) d_Sd_init_30 rfl, ?_⟩
  refine ⟨so_vret d_Sd_init_33 rfl, ?_⟩
  exact trivial
theorem d_Sd_begin_0 : decode prog_8_method_2_code 0 = .ok (.aload_n 0, 1) := by decide +kernel
theorem d_Sd_begin_1 : decode prog_8_method_2_code 1 = .ok (.iload_n 2, 1) := by decide +kernel
theorem d_Sd_begin_2 : decode prog_8_method_2_code 2 = .ok (.putfield 25, 3) := by decide +kernel
theorem d_Sd_begin_5 : decode prog_8_method_2_code 5 = .ok (.aload_n 0, 1) := by decide +kernel
theorem d_Sd_begin_6 : decode prog_8_method_2_code 6 = .ok (.iconst 0, 1) := by decide +kernel
theorem d_Sd_begin_7 : decode prog_8_method_2_code 7 = .ok (.putfield 28, 3) := by decide +kernel
theorem d_Sd_begin_10 : decode prog_8_method_2_code 10 = .ok (.aload_n 0, 1) := by decide +kernel
theorem d_Sd_begin_11 : decode prog_8_method_2_code 11 = .ok (.iload_n 1, 1) := by decide +kernel
theorem d_Sd_begin_12 : decode prog_8_method_2_code 12 = .ok (.invokevirtual 31, 3) := by decide +kernel
theorem d_Sd_begin_15 : decode prog_8_method_2_code 15 = .ok (.return_, 1) := by decide +kernel
def tb_Sd_begin : List pm_I := [
  pm_aload 1 0,
  pm_iload 2 2,
  pm_puti 3 5 5,
  pm_aload 4 0,
  pm_const 5 0,
  pm_puti 6 5 4,
  pm_aload 7 0,
  pm_iload 8 1,
  pm_callv 9 57 2 5,
  pm_vret]
def bp_Sd_begin : List Nat := [0, 1, 2, 5, 6, 7, 10, 11, 12, 15]
set_option maxRecDepth 100000 in
theorem sd_Sd_begin : pm_Sl prog_8_method_2_code 3 R_Sd "begin" (none) pm_Y (pm_b bp_Sd_begin) 0 tb_Sd_begin := by
  refine ⟨so_aloadn d_Sd_begin_0 rfl rfl, ?_⟩
  refine ⟨so_iloadn d_Sd_begin_1 rfl rfl, ?_⟩
  refine ⟨so_puti (ci := 5) (k := 5) rfl (by decide) rfl rfl (Or.inl ⟨rfl, fl_Sd_25⟩) d_Sd_begin_2 rfl, ?_⟩
  refine ⟨so_aloadn d_Sd_begin_5 rfl rfl, ?_⟩
  refine ⟨so_const1 d_Sd_begin_6 (by decide) rfl, ?_⟩
  refine ⟨so_puti (ci := 5) (k := 4) rfl (by decide) rfl rfl (Or.inl ⟨rfl, fl_Sd_28⟩) d_Sd_begin_7 rfl, ?_⟩
  refine ⟨so_aloadn d_Sd_begin_10 rfl rfl, ?_⟩
  refine ⟨so_iloadn d_Sd_begin_11 rfl rfl, ?_⟩
  refine ⟨so_callv (ci := 5) rfl rfl mc_Sd_enter mi_Sd mj_Sd_enter ms_Sd_enter ml_Sd_31 yd_Sd_enter (by decide) d_Sd_begin_12 rfl, ?_⟩
  refine ⟨so_vret d_Sd_begin_15 rfl, ?_⟩
  exact trivial
theorem d_Sd_enter_0 : decode prog_8_method_3_code 0 = .ok (.aload_n 0, 1) := by decide +kernel
theorem d_Sd_enter_1 : decode prog_8_method_3_code 1 = .ok (.getfield 28, 3) := by decide +kernel
theorem d_Sd_enter_4 : decode prog_8_method_3_code 4 = .ok (.bipush 8, 2) := by decide +kernel
theorem d_Sd_enter_6 : decode prog_8_method_3_code 6 = .ok (.if_icmp .ge 33, 3) := by decide +kernel
theorem d_Sd_enter_9 : decode prog_8_method_3_code 9 = .ok (.aload_n 0, 1) := by decide +kernel
theorem d_Sd_enter_10 : decode prog_8_method_3_code 10 = .ok (.getfield 9, 3) := by decide +kernel
theorem d_Sd_enter_13 : decode prog_8_method_3_code 13 = .ok (.aload_n 0, 1) := by decide +kernel
theorem d_Sd_enter_14 : decode prog_8_method_3_code 14 = .ok (.getfield 28, 3) := by decide +kernel
theorem d_Sd_enter_17 : decode prog_8_method_3_code 17 = .ok (.iload_n 1, 1) := by decide +kernel
theorem d_Sd_enter_18 : decode prog_8_method_3_code 18 = .ok (.iastore, 1) := by decide +kernel
theorem d_Sd_enter_19 : decode prog_8_method_3_code 19 = .ok (.aload_n 0, 1) := by decide +kernel
theorem d_Sd_enter_20 : decode prog_8_method_3_code 20 = .ok (.getfield 15, 3) := by decide +kernel
theorem d_Sd_enter_23 : decode prog_8_method_3_code 23 = .ok (.aload_n 0, 1) := by decide +kernel
theorem d_Sd_enter_24 : decode prog_8_method_3_code 24 = .ok (.getfield 28, 3) := by decide +kernel
theorem d_Sd_enter_27 : decode prog_8_method_3_code 27 = .ok (.iconst 0, 1) := by decide +kernel
theorem d_Sd_enter_28 : decode prog_8_method_3_code 28 = .ok (.iastore, 1) := by decide +kernel
theorem d_Sd_enter_29 : decode prog_8_method_3_code 29 = .ok (.aload_n 0, 1) := by decide +kernel
theorem d_Sd_enter_30 : decode prog_8_method_3_code 30 = .ok (.dup, 1) := by decide +kernel
theorem d_Sd_enter_31 : decode prog_8_method_3_code 31 = .ok (.getfield 28, 3) := by decide +kernel
theorem d_Sd_enter_34 : decode prog_8_method_3_code 34 = .ok (.iconst 1, 1) := by decide +kernel
theorem d_Sd_enter_35 : decode prog_8_method_3_code 35 = .ok (.iadd, 1) := by decide +kernel
theorem d_Sd_enter_36 : decode prog_8_method_3_code 36 = .ok (.putfield 28, 3) := by decide +kernel
theorem d_Sd_enter_39 : decode prog_8_method_3_code 39 = .ok (.return_, 1) := by decide +kernel
def tb_Sd_enter : List pm_I := [
  pm_aload 1 0,
  pm_geti 2 5 4,
  pm_const 3 8,
  pm_icmp 22 4 (fun a b => decide (b ≤ a)),
  pm_aload 5 0,
  pm_getr 6 5 1,
  pm_aload 7 0,
  pm_geti 8 5 4,
  pm_iload 9 1,
  pm_iast 10,
  pm_aload 11 0,
  pm_getr 12 5 2,
  pm_aload 13 0,
  pm_geti 14 5 4,
  pm_const 15 0,
  pm_iast 16,
  pm_aload 17 0,
  pm_dup 18,
  pm_geti 19 5 4,
  pm_const 20 1,
  pm_bin 21 (fun a b => a + b),
  pm_puti 22 5 4,
  pm_vret]
def bp_Sd_enter : List Nat := [0, 1, 4, 6, 9, 10, 13, 14, 17, 18, 19, 20, 23, 24, 27, 28, 29, 30, 31, 34, 35, 36, 39]
set_option maxRecDepth 100000 in
theorem sd_Sd_enter : pm_Sl prog_8_method_3_code 2 R_Sd "enter" (none) pm_Y (pm_b bp_Sd_enter) 0 tb_Sd_enter := by
  refine ⟨so_aloadn d_Sd_enter_0 rfl rfl, ?_⟩
  refine ⟨so_geti (ci := 5) (k := 4) rfl (by decide) rfl rfl fl_Sd_28 d_Sd_enter_1 rfl, ?_⟩
  refine ⟨so_const2 d_Sd_enter_4 (by decide) rfl, ?_⟩
  refine ⟨so_icmp_ge d_Sd_enter_6 rfl rfl, ?_⟩
  refine ⟨so_aloadn d_Sd_enter_9 rfl rfl, ?_⟩
  refine ⟨so_getr (ci := 5) (k := 1) rfl (by decide) rfl rfl fl_Sd_9 d_Sd_enter_10 rfl, ?_⟩
  refine ⟨so_aloadn d_Sd_enter_13 rfl rfl, ?_⟩
  refine ⟨so_geti (ci := 5) (k := 4) rfl (by decide) rfl rfl fl_Sd_28 d_Sd_enter_14 rfl, ?_⟩
  refine ⟨so_iloadn d_Sd_enter_17 rfl rfl, ?_⟩
  refine ⟨so_iast d_Sd_enter_18 rfl, ?_⟩
  refine ⟨so_aloadn d_Sd_enter_19 rfl rfl, ?_⟩
  refine ⟨so_getr (ci := 5) (k := 2) rfl (by decide) rfl rfl fl_Sd_15 d_Sd_enter_20 rfl, ?_⟩
  refine ⟨so_aloadn d_Sd_enter_23 rfl rfl, ?_⟩
  refine ⟨so_geti (ci := 5) (k := 4) rfl (by decide) rfl rfl fl_Sd_28 d_Sd_enter_24 rfl, ?_⟩
  refine ⟨so_const1 d_Sd_enter_27 (by decide) rfl, ?_⟩
  refine ⟨so_iast d_Sd_enter_28 rfl, ?_⟩
  refine ⟨so_aloadn d_Sd_enter_29 rfl rfl, ?_⟩
  refine ⟨so_dup d_Sd_enter_30 rfl, ?_⟩
  refine ⟨so_geti (ci := 5) (k := 4) rfl (by decide) rfl rfl fl_Sd_28 d_Sd_enter_31 rfl, ?_⟩
  refine ⟨so_const1 d_Sd_enter_34 (by decide) rfl, ?_⟩
  refine ⟨so_iadd d_Sd_enter_35 rfl, ?_⟩
  refine ⟨so_puti (ci := 5) (k := 4) rfl (by decide) rfl rfl (Or.inl ⟨rfl, fl_Sd_28⟩) d_Sd_enter_36 rfl, ?_⟩
  refine ⟨so_vret d_Sd_enter_39 rfl, ?_⟩
  exact trivial
theorem d_Sd_isDone_0 : decode prog_8_method_4_code 0 = .ok (.aload_n 0, 1) := by decide +kernel
theorem d_Sd_isDone_1 : decode prog_8_method_4_code 1 = .ok (.getfield 28, 3) := by decide +kernel
theorem d_Sd_isDone_4 : decode prog_8_method_4_code 4 = .ok (.ifCond .ne 7, 3) := by decide +kernel
theorem d_Sd_isDone_7 : decode prog_8_method_4_code 7 = .ok (.iconst 1, 1) := by decide +kernel
theorem d_Sd_isDone_8 : decode prog_8_method_4_code 8 = .ok (.goto 4, 3) := by decide +kernel
theorem d_Sd_isDone_11 : decode prog_8_method_4_code 11 = .ok (.iconst 0, 1) := by decide +kernel
theorem d_Sd_isDone_12 : decode prog_8_method_4_code 12 = .ok (.ireturn, 1) := by decide +kernel
def tb_Sd_isDone : List pm_I := [
  pm_aload 1 0,
  pm_geti 2 5 4,
  pm_if 5 3 (fun a => decide (a ≠ 0)),
  pm_const 4 1,
  pm_goto 6,
  pm_const 6 0,
  pm_zret]
def bp_Sd_isDone : List Nat := [0, 1, 4, 7, 8, 11, 12]
set_option maxRecDepth 100000 in
theorem sd_Sd_isDone : pm_Sl prog_8_method_4_code 1 R_Sd "isDone" (some .boolean) pm_Y (pm_b bp_Sd_isDone) 0 tb_Sd_isDone := by
  refine ⟨so_aloadn d_Sd_isDone_0 rfl rfl, ?_⟩
  refine ⟨so_geti (ci := 5) (k := 4) rfl (by decide) rfl rfl fl_Sd_28 d_Sd_isDone_1 rfl, ?_⟩
  refine ⟨so_if_ne d_Sd_isDone_4 rfl rfl, ?_⟩
  refine ⟨so_const1 d_Sd_isDone_7 (by decide) rfl, ?_⟩
  refine ⟨so_goto d_Sd_isDone_8 rfl, ?_⟩
  refine ⟨so_const1 d_Sd_isDone_11 (by decide) rfl, ?_⟩
  refine ⟨so_zret d_Sd_isDone_12 rfl, ?_⟩
  exact trivial
theorem d_Sd_moveTo_0 : decode prog_8_method_5_code 0 = .ok (.aload_n 0, 1) := by decide +kernel
theorem d_Sd_moveTo_1 : decode prog_8_method_5_code 1 = .ok (.getfield 15, 3) := by decide +kernel
theorem d_Sd_moveTo_4 : decode prog_8_method_5_code 4 = .ok (.aload_n 0, 1) := by decide +kernel
theorem d_Sd_moveTo_5 : decode prog_8_method_5_code 5 = .ok (.getfield 28, 3) := by decide +kernel
theorem d_Sd_moveTo_8 : decode prog_8_method_5_code 8 = .ok (.iconst 1, 1) := by decide +kernel
theorem d_Sd_moveTo_9 : decode prog_8_method_5_code 9 = .ok (.isub, 1) := by decide +kernel
theorem d_Sd_moveTo_10 : decode prog_8_method_5_code 10 = .ok (.iload_n 1, 1) := by decide +kernel
theorem d_Sd_moveTo_11 : decode prog_8_method_5_code 11 = .ok (.iastore, 1) := by decide +kernel
theorem d_Sd_moveTo_12 : decode prog_8_method_5_code 12 = .ok (.return_, 1) := by decide +kernel
def tb_Sd_moveTo : List pm_I := [
  pm_aload 1 0,
  pm_getr 2 5 2,
  pm_aload 3 0,
  pm_geti 4 5 4,
  pm_const 5 1,
  pm_bin 6 (fun a b => a - b),
  pm_iload 7 1,
  pm_iast 8,
  pm_vret]
def bp_Sd_moveTo : List Nat := [0, 1, 4, 5, 8, 9, 10, 11, 12]
set_option maxRecDepth 100000 in
theorem sd_Sd_moveTo : pm_Sl prog_8_method_5_code 2 R_Sd "moveTo" (none) pm_Y (pm_b bp_Sd_moveTo) 0 tb_Sd_moveTo := by
  refine ⟨so_aloadn d_Sd_moveTo_0 rfl rfl, ?_⟩
  refine ⟨so_getr (ci := 5) (k := 2) rfl (by decide) rfl rfl fl_Sd_15 d_Sd_moveTo_1 rfl, ?_⟩
  refine ⟨so_aloadn d_Sd_moveTo_4 rfl rfl, ?_⟩
  refine ⟨so_geti (ci := 5) (k := 4) rfl (by decide) rfl rfl fl_Sd_28 d_Sd_moveTo_5 rfl, ?_⟩
  refine ⟨so_const1 d_Sd_moveTo_8 (by decide) rfl, ?_⟩
  refine ⟨so_isub d_Sd_moveTo_9 rfl, ?_⟩
  refine ⟨so_iloadn d_Sd_moveTo_10 rfl rfl, ?_⟩
  refine ⟨so_iast d_Sd_moveTo_11 rfl, ?_⟩
  refine ⟨so_vret d_Sd_moveTo_12 rfl, ?_⟩
  exact trivial
theorem d_Sd_learn_0 : decode prog_8_method_6_code 0 = .ok (.iconst 0, 1) := by decide +kernel
theorem d_Sd_learn_1 : decode prog_8_method_6_code 1 = .ok (.istore_n 2, 1) := by decide +kernel
theorem d_Sd_learn_2 : decode prog_8_method_6_code 2 = .ok (.iload_n 2, 1) := by decide +kernel
theorem d_Sd_learn_3 : decode prog_8_method_6_code 3 = .ok (.bipush 6, 2) := by decide +kernel
theorem d_Sd_learn_5 : decode prog_8_method_6_code 5 = .ok (.if_icmp .ge 27, 3) := by decide +kernel
theorem d_Sd_learn_8 : decode prog_8_method_6_code 8 = .ok (.aload_n 0, 1) := by decide +kernel
theorem d_Sd_learn_9 : decode prog_8_method_6_code 9 = .ok (.getfield 18, 3) := by decide +kernel
theorem d_Sd_learn_12 : decode prog_8_method_6_code 12 = .ok (.iload_n 2, 1) := by decide +kernel
theorem d_Sd_learn_13 : decode prog_8_method_6_code 13 = .ok (.aload_n 0, 1) := by decide +kernel
theorem d_Sd_learn_14 : decode prog_8_method_6_code 14 = .ok (.getfield 18, 3) := by decide +kernel
theorem d_Sd_learn_17 : decode prog_8_method_6_code 17 = .ok (.iload_n 2, 1) := by decide +kernel
theorem d_Sd_learn_18 : decode prog_8_method_6_code 18 = .ok (.iaload, 1) := by decide +kernel
theorem d_Sd_learn_19 : decode prog_8_method_6_code 19 = .ok (.aload_n 1, 1) := by decide +kernel
theorem d_Sd_learn_20 : decode prog_8_method_6_code 20 = .ok (.iload_n 2, 1) := by decide +kernel
theorem d_Sd_learn_21 : decode prog_8_method_6_code 21 = .ok (.iaload, 1) := by decide +kernel
theorem d_Sd_learn_22 : decode prog_8_method_6_code 22 = .ok (.invokestatic 35, 3) := by decide +kernel
theorem d_Sd_learn_25 : decode prog_8_method_6_code 25 = .ok (.iastore, 1) := by decide +kernel
theorem d_Sd_learn_26 : decode prog_8_method_6_code 26 = .ok (.iinc 2 1, 3) := by decide +kernel
theorem d_Sd_learn_29 : decode prog_8_method_6_code 29 = .ok (.goto (-27), 3) := by decide +kernel
theorem d_Sd_learn_32 : decode prog_8_method_6_code 32 = .ok (.return_, 1) := by decide +kernel
def tb_Sd_learn : List pm_I := [
  pm_const 1 0,
  pm_istore 2 2,
  pm_iload 3 2,
  pm_const 4 6,
  pm_icmp 19 5 (fun a b => decide (b ≤ a)),
  pm_aload 6 0,
  pm_getr 7 5 3,
  pm_iload 8 2,
  pm_aload 9 0,
  pm_getr 10 5 3,
  pm_iload 11 2,
  pm_iald 12 0,
  pm_aload 13 1,
  pm_iload 14 2,
  pm_iald 15 0,
  pm_max 16,
  pm_iast 17,
  pm_iinc 18 2 1,
  pm_goto 2,
  pm_vret]
def bp_Sd_learn : List Nat := [0, 1, 2, 3, 5, 8, 9, 12, 13, 14, 17, 18, 19, 20, 21, 22, 25, 26, 29, 32]
set_option maxRecDepth 100000 in
theorem sd_Sd_learn : pm_Sl prog_8_method_6_code 3 R_Sd "learn" (none) pm_Y (pm_b bp_Sd_learn) 0 tb_Sd_learn := by
  refine ⟨so_const1 d_Sd_learn_0 (by decide) rfl, ?_⟩
  refine ⟨so_istoren d_Sd_learn_1 rfl (by decide) rfl, ?_⟩
  refine ⟨so_iloadn d_Sd_learn_2 rfl rfl, ?_⟩
  refine ⟨so_const2 d_Sd_learn_3 (by decide) rfl, ?_⟩
  refine ⟨so_icmp_ge d_Sd_learn_5 rfl rfl, ?_⟩
  refine ⟨so_aloadn d_Sd_learn_8 rfl rfl, ?_⟩
  refine ⟨so_getr (ci := 5) (k := 3) rfl (by decide) rfl rfl fl_Sd_18 d_Sd_learn_9 rfl, ?_⟩
  refine ⟨so_iloadn d_Sd_learn_12 rfl rfl, ?_⟩
  refine ⟨so_aloadn d_Sd_learn_13 rfl rfl, ?_⟩
  refine ⟨so_getr (ci := 5) (k := 3) rfl (by decide) rfl rfl fl_Sd_18 d_Sd_learn_14 rfl, ?_⟩
  refine ⟨so_iloadn d_Sd_learn_17 rfl rfl, ?_⟩
  refine ⟨so_iald d_Sd_learn_18 rfl, ?_⟩
  refine ⟨so_aloadn d_Sd_learn_19 rfl rfl, ?_⟩
  refine ⟨so_iloadn d_Sd_learn_20 rfl rfl, ?_⟩
  refine ⟨so_iald d_Sd_learn_21 rfl, ?_⟩
  refine ⟨so_max (pm_in1 (List.mem_append_right _ (List.mem_append_left _ (List.mem_of_getElem? (i := 136) rfl)))) (pm_in1 (List.mem_append_right _ (List.mem_append_left _ (List.mem_of_getElem? (i := 137) rfl)))) (pm_in1 (List.mem_append_left _ (List.mem_of_getElem? (i := 11) rfl))) (pm_in1 (List.mem_append_right _ (List.mem_append_left _ (List.mem_of_getElem? (i := 138) rfl)))) d_Sd_learn_22 rfl, ?_⟩
  refine ⟨so_iast d_Sd_learn_25 rfl, ?_⟩
  refine ⟨so_iinc d_Sd_learn_26 (by decide) (by decide) rfl, ?_⟩
  refine ⟨so_goto d_Sd_learn_29 rfl, ?_⟩
  refine ⟨so_vret d_Sd_learn_32 rfl, ?_⟩
  exact trivial
theorem d_Lk_init_0 : decode prog_4_method_1_code 0 = .ok (.aload_n 0, 1) := by decide +kernel
theorem d_Lk_init_1 : decode prog_4_method_1_code 1 = .ok (.invokespecial 3, 3) := by decide +kernel
theorem d_Lk_init_4 : decode prog_4_method_1_code 4 = .ok (.aload_n 0, 1) := by decide +kernel
theorem d_Lk_init_5 : decode prog_4_method_1_code 5 = .ok (.bipush 6, 2) := by decide +kernel
theorem d_Lk_init_7 : decode prog_4_method_1_code 7 = .ok (.newarray .int, 2) := by decide +kernel
theorem d_Lk_init_9 : decode prog_4_method_1_code 9 = .ok (.putfield 9, 3) := by decide +kernel
theorem d_Lk_init_12 : decode prog_4_method_1_code 12 = .ok (.aload_n 0, 1) := by decide +kernel
theorem d_Lk_init_13 : decode prog_4_method_1_code 13 = .ok (.iconst (-1), 1) := by decide +kernel
theorem d_Lk_init_14 : decode prog_4_method_1_code 14 = .ok (.putfield 15, 3) := by decide +kernel
theorem d_Lk_init_17 : decode prog_4_method_1_code 17 = .ok (.return_, 1) := by decide +kernel
def tb_Lk_init : List pm_I := [
  pm_aload 1 0,
  pm_oinit 2,
  pm_aload 3 0,
  pm_const 4 6,
  pm_newa 5 0,
  pm_putr 6 6 0,
  pm_aload 7 0,
  pm_const 8 (-1),
  pm_puti 9 6 1,
  pm_vret]
def bp_Lk_init : List Nat := [0, 1, 4, 5, 7, 9, 12, 13, 14, 17]
set_option maxRecDepth 100000 in
theorem sd_Lk_init : pm_Sl prog_4_method_1_code 1 R_Lk "<init>" (none) pm_Y (pm_b bp_Lk_init) 0 tb_Lk_init := by
  refine ⟨so_aloadn d_Lk_init_0 rfl rfl, ?_⟩
  refine ⟨so_oinit (pm_in1 (List.mem_append_left _ (List.mem_of_getElem? (i := 142) rfl))) (pm_in1 (List.mem_append_left _ (List.mem_of_getElem? (i := 19) rfl))) (pm_in1 (List.mem_append_left _ (List.mem_of_getElem? (i := 20) rfl))) d_Lk_init_1 rfl, ?_⟩
  refine ⟨so_aloadn d_Lk_init_4 rfl rfl, ?_⟩
  refine ⟨so_const2 d_Lk_init_5 (by decide) rfl, ?_⟩
  refine ⟨so_newi d_Lk_init_7 rfl, ?_⟩
  refine ⟨so_putr (ci := 6) (k := 0) rfl (by decide) rfl rfl (Or.inr ⟨rfl, rfl, rfl, pm_in1 (List.mem_append_left _ (List.mem_of_getElem? (i := 143) rfl))⟩) d_Lk_init_9 rfl, ?_⟩
  refine ⟨so_aloadn d_Lk_init_12 rfl rfl, ?_⟩
  refine ⟨so_const1 d_Lk_init_13 (by decide) rfl, ?_⟩
  refine ⟨so_puti (ci := 6) (k := 1) rfl (by decide) rfl rfl (Or.inl ⟨rfl, fl_Lk_15⟩) d_Lk_init_14 rfl, ?_⟩
  refine ⟨so_vret d_Lk_init_17 rfl, ?_⟩
  exact trivial
theorem d_Lk_clear_0 : decode prog_4_method_2_code 0 = .ok (.aload_n 0, 1) := by decide +kernel
theorem d_Lk_clear_1 : decode prog_4_method_2_code 1 = .ok (.getfield 9, 3) := by decide +kernel
theorem d_Lk_clear_4 : decode prog_4_method_2_code 4 = .ok (.iconst 0, 1) := by decide +kernel
theorem d_Lk_clear_5 : decode prog_4_method_2_code 5 = .ok (.invokestatic 19, 3) := by decide +kernel
theorem d_Lk_clear_8 : decode prog_4_method_2_code 8 = .ok (.aload_n 0, 1) := by decide +kernel
theorem d_Lk_clear_9 : decode prog_4_method_2_code 9 = .ok (.iconst (-1), 1) := by decide +kernel
theorem d_Lk_clear_10 : decode prog_4_method_2_code 10 = .ok (.putfield 15, 3) := by decide +kernel
theorem d_Lk_clear_13 : decode prog_4_method_2_code 13 = .ok (.aload_n 0, 1) := by decide +kernel
theorem d_Lk_clear_14 : decode prog_4_method_2_code 14 = .ok (.iconst 0, 1) := by decide +kernel
theorem d_Lk_clear_15 : decode prog_4_method_2_code 15 = .ok (.putfield 25, 3) := by decide +kernel
theorem d_Lk_clear_18 : decode prog_4_method_2_code 18 = .ok (.return_, 1) := by decide +kernel
def tb_Lk_clear : List pm_I := [
  pm_aload 1 0,
  pm_getr 2 6 0,
  pm_const 3 0,
  pm_calls 4 103 2,
  pm_aload 5 0,
  pm_const 6 (-1),
  pm_puti 7 6 1,
  pm_aload 8 0,
  pm_const 9 0,
  pm_puti 10 6 2,
  pm_vret]
def bp_Lk_clear : List Nat := [0, 1, 4, 5, 8, 9, 10, 13, 14, 15, 18]
set_option maxRecDepth 100000 in
theorem sd_Lk_clear : pm_Sl prog_4_method_2_code 1 R_Lk "clear" (none) pm_Y (pm_b bp_Lk_clear) 0 tb_Lk_clear := by
  refine ⟨so_aloadn d_Lk_clear_0 rfl rfl, ?_⟩
  refine ⟨so_getr (ci := 6) (k := 0) rfl (by decide) rfl rfl fl_Lk_9 d_Lk_clear_1 rfl, ?_⟩
  refine ⟨so_const1 d_Lk_clear_4 (by decide) rfl, ?_⟩
  refine ⟨so_calls rfl mc_Ar_fill mi_Ar mt_Ar_fill ml_Lk_19 yd_Ar_fill (by decide) d_Lk_clear_5 rfl, ?_⟩
  refine ⟨so_aloadn d_Lk_clear_8 rfl rfl, ?_⟩
  refine ⟨so_const1 d_Lk_clear_9 (by decide) rfl, ?_⟩
  refine ⟨so_puti (ci := 6) (k := 1) rfl (by decide) rfl rfl (Or.inl ⟨rfl, fl_Lk_15⟩) d_Lk_clear_10 rfl, ?_⟩
  refine ⟨so_aloadn d_Lk_clear_13 rfl rfl, ?_⟩
  refine ⟨so_const1 d_Lk_clear_14 (by decide) rfl, ?_⟩
  refine ⟨so_puti (ci := 6) (k := 2) rfl (by decide) rfl rfl (Or.inl ⟨rfl, fl_Lk_25⟩) d_Lk_clear_15 rfl, ?_⟩
  refine ⟨so_vret d_Lk_clear_18 rfl, ?_⟩
  exact trivial
theorem d_Lk_refuses_0 : decode prog_4_method_3_code 0 = .ok (.aload_n 0, 1) := by decide +kernel
theorem d_Lk_refuses_1 : decode prog_4_method_3_code 1 = .ok (.getfield 15, 3) := by decide +kernel
theorem d_Lk_refuses_4 : decode prog_4_method_3_code 4 = .ok (.iconst (-1), 1) := by decide +kernel
theorem d_Lk_refuses_5 : decode prog_4_method_3_code 5 = .ok (.if_icmp .eq 18, 3) := by decide +kernel
theorem d_Lk_refuses_8 : decode prog_4_method_3_code 8 = .ok (.aload_n 0, 1) := by decide +kernel
theorem d_Lk_refuses_9 : decode prog_4_method_3_code 9 = .ok (.getfield 15, 3) := by decide +kernel
theorem d_Lk_refuses_12 : decode prog_4_method_3_code 12 = .ok (.aload_n 1, 1) := by decide +kernel
theorem d_Lk_refuses_13 : decode prog_4_method_3_code 13 = .ok (.getfield 28, 3) := by decide +kernel
theorem d_Lk_refuses_16 : decode prog_4_method_3_code 16 = .ok (.if_icmp .eq 7, 3) := by decide +kernel
theorem d_Lk_refuses_19 : decode prog_4_method_3_code 19 = .ok (.iconst 1, 1) := by decide +kernel
theorem d_Lk_refuses_20 : decode prog_4_method_3_code 20 = .ok (.goto 4, 3) := by decide +kernel
theorem d_Lk_refuses_23 : decode prog_4_method_3_code 23 = .ok (.iconst 0, 1) := by decide +kernel
theorem d_Lk_refuses_24 : decode prog_4_method_3_code 24 = .ok (.ireturn, 1) := by decide +kernel
def tb_Lk_refuses : List pm_I := [
  pm_aload 1 0,
  pm_geti 2 6 1,
  pm_const 3 (-1),
  pm_icmp 11 4 (fun a b => decide (a = b)),
  pm_aload 5 0,
  pm_geti 6 6 1,
  pm_aload 7 1,
  pm_geti 8 5 0,
  pm_icmp 11 9 (fun a b => decide (a = b)),
  pm_const 10 1,
  pm_goto 12,
  pm_const 12 0,
  pm_zret]
def bp_Lk_refuses : List Nat := [0, 1, 4, 5, 8, 9, 12, 13, 16, 19, 20, 23, 24]
set_option maxRecDepth 100000 in
theorem sd_Lk_refuses : pm_Sl prog_4_method_3_code 2 R_Lk "refuses" (some .boolean) pm_Y (pm_b bp_Lk_refuses) 0 tb_Lk_refuses := by
  refine ⟨so_aloadn d_Lk_refuses_0 rfl rfl, ?_⟩
  refine ⟨so_geti (ci := 6) (k := 1) rfl (by decide) rfl rfl fl_Lk_15 d_Lk_refuses_1 rfl, ?_⟩
  refine ⟨so_const1 d_Lk_refuses_4 (by decide) rfl, ?_⟩
  refine ⟨so_icmp_eq d_Lk_refuses_5 rfl rfl, ?_⟩
  refine ⟨so_aloadn d_Lk_refuses_8 rfl rfl, ?_⟩
  refine ⟨so_geti (ci := 6) (k := 1) rfl (by decide) rfl rfl fl_Lk_15 d_Lk_refuses_9 rfl, ?_⟩
  refine ⟨so_aloadn d_Lk_refuses_12 rfl rfl, ?_⟩
  refine ⟨so_geti (ci := 5) (k := 0) rfl (by decide) rfl rfl fl_Lk_28 d_Lk_refuses_13 rfl, ?_⟩
  refine ⟨so_icmp_eq d_Lk_refuses_16 rfl rfl, ?_⟩
  refine ⟨so_const1 d_Lk_refuses_19 (by decide) rfl, ?_⟩
  refine ⟨so_goto d_Lk_refuses_20 rfl, ?_⟩
  refine ⟨so_const1 d_Lk_refuses_23 (by decide) rfl, ?_⟩
  refine ⟨so_zret d_Lk_refuses_24 rfl, ?_⟩
  exact trivial
theorem d_Lk_take_0 : decode prog_4_method_4_code 0 = .ok (.aload_n 0, 1) := by decide +kernel
theorem d_Lk_take_1 : decode prog_4_method_4_code 1 = .ok (.getfield 15, 3) := by decide +kernel
theorem d_Lk_take_4 : decode prog_4_method_4_code 4 = .ok (.iconst (-1), 1) := by decide +kernel
theorem d_Lk_take_5 : decode prog_4_method_4_code 5 = .ok (.if_icmp .ne 19, 3) := by decide +kernel
theorem d_Lk_take_8 : decode prog_4_method_4_code 8 = .ok (.aload_n 1, 1) := by decide +kernel
theorem d_Lk_take_9 : decode prog_4_method_4_code 9 = .ok (.aload_n 0, 1) := by decide +kernel
theorem d_Lk_take_10 : decode prog_4_method_4_code 10 = .ok (.getfield 9, 3) := by decide +kernel
theorem d_Lk_take_13 : decode prog_4_method_4_code 13 = .ok (.invokevirtual 33, 3) := by decide +kernel
theorem d_Lk_take_16 : decode prog_4_method_4_code 16 = .ok (.aload_n 0, 1) := by decide +kernel
theorem d_Lk_take_17 : decode prog_4_method_4_code 17 = .ok (.aload_n 1, 1) := by decide +kernel
theorem d_Lk_take_18 : decode prog_4_method_4_code 18 = .ok (.getfield 28, 3) := by decide +kernel
theorem d_Lk_take_21 : decode prog_4_method_4_code 21 = .ok (.putfield 15, 3) := by decide +kernel
theorem d_Lk_take_24 : decode prog_4_method_4_code 24 = .ok (.aload_n 0, 1) := by decide +kernel
theorem d_Lk_take_25 : decode prog_4_method_4_code 25 = .ok (.dup, 1) := by decide +kernel
theorem d_Lk_take_26 : decode prog_4_method_4_code 26 = .ok (.getfield 25, 3) := by decide +kernel
theorem d_Lk_take_29 : decode prog_4_method_4_code 29 = .ok (.iconst 1, 1) := by decide +kernel
theorem d_Lk_take_30 : decode prog_4_method_4_code 30 = .ok (.iadd, 1) := by decide +kernel
theorem d_Lk_take_31 : decode prog_4_method_4_code 31 = .ok (.putfield 25, 3) := by decide +kernel
theorem d_Lk_take_34 : decode prog_4_method_4_code 34 = .ok (.return_, 1) := by decide +kernel
def tb_Lk_take : List pm_I := [
  pm_aload 1 0,
  pm_geti 2 6 1,
  pm_const 3 (-1),
  pm_icmp 12 4 (fun a b => decide (a ≠ b)),
  pm_aload 5 1,
  pm_aload 6 0,
  pm_getr 7 6 0,
  pm_callv 8 60 2 5,
  pm_aload 9 0,
  pm_aload 10 1,
  pm_geti 11 5 0,
  pm_puti 12 6 1,
  pm_aload 13 0,
  pm_dup 14,
  pm_geti 15 6 2,
  pm_const 16 1,
  pm_bin 17 (fun a b => a + b),
  pm_puti 18 6 2,
  pm_vret]
def bp_Lk_take : List Nat := [0, 1, 4, 5, 8, 9, 10, 13, 16, 17, 18, 21, 24, 25, 26, 29, 30, 31, 34]
set_option maxRecDepth 100000 in
theorem sd_Lk_take : pm_Sl prog_4_method_4_code 2 R_Lk "take" (none) pm_Y (pm_b bp_Lk_take) 0 tb_Lk_take := by
  refine ⟨so_aloadn d_Lk_take_0 rfl rfl, ?_⟩
  refine ⟨so_geti (ci := 6) (k := 1) rfl (by decide) rfl rfl fl_Lk_15 d_Lk_take_1 rfl, ?_⟩
  refine ⟨so_const1 d_Lk_take_4 (by decide) rfl, ?_⟩
  refine ⟨so_icmp_ne d_Lk_take_5 rfl rfl, ?_⟩
  refine ⟨so_aloadn d_Lk_take_8 rfl rfl, ?_⟩
  refine ⟨so_aloadn d_Lk_take_9 rfl rfl, ?_⟩
  refine ⟨so_getr (ci := 6) (k := 0) rfl (by decide) rfl rfl fl_Lk_9 d_Lk_take_10 rfl, ?_⟩
  refine ⟨so_callv (ci := 5) rfl rfl mc_Sd_learn mi_Sd mj_Sd_learn ms_Sd_learn ml_Lk_33 yd_Sd_learn (by decide) d_Lk_take_13 rfl, ?_⟩
  refine ⟨so_aloadn d_Lk_take_16 rfl rfl, ?_⟩
  refine ⟨so_aloadn d_Lk_take_17 rfl rfl, ?_⟩
  refine ⟨so_geti (ci := 5) (k := 0) rfl (by decide) rfl rfl fl_Lk_28 d_Lk_take_18 rfl, ?_⟩
  refine ⟨so_puti (ci := 6) (k := 1) rfl (by decide) rfl rfl (Or.inl ⟨rfl, fl_Lk_15⟩) d_Lk_take_21 rfl, ?_⟩
  refine ⟨so_aloadn d_Lk_take_24 rfl rfl, ?_⟩
  refine ⟨so_dup d_Lk_take_25 rfl, ?_⟩
  refine ⟨so_geti (ci := 6) (k := 2) rfl (by decide) rfl rfl fl_Lk_25 d_Lk_take_26 rfl, ?_⟩
  refine ⟨so_const1 d_Lk_take_29 (by decide) rfl, ?_⟩
  refine ⟨so_iadd d_Lk_take_30 rfl, ?_⟩
  refine ⟨so_puti (ci := 6) (k := 2) rfl (by decide) rfl rfl (Or.inl ⟨rfl, fl_Lk_25⟩) d_Lk_take_31 rfl, ?_⟩
  refine ⟨so_vret d_Lk_take_34 rfl, ?_⟩
  exact trivial
theorem d_Lk_release_0 : decode prog_4_method_5_code 0 = .ok (.aload_n 0, 1) := by decide +kernel
theorem d_Lk_release_1 : decode prog_4_method_5_code 1 = .ok (.dup, 1) := by decide +kernel
theorem d_Lk_release_2 : decode prog_4_method_5_code 2 = .ok (.getfield 25, 3) := by decide +kernel
theorem d_Lk_release_5 : decode prog_4_method_5_code 5 = .ok (.iconst 1, 1) := by decide +kernel
theorem d_Lk_release_6 : decode prog_4_method_5_code 6 = .ok (.isub, 1) := by decide +kernel
theorem d_Lk_release_7 : decode prog_4_method_5_code 7 = .ok (.putfield 25, 3) := by decide +kernel
theorem d_Lk_release_10 : decode prog_4_method_5_code 10 = .ok (.aload_n 0, 1) := by decide +kernel
theorem d_Lk_release_11 : decode prog_4_method_5_code 11 = .ok (.getfield 25, 3) := by decide +kernel
theorem d_Lk_release_14 : decode prog_4_method_5_code 14 = .ok (.ifCond .ne 23, 3) := by decide +kernel
theorem d_Lk_release_17 : decode prog_4_method_5_code 17 = .ok (.aload_n 0, 1) := by decide +kernel
theorem d_Lk_release_18 : decode prog_4_method_5_code 18 = .ok (.iconst (-1), 1) := by decide +kernel
theorem d_Lk_release_19 : decode prog_4_method_5_code 19 = .ok (.putfield 15, 3) := by decide +kernel
theorem d_Lk_release_22 : decode prog_4_method_5_code 22 = .ok (.aload_n 1, 1) := by decide +kernel
theorem d_Lk_release_23 : decode prog_4_method_5_code 23 = .ok (.getfield 37, 3) := by decide +kernel
theorem d_Lk_release_26 : decode prog_4_method_5_code 26 = .ok (.iconst 0, 1) := by decide +kernel
theorem d_Lk_release_27 : decode prog_4_method_5_code 27 = .ok (.aload_n 0, 1) := by decide +kernel
theorem d_Lk_release_28 : decode prog_4_method_5_code 28 = .ok (.getfield 9, 3) := by decide +kernel
theorem d_Lk_release_31 : decode prog_4_method_5_code 31 = .ok (.iconst 0, 1) := by decide +kernel
theorem d_Lk_release_32 : decode prog_4_method_5_code 32 = .ok (.bipush 6, 2) := by decide +kernel
theorem d_Lk_release_34 : decode prog_4_method_5_code 34 = .ok (.invokestatic 38, 3) := by decide +kernel
theorem d_Lk_release_37 : decode prog_4_method_5_code 37 = .ok (.return_, 1) := by decide +kernel
def tb_Lk_release : List pm_I := [
  pm_aload 1 0,
  pm_dup 2,
  pm_geti 3 6 2,
  pm_const 4 1,
  pm_bin 5 (fun a b => a - b),
  pm_puti 6 6 2,
  pm_aload 7 0,
  pm_geti 8 6 2,
  pm_if 20 9 (fun a => decide (a ≠ 0)),
  pm_aload 10 0,
  pm_const 11 (-1),
  pm_puti 12 6 1,
  pm_aload 13 1,
  pm_getr 14 5 3,
  pm_const 15 0,
  pm_aload 16 0,
  pm_getr 17 6 0,
  pm_const 18 0,
  pm_const 19 6,
  pm_copy 20,
  pm_vret]
def bp_Lk_release : List Nat := [0, 1, 2, 5, 6, 7, 10, 11, 14, 17, 18, 19, 22, 23, 26, 27, 28, 31, 32, 34, 37]
set_option maxRecDepth 100000 in
theorem sd_Lk_release : pm_Sl prog_4_method_5_code 2 R_Lk "release" (none) pm_Y (pm_b bp_Lk_release) 0 tb_Lk_release := by
  refine ⟨so_aloadn d_Lk_release_0 rfl rfl, ?_⟩
  refine ⟨so_dup d_Lk_release_1 rfl, ?_⟩
  refine ⟨so_geti (ci := 6) (k := 2) rfl (by decide) rfl rfl fl_Lk_25 d_Lk_release_2 rfl, ?_⟩
  refine ⟨so_const1 d_Lk_release_5 (by decide) rfl, ?_⟩
  refine ⟨so_isub d_Lk_release_6 rfl, ?_⟩
  refine ⟨so_puti (ci := 6) (k := 2) rfl (by decide) rfl rfl (Or.inl ⟨rfl, fl_Lk_25⟩) d_Lk_release_7 rfl, ?_⟩
  refine ⟨so_aloadn d_Lk_release_10 rfl rfl, ?_⟩
  refine ⟨so_geti (ci := 6) (k := 2) rfl (by decide) rfl rfl fl_Lk_25 d_Lk_release_11 rfl, ?_⟩
  refine ⟨so_if_ne d_Lk_release_14 rfl rfl, ?_⟩
  refine ⟨so_aloadn d_Lk_release_17 rfl rfl, ?_⟩
  refine ⟨so_const1 d_Lk_release_18 (by decide) rfl, ?_⟩
  refine ⟨so_puti (ci := 6) (k := 1) rfl (by decide) rfl rfl (Or.inl ⟨rfl, fl_Lk_15⟩) d_Lk_release_19 rfl, ?_⟩
  refine ⟨so_aloadn d_Lk_release_22 rfl rfl, ?_⟩
  refine ⟨so_getr (ci := 5) (k := 3) rfl (by decide) rfl rfl fl_Lk_37 d_Lk_release_23 rfl, ?_⟩
  refine ⟨so_const1 d_Lk_release_26 (by decide) rfl, ?_⟩
  refine ⟨so_aloadn d_Lk_release_27 rfl rfl, ?_⟩
  refine ⟨so_getr (ci := 6) (k := 0) rfl (by decide) rfl rfl fl_Lk_9 d_Lk_release_28 rfl, ?_⟩
  refine ⟨so_const1 d_Lk_release_31 (by decide) rfl, ?_⟩
  refine ⟨so_const2 d_Lk_release_32 (by decide) rfl, ?_⟩
  refine ⟨so_copy (pm_in1 (List.mem_append_right _ (List.mem_append_left _ (List.mem_of_getElem? (i := 147) rfl)))) (pm_in1 (List.mem_append_right _ (List.mem_append_left _ (List.mem_of_getElem? (i := 149) rfl)))) (pm_in1 (List.mem_append_right _ (List.mem_append_left _ (List.mem_of_getElem? (i := 148) rfl)))) (pm_in1 (List.mem_append_left _ (List.mem_of_getElem? (i := 12) rfl))) d_Lk_release_34 rfl, ?_⟩
  refine ⟨so_vret d_Lk_release_37 rfl, ?_⟩
  exact trivial
theorem d_Ce_init_0 : decode prog_3_method_1_code 0 = .ok (.aload_n 0, 1) := by decide +kernel
theorem d_Ce_init_1 : decode prog_3_method_1_code 1 = .ok (.invokespecial 3, 3) := by decide +kernel
theorem d_Ce_init_4 : decode prog_3_method_1_code 4 = .ok (.aload_n 0, 1) := by decide +kernel
theorem d_Ce_init_5 : decode prog_3_method_1_code 5 = .ok (.bipush 6, 2) := by decide +kernel
theorem d_Ce_init_7 : decode prog_3_method_1_code 7 = .ok (.newarray .int, 2) := by decide +kernel
theorem d_Ce_init_9 : decode prog_3_method_1_code 9 = .ok (.putfield 9, 3) := by decide +kernel
theorem d_Ce_init_12 : decode prog_3_method_1_code 12 = .ok (.aload_n 0, 1) := by decide +kernel
theorem d_Ce_init_13 : decode prog_3_method_1_code 13 = .ok (.bipush 6, 2) := by decide +kernel
theorem d_Ce_init_15 : decode prog_3_method_1_code 15 = .ok (.newarray .int, 2) := by decide +kernel
theorem d_Ce_init_17 : decode prog_3_method_1_code 17 = .ok (.putfield 15, 3) := by decide +kernel
theorem d_Ce_init_20 : decode prog_3_method_1_code 20 = .ok (.return_, 1) := by decide +kernel
def tb_Ce_init : List pm_I := [
  pm_aload 1 0,
  pm_oinit 2,
  pm_aload 3 0,
  pm_const 4 6,
  pm_newa 5 0,
  pm_putr 6 7 0,
  pm_aload 7 0,
  pm_const 8 6,
  pm_newa 9 0,
  pm_putr 10 7 1,
  pm_vret]
def bp_Ce_init : List Nat := [0, 1, 4, 5, 7, 9, 12, 13, 15, 17, 20]
set_option maxRecDepth 100000 in
theorem sd_Ce_init : pm_Sl prog_3_method_1_code 1 R_Ce "<init>" (none) pm_Y (pm_b bp_Ce_init) 0 tb_Ce_init := by
  refine ⟨so_aloadn d_Ce_init_0 rfl rfl, ?_⟩
  refine ⟨so_oinit (pm_in1 (List.mem_append_left _ (List.mem_of_getElem? (i := 158) rfl))) (pm_in1 (List.mem_append_left _ (List.mem_of_getElem? (i := 19) rfl))) (pm_in1 (List.mem_append_left _ (List.mem_of_getElem? (i := 20) rfl))) d_Ce_init_1 rfl, ?_⟩
  refine ⟨so_aloadn d_Ce_init_4 rfl rfl, ?_⟩
  refine ⟨so_const2 d_Ce_init_5 (by decide) rfl, ?_⟩
  refine ⟨so_newi d_Ce_init_7 rfl, ?_⟩
  refine ⟨so_putr (ci := 7) (k := 0) rfl (by decide) rfl rfl (Or.inr ⟨rfl, rfl, rfl, pm_in1 (List.mem_append_left _ (List.mem_of_getElem? (i := 159) rfl))⟩) d_Ce_init_9 rfl, ?_⟩
  refine ⟨so_aloadn d_Ce_init_12 rfl rfl, ?_⟩
  refine ⟨so_const2 d_Ce_init_13 (by decide) rfl, ?_⟩
  refine ⟨so_newi d_Ce_init_15 rfl, ?_⟩
  refine ⟨so_putr (ci := 7) (k := 1) rfl (by decide) rfl rfl (Or.inr ⟨rfl, rfl, rfl, pm_in1 (List.mem_append_left _ (List.mem_of_getElem? (i := 161) rfl))⟩) d_Ce_init_17 rfl, ?_⟩
  refine ⟨so_vret d_Ce_init_20 rfl, ?_⟩
  exact trivial
theorem d_Ce_clear_0 : decode prog_3_method_2_code 0 = .ok (.aload_n 0, 1) := by decide +kernel
theorem d_Ce_clear_1 : decode prog_3_method_2_code 1 = .ok (.getfield 9, 3) := by decide +kernel
theorem d_Ce_clear_4 : decode prog_3_method_2_code 4 = .ok (.iconst 0, 1) := by decide +kernel
theorem d_Ce_clear_5 : decode prog_3_method_2_code 5 = .ok (.invokestatic 18, 3) := by decide +kernel
theorem d_Ce_clear_8 : decode prog_3_method_2_code 8 = .ok (.aload_n 0, 1) := by decide +kernel
theorem d_Ce_clear_9 : decode prog_3_method_2_code 9 = .ok (.getfield 15, 3) := by decide +kernel
theorem d_Ce_clear_12 : decode prog_3_method_2_code 12 = .ok (.iconst 0, 1) := by decide +kernel
theorem d_Ce_clear_13 : decode prog_3_method_2_code 13 = .ok (.invokestatic 18, 3) := by decide +kernel
theorem d_Ce_clear_16 : decode prog_3_method_2_code 16 = .ok (.aload_n 0, 1) := by decide +kernel
theorem d_Ce_clear_17 : decode prog_3_method_2_code 17 = .ok (.iconst 0, 1) := by decide +kernel
theorem d_Ce_clear_18 : decode prog_3_method_2_code 18 = .ok (.putfield 24, 3) := by decide +kernel
theorem d_Ce_clear_21 : decode prog_3_method_2_code 21 = .ok (.return_, 1) := by decide +kernel
def tb_Ce_clear : List pm_I := [
  pm_aload 1 0,
  pm_getr 2 7 0,
  pm_const 3 0,
  pm_calls 4 103 2,
  pm_aload 5 0,
  pm_getr 6 7 1,
  pm_const 7 0,
  pm_calls 8 103 2,
  pm_aload 9 0,
  pm_const 10 0,
  pm_puti 11 7 2,
  pm_vret]
def bp_Ce_clear : List Nat := [0, 1, 4, 5, 8, 9, 12, 13, 16, 17, 18, 21]
set_option maxRecDepth 100000 in
theorem sd_Ce_clear : pm_Sl prog_3_method_2_code 1 R_Ce "clear" (none) pm_Y (pm_b bp_Ce_clear) 0 tb_Ce_clear := by
  refine ⟨so_aloadn d_Ce_clear_0 rfl rfl, ?_⟩
  refine ⟨so_getr (ci := 7) (k := 0) rfl (by decide) rfl rfl fl_Ce_9 d_Ce_clear_1 rfl, ?_⟩
  refine ⟨so_const1 d_Ce_clear_4 (by decide) rfl, ?_⟩
  refine ⟨so_calls rfl mc_Ar_fill mi_Ar mt_Ar_fill ml_Ce_18 yd_Ar_fill (by decide) d_Ce_clear_5 rfl, ?_⟩
  refine ⟨so_aloadn d_Ce_clear_8 rfl rfl, ?_⟩
  refine ⟨so_getr (ci := 7) (k := 1) rfl (by decide) rfl rfl fl_Ce_15 d_Ce_clear_9 rfl, ?_⟩
  refine ⟨so_const1 d_Ce_clear_12 (by decide) rfl, ?_⟩
  refine ⟨so_calls rfl mc_Ar_fill mi_Ar mt_Ar_fill ml_Ce_18 yd_Ar_fill (by decide) d_Ce_clear_13 rfl, ?_⟩
  refine ⟨so_aloadn d_Ce_clear_16 rfl rfl, ?_⟩
  refine ⟨so_const1 d_Ce_clear_17 (by decide) rfl, ?_⟩
  refine ⟨so_puti (ci := 7) (k := 2) rfl (by decide) rfl rfl (Or.inl ⟨rfl, fl_Ce_24⟩) d_Ce_clear_18 rfl, ?_⟩
  refine ⟨so_vret d_Ce_clear_21 rfl, ?_⟩
  exact trivial
theorem d_Ce_races_0 : decode prog_3_method_3_code 0 = .ok (.iconst 0, 1) := by decide +kernel
theorem d_Ce_races_1 : decode prog_3_method_3_code 1 = .ok (.istore_n 3, 1) := by decide +kernel
theorem d_Ce_races_2 : decode prog_3_method_3_code 2 = .ok (.iload_n 3, 1) := by decide +kernel
theorem d_Ce_races_3 : decode prog_3_method_3_code 3 = .ok (.bipush 6, 2) := by decide +kernel
theorem d_Ce_races_5 : decode prog_3_method_3_code 5 = .ok (.if_icmp .ge 39, 3) := by decide +kernel
theorem d_Ce_races_8 : decode prog_3_method_3_code 8 = .ok (.aload_n 0, 1) := by decide +kernel
theorem d_Ce_races_9 : decode prog_3_method_3_code 9 = .ok (.getfield 15, 3) := by decide +kernel
theorem d_Ce_races_12 : decode prog_3_method_3_code 12 = .ok (.iload_n 3, 1) := by decide +kernel
theorem d_Ce_races_13 : decode prog_3_method_3_code 13 = .ok (.iaload, 1) := by decide +kernel
theorem d_Ce_races_14 : decode prog_3_method_3_code 14 = .ok (.aload_n 1, 1) := by decide +kernel
theorem d_Ce_races_15 : decode prog_3_method_3_code 15 = .ok (.iload_n 3, 1) := by decide +kernel
theorem d_Ce_races_16 : decode prog_3_method_3_code 16 = .ok (.iaload, 1) := by decide +kernel
theorem d_Ce_races_17 : decode prog_3_method_3_code 17 = .ok (.if_icmp .gt 19, 3) := by decide +kernel
theorem d_Ce_races_20 : decode prog_3_method_3_code 20 = .ok (.iload_n 2, 1) := by decide +kernel
theorem d_Ce_races_21 : decode prog_3_method_3_code 21 = .ok (.ifCond .eq 17, 3) := by decide +kernel
theorem d_Ce_races_24 : decode prog_3_method_3_code 24 = .ok (.aload_n 0, 1) := by decide +kernel
theorem d_Ce_races_25 : decode prog_3_method_3_code 25 = .ok (.getfield 9, 3) := by decide +kernel
theorem d_Ce_races_28 : decode prog_3_method_3_code 28 = .ok (.iload_n 3, 1) := by decide +kernel
theorem d_Ce_races_29 : decode prog_3_method_3_code 29 = .ok (.iaload, 1) := by decide +kernel
theorem d_Ce_races_30 : decode prog_3_method_3_code 30 = .ok (.aload_n 1, 1) := by decide +kernel
theorem d_Ce_races_31 : decode prog_3_method_3_code 31 = .ok (.iload_n 3, 1) := by decide +kernel
theorem d_Ce_races_32 : decode prog_3_method_3_code 32 = .ok (.iaload, 1) := by decide +kernel
theorem d_Ce_races_33 : decode prog_3_method_3_code 33 = .ok (.if_icmp .le 5, 3) := by decide +kernel
theorem d_Ce_races_36 : decode prog_3_method_3_code 36 = .ok (.iconst 1, 1) := by decide +kernel
theorem d_Ce_races_37 : decode prog_3_method_3_code 37 = .ok (.ireturn, 1) := by decide +kernel
theorem d_Ce_races_38 : decode prog_3_method_3_code 38 = .ok (.iinc 3 1, 3) := by decide +kernel
theorem d_Ce_races_41 : decode prog_3_method_3_code 41 = .ok (.goto (-39), 3) := by decide +kernel
theorem d_Ce_races_44 : decode prog_3_method_3_code 44 = .ok (.iconst 0, 1) := by decide +kernel
theorem d_Ce_races_45 : decode prog_3_method_3_code 45 = .ok (.ireturn, 1) := by decide +kernel
def tb_Ce_races : List pm_I := [
  pm_const 1 0,
  pm_istore 2 3,
  pm_iload 3 3,
  pm_const 4 6,
  pm_icmp 27 5 (fun a b => decide (b ≤ a)),
  pm_aload 6 0,
  pm_getr 7 7 1,
  pm_iload 8 3,
  pm_iald 9 0,
  pm_aload 10 1,
  pm_iload 11 3,
  pm_iald 12 0,
  pm_icmp 23 13 (fun a b => decide (b < a)),
  pm_iload 14 2,
  pm_if 25 15 (fun a => decide (a = 0)),
  pm_aload 16 0,
  pm_getr 17 7 0,
  pm_iload 18 3,
  pm_iald 19 0,
  pm_aload 20 1,
  pm_iload 21 3,
  pm_iald 22 0,
  pm_icmp 25 23 (fun a b => decide (a ≤ b)),
  pm_const 24 1,
  pm_zret,
  pm_iinc 26 3 1,
  pm_goto 2,
  pm_const 28 0,
  pm_zret]
def bp_Ce_races : List Nat := [0, 1, 2, 3, 5, 8, 9, 12, 13, 14, 15, 16, 17, 20, 21, 24, 25, 28, 29, 30, 31, 32, 33, 36, 37, 38, 41, 44, 45]
set_option maxRecDepth 100000 in
theorem sd_Ce_races : pm_Sl prog_3_method_3_code 4 R_Ce "races" (some .boolean) pm_Y (pm_b bp_Ce_races) 0 tb_Ce_races := by
  refine ⟨so_const1 d_Ce_races_0 (by decide) rfl, ?_⟩
  refine ⟨so_istoren d_Ce_races_1 rfl (by decide) rfl, ?_⟩
  refine ⟨so_iloadn d_Ce_races_2 rfl rfl, ?_⟩
  refine ⟨so_const2 d_Ce_races_3 (by decide) rfl, ?_⟩
  refine ⟨so_icmp_ge d_Ce_races_5 rfl rfl, ?_⟩
  refine ⟨so_aloadn d_Ce_races_8 rfl rfl, ?_⟩
  refine ⟨so_getr (ci := 7) (k := 1) rfl (by decide) rfl rfl fl_Ce_15 d_Ce_races_9 rfl, ?_⟩
  refine ⟨so_iloadn d_Ce_races_12 rfl rfl, ?_⟩
  refine ⟨so_iald d_Ce_races_13 rfl, ?_⟩
  refine ⟨so_aloadn d_Ce_races_14 rfl rfl, ?_⟩
  refine ⟨so_iloadn d_Ce_races_15 rfl rfl, ?_⟩
  refine ⟨so_iald d_Ce_races_16 rfl, ?_⟩
  refine ⟨so_icmp_gt d_Ce_races_17 rfl rfl, ?_⟩
  refine ⟨so_iloadn d_Ce_races_20 rfl rfl, ?_⟩
  refine ⟨so_if_eq d_Ce_races_21 rfl rfl, ?_⟩
  refine ⟨so_aloadn d_Ce_races_24 rfl rfl, ?_⟩
  refine ⟨so_getr (ci := 7) (k := 0) rfl (by decide) rfl rfl fl_Ce_9 d_Ce_races_25 rfl, ?_⟩
  refine ⟨so_iloadn d_Ce_races_28 rfl rfl, ?_⟩
  refine ⟨so_iald d_Ce_races_29 rfl, ?_⟩
  refine ⟨so_aloadn d_Ce_races_30 rfl rfl, ?_⟩
  refine ⟨so_iloadn d_Ce_races_31 rfl rfl, ?_⟩
  refine ⟨so_iald d_Ce_races_32 rfl, ?_⟩
  refine ⟨so_icmp_le d_Ce_races_33 rfl rfl, ?_⟩
  refine ⟨so_const1 d_Ce_races_36 (by decide) rfl, ?_⟩
  refine ⟨so_zret d_Ce_races_37 rfl, ?_⟩
  refine ⟨so_iinc d_Ce_races_38 (by decide) (by decide) rfl, ?_⟩
  refine ⟨so_goto d_Ce_races_41 rfl, ?_⟩
  refine ⟨so_const1 d_Ce_races_44 (by decide) rfl, ?_⟩
  refine ⟨so_zret d_Ce_races_45 rfl, ?_⟩
  exact trivial
