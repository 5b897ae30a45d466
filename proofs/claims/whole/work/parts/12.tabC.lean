theorem d_Mo_init_0 : decode prog_10_method_1_code 0 = .ok (.aload_n 0, 1) := by decide +kernel
theorem d_Mo_init_1 : decode prog_10_method_1_code 1 = .ok (.invokespecial 1, 3) := by decide +kernel
theorem d_Mo_init_4 : decode prog_10_method_1_code 4 = .ok (.aload_n 0, 1) := by decide +kernel
theorem d_Mo_init_5 : decode prog_10_method_1_code 5 = .ok (.sipush 576, 3) := by decide +kernel
theorem d_Mo_init_8 : decode prog_10_method_1_code 8 = .ok (.newarray .int, 2) := by decide +kernel
theorem d_Mo_init_10 : decode prog_10_method_1_code 10 = .ok (.putfield 7, 3) := by decide +kernel
theorem d_Mo_init_13 : decode prog_10_method_1_code 13 = .ok (.aload_n 0, 1) := by decide +kernel
theorem d_Mo_init_14 : decode prog_10_method_1_code 14 = .ok (.sipush 576, 3) := by decide +kernel
theorem d_Mo_init_17 : decode prog_10_method_1_code 17 = .ok (.newarray .int, 2) := by decide +kernel
theorem d_Mo_init_19 : decode prog_10_method_1_code 19 = .ok (.putfield 13, 3) := by decide +kernel
theorem d_Mo_init_22 : decode prog_10_method_1_code 22 = .ok (.aload_n 0, 1) := by decide +kernel
theorem d_Mo_init_23 : decode prog_10_method_1_code 23 = .ok (.bipush 9, 2) := by decide +kernel
theorem d_Mo_init_25 : decode prog_10_method_1_code 25 = .ok (.newarray .int, 2) := by decide +kernel
theorem d_Mo_init_27 : decode prog_10_method_1_code 27 = .ok (.putfield 16, 3) := by decide +kernel
theorem d_Mo_init_30 : decode prog_10_method_1_code 30 = .ok (.aload_n 0, 1) := by decide +kernel
theorem d_Mo_init_31 : decode prog_10_method_1_code 31 = .ok (.bipush 8, 2) := by decide +kernel
theorem d_Mo_init_33 : decode prog_10_method_1_code 33 = .ok (.newarray .int, 2) := by decide +kernel
theorem d_Mo_init_35 : decode prog_10_method_1_code 35 = .ok (.putfield 19, 3) := by decide +kernel
theorem d_Mo_init_38 : decode prog_10_method_1_code 38 = .ok (.aload_n 0, 1) := by decide +kernel
theorem d_Mo_init_39 : decode prog_10_method_1_code 39 = .ok (.bipush 8, 2) := by decide +kernel
theorem d_Mo_init_41 : decode prog_10_method_1_code 41 = .ok (.newarray .int, 2) := by decide +kernel
theorem d_Mo_init_43 : decode prog_10_method_1_code 43 = .ok (.putfield 22, 3) := by decide +kernel
theorem d_Mo_init_46 : decode prog_10_method_1_code 46 = .ok (.aload_n 0, 1) := by decide +kernel
theorem d_Mo_init_47 : decode prog_10_method_1_code 47 = .ok (.bipush 8, 2) := by decide +kernel
theorem d_Mo_init_49 : decode prog_10_method_1_code 49 = .ok (.newarray .int, 2) := by decide +kernel
theorem d_Mo_init_51 : decode prog_10_method_1_code 51 = .ok (.putfield 25, 3) := by decide +kernel
theorem d_Mo_init_54 : decode prog_10_method_1_code 54 = .ok (.aload_n 0, 1) := by decide +kernel
theorem d_Mo_init_55 : decode prog_10_method_1_code 55 = .ok (.iconst 4, 1) := by decide +kernel
theorem d_Mo_init_56 : decode prog_10_method_1_code 56 = .ok (.newarray .int, 2) := by decide +kernel
theorem d_Mo_init_58 : decode prog_10_method_1_code 58 = .ok (.putfield 28, 3) := by decide +kernel
theorem d_Mo_init_61 : decode prog_10_method_1_code 61 = .ok (.aload_n 0, 1) := by decide +kernel
theorem d_Mo_init_62 : decode prog_10_method_1_code 62 = .ok (.iconst 4, 1) := by decide +kernel
theorem d_Mo_init_63 : decode prog_10_method_1_code 63 = .ok (.newarray .int, 2) := by decide +kernel
theorem d_Mo_init_65 : decode prog_10_method_1_code 65 = .ok (.putfield 31, 3) := by decide +kernel
theorem d_Mo_init_68 : decode prog_10_method_1_code 68 = .ok (.aload_n 0, 1) := by decide +kernel
theorem d_Mo_init_69 : decode prog_10_method_1_code 69 = .ok (.iconst 4, 1) := by decide +kernel
theorem d_Mo_init_70 : decode prog_10_method_1_code 70 = .ok (.newarray .int, 2) := by decide +kernel
theorem d_Mo_init_72 : decode prog_10_method_1_code 72 = .ok (.putfield 34, 3) := by decide +kernel
theorem d_Mo_init_75 : decode prog_10_method_1_code 75 = .ok (.aload_n 0, 1) := by decide +kernel
theorem d_Mo_init_76 : decode prog_10_method_1_code 76 = .ok (.bipush 6, 2) := by decide +kernel
theorem d_Mo_init_78 : decode prog_10_method_1_code 78 = .ok (.newarray .int, 2) := by decide +kernel
theorem d_Mo_init_80 : decode prog_10_method_1_code 80 = .ok (.putfield 37, 3) := by decide +kernel
theorem d_Mo_init_83 : decode prog_10_method_1_code 83 = .ok (.aload_n 0, 1) := by decide +kernel
theorem d_Mo_init_84 : decode prog_10_method_1_code 84 = .ok (.bipush 6, 2) := by decide +kernel
theorem d_Mo_init_86 : decode prog_10_method_1_code 86 = .ok (.newarray .int, 2) := by decide +kernel
theorem d_Mo_init_88 : decode prog_10_method_1_code 88 = .ok (.putfield 40, 3) := by decide +kernel
theorem d_Mo_init_91 : decode prog_10_method_1_code 91 = .ok (.aload_n 0, 1) := by decide +kernel
theorem d_Mo_init_92 : decode prog_10_method_1_code 92 = .ok (.bipush 48, 2) := by decide +kernel
theorem d_Mo_init_94 : decode prog_10_method_1_code 94 = .ok (.newarray .int, 2) := by decide +kernel
theorem d_Mo_init_96 : decode prog_10_method_1_code 96 = .ok (.putfield 43, 3) := by decide +kernel
theorem d_Mo_init_99 : decode prog_10_method_1_code 99 = .ok (.aload_n 0, 1) := by decide +kernel
theorem d_Mo_init_100 : decode prog_10_method_1_code 100 = .ok (.bipush 48, 2) := by decide +kernel
theorem d_Mo_init_102 : decode prog_10_method_1_code 102 = .ok (.newarray .int, 2) := by decide +kernel
theorem d_Mo_init_104 : decode prog_10_method_1_code 104 = .ok (.putfield 46, 3) := by decide +kernel
theorem d_Mo_init_107 : decode prog_10_method_1_code 107 = .ok (.aload_n 0, 1) := by decide +kernel
theorem d_Mo_init_108 : decode prog_10_method_1_code 108 = .ok (.bipush 6, 2) := by decide +kernel
theorem d_Mo_init_110 : decode prog_10_method_1_code 110 = .ok (.newarray .int, 2) := by decide +kernel
theorem d_Mo_init_112 : decode prog_10_method_1_code 112 = .ok (.putfield 49, 3) := by decide +kernel
theorem d_Mo_init_115 : decode prog_10_method_1_code 115 = .ok (.aload_n 0, 1) := by decide +kernel
theorem d_Mo_init_116 : decode prog_10_method_1_code 116 = .ok (.sipush 4000, 3) := by decide +kernel
theorem d_Mo_init_119 : decode prog_10_method_1_code 119 = .ok (.newarray .int, 2) := by decide +kernel
theorem d_Mo_init_121 : decode prog_10_method_1_code 121 = .ok (.putfield 52, 3) := by decide +kernel
theorem d_Mo_init_124 : decode prog_10_method_1_code 124 = .ok (.aload_n 0, 1) := by decide +kernel
theorem d_Mo_init_125 : decode prog_10_method_1_code 125 = .ok (.sipush 4000, 3) := by decide +kernel
theorem d_Mo_init_128 : decode prog_10_method_1_code 128 = .ok (.newarray .int, 2) := by decide +kernel
theorem d_Mo_init_130 : decode prog_10_method_1_code 130 = .ok (.putfield 55, 3) := by decide +kernel
theorem d_Mo_init_133 : decode prog_10_method_1_code 133 = .ok (.aload_n 0, 1) := by decide +kernel
theorem d_Mo_init_134 : decode prog_10_method_1_code 134 = .ok (.sipush 4000, 3) := by decide +kernel
theorem d_Mo_init_137 : decode prog_10_method_1_code 137 = .ok (.newarray .int, 2) := by decide +kernel
theorem d_Mo_init_139 : decode prog_10_method_1_code 139 = .ok (.putfield 58, 3) := by decide +kernel
theorem d_Mo_init_142 : decode prog_10_method_1_code 142 = .ok (.aload_n 0, 1) := by decide +kernel
theorem d_Mo_init_143 : decode prog_10_method_1_code 143 = .ok (.sipush 4000, 3) := by decide +kernel
theorem d_Mo_init_146 : decode prog_10_method_1_code 146 = .ok (.newarray .boolean, 2) := by decide +kernel
theorem d_Mo_init_148 : decode prog_10_method_1_code 148 = .ok (.putfield 61, 3) := by decide +kernel
theorem d_Mo_init_151 : decode prog_10_method_1_code 151 = .ok (.aload_n 0, 1) := by decide +kernel
theorem d_Mo_init_152 : decode prog_10_method_1_code 152 = .ok (.bipush 64, 2) := by decide +kernel
theorem d_Mo_init_154 : decode prog_10_method_1_code 154 = .ok (.newarray .int, 2) := by decide +kernel
theorem d_Mo_init_156 : decode prog_10_method_1_code 156 = .ok (.putfield 65, 3) := by decide +kernel
theorem d_Mo_init_159 : decode prog_10_method_1_code 159 = .ok (.iconst 0, 1) := by decide +kernel
theorem d_Mo_init_160 : decode prog_10_method_1_code 160 = .ok (.istore_n 1, 1) := by decide +kernel
theorem d_Mo_init_161 : decode prog_10_method_1_code 161 = .ok (.iload_n 1, 1) := by decide +kernel
theorem d_Mo_init_162 : decode prog_10_method_1_code 162 = .ok (.bipush 8, 2) := by decide +kernel
theorem d_Mo_init_164 : decode prog_10_method_1_code 164 = .ok (.if_icmp .ge 16, 3) := by decide +kernel
theorem d_Mo_init_167 : decode prog_10_method_1_code 167 = .ok (.aload_n 0, 1) := by decide +kernel
theorem d_Mo_init_168 : decode prog_10_method_1_code 168 = .ok (.getfield 22, 3) := by decide +kernel
theorem d_Mo_init_171 : decode prog_10_method_1_code 171 = .ok (.iload_n 1, 1) := by decide +kernel
theorem d_Mo_init_172 : decode prog_10_method_1_code 172 = .ok (.iconst (-1), 1) := by decide +kernel
theorem d_Mo_init_173 : decode prog_10_method_1_code 173 = .ok (.iastore, 1) := by decide +kernel
theorem d_Mo_init_174 : decode prog_10_method_1_code 174 = .ok (.iinc 1 1, 3) := by decide +kernel
theorem d_Mo_init_177 : decode prog_10_method_1_code 177 = .ok (.goto (-16), 3) := by decide +kernel
theorem d_Mo_init_180 : decode prog_10_method_1_code 180 = .ok (.return_, 1) := by decide +kernel
def tb_Mo_init : List pm_I := [
  pm_aload 1 0,
  pm_oinit 2,
  pm_aload 3 0,
  pm_const 4 576,
  pm_newa 5 0,
  pm_putr 6 8 0,
  pm_aload 7 0,
  pm_const 8 576,
  pm_newa 9 0,
  pm_putr 10 8 1,
  pm_aload 11 0,
  pm_const 12 9,
  pm_newa 13 0,
  pm_putr 14 8 2,
  pm_aload 15 0,
  pm_const 16 8,
  pm_newa 17 0,
  pm_putr 18 8 3,
  pm_aload 19 0,
  pm_const 20 8,
  pm_newa 21 0,
  pm_putr 22 8 5,
  pm_aload 23 0,
  pm_const 24 8,
  pm_newa 25 0,
  pm_putr 26 8 7,
  pm_aload 27 0,
  pm_const 28 4,
  pm_newa 29 0,
  pm_putr 30 8 8,
  pm_aload 31 0,
  pm_const 32 4,
  pm_newa 33 0,
  pm_putr 34 8 9,
  pm_aload 35 0,
  pm_const 36 4,
  pm_newa 37 0,
  pm_putr 38 8 10,
  pm_aload 39 0,
  pm_const 40 6,
  pm_newa 41 0,
  pm_putr 42 8 12,
  pm_aload 43 0,
  pm_const 44 6,
  pm_newa 45 0,
  pm_putr 46 8 13,
  pm_aload 47 0,
  pm_const 48 48,
  pm_newa 49 0,
  pm_putr 50 8 14,
  pm_aload 51 0,
  pm_const 52 48,
  pm_newa 53 0,
  pm_putr 54 8 15,
  pm_aload 55 0,
  pm_const 56 6,
  pm_newa 57 0,
  pm_putr 58 8 16,
  pm_aload 59 0,
  pm_const 60 4000,
  pm_newa 61 0,
  pm_putr 62 8 18,
  pm_aload 63 0,
  pm_const 64 4000,
  pm_newa 65 0,
  pm_putr 66 8 19,
  pm_aload 67 0,
  pm_const 68 4000,
  pm_newa 69 0,
  pm_putr 70 8 20,
  pm_aload 71 0,
  pm_const 72 4000,
  pm_newa 73 1,
  pm_putr 74 8 21,
  pm_aload 75 0,
  pm_const 76 64,
  pm_newa 77 0,
  pm_putr 78 8 23,
  pm_const 79 0,
  pm_istore 80 1,
  pm_iload 81 1,
  pm_const 82 8,
  pm_icmp 90 83 (fun a b => decide (b ≤ a)),
  pm_aload 84 0,
  pm_getr 85 8 5,
  pm_iload 86 1,
  pm_const 87 (-1),
  pm_iast 88,
  pm_iinc 89 1 1,
  pm_goto 80,
  pm_vret]
def bp_Mo_init : List Nat := [0, 1, 4, 5, 8, 10, 13, 14, 17, 19, 22, 23, 25, 27, 30, 31, 33, 35, 38, 39, 41, 43, 46, 47, 49, 51, 54, 55, 56, 58, 61, 62, 63, 65, 68, 69, 70, 72, 75, 76, 78, 80, 83, 84, 86, 88, 91, 92, 94, 96, 99, 100, 102, 104, 107, 108, 110, 112, 115, 116, 119, 121, 124, 125, 128, 130, 133, 134, 137, 139, 142, 143, 146, 148, 151, 152, 154, 156, 159, 160, 161, 162, 164, 167, 168, 171, 172, 173, 174, 177, 180]
set_option maxRecDepth 100000 in
theorem sd_Mo_init : pm_Sl prog_10_method_1_code 2 R_Mo "<init>" (none) pm_Y (pm_b bp_Mo_init) 0 tb_Mo_init := by
  refine ⟨so_aloadn d_Mo_init_0 rfl rfl, ?_⟩
  refine ⟨so_oinit (pm_in1 (List.mem_append_right _ (List.mem_append_left _ (List.mem_of_getElem? (i := 227) rfl)))) (pm_in1 (List.mem_append_left _ (List.mem_of_getElem? (i := 19) rfl))) (pm_in1 (List.mem_append_left _ (List.mem_of_getElem? (i := 20) rfl))) d_Mo_init_1 rfl, ?_⟩
  refine ⟨so_aloadn d_Mo_init_4 rfl rfl, ?_⟩
  refine ⟨so_const3 d_Mo_init_5 (by decide) rfl, ?_⟩
  refine ⟨so_newi d_Mo_init_8 rfl, ?_⟩
  refine ⟨so_putr (ci := 8) (k := 0) rfl (by decide) rfl rfl (Or.inr ⟨rfl, rfl, rfl, pm_in1 (List.mem_append_right _ (List.mem_append_left _ (List.mem_of_getElem? (i := 228) rfl)))⟩) d_Mo_init_10 rfl, ?_⟩
  refine ⟨so_aloadn d_Mo_init_13 rfl rfl, ?_⟩
  refine ⟨so_const3 d_Mo_init_14 (by decide) rfl, ?_⟩
  refine ⟨so_newi d_Mo_init_17 rfl, ?_⟩
  refine ⟨so_putr (ci := 8) (k := 1) rfl (by decide) rfl rfl (Or.inr ⟨rfl, rfl, rfl, pm_in1 (List.mem_append_right _ (List.mem_append_left _ (List.mem_of_getElem? (i := 229) rfl)))⟩) d_Mo_init_19 rfl, ?_⟩
  refine ⟨so_aloadn d_Mo_init_22 rfl rfl, ?_⟩
  refine ⟨so_const2 d_Mo_init_23 (by decide) rfl, ?_⟩
  refine ⟨so_newi d_Mo_init_25 rfl, ?_⟩
  refine ⟨so_putr (ci := 8) (k := 2) rfl (by decide) rfl rfl (Or.inr ⟨rfl, rfl, rfl, pm_in1 (List.mem_append_right _ (List.mem_append_left _ (List.mem_of_getElem? (i := 230) rfl)))⟩) d_Mo_init_27 rfl, ?_⟩
  refine ⟨so_aloadn d_Mo_init_30 rfl rfl, ?_⟩
  refine ⟨so_const2 d_Mo_init_31 (by decide) rfl, ?_⟩
  refine ⟨so_newi d_Mo_init_33 rfl, ?_⟩
  refine ⟨so_putr (ci := 8) (k := 3) rfl (by decide) rfl rfl (Or.inr ⟨rfl, rfl, rfl, pm_in1 (List.mem_append_right _ (List.mem_append_left _ (List.mem_of_getElem? (i := 231) rfl)))⟩) d_Mo_init_35 rfl, ?_⟩
  refine ⟨so_aloadn d_Mo_init_38 rfl rfl, ?_⟩
  refine ⟨so_const2 d_Mo_init_39 (by decide) rfl, ?_⟩
  refine ⟨so_newi d_Mo_init_41 rfl, ?_⟩
  refine ⟨so_putr (ci := 8) (k := 5) rfl (by decide) rfl rfl (Or.inr ⟨rfl, rfl, rfl, pm_in1 (List.mem_append_right _ (List.mem_append_left _ (List.mem_of_getElem? (i := 233) rfl)))⟩) d_Mo_init_43 rfl, ?_⟩
  refine ⟨so_aloadn d_Mo_init_46 rfl rfl, ?_⟩
  refine ⟨so_const2 d_Mo_init_47 (by decide) rfl, ?_⟩
  refine ⟨so_newi d_Mo_init_49 rfl, ?_⟩
  refine ⟨so_putr (ci := 8) (k := 7) rfl (by decide) rfl rfl (Or.inr ⟨rfl, rfl, rfl, pm_in1 (List.mem_append_right _ (List.mem_append_left _ (List.mem_of_getElem? (i := 235) rfl)))⟩) d_Mo_init_51 rfl, ?_⟩
  refine ⟨so_aloadn d_Mo_init_54 rfl rfl, ?_⟩
  refine ⟨so_const1 d_Mo_init_55 (by decide) rfl, ?_⟩
  refine ⟨so_newi d_Mo_init_56 rfl, ?_⟩
  refine ⟨so_putr (ci := 8) (k := 8) rfl (by decide) rfl rfl (Or.inr ⟨rfl, rfl, rfl, pm_in1 (List.mem_append_right _ (List.mem_append_left _ (List.mem_of_getElem? (i := 236) rfl)))⟩) d_Mo_init_58 rfl, ?_⟩
  refine ⟨so_aloadn d_Mo_init_61 rfl rfl, ?_⟩
  refine ⟨so_const1 d_Mo_init_62 (by decide) rfl, ?_⟩
  refine ⟨so_newi d_Mo_init_63 rfl, ?_⟩
  refine ⟨so_putr (ci := 8) (k := 9) rfl (by decide) rfl rfl (Or.inr ⟨rfl, rfl, rfl, pm_in1 (List.mem_append_right _ (List.mem_append_left _ (List.mem_of_getElem? (i := 237) rfl)))⟩) d_Mo_init_65 rfl, ?_⟩
  refine ⟨so_aloadn d_Mo_init_68 rfl rfl, ?_⟩
  refine ⟨so_const1 d_Mo_init_69 (by decide) rfl, ?_⟩
  refine ⟨so_newi d_Mo_init_70 rfl, ?_⟩
  refine ⟨so_putr (ci := 8) (k := 10) rfl (by decide) rfl rfl (Or.inr ⟨rfl, rfl, rfl, pm_in1 (List.mem_append_right _ (List.mem_append_left _ (List.mem_of_getElem? (i := 238) rfl)))⟩) d_Mo_init_72 rfl, ?_⟩
  refine ⟨so_aloadn d_Mo_init_75 rfl rfl, ?_⟩
  refine ⟨so_const2 d_Mo_init_76 (by decide) rfl, ?_⟩
  refine ⟨so_newi d_Mo_init_78 rfl, ?_⟩
  refine ⟨so_putr (ci := 8) (k := 12) rfl (by decide) rfl rfl (Or.inr ⟨rfl, rfl, rfl, pm_in1 (List.mem_append_right _ (List.mem_append_right _ (List.mem_of_getElem? (i := 0) rfl)))⟩) d_Mo_init_80 rfl, ?_⟩
  refine ⟨so_aloadn d_Mo_init_83 rfl rfl, ?_⟩
  refine ⟨so_const2 d_Mo_init_84 (by decide) rfl, ?_⟩
  refine ⟨so_newi d_Mo_init_86 rfl, ?_⟩
  refine ⟨so_putr (ci := 8) (k := 13) rfl (by decide) rfl rfl (Or.inr ⟨rfl, rfl, rfl, pm_in1 (List.mem_append_right _ (List.mem_append_right _ (List.mem_of_getElem? (i := 1) rfl)))⟩) d_Mo_init_88 rfl, ?_⟩
  refine ⟨so_aloadn d_Mo_init_91 rfl rfl, ?_⟩
  refine ⟨so_const2 d_Mo_init_92 (by decide) rfl, ?_⟩
  refine ⟨so_newi d_Mo_init_94 rfl, ?_⟩
  refine ⟨so_putr (ci := 8) (k := 14) rfl (by decide) rfl rfl (Or.inr ⟨rfl, rfl, rfl, pm_in1 (List.mem_append_right _ (List.mem_append_right _ (List.mem_of_getElem? (i := 2) rfl)))⟩) d_Mo_init_96 rfl, ?_⟩
  refine ⟨so_aloadn d_Mo_init_99 rfl rfl, ?_⟩
  refine ⟨so_const2 d_Mo_init_100 (by decide) rfl, ?_⟩
  refine ⟨so_newi d_Mo_init_102 rfl, ?_⟩
  refine ⟨so_putr (ci := 8) (k := 15) rfl (by decide) rfl rfl (Or.inr ⟨rfl, rfl, rfl, pm_in1 (List.mem_append_right _ (List.mem_append_right _ (List.mem_of_getElem? (i := 3) rfl)))⟩) d_Mo_init_104 rfl, ?_⟩
  refine ⟨so_aloadn d_Mo_init_107 rfl rfl, ?_⟩
  refine ⟨so_const2 d_Mo_init_108 (by decide) rfl, ?_⟩
  refine ⟨so_newi d_Mo_init_110 rfl, ?_⟩
  refine ⟨so_putr (ci := 8) (k := 16) rfl (by decide) rfl rfl (Or.inr ⟨rfl, rfl, rfl, pm_in1 (List.mem_append_right _ (List.mem_append_right _ (List.mem_of_getElem? (i := 4) rfl)))⟩) d_Mo_init_112 rfl, ?_⟩
  refine ⟨so_aloadn d_Mo_init_115 rfl rfl, ?_⟩
  refine ⟨so_const3 d_Mo_init_116 (by decide) rfl, ?_⟩
  refine ⟨so_newi d_Mo_init_119 rfl, ?_⟩
  refine ⟨so_putr (ci := 8) (k := 18) rfl (by decide) rfl rfl (Or.inr ⟨rfl, rfl, rfl, pm_in1 (List.mem_append_right _ (List.mem_append_right _ (List.mem_of_getElem? (i := 6) rfl)))⟩) d_Mo_init_121 rfl, ?_⟩
  refine ⟨so_aloadn d_Mo_init_124 rfl rfl, ?_⟩
  refine ⟨so_const3 d_Mo_init_125 (by decide) rfl, ?_⟩
  refine ⟨so_newi d_Mo_init_128 rfl, ?_⟩
  refine ⟨so_putr (ci := 8) (k := 19) rfl (by decide) rfl rfl (Or.inr ⟨rfl, rfl, rfl, pm_in1 (List.mem_append_right _ (List.mem_append_right _ (List.mem_of_getElem? (i := 7) rfl)))⟩) d_Mo_init_130 rfl, ?_⟩
  refine ⟨so_aloadn d_Mo_init_133 rfl rfl, ?_⟩
  refine ⟨so_const3 d_Mo_init_134 (by decide) rfl, ?_⟩
  refine ⟨so_newi d_Mo_init_137 rfl, ?_⟩
  refine ⟨so_putr (ci := 8) (k := 20) rfl (by decide) rfl rfl (Or.inr ⟨rfl, rfl, rfl, pm_in1 (List.mem_append_right _ (List.mem_append_right _ (List.mem_of_getElem? (i := 8) rfl)))⟩) d_Mo_init_139 rfl, ?_⟩
  refine ⟨so_aloadn d_Mo_init_142 rfl rfl, ?_⟩
  refine ⟨so_const3 d_Mo_init_143 (by decide) rfl, ?_⟩
  refine ⟨so_newz d_Mo_init_146 rfl, ?_⟩
  refine ⟨so_putr (ci := 8) (k := 21) rfl (by decide) rfl rfl (Or.inr ⟨rfl, rfl, rfl, pm_in1 (List.mem_append_right _ (List.mem_append_right _ (List.mem_of_getElem? (i := 9) rfl)))⟩) d_Mo_init_148 rfl, ?_⟩
  refine ⟨so_aloadn d_Mo_init_151 rfl rfl, ?_⟩
  refine ⟨so_const2 d_Mo_init_152 (by decide) rfl, ?_⟩
  refine ⟨so_newi d_Mo_init_154 rfl, ?_⟩
  refine ⟨so_putr (ci := 8) (k := 23) rfl (by decide) rfl rfl (Or.inr ⟨rfl, rfl, rfl, pm_in1 (List.mem_append_right _ (List.mem_append_right _ (List.mem_of_getElem? (i := 11) rfl)))⟩) d_Mo_init_156 rfl, ?_⟩
  refine ⟨so_const1 d_Mo_init_159 (by decide) rfl, ?_⟩
  refine ⟨so_istoren d_Mo_init_160 rfl (by decide) rfl, ?_⟩
  refine ⟨so_iloadn d_Mo_init_161 rfl rfl, ?_⟩
  refine ⟨so_const2 d_Mo_init_162 (by decide) rfl, ?_⟩
  refine ⟨so_icmp_ge d_Mo_init_164 rfl rfl, ?_⟩
  refine ⟨so_aloadn d_Mo_init_167 rfl rfl, ?_⟩
  refine ⟨so_getr (ci := 8) (k := 5) rfl (by decide) rfl rfl fl_Mo_22 d_Mo_init_168 rfl, ?_⟩
  refine ⟨so_iloadn d_Mo_init_171 rfl rfl, ?_⟩
  refine ⟨so_const1 d_Mo_init_172 (by decide) rfl, ?_⟩
  refine ⟨so_iast d_Mo_init_173 rfl, ?_⟩
  refine ⟨so_iinc d_Mo_init_174 (by decide) (by decide) rfl, ?_⟩
  refine ⟨so_goto d_Mo_init_177 rfl, ?_⟩
  refine ⟨so_vret d_Mo_init_180 rfl, ?_⟩
  exact trivial
theorem d_Mo_statement_0 : decode prog_10_method_3_code 0 = .ok (.iload_n 1, 1) := by decide +kernel
theorem d_Mo_statement_1 : decode prog_10_method_3_code 1 = .ok (.ifCond .lt 25, 3) := by decide +kernel
theorem d_Mo_statement_4 : decode prog_10_method_3_code 4 = .ok (.iload_n 1, 1) := by decide +kernel
theorem d_Mo_statement_5 : decode prog_10_method_3_code 5 = .ok (.bipush 10, 2) := by decide +kernel
theorem d_Mo_statement_7 : decode prog_10_method_3_code 7 = .ok (.if_icmp .gt 19, 3) := by decide +kernel
theorem d_Mo_statement_10 : decode prog_10_method_3_code 10 = .ok (.aload_n 0, 1) := by decide +kernel
theorem d_Mo_statement_11 : decode prog_10_method_3_code 11 = .ok (.getfield 16, 3) := by decide +kernel
theorem d_Mo_statement_14 : decode prog_10_method_3_code 14 = .ok (.bipush 8, 2) := by decide +kernel
theorem d_Mo_statement_16 : decode prog_10_method_3_code 16 = .ok (.iaload, 1) := by decide +kernel
theorem d_Mo_statement_17 : decode prog_10_method_3_code 17 = .ok (.bipush 64, 2) := by decide +kernel
theorem d_Mo_statement_19 : decode prog_10_method_3_code 19 = .ok (.if_icmp .ge 7, 3) := by decide +kernel
theorem d_Mo_statement_22 : decode prog_10_method_3_code 22 = .ok (.iconst 1, 1) := by decide +kernel
theorem d_Mo_statement_23 : decode prog_10_method_3_code 23 = .ok (.goto 4, 3) := by decide +kernel
theorem d_Mo_statement_26 : decode prog_10_method_3_code 26 = .ok (.iconst 0, 1) := by decide +kernel
theorem d_Mo_statement_27 : decode prog_10_method_3_code 27 = .ok (.istore_n 3, 1) := by decide +kernel
theorem d_Mo_statement_28 : decode prog_10_method_3_code 28 = .ok (.iload_n 1, 1) := by decide +kernel
theorem d_Mo_statement_29 : decode prog_10_method_3_code 29 = .ok (.ifCond .eq 8, 3) := by decide +kernel
theorem d_Mo_statement_32 : decode prog_10_method_3_code 32 = .ok (.iload_n 1, 1) := by decide +kernel
theorem d_Mo_statement_33 : decode prog_10_method_3_code 33 = .ok (.iconst 1, 1) := by decide +kernel
theorem d_Mo_statement_34 : decode prog_10_method_3_code 34 = .ok (.if_icmp .ne 22, 3) := by decide +kernel
theorem d_Mo_statement_37 : decode prog_10_method_3_code 37 = .ok (.iload_n 3, 1) := by decide +kernel
theorem d_Mo_statement_38 : decode prog_10_method_3_code 38 = .ok (.ifCond .eq 16, 3) := by decide +kernel
theorem d_Mo_statement_41 : decode prog_10_method_3_code 41 = .ok (.iload_n 2, 1) := by decide +kernel
theorem d_Mo_statement_42 : decode prog_10_method_3_code 42 = .ok (.bipush 8, 2) := by decide +kernel
theorem d_Mo_statement_44 : decode prog_10_method_3_code 44 = .ok (.invokestatic 68, 3) := by decide +kernel
theorem d_Mo_statement_47 : decode prog_10_method_3_code 47 = .ok (.ifCond .eq 7, 3) := by decide +kernel
theorem d_Mo_statement_50 : decode prog_10_method_3_code 50 = .ok (.iconst 1, 1) := by decide +kernel
theorem d_Mo_statement_51 : decode prog_10_method_3_code 51 = .ok (.goto 4, 3) := by decide +kernel
theorem d_Mo_statement_54 : decode prog_10_method_3_code 54 = .ok (.iconst 0, 1) := by decide +kernel
theorem d_Mo_statement_55 : decode prog_10_method_3_code 55 = .ok (.istore_n 3, 1) := by decide +kernel
theorem d_Mo_statement_56 : decode prog_10_method_3_code 56 = .ok (.iload_n 1, 1) := by decide +kernel
theorem d_Mo_statement_57 : decode prog_10_method_3_code 57 = .ok (.iconst 4, 1) := by decide +kernel
theorem d_Mo_statement_58 : decode prog_10_method_3_code 58 = .ok (.if_icmp .ne 21, 3) := by decide +kernel
theorem d_Mo_statement_61 : decode prog_10_method_3_code 61 = .ok (.iload_n 3, 1) := by decide +kernel
theorem d_Mo_statement_62 : decode prog_10_method_3_code 62 = .ok (.ifCond .eq 15, 3) := by decide +kernel
theorem d_Mo_statement_65 : decode prog_10_method_3_code 65 = .ok (.iload_n 2, 1) := by decide +kernel
theorem d_Mo_statement_66 : decode prog_10_method_3_code 66 = .ok (.iconst 4, 1) := by decide +kernel
theorem d_Mo_statement_67 : decode prog_10_method_3_code 67 = .ok (.invokestatic 68, 3) := by decide +kernel
theorem d_Mo_statement_70 : decode prog_10_method_3_code 70 = .ok (.ifCond .eq 7, 3) := by decide +kernel
theorem d_Mo_statement_73 : decode prog_10_method_3_code 73 = .ok (.iconst 1, 1) := by decide +kernel
theorem d_Mo_statement_74 : decode prog_10_method_3_code 74 = .ok (.goto 4, 3) := by decide +kernel
theorem d_Mo_statement_77 : decode prog_10_method_3_code 77 = .ok (.iconst 0, 1) := by decide +kernel
theorem d_Mo_statement_78 : decode prog_10_method_3_code 78 = .ok (.istore_n 3, 1) := by decide +kernel
theorem d_Mo_statement_79 : decode prog_10_method_3_code 79 = .ok (.iload_n 1, 1) := by decide +kernel
theorem d_Mo_statement_80 : decode prog_10_method_3_code 80 = .ok (.bipush 9, 2) := by decide +kernel
theorem d_Mo_statement_82 : decode prog_10_method_3_code 82 = .ok (.if_icmp .eq 9, 3) := by decide +kernel
theorem d_Mo_statement_85 : decode prog_10_method_3_code 85 = .ok (.iload_n 1, 1) := by decide +kernel
theorem d_Mo_statement_86 : decode prog_10_method_3_code 86 = .ok (.bipush 10, 2) := by decide +kernel
theorem d_Mo_statement_88 : decode prog_10_method_3_code 88 = .ok (.if_icmp .ne 22, 3) := by decide +kernel
theorem d_Mo_statement_91 : decode prog_10_method_3_code 91 = .ok (.iload_n 3, 1) := by decide +kernel
theorem d_Mo_statement_92 : decode prog_10_method_3_code 92 = .ok (.ifCond .eq 16, 3) := by decide +kernel
theorem d_Mo_statement_95 : decode prog_10_method_3_code 95 = .ok (.iload_n 2, 1) := by decide +kernel
theorem d_Mo_statement_96 : decode prog_10_method_3_code 96 = .ok (.bipush 8, 2) := by decide +kernel
theorem d_Mo_statement_98 : decode prog_10_method_3_code 98 = .ok (.invokestatic 68, 3) := by decide +kernel
theorem d_Mo_statement_101 : decode prog_10_method_3_code 101 = .ok (.ifCond .eq 7, 3) := by decide +kernel
theorem d_Mo_statement_104 : decode prog_10_method_3_code 104 = .ok (.iconst 1, 1) := by decide +kernel
theorem d_Mo_statement_105 : decode prog_10_method_3_code 105 = .ok (.goto 4, 3) := by decide +kernel
theorem d_Mo_statement_108 : decode prog_10_method_3_code 108 = .ok (.iconst 0, 1) := by decide +kernel
theorem d_Mo_statement_109 : decode prog_10_method_3_code 109 = .ok (.istore_n 3, 1) := by decide +kernel
theorem d_Mo_statement_110 : decode prog_10_method_3_code 110 = .ok (.iload_n 3, 1) := by decide +kernel
theorem d_Mo_statement_111 : decode prog_10_method_3_code 111 = .ok (.ifCond .ne 5, 3) := by decide +kernel
theorem d_Mo_statement_114 : decode prog_10_method_3_code 114 = .ok (.iconst (-1), 1) := by decide +kernel
theorem d_Mo_statement_115 : decode prog_10_method_3_code 115 = .ok (.ireturn, 1) := by decide +kernel
theorem d_Mo_statement_116 : decode prog_10_method_3_code 116 = .ok (.aload_n 0, 1) := by decide +kernel
theorem d_Mo_statement_117 : decode prog_10_method_3_code 117 = .ok (.getfield 7, 3) := by decide +kernel
theorem d_Mo_statement_120 : decode prog_10_method_3_code 120 = .ok (.sipush 512, 3) := by decide +kernel
theorem d_Mo_statement_123 : decode prog_10_method_3_code 123 = .ok (.aload_n 0, 1) := by decide +kernel
theorem d_Mo_statement_124 : decode prog_10_method_3_code 124 = .ok (.getfield 16, 3) := by decide +kernel
theorem d_Mo_statement_127 : decode prog_10_method_3_code 127 = .ok (.bipush 8, 2) := by decide +kernel
theorem d_Mo_statement_129 : decode prog_10_method_3_code 129 = .ok (.iaload, 1) := by decide +kernel
theorem d_Mo_statement_130 : decode prog_10_method_3_code 130 = .ok (.iadd, 1) := by decide +kernel
theorem d_Mo_statement_131 : decode prog_10_method_3_code 131 = .ok (.iload_n 1, 1) := by decide +kernel
theorem d_Mo_statement_132 : decode prog_10_method_3_code 132 = .ok (.iastore, 1) := by decide +kernel
theorem d_Mo_statement_133 : decode prog_10_method_3_code 133 = .ok (.aload_n 0, 1) := by decide +kernel
theorem d_Mo_statement_134 : decode prog_10_method_3_code 134 = .ok (.getfield 13, 3) := by decide +kernel
theorem d_Mo_statement_137 : decode prog_10_method_3_code 137 = .ok (.sipush 512, 3) := by decide +kernel
theorem d_Mo_statement_140 : decode prog_10_method_3_code 140 = .ok (.aload_n 0, 1) := by decide +kernel
theorem d_Mo_statement_141 : decode prog_10_method_3_code 141 = .ok (.getfield 16, 3) := by decide +kernel
theorem d_Mo_statement_144 : decode prog_10_method_3_code 144 = .ok (.bipush 8, 2) := by decide +kernel
theorem d_Mo_statement_146 : decode prog_10_method_3_code 146 = .ok (.iaload, 1) := by decide +kernel
theorem d_Mo_statement_147 : decode prog_10_method_3_code 147 = .ok (.iadd, 1) := by decide +kernel
theorem d_Mo_statement_148 : decode prog_10_method_3_code 148 = .ok (.iload_n 2, 1) := by decide +kernel
theorem d_Mo_statement_149 : decode prog_10_method_3_code 149 = .ok (.iastore, 1) := by decide +kernel
theorem d_Mo_statement_150 : decode prog_10_method_3_code 150 = .ok (.aload_n 0, 1) := by decide +kernel
theorem d_Mo_statement_151 : decode prog_10_method_3_code 151 = .ok (.getfield 16, 3) := by decide +kernel
theorem d_Mo_statement_154 : decode prog_10_method_3_code 154 = .ok (.bipush 8, 2) := by decide +kernel
theorem d_Mo_statement_156 : decode prog_10_method_3_code 156 = .ok (.dup2, 1) := by decide +kernel
theorem d_Mo_statement_157 : decode prog_10_method_3_code 157 = .ok (.iaload, 1) := by decide +kernel
theorem d_Mo_statement_158 : decode prog_10_method_3_code 158 = .ok (.iconst 1, 1) := by decide +kernel
theorem d_Mo_statement_159 : decode prog_10_method_3_code 159 = .ok (.iadd, 1) := by decide +kernel
theorem d_Mo_statement_160 : decode prog_10_method_3_code 160 = .ok (.iastore, 1) := by decide +kernel
theorem d_Mo_statement_161 : decode prog_10_method_3_code 161 = .ok (.aload_n 0, 1) := by decide +kernel
theorem d_Mo_statement_162 : decode prog_10_method_3_code 162 = .ok (.getfield 16, 3) := by decide +kernel
theorem d_Mo_statement_165 : decode prog_10_method_3_code 165 = .ok (.bipush 8, 2) := by decide +kernel
theorem d_Mo_statement_167 : decode prog_10_method_3_code 167 = .ok (.iaload, 1) := by decide +kernel
theorem d_Mo_statement_168 : decode prog_10_method_3_code 168 = .ok (.ireturn, 1) := by decide +kernel
def tb_Mo_statement : List pm_I := [
  pm_iload 1 1,
  pm_if 13 2 (fun a => decide (a < 0)),
  pm_iload 3 1,
  pm_const 4 10,
  pm_icmp 13 5 (fun a b => decide (b < a)),
  pm_aload 6 0,
  pm_getr 7 8 2,
  pm_const 8 8,
  pm_iald 9 0,
  pm_const 10 64,
  pm_icmp 13 11 (fun a b => decide (b ≤ a)),
  pm_const 12 1,
  pm_goto 14,
  pm_const 14 0,
  pm_istore 15 3,
  pm_iload 16 1,
  pm_if 20 17 (fun a => decide (a = 0)),
  pm_iload 18 1,
  pm_const 19 1,
  pm_icmp 30 20 (fun a b => decide (a ≠ b)),
  pm_iload 21 3,
  pm_if 28 22 (fun a => decide (a = 0)),
  pm_iload 23 2,
  pm_const 24 8,
  pm_calls 25 71 2,
  pm_if 28 26 (fun a => decide (a = 0)),
  pm_const 27 1,
  pm_goto 29,
  pm_const 29 0,
  pm_istore 30 3,
  pm_iload 31 1,
  pm_const 32 4,
  pm_icmp 43 33 (fun a b => decide (a ≠ b)),
  pm_iload 34 3,
  pm_if 41 35 (fun a => decide (a = 0)),
  pm_iload 36 2,
  pm_const 37 4,
  pm_calls 38 71 2,
  pm_if 41 39 (fun a => decide (a = 0)),
  pm_const 40 1,
  pm_goto 42,
  pm_const 42 0,
  pm_istore 43 3,
  pm_iload 44 1,
  pm_const 45 9,
  pm_icmp 49 46 (fun a b => decide (a = b)),
  pm_iload 47 1,
  pm_const 48 10,
  pm_icmp 59 49 (fun a b => decide (a ≠ b)),
  pm_iload 50 3,
  pm_if 57 51 (fun a => decide (a = 0)),
  pm_iload 52 2,
  pm_const 53 8,
  pm_calls 54 71 2,
  pm_if 57 55 (fun a => decide (a = 0)),
  pm_const 56 1,
  pm_goto 58,
  pm_const 58 0,
  pm_istore 59 3,
  pm_iload 60 3,
  pm_if 63 61 (fun a => decide (a ≠ 0)),
  pm_const 62 (-1),
  pm_iret,
  pm_aload 64 0,
  pm_getr 65 8 0,
  pm_const 66 512,
  pm_aload 67 0,
  pm_getr 68 8 2,
  pm_const 69 8,
  pm_iald 70 0,
  pm_bin 71 (fun a b => a + b),
  pm_iload 72 1,
  pm_iast 73,
  pm_aload 74 0,
  pm_getr 75 8 1,
  pm_const 76 512,
  pm_aload 77 0,
  pm_getr 78 8 2,
  pm_const 79 8,
  pm_iald 80 0,
  pm_bin 81 (fun a b => a + b),
  pm_iload 82 2,
  pm_iast 83,
  pm_aload 84 0,
  pm_getr 85 8 2,
  pm_const 86 8,
  pm_dup2 87,
  pm_iald 88 0,
  pm_const 89 1,
  pm_bin 90 (fun a b => a + b),
  pm_iast 91,
  pm_aload 92 0,
  pm_getr 93 8 2,
  pm_const 94 8,
  pm_iald 95 0,
  pm_iret]
def bp_Mo_statement : List Nat := [0, 1, 4, 5, 7, 10, 11, 14, 16, 17, 19, 22, 23, 26, 27, 28, 29, 32, 33, 34, 37, 38, 41, 42, 44, 47, 50, 51, 54, 55, 56, 57, 58, 61, 62, 65, 66, 67, 70, 73, 74, 77, 78, 79, 80, 82, 85, 86, 88, 91, 92, 95, 96, 98, 101, 104, 105, 108, 109, 110, 111, 114, 115, 116, 117, 120, 123, 124, 127, 129, 130, 131, 132, 133, 134, 137, 140, 141, 144, 146, 147, 148, 149, 150, 151, 154, 156, 157, 158, 159, 160, 161, 162, 165, 167, 168]
set_option maxRecDepth 100000 in
theorem sd_Mo_statement : pm_Sl prog_10_method_3_code 4 R_Mo "statement" (some .int) pm_Y (pm_b bp_Mo_statement) 0 tb_Mo_statement := by
  refine ⟨so_iloadn d_Mo_statement_0 rfl rfl, ?_⟩
  refine ⟨so_if_lt d_Mo_statement_1 rfl rfl, ?_⟩
  refine ⟨so_iloadn d_Mo_statement_4 rfl rfl, ?_⟩
  refine ⟨so_const2 d_Mo_statement_5 (by decide) rfl, ?_⟩
  refine ⟨so_icmp_gt d_Mo_statement_7 rfl rfl, ?_⟩
  refine ⟨so_aloadn d_Mo_statement_10 rfl rfl, ?_⟩
  refine ⟨so_getr (ci := 8) (k := 2) rfl (by decide) rfl rfl fl_Mo_16 d_Mo_statement_11 rfl, ?_⟩
  refine ⟨so_const2 d_Mo_statement_14 (by decide) rfl, ?_⟩
  refine ⟨so_iald d_Mo_statement_16 rfl, ?_⟩
  refine ⟨so_const2 d_Mo_statement_17 (by decide) rfl, ?_⟩
  refine ⟨so_icmp_ge d_Mo_statement_19 rfl rfl, ?_⟩
  refine ⟨so_const1 d_Mo_statement_22 (by decide) rfl, ?_⟩
  refine ⟨so_goto d_Mo_statement_23 rfl, ?_⟩
  refine ⟨so_const1 d_Mo_statement_26 (by decide) rfl, ?_⟩
  refine ⟨so_istoren d_Mo_statement_27 rfl (by decide) rfl, ?_⟩
  refine ⟨so_iloadn d_Mo_statement_28 rfl rfl, ?_⟩
  refine ⟨so_if_eq d_Mo_statement_29 rfl rfl, ?_⟩
  refine ⟨so_iloadn d_Mo_statement_32 rfl rfl, ?_⟩
  refine ⟨so_const1 d_Mo_statement_33 (by decide) rfl, ?_⟩
  refine ⟨so_icmp_ne d_Mo_statement_34 rfl rfl, ?_⟩
  refine ⟨so_iloadn d_Mo_statement_37 rfl rfl, ?_⟩
  refine ⟨so_if_eq d_Mo_statement_38 rfl rfl, ?_⟩
  refine ⟨so_iloadn d_Mo_statement_41 rfl rfl, ?_⟩
  refine ⟨so_const2 d_Mo_statement_42 (by decide) rfl, ?_⟩
  refine ⟨so_calls rfl mc_Mo_isIn mi_Mo mt_Mo_isIn ml_Mo_68 yd_Mo_isIn (by decide) d_Mo_statement_44 rfl, ?_⟩
  refine ⟨so_if_eq d_Mo_statement_47 rfl rfl, ?_⟩
  refine ⟨so_const1 d_Mo_statement_50 (by decide) rfl, ?_⟩
  refine ⟨so_goto d_Mo_statement_51 rfl, ?_⟩
  refine ⟨so_const1 d_Mo_statement_54 (by decide) rfl, ?_⟩
  refine ⟨so_istoren d_Mo_statement_55 rfl (by decide) rfl, ?_⟩
  refine ⟨so_iloadn d_Mo_statement_56 rfl rfl, ?_⟩
  refine ⟨so_const1 d_Mo_statement_57 (by decide) rfl, ?_⟩
  refine ⟨so_icmp_ne d_Mo_statement_58 rfl rfl, ?_⟩
  refine ⟨so_iloadn d_Mo_statement_61 rfl rfl, ?_⟩
  refine ⟨so_if_eq d_Mo_statement_62 rfl rfl, ?_⟩
  refine ⟨so_iloadn d_Mo_statement_65 rfl rfl, ?_⟩
  refine ⟨so_const1 d_Mo_statement_66 (by decide) rfl, ?_⟩
  refine ⟨so_calls rfl mc_Mo_isIn mi_Mo mt_Mo_isIn ml_Mo_68 yd_Mo_isIn (by decide) d_Mo_statement_67 rfl, ?_⟩
  refine ⟨so_if_eq d_Mo_statement_70 rfl rfl, ?_⟩
  refine ⟨so_const1 d_Mo_statement_73 (by decide) rfl, ?_⟩
  refine ⟨so_goto d_Mo_statement_74 rfl, ?_⟩
  refine ⟨so_const1 d_Mo_statement_77 (by decide) rfl, ?_⟩
  refine ⟨so_istoren d_Mo_statement_78 rfl (by decide) rfl, ?_⟩
  refine ⟨so_iloadn d_Mo_statement_79 rfl rfl, ?_⟩
  refine ⟨so_const2 d_Mo_statement_80 (by decide) rfl, ?_⟩
  refine ⟨so_icmp_eq d_Mo_statement_82 rfl rfl, ?_⟩
  refine ⟨so_iloadn d_Mo_statement_85 rfl rfl, ?_⟩
  refine ⟨so_const2 d_Mo_statement_86 (by decide) rfl, ?_⟩
  refine ⟨so_icmp_ne d_Mo_statement_88 rfl rfl, ?_⟩
  refine ⟨so_iloadn d_Mo_statement_91 rfl rfl, ?_⟩
  refine ⟨so_if_eq d_Mo_statement_92 rfl rfl, ?_⟩
  refine ⟨so_iloadn d_Mo_statement_95 rfl rfl, ?_⟩
  refine ⟨so_const2 d_Mo_statement_96 (by decide) rfl, ?_⟩
  refine ⟨so_calls rfl mc_Mo_isIn mi_Mo mt_Mo_isIn ml_Mo_68 yd_Mo_isIn (by decide) d_Mo_statement_98 rfl, ?_⟩
  refine ⟨so_if_eq d_Mo_statement_101 rfl rfl, ?_⟩
  refine ⟨so_const1 d_Mo_statement_104 (by decide) rfl, ?_⟩
  refine ⟨so_goto d_Mo_statement_105 rfl, ?_⟩
  refine ⟨so_const1 d_Mo_statement_108 (by decide) rfl, ?_⟩
  refine ⟨so_istoren d_Mo_statement_109 rfl (by decide) rfl, ?_⟩
  refine ⟨so_iloadn d_Mo_statement_110 rfl rfl, ?_⟩
  refine ⟨so_if_ne d_Mo_statement_111 rfl rfl, ?_⟩
  refine ⟨so_const1 d_Mo_statement_114 (by decide) rfl, ?_⟩
  refine ⟨so_iret d_Mo_statement_115 rfl, ?_⟩
  refine ⟨so_aloadn d_Mo_statement_116 rfl rfl, ?_⟩
  refine ⟨so_getr (ci := 8) (k := 0) rfl (by decide) rfl rfl fl_Mo_7 d_Mo_statement_117 rfl, ?_⟩
  refine ⟨so_const3 d_Mo_statement_120 (by decide) rfl, ?_⟩
  refine ⟨so_aloadn d_Mo_statement_123 rfl rfl, ?_⟩
  refine ⟨so_getr (ci := 8) (k := 2) rfl (by decide) rfl rfl fl_Mo_16 d_Mo_statement_124 rfl, ?_⟩
  refine ⟨so_const2 d_Mo_statement_127 (by decide) rfl, ?_⟩
  refine ⟨so_iald d_Mo_statement_129 rfl, ?_⟩
  refine ⟨so_iadd d_Mo_statement_130 rfl, ?_⟩
  refine ⟨so_iloadn d_Mo_statement_131 rfl rfl, ?_⟩
  refine ⟨so_iast d_Mo_statement_132 rfl, ?_⟩
  refine ⟨so_aloadn d_Mo_statement_133 rfl rfl, ?_⟩
  refine ⟨so_getr (ci := 8) (k := 1) rfl (by decide) rfl rfl fl_Mo_13 d_Mo_statement_134 rfl, ?_⟩
  refine ⟨so_const3 d_Mo_statement_137 (by decide) rfl, ?_⟩
  refine ⟨so_aloadn d_Mo_statement_140 rfl rfl, ?_⟩
  refine ⟨so_getr (ci := 8) (k := 2) rfl (by decide) rfl rfl fl_Mo_16 d_Mo_statement_141 rfl, ?_⟩
  refine ⟨so_const2 d_Mo_statement_144 (by decide) rfl, ?_⟩
  refine ⟨so_iald d_Mo_statement_146 rfl, ?_⟩
  refine ⟨so_iadd d_Mo_statement_147 rfl, ?_⟩
  refine ⟨so_iloadn d_Mo_statement_148 rfl rfl, ?_⟩
  refine ⟨so_iast d_Mo_statement_149 rfl, ?_⟩
  refine ⟨so_aloadn d_Mo_statement_150 rfl rfl, ?_⟩
  refine ⟨so_getr (ci := 8) (k := 2) rfl (by decide) rfl rfl fl_Mo_16 d_Mo_statement_151 rfl, ?_⟩
  refine ⟨so_const2 d_Mo_statement_154 (by decide) rfl, ?_⟩
  refine ⟨so_dup2 d_Mo_statement_156 rfl, ?_⟩
  refine ⟨so_iald d_Mo_statement_157 rfl, ?_⟩
  refine ⟨so_const1 d_Mo_statement_158 (by decide) rfl, ?_⟩
  refine ⟨so_iadd d_Mo_statement_159 rfl, ?_⟩
  refine ⟨so_iast d_Mo_statement_160 rfl, ?_⟩
  refine ⟨so_aloadn d_Mo_statement_161 rfl rfl, ?_⟩
  refine ⟨so_getr (ci := 8) (k := 2) rfl (by decide) rfl rfl fl_Mo_16 d_Mo_statement_162 rfl, ?_⟩
  refine ⟨so_const2 d_Mo_statement_165 (by decide) rfl, ?_⟩
  refine ⟨so_iald d_Mo_statement_167 rfl, ?_⟩
  refine ⟨so_iret d_Mo_statement_168 rfl, ?_⟩
  exact trivial
theorem d_Mo_isIn_0 : decode prog_10_method_2_code 0 = .ok (.iload_n 0, 1) := by decide +kernel
theorem d_Mo_isIn_1 : decode prog_10_method_2_code 1 = .ok (.ifCond .lt 12, 3) := by decide +kernel
theorem d_Mo_isIn_4 : decode prog_10_method_2_code 4 = .ok (.iload_n 0, 1) := by decide +kernel
theorem d_Mo_isIn_5 : decode prog_10_method_2_code 5 = .ok (.iload_n 1, 1) := by decide +kernel
theorem d_Mo_isIn_6 : decode prog_10_method_2_code 6 = .ok (.if_icmp .ge 7, 3) := by decide +kernel
theorem d_Mo_isIn_9 : decode prog_10_method_2_code 9 = .ok (.iconst 1, 1) := by decide +kernel
theorem d_Mo_isIn_10 : decode prog_10_method_2_code 10 = .ok (.goto 4, 3) := by decide +kernel
theorem d_Mo_isIn_13 : decode prog_10_method_2_code 13 = .ok (.iconst 0, 1) := by decide +kernel
theorem d_Mo_isIn_14 : decode prog_10_method_2_code 14 = .ok (.ireturn, 1) := by decide +kernel
def tb_Mo_isIn : List pm_I := [
  pm_iload 1 0,
  pm_if 7 2 (fun a => decide (a < 0)),
  pm_iload 3 0,
  pm_iload 4 1,
  pm_icmp 7 5 (fun a b => decide (b ≤ a)),
  pm_const 6 1,
  pm_goto 8,
  pm_const 8 0,
  pm_zret]
def bp_Mo_isIn : List Nat := [0, 1, 4, 5, 6, 9, 10, 13, 14]
set_option maxRecDepth 100000 in
theorem sd_Mo_isIn : pm_Sl prog_10_method_2_code 2 R_Mo "isIn" (some .boolean) pm_Y (pm_b bp_Mo_isIn) 0 tb_Mo_isIn := by
  refine ⟨so_iloadn d_Mo_isIn_0 rfl rfl, ?_⟩
  refine ⟨so_if_lt d_Mo_isIn_1 rfl rfl, ?_⟩
  refine ⟨so_iloadn d_Mo_isIn_4 rfl rfl, ?_⟩
  refine ⟨so_iloadn d_Mo_isIn_5 rfl rfl, ?_⟩
  refine ⟨so_icmp_ge d_Mo_isIn_6 rfl rfl, ?_⟩
  refine ⟨so_const1 d_Mo_isIn_9 (by decide) rfl, ?_⟩
  refine ⟨so_goto d_Mo_isIn_10 rfl, ?_⟩
  refine ⟨so_const1 d_Mo_isIn_13 (by decide) rfl, ?_⟩
  refine ⟨so_zret d_Mo_isIn_14 rfl, ?_⟩
  exact trivial
theorem d_Mo_body_0 : decode prog_10_method_10_code 0 = .ok (.aload_n 0, 1) := by decide +kernel
theorem d_Mo_body_1 : decode prog_10_method_10_code 1 = .ok (.getfield 87, 3) := by decide +kernel
theorem d_Mo_body_4 : decode prog_10_method_10_code 4 = .ok (.bipush 8, 2) := by decide +kernel
theorem d_Mo_body_6 : decode prog_10_method_10_code 6 = .ok (.if_icmp .ge 14, 3) := by decide +kernel
theorem d_Mo_body_9 : decode prog_10_method_10_code 9 = .ok (.aload_n 0, 1) := by decide +kernel
theorem d_Mo_body_10 : decode prog_10_method_10_code 10 = .ok (.invokevirtual 91, 3) := by decide +kernel
theorem d_Mo_body_13 : decode prog_10_method_10_code 13 = .ok (.ifCond .eq 7, 3) := by decide +kernel
theorem d_Mo_body_16 : decode prog_10_method_10_code 16 = .ok (.iconst 1, 1) := by decide +kernel
theorem d_Mo_body_17 : decode prog_10_method_10_code 17 = .ok (.goto 4, 3) := by decide +kernel
theorem d_Mo_body_20 : decode prog_10_method_10_code 20 = .ok (.iconst 0, 1) := by decide +kernel
theorem d_Mo_body_21 : decode prog_10_method_10_code 21 = .ok (.istore_n 2, 1) := by decide +kernel
theorem d_Mo_body_22 : decode prog_10_method_10_code 22 = .ok (.iconst 0, 1) := by decide +kernel
theorem d_Mo_body_23 : decode prog_10_method_10_code 23 = .ok (.istore_n 3, 1) := by decide +kernel
theorem d_Mo_body_24 : decode prog_10_method_10_code 24 = .ok (.iload_n 3, 1) := by decide +kernel
theorem d_Mo_body_25 : decode prog_10_method_10_code 25 = .ok (.aload_n 0, 1) := by decide +kernel
theorem d_Mo_body_26 : decode prog_10_method_10_code 26 = .ok (.getfield 16, 3) := by decide +kernel
theorem d_Mo_body_29 : decode prog_10_method_10_code 29 = .ok (.bipush 8, 2) := by decide +kernel
theorem d_Mo_body_31 : decode prog_10_method_10_code 31 = .ok (.iaload, 1) := by decide +kernel
theorem d_Mo_body_32 : decode prog_10_method_10_code 32 = .ok (.if_icmp .ge 55, 3) := by decide +kernel
theorem d_Mo_body_35 : decode prog_10_method_10_code 35 = .ok (.iload_n 2, 1) := by decide +kernel
theorem d_Mo_body_36 : decode prog_10_method_10_code 36 = .ok (.ifCond .eq 51, 3) := by decide +kernel
theorem d_Mo_body_39 : decode prog_10_method_10_code 39 = .ok (.aload_n 0, 1) := by decide +kernel
theorem d_Mo_body_40 : decode prog_10_method_10_code 40 = .ok (.getfield 7, 3) := by decide +kernel
theorem d_Mo_body_43 : decode prog_10_method_10_code 43 = .ok (.bipush 64, 2) := by decide +kernel
theorem d_Mo_body_45 : decode prog_10_method_10_code 45 = .ok (.aload_n 0, 1) := by decide +kernel
theorem d_Mo_body_46 : decode prog_10_method_10_code 46 = .ok (.getfield 87, 3) := by decide +kernel
theorem d_Mo_body_49 : decode prog_10_method_10_code 49 = .ok (.imul, 1) := by decide +kernel
theorem d_Mo_body_50 : decode prog_10_method_10_code 50 = .ok (.iload_n 3, 1) := by decide +kernel
theorem d_Mo_body_51 : decode prog_10_method_10_code 51 = .ok (.iadd, 1) := by decide +kernel
theorem d_Mo_body_52 : decode prog_10_method_10_code 52 = .ok (.aload_n 0, 1) := by decide +kernel
theorem d_Mo_body_53 : decode prog_10_method_10_code 53 = .ok (.bipush 8, 2) := by decide +kernel
theorem d_Mo_body_55 : decode prog_10_method_10_code 55 = .ok (.iload_n 3, 1) := by decide +kernel
theorem d_Mo_body_56 : decode prog_10_method_10_code 56 = .ok (.invokevirtual 72, 3) := by decide +kernel
theorem d_Mo_body_59 : decode prog_10_method_10_code 59 = .ok (.iastore, 1) := by decide +kernel
theorem d_Mo_body_60 : decode prog_10_method_10_code 60 = .ok (.aload_n 0, 1) := by decide +kernel
theorem d_Mo_body_61 : decode prog_10_method_10_code 61 = .ok (.getfield 13, 3) := by decide +kernel
theorem d_Mo_body_64 : decode prog_10_method_10_code 64 = .ok (.bipush 64, 2) := by decide +kernel
theorem d_Mo_body_66 : decode prog_10_method_10_code 66 = .ok (.aload_n 0, 1) := by decide +kernel
theorem d_Mo_body_67 : decode prog_10_method_10_code 67 = .ok (.getfield 87, 3) := by decide +kernel
theorem d_Mo_body_70 : decode prog_10_method_10_code 70 = .ok (.imul, 1) := by decide +kernel
theorem d_Mo_body_71 : decode prog_10_method_10_code 71 = .ok (.iload_n 3, 1) := by decide +kernel
theorem d_Mo_body_72 : decode prog_10_method_10_code 72 = .ok (.iadd, 1) := by decide +kernel
theorem d_Mo_body_73 : decode prog_10_method_10_code 73 = .ok (.aload_n 0, 1) := by decide +kernel
theorem d_Mo_body_74 : decode prog_10_method_10_code 74 = .ok (.bipush 8, 2) := by decide +kernel
theorem d_Mo_body_76 : decode prog_10_method_10_code 76 = .ok (.iload_n 3, 1) := by decide +kernel
theorem d_Mo_body_77 : decode prog_10_method_10_code 77 = .ok (.invokevirtual 95, 3) := by decide +kernel
theorem d_Mo_body_80 : decode prog_10_method_10_code 80 = .ok (.iastore, 1) := by decide +kernel
theorem d_Mo_body_81 : decode prog_10_method_10_code 81 = .ok (.iinc 3 1, 3) := by decide +kernel
theorem d_Mo_body_84 : decode prog_10_method_10_code 84 = .ok (.goto (-60), 3) := by decide +kernel
theorem d_Mo_body_87 : decode prog_10_method_10_code 87 = .ok (.iload_n 2, 1) := by decide +kernel
theorem d_Mo_body_88 : decode prog_10_method_10_code 88 = .ok (.ifCond .eq 42, 3) := by decide +kernel
theorem d_Mo_body_91 : decode prog_10_method_10_code 91 = .ok (.aload_n 0, 1) := by decide +kernel
theorem d_Mo_body_92 : decode prog_10_method_10_code 92 = .ok (.getfield 16, 3) := by decide +kernel
theorem d_Mo_body_95 : decode prog_10_method_10_code 95 = .ok (.aload_n 0, 1) := by decide +kernel
theorem d_Mo_body_96 : decode prog_10_method_10_code 96 = .ok (.getfield 87, 3) := by decide +kernel
theorem d_Mo_body_99 : decode prog_10_method_10_code 99 = .ok (.aload_n 0, 1) := by decide +kernel
theorem d_Mo_body_100 : decode prog_10_method_10_code 100 = .ok (.getfield 16, 3) := by decide +kernel
theorem d_Mo_body_103 : decode prog_10_method_10_code 103 = .ok (.bipush 8, 2) := by decide +kernel
theorem d_Mo_body_105 : decode prog_10_method_10_code 105 = .ok (.iaload, 1) := by decide +kernel
theorem d_Mo_body_106 : decode prog_10_method_10_code 106 = .ok (.iastore, 1) := by decide +kernel
theorem d_Mo_body_107 : decode prog_10_method_10_code 107 = .ok (.aload_n 0, 1) := by decide +kernel
theorem d_Mo_body_108 : decode prog_10_method_10_code 108 = .ok (.getfield 19, 3) := by decide +kernel
theorem d_Mo_body_111 : decode prog_10_method_10_code 111 = .ok (.aload_n 0, 1) := by decide +kernel
theorem d_Mo_body_112 : decode prog_10_method_10_code 112 = .ok (.getfield 87, 3) := by decide +kernel
theorem d_Mo_body_115 : decode prog_10_method_10_code 115 = .ok (.iload_n 1, 1) := by decide +kernel
theorem d_Mo_body_116 : decode prog_10_method_10_code 116 = .ok (.bipush 15, 2) := by decide +kernel
theorem d_Mo_body_118 : decode prog_10_method_10_code 118 = .ok (.iand, 1) := by decide +kernel
theorem d_Mo_body_119 : decode prog_10_method_10_code 119 = .ok (.iastore, 1) := by decide +kernel
theorem d_Mo_body_120 : decode prog_10_method_10_code 120 = .ok (.aload_n 0, 1) := by decide +kernel
theorem d_Mo_body_121 : decode prog_10_method_10_code 121 = .ok (.dup, 1) := by decide +kernel
theorem d_Mo_body_122 : decode prog_10_method_10_code 122 = .ok (.getfield 87, 3) := by decide +kernel
theorem d_Mo_body_125 : decode prog_10_method_10_code 125 = .ok (.iconst 1, 1) := by decide +kernel
theorem d_Mo_body_126 : decode prog_10_method_10_code 126 = .ok (.iadd, 1) := by decide +kernel
theorem d_Mo_body_127 : decode prog_10_method_10_code 127 = .ok (.putfield 87, 3) := by decide +kernel
theorem d_Mo_body_130 : decode prog_10_method_10_code 130 = .ok (.aload_n 0, 1) := by decide +kernel
theorem d_Mo_body_131 : decode prog_10_method_10_code 131 = .ok (.getfield 16, 3) := by decide +kernel
theorem d_Mo_body_134 : decode prog_10_method_10_code 134 = .ok (.bipush 8, 2) := by decide +kernel
theorem d_Mo_body_136 : decode prog_10_method_10_code 136 = .ok (.iconst 0, 1) := by decide +kernel
theorem d_Mo_body_137 : decode prog_10_method_10_code 137 = .ok (.iastore, 1) := by decide +kernel
theorem d_Mo_body_138 : decode prog_10_method_10_code 138 = .ok (.iload_n 2, 1) := by decide +kernel
theorem d_Mo_body_139 : decode prog_10_method_10_code 139 = .ok (.ifCond .eq 12, 3) := by decide +kernel
theorem d_Mo_body_142 : decode prog_10_method_10_code 142 = .ok (.aload_n 0, 1) := by decide +kernel
theorem d_Mo_body_143 : decode prog_10_method_10_code 143 = .ok (.getfield 87, 3) := by decide +kernel
theorem d_Mo_body_146 : decode prog_10_method_10_code 146 = .ok (.iconst 1, 1) := by decide +kernel
theorem d_Mo_body_147 : decode prog_10_method_10_code 147 = .ok (.isub, 1) := by decide +kernel
theorem d_Mo_body_148 : decode prog_10_method_10_code 148 = .ok (.goto 4, 3) := by decide +kernel
theorem d_Mo_body_151 : decode prog_10_method_10_code 151 = .ok (.iconst (-1), 1) := by decide +kernel
theorem d_Mo_body_152 : decode prog_10_method_10_code 152 = .ok (.ireturn, 1) := by decide +kernel
def tb_Mo_body : List pm_I := [
  pm_aload 1 0,
  pm_geti 2 8 4,
  pm_const 3 8,
  pm_icmp 9 4 (fun a b => decide (b ≤ a)),
  pm_aload 5 0,
  pm_callv 6 73 1 8,
  pm_if 9 7 (fun a => decide (a = 0)),
  pm_const 8 1,
  pm_goto 10,
  pm_const 10 0,
  pm_istore 11 2,
  pm_const 12 0,
  pm_istore 13 3,
  pm_iload 14 3,
  pm_aload 15 0,
  pm_getr 16 8 2,
  pm_const 17 8,
  pm_iald 18 0,
  pm_icmp 49 19 (fun a b => decide (b ≤ a)),
  pm_iload 20 2,
  pm_if 49 21 (fun a => decide (a = 0)),
  pm_aload 22 0,
  pm_getr 23 8 0,
  pm_const 24 64,
  pm_aload 25 0,
  pm_geti 26 8 4,
  pm_bin 27 (fun a b => a * b),
  pm_iload 28 3,
  pm_bin 29 (fun a b => a + b),
  pm_aload 30 0,
  pm_const 31 8,
  pm_iload 32 3,
  pm_callv 33 74 3 8,
  pm_iast 34,
  pm_aload 35 0,
  pm_getr 36 8 1,
  pm_const 37 64,
  pm_aload 38 0,
  pm_geti 39 8 4,
  pm_bin 40 (fun a b => a * b),
  pm_iload 41 3,
  pm_bin 42 (fun a b => a + b),
  pm_aload 43 0,
  pm_const 44 8,
  pm_iload 45 3,
  pm_callv 46 78 3 8,
  pm_iast 47,
  pm_iinc 48 3 1,
  pm_goto 13,
  pm_iload 50 2,
  pm_if 74 51 (fun a => decide (a = 0)),
  pm_aload 52 0,
  pm_getr 53 8 2,
  pm_aload 54 0,
  pm_geti 55 8 4,
  pm_aload 56 0,
  pm_getr 57 8 2,
  pm_const 58 8,
  pm_iald 59 0,
  pm_iast 60,
  pm_aload 61 0,
  pm_getr 62 8 3,
  pm_aload 63 0,
  pm_geti 64 8 4,
  pm_iload 65 1,
  pm_const 66 15,
  pm_bin 67 (fun a b => a &&& b),
  pm_iast 68,
  pm_aload 69 0,
  pm_dup 70,
  pm_geti 71 8 4,
  pm_const 72 1,
  pm_bin 73 (fun a b => a + b),
  pm_puti 74 8 4,
  pm_aload 75 0,
  pm_getr 76 8 2,
  pm_const 77 8,
  pm_const 78 0,
  pm_iast 79,
  pm_iload 80 2,
  pm_if 86 81 (fun a => decide (a = 0)),
  pm_aload 82 0,
  pm_geti 83 8 4,
  pm_const 84 1,
  pm_bin 85 (fun a b => a - b),
  pm_goto 87,
  pm_const 87 (-1),
  pm_iret]
def bp_Mo_body : List Nat := [0, 1, 4, 6, 9, 10, 13, 16, 17, 20, 21, 22, 23, 24, 25, 26, 29, 31, 32, 35, 36, 39, 40, 43, 45, 46, 49, 50, 51, 52, 53, 55, 56, 59, 60, 61, 64, 66, 67, 70, 71, 72, 73, 74, 76, 77, 80, 81, 84, 87, 88, 91, 92, 95, 96, 99, 100, 103, 105, 106, 107, 108, 111, 112, 115, 116, 118, 119, 120, 121, 122, 125, 126, 127, 130, 131, 134, 136, 137, 138, 139, 142, 143, 146, 147, 148, 151, 152]
set_option maxRecDepth 100000 in
theorem sd_Mo_body : pm_Sl prog_10_method_10_code 4 R_Mo "body" (some .int) pm_Y (pm_b bp_Mo_body) 0 tb_Mo_body := by
  refine ⟨so_aloadn d_Mo_body_0 rfl rfl, ?_⟩
  refine ⟨so_geti (ci := 8) (k := 4) rfl (by decide) rfl rfl fl_Mo_87 d_Mo_body_1 rfl, ?_⟩
  refine ⟨so_const2 d_Mo_body_4 (by decide) rfl, ?_⟩
  refine ⟨so_icmp_ge d_Mo_body_6 rfl rfl, ?_⟩
  refine ⟨so_aloadn d_Mo_body_9 rfl rfl, ?_⟩
  refine ⟨so_callv (ci := 8) rfl rfl mc_Mo_isWhole mi_Mo mj_Mo_isWhole ms_Mo_isWhole ml_Mo_91 yd_Mo_isWhole (by decide) d_Mo_body_10 rfl, ?_⟩
  refine ⟨so_if_eq d_Mo_body_13 rfl rfl, ?_⟩
  refine ⟨so_const1 d_Mo_body_16 (by decide) rfl, ?_⟩
  refine ⟨so_goto d_Mo_body_17 rfl, ?_⟩
  refine ⟨so_const1 d_Mo_body_20 (by decide) rfl, ?_⟩
  refine ⟨so_istoren d_Mo_body_21 rfl (by decide) rfl, ?_⟩
  refine ⟨so_const1 d_Mo_body_22 (by decide) rfl, ?_⟩
  refine ⟨so_istoren d_Mo_body_23 rfl (by decide) rfl, ?_⟩
  refine ⟨so_iloadn d_Mo_body_24 rfl rfl, ?_⟩
  refine ⟨so_aloadn d_Mo_body_25 rfl rfl, ?_⟩
  refine ⟨so_getr (ci := 8) (k := 2) rfl (by decide) rfl rfl fl_Mo_16 d_Mo_body_26 rfl, ?_⟩
  refine ⟨so_const2 d_Mo_body_29 (by decide) rfl, ?_⟩
  refine ⟨so_iald d_Mo_body_31 rfl, ?_⟩
  refine ⟨so_icmp_ge d_Mo_body_32 rfl rfl, ?_⟩
  refine ⟨so_iloadn d_Mo_body_35 rfl rfl, ?_⟩
  refine ⟨so_if_eq d_Mo_body_36 rfl rfl, ?_⟩
  refine ⟨so_aloadn d_Mo_body_39 rfl rfl, ?_⟩
  refine ⟨so_getr (ci := 8) (k := 0) rfl (by decide) rfl rfl fl_Mo_7 d_Mo_body_40 rfl, ?_⟩
  refine ⟨so_const2 d_Mo_body_43 (by decide) rfl, ?_⟩
  refine ⟨so_aloadn d_Mo_body_45 rfl rfl, ?_⟩
  refine ⟨so_geti (ci := 8) (k := 4) rfl (by decide) rfl rfl fl_Mo_87 d_Mo_body_46 rfl, ?_⟩
  refine ⟨so_imul d_Mo_body_49 rfl, ?_⟩
  refine ⟨so_iloadn d_Mo_body_50 rfl rfl, ?_⟩
  refine ⟨so_iadd d_Mo_body_51 rfl, ?_⟩
  refine ⟨so_aloadn d_Mo_body_52 rfl rfl, ?_⟩
  refine ⟨so_const2 d_Mo_body_53 (by decide) rfl, ?_⟩
  refine ⟨so_iloadn d_Mo_body_55 rfl rfl, ?_⟩
  refine ⟨so_callv (ci := 8) rfl rfl mc_Mo_kindAt mi_Mo mj_Mo_kindAt ms_Mo_kindAt ml_Mo_72 yd_Mo_kindAt (by decide) d_Mo_body_56 rfl, ?_⟩
  refine ⟨so_iast d_Mo_body_59 rfl, ?_⟩
  refine ⟨so_aloadn d_Mo_body_60 rfl rfl, ?_⟩
  refine ⟨so_getr (ci := 8) (k := 1) rfl (by decide) rfl rfl fl_Mo_13 d_Mo_body_61 rfl, ?_⟩
  refine ⟨so_const2 d_Mo_body_64 (by decide) rfl, ?_⟩
  refine ⟨so_aloadn d_Mo_body_66 rfl rfl, ?_⟩
  refine ⟨so_geti (ci := 8) (k := 4) rfl (by decide) rfl rfl fl_Mo_87 d_Mo_body_67 rfl, ?_⟩
  refine ⟨so_imul d_Mo_body_70 rfl, ?_⟩
  refine ⟨so_iloadn d_Mo_body_71 rfl rfl, ?_⟩
  refine ⟨so_iadd d_Mo_body_72 rfl, ?_⟩
  refine ⟨so_aloadn d_Mo_body_73 rfl rfl, ?_⟩
  refine ⟨so_const2 d_Mo_body_74 (by decide) rfl, ?_⟩
  refine ⟨so_iloadn d_Mo_body_76 rfl rfl, ?_⟩
  refine ⟨so_callv (ci := 8) rfl rfl mc_Mo_numberAt mi_Mo mj_Mo_numberAt ms_Mo_numberAt ml_Mo_95 yd_Mo_numberAt (by decide) d_Mo_body_77 rfl, ?_⟩
  refine ⟨so_iast d_Mo_body_80 rfl, ?_⟩
  refine ⟨so_iinc d_Mo_body_81 (by decide) (by decide) rfl, ?_⟩
  refine ⟨so_goto d_Mo_body_84 rfl, ?_⟩
  refine ⟨so_iloadn d_Mo_body_87 rfl rfl, ?_⟩
  refine ⟨so_if_eq d_Mo_body_88 rfl rfl, ?_⟩
  refine ⟨so_aloadn d_Mo_body_91 rfl rfl, ?_⟩
  refine ⟨so_getr (ci := 8) (k := 2) rfl (by decide) rfl rfl fl_Mo_16 d_Mo_body_92 rfl, ?_⟩
  refine ⟨so_aloadn d_Mo_body_95 rfl rfl, ?_⟩
  refine ⟨so_geti (ci := 8) (k := 4) rfl (by decide) rfl rfl fl_Mo_87 d_Mo_body_96 rfl, ?_⟩
  refine ⟨so_aloadn d_Mo_body_99 rfl rfl, ?_⟩
  refine ⟨so_getr (ci := 8) (k := 2) rfl (by decide) rfl rfl fl_Mo_16 d_Mo_body_100 rfl, ?_⟩
  refine ⟨so_const2 d_Mo_body_103 (by decide) rfl, ?_⟩
  refine ⟨so_iald d_Mo_body_105 rfl, ?_⟩
  refine ⟨so_iast d_Mo_body_106 rfl, ?_⟩
  refine ⟨so_aloadn d_Mo_body_107 rfl rfl, ?_⟩
  refine ⟨so_getr (ci := 8) (k := 3) rfl (by decide) rfl rfl fl_Mo_19 d_Mo_body_108 rfl, ?_⟩
  refine ⟨so_aloadn d_Mo_body_111 rfl rfl, ?_⟩
  refine ⟨so_geti (ci := 8) (k := 4) rfl (by decide) rfl rfl fl_Mo_87 d_Mo_body_112 rfl, ?_⟩
  refine ⟨so_iloadn d_Mo_body_115 rfl rfl, ?_⟩
  refine ⟨so_const2 d_Mo_body_116 (by decide) rfl, ?_⟩
  refine ⟨so_iand d_Mo_body_118 rfl, ?_⟩
  refine ⟨so_iast d_Mo_body_119 rfl, ?_⟩
  refine ⟨so_aloadn d_Mo_body_120 rfl rfl, ?_⟩
  refine ⟨so_dup d_Mo_body_121 rfl, ?_⟩
  refine ⟨so_geti (ci := 8) (k := 4) rfl (by decide) rfl rfl fl_Mo_87 d_Mo_body_122 rfl, ?_⟩
  refine ⟨so_const1 d_Mo_body_125 (by decide) rfl, ?_⟩
  refine ⟨so_iadd d_Mo_body_126 rfl, ?_⟩
  refine ⟨so_puti (ci := 8) (k := 4) rfl (by decide) rfl rfl (Or.inl ⟨rfl, fl_Mo_87⟩) d_Mo_body_127 rfl, ?_⟩
  refine ⟨so_aloadn d_Mo_body_130 rfl rfl, ?_⟩
  refine ⟨so_getr (ci := 8) (k := 2) rfl (by decide) rfl rfl fl_Mo_16 d_Mo_body_131 rfl, ?_⟩
  refine ⟨so_const2 d_Mo_body_134 (by decide) rfl, ?_⟩
  refine ⟨so_const1 d_Mo_body_136 (by decide) rfl, ?_⟩
  refine ⟨so_iast d_Mo_body_137 rfl, ?_⟩
  refine ⟨so_iloadn d_Mo_body_138 rfl rfl, ?_⟩
  refine ⟨so_if_eq d_Mo_body_139 rfl rfl, ?_⟩
  refine ⟨so_aloadn d_Mo_body_142 rfl rfl, ?_⟩
  refine ⟨so_geti (ci := 8) (k := 4) rfl (by decide) rfl rfl fl_Mo_87 d_Mo_body_143 rfl, ?_⟩
  refine ⟨so_const1 d_Mo_body_146 (by decide) rfl, ?_⟩
  refine ⟨so_isub d_Mo_body_147 rfl, ?_⟩
  refine ⟨so_goto d_Mo_body_148 rfl, ?_⟩
  refine ⟨so_const1 d_Mo_body_151 (by decide) rfl, ?_⟩
  refine ⟨so_iret d_Mo_body_152 rfl, ?_⟩
  exact trivial
theorem d_Mo_isWhole_0 : decode prog_10_method_9_code 0 = .ok (.iconst 0, 1) := by decide +kernel
theorem d_Mo_isWhole_1 : decode prog_10_method_9_code 1 = .ok (.istore_n 1, 1) := by decide +kernel
theorem d_Mo_isWhole_2 : decode prog_10_method_9_code 2 = .ok (.iconst 0, 1) := by decide +kernel
theorem d_Mo_isWhole_3 : decode prog_10_method_9_code 3 = .ok (.istore_n 2, 1) := by decide +kernel
theorem d_Mo_isWhole_4 : decode prog_10_method_9_code 4 = .ok (.iload_n 2, 1) := by decide +kernel
theorem d_Mo_isWhole_5 : decode prog_10_method_9_code 5 = .ok (.aload_n 0, 1) := by decide +kernel
theorem d_Mo_isWhole_6 : decode prog_10_method_9_code 6 = .ok (.getfield 16, 3) := by decide +kernel
theorem d_Mo_isWhole_9 : decode prog_10_method_9_code 9 = .ok (.bipush 8, 2) := by decide +kernel
theorem d_Mo_isWhole_11 : decode prog_10_method_9_code 11 = .ok (.iaload, 1) := by decide +kernel
theorem d_Mo_isWhole_12 : decode prog_10_method_9_code 12 = .ok (.if_icmp .ge 100, 3) := by decide +kernel
theorem d_Mo_isWhole_15 : decode prog_10_method_9_code 15 = .ok (.aload_n 0, 1) := by decide +kernel
theorem d_Mo_isWhole_16 : decode prog_10_method_9_code 16 = .ok (.bipush 8, 2) := by decide +kernel
theorem d_Mo_isWhole_18 : decode prog_10_method_9_code 18 = .ok (.iload_n 2, 1) := by decide +kernel
theorem d_Mo_isWhole_19 : decode prog_10_method_9_code 19 = .ok (.invokevirtual 72, 3) := by decide +kernel
theorem d_Mo_isWhole_22 : decode prog_10_method_9_code 22 = .ok (.istore_n 3, 1) := by decide +kernel
theorem d_Mo_isWhole_23 : decode prog_10_method_9_code 23 = .ok (.aload_n 0, 1) := by decide +kernel
theorem d_Mo_isWhole_24 : decode prog_10_method_9_code 24 = .ok (.bipush 8, 2) := by decide +kernel
theorem d_Mo_isWhole_26 : decode prog_10_method_9_code 26 = .ok (.iload_n 2, 1) := by decide +kernel
theorem d_Mo_isWhole_27 : decode prog_10_method_9_code 27 = .ok (.invokevirtual 80, 3) := by decide +kernel
theorem d_Mo_isWhole_30 : decode prog_10_method_9_code 30 = .ok (.istore 4, 2) := by decide +kernel
theorem d_Mo_isWhole_32 : decode prog_10_method_9_code 32 = .ok (.iload_n 3, 1) := by decide +kernel
theorem d_Mo_isWhole_33 : decode prog_10_method_9_code 33 = .ok (.invokestatic 76, 3) := by decide +kernel
theorem d_Mo_isWhole_36 : decode prog_10_method_9_code 36 = .ok (.ifCond .eq 6, 3) := by decide +kernel
theorem d_Mo_isWhole_39 : decode prog_10_method_9_code 39 = .ok (.iinc 1 1, 3) := by decide +kernel
theorem d_Mo_isWhole_42 : decode prog_10_method_9_code 42 = .ok (.iload_n 3, 1) := by decide +kernel
theorem d_Mo_isWhole_43 : decode prog_10_method_9_code 43 = .ok (.iconst 5, 1) := by decide +kernel
theorem d_Mo_isWhole_44 : decode prog_10_method_9_code 44 = .ok (.if_icmp .ne 6, 3) := by decide +kernel
theorem d_Mo_isWhole_47 : decode prog_10_method_9_code 47 = .ok (.iinc 1 (-1), 3) := by decide +kernel
theorem d_Mo_isWhole_50 : decode prog_10_method_9_code 50 = .ok (.iload_n 3, 1) := by decide +kernel
theorem d_Mo_isWhole_51 : decode prog_10_method_9_code 51 = .ok (.iconst 5, 1) := by decide +kernel
theorem d_Mo_isWhole_52 : decode prog_10_method_9_code 52 = .ok (.if_icmp .ne 10, 3) := by decide +kernel
theorem d_Mo_isWhole_55 : decode prog_10_method_9_code 55 = .ok (.iload 4, 2) := by decide +kernel
theorem d_Mo_isWhole_57 : decode prog_10_method_9_code 57 = .ok (.ifCond .ge 5, 3) := by decide +kernel
theorem d_Mo_isWhole_60 : decode prog_10_method_9_code 60 = .ok (.iconst 0, 1) := by decide +kernel
theorem d_Mo_isWhole_61 : decode prog_10_method_9_code 61 = .ok (.ireturn, 1) := by decide +kernel
theorem d_Mo_isWhole_62 : decode prog_10_method_9_code 62 = .ok (.iload_n 3, 1) := by decide +kernel
theorem d_Mo_isWhole_63 : decode prog_10_method_9_code 63 = .ok (.bipush 7, 2) := by decide +kernel
theorem d_Mo_isWhole_65 : decode prog_10_method_9_code 65 = .ok (.if_icmp .eq 6, 3) := by decide +kernel
theorem d_Mo_isWhole_68 : decode prog_10_method_9_code 68 = .ok (.goto 38, 3) := by decide +kernel
theorem d_Mo_isWhole_71 : decode prog_10_method_9_code 71 = .ok (.iload 4, 2) := by decide +kernel
theorem d_Mo_isWhole_73 : decode prog_10_method_9_code 73 = .ok (.ifCond .lt 31, 3) := by decide +kernel
theorem d_Mo_isWhole_76 : decode prog_10_method_9_code 76 = .ok (.aload_n 0, 1) := by decide +kernel
theorem d_Mo_isWhole_77 : decode prog_10_method_9_code 77 = .ok (.bipush 8, 2) := by decide +kernel
theorem d_Mo_isWhole_79 : decode prog_10_method_9_code 79 = .ok (.iload 4, 2) := by decide +kernel
theorem d_Mo_isWhole_81 : decode prog_10_method_9_code 81 = .ok (.invokevirtual 72, 3) := by decide +kernel
theorem d_Mo_isWhole_84 : decode prog_10_method_9_code 84 = .ok (.bipush 6, 2) := by decide +kernel
theorem d_Mo_isWhole_86 : decode prog_10_method_9_code 86 = .ok (.if_icmp .ne 18, 3) := by decide +kernel
theorem d_Mo_isWhole_89 : decode prog_10_method_9_code 89 = .ok (.aload_n 0, 1) := by decide +kernel
theorem d_Mo_isWhole_90 : decode prog_10_method_9_code 90 = .ok (.bipush 8, 2) := by decide +kernel
theorem d_Mo_isWhole_92 : decode prog_10_method_9_code 92 = .ok (.iload 4, 2) := by decide +kernel
theorem d_Mo_isWhole_94 : decode prog_10_method_9_code 94 = .ok (.iconst 1, 1) := by decide +kernel
theorem d_Mo_isWhole_95 : decode prog_10_method_9_code 95 = .ok (.iadd, 1) := by decide +kernel
theorem d_Mo_isWhole_96 : decode prog_10_method_9_code 96 = .ok (.iconst 1, 1) := by decide +kernel
theorem d_Mo_isWhole_97 : decode prog_10_method_9_code 97 = .ok (.invokevirtual 83, 3) := by decide +kernel
theorem d_Mo_isWhole_100 : decode prog_10_method_9_code 100 = .ok (.iload_n 2, 1) := by decide +kernel
theorem d_Mo_isWhole_101 : decode prog_10_method_9_code 101 = .ok (.if_icmp .ge 5, 3) := by decide +kernel
theorem d_Mo_isWhole_104 : decode prog_10_method_9_code 104 = .ok (.iconst 0, 1) := by decide +kernel
theorem d_Mo_isWhole_105 : decode prog_10_method_9_code 105 = .ok (.ireturn, 1) := by decide +kernel
theorem d_Mo_isWhole_106 : decode prog_10_method_9_code 106 = .ok (.iinc 2 1, 3) := by decide +kernel
theorem d_Mo_isWhole_109 : decode prog_10_method_9_code 109 = .ok (.goto (-105), 3) := by decide +kernel
theorem d_Mo_isWhole_112 : decode prog_10_method_9_code 112 = .ok (.iload_n 1, 1) := by decide +kernel
theorem d_Mo_isWhole_113 : decode prog_10_method_9_code 113 = .ok (.ifCond .ne 7, 3) := by decide +kernel
theorem d_Mo_isWhole_116 : decode prog_10_method_9_code 116 = .ok (.iconst 1, 1) := by decide +kernel
theorem d_Mo_isWhole_117 : decode prog_10_method_9_code 117 = .ok (.goto 4, 3) := by decide +kernel
theorem d_Mo_isWhole_120 : decode prog_10_method_9_code 120 = .ok (.iconst 0, 1) := by decide +kernel
theorem d_Mo_isWhole_121 : decode prog_10_method_9_code 121 = .ok (.ireturn, 1) := by decide +kernel
def tb_Mo_isWhole : List pm_I := [
  pm_const 1 0,
  pm_istore 2 1,
  pm_const 3 0,
  pm_istore 4 2,
  pm_iload 5 2,
  pm_aload 6 0,
  pm_getr 7 8 2,
  pm_const 8 8,
  pm_iald 9 0,
  pm_icmp 60 10 (fun a b => decide (b ≤ a)),
  pm_aload 11 0,
  pm_const 12 8,
  pm_iload 13 2,
  pm_callv 14 74 3 8,
  pm_istore 15 3,
  pm_aload 16 0,
  pm_const 17 8,
  pm_iload 18 2,
  pm_callv 19 75 3 8,
  pm_istore 20 4,
  pm_iload 21 3,
  pm_calls 22 76 1,
  pm_if 24 23 (fun a => decide (a = 0)),
  pm_iinc 24 1 1,
  pm_iload 25 3,
  pm_const 26 5,
  pm_icmp 28 27 (fun a b => decide (a ≠ b)),
  pm_iinc 28 1 (-1),
  pm_iload 29 3,
  pm_const 30 5,
  pm_icmp 35 31 (fun a b => decide (a ≠ b)),
  pm_iload 32 4,
  pm_if 35 33 (fun a => decide (0 ≤ a)),
  pm_const 34 0,
  pm_zret,
  pm_iload 36 3,
  pm_const 37 7,
  pm_icmp 39 38 (fun a b => decide (a = b)),
  pm_goto 58,
  pm_iload 40 4,
  pm_if 56 41 (fun a => decide (a < 0)),
  pm_aload 42 0,
  pm_const 43 8,
  pm_iload 44 4,
  pm_callv 45 74 3 8,
  pm_const 46 6,
  pm_icmp 56 47 (fun a b => decide (a ≠ b)),
  pm_aload 48 0,
  pm_const 49 8,
  pm_iload 50 4,
  pm_const 51 1,
  pm_bin 52 (fun a b => a + b),
  pm_const 53 1,
  pm_callv 54 77 4 8,
  pm_iload 55 2,
  pm_icmp 58 56 (fun a b => decide (b ≤ a)),
  pm_const 57 0,
  pm_zret,
  pm_iinc 59 2 1,
  pm_goto 4,
  pm_iload 61 1,
  pm_if 64 62 (fun a => decide (a ≠ 0)),
  pm_const 63 1,
  pm_goto 65,
  pm_const 65 0,
  pm_zret]
def bp_Mo_isWhole : List Nat := [0, 1, 2, 3, 4, 5, 6, 9, 11, 12, 15, 16, 18, 19, 22, 23, 24, 26, 27, 30, 32, 33, 36, 39, 42, 43, 44, 47, 50, 51, 52, 55, 57, 60, 61, 62, 63, 65, 68, 71, 73, 76, 77, 79, 81, 84, 86, 89, 90, 92, 94, 95, 96, 97, 100, 101, 104, 105, 106, 109, 112, 113, 116, 117, 120, 121]
set_option maxRecDepth 100000 in
theorem sd_Mo_isWhole : pm_Sl prog_10_method_9_code 5 R_Mo "isWhole" (some .boolean) pm_Y (pm_b bp_Mo_isWhole) 0 tb_Mo_isWhole := by
  refine ⟨so_const1 d_Mo_isWhole_0 (by decide) rfl, ?_⟩
  refine ⟨so_istoren d_Mo_isWhole_1 rfl (by decide) rfl, ?_⟩
  refine ⟨so_const1 d_Mo_isWhole_2 (by decide) rfl, ?_⟩
  refine ⟨so_istoren d_Mo_isWhole_3 rfl (by decide) rfl, ?_⟩
  refine ⟨so_iloadn d_Mo_isWhole_4 rfl rfl, ?_⟩
  refine ⟨so_aloadn d_Mo_isWhole_5 rfl rfl, ?_⟩
  refine ⟨so_getr (ci := 8) (k := 2) rfl (by decide) rfl rfl fl_Mo_16 d_Mo_isWhole_6 rfl, ?_⟩
  refine ⟨so_const2 d_Mo_isWhole_9 (by decide) rfl, ?_⟩
  refine ⟨so_iald d_Mo_isWhole_11 rfl, ?_⟩
  refine ⟨so_icmp_ge d_Mo_isWhole_12 rfl rfl, ?_⟩
  refine ⟨so_aloadn d_Mo_isWhole_15 rfl rfl, ?_⟩
  refine ⟨so_const2 d_Mo_isWhole_16 (by decide) rfl, ?_⟩
  refine ⟨so_iloadn d_Mo_isWhole_18 rfl rfl, ?_⟩
  refine ⟨so_callv (ci := 8) rfl rfl mc_Mo_kindAt mi_Mo mj_Mo_kindAt ms_Mo_kindAt ml_Mo_72 yd_Mo_kindAt (by decide) d_Mo_isWhole_19 rfl, ?_⟩
  refine ⟨so_istoren d_Mo_isWhole_22 rfl (by decide) rfl, ?_⟩
  refine ⟨so_aloadn d_Mo_isWhole_23 rfl rfl, ?_⟩
  refine ⟨so_const2 d_Mo_isWhole_24 (by decide) rfl, ?_⟩
  refine ⟨so_iloadn d_Mo_isWhole_26 rfl rfl, ?_⟩
  refine ⟨so_callv (ci := 8) rfl rfl mc_Mo_openerOf mi_Mo mj_Mo_openerOf ms_Mo_openerOf ml_Mo_80 yd_Mo_openerOf (by decide) d_Mo_isWhole_27 rfl, ?_⟩
  refine ⟨so_istore d_Mo_isWhole_30 (by decide) rfl, ?_⟩
  refine ⟨so_iloadn d_Mo_isWhole_32 rfl rfl, ?_⟩
  refine ⟨so_calls rfl mc_Mo_opens mi_Mo mt_Mo_opens ml_Mo_76 yd_Mo_opens (by decide) d_Mo_isWhole_33 rfl, ?_⟩
  refine ⟨so_if_eq d_Mo_isWhole_36 rfl rfl, ?_⟩
  refine ⟨so_iinc d_Mo_isWhole_39 (by decide) (by decide) rfl, ?_⟩
  refine ⟨so_iloadn d_Mo_isWhole_42 rfl rfl, ?_⟩
  refine ⟨so_const1 d_Mo_isWhole_43 (by decide) rfl, ?_⟩
  refine ⟨so_icmp_ne d_Mo_isWhole_44 rfl rfl, ?_⟩
  refine ⟨so_iinc d_Mo_isWhole_47 (by decide) (by decide) rfl, ?_⟩
  refine ⟨so_iloadn d_Mo_isWhole_50 rfl rfl, ?_⟩
  refine ⟨so_const1 d_Mo_isWhole_51 (by decide) rfl, ?_⟩
  refine ⟨so_icmp_ne d_Mo_isWhole_52 rfl rfl, ?_⟩
  refine ⟨so_iload d_Mo_isWhole_55 rfl, ?_⟩
  refine ⟨so_if_ge d_Mo_isWhole_57 rfl rfl, ?_⟩
  refine ⟨so_const1 d_Mo_isWhole_60 (by decide) rfl, ?_⟩
  refine ⟨so_zret d_Mo_isWhole_61 rfl, ?_⟩
  refine ⟨so_iloadn d_Mo_isWhole_62 rfl rfl, ?_⟩
  refine ⟨so_const2 d_Mo_isWhole_63 (by decide) rfl, ?_⟩
  refine ⟨so_icmp_eq d_Mo_isWhole_65 rfl rfl, ?_⟩
  refine ⟨so_goto d_Mo_isWhole_68 rfl, ?_⟩
  refine ⟨so_iload d_Mo_isWhole_71 rfl, ?_⟩
  refine ⟨so_if_lt d_Mo_isWhole_73 rfl rfl, ?_⟩
  refine ⟨so_aloadn d_Mo_isWhole_76 rfl rfl, ?_⟩
  refine ⟨so_const2 d_Mo_isWhole_77 (by decide) rfl, ?_⟩
  refine ⟨so_iload d_Mo_isWhole_79 rfl, ?_⟩
  refine ⟨so_callv (ci := 8) rfl rfl mc_Mo_kindAt mi_Mo mj_Mo_kindAt ms_Mo_kindAt ml_Mo_72 yd_Mo_kindAt (by decide) d_Mo_isWhole_81 rfl, ?_⟩
  refine ⟨so_const2 d_Mo_isWhole_84 (by decide) rfl, ?_⟩
  refine ⟨so_icmp_ne d_Mo_isWhole_86 rfl rfl, ?_⟩
  refine ⟨so_aloadn d_Mo_isWhole_89 rfl rfl, ?_⟩
  refine ⟨so_const2 d_Mo_isWhole_90 (by decide) rfl, ?_⟩
  refine ⟨so_iload d_Mo_isWhole_92 rfl, ?_⟩
  refine ⟨so_const1 d_Mo_isWhole_94 (by decide) rfl, ?_⟩
  refine ⟨so_iadd d_Mo_isWhole_95 rfl, ?_⟩
  refine ⟨so_const1 d_Mo_isWhole_96 (by decide) rfl, ?_⟩
  refine ⟨so_callv (ci := 8) rfl rfl mc_Mo_closerOf mi_Mo mj_Mo_closerOf ms_Mo_closerOf ml_Mo_83 yd_Mo_closerOf (by decide) d_Mo_isWhole_97 rfl, ?_⟩
  refine ⟨so_iloadn d_Mo_isWhole_100 rfl rfl, ?_⟩
  refine ⟨so_icmp_ge d_Mo_isWhole_101 rfl rfl, ?_⟩
  refine ⟨so_const1 d_Mo_isWhole_104 (by decide) rfl, ?_⟩
  refine ⟨so_zret d_Mo_isWhole_105 rfl, ?_⟩
  refine ⟨so_iinc d_Mo_isWhole_106 (by decide) (by decide) rfl, ?_⟩
  refine ⟨so_goto d_Mo_isWhole_109 rfl, ?_⟩
  refine ⟨so_iloadn d_Mo_isWhole_112 rfl rfl, ?_⟩
  refine ⟨so_if_ne d_Mo_isWhole_113 rfl rfl, ?_⟩
  refine ⟨so_const1 d_Mo_isWhole_116 (by decide) rfl, ?_⟩
  refine ⟨so_goto d_Mo_isWhole_117 rfl, ?_⟩
  refine ⟨so_const1 d_Mo_isWhole_120 (by decide) rfl, ?_⟩
  refine ⟨so_zret d_Mo_isWhole_121 rfl, ?_⟩
  exact trivial
theorem d_Mo_kindAt_0 : decode prog_10_method_4_code 0 = .ok (.aload_n 0, 1) := by decide +kernel
theorem d_Mo_kindAt_1 : decode prog_10_method_4_code 1 = .ok (.getfield 7, 3) := by decide +kernel
theorem d_Mo_kindAt_4 : decode prog_10_method_4_code 4 = .ok (.bipush 64, 2) := by decide +kernel
theorem d_Mo_kindAt_6 : decode prog_10_method_4_code 6 = .ok (.iload_n 1, 1) := by decide +kernel
theorem d_Mo_kindAt_7 : decode prog_10_method_4_code 7 = .ok (.imul, 1) := by decide +kernel
theorem d_Mo_kindAt_8 : decode prog_10_method_4_code 8 = .ok (.iload_n 2, 1) := by decide +kernel
theorem d_Mo_kindAt_9 : decode prog_10_method_4_code 9 = .ok (.iadd, 1) := by decide +kernel
theorem d_Mo_kindAt_10 : decode prog_10_method_4_code 10 = .ok (.iaload, 1) := by decide +kernel
theorem d_Mo_kindAt_11 : decode prog_10_method_4_code 11 = .ok (.ireturn, 1) := by decide +kernel
def tb_Mo_kindAt : List pm_I := [
  pm_aload 1 0,
  pm_getr 2 8 0,
  pm_const 3 64,
  pm_iload 4 1,
  pm_bin 5 (fun a b => a * b),
  pm_iload 6 2,
  pm_bin 7 (fun a b => a + b),
  pm_iald 8 0,
  pm_iret]
def bp_Mo_kindAt : List Nat := [0, 1, 4, 6, 7, 8, 9, 10, 11]
set_option maxRecDepth 100000 in
theorem sd_Mo_kindAt : pm_Sl prog_10_method_4_code 3 R_Mo "kindAt" (some .int) pm_Y (pm_b bp_Mo_kindAt) 0 tb_Mo_kindAt := by
  refine ⟨so_aloadn d_Mo_kindAt_0 rfl rfl, ?_⟩
  refine ⟨so_getr (ci := 8) (k := 0) rfl (by decide) rfl rfl fl_Mo_7 d_Mo_kindAt_1 rfl, ?_⟩
  refine ⟨so_const2 d_Mo_kindAt_4 (by decide) rfl, ?_⟩
  refine ⟨so_iloadn d_Mo_kindAt_6 rfl rfl, ?_⟩
  refine ⟨so_imul d_Mo_kindAt_7 rfl, ?_⟩
  refine ⟨so_iloadn d_Mo_kindAt_8 rfl rfl, ?_⟩
  refine ⟨so_iadd d_Mo_kindAt_9 rfl, ?_⟩
  refine ⟨so_iald d_Mo_kindAt_10 rfl, ?_⟩
  refine ⟨so_iret d_Mo_kindAt_11 rfl, ?_⟩
  exact trivial
theorem d_Mo_openerOf_0 : decode prog_10_method_7_code 0 = .ok (.iconst 0, 1) := by decide +kernel
theorem d_Mo_openerOf_1 : decode prog_10_method_7_code 1 = .ok (.istore_n 3, 1) := by decide +kernel
theorem d_Mo_openerOf_2 : decode prog_10_method_7_code 2 = .ok (.iload_n 2, 1) := by decide +kernel
theorem d_Mo_openerOf_3 : decode prog_10_method_7_code 3 = .ok (.iconst 1, 1) := by decide +kernel
theorem d_Mo_openerOf_4 : decode prog_10_method_7_code 4 = .ok (.isub, 1) := by decide +kernel
theorem d_Mo_openerOf_5 : decode prog_10_method_7_code 5 = .ok (.istore 4, 2) := by decide +kernel
theorem d_Mo_openerOf_7 : decode prog_10_method_7_code 7 = .ok (.iload 4, 2) := by decide +kernel
theorem d_Mo_openerOf_9 : decode prog_10_method_7_code 9 = .ok (.ifCond .lt 62, 3) := by decide +kernel
theorem d_Mo_openerOf_12 : decode prog_10_method_7_code 12 = .ok (.aload_n 0, 1) := by decide +kernel
theorem d_Mo_openerOf_13 : decode prog_10_method_7_code 13 = .ok (.iload_n 1, 1) := by decide +kernel
theorem d_Mo_openerOf_14 : decode prog_10_method_7_code 14 = .ok (.iload 4, 2) := by decide +kernel
theorem d_Mo_openerOf_16 : decode prog_10_method_7_code 16 = .ok (.invokevirtual 72, 3) := by decide +kernel
theorem d_Mo_openerOf_19 : decode prog_10_method_7_code 19 = .ok (.iconst 5, 1) := by decide +kernel
theorem d_Mo_openerOf_20 : decode prog_10_method_7_code 20 = .ok (.if_icmp .ne 9, 3) := by decide +kernel
theorem d_Mo_openerOf_23 : decode prog_10_method_7_code 23 = .ok (.iinc 3 1, 3) := by decide +kernel
theorem d_Mo_openerOf_26 : decode prog_10_method_7_code 26 = .ok (.goto 39, 3) := by decide +kernel
theorem d_Mo_openerOf_29 : decode prog_10_method_7_code 29 = .ok (.aload_n 0, 1) := by decide +kernel
theorem d_Mo_openerOf_30 : decode prog_10_method_7_code 30 = .ok (.iload_n 1, 1) := by decide +kernel
theorem d_Mo_openerOf_31 : decode prog_10_method_7_code 31 = .ok (.iload 4, 2) := by decide +kernel
theorem d_Mo_openerOf_33 : decode prog_10_method_7_code 33 = .ok (.invokevirtual 72, 3) := by decide +kernel
theorem d_Mo_openerOf_36 : decode prog_10_method_7_code 36 = .ok (.invokestatic 76, 3) := by decide +kernel
theorem d_Mo_openerOf_39 : decode prog_10_method_7_code 39 = .ok (.ifCond .eq 10, 3) := by decide +kernel
theorem d_Mo_openerOf_42 : decode prog_10_method_7_code 42 = .ok (.iload_n 3, 1) := by decide +kernel
theorem d_Mo_openerOf_43 : decode prog_10_method_7_code 43 = .ok (.ifCond .ne 6, 3) := by decide +kernel
theorem d_Mo_openerOf_46 : decode prog_10_method_7_code 46 = .ok (.iload 4, 2) := by decide +kernel
theorem d_Mo_openerOf_48 : decode prog_10_method_7_code 48 = .ok (.ireturn, 1) := by decide +kernel
theorem d_Mo_openerOf_49 : decode prog_10_method_7_code 49 = .ok (.aload_n 0, 1) := by decide +kernel
theorem d_Mo_openerOf_50 : decode prog_10_method_7_code 50 = .ok (.iload_n 1, 1) := by decide +kernel
theorem d_Mo_openerOf_51 : decode prog_10_method_7_code 51 = .ok (.iload 4, 2) := by decide +kernel
theorem d_Mo_openerOf_53 : decode prog_10_method_7_code 53 = .ok (.invokevirtual 72, 3) := by decide +kernel
theorem d_Mo_openerOf_56 : decode prog_10_method_7_code 56 = .ok (.invokestatic 76, 3) := by decide +kernel
theorem d_Mo_openerOf_59 : decode prog_10_method_7_code 59 = .ok (.ifCond .eq 6, 3) := by decide +kernel
theorem d_Mo_openerOf_62 : decode prog_10_method_7_code 62 = .ok (.iinc 3 (-1), 3) := by decide +kernel
theorem d_Mo_openerOf_65 : decode prog_10_method_7_code 65 = .ok (.iinc 4 (-1), 3) := by decide +kernel
theorem d_Mo_openerOf_68 : decode prog_10_method_7_code 68 = .ok (.goto (-61), 3) := by decide +kernel
theorem d_Mo_openerOf_71 : decode prog_10_method_7_code 71 = .ok (.iconst (-1), 1) := by decide +kernel
theorem d_Mo_openerOf_72 : decode prog_10_method_7_code 72 = .ok (.ireturn, 1) := by decide +kernel
def tb_Mo_openerOf : List pm_I := [
  pm_const 1 0,
  pm_istore 2 3,
  pm_iload 3 2,
  pm_const 4 1,
  pm_bin 5 (fun a b => a - b),
  pm_istore 6 4,
  pm_iload 7 4,
  pm_if 35 8 (fun a => decide (a < 0)),
  pm_aload 9 0,
  pm_iload 10 1,
  pm_iload 11 4,
  pm_callv 12 74 3 8,
  pm_const 13 5,
  pm_icmp 16 14 (fun a b => decide (a ≠ b)),
  pm_iinc 15 3 1,
  pm_goto 33,
  pm_aload 17 0,
  pm_iload 18 1,
  pm_iload 19 4,
  pm_callv 20 74 3 8,
  pm_calls 21 76 1,
  pm_if 26 22 (fun a => decide (a = 0)),
  pm_iload 23 3,
  pm_if 26 24 (fun a => decide (a ≠ 0)),
  pm_iload 25 4,
  pm_iret,
  pm_aload 27 0,
  pm_iload 28 1,
  pm_iload 29 4,
  pm_callv 30 74 3 8,
  pm_calls 31 76 1,
  pm_if 33 32 (fun a => decide (a = 0)),
  pm_iinc 33 3 (-1),
  pm_iinc 34 4 (-1),
  pm_goto 6,
  pm_const 36 (-1),
  pm_iret]
def bp_Mo_openerOf : List Nat := [0, 1, 2, 3, 4, 5, 7, 9, 12, 13, 14, 16, 19, 20, 23, 26, 29, 30, 31, 33, 36, 39, 42, 43, 46, 48, 49, 50, 51, 53, 56, 59, 62, 65, 68, 71, 72]
set_option maxRecDepth 100000 in
theorem sd_Mo_openerOf : pm_Sl prog_10_method_7_code 5 R_Mo "openerOf" (some .int) pm_Y (pm_b bp_Mo_openerOf) 0 tb_Mo_openerOf := by
  refine ⟨so_const1 d_Mo_openerOf_0 (by decide) rfl, ?_⟩
  refine ⟨so_istoren d_Mo_openerOf_1 rfl (by decide) rfl, ?_⟩
  refine ⟨so_iloadn d_Mo_openerOf_2 rfl rfl, ?_⟩
  refine ⟨so_const1 d_Mo_openerOf_3 (by decide) rfl, ?_⟩
  refine ⟨so_isub d_Mo_openerOf_4 rfl, ?_⟩
  refine ⟨so_istore d_Mo_openerOf_5 (by decide) rfl, ?_⟩
  refine ⟨so_iload d_Mo_openerOf_7 rfl, ?_⟩
  refine ⟨so_if_lt d_Mo_openerOf_9 rfl rfl, ?_⟩
  refine ⟨so_aloadn d_Mo_openerOf_12 rfl rfl, ?_⟩
  refine ⟨so_iloadn d_Mo_openerOf_13 rfl rfl, ?_⟩
  refine ⟨so_iload d_Mo_openerOf_14 rfl, ?_⟩
  refine ⟨so_callv (ci := 8) rfl rfl mc_Mo_kindAt mi_Mo mj_Mo_kindAt ms_Mo_kindAt ml_Mo_72 yd_Mo_kindAt (by decide) d_Mo_openerOf_16 rfl, ?_⟩
  refine ⟨so_const1 d_Mo_openerOf_19 (by decide) rfl, ?_⟩
  refine ⟨so_icmp_ne d_Mo_openerOf_20 rfl rfl, ?_⟩
  refine ⟨so_iinc d_Mo_openerOf_23 (by decide) (by decide) rfl, ?_⟩
  refine ⟨so_goto d_Mo_openerOf_26 rfl, ?_⟩
  refine ⟨so_aloadn d_Mo_openerOf_29 rfl rfl, ?_⟩
  refine ⟨so_iloadn d_Mo_openerOf_30 rfl rfl, ?_⟩
  refine ⟨so_iload d_Mo_openerOf_31 rfl, ?_⟩
  refine ⟨so_callv (ci := 8) rfl rfl mc_Mo_kindAt mi_Mo mj_Mo_kindAt ms_Mo_kindAt ml_Mo_72 yd_Mo_kindAt (by decide) d_Mo_openerOf_33 rfl, ?_⟩
  refine ⟨so_calls rfl mc_Mo_opens mi_Mo mt_Mo_opens ml_Mo_76 yd_Mo_opens (by decide) d_Mo_openerOf_36 rfl, ?_⟩
  refine ⟨so_if_eq d_Mo_openerOf_39 rfl rfl, ?_⟩
  refine ⟨so_iloadn d_Mo_openerOf_42 rfl rfl, ?_⟩
  refine ⟨so_if_ne d_Mo_openerOf_43 rfl rfl, ?_⟩
  refine ⟨so_iload d_Mo_openerOf_46 rfl, ?_⟩
  refine ⟨so_iret d_Mo_openerOf_48 rfl, ?_⟩
  refine ⟨so_aloadn d_Mo_openerOf_49 rfl rfl, ?_⟩
  refine ⟨so_iloadn d_Mo_openerOf_50 rfl rfl, ?_⟩
  refine ⟨so_iload d_Mo_openerOf_51 rfl, ?_⟩
  refine ⟨so_callv (ci := 8) rfl rfl mc_Mo_kindAt mi_Mo mj_Mo_kindAt ms_Mo_kindAt ml_Mo_72 yd_Mo_kindAt (by decide) d_Mo_openerOf_53 rfl, ?_⟩
  refine ⟨so_calls rfl mc_Mo_opens mi_Mo mt_Mo_opens ml_Mo_76 yd_Mo_opens (by decide) d_Mo_openerOf_56 rfl, ?_⟩
  refine ⟨so_if_eq d_Mo_openerOf_59 rfl rfl, ?_⟩
  refine ⟨so_iinc d_Mo_openerOf_62 (by decide) (by decide) rfl, ?_⟩
  refine ⟨so_iinc d_Mo_openerOf_65 (by decide) (by decide) rfl, ?_⟩
  refine ⟨so_goto d_Mo_openerOf_68 rfl, ?_⟩
  refine ⟨so_const1 d_Mo_openerOf_71 (by decide) rfl, ?_⟩
  refine ⟨so_iret d_Mo_openerOf_72 rfl, ?_⟩
  exact trivial
theorem d_Mo_opens_0 : decode prog_10_method_6_code 0 = .ok (.iload_n 0, 1) := by decide +kernel
theorem d_Mo_opens_1 : decode prog_10_method_6_code 1 = .ok (.iconst 4, 1) := by decide +kernel
theorem d_Mo_opens_2 : decode prog_10_method_6_code 2 = .ok (.if_icmp .eq 15, 3) := by decide +kernel
theorem d_Mo_opens_5 : decode prog_10_method_6_code 5 = .ok (.iload_n 0, 1) := by decide +kernel
theorem d_Mo_opens_6 : decode prog_10_method_6_code 6 = .ok (.bipush 6, 2) := by decide +kernel
theorem d_Mo_opens_8 : decode prog_10_method_6_code 8 = .ok (.if_icmp .eq 9, 3) := by decide +kernel
theorem d_Mo_opens_11 : decode prog_10_method_6_code 11 = .ok (.iload_n 0, 1) := by decide +kernel
theorem d_Mo_opens_12 : decode prog_10_method_6_code 12 = .ok (.bipush 8, 2) := by decide +kernel
theorem d_Mo_opens_14 : decode prog_10_method_6_code 14 = .ok (.if_icmp .ne 7, 3) := by decide +kernel
theorem d_Mo_opens_17 : decode prog_10_method_6_code 17 = .ok (.iconst 1, 1) := by decide +kernel
theorem d_Mo_opens_18 : decode prog_10_method_6_code 18 = .ok (.goto 4, 3) := by decide +kernel
theorem d_Mo_opens_21 : decode prog_10_method_6_code 21 = .ok (.iconst 0, 1) := by decide +kernel
theorem d_Mo_opens_22 : decode prog_10_method_6_code 22 = .ok (.ireturn, 1) := by decide +kernel
def tb_Mo_opens : List pm_I := [
  pm_iload 1 0,
  pm_const 2 4,
  pm_icmp 9 3 (fun a b => decide (a = b)),
  pm_iload 4 0,
  pm_const 5 6,
  pm_icmp 9 6 (fun a b => decide (a = b)),
  pm_iload 7 0,
  pm_const 8 8,
  pm_icmp 11 9 (fun a b => decide (a ≠ b)),
  pm_const 10 1,
  pm_goto 12,
  pm_const 12 0,
  pm_zret]
def bp_Mo_opens : List Nat := [0, 1, 2, 5, 6, 8, 11, 12, 14, 17, 18, 21, 22]
set_option maxRecDepth 100000 in
theorem sd_Mo_opens : pm_Sl prog_10_method_6_code 1 R_Mo "opens" (some .boolean) pm_Y (pm_b bp_Mo_opens) 0 tb_Mo_opens := by
  refine ⟨so_iloadn d_Mo_opens_0 rfl rfl, ?_⟩
  refine ⟨so_const1 d_Mo_opens_1 (by decide) rfl, ?_⟩
  refine ⟨so_icmp_eq d_Mo_opens_2 rfl rfl, ?_⟩
  refine ⟨so_iloadn d_Mo_opens_5 rfl rfl, ?_⟩
  refine ⟨so_const2 d_Mo_opens_6 (by decide) rfl, ?_⟩
  refine ⟨so_icmp_eq d_Mo_opens_8 rfl rfl, ?_⟩
  refine ⟨so_iloadn d_Mo_opens_11 rfl rfl, ?_⟩
  refine ⟨so_const2 d_Mo_opens_12 (by decide) rfl, ?_⟩
  refine ⟨so_icmp_ne d_Mo_opens_14 rfl rfl, ?_⟩
  refine ⟨so_const1 d_Mo_opens_17 (by decide) rfl, ?_⟩
  refine ⟨so_goto d_Mo_opens_18 rfl, ?_⟩
  refine ⟨so_const1 d_Mo_opens_21 (by decide) rfl, ?_⟩
  refine ⟨so_zret d_Mo_opens_22 rfl, ?_⟩
  exact trivial
theorem d_Mo_closerOf_0 : decode prog_10_method_8_code 0 = .ok (.iconst 0, 1) := by decide +kernel
theorem d_Mo_closerOf_1 : decode prog_10_method_8_code 1 = .ok (.istore 4, 2) := by decide +kernel
theorem d_Mo_closerOf_3 : decode prog_10_method_8_code 3 = .ok (.iload_n 2, 1) := by decide +kernel
theorem d_Mo_closerOf_4 : decode prog_10_method_8_code 4 = .ok (.istore 5, 2) := by decide +kernel
theorem d_Mo_closerOf_6 : decode prog_10_method_8_code 6 = .ok (.iload 5, 2) := by decide +kernel
theorem d_Mo_closerOf_8 : decode prog_10_method_8_code 8 = .ok (.aload_n 0, 1) := by decide +kernel
theorem d_Mo_closerOf_9 : decode prog_10_method_8_code 9 = .ok (.getfield 16, 3) := by decide +kernel
theorem d_Mo_closerOf_12 : decode prog_10_method_8_code 12 = .ok (.iload_n 1, 1) := by decide +kernel
theorem d_Mo_closerOf_13 : decode prog_10_method_8_code 13 = .ok (.iaload, 1) := by decide +kernel
theorem d_Mo_closerOf_14 : decode prog_10_method_8_code 14 = .ok (.if_icmp .ge 63, 3) := by decide +kernel
theorem d_Mo_closerOf_17 : decode prog_10_method_8_code 17 = .ok (.aload_n 0, 1) := by decide +kernel
theorem d_Mo_closerOf_18 : decode prog_10_method_8_code 18 = .ok (.iload_n 1, 1) := by decide +kernel
theorem d_Mo_closerOf_19 : decode prog_10_method_8_code 19 = .ok (.iload 5, 2) := by decide +kernel
theorem d_Mo_closerOf_21 : decode prog_10_method_8_code 21 = .ok (.invokevirtual 72, 3) := by decide +kernel
theorem d_Mo_closerOf_24 : decode prog_10_method_8_code 24 = .ok (.istore 6, 2) := by decide +kernel
theorem d_Mo_closerOf_26 : decode prog_10_method_8_code 26 = .ok (.iload 4, 2) := by decide +kernel
theorem d_Mo_closerOf_28 : decode prog_10_method_8_code 28 = .ok (.ifCond .ne 23, 3) := by decide +kernel
theorem d_Mo_closerOf_31 : decode prog_10_method_8_code 31 = .ok (.iload 6, 2) := by decide +kernel
theorem d_Mo_closerOf_33 : decode prog_10_method_8_code 33 = .ok (.iconst 5, 1) := by decide +kernel
theorem d_Mo_closerOf_34 : decode prog_10_method_8_code 34 = .ok (.if_icmp .eq 14, 3) := by decide +kernel
theorem d_Mo_closerOf_37 : decode prog_10_method_8_code 37 = .ok (.iload 6, 2) := by decide +kernel
theorem d_Mo_closerOf_39 : decode prog_10_method_8_code 39 = .ok (.bipush 7, 2) := by decide +kernel
theorem d_Mo_closerOf_41 : decode prog_10_method_8_code 41 = .ok (.if_icmp .ne 10, 3) := by decide +kernel
theorem d_Mo_closerOf_44 : decode prog_10_method_8_code 44 = .ok (.iload_n 3, 1) := by decide +kernel
theorem d_Mo_closerOf_45 : decode prog_10_method_8_code 45 = .ok (.ifCond .eq 6, 3) := by decide +kernel
theorem d_Mo_closerOf_48 : decode prog_10_method_8_code 48 = .ok (.iload 5, 2) := by decide +kernel
theorem d_Mo_closerOf_50 : decode prog_10_method_8_code 50 = .ok (.ireturn, 1) := by decide +kernel
theorem d_Mo_closerOf_51 : decode prog_10_method_8_code 51 = .ok (.iload 6, 2) := by decide +kernel
theorem d_Mo_closerOf_53 : decode prog_10_method_8_code 53 = .ok (.iconst 5, 1) := by decide +kernel
theorem d_Mo_closerOf_54 : decode prog_10_method_8_code 54 = .ok (.if_icmp .ne 6, 3) := by decide +kernel
theorem d_Mo_closerOf_57 : decode prog_10_method_8_code 57 = .ok (.iinc 4 (-1), 3) := by decide +kernel
theorem d_Mo_closerOf_60 : decode prog_10_method_8_code 60 = .ok (.iload 6, 2) := by decide +kernel
theorem d_Mo_closerOf_62 : decode prog_10_method_8_code 62 = .ok (.invokestatic 76, 3) := by decide +kernel
theorem d_Mo_closerOf_65 : decode prog_10_method_8_code 65 = .ok (.ifCond .eq 6, 3) := by decide +kernel
theorem d_Mo_closerOf_68 : decode prog_10_method_8_code 68 = .ok (.iinc 4 1, 3) := by decide +kernel
theorem d_Mo_closerOf_71 : decode prog_10_method_8_code 71 = .ok (.iinc 5 1, 3) := by decide +kernel
theorem d_Mo_closerOf_74 : decode prog_10_method_8_code 74 = .ok (.goto (-68), 3) := by decide +kernel
theorem d_Mo_closerOf_77 : decode prog_10_method_8_code 77 = .ok (.aload_n 0, 1) := by decide +kernel
theorem d_Mo_closerOf_78 : decode prog_10_method_8_code 78 = .ok (.getfield 16, 3) := by decide +kernel
theorem d_Mo_closerOf_81 : decode prog_10_method_8_code 81 = .ok (.iload_n 1, 1) := by decide +kernel
theorem d_Mo_closerOf_82 : decode prog_10_method_8_code 82 = .ok (.iaload, 1) := by decide +kernel
theorem d_Mo_closerOf_83 : decode prog_10_method_8_code 83 = .ok (.ireturn, 1) := by decide +kernel
def tb_Mo_closerOf : List pm_I := [
  pm_const 1 0,
  pm_istore 2 4,
  pm_iload 3 2,
  pm_istore 4 5,
  pm_iload 5 5,
  pm_aload 6 0,
  pm_getr 7 8 2,
  pm_iload 8 1,
  pm_iald 9 0,
  pm_icmp 37 10 (fun a b => decide (b ≤ a)),
  pm_aload 11 0,
  pm_iload 12 1,
  pm_iload 13 5,
  pm_callv 14 74 3 8,
  pm_istore 15 6,
  pm_iload 16 4,
  pm_if 27 17 (fun a => decide (a ≠ 0)),
  pm_iload 18 6,
  pm_const 19 5,
  pm_icmp 25 20 (fun a b => decide (a = b)),
  pm_iload 21 6,
  pm_const 22 7,
  pm_icmp 27 23 (fun a b => decide (a ≠ b)),
  pm_iload 24 3,
  pm_if 27 25 (fun a => decide (a = 0)),
  pm_iload 26 5,
  pm_iret,
  pm_iload 28 6,
  pm_const 29 5,
  pm_icmp 31 30 (fun a b => decide (a ≠ b)),
  pm_iinc 31 4 (-1),
  pm_iload 32 6,
  pm_calls 33 76 1,
  pm_if 35 34 (fun a => decide (a = 0)),
  pm_iinc 35 4 1,
  pm_iinc 36 5 1,
  pm_goto 4,
  pm_aload 38 0,
  pm_getr 39 8 2,
  pm_iload 40 1,
  pm_iald 41 0,
  pm_iret]
def bp_Mo_closerOf : List Nat := [0, 1, 3, 4, 6, 8, 9, 12, 13, 14, 17, 18, 19, 21, 24, 26, 28, 31, 33, 34, 37, 39, 41, 44, 45, 48, 50, 51, 53, 54, 57, 60, 62, 65, 68, 71, 74, 77, 78, 81, 82, 83]
set_option maxRecDepth 100000 in
theorem sd_Mo_closerOf : pm_Sl prog_10_method_8_code 7 R_Mo "closerOf" (some .int) pm_Y (pm_b bp_Mo_closerOf) 0 tb_Mo_closerOf := by
  refine ⟨so_const1 d_Mo_closerOf_0 (by decide) rfl, ?_⟩
  refine ⟨so_istore d_Mo_closerOf_1 (by decide) rfl, ?_⟩
  refine ⟨so_iloadn d_Mo_closerOf_3 rfl rfl, ?_⟩
  refine ⟨so_istore d_Mo_closerOf_4 (by decide) rfl, ?_⟩
  refine ⟨so_iload d_Mo_closerOf_6 rfl, ?_⟩
  refine ⟨so_aloadn d_Mo_closerOf_8 rfl rfl, ?_⟩
  refine ⟨so_getr (ci := 8) (k := 2) rfl (by decide) rfl rfl fl_Mo_16 d_Mo_closerOf_9 rfl, ?_⟩
  refine ⟨so_iloadn d_Mo_closerOf_12 rfl rfl, ?_⟩
  refine ⟨so_iald d_Mo_closerOf_13 rfl, ?_⟩
  refine ⟨so_icmp_ge d_Mo_closerOf_14 rfl rfl, ?_⟩
  refine ⟨so_aloadn d_Mo_closerOf_17 rfl rfl, ?_⟩
  refine ⟨so_iloadn d_Mo_closerOf_18 rfl rfl, ?_⟩
  refine ⟨so_iload d_Mo_closerOf_19 rfl, ?_⟩
  refine ⟨so_callv (ci := 8) rfl rfl mc_Mo_kindAt mi_Mo mj_Mo_kindAt ms_Mo_kindAt ml_Mo_72 yd_Mo_kindAt (by decide) d_Mo_closerOf_21 rfl, ?_⟩
  refine ⟨so_istore d_Mo_closerOf_24 (by decide) rfl, ?_⟩
  refine ⟨so_iload d_Mo_closerOf_26 rfl, ?_⟩
  refine ⟨so_if_ne d_Mo_closerOf_28 rfl rfl, ?_⟩
  refine ⟨so_iload d_Mo_closerOf_31 rfl, ?_⟩
  refine ⟨so_const1 d_Mo_closerOf_33 (by decide) rfl, ?_⟩
  refine ⟨so_icmp_eq d_Mo_closerOf_34 rfl rfl, ?_⟩
  refine ⟨so_iload d_Mo_closerOf_37 rfl, ?_⟩
  refine ⟨so_const2 d_Mo_closerOf_39 (by decide) rfl, ?_⟩
  refine ⟨so_icmp_ne d_Mo_closerOf_41 rfl rfl, ?_⟩
  refine ⟨so_iloadn d_Mo_closerOf_44 rfl rfl, ?_⟩
  refine ⟨so_if_eq d_Mo_closerOf_45 rfl rfl, ?_⟩
  refine ⟨so_iload d_Mo_closerOf_48 rfl, ?_⟩
  refine ⟨so_iret d_Mo_closerOf_50 rfl, ?_⟩
  refine ⟨so_iload d_Mo_closerOf_51 rfl, ?_⟩
  refine ⟨so_const1 d_Mo_closerOf_53 (by decide) rfl, ?_⟩
  refine ⟨so_icmp_ne d_Mo_closerOf_54 rfl rfl, ?_⟩
  refine ⟨so_iinc d_Mo_closerOf_57 (by decide) (by decide) rfl, ?_⟩
  refine ⟨so_iload d_Mo_closerOf_60 rfl, ?_⟩
  refine ⟨so_calls rfl mc_Mo_opens mi_Mo mt_Mo_opens ml_Mo_76 yd_Mo_opens (by decide) d_Mo_closerOf_62 rfl, ?_⟩
  refine ⟨so_if_eq d_Mo_closerOf_65 rfl rfl, ?_⟩
  refine ⟨so_iinc d_Mo_closerOf_68 (by decide) (by decide) rfl, ?_⟩
  refine ⟨so_iinc d_Mo_closerOf_71 (by decide) (by decide) rfl, ?_⟩
  refine ⟨so_goto d_Mo_closerOf_74 rfl, ?_⟩
  refine ⟨so_aloadn d_Mo_closerOf_77 rfl rfl, ?_⟩
  refine ⟨so_getr (ci := 8) (k := 2) rfl (by decide) rfl rfl fl_Mo_16 d_Mo_closerOf_78 rfl, ?_⟩
  refine ⟨so_iloadn d_Mo_closerOf_81 rfl rfl, ?_⟩
  refine ⟨so_iald d_Mo_closerOf_82 rfl, ?_⟩
  refine ⟨so_iret d_Mo_closerOf_83 rfl, ?_⟩
  exact trivial
theorem d_Mo_numberAt_0 : decode prog_10_method_5_code 0 = .ok (.aload_n 0, 1) := by decide +kernel
theorem d_Mo_numberAt_1 : decode prog_10_method_5_code 1 = .ok (.getfield 13, 3) := by decide +kernel
theorem d_Mo_numberAt_4 : decode prog_10_method_5_code 4 = .ok (.bipush 64, 2) := by decide +kernel
theorem d_Mo_numberAt_6 : decode prog_10_method_5_code 6 = .ok (.iload_n 1, 1) := by decide +kernel
theorem d_Mo_numberAt_7 : decode prog_10_method_5_code 7 = .ok (.imul, 1) := by decide +kernel
theorem d_Mo_numberAt_8 : decode prog_10_method_5_code 8 = .ok (.iload_n 2, 1) := by decide +kernel
theorem d_Mo_numberAt_9 : decode prog_10_method_5_code 9 = .ok (.iadd, 1) := by decide +kernel
theorem d_Mo_numberAt_10 : decode prog_10_method_5_code 10 = .ok (.iaload, 1) := by decide +kernel
theorem d_Mo_numberAt_11 : decode prog_10_method_5_code 11 = .ok (.ireturn, 1) := by decide +kernel
def tb_Mo_numberAt : List pm_I := [
  pm_aload 1 0,
  pm_getr 2 8 1,
  pm_const 3 64,
  pm_iload 4 1,
  pm_bin 5 (fun a b => a * b),
  pm_iload 6 2,
  pm_bin 7 (fun a b => a + b),
  pm_iald 8 0,
  pm_iret]
def bp_Mo_numberAt : List Nat := [0, 1, 4, 6, 7, 8, 9, 10, 11]
set_option maxRecDepth 100000 in
theorem sd_Mo_numberAt : pm_Sl prog_10_method_5_code 3 R_Mo "numberAt" (some .int) pm_Y (pm_b bp_Mo_numberAt) 0 tb_Mo_numberAt := by
  refine ⟨so_aloadn d_Mo_numberAt_0 rfl rfl, ?_⟩
  refine ⟨so_getr (ci := 8) (k := 1) rfl (by decide) rfl rfl fl_Mo_13 d_Mo_numberAt_1 rfl, ?_⟩
  refine ⟨so_const2 d_Mo_numberAt_4 (by decide) rfl, ?_⟩
  refine ⟨so_iloadn d_Mo_numberAt_6 rfl rfl, ?_⟩
  refine ⟨so_imul d_Mo_numberAt_7 rfl, ?_⟩
  refine ⟨so_iloadn d_Mo_numberAt_8 rfl rfl, ?_⟩
  refine ⟨so_iadd d_Mo_numberAt_9 rfl, ?_⟩
  refine ⟨so_iald d_Mo_numberAt_10 rfl, ?_⟩
  refine ⟨so_iret d_Mo_numberAt_11 rfl, ?_⟩
  exact trivial
theorem d_Mo_guard_0 : decode prog_10_method_11_code 0 = .ok (.iload_n 1, 1) := by decide +kernel
theorem d_Mo_guard_1 : decode prog_10_method_11_code 1 = .ok (.bipush 8, 2) := by decide +kernel
theorem d_Mo_guard_3 : decode prog_10_method_11_code 3 = .ok (.invokestatic 68, 3) := by decide +kernel
theorem d_Mo_guard_6 : decode prog_10_method_11_code 6 = .ok (.ifCond .eq 13, 3) := by decide +kernel
theorem d_Mo_guard_9 : decode prog_10_method_11_code 9 = .ok (.iload_n 2, 1) := by decide +kernel
theorem d_Mo_guard_10 : decode prog_10_method_11_code 10 = .ok (.iconst (-1), 1) := by decide +kernel
theorem d_Mo_guard_11 : decode prog_10_method_11_code 11 = .ok (.if_icmp .lt 8, 3) := by decide +kernel
theorem d_Mo_guard_14 : decode prog_10_method_11_code 14 = .ok (.iload_n 2, 1) := by decide +kernel
theorem d_Mo_guard_15 : decode prog_10_method_11_code 15 = .ok (.iconst 4, 1) := by decide +kernel
theorem d_Mo_guard_16 : decode prog_10_method_11_code 16 = .ok (.if_icmp .lt 5, 3) := by decide +kernel
theorem d_Mo_guard_19 : decode prog_10_method_11_code 19 = .ok (.iconst 0, 1) := by decide +kernel
theorem d_Mo_guard_20 : decode prog_10_method_11_code 20 = .ok (.ireturn, 1) := by decide +kernel
theorem d_Mo_guard_21 : decode prog_10_method_11_code 21 = .ok (.aload_n 0, 1) := by decide +kernel
theorem d_Mo_guard_22 : decode prog_10_method_11_code 22 = .ok (.getfield 22, 3) := by decide +kernel
theorem d_Mo_guard_25 : decode prog_10_method_11_code 25 = .ok (.iload_n 1, 1) := by decide +kernel
theorem d_Mo_guard_26 : decode prog_10_method_11_code 26 = .ok (.iload_n 2, 1) := by decide +kernel
theorem d_Mo_guard_27 : decode prog_10_method_11_code 27 = .ok (.iastore, 1) := by decide +kernel
theorem d_Mo_guard_28 : decode prog_10_method_11_code 28 = .ok (.iconst 1, 1) := by decide +kernel
theorem d_Mo_guard_29 : decode prog_10_method_11_code 29 = .ok (.ireturn, 1) := by decide +kernel
def tb_Mo_guard : List pm_I := [
  pm_iload 1 1,
  pm_const 2 8,
  pm_calls 3 71 2,
  pm_if 10 4 (fun a => decide (a = 0)),
  pm_iload 5 2,
  pm_const 6 (-1),
  pm_icmp 10 7 (fun a b => decide (a < b)),
  pm_iload 8 2,
  pm_const 9 4,
  pm_icmp 12 10 (fun a b => decide (a < b)),
  pm_const 11 0,
  pm_zret,
  pm_aload 13 0,
  pm_getr 14 8 5,
  pm_iload 15 1,
  pm_iload 16 2,
  pm_iast 17,
  pm_const 18 1,
  pm_zret]
def bp_Mo_guard : List Nat := [0, 1, 3, 6, 9, 10, 11, 14, 15, 16, 19, 20, 21, 22, 25, 26, 27, 28, 29]
set_option maxRecDepth 100000 in
theorem sd_Mo_guard : pm_Sl prog_10_method_11_code 3 R_Mo "guard" (some .boolean) pm_Y (pm_b bp_Mo_guard) 0 tb_Mo_guard := by
  refine ⟨so_iloadn d_Mo_guard_0 rfl rfl, ?_⟩
  refine ⟨so_const2 d_Mo_guard_1 (by decide) rfl, ?_⟩
  refine ⟨so_calls rfl mc_Mo_isIn mi_Mo mt_Mo_isIn ml_Mo_68 yd_Mo_isIn (by decide) d_Mo_guard_3 rfl, ?_⟩
  refine ⟨so_if_eq d_Mo_guard_6 rfl rfl, ?_⟩
  refine ⟨so_iloadn d_Mo_guard_9 rfl rfl, ?_⟩
  refine ⟨so_const1 d_Mo_guard_10 (by decide) rfl, ?_⟩
  refine ⟨so_icmp_lt d_Mo_guard_11 rfl rfl, ?_⟩
  refine ⟨so_iloadn d_Mo_guard_14 rfl rfl, ?_⟩
  refine ⟨so_const1 d_Mo_guard_15 (by decide) rfl, ?_⟩
  refine ⟨so_icmp_lt d_Mo_guard_16 rfl rfl, ?_⟩
  refine ⟨so_const1 d_Mo_guard_19 (by decide) rfl, ?_⟩
  refine ⟨so_zret d_Mo_guard_20 rfl, ?_⟩
  refine ⟨so_aloadn d_Mo_guard_21 rfl rfl, ?_⟩
  refine ⟨so_getr (ci := 8) (k := 5) rfl (by decide) rfl rfl fl_Mo_22 d_Mo_guard_22 rfl, ?_⟩
  refine ⟨so_iloadn d_Mo_guard_25 rfl rfl, ?_⟩
  refine ⟨so_iloadn d_Mo_guard_26 rfl rfl, ?_⟩
  refine ⟨so_iast d_Mo_guard_27 rfl, ?_⟩
  refine ⟨so_const1 d_Mo_guard_28 (by decide) rfl, ?_⟩
  refine ⟨so_zret d_Mo_guard_29 rfl, ?_⟩
  exact trivial
theorem d_Mo_check_0 : decode prog_10_method_14_code 0 = .ok (.iload_n 1, 1) := by decide +kernel
theorem d_Mo_check_1 : decode prog_10_method_14_code 1 = .ok (.aload_n 0, 1) := by decide +kernel
theorem d_Mo_check_2 : decode prog_10_method_14_code 2 = .ok (.getfield 87, 3) := by decide +kernel
theorem d_Mo_check_5 : decode prog_10_method_14_code 5 = .ok (.invokestatic 68, 3) := by decide +kernel
theorem d_Mo_check_8 : decode prog_10_method_14_code 8 = .ok (.ifCond .ne 5, 3) := by decide +kernel
theorem d_Mo_check_11 : decode prog_10_method_14_code 11 = .ok (.iconst (-1), 1) := by decide +kernel
theorem d_Mo_check_12 : decode prog_10_method_14_code 12 = .ok (.ireturn, 1) := by decide +kernel
theorem d_Mo_check_13 : decode prog_10_method_14_code 13 = .ok (.iconst 0, 1) := by decide +kernel
theorem d_Mo_check_14 : decode prog_10_method_14_code 14 = .ok (.istore_n 2, 1) := by decide +kernel
theorem d_Mo_check_15 : decode prog_10_method_14_code 15 = .ok (.iload_n 2, 1) := by decide +kernel
theorem d_Mo_check_16 : decode prog_10_method_14_code 16 = .ok (.aload_n 0, 1) := by decide +kernel
theorem d_Mo_check_17 : decode prog_10_method_14_code 17 = .ok (.getfield 16, 3) := by decide +kernel
theorem d_Mo_check_20 : decode prog_10_method_14_code 20 = .ok (.iload_n 1, 1) := by decide +kernel
theorem d_Mo_check_21 : decode prog_10_method_14_code 21 = .ok (.iaload, 1) := by decide +kernel
theorem d_Mo_check_22 : decode prog_10_method_14_code 22 = .ok (.if_icmp .ge 18, 3) := by decide +kernel
theorem d_Mo_check_25 : decode prog_10_method_14_code 25 = .ok (.aload_n 0, 1) := by decide +kernel
theorem d_Mo_check_26 : decode prog_10_method_14_code 26 = .ok (.iload_n 1, 1) := by decide +kernel
theorem d_Mo_check_27 : decode prog_10_method_14_code 27 = .ok (.iload_n 2, 1) := by decide +kernel
theorem d_Mo_check_28 : decode prog_10_method_14_code 28 = .ok (.invokevirtual 101, 3) := by decide +kernel
theorem d_Mo_check_31 : decode prog_10_method_14_code 31 = .ok (.ifCond .eq 9, 3) := by decide +kernel
theorem d_Mo_check_34 : decode prog_10_method_14_code 34 = .ok (.iinc 2 1, 3) := by decide +kernel
theorem d_Mo_check_37 : decode prog_10_method_14_code 37 = .ok (.goto (-22), 3) := by decide +kernel
theorem d_Mo_check_40 : decode prog_10_method_14_code 40 = .ok (.iload_n 2, 1) := by decide +kernel
theorem d_Mo_check_41 : decode prog_10_method_14_code 41 = .ok (.ireturn, 1) := by decide +kernel
def tb_Mo_check : List pm_I := [
  pm_iload 1 1,
  pm_aload 2 0,
  pm_geti 3 8 4,
  pm_calls 4 71 2,
  pm_if 7 5 (fun a => decide (a ≠ 0)),
  pm_const 6 (-1),
  pm_iret,
  pm_const 8 0,
  pm_istore 9 2,
  pm_iload 10 2,
  pm_aload 11 0,
  pm_getr 12 8 2,
  pm_iload 13 1,
  pm_iald 14 0,
  pm_icmp 22 15 (fun a b => decide (b ≤ a)),
  pm_aload 16 0,
  pm_iload 17 1,
  pm_iload 18 2,
  pm_callv 19 81 3 8,
  pm_if 22 20 (fun a => decide (a = 0)),
  pm_iinc 21 2 1,
  pm_goto 9,
  pm_iload 23 2,
  pm_iret]
def bp_Mo_check : List Nat := [0, 1, 2, 5, 8, 11, 12, 13, 14, 15, 16, 17, 20, 21, 22, 25, 26, 27, 28, 31, 34, 37, 40, 41]
set_option maxRecDepth 100000 in
theorem sd_Mo_check : pm_Sl prog_10_method_14_code 3 R_Mo "check" (some .int) pm_Y (pm_b bp_Mo_check) 0 tb_Mo_check := by
  refine ⟨so_iloadn d_Mo_check_0 rfl rfl, ?_⟩
  refine ⟨so_aloadn d_Mo_check_1 rfl rfl, ?_⟩
  refine ⟨so_geti (ci := 8) (k := 4) rfl (by decide) rfl rfl fl_Mo_87 d_Mo_check_2 rfl, ?_⟩
  refine ⟨so_calls rfl mc_Mo_isIn mi_Mo mt_Mo_isIn ml_Mo_68 yd_Mo_isIn (by decide) d_Mo_check_5 rfl, ?_⟩
  refine ⟨so_if_ne d_Mo_check_8 rfl rfl, ?_⟩
  refine ⟨so_const1 d_Mo_check_11 (by decide) rfl, ?_⟩
  refine ⟨so_iret d_Mo_check_12 rfl, ?_⟩
  refine ⟨so_const1 d_Mo_check_13 (by decide) rfl, ?_⟩
  refine ⟨so_istoren d_Mo_check_14 rfl (by decide) rfl, ?_⟩
  refine ⟨so_iloadn d_Mo_check_15 rfl rfl, ?_⟩
  refine ⟨so_aloadn d_Mo_check_16 rfl rfl, ?_⟩
  refine ⟨so_getr (ci := 8) (k := 2) rfl (by decide) rfl rfl fl_Mo_16 d_Mo_check_17 rfl, ?_⟩
  refine ⟨so_iloadn d_Mo_check_20 rfl rfl, ?_⟩
  refine ⟨so_iald d_Mo_check_21 rfl, ?_⟩
  refine ⟨so_icmp_ge d_Mo_check_22 rfl rfl, ?_⟩
  refine ⟨so_aloadn d_Mo_check_25 rfl rfl, ?_⟩
  refine ⟨so_iloadn d_Mo_check_26 rfl rfl, ?_⟩
  refine ⟨so_iloadn d_Mo_check_27 rfl rfl, ?_⟩
  refine ⟨so_callv (ci := 8) rfl rfl mc_Mo_isRight mi_Mo mj_Mo_isRight ms_Mo_isRight ml_Mo_101 yd_Mo_isRight (by decide) d_Mo_check_28 rfl, ?_⟩
  refine ⟨so_if_eq d_Mo_check_31 rfl rfl, ?_⟩
  refine ⟨so_iinc d_Mo_check_34 (by decide) (by decide) rfl, ?_⟩
  refine ⟨so_goto d_Mo_check_37 rfl, ?_⟩
  refine ⟨so_iloadn d_Mo_check_40 rfl rfl, ?_⟩
  refine ⟨so_iret d_Mo_check_41 rfl, ?_⟩
  exact trivial
theorem d_Mo_isRight_0 : decode prog_10_method_13_code 0 = .ok (.aload_n 0, 1) := by decide +kernel
theorem d_Mo_isRight_1 : decode prog_10_method_13_code 1 = .ok (.iload_n 1, 1) := by decide +kernel
theorem d_Mo_isRight_2 : decode prog_10_method_13_code 2 = .ok (.iload_n 2, 1) := by decide +kernel
theorem d_Mo_isRight_3 : decode prog_10_method_13_code 3 = .ok (.invokevirtual 72, 3) := by decide +kernel
theorem d_Mo_isRight_6 : decode prog_10_method_13_code 6 = .ok (.istore_n 3, 1) := by decide +kernel
theorem d_Mo_isRight_7 : decode prog_10_method_13_code 7 = .ok (.aload_n 0, 1) := by decide +kernel
theorem d_Mo_isRight_8 : decode prog_10_method_13_code 8 = .ok (.iload_n 1, 1) := by decide +kernel
theorem d_Mo_isRight_9 : decode prog_10_method_13_code 9 = .ok (.iload_n 2, 1) := by decide +kernel
theorem d_Mo_isRight_10 : decode prog_10_method_13_code 10 = .ok (.invokevirtual 95, 3) := by decide +kernel
theorem d_Mo_isRight_13 : decode prog_10_method_13_code 13 = .ok (.istore 4, 2) := by decide +kernel
theorem d_Mo_isRight_15 : decode prog_10_method_13_code 15 = .ok (.aload_n 0, 1) := by decide +kernel
theorem d_Mo_isRight_16 : decode prog_10_method_13_code 16 = .ok (.iload_n 1, 1) := by decide +kernel
theorem d_Mo_isRight_17 : decode prog_10_method_13_code 17 = .ok (.iload_n 2, 1) := by decide +kernel
theorem d_Mo_isRight_18 : decode prog_10_method_13_code 18 = .ok (.invokevirtual 98, 3) := by decide +kernel
theorem d_Mo_isRight_21 : decode prog_10_method_13_code 21 = .ok (.istore 5, 2) := by decide +kernel
theorem d_Mo_isRight_23 : decode prog_10_method_13_code 23 = .ok (.iload_n 3, 1) := by decide +kernel
theorem d_Mo_isRight_24 : decode prog_10_method_13_code 24 = .ok (.lookupswitch 163 #[(0, 44), (1, 76), (9, 108), (10, 133)], 44) := by decide +kernel
theorem d_Mo_isRight_68 : decode prog_10_method_13_code 68 = .ok (.aload_n 0, 1) := by decide +kernel
theorem d_Mo_isRight_69 : decode prog_10_method_13_code 69 = .ok (.getfield 22, 3) := by decide +kernel
theorem d_Mo_isRight_72 : decode prog_10_method_13_code 72 = .ok (.iload 4, 2) := by decide +kernel
theorem d_Mo_isRight_74 : decode prog_10_method_13_code 74 = .ok (.iaload, 1) := by decide +kernel
theorem d_Mo_isRight_75 : decode prog_10_method_13_code 75 = .ok (.ifCond .lt 19, 3) := by decide +kernel
theorem d_Mo_isRight_78 : decode prog_10_method_13_code 78 = .ok (.iload 5, 2) := by decide +kernel
theorem d_Mo_isRight_80 : decode prog_10_method_13_code 80 = .ok (.aload_n 0, 1) := by decide +kernel
theorem d_Mo_isRight_81 : decode prog_10_method_13_code 81 = .ok (.getfield 22, 3) := by decide +kernel
theorem d_Mo_isRight_84 : decode prog_10_method_13_code 84 = .ok (.iload 4, 2) := by decide +kernel
theorem d_Mo_isRight_86 : decode prog_10_method_13_code 86 = .ok (.iaload, 1) := by decide +kernel
theorem d_Mo_isRight_87 : decode prog_10_method_13_code 87 = .ok (.ishr, 1) := by decide +kernel
theorem d_Mo_isRight_88 : decode prog_10_method_13_code 88 = .ok (.iconst 1, 1) := by decide +kernel
theorem d_Mo_isRight_89 : decode prog_10_method_13_code 89 = .ok (.iand, 1) := by decide +kernel
theorem d_Mo_isRight_90 : decode prog_10_method_13_code 90 = .ok (.iconst 1, 1) := by decide +kernel
theorem d_Mo_isRight_91 : decode prog_10_method_13_code 91 = .ok (.if_icmp .ne 7, 3) := by decide +kernel
theorem d_Mo_isRight_94 : decode prog_10_method_13_code 94 = .ok (.iconst 1, 1) := by decide +kernel
theorem d_Mo_isRight_95 : decode prog_10_method_13_code 95 = .ok (.goto 4, 3) := by decide +kernel
theorem d_Mo_isRight_98 : decode prog_10_method_13_code 98 = .ok (.iconst 0, 1) := by decide +kernel
theorem d_Mo_isRight_99 : decode prog_10_method_13_code 99 = .ok (.ireturn, 1) := by decide +kernel
theorem d_Mo_isRight_100 : decode prog_10_method_13_code 100 = .ok (.aload_n 0, 1) := by decide +kernel
theorem d_Mo_isRight_101 : decode prog_10_method_13_code 101 = .ok (.getfield 22, 3) := by decide +kernel
theorem d_Mo_isRight_104 : decode prog_10_method_13_code 104 = .ok (.iload 4, 2) := by decide +kernel
theorem d_Mo_isRight_106 : decode prog_10_method_13_code 106 = .ok (.iaload, 1) := by decide +kernel
theorem d_Mo_isRight_107 : decode prog_10_method_13_code 107 = .ok (.ifCond .lt 23, 3) := by decide +kernel
theorem d_Mo_isRight_110 : decode prog_10_method_13_code 110 = .ok (.iload 5, 2) := by decide +kernel
theorem d_Mo_isRight_112 : decode prog_10_method_13_code 112 = .ok (.aload_n 0, 1) := by decide +kernel
theorem d_Mo_isRight_113 : decode prog_10_method_13_code 113 = .ok (.getfield 22, 3) := by decide +kernel
theorem d_Mo_isRight_116 : decode prog_10_method_13_code 116 = .ok (.iload 4, 2) := by decide +kernel
theorem d_Mo_isRight_118 : decode prog_10_method_13_code 118 = .ok (.iaload, 1) := by decide +kernel
theorem d_Mo_isRight_119 : decode prog_10_method_13_code 119 = .ok (.ishr, 1) := by decide +kernel
theorem d_Mo_isRight_120 : decode prog_10_method_13_code 120 = .ok (.iconst 1, 1) := by decide +kernel
theorem d_Mo_isRight_121 : decode prog_10_method_13_code 121 = .ok (.iand, 1) := by decide +kernel
theorem d_Mo_isRight_122 : decode prog_10_method_13_code 122 = .ok (.iconst 1, 1) := by decide +kernel
theorem d_Mo_isRight_123 : decode prog_10_method_13_code 123 = .ok (.if_icmp .ne 7, 3) := by decide +kernel
theorem d_Mo_isRight_126 : decode prog_10_method_13_code 126 = .ok (.iconst 1, 1) := by decide +kernel
theorem d_Mo_isRight_127 : decode prog_10_method_13_code 127 = .ok (.goto 4, 3) := by decide +kernel
theorem d_Mo_isRight_130 : decode prog_10_method_13_code 130 = .ok (.iconst 0, 1) := by decide +kernel
theorem d_Mo_isRight_131 : decode prog_10_method_13_code 131 = .ok (.ireturn, 1) := by decide +kernel
theorem d_Mo_isRight_132 : decode prog_10_method_13_code 132 = .ok (.iload 4, 2) := by decide +kernel
theorem d_Mo_isRight_134 : decode prog_10_method_13_code 134 = .ok (.aload_n 0, 1) := by decide +kernel
theorem d_Mo_isRight_135 : decode prog_10_method_13_code 135 = .ok (.getfield 87, 3) := by decide +kernel
theorem d_Mo_isRight_138 : decode prog_10_method_13_code 138 = .ok (.if_icmp .ge 17, 3) := by decide +kernel
theorem d_Mo_isRight_141 : decode prog_10_method_13_code 141 = .ok (.aload_n 0, 1) := by decide +kernel
theorem d_Mo_isRight_142 : decode prog_10_method_13_code 142 = .ok (.getfield 19, 3) := by decide +kernel
theorem d_Mo_isRight_145 : decode prog_10_method_13_code 145 = .ok (.iload 4, 2) := by decide +kernel
theorem d_Mo_isRight_147 : decode prog_10_method_13_code 147 = .ok (.iaload, 1) := by decide +kernel
theorem d_Mo_isRight_148 : decode prog_10_method_13_code 148 = .ok (.ifCond .ne 7, 3) := by decide +kernel
theorem d_Mo_isRight_151 : decode prog_10_method_13_code 151 = .ok (.iconst 1, 1) := by decide +kernel
theorem d_Mo_isRight_152 : decode prog_10_method_13_code 152 = .ok (.goto 4, 3) := by decide +kernel
theorem d_Mo_isRight_155 : decode prog_10_method_13_code 155 = .ok (.iconst 0, 1) := by decide +kernel
theorem d_Mo_isRight_156 : decode prog_10_method_13_code 156 = .ok (.ireturn, 1) := by decide +kernel
theorem d_Mo_isRight_157 : decode prog_10_method_13_code 157 = .ok (.iload 4, 2) := by decide +kernel
theorem d_Mo_isRight_159 : decode prog_10_method_13_code 159 = .ok (.aload_n 0, 1) := by decide +kernel
theorem d_Mo_isRight_160 : decode prog_10_method_13_code 160 = .ok (.getfield 87, 3) := by decide +kernel
theorem d_Mo_isRight_163 : decode prog_10_method_13_code 163 = .ok (.if_icmp .ge 22, 3) := by decide +kernel
theorem d_Mo_isRight_166 : decode prog_10_method_13_code 166 = .ok (.aload_n 0, 1) := by decide +kernel
theorem d_Mo_isRight_167 : decode prog_10_method_13_code 167 = .ok (.getfield 19, 3) := by decide +kernel
theorem d_Mo_isRight_170 : decode prog_10_method_13_code 170 = .ok (.iload 4, 2) := by decide +kernel
theorem d_Mo_isRight_172 : decode prog_10_method_13_code 172 = .ok (.iaload, 1) := by decide +kernel
theorem d_Mo_isRight_173 : decode prog_10_method_13_code 173 = .ok (.iload 5, 2) := by decide +kernel
theorem d_Mo_isRight_175 : decode prog_10_method_13_code 175 = .ok (.iconst (-1), 1) := by decide +kernel
theorem d_Mo_isRight_176 : decode prog_10_method_13_code 176 = .ok (.ixor, 1) := by decide +kernel
theorem d_Mo_isRight_177 : decode prog_10_method_13_code 177 = .ok (.iand, 1) := by decide +kernel
theorem d_Mo_isRight_178 : decode prog_10_method_13_code 178 = .ok (.ifCond .ne 7, 3) := by decide +kernel
theorem d_Mo_isRight_181 : decode prog_10_method_13_code 181 = .ok (.iconst 1, 1) := by decide +kernel
theorem d_Mo_isRight_182 : decode prog_10_method_13_code 182 = .ok (.goto 4, 3) := by decide +kernel
theorem d_Mo_isRight_185 : decode prog_10_method_13_code 185 = .ok (.iconst 0, 1) := by decide +kernel
theorem d_Mo_isRight_186 : decode prog_10_method_13_code 186 = .ok (.ireturn, 1) := by decide +kernel
theorem d_Mo_isRight_187 : decode prog_10_method_13_code 187 = .ok (.iconst 1, 1) := by decide +kernel
theorem d_Mo_isRight_188 : decode prog_10_method_13_code 188 = .ok (.ireturn, 1) := by decide +kernel
def tb_Mo_isRight : List pm_I := [
  pm_aload 1 0,
  pm_iload 2 1,
  pm_iload 3 2,
  pm_callv 4 74 3 8,
  pm_istore 5 3,
  pm_aload 6 0,
  pm_iload 7 1,
  pm_iload 8 2,
  pm_callv 9 78 3 8,
  pm_istore 10 4,
  pm_aload 11 0,
  pm_iload 12 1,
  pm_iload 13 2,
  pm_callv 14 82 3 8,
  pm_istore 15 5,
  pm_iload 16 3,
  pm_sw [(0, 17), (1, 36), (9, 55), (10, 68)] 85,
  pm_aload 18 0,
  pm_getr 19 8 5,
  pm_iload 20 4,
  pm_iald 21 0,
  pm_if 32 22 (fun a => decide (a < 0)),
  pm_iload 23 5,
  pm_aload 24 0,
  pm_getr 25 8 5,
  pm_iload 26 4,
  pm_iald 27 0,
  pm_bin 28 (fun a b => a >>> (b &&& 31)),
  pm_const 29 1,
  pm_bin 30 (fun a b => a &&& b),
  pm_const 31 1,
  pm_icmp 34 32 (fun a b => decide (a ≠ b)),
  pm_const 33 1,
  pm_goto 35,
  pm_const 35 0,
  pm_zret,
  pm_aload 37 0,
  pm_getr 38 8 5,
  pm_iload 39 4,
  pm_iald 40 0,
  pm_if 53 41 (fun a => decide (a < 0)),
  pm_iload 42 5,
  pm_aload 43 0,
  pm_getr 44 8 5,
  pm_iload 45 4,
  pm_iald 46 0,
  pm_bin 47 (fun a b => a >>> (b &&& 31)),
  pm_const 48 1,
  pm_bin 49 (fun a b => a &&& b),
  pm_const 50 1,
  pm_icmp 53 51 (fun a b => decide (a ≠ b)),
  pm_const 52 1,
  pm_goto 54,
  pm_const 54 0,
  pm_zret,
  pm_iload 56 4,
  pm_aload 57 0,
  pm_geti 58 8 4,
  pm_icmp 66 59 (fun a b => decide (b ≤ a)),
  pm_aload 60 0,
  pm_getr 61 8 3,
  pm_iload 62 4,
  pm_iald 63 0,
  pm_if 66 64 (fun a => decide (a ≠ 0)),
  pm_const 65 1,
  pm_goto 67,
  pm_const 67 0,
  pm_zret,
  pm_iload 69 4,
  pm_aload 70 0,
  pm_geti 71 8 4,
  pm_icmp 83 72 (fun a b => decide (b ≤ a)),
  pm_aload 73 0,
  pm_getr 74 8 3,
  pm_iload 75 4,
  pm_iald 76 0,
  pm_iload 77 5,
  pm_const 78 (-1),
  pm_bin 79 (fun a b => a ^^^ b),
  pm_bin 80 (fun a b => a &&& b),
  pm_if 83 81 (fun a => decide (a ≠ 0)),
  pm_const 82 1,
  pm_goto 84,
  pm_const 84 0,
  pm_zret,
  pm_const 86 1,
  pm_zret]
def bp_Mo_isRight : List Nat := [0, 1, 2, 3, 6, 7, 8, 9, 10, 13, 15, 16, 17, 18, 21, 23, 24, 68, 69, 72, 74, 75, 78, 80, 81, 84, 86, 87, 88, 89, 90, 91, 94, 95, 98, 99, 100, 101, 104, 106, 107, 110, 112, 113, 116, 118, 119, 120, 121, 122, 123, 126, 127, 130, 131, 132, 134, 135, 138, 141, 142, 145, 147, 148, 151, 152, 155, 156, 157, 159, 160, 163, 166, 167, 170, 172, 173, 175, 176, 177, 178, 181, 182, 185, 186, 187, 188]
set_option maxRecDepth 100000 in
theorem sd_Mo_isRight : pm_Sl prog_10_method_13_code 6 R_Mo "isRight" (some .boolean) pm_Y (pm_b bp_Mo_isRight) 0 tb_Mo_isRight := by
  refine ⟨so_aloadn d_Mo_isRight_0 rfl rfl, ?_⟩
  refine ⟨so_iloadn d_Mo_isRight_1 rfl rfl, ?_⟩
  refine ⟨so_iloadn d_Mo_isRight_2 rfl rfl, ?_⟩
  refine ⟨so_callv (ci := 8) rfl rfl mc_Mo_kindAt mi_Mo mj_Mo_kindAt ms_Mo_kindAt ml_Mo_72 yd_Mo_kindAt (by decide) d_Mo_isRight_3 rfl, ?_⟩
  refine ⟨so_istoren d_Mo_isRight_6 rfl (by decide) rfl, ?_⟩
  refine ⟨so_aloadn d_Mo_isRight_7 rfl rfl, ?_⟩
  refine ⟨so_iloadn d_Mo_isRight_8 rfl rfl, ?_⟩
  refine ⟨so_iloadn d_Mo_isRight_9 rfl rfl, ?_⟩
  refine ⟨so_callv (ci := 8) rfl rfl mc_Mo_numberAt mi_Mo mj_Mo_numberAt ms_Mo_numberAt ml_Mo_95 yd_Mo_numberAt (by decide) d_Mo_isRight_10 rfl, ?_⟩
  refine ⟨so_istore d_Mo_isRight_13 (by decide) rfl, ?_⟩
  refine ⟨so_aloadn d_Mo_isRight_15 rfl rfl, ?_⟩
  refine ⟨so_iloadn d_Mo_isRight_16 rfl rfl, ?_⟩
  refine ⟨so_iloadn d_Mo_isRight_17 rfl rfl, ?_⟩
  refine ⟨so_callv (ci := 8) rfl rfl mc_Mo_heldAt mi_Mo mj_Mo_heldAt ms_Mo_heldAt ml_Mo_98 yd_Mo_heldAt (by decide) d_Mo_isRight_18 rfl, ?_⟩
  refine ⟨so_istore d_Mo_isRight_21 (by decide) rfl, ?_⟩
  refine ⟨so_iloadn d_Mo_isRight_23 rfl rfl, ?_⟩
  refine ⟨so_lsw d_Mo_isRight_24 (by decide +kernel) (by decide +kernel) rfl, ?_⟩
  refine ⟨so_aloadn d_Mo_isRight_68 rfl rfl, ?_⟩
  refine ⟨so_getr (ci := 8) (k := 5) rfl (by decide) rfl rfl fl_Mo_22 d_Mo_isRight_69 rfl, ?_⟩
  refine ⟨so_iload d_Mo_isRight_72 rfl, ?_⟩
  refine ⟨so_iald d_Mo_isRight_74 rfl, ?_⟩
  refine ⟨so_if_lt d_Mo_isRight_75 rfl rfl, ?_⟩
  refine ⟨so_iload d_Mo_isRight_78 rfl, ?_⟩
  refine ⟨so_aloadn d_Mo_isRight_80 rfl rfl, ?_⟩
  refine ⟨so_getr (ci := 8) (k := 5) rfl (by decide) rfl rfl fl_Mo_22 d_Mo_isRight_81 rfl, ?_⟩
  refine ⟨so_iload d_Mo_isRight_84 rfl, ?_⟩
  refine ⟨so_iald d_Mo_isRight_86 rfl, ?_⟩
  refine ⟨so_ishr d_Mo_isRight_87 rfl, ?_⟩
  refine ⟨so_const1 d_Mo_isRight_88 (by decide) rfl, ?_⟩
  refine ⟨so_iand d_Mo_isRight_89 rfl, ?_⟩
  refine ⟨so_const1 d_Mo_isRight_90 (by decide) rfl, ?_⟩
  refine ⟨so_icmp_ne d_Mo_isRight_91 rfl rfl, ?_⟩
  refine ⟨so_const1 d_Mo_isRight_94 (by decide) rfl, ?_⟩
  refine ⟨so_goto d_Mo_isRight_95 rfl, ?_⟩
  refine ⟨so_const1 d_Mo_isRight_98 (by decide) rfl, ?_⟩
  refine ⟨so_zret d_Mo_isRight_99 rfl, ?_⟩
  refine ⟨so_aloadn d_Mo_isRight_100 rfl rfl, ?_⟩
  refine ⟨so_getr (ci := 8) (k := 5) rfl (by decide) rfl rfl fl_Mo_22 d_Mo_isRight_101 rfl, ?_⟩
  refine ⟨so_iload d_Mo_isRight_104 rfl, ?_⟩
  refine ⟨so_iald d_Mo_isRight_106 rfl, ?_⟩
  refine ⟨so_if_lt d_Mo_isRight_107 rfl rfl, ?_⟩
  refine ⟨so_iload d_Mo_isRight_110 rfl, ?_⟩
  refine ⟨so_aloadn d_Mo_isRight_112 rfl rfl, ?_⟩
  refine ⟨so_getr (ci := 8) (k := 5) rfl (by decide) rfl rfl fl_Mo_22 d_Mo_isRight_113 rfl, ?_⟩
  refine ⟨so_iload d_Mo_isRight_116 rfl, ?_⟩
  refine ⟨so_iald d_Mo_isRight_118 rfl, ?_⟩
  refine ⟨so_ishr d_Mo_isRight_119 rfl, ?_⟩
  refine ⟨so_const1 d_Mo_isRight_120 (by decide) rfl, ?_⟩
  refine ⟨so_iand d_Mo_isRight_121 rfl, ?_⟩
  refine ⟨so_const1 d_Mo_isRight_122 (by decide) rfl, ?_⟩
  refine ⟨so_icmp_ne d_Mo_isRight_123 rfl rfl, ?_⟩
  refine ⟨so_const1 d_Mo_isRight_126 (by decide) rfl, ?_⟩
  refine ⟨so_goto d_Mo_isRight_127 rfl, ?_⟩
  refine ⟨so_const1 d_Mo_isRight_130 (by decide) rfl, ?_⟩
  refine ⟨so_zret d_Mo_isRight_131 rfl, ?_⟩
  refine ⟨so_iload d_Mo_isRight_132 rfl, ?_⟩
  refine ⟨so_aloadn d_Mo_isRight_134 rfl rfl, ?_⟩
  refine ⟨so_geti (ci := 8) (k := 4) rfl (by decide) rfl rfl fl_Mo_87 d_Mo_isRight_135 rfl, ?_⟩
  refine ⟨so_icmp_ge d_Mo_isRight_138 rfl rfl, ?_⟩
  refine ⟨so_aloadn d_Mo_isRight_141 rfl rfl, ?_⟩
  refine ⟨so_getr (ci := 8) (k := 3) rfl (by decide) rfl rfl fl_Mo_19 d_Mo_isRight_142 rfl, ?_⟩
  refine ⟨so_iload d_Mo_isRight_145 rfl, ?_⟩
  refine ⟨so_iald d_Mo_isRight_147 rfl, ?_⟩
  refine ⟨so_if_ne d_Mo_isRight_148 rfl rfl, ?_⟩
  refine ⟨so_const1 d_Mo_isRight_151 (by decide) rfl, ?_⟩
  refine ⟨so_goto d_Mo_isRight_152 rfl, ?_⟩
  refine ⟨so_const1 d_Mo_isRight_155 (by decide) rfl, ?_⟩
  refine ⟨so_zret d_Mo_isRight_156 rfl, ?_⟩
  refine ⟨so_iload d_Mo_isRight_157 rfl, ?_⟩
  refine ⟨so_aloadn d_Mo_isRight_159 rfl rfl, ?_⟩
  refine ⟨so_geti (ci := 8) (k := 4) rfl (by decide) rfl rfl fl_Mo_87 d_Mo_isRight_160 rfl, ?_⟩
  refine ⟨so_icmp_ge d_Mo_isRight_163 rfl rfl, ?_⟩
  refine ⟨so_aloadn d_Mo_isRight_166 rfl rfl, ?_⟩
  refine ⟨so_getr (ci := 8) (k := 3) rfl (by decide) rfl rfl fl_Mo_19 d_Mo_isRight_167 rfl, ?_⟩
  refine ⟨so_iload d_Mo_isRight_170 rfl, ?_⟩
  refine ⟨so_iald d_Mo_isRight_172 rfl, ?_⟩
  refine ⟨so_iload d_Mo_isRight_173 rfl, ?_⟩
  refine ⟨so_const1 d_Mo_isRight_175 (by decide) rfl, ?_⟩
  refine ⟨so_ixor d_Mo_isRight_176 rfl, ?_⟩
  refine ⟨so_iand d_Mo_isRight_177 rfl, ?_⟩
  refine ⟨so_if_ne d_Mo_isRight_178 rfl rfl, ?_⟩
  refine ⟨so_const1 d_Mo_isRight_181 (by decide) rfl, ?_⟩
  refine ⟨so_goto d_Mo_isRight_182 rfl, ?_⟩
  refine ⟨so_const1 d_Mo_isRight_185 (by decide) rfl, ?_⟩
  refine ⟨so_zret d_Mo_isRight_186 rfl, ?_⟩
  refine ⟨so_const1 d_Mo_isRight_187 (by decide) rfl, ?_⟩
  refine ⟨so_zret d_Mo_isRight_188 rfl, ?_⟩
  exact trivial
theorem d_Mo_heldAt_0 : decode prog_10_method_12_code 0 = .ok (.aload_n 0, 1) := by decide +kernel
theorem d_Mo_heldAt_1 : decode prog_10_method_12_code 1 = .ok (.getfield 19, 3) := by decide +kernel
theorem d_Mo_heldAt_4 : decode prog_10_method_12_code 4 = .ok (.iload_n 1, 1) := by decide +kernel
theorem d_Mo_heldAt_5 : decode prog_10_method_12_code 5 = .ok (.iaload, 1) := by decide +kernel
theorem d_Mo_heldAt_6 : decode prog_10_method_12_code 6 = .ok (.istore_n 3, 1) := by decide +kernel
theorem d_Mo_heldAt_7 : decode prog_10_method_12_code 7 = .ok (.aload_n 0, 1) := by decide +kernel
theorem d_Mo_heldAt_8 : decode prog_10_method_12_code 8 = .ok (.iload_n 1, 1) := by decide +kernel
theorem d_Mo_heldAt_9 : decode prog_10_method_12_code 9 = .ok (.iload_n 2, 1) := by decide +kernel
theorem d_Mo_heldAt_10 : decode prog_10_method_12_code 10 = .ok (.invokevirtual 80, 3) := by decide +kernel
theorem d_Mo_heldAt_13 : decode prog_10_method_12_code 13 = .ok (.istore 4, 2) := by decide +kernel
theorem d_Mo_heldAt_15 : decode prog_10_method_12_code 15 = .ok (.iload 4, 2) := by decide +kernel
theorem d_Mo_heldAt_17 : decode prog_10_method_12_code 17 = .ok (.ifCond .lt 38, 3) := by decide +kernel
theorem d_Mo_heldAt_20 : decode prog_10_method_12_code 20 = .ok (.aload_n 0, 1) := by decide +kernel
theorem d_Mo_heldAt_21 : decode prog_10_method_12_code 21 = .ok (.iload_n 1, 1) := by decide +kernel
theorem d_Mo_heldAt_22 : decode prog_10_method_12_code 22 = .ok (.iload 4, 2) := by decide +kernel
theorem d_Mo_heldAt_24 : decode prog_10_method_12_code 24 = .ok (.invokevirtual 72, 3) := by decide +kernel
theorem d_Mo_heldAt_27 : decode prog_10_method_12_code 27 = .ok (.iconst 4, 1) := by decide +kernel
theorem d_Mo_heldAt_28 : decode prog_10_method_12_code 28 = .ok (.if_icmp .ne 15, 3) := by decide +kernel
theorem d_Mo_heldAt_31 : decode prog_10_method_12_code 31 = .ok (.iload_n 3, 1) := by decide +kernel
theorem d_Mo_heldAt_32 : decode prog_10_method_12_code 32 = .ok (.iconst 1, 1) := by decide +kernel
theorem d_Mo_heldAt_33 : decode prog_10_method_12_code 33 = .ok (.aload_n 0, 1) := by decide +kernel
theorem d_Mo_heldAt_34 : decode prog_10_method_12_code 34 = .ok (.iload_n 1, 1) := by decide +kernel
theorem d_Mo_heldAt_35 : decode prog_10_method_12_code 35 = .ok (.iload 4, 2) := by decide +kernel
theorem d_Mo_heldAt_37 : decode prog_10_method_12_code 37 = .ok (.invokevirtual 95, 3) := by decide +kernel
theorem d_Mo_heldAt_40 : decode prog_10_method_12_code 40 = .ok (.ishl, 1) := by decide +kernel
theorem d_Mo_heldAt_41 : decode prog_10_method_12_code 41 = .ok (.ior, 1) := by decide +kernel
theorem d_Mo_heldAt_42 : decode prog_10_method_12_code 42 = .ok (.istore_n 3, 1) := by decide +kernel
theorem d_Mo_heldAt_43 : decode prog_10_method_12_code 43 = .ok (.aload_n 0, 1) := by decide +kernel
theorem d_Mo_heldAt_44 : decode prog_10_method_12_code 44 = .ok (.iload_n 1, 1) := by decide +kernel
theorem d_Mo_heldAt_45 : decode prog_10_method_12_code 45 = .ok (.iload 4, 2) := by decide +kernel
theorem d_Mo_heldAt_47 : decode prog_10_method_12_code 47 = .ok (.invokevirtual 80, 3) := by decide +kernel
theorem d_Mo_heldAt_50 : decode prog_10_method_12_code 50 = .ok (.istore 4, 2) := by decide +kernel
theorem d_Mo_heldAt_52 : decode prog_10_method_12_code 52 = .ok (.goto (-37), 3) := by decide +kernel
theorem d_Mo_heldAt_55 : decode prog_10_method_12_code 55 = .ok (.iload_n 3, 1) := by decide +kernel
theorem d_Mo_heldAt_56 : decode prog_10_method_12_code 56 = .ok (.ireturn, 1) := by decide +kernel
def tb_Mo_heldAt : List pm_I := [
  pm_aload 1 0,
  pm_getr 2 8 3,
  pm_iload 3 1,
  pm_iald 4 0,
  pm_istore 5 3,
  pm_aload 6 0,
  pm_iload 7 1,
  pm_iload 8 2,
  pm_callv 9 75 3 8,
  pm_istore 10 4,
  pm_iload 11 4,
  pm_if 33 12 (fun a => decide (a < 0)),
  pm_aload 13 0,
  pm_iload 14 1,
  pm_iload 15 4,
  pm_callv 16 74 3 8,
  pm_const 17 4,
  pm_icmp 27 18 (fun a b => decide (a ≠ b)),
  pm_iload 19 3,
  pm_const 20 1,
  pm_aload 21 0,
  pm_iload 22 1,
  pm_iload 23 4,
  pm_callv 24 78 3 8,
  pm_bin 25 (fun a b => a <<< (b &&& 31)),
  pm_bin 26 (fun a b => a ||| b),
  pm_istore 27 3,
  pm_aload 28 0,
  pm_iload 29 1,
  pm_iload 30 4,
  pm_callv 31 75 3 8,
  pm_istore 32 4,
  pm_goto 10,
  pm_iload 34 3,
  pm_iret]
def bp_Mo_heldAt : List Nat := [0, 1, 4, 5, 6, 7, 8, 9, 10, 13, 15, 17, 20, 21, 22, 24, 27, 28, 31, 32, 33, 34, 35, 37, 40, 41, 42, 43, 44, 45, 47, 50, 52, 55, 56]
set_option maxRecDepth 100000 in
theorem sd_Mo_heldAt : pm_Sl prog_10_method_12_code 5 R_Mo "heldAt" (some .int) pm_Y (pm_b bp_Mo_heldAt) 0 tb_Mo_heldAt := by
  refine ⟨so_aloadn d_Mo_heldAt_0 rfl rfl, ?_⟩
  refine ⟨so_getr (ci := 8) (k := 3) rfl (by decide) rfl rfl fl_Mo_19 d_Mo_heldAt_1 rfl, ?_⟩
  refine ⟨so_iloadn d_Mo_heldAt_4 rfl rfl, ?_⟩
  refine ⟨so_iald d_Mo_heldAt_5 rfl, ?_⟩
  refine ⟨so_istoren d_Mo_heldAt_6 rfl (by decide) rfl, ?_⟩
  refine ⟨so_aloadn d_Mo_heldAt_7 rfl rfl, ?_⟩
  refine ⟨so_iloadn d_Mo_heldAt_8 rfl rfl, ?_⟩
  refine ⟨so_iloadn d_Mo_heldAt_9 rfl rfl, ?_⟩
  refine ⟨so_callv (ci := 8) rfl rfl mc_Mo_openerOf mi_Mo mj_Mo_openerOf ms_Mo_openerOf ml_Mo_80 yd_Mo_openerOf (by decide) d_Mo_heldAt_10 rfl, ?_⟩
  refine ⟨so_istore d_Mo_heldAt_13 (by decide) rfl, ?_⟩
  refine ⟨so_iload d_Mo_heldAt_15 rfl, ?_⟩
  refine ⟨so_if_lt d_Mo_heldAt_17 rfl rfl, ?_⟩
  refine ⟨so_aloadn d_Mo_heldAt_20 rfl rfl, ?_⟩
  refine ⟨so_iloadn d_Mo_heldAt_21 rfl rfl, ?_⟩
  refine ⟨so_iload d_Mo_heldAt_22 rfl, ?_⟩
  refine ⟨so_callv (ci := 8) rfl rfl mc_Mo_kindAt mi_Mo mj_Mo_kindAt ms_Mo_kindAt ml_Mo_72 yd_Mo_kindAt (by decide) d_Mo_heldAt_24 rfl, ?_⟩
  refine ⟨so_const1 d_Mo_heldAt_27 (by decide) rfl, ?_⟩
  refine ⟨so_icmp_ne d_Mo_heldAt_28 rfl rfl, ?_⟩
  refine ⟨so_iloadn d_Mo_heldAt_31 rfl rfl, ?_⟩
  refine ⟨so_const1 d_Mo_heldAt_32 (by decide) rfl, ?_⟩
  refine ⟨so_aloadn d_Mo_heldAt_33 rfl rfl, ?_⟩
  refine ⟨so_iloadn d_Mo_heldAt_34 rfl rfl, ?_⟩
  refine ⟨so_iload d_Mo_heldAt_35 rfl, ?_⟩
  refine ⟨so_callv (ci := 8) rfl rfl mc_Mo_numberAt mi_Mo mj_Mo_numberAt ms_Mo_numberAt ml_Mo_95 yd_Mo_numberAt (by decide) d_Mo_heldAt_37 rfl, ?_⟩
  refine ⟨so_ishl d_Mo_heldAt_40 rfl, ?_⟩
  refine ⟨so_ior d_Mo_heldAt_41 rfl, ?_⟩
  refine ⟨so_istoren d_Mo_heldAt_42 rfl (by decide) rfl, ?_⟩
  refine ⟨so_aloadn d_Mo_heldAt_43 rfl rfl, ?_⟩
  refine ⟨so_iloadn d_Mo_heldAt_44 rfl rfl, ?_⟩
  refine ⟨so_iload d_Mo_heldAt_45 rfl, ?_⟩
  refine ⟨so_callv (ci := 8) rfl rfl mc_Mo_openerOf mi_Mo mj_Mo_openerOf ms_Mo_openerOf ml_Mo_80 yd_Mo_openerOf (by decide) d_Mo_heldAt_47 rfl, ?_⟩
  refine ⟨so_istore d_Mo_heldAt_50 (by decide) rfl, ?_⟩
  refine ⟨so_goto d_Mo_heldAt_52 rfl, ?_⟩
  refine ⟨so_iloadn d_Mo_heldAt_55 rfl rfl, ?_⟩
  refine ⟨so_iret d_Mo_heldAt_56 rfl, ?_⟩
  exact trivial
theorem d_Mo_sound_0 : decode prog_10_method_15_code 0 = .ok (.iconst 0, 1) := by decide +kernel
theorem d_Mo_sound_1 : decode prog_10_method_15_code 1 = .ok (.istore_n 1, 1) := by decide +kernel
theorem d_Mo_sound_2 : decode prog_10_method_15_code 2 = .ok (.iload_n 1, 1) := by decide +kernel
theorem d_Mo_sound_3 : decode prog_10_method_15_code 3 = .ok (.aload_n 0, 1) := by decide +kernel
theorem d_Mo_sound_4 : decode prog_10_method_15_code 4 = .ok (.getfield 87, 3) := by decide +kernel
theorem d_Mo_sound_7 : decode prog_10_method_15_code 7 = .ok (.if_icmp .ge 25, 3) := by decide +kernel
theorem d_Mo_sound_10 : decode prog_10_method_15_code 10 = .ok (.aload_n 0, 1) := by decide +kernel
theorem d_Mo_sound_11 : decode prog_10_method_15_code 11 = .ok (.iload_n 1, 1) := by decide +kernel
theorem d_Mo_sound_12 : decode prog_10_method_15_code 12 = .ok (.invokevirtual 104, 3) := by decide +kernel
theorem d_Mo_sound_15 : decode prog_10_method_15_code 15 = .ok (.aload_n 0, 1) := by decide +kernel
theorem d_Mo_sound_16 : decode prog_10_method_15_code 16 = .ok (.getfield 16, 3) := by decide +kernel
theorem d_Mo_sound_19 : decode prog_10_method_15_code 19 = .ok (.iload_n 1, 1) := by decide +kernel
theorem d_Mo_sound_20 : decode prog_10_method_15_code 20 = .ok (.iaload, 1) := by decide +kernel
theorem d_Mo_sound_21 : decode prog_10_method_15_code 21 = .ok (.if_icmp .ge 5, 3) := by decide +kernel
theorem d_Mo_sound_24 : decode prog_10_method_15_code 24 = .ok (.iconst 0, 1) := by decide +kernel
theorem d_Mo_sound_25 : decode prog_10_method_15_code 25 = .ok (.ireturn, 1) := by decide +kernel
theorem d_Mo_sound_26 : decode prog_10_method_15_code 26 = .ok (.iinc 1 1, 3) := by decide +kernel
theorem d_Mo_sound_29 : decode prog_10_method_15_code 29 = .ok (.goto (-27), 3) := by decide +kernel
theorem d_Mo_sound_32 : decode prog_10_method_15_code 32 = .ok (.iconst 1, 1) := by decide +kernel
theorem d_Mo_sound_33 : decode prog_10_method_15_code 33 = .ok (.ireturn, 1) := by decide +kernel
def tb_Mo_sound : List pm_I := [
  pm_const 1 0,
  pm_istore 2 1,
  pm_iload 3 1,
  pm_aload 4 0,
  pm_geti 5 8 4,
  pm_icmp 18 6 (fun a b => decide (b ≤ a)),
  pm_aload 7 0,
  pm_iload 8 1,
  pm_callv 9 80 2 8,
  pm_aload 10 0,
  pm_getr 11 8 2,
  pm_iload 12 1,
  pm_iald 13 0,
  pm_icmp 16 14 (fun a b => decide (b ≤ a)),
  pm_const 15 0,
  pm_zret,
  pm_iinc 17 1 1,
  pm_goto 2,
  pm_const 19 1,
  pm_zret]
def bp_Mo_sound : List Nat := [0, 1, 2, 3, 4, 7, 10, 11, 12, 15, 16, 19, 20, 21, 24, 25, 26, 29, 32, 33]
set_option maxRecDepth 100000 in
theorem sd_Mo_sound : pm_Sl prog_10_method_15_code 2 R_Mo "sound" (some .boolean) pm_Y (pm_b bp_Mo_sound) 0 tb_Mo_sound := by
  refine ⟨so_const1 d_Mo_sound_0 (by decide) rfl, ?_⟩
  refine ⟨so_istoren d_Mo_sound_1 rfl (by decide) rfl, ?_⟩
  refine ⟨so_iloadn d_Mo_sound_2 rfl rfl, ?_⟩
  refine ⟨so_aloadn d_Mo_sound_3 rfl rfl, ?_⟩
  refine ⟨so_geti (ci := 8) (k := 4) rfl (by decide) rfl rfl fl_Mo_87 d_Mo_sound_4 rfl, ?_⟩
  refine ⟨so_icmp_ge d_Mo_sound_7 rfl rfl, ?_⟩
  refine ⟨so_aloadn d_Mo_sound_10 rfl rfl, ?_⟩
  refine ⟨so_iloadn d_Mo_sound_11 rfl rfl, ?_⟩
  refine ⟨so_callv (ci := 8) rfl rfl mc_Mo_check mi_Mo mj_Mo_check ms_Mo_check ml_Mo_104 yd_Mo_check (by decide) d_Mo_sound_12 rfl, ?_⟩
  refine ⟨so_aloadn d_Mo_sound_15 rfl rfl, ?_⟩
  refine ⟨so_getr (ci := 8) (k := 2) rfl (by decide) rfl rfl fl_Mo_16 d_Mo_sound_16 rfl, ?_⟩
  refine ⟨so_iloadn d_Mo_sound_19 rfl rfl, ?_⟩
  refine ⟨so_iald d_Mo_sound_20 rfl, ?_⟩
  refine ⟨so_icmp_ge d_Mo_sound_21 rfl rfl, ?_⟩
  refine ⟨so_const1 d_Mo_sound_24 (by decide) rfl, ?_⟩
  refine ⟨so_zret d_Mo_sound_25 rfl, ?_⟩
  refine ⟨so_iinc d_Mo_sound_26 (by decide) (by decide) rfl, ?_⟩
  refine ⟨so_goto d_Mo_sound_29 rfl, ?_⟩
  refine ⟨so_const1 d_Mo_sound_32 (by decide) rfl, ?_⟩
  refine ⟨so_zret d_Mo_sound_33 rfl, ?_⟩
  exact trivial
theorem d_Mo_start_0 : decode prog_10_method_19_code 0 = .ok (.iload_n 1, 1) := by decide +kernel
theorem d_Mo_start_1 : decode prog_10_method_19_code 1 = .ok (.aload_n 0, 1) := by decide +kernel
theorem d_Mo_start_2 : decode prog_10_method_19_code 2 = .ok (.getfield 87, 3) := by decide +kernel
theorem d_Mo_start_5 : decode prog_10_method_19_code 5 = .ok (.invokestatic 68, 3) := by decide +kernel
theorem d_Mo_start_8 : decode prog_10_method_19_code 8 = .ok (.ifCond .ne 5, 3) := by decide +kernel
theorem d_Mo_start_11 : decode prog_10_method_19_code 11 = .ok (.iconst 0, 1) := by decide +kernel
theorem d_Mo_start_12 : decode prog_10_method_19_code 12 = .ok (.ireturn, 1) := by decide +kernel
theorem d_Mo_start_13 : decode prog_10_method_19_code 13 = .ok (.aload_n 0, 1) := by decide +kernel
theorem d_Mo_start_14 : decode prog_10_method_19_code 14 = .ok (.iconst 1, 1) := by decide +kernel
theorem d_Mo_start_15 : decode prog_10_method_19_code 15 = .ok (.putfield 119, 3) := by decide +kernel
theorem d_Mo_start_18 : decode prog_10_method_19_code 18 = .ok (.iconst 0, 1) := by decide +kernel
theorem d_Mo_start_19 : decode prog_10_method_19_code 19 = .ok (.istore_n 3, 1) := by decide +kernel
theorem d_Mo_start_20 : decode prog_10_method_19_code 20 = .ok (.iload_n 3, 1) := by decide +kernel
theorem d_Mo_start_21 : decode prog_10_method_19_code 21 = .ok (.bipush 8, 2) := by decide +kernel
theorem d_Mo_start_23 : decode prog_10_method_19_code 23 = .ok (.if_icmp .ge 16, 3) := by decide +kernel
theorem d_Mo_start_26 : decode prog_10_method_19_code 26 = .ok (.aload_n 0, 1) := by decide +kernel
theorem d_Mo_start_27 : decode prog_10_method_19_code 27 = .ok (.getfield 25, 3) := by decide +kernel
theorem d_Mo_start_30 : decode prog_10_method_19_code 30 = .ok (.iload_n 3, 1) := by decide +kernel
theorem d_Mo_start_31 : decode prog_10_method_19_code 31 = .ok (.iconst 0, 1) := by decide +kernel
theorem d_Mo_start_32 : decode prog_10_method_19_code 32 = .ok (.iastore, 1) := by decide +kernel
theorem d_Mo_start_33 : decode prog_10_method_19_code 33 = .ok (.iinc 3 1, 3) := by decide +kernel
theorem d_Mo_start_36 : decode prog_10_method_19_code 36 = .ok (.goto (-16), 3) := by decide +kernel
theorem d_Mo_start_39 : decode prog_10_method_19_code 39 = .ok (.iconst 0, 1) := by decide +kernel
theorem d_Mo_start_40 : decode prog_10_method_19_code 40 = .ok (.istore_n 3, 1) := by decide +kernel
theorem d_Mo_start_41 : decode prog_10_method_19_code 41 = .ok (.iload_n 3, 1) := by decide +kernel
theorem d_Mo_start_42 : decode prog_10_method_19_code 42 = .ok (.iconst 4, 1) := by decide +kernel
theorem d_Mo_start_43 : decode prog_10_method_19_code 43 = .ok (.if_icmp .ge 30, 3) := by decide +kernel
theorem d_Mo_start_46 : decode prog_10_method_19_code 46 = .ok (.aload_n 0, 1) := by decide +kernel
theorem d_Mo_start_47 : decode prog_10_method_19_code 47 = .ok (.getfield 28, 3) := by decide +kernel
theorem d_Mo_start_50 : decode prog_10_method_19_code 50 = .ok (.iload_n 3, 1) := by decide +kernel
theorem d_Mo_start_51 : decode prog_10_method_19_code 51 = .ok (.iconst (-1), 1) := by decide +kernel
theorem d_Mo_start_52 : decode prog_10_method_19_code 52 = .ok (.iastore, 1) := by decide +kernel
theorem d_Mo_start_53 : decode prog_10_method_19_code 53 = .ok (.aload_n 0, 1) := by decide +kernel
theorem d_Mo_start_54 : decode prog_10_method_19_code 54 = .ok (.getfield 31, 3) := by decide +kernel
theorem d_Mo_start_57 : decode prog_10_method_19_code 57 = .ok (.iload_n 3, 1) := by decide +kernel
theorem d_Mo_start_58 : decode prog_10_method_19_code 58 = .ok (.iconst 0, 1) := by decide +kernel
theorem d_Mo_start_59 : decode prog_10_method_19_code 59 = .ok (.iastore, 1) := by decide +kernel
theorem d_Mo_start_60 : decode prog_10_method_19_code 60 = .ok (.aload_n 0, 1) := by decide +kernel
theorem d_Mo_start_61 : decode prog_10_method_19_code 61 = .ok (.getfield 34, 3) := by decide +kernel
theorem d_Mo_start_64 : decode prog_10_method_19_code 64 = .ok (.iload_n 3, 1) := by decide +kernel
theorem d_Mo_start_65 : decode prog_10_method_19_code 65 = .ok (.iconst (-1), 1) := by decide +kernel
theorem d_Mo_start_66 : decode prog_10_method_19_code 66 = .ok (.iastore, 1) := by decide +kernel
theorem d_Mo_start_67 : decode prog_10_method_19_code 67 = .ok (.iinc 3 1, 3) := by decide +kernel
theorem d_Mo_start_70 : decode prog_10_method_19_code 70 = .ok (.goto (-29), 3) := by decide +kernel
theorem d_Mo_start_73 : decode prog_10_method_19_code 73 = .ok (.aload_n 0, 1) := by decide +kernel
theorem d_Mo_start_74 : decode prog_10_method_19_code 74 = .ok (.iconst 0, 1) := by decide +kernel
theorem d_Mo_start_75 : decode prog_10_method_19_code 75 = .ok (.putfield 108, 3) := by decide +kernel
theorem d_Mo_start_78 : decode prog_10_method_19_code 78 = .ok (.aload_n 0, 1) := by decide +kernel
theorem d_Mo_start_79 : decode prog_10_method_19_code 79 = .ok (.iconst 0, 1) := by decide +kernel
theorem d_Mo_start_80 : decode prog_10_method_19_code 80 = .ok (.putfield 123, 3) := by decide +kernel
theorem d_Mo_start_83 : decode prog_10_method_19_code 83 = .ok (.aload_n 0, 1) := by decide +kernel
theorem d_Mo_start_84 : decode prog_10_method_19_code 84 = .ok (.iconst 0, 1) := by decide +kernel
theorem d_Mo_start_85 : decode prog_10_method_19_code 85 = .ok (.putfield 126, 3) := by decide +kernel
theorem d_Mo_start_88 : decode prog_10_method_19_code 88 = .ok (.aload_n 0, 1) := by decide +kernel
theorem d_Mo_start_89 : decode prog_10_method_19_code 89 = .ok (.iload_n 1, 1) := by decide +kernel
theorem d_Mo_start_90 : decode prog_10_method_19_code 90 = .ok (.iload_n 2, 1) := by decide +kernel
theorem d_Mo_start_91 : decode prog_10_method_19_code 91 = .ok (.iconst (-1), 1) := by decide +kernel
theorem d_Mo_start_92 : decode prog_10_method_19_code 92 = .ok (.invokevirtual 129, 3) := by decide +kernel
theorem d_Mo_start_95 : decode prog_10_method_19_code 95 = .ok (.iconst 1, 1) := by decide +kernel
theorem d_Mo_start_96 : decode prog_10_method_19_code 96 = .ok (.ireturn, 1) := by decide +kernel
def tb_Mo_start : List pm_I := [
  pm_iload 1 1,
  pm_aload 2 0,
  pm_geti 3 8 4,
  pm_calls 4 71 2,
  pm_if 7 5 (fun a => decide (a ≠ 0)),
  pm_const 6 0,
  pm_zret,
  pm_aload 8 0,
  pm_const 9 1,
  pm_putz 10 8 6,
  pm_const 11 0,
  pm_istore 12 3,
  pm_iload 13 3,
  pm_const 14 8,
  pm_icmp 22 15 (fun a b => decide (b ≤ a)),
  pm_aload 16 0,
  pm_getr 17 8 7,
  pm_iload 18 3,
  pm_const 19 0,
  pm_iast 20,
  pm_iinc 21 3 1,
  pm_goto 12,
  pm_const 23 0,
  pm_istore 24 3,
  pm_iload 25 3,
  pm_const 26 4,
  pm_icmp 44 27 (fun a b => decide (b ≤ a)),
  pm_aload 28 0,
  pm_getr 29 8 8,
  pm_iload 30 3,
  pm_const 31 (-1),
  pm_iast 32,
  pm_aload 33 0,
  pm_getr 34 8 9,
  pm_iload 35 3,
  pm_const 36 0,
  pm_iast 37,
  pm_aload 38 0,
  pm_getr 39 8 10,
  pm_iload 40 3,
  pm_const 41 (-1),
  pm_iast 42,
  pm_iinc 43 3 1,
  pm_goto 24,
  pm_aload 45 0,
  pm_const 46 0,
  pm_puti 47 8 11,
  pm_aload 48 0,
  pm_const 49 0,
  pm_puti 50 8 17,
  pm_aload 51 0,
  pm_const 52 0,
  pm_puti 53 8 22,
  pm_aload 54 0,
  pm_iload 55 1,
  pm_iload 56 2,
  pm_const 57 (-1),
  pm_callv 58 85 4 8,
  pm_const 59 1,
  pm_zret]
def bp_Mo_start : List Nat := [0, 1, 2, 5, 8, 11, 12, 13, 14, 15, 18, 19, 20, 21, 23, 26, 27, 30, 31, 32, 33, 36, 39, 40, 41, 42, 43, 46, 47, 50, 51, 52, 53, 54, 57, 58, 59, 60, 61, 64, 65, 66, 67, 70, 73, 74, 75, 78, 79, 80, 83, 84, 85, 88, 89, 90, 91, 92, 95, 96]
set_option maxRecDepth 100000 in
theorem sd_Mo_start : pm_Sl prog_10_method_19_code 4 R_Mo "start" (some .boolean) pm_Y (pm_b bp_Mo_start) 0 tb_Mo_start := by
  refine ⟨so_iloadn d_Mo_start_0 rfl rfl, ?_⟩
  refine ⟨so_aloadn d_Mo_start_1 rfl rfl, ?_⟩
  refine ⟨so_geti (ci := 8) (k := 4) rfl (by decide) rfl rfl fl_Mo_87 d_Mo_start_2 rfl, ?_⟩
  refine ⟨so_calls rfl mc_Mo_isIn mi_Mo mt_Mo_isIn ml_Mo_68 yd_Mo_isIn (by decide) d_Mo_start_5 rfl, ?_⟩
  refine ⟨so_if_ne d_Mo_start_8 rfl rfl, ?_⟩
  refine ⟨so_const1 d_Mo_start_11 (by decide) rfl, ?_⟩
  refine ⟨so_zret d_Mo_start_12 rfl, ?_⟩
  refine ⟨so_aloadn d_Mo_start_13 rfl rfl, ?_⟩
  refine ⟨so_const1 d_Mo_start_14 (by decide) rfl, ?_⟩
  refine ⟨so_putz (ci := 8) (k := 6) rfl (by decide) rfl rfl (Or.inl ⟨rfl, fl_Mo_119⟩) d_Mo_start_15 rfl, ?_⟩
  refine ⟨so_const1 d_Mo_start_18 (by decide) rfl, ?_⟩
  refine ⟨so_istoren d_Mo_start_19 rfl (by decide) rfl, ?_⟩
  refine ⟨so_iloadn d_Mo_start_20 rfl rfl, ?_⟩
  refine ⟨so_const2 d_Mo_start_21 (by decide) rfl, ?_⟩
  refine ⟨so_icmp_ge d_Mo_start_23 rfl rfl, ?_⟩
  refine ⟨so_aloadn d_Mo_start_26 rfl rfl, ?_⟩
  refine ⟨so_getr (ci := 8) (k := 7) rfl (by decide) rfl rfl fl_Mo_25 d_Mo_start_27 rfl, ?_⟩
  refine ⟨so_iloadn d_Mo_start_30 rfl rfl, ?_⟩
  refine ⟨so_const1 d_Mo_start_31 (by decide) rfl, ?_⟩
  refine ⟨so_iast d_Mo_start_32 rfl, ?_⟩
  refine ⟨so_iinc d_Mo_start_33 (by decide) (by decide) rfl, ?_⟩
  refine ⟨so_goto d_Mo_start_36 rfl, ?_⟩
  refine ⟨so_const1 d_Mo_start_39 (by decide) rfl, ?_⟩
  refine ⟨so_istoren d_Mo_start_40 rfl (by decide) rfl, ?_⟩
  refine ⟨so_iloadn d_Mo_start_41 rfl rfl, ?_⟩
  refine ⟨so_const1 d_Mo_start_42 (by decide) rfl, ?_⟩
  refine ⟨so_icmp_ge d_Mo_start_43 rfl rfl, ?_⟩
  refine ⟨so_aloadn d_Mo_start_46 rfl rfl, ?_⟩
  refine ⟨so_getr (ci := 8) (k := 8) rfl (by decide) rfl rfl fl_Mo_28 d_Mo_start_47 rfl, ?_⟩
  refine ⟨so_iloadn d_Mo_start_50 rfl rfl, ?_⟩
  refine ⟨so_const1 d_Mo_start_51 (by decide) rfl, ?_⟩
  refine ⟨so_iast d_Mo_start_52 rfl, ?_⟩
  refine ⟨so_aloadn d_Mo_start_53 rfl rfl, ?_⟩
  refine ⟨so_getr (ci := 8) (k := 9) rfl (by decide) rfl rfl fl_Mo_31 d_Mo_start_54 rfl, ?_⟩
  refine ⟨so_iloadn d_Mo_start_57 rfl rfl, ?_⟩
  refine ⟨so_const1 d_Mo_start_58 (by decide) rfl, ?_⟩
  refine ⟨so_iast d_Mo_start_59 rfl, ?_⟩
  refine ⟨so_aloadn d_Mo_start_60 rfl rfl, ?_⟩
  refine ⟨so_getr (ci := 8) (k := 10) rfl (by decide) rfl rfl fl_Mo_34 d_Mo_start_61 rfl, ?_⟩
  refine ⟨so_iloadn d_Mo_start_64 rfl rfl, ?_⟩
  refine ⟨so_const1 d_Mo_start_65 (by decide) rfl, ?_⟩
  refine ⟨so_iast d_Mo_start_66 rfl, ?_⟩
  refine ⟨so_iinc d_Mo_start_67 (by decide) (by decide) rfl, ?_⟩
  refine ⟨so_goto d_Mo_start_70 rfl, ?_⟩
  refine ⟨so_aloadn d_Mo_start_73 rfl rfl, ?_⟩
  refine ⟨so_const1 d_Mo_start_74 (by decide) rfl, ?_⟩
  refine ⟨so_puti (ci := 8) (k := 11) rfl (by decide) rfl rfl (Or.inl ⟨rfl, fl_Mo_108⟩) d_Mo_start_75 rfl, ?_⟩
  refine ⟨so_aloadn d_Mo_start_78 rfl rfl, ?_⟩
  refine ⟨so_const1 d_Mo_start_79 (by decide) rfl, ?_⟩
  refine ⟨so_puti (ci := 8) (k := 17) rfl (by decide) rfl rfl (Or.inl ⟨rfl, fl_Mo_123⟩) d_Mo_start_80 rfl, ?_⟩
  refine ⟨so_aloadn d_Mo_start_83 rfl rfl, ?_⟩
  refine ⟨so_const1 d_Mo_start_84 (by decide) rfl, ?_⟩
  refine ⟨so_puti (ci := 8) (k := 22) rfl (by decide) rfl rfl (Or.inl ⟨rfl, fl_Mo_126⟩) d_Mo_start_85 rfl, ?_⟩
  refine ⟨so_aloadn d_Mo_start_88 rfl rfl, ?_⟩
  refine ⟨so_iloadn d_Mo_start_89 rfl rfl, ?_⟩
  refine ⟨so_iloadn d_Mo_start_90 rfl rfl, ?_⟩
  refine ⟨so_const1 d_Mo_start_91 (by decide) rfl, ?_⟩
  refine ⟨so_callv (ci := 8) rfl rfl mc_Mo_begin mi_Mo mj_Mo_begin ms_Mo_begin ml_Mo_129 yd_Mo_begin (by decide) d_Mo_start_92 rfl, ?_⟩
  refine ⟨so_const1 d_Mo_start_95 (by decide) rfl, ?_⟩
  refine ⟨so_zret d_Mo_start_96 rfl, ?_⟩
  exact trivial
theorem d_Mo_begin_0 : decode prog_10_method_18_code 0 = .ok (.aload_n 0, 1) := by decide +kernel
theorem d_Mo_begin_1 : decode prog_10_method_18_code 1 = .ok (.getfield 37, 3) := by decide +kernel
theorem d_Mo_begin_4 : decode prog_10_method_18_code 4 = .ok (.aload_n 0, 1) := by decide +kernel
theorem d_Mo_begin_5 : decode prog_10_method_18_code 5 = .ok (.getfield 108, 3) := by decide +kernel
theorem d_Mo_begin_8 : decode prog_10_method_18_code 8 = .ok (.iload_n 2, 1) := by decide +kernel
theorem d_Mo_begin_9 : decode prog_10_method_18_code 9 = .ok (.iastore, 1) := by decide +kernel
theorem d_Mo_begin_10 : decode prog_10_method_18_code 10 = .ok (.aload_n 0, 1) := by decide +kernel
theorem d_Mo_begin_11 : decode prog_10_method_18_code 11 = .ok (.getfield 40, 3) := by decide +kernel
theorem d_Mo_begin_14 : decode prog_10_method_18_code 14 = .ok (.aload_n 0, 1) := by decide +kernel
theorem d_Mo_begin_15 : decode prog_10_method_18_code 15 = .ok (.getfield 108, 3) := by decide +kernel
theorem d_Mo_begin_18 : decode prog_10_method_18_code 18 = .ok (.iconst 0, 1) := by decide +kernel
theorem d_Mo_begin_19 : decode prog_10_method_18_code 19 = .ok (.iastore, 1) := by decide +kernel
theorem d_Mo_begin_20 : decode prog_10_method_18_code 20 = .ok (.aload_n 0, 1) := by decide +kernel
theorem d_Mo_begin_21 : decode prog_10_method_18_code 21 = .ok (.getfield 49, 3) := by decide +kernel
theorem d_Mo_begin_24 : decode prog_10_method_18_code 24 = .ok (.aload_n 0, 1) := by decide +kernel
theorem d_Mo_begin_25 : decode prog_10_method_18_code 25 = .ok (.getfield 108, 3) := by decide +kernel
theorem d_Mo_begin_28 : decode prog_10_method_18_code 28 = .ok (.iload_n 3, 1) := by decide +kernel
theorem d_Mo_begin_29 : decode prog_10_method_18_code 29 = .ok (.iastore, 1) := by decide +kernel
theorem d_Mo_begin_30 : decode prog_10_method_18_code 30 = .ok (.aload_n 0, 1) := by decide +kernel
theorem d_Mo_begin_31 : decode prog_10_method_18_code 31 = .ok (.aload_n 0, 1) := by decide +kernel
theorem d_Mo_begin_32 : decode prog_10_method_18_code 32 = .ok (.getfield 108, 3) := by decide +kernel
theorem d_Mo_begin_35 : decode prog_10_method_18_code 35 = .ok (.iload_n 1, 1) := by decide +kernel
theorem d_Mo_begin_36 : decode prog_10_method_18_code 36 = .ok (.invokevirtual 111, 3) := by decide +kernel
theorem d_Mo_begin_39 : decode prog_10_method_18_code 39 = .ok (.aload_n 0, 1) := by decide +kernel
theorem d_Mo_begin_40 : decode prog_10_method_18_code 40 = .ok (.aload_n 0, 1) := by decide +kernel
theorem d_Mo_begin_41 : decode prog_10_method_18_code 41 = .ok (.getfield 108, 3) := by decide +kernel
theorem d_Mo_begin_44 : decode prog_10_method_18_code 44 = .ok (.invokevirtual 115, 3) := by decide +kernel
theorem d_Mo_begin_47 : decode prog_10_method_18_code 47 = .ok (.aload_n 0, 1) := by decide +kernel
theorem d_Mo_begin_48 : decode prog_10_method_18_code 48 = .ok (.dup, 1) := by decide +kernel
theorem d_Mo_begin_49 : decode prog_10_method_18_code 49 = .ok (.getfield 108, 3) := by decide +kernel
theorem d_Mo_begin_52 : decode prog_10_method_18_code 52 = .ok (.iconst 1, 1) := by decide +kernel
theorem d_Mo_begin_53 : decode prog_10_method_18_code 53 = .ok (.iadd, 1) := by decide +kernel
theorem d_Mo_begin_54 : decode prog_10_method_18_code 54 = .ok (.putfield 108, 3) := by decide +kernel
theorem d_Mo_begin_57 : decode prog_10_method_18_code 57 = .ok (.return_, 1) := by decide +kernel
def tb_Mo_begin : List pm_I := [
  pm_aload 1 0,
  pm_getr 2 8 12,
  pm_aload 3 0,
  pm_geti 4 8 11,
  pm_iload 5 2,
  pm_iast 6,
  pm_aload 7 0,
  pm_getr 8 8 13,
  pm_aload 9 0,
  pm_geti 10 8 11,
  pm_const 11 0,
  pm_iast 12,
  pm_aload 13 0,
  pm_getr 14 8 16,
  pm_aload 15 0,
  pm_geti 16 8 11,
  pm_iload 17 3,
  pm_iast 18,
  pm_aload 19 0,
  pm_aload 20 0,
  pm_geti 21 8 11,
  pm_iload 22 1,
  pm_callv 23 86 3 8,
  pm_aload 24 0,
  pm_aload 25 0,
  pm_geti 26 8 11,
  pm_callv 27 87 2 8,
  pm_aload 28 0,
  pm_dup 29,
  pm_geti 30 8 11,
  pm_const 31 1,
  pm_bin 32 (fun a b => a + b),
  pm_puti 33 8 11,
  pm_vret]
def bp_Mo_begin : List Nat := [0, 1, 4, 5, 8, 9, 10, 11, 14, 15, 18, 19, 20, 21, 24, 25, 28, 29, 30, 31, 32, 35, 36, 39, 40, 41, 44, 47, 48, 49, 52, 53, 54, 57]
set_option maxRecDepth 100000 in
theorem sd_Mo_begin : pm_Sl prog_10_method_18_code 4 R_Mo "begin" (none) pm_Y (pm_b bp_Mo_begin) 0 tb_Mo_begin := by
  refine ⟨so_aloadn d_Mo_begin_0 rfl rfl, ?_⟩
  refine ⟨so_getr (ci := 8) (k := 12) rfl (by decide) rfl rfl fl_Mo_37 d_Mo_begin_1 rfl, ?_⟩
  refine ⟨so_aloadn d_Mo_begin_4 rfl rfl, ?_⟩
  refine ⟨so_geti (ci := 8) (k := 11) rfl (by decide) rfl rfl fl_Mo_108 d_Mo_begin_5 rfl, ?_⟩
  refine ⟨so_iloadn d_Mo_begin_8 rfl rfl, ?_⟩
  refine ⟨so_iast d_Mo_begin_9 rfl, ?_⟩
  refine ⟨so_aloadn d_Mo_begin_10 rfl rfl, ?_⟩
  refine ⟨so_getr (ci := 8) (k := 13) rfl (by decide) rfl rfl fl_Mo_40 d_Mo_begin_11 rfl, ?_⟩
  refine ⟨so_aloadn d_Mo_begin_14 rfl rfl, ?_⟩
  refine ⟨so_geti (ci := 8) (k := 11) rfl (by decide) rfl rfl fl_Mo_108 d_Mo_begin_15 rfl, ?_⟩
  refine ⟨so_const1 d_Mo_begin_18 (by decide) rfl, ?_⟩
  refine ⟨so_iast d_Mo_begin_19 rfl, ?_⟩
  refine ⟨so_aloadn d_Mo_begin_20 rfl rfl, ?_⟩
  refine ⟨so_getr (ci := 8) (k := 16) rfl (by decide) rfl rfl fl_Mo_49 d_Mo_begin_21 rfl, ?_⟩
  refine ⟨so_aloadn d_Mo_begin_24 rfl rfl, ?_⟩
  refine ⟨so_geti (ci := 8) (k := 11) rfl (by decide) rfl rfl fl_Mo_108 d_Mo_begin_25 rfl, ?_⟩
  refine ⟨so_iloadn d_Mo_begin_28 rfl rfl, ?_⟩
  refine ⟨so_iast d_Mo_begin_29 rfl, ?_⟩
  refine ⟨so_aloadn d_Mo_begin_30 rfl rfl, ?_⟩
  refine ⟨so_aloadn d_Mo_begin_31 rfl rfl, ?_⟩
  refine ⟨so_geti (ci := 8) (k := 11) rfl (by decide) rfl rfl fl_Mo_108 d_Mo_begin_32 rfl, ?_⟩
  refine ⟨so_iloadn d_Mo_begin_35 rfl rfl, ?_⟩
  refine ⟨so_callv (ci := 8) rfl rfl mc_Mo_enter mi_Mo mj_Mo_enter ms_Mo_enter ml_Mo_111 yd_Mo_enter (by decide) d_Mo_begin_36 rfl, ?_⟩
  refine ⟨so_aloadn d_Mo_begin_39 rfl rfl, ?_⟩
  refine ⟨so_aloadn d_Mo_begin_40 rfl rfl, ?_⟩
  refine ⟨so_geti (ci := 8) (k := 11) rfl (by decide) rfl rfl fl_Mo_108 d_Mo_begin_41 rfl, ?_⟩
  refine ⟨so_callv (ci := 8) rfl rfl mc_Mo_leave mi_Mo mj_Mo_leave ms_Mo_leave ml_Mo_115 yd_Mo_leave (by decide) d_Mo_begin_44 rfl, ?_⟩
  refine ⟨so_aloadn d_Mo_begin_47 rfl rfl, ?_⟩
  refine ⟨so_dup d_Mo_begin_48 rfl, ?_⟩
  refine ⟨so_geti (ci := 8) (k := 11) rfl (by decide) rfl rfl fl_Mo_108 d_Mo_begin_49 rfl, ?_⟩
  refine ⟨so_const1 d_Mo_begin_52 (by decide) rfl, ?_⟩
  refine ⟨so_iadd d_Mo_begin_53 rfl, ?_⟩
  refine ⟨so_puti (ci := 8) (k := 11) rfl (by decide) rfl rfl (Or.inl ⟨rfl, fl_Mo_108⟩) d_Mo_begin_54 rfl, ?_⟩
  refine ⟨so_vret d_Mo_begin_57 rfl, ?_⟩
  exact trivial
theorem d_Mo_enter_0 : decode prog_10_method_16_code 0 = .ok (.aload_n 0, 1) := by decide +kernel
theorem d_Mo_enter_1 : decode prog_10_method_16_code 1 = .ok (.getfield 43, 3) := by decide +kernel
theorem d_Mo_enter_4 : decode prog_10_method_16_code 4 = .ok (.bipush 8, 2) := by decide +kernel
theorem d_Mo_enter_6 : decode prog_10_method_16_code 6 = .ok (.iload_n 1, 1) := by decide +kernel
theorem d_Mo_enter_7 : decode prog_10_method_16_code 7 = .ok (.imul, 1) := by decide +kernel
theorem d_Mo_enter_8 : decode prog_10_method_16_code 8 = .ok (.aload_n 0, 1) := by decide +kernel
theorem d_Mo_enter_9 : decode prog_10_method_16_code 9 = .ok (.getfield 40, 3) := by decide +kernel
theorem d_Mo_enter_12 : decode prog_10_method_16_code 12 = .ok (.iload_n 1, 1) := by decide +kernel
theorem d_Mo_enter_13 : decode prog_10_method_16_code 13 = .ok (.iaload, 1) := by decide +kernel
theorem d_Mo_enter_14 : decode prog_10_method_16_code 14 = .ok (.iadd, 1) := by decide +kernel
theorem d_Mo_enter_15 : decode prog_10_method_16_code 15 = .ok (.iload_n 2, 1) := by decide +kernel
theorem d_Mo_enter_16 : decode prog_10_method_16_code 16 = .ok (.iastore, 1) := by decide +kernel
theorem d_Mo_enter_17 : decode prog_10_method_16_code 17 = .ok (.aload_n 0, 1) := by decide +kernel
theorem d_Mo_enter_18 : decode prog_10_method_16_code 18 = .ok (.getfield 46, 3) := by decide +kernel
theorem d_Mo_enter_21 : decode prog_10_method_16_code 21 = .ok (.bipush 8, 2) := by decide +kernel
theorem d_Mo_enter_23 : decode prog_10_method_16_code 23 = .ok (.iload_n 1, 1) := by decide +kernel
theorem d_Mo_enter_24 : decode prog_10_method_16_code 24 = .ok (.imul, 1) := by decide +kernel
theorem d_Mo_enter_25 : decode prog_10_method_16_code 25 = .ok (.aload_n 0, 1) := by decide +kernel
theorem d_Mo_enter_26 : decode prog_10_method_16_code 26 = .ok (.getfield 40, 3) := by decide +kernel
theorem d_Mo_enter_29 : decode prog_10_method_16_code 29 = .ok (.iload_n 1, 1) := by decide +kernel
theorem d_Mo_enter_30 : decode prog_10_method_16_code 30 = .ok (.iaload, 1) := by decide +kernel
theorem d_Mo_enter_31 : decode prog_10_method_16_code 31 = .ok (.iadd, 1) := by decide +kernel
theorem d_Mo_enter_32 : decode prog_10_method_16_code 32 = .ok (.iconst 0, 1) := by decide +kernel
theorem d_Mo_enter_33 : decode prog_10_method_16_code 33 = .ok (.iastore, 1) := by decide +kernel
theorem d_Mo_enter_34 : decode prog_10_method_16_code 34 = .ok (.aload_n 0, 1) := by decide +kernel
theorem d_Mo_enter_35 : decode prog_10_method_16_code 35 = .ok (.getfield 40, 3) := by decide +kernel
theorem d_Mo_enter_38 : decode prog_10_method_16_code 38 = .ok (.iload_n 1, 1) := by decide +kernel
theorem d_Mo_enter_39 : decode prog_10_method_16_code 39 = .ok (.dup2, 1) := by decide +kernel
theorem d_Mo_enter_40 : decode prog_10_method_16_code 40 = .ok (.iaload, 1) := by decide +kernel
theorem d_Mo_enter_41 : decode prog_10_method_16_code 41 = .ok (.iconst 1, 1) := by decide +kernel
theorem d_Mo_enter_42 : decode prog_10_method_16_code 42 = .ok (.iadd, 1) := by decide +kernel
theorem d_Mo_enter_43 : decode prog_10_method_16_code 43 = .ok (.iastore, 1) := by decide +kernel
theorem d_Mo_enter_44 : decode prog_10_method_16_code 44 = .ok (.return_, 1) := by decide +kernel
def tb_Mo_enter : List pm_I := [
  pm_aload 1 0,
  pm_getr 2 8 14,
  pm_const 3 8,
  pm_iload 4 1,
  pm_bin 5 (fun a b => a * b),
  pm_aload 6 0,
  pm_getr 7 8 13,
  pm_iload 8 1,
  pm_iald 9 0,
  pm_bin 10 (fun a b => a + b),
  pm_iload 11 2,
  pm_iast 12,
  pm_aload 13 0,
  pm_getr 14 8 15,
  pm_const 15 8,
  pm_iload 16 1,
  pm_bin 17 (fun a b => a * b),
  pm_aload 18 0,
  pm_getr 19 8 13,
  pm_iload 20 1,
  pm_iald 21 0,
  pm_bin 22 (fun a b => a + b),
  pm_const 23 0,
  pm_iast 24,
  pm_aload 25 0,
  pm_getr 26 8 13,
  pm_iload 27 1,
  pm_dup2 28,
  pm_iald 29 0,
  pm_const 30 1,
  pm_bin 31 (fun a b => a + b),
  pm_iast 32,
  pm_vret]
def bp_Mo_enter : List Nat := [0, 1, 4, 6, 7, 8, 9, 12, 13, 14, 15, 16, 17, 18, 21, 23, 24, 25, 26, 29, 30, 31, 32, 33, 34, 35, 38, 39, 40, 41, 42, 43, 44]
set_option maxRecDepth 100000 in
theorem sd_Mo_enter : pm_Sl prog_10_method_16_code 3 R_Mo "enter" (none) pm_Y (pm_b bp_Mo_enter) 0 tb_Mo_enter := by
  refine ⟨so_aloadn d_Mo_enter_0 rfl rfl, ?_⟩
  refine ⟨so_getr (ci := 8) (k := 14) rfl (by decide) rfl rfl fl_Mo_43 d_Mo_enter_1 rfl, ?_⟩
  refine ⟨so_const2 d_Mo_enter_4 (by decide) rfl, ?_⟩
  refine ⟨so_iloadn d_Mo_enter_6 rfl rfl, ?_⟩
  refine ⟨so_imul d_Mo_enter_7 rfl, ?_⟩
  refine ⟨so_aloadn d_Mo_enter_8 rfl rfl, ?_⟩
  refine ⟨so_getr (ci := 8) (k := 13) rfl (by decide) rfl rfl fl_Mo_40 d_Mo_enter_9 rfl, ?_⟩
  refine ⟨so_iloadn d_Mo_enter_12 rfl rfl, ?_⟩
  refine ⟨so_iald d_Mo_enter_13 rfl, ?_⟩
  refine ⟨so_iadd d_Mo_enter_14 rfl, ?_⟩
  refine ⟨so_iloadn d_Mo_enter_15 rfl rfl, ?_⟩
  refine ⟨so_iast d_Mo_enter_16 rfl, ?_⟩
  refine ⟨so_aloadn d_Mo_enter_17 rfl rfl, ?_⟩
  refine ⟨so_getr (ci := 8) (k := 15) rfl (by decide) rfl rfl fl_Mo_46 d_Mo_enter_18 rfl, ?_⟩
  refine ⟨so_const2 d_Mo_enter_21 (by decide) rfl, ?_⟩
  refine ⟨so_iloadn d_Mo_enter_23 rfl rfl, ?_⟩
  refine ⟨so_imul d_Mo_enter_24 rfl, ?_⟩
  refine ⟨so_aloadn d_Mo_enter_25 rfl rfl, ?_⟩
  refine ⟨so_getr (ci := 8) (k := 13) rfl (by decide) rfl rfl fl_Mo_40 d_Mo_enter_26 rfl, ?_⟩
  refine ⟨so_iloadn d_Mo_enter_29 rfl rfl, ?_⟩
  refine ⟨so_iald d_Mo_enter_30 rfl, ?_⟩
  refine ⟨so_iadd d_Mo_enter_31 rfl, ?_⟩
  refine ⟨so_const1 d_Mo_enter_32 (by decide) rfl, ?_⟩
  refine ⟨so_iast d_Mo_enter_33 rfl, ?_⟩
  refine ⟨so_aloadn d_Mo_enter_34 rfl rfl, ?_⟩
  refine ⟨so_getr (ci := 8) (k := 13) rfl (by decide) rfl rfl fl_Mo_40 d_Mo_enter_35 rfl, ?_⟩
  refine ⟨so_iloadn d_Mo_enter_38 rfl rfl, ?_⟩
  refine ⟨so_dup2 d_Mo_enter_39 rfl, ?_⟩
  refine ⟨so_iald d_Mo_enter_40 rfl, ?_⟩
  refine ⟨so_const1 d_Mo_enter_41 (by decide) rfl, ?_⟩
  refine ⟨so_iadd d_Mo_enter_42 rfl, ?_⟩
  refine ⟨so_iast d_Mo_enter_43 rfl, ?_⟩
  refine ⟨so_vret d_Mo_enter_44 rfl, ?_⟩
  exact trivial
theorem d_Mo_leave_0 : decode prog_10_method_17_code 0 = .ok (.bipush 8, 2) := by decide +kernel
theorem d_Mo_leave_2 : decode prog_10_method_17_code 2 = .ok (.iload_n 1, 1) := by decide +kernel
theorem d_Mo_leave_3 : decode prog_10_method_17_code 3 = .ok (.imul, 1) := by decide +kernel
theorem d_Mo_leave_4 : decode prog_10_method_17_code 4 = .ok (.aload_n 0, 1) := by decide +kernel
theorem d_Mo_leave_5 : decode prog_10_method_17_code 5 = .ok (.getfield 40, 3) := by decide +kernel
theorem d_Mo_leave_8 : decode prog_10_method_17_code 8 = .ok (.iload_n 1, 1) := by decide +kernel
theorem d_Mo_leave_9 : decode prog_10_method_17_code 9 = .ok (.iaload, 1) := by decide +kernel
theorem d_Mo_leave_10 : decode prog_10_method_17_code 10 = .ok (.iadd, 1) := by decide +kernel
theorem d_Mo_leave_11 : decode prog_10_method_17_code 11 = .ok (.iconst 1, 1) := by decide +kernel
theorem d_Mo_leave_12 : decode prog_10_method_17_code 12 = .ok (.isub, 1) := by decide +kernel
theorem d_Mo_leave_13 : decode prog_10_method_17_code 13 = .ok (.istore_n 2, 1) := by decide +kernel
theorem d_Mo_leave_14 : decode prog_10_method_17_code 14 = .ok (.aload_n 0, 1) := by decide +kernel
theorem d_Mo_leave_15 : decode prog_10_method_17_code 15 = .ok (.getfield 40, 3) := by decide +kernel
theorem d_Mo_leave_18 : decode prog_10_method_17_code 18 = .ok (.iload_n 1, 1) := by decide +kernel
theorem d_Mo_leave_19 : decode prog_10_method_17_code 19 = .ok (.iaload, 1) := by decide +kernel
theorem d_Mo_leave_20 : decode prog_10_method_17_code 20 = .ok (.ifCond .le 39, 3) := by decide +kernel
theorem d_Mo_leave_23 : decode prog_10_method_17_code 23 = .ok (.aload_n 0, 1) := by decide +kernel
theorem d_Mo_leave_24 : decode prog_10_method_17_code 24 = .ok (.getfield 46, 3) := by decide +kernel
theorem d_Mo_leave_27 : decode prog_10_method_17_code 27 = .ok (.iload_n 2, 1) := by decide +kernel
theorem d_Mo_leave_28 : decode prog_10_method_17_code 28 = .ok (.iaload, 1) := by decide +kernel
theorem d_Mo_leave_29 : decode prog_10_method_17_code 29 = .ok (.aload_n 0, 1) := by decide +kernel
theorem d_Mo_leave_30 : decode prog_10_method_17_code 30 = .ok (.getfield 16, 3) := by decide +kernel
theorem d_Mo_leave_33 : decode prog_10_method_17_code 33 = .ok (.aload_n 0, 1) := by decide +kernel
theorem d_Mo_leave_34 : decode prog_10_method_17_code 34 = .ok (.getfield 43, 3) := by decide +kernel
theorem d_Mo_leave_37 : decode prog_10_method_17_code 37 = .ok (.iload_n 2, 1) := by decide +kernel
theorem d_Mo_leave_38 : decode prog_10_method_17_code 38 = .ok (.iaload, 1) := by decide +kernel
theorem d_Mo_leave_39 : decode prog_10_method_17_code 39 = .ok (.iaload, 1) := by decide +kernel
theorem d_Mo_leave_40 : decode prog_10_method_17_code 40 = .ok (.if_icmp .ne 19, 3) := by decide +kernel
theorem d_Mo_leave_43 : decode prog_10_method_17_code 43 = .ok (.aload_n 0, 1) := by decide +kernel
theorem d_Mo_leave_44 : decode prog_10_method_17_code 44 = .ok (.getfield 40, 3) := by decide +kernel
theorem d_Mo_leave_47 : decode prog_10_method_17_code 47 = .ok (.iload_n 1, 1) := by decide +kernel
theorem d_Mo_leave_48 : decode prog_10_method_17_code 48 = .ok (.dup2, 1) := by decide +kernel
theorem d_Mo_leave_49 : decode prog_10_method_17_code 49 = .ok (.iaload, 1) := by decide +kernel
theorem d_Mo_leave_50 : decode prog_10_method_17_code 50 = .ok (.iconst 1, 1) := by decide +kernel
theorem d_Mo_leave_51 : decode prog_10_method_17_code 51 = .ok (.isub, 1) := by decide +kernel
theorem d_Mo_leave_52 : decode prog_10_method_17_code 52 = .ok (.iastore, 1) := by decide +kernel
theorem d_Mo_leave_53 : decode prog_10_method_17_code 53 = .ok (.iinc 2 (-1), 3) := by decide +kernel
theorem d_Mo_leave_56 : decode prog_10_method_17_code 56 = .ok (.goto (-42), 3) := by decide +kernel
theorem d_Mo_leave_59 : decode prog_10_method_17_code 59 = .ok (.return_, 1) := by decide +kernel
def tb_Mo_leave : List pm_I := [
  pm_const 1 8,
  pm_iload 2 1,
  pm_bin 3 (fun a b => a * b),
  pm_aload 4 0,
  pm_getr 5 8 13,
  pm_iload 6 1,
  pm_iald 7 0,
  pm_bin 8 (fun a b => a + b),
  pm_const 9 1,
  pm_bin 10 (fun a b => a - b),
  pm_istore 11 2,
  pm_aload 12 0,
  pm_getr 13 8 13,
  pm_iload 14 1,
  pm_iald 15 0,
  pm_if 38 16 (fun a => decide (a ≤ 0)),
  pm_aload 17 0,
  pm_getr 18 8 15,
  pm_iload 19 2,
  pm_iald 20 0,
  pm_aload 21 0,
  pm_getr 22 8 2,
  pm_aload 23 0,
  pm_getr 24 8 14,
  pm_iload 25 2,
  pm_iald 26 0,
  pm_iald 27 0,
  pm_icmp 38 28 (fun a b => decide (a ≠ b)),
  pm_aload 29 0,
  pm_getr 30 8 13,
  pm_iload 31 1,
  pm_dup2 32,
  pm_iald 33 0,
  pm_const 34 1,
  pm_bin 35 (fun a b => a - b),
  pm_iast 36,
  pm_iinc 37 2 (-1),
  pm_goto 11,
  pm_vret]
def bp_Mo_leave : List Nat := [0, 2, 3, 4, 5, 8, 9, 10, 11, 12, 13, 14, 15, 18, 19, 20, 23, 24, 27, 28, 29, 30, 33, 34, 37, 38, 39, 40, 43, 44, 47, 48, 49, 50, 51, 52, 53, 56, 59]
set_option maxRecDepth 100000 in
theorem sd_Mo_leave : pm_Sl prog_10_method_17_code 3 R_Mo "leave" (none) pm_Y (pm_b bp_Mo_leave) 0 tb_Mo_leave := by
  refine ⟨so_const2 d_Mo_leave_0 (by decide) rfl, ?_⟩
  refine ⟨so_iloadn d_Mo_leave_2 rfl rfl, ?_⟩
  refine ⟨so_imul d_Mo_leave_3 rfl, ?_⟩
  refine ⟨so_aloadn d_Mo_leave_4 rfl rfl, ?_⟩
  refine ⟨so_getr (ci := 8) (k := 13) rfl (by decide) rfl rfl fl_Mo_40 d_Mo_leave_5 rfl, ?_⟩
  refine ⟨so_iloadn d_Mo_leave_8 rfl rfl, ?_⟩
  refine ⟨so_iald d_Mo_leave_9 rfl, ?_⟩
  refine ⟨so_iadd d_Mo_leave_10 rfl, ?_⟩
  refine ⟨so_const1 d_Mo_leave_11 (by decide) rfl, ?_⟩
  refine ⟨so_isub d_Mo_leave_12 rfl, ?_⟩
  refine ⟨so_istoren d_Mo_leave_13 rfl (by decide) rfl, ?_⟩
  refine ⟨so_aloadn d_Mo_leave_14 rfl rfl, ?_⟩
  refine ⟨so_getr (ci := 8) (k := 13) rfl (by decide) rfl rfl fl_Mo_40 d_Mo_leave_15 rfl, ?_⟩
  refine ⟨so_iloadn d_Mo_leave_18 rfl rfl, ?_⟩
  refine ⟨so_iald d_Mo_leave_19 rfl, ?_⟩
  refine ⟨so_if_le d_Mo_leave_20 rfl rfl, ?_⟩
  refine ⟨so_aloadn d_Mo_leave_23 rfl rfl, ?_⟩
  refine ⟨so_getr (ci := 8) (k := 15) rfl (by decide) rfl rfl fl_Mo_46 d_Mo_leave_24 rfl, ?_⟩
  refine ⟨so_iloadn d_Mo_leave_27 rfl rfl, ?_⟩
  refine ⟨so_iald d_Mo_leave_28 rfl, ?_⟩
  refine ⟨so_aloadn d_Mo_leave_29 rfl rfl, ?_⟩
  refine ⟨so_getr (ci := 8) (k := 2) rfl (by decide) rfl rfl fl_Mo_16 d_Mo_leave_30 rfl, ?_⟩
  refine ⟨so_aloadn d_Mo_leave_33 rfl rfl, ?_⟩
  refine ⟨so_getr (ci := 8) (k := 14) rfl (by decide) rfl rfl fl_Mo_43 d_Mo_leave_34 rfl, ?_⟩
  refine ⟨so_iloadn d_Mo_leave_37 rfl rfl, ?_⟩
  refine ⟨so_iald d_Mo_leave_38 rfl, ?_⟩
  refine ⟨so_iald d_Mo_leave_39 rfl, ?_⟩
  refine ⟨so_icmp_ne d_Mo_leave_40 rfl rfl, ?_⟩
  refine ⟨so_aloadn d_Mo_leave_43 rfl rfl, ?_⟩
  refine ⟨so_getr (ci := 8) (k := 13) rfl (by decide) rfl rfl fl_Mo_40 d_Mo_leave_44 rfl, ?_⟩
  refine ⟨so_iloadn d_Mo_leave_47 rfl rfl, ?_⟩
  refine ⟨so_dup2 d_Mo_leave_48 rfl, ?_⟩
  refine ⟨so_iald d_Mo_leave_49 rfl, ?_⟩
  refine ⟨so_const1 d_Mo_leave_50 (by decide) rfl, ?_⟩
  refine ⟨so_isub d_Mo_leave_51 rfl, ?_⟩
  refine ⟨so_iast d_Mo_leave_52 rfl, ?_⟩
  refine ⟨so_iinc d_Mo_leave_53 (by decide) (by decide) rfl, ?_⟩
  refine ⟨so_goto d_Mo_leave_56 rfl, ?_⟩
  refine ⟨so_vret d_Mo_leave_59 rfl, ?_⟩
  exact trivial
theorem d_Mo_step_0 : decode prog_10_method_22_code 0 = .ok (.aload_n 0, 1) := by decide +kernel
theorem d_Mo_step_1 : decode prog_10_method_22_code 1 = .ok (.iload_n 1, 1) := by decide +kernel
theorem d_Mo_step_2 : decode prog_10_method_22_code 2 = .ok (.invokevirtual 133, 3) := by decide +kernel
theorem d_Mo_step_5 : decode prog_10_method_22_code 5 = .ok (.ifCond .eq 22, 3) := by decide +kernel
theorem d_Mo_step_8 : decode prog_10_method_22_code 8 = .ok (.aload_n 0, 1) := by decide +kernel
theorem d_Mo_step_9 : decode prog_10_method_22_code 9 = .ok (.getfield 40, 3) := by decide +kernel
theorem d_Mo_step_12 : decode prog_10_method_22_code 12 = .ok (.iload_n 1, 1) := by decide +kernel
theorem d_Mo_step_13 : decode prog_10_method_22_code 13 = .ok (.iaload, 1) := by decide +kernel
theorem d_Mo_step_14 : decode prog_10_method_22_code 14 = .ok (.ifCond .eq 13, 3) := by decide +kernel
theorem d_Mo_step_17 : decode prog_10_method_22_code 17 = .ok (.aload_n 0, 1) := by decide +kernel
theorem d_Mo_step_18 : decode prog_10_method_22_code 18 = .ok (.getfield 123, 3) := by decide +kernel
theorem d_Mo_step_21 : decode prog_10_method_22_code 21 = .ok (.sipush 4000, 3) := by decide +kernel
theorem d_Mo_step_24 : decode prog_10_method_22_code 24 = .ok (.if_icmp .ne 5, 3) := by decide +kernel
theorem d_Mo_step_27 : decode prog_10_method_22_code 27 = .ok (.iconst (-1), 1) := by decide +kernel
theorem d_Mo_step_28 : decode prog_10_method_22_code 28 = .ok (.ireturn, 1) := by decide +kernel
theorem d_Mo_step_29 : decode prog_10_method_22_code 29 = .ok (.aload_n 0, 1) := by decide +kernel
theorem d_Mo_step_30 : decode prog_10_method_22_code 30 = .ok (.iload_n 1, 1) := by decide +kernel
theorem d_Mo_step_31 : decode prog_10_method_22_code 31 = .ok (.invokevirtual 136, 3) := by decide +kernel
theorem d_Mo_step_34 : decode prog_10_method_22_code 34 = .ok (.ifCond .lt 5, 3) := by decide +kernel
theorem d_Mo_step_37 : decode prog_10_method_22_code 37 = .ok (.iconst 0, 1) := by decide +kernel
theorem d_Mo_step_38 : decode prog_10_method_22_code 38 = .ok (.ireturn, 1) := by decide +kernel
theorem d_Mo_step_39 : decode prog_10_method_22_code 39 = .ok (.bipush 8, 2) := by decide +kernel
theorem d_Mo_step_41 : decode prog_10_method_22_code 41 = .ok (.iload_n 1, 1) := by decide +kernel
theorem d_Mo_step_42 : decode prog_10_method_22_code 42 = .ok (.imul, 1) := by decide +kernel
theorem d_Mo_step_43 : decode prog_10_method_22_code 43 = .ok (.aload_n 0, 1) := by decide +kernel
theorem d_Mo_step_44 : decode prog_10_method_22_code 44 = .ok (.getfield 40, 3) := by decide +kernel
theorem d_Mo_step_47 : decode prog_10_method_22_code 47 = .ok (.iload_n 1, 1) := by decide +kernel
theorem d_Mo_step_48 : decode prog_10_method_22_code 48 = .ok (.iaload, 1) := by decide +kernel
theorem d_Mo_step_49 : decode prog_10_method_22_code 49 = .ok (.iadd, 1) := by decide +kernel
theorem d_Mo_step_50 : decode prog_10_method_22_code 50 = .ok (.iconst 1, 1) := by decide +kernel
theorem d_Mo_step_51 : decode prog_10_method_22_code 51 = .ok (.isub, 1) := by decide +kernel
theorem d_Mo_step_52 : decode prog_10_method_22_code 52 = .ok (.istore_n 2, 1) := by decide +kernel
theorem d_Mo_step_53 : decode prog_10_method_22_code 53 = .ok (.aload_n 0, 1) := by decide +kernel
theorem d_Mo_step_54 : decode prog_10_method_22_code 54 = .ok (.getfield 52, 3) := by decide +kernel
theorem d_Mo_step_57 : decode prog_10_method_22_code 57 = .ok (.aload_n 0, 1) := by decide +kernel
theorem d_Mo_step_58 : decode prog_10_method_22_code 58 = .ok (.getfield 123, 3) := by decide +kernel
theorem d_Mo_step_61 : decode prog_10_method_22_code 61 = .ok (.aload_n 0, 1) := by decide +kernel
theorem d_Mo_step_62 : decode prog_10_method_22_code 62 = .ok (.getfield 49, 3) := by decide +kernel
theorem d_Mo_step_65 : decode prog_10_method_22_code 65 = .ok (.iload_n 1, 1) := by decide +kernel
theorem d_Mo_step_66 : decode prog_10_method_22_code 66 = .ok (.iaload, 1) := by decide +kernel
theorem d_Mo_step_67 : decode prog_10_method_22_code 67 = .ok (.iastore, 1) := by decide +kernel
theorem d_Mo_step_68 : decode prog_10_method_22_code 68 = .ok (.aload_n 0, 1) := by decide +kernel
theorem d_Mo_step_69 : decode prog_10_method_22_code 69 = .ok (.getfield 55, 3) := by decide +kernel
theorem d_Mo_step_72 : decode prog_10_method_22_code 72 = .ok (.aload_n 0, 1) := by decide +kernel
theorem d_Mo_step_73 : decode prog_10_method_22_code 73 = .ok (.getfield 123, 3) := by decide +kernel
theorem d_Mo_step_76 : decode prog_10_method_22_code 76 = .ok (.iconst (-1), 1) := by decide +kernel
theorem d_Mo_step_77 : decode prog_10_method_22_code 77 = .ok (.iastore, 1) := by decide +kernel
theorem d_Mo_step_78 : decode prog_10_method_22_code 78 = .ok (.aload_n 0, 1) := by decide +kernel
theorem d_Mo_step_79 : decode prog_10_method_22_code 79 = .ok (.getfield 58, 3) := by decide +kernel
theorem d_Mo_step_82 : decode prog_10_method_22_code 82 = .ok (.aload_n 0, 1) := by decide +kernel
theorem d_Mo_step_83 : decode prog_10_method_22_code 83 = .ok (.getfield 123, 3) := by decide +kernel
theorem d_Mo_step_86 : decode prog_10_method_22_code 86 = .ok (.iconst (-1), 1) := by decide +kernel
theorem d_Mo_step_87 : decode prog_10_method_22_code 87 = .ok (.iastore, 1) := by decide +kernel
theorem d_Mo_step_88 : decode prog_10_method_22_code 88 = .ok (.aload_n 0, 1) := by decide +kernel
theorem d_Mo_step_89 : decode prog_10_method_22_code 89 = .ok (.getfield 49, 3) := by decide +kernel
theorem d_Mo_step_92 : decode prog_10_method_22_code 92 = .ok (.iload_n 1, 1) := by decide +kernel
theorem d_Mo_step_93 : decode prog_10_method_22_code 93 = .ok (.aload_n 0, 1) := by decide +kernel
theorem d_Mo_step_94 : decode prog_10_method_22_code 94 = .ok (.getfield 123, 3) := by decide +kernel
theorem d_Mo_step_97 : decode prog_10_method_22_code 97 = .ok (.iastore, 1) := by decide +kernel
theorem d_Mo_step_98 : decode prog_10_method_22_code 98 = .ok (.aload_n 0, 1) := by decide +kernel
theorem d_Mo_step_99 : decode prog_10_method_22_code 99 = .ok (.getfield 46, 3) := by decide +kernel
theorem d_Mo_step_102 : decode prog_10_method_22_code 102 = .ok (.iload_n 2, 1) := by decide +kernel
theorem d_Mo_step_103 : decode prog_10_method_22_code 103 = .ok (.iaload, 1) := by decide +kernel
theorem d_Mo_step_104 : decode prog_10_method_22_code 104 = .ok (.istore_n 3, 1) := by decide +kernel
theorem d_Mo_step_105 : decode prog_10_method_22_code 105 = .ok (.aload_n 0, 1) := by decide +kernel
theorem d_Mo_step_106 : decode prog_10_method_22_code 106 = .ok (.getfield 46, 3) := by decide +kernel
theorem d_Mo_step_109 : decode prog_10_method_22_code 109 = .ok (.iload_n 2, 1) := by decide +kernel
theorem d_Mo_step_110 : decode prog_10_method_22_code 110 = .ok (.dup2, 1) := by decide +kernel
theorem d_Mo_step_111 : decode prog_10_method_22_code 111 = .ok (.iaload, 1) := by decide +kernel
theorem d_Mo_step_112 : decode prog_10_method_22_code 112 = .ok (.iconst 1, 1) := by decide +kernel
theorem d_Mo_step_113 : decode prog_10_method_22_code 113 = .ok (.iadd, 1) := by decide +kernel
theorem d_Mo_step_114 : decode prog_10_method_22_code 114 = .ok (.iastore, 1) := by decide +kernel
theorem d_Mo_step_115 : decode prog_10_method_22_code 115 = .ok (.aload_n 0, 1) := by decide +kernel
theorem d_Mo_step_116 : decode prog_10_method_22_code 116 = .ok (.iload_n 1, 1) := by decide +kernel
theorem d_Mo_step_117 : decode prog_10_method_22_code 117 = .ok (.aload_n 0, 1) := by decide +kernel
theorem d_Mo_step_118 : decode prog_10_method_22_code 118 = .ok (.getfield 43, 3) := by decide +kernel
theorem d_Mo_step_121 : decode prog_10_method_22_code 121 = .ok (.iload_n 2, 1) := by decide +kernel
theorem d_Mo_step_122 : decode prog_10_method_22_code 122 = .ok (.iaload, 1) := by decide +kernel
theorem d_Mo_step_123 : decode prog_10_method_22_code 123 = .ok (.iload_n 3, 1) := by decide +kernel
theorem d_Mo_step_124 : decode prog_10_method_22_code 124 = .ok (.invokevirtual 139, 3) := by decide +kernel
theorem d_Mo_step_127 : decode prog_10_method_22_code 127 = .ok (.aload_n 0, 1) := by decide +kernel
theorem d_Mo_step_128 : decode prog_10_method_22_code 128 = .ok (.iload_n 1, 1) := by decide +kernel
theorem d_Mo_step_129 : decode prog_10_method_22_code 129 = .ok (.invokevirtual 115, 3) := by decide +kernel
theorem d_Mo_step_132 : decode prog_10_method_22_code 132 = .ok (.aload_n 0, 1) := by decide +kernel
theorem d_Mo_step_133 : decode prog_10_method_22_code 133 = .ok (.dup, 1) := by decide +kernel
theorem d_Mo_step_134 : decode prog_10_method_22_code 134 = .ok (.getfield 123, 3) := by decide +kernel
theorem d_Mo_step_137 : decode prog_10_method_22_code 137 = .ok (.iconst 1, 1) := by decide +kernel
theorem d_Mo_step_138 : decode prog_10_method_22_code 138 = .ok (.iadd, 1) := by decide +kernel
theorem d_Mo_step_139 : decode prog_10_method_22_code 139 = .ok (.putfield 123, 3) := by decide +kernel
theorem d_Mo_step_142 : decode prog_10_method_22_code 142 = .ok (.iconst 1, 1) := by decide +kernel
theorem d_Mo_step_143 : decode prog_10_method_22_code 143 = .ok (.ireturn, 1) := by decide +kernel
def tb_Mo_step : List pm_I := [
  pm_aload 1 0,
  pm_iload 2 1,
  pm_callv 3 89 2 8,
  pm_if 13 4 (fun a => decide (a = 0)),
  pm_aload 5 0,
  pm_getr 6 8 13,
  pm_iload 7 1,
  pm_iald 8 0,
  pm_if 13 9 (fun a => decide (a = 0)),
  pm_aload 10 0,
  pm_geti 11 8 17,
  pm_const 12 4000,
  pm_icmp 15 13 (fun a b => decide (a ≠ b)),
  pm_const 14 (-1),
  pm_iret,
  pm_aload 16 0,
  pm_iload 17 1,
  pm_callv 18 90 2 8,
  pm_if 21 19 (fun a => decide (a < 0)),
  pm_const 20 0,
  pm_iret,
  pm_const 22 8,
  pm_iload 23 1,
  pm_bin 24 (fun a b => a * b),
  pm_aload 25 0,
  pm_getr 26 8 13,
  pm_iload 27 1,
  pm_iald 28 0,
  pm_bin 29 (fun a b => a + b),
  pm_const 30 1,
  pm_bin 31 (fun a b => a - b),
  pm_istore 32 2,
  pm_aload 33 0,
  pm_getr 34 8 18,
  pm_aload 35 0,
  pm_geti 36 8 17,
  pm_aload 37 0,
  pm_getr 38 8 16,
  pm_iload 39 1,
  pm_iald 40 0,
  pm_iast 41,
  pm_aload 42 0,
  pm_getr 43 8 19,
  pm_aload 44 0,
  pm_geti 45 8 17,
  pm_const 46 (-1),
  pm_iast 47,
  pm_aload 48 0,
  pm_getr 49 8 20,
  pm_aload 50 0,
  pm_geti 51 8 17,
  pm_const 52 (-1),
  pm_iast 53,
  pm_aload 54 0,
  pm_getr 55 8 16,
  pm_iload 56 1,
  pm_aload 57 0,
  pm_geti 58 8 17,
  pm_iast 59,
  pm_aload 60 0,
  pm_getr 61 8 15,
  pm_iload 62 2,
  pm_iald 63 0,
  pm_istore 64 3,
  pm_aload 65 0,
  pm_getr 66 8 15,
  pm_iload 67 2,
  pm_dup2 68,
  pm_iald 69 0,
  pm_const 70 1,
  pm_bin 71 (fun a b => a + b),
  pm_iast 72,
  pm_aload 73 0,
  pm_iload 74 1,
  pm_aload 75 0,
  pm_getr 76 8 14,
  pm_iload 77 2,
  pm_iald 78 0,
  pm_iload 79 3,
  pm_callv 80 91 4 8,
  pm_aload 81 0,
  pm_iload 82 1,
  pm_callv 83 87 2 8,
  pm_aload 84 0,
  pm_dup 85,
  pm_geti 86 8 17,
  pm_const 87 1,
  pm_bin 88 (fun a b => a + b),
  pm_puti 89 8 17,
  pm_const 90 1,
  pm_iret]
def bp_Mo_step : List Nat := [0, 1, 2, 5, 8, 9, 12, 13, 14, 17, 18, 21, 24, 27, 28, 29, 30, 31, 34, 37, 38, 39, 41, 42, 43, 44, 47, 48, 49, 50, 51, 52, 53, 54, 57, 58, 61, 62, 65, 66, 67, 68, 69, 72, 73, 76, 77, 78, 79, 82, 83, 86, 87, 88, 89, 92, 93, 94, 97, 98, 99, 102, 103, 104, 105, 106, 109, 110, 111, 112, 113, 114, 115, 116, 117, 118, 121, 122, 123, 124, 127, 128, 129, 132, 133, 134, 137, 138, 139, 142, 143]
set_option maxRecDepth 100000 in
theorem sd_Mo_step : pm_Sl prog_10_method_22_code 4 R_Mo "step" (some .int) pm_Y (pm_b bp_Mo_step) 0 tb_Mo_step := by
  refine ⟨so_aloadn d_Mo_step_0 rfl rfl, ?_⟩
  refine ⟨so_iloadn d_Mo_step_1 rfl rfl, ?_⟩
  refine ⟨so_callv (ci := 8) rfl rfl mc_Mo_isThread mi_Mo mj_Mo_isThread ms_Mo_isThread ml_Mo_133 yd_Mo_isThread (by decide) d_Mo_step_2 rfl, ?_⟩
  refine ⟨so_if_eq d_Mo_step_5 rfl rfl, ?_⟩
  refine ⟨so_aloadn d_Mo_step_8 rfl rfl, ?_⟩
  refine ⟨so_getr (ci := 8) (k := 13) rfl (by decide) rfl rfl fl_Mo_40 d_Mo_step_9 rfl, ?_⟩
  refine ⟨so_iloadn d_Mo_step_12 rfl rfl, ?_⟩
  refine ⟨so_iald d_Mo_step_13 rfl, ?_⟩
  refine ⟨so_if_eq d_Mo_step_14 rfl rfl, ?_⟩
  refine ⟨so_aloadn d_Mo_step_17 rfl rfl, ?_⟩
  refine ⟨so_geti (ci := 8) (k := 17) rfl (by decide) rfl rfl fl_Mo_123 d_Mo_step_18 rfl, ?_⟩
  refine ⟨so_const3 d_Mo_step_21 (by decide) rfl, ?_⟩
  refine ⟨so_icmp_ne d_Mo_step_24 rfl rfl, ?_⟩
  refine ⟨so_const1 d_Mo_step_27 (by decide) rfl, ?_⟩
  refine ⟨so_iret d_Mo_step_28 rfl, ?_⟩
  refine ⟨so_aloadn d_Mo_step_29 rfl rfl, ?_⟩
  refine ⟨so_iloadn d_Mo_step_30 rfl rfl, ?_⟩
  refine ⟨so_callv (ci := 8) rfl rfl mc_Mo_waitsFor mi_Mo mj_Mo_waitsFor ms_Mo_waitsFor ml_Mo_136 yd_Mo_waitsFor (by decide) d_Mo_step_31 rfl, ?_⟩
  refine ⟨so_if_lt d_Mo_step_34 rfl rfl, ?_⟩
  refine ⟨so_const1 d_Mo_step_37 (by decide) rfl, ?_⟩
  refine ⟨so_iret d_Mo_step_38 rfl, ?_⟩
  refine ⟨so_const2 d_Mo_step_39 (by decide) rfl, ?_⟩
  refine ⟨so_iloadn d_Mo_step_41 rfl rfl, ?_⟩
  refine ⟨so_imul d_Mo_step_42 rfl, ?_⟩
  refine ⟨so_aloadn d_Mo_step_43 rfl rfl, ?_⟩
  refine ⟨so_getr (ci := 8) (k := 13) rfl (by decide) rfl rfl fl_Mo_40 d_Mo_step_44 rfl, ?_⟩
  refine ⟨so_iloadn d_Mo_step_47 rfl rfl, ?_⟩
  refine ⟨so_iald d_Mo_step_48 rfl, ?_⟩
  refine ⟨so_iadd d_Mo_step_49 rfl, ?_⟩
  refine ⟨so_const1 d_Mo_step_50 (by decide) rfl, ?_⟩
  refine ⟨so_isub d_Mo_step_51 rfl, ?_⟩
  refine ⟨so_istoren d_Mo_step_52 rfl (by decide) rfl, ?_⟩
  refine ⟨so_aloadn d_Mo_step_53 rfl rfl, ?_⟩
  refine ⟨so_getr (ci := 8) (k := 18) rfl (by decide) rfl rfl fl_Mo_52 d_Mo_step_54 rfl, ?_⟩
  refine ⟨so_aloadn d_Mo_step_57 rfl rfl, ?_⟩
  refine ⟨so_geti (ci := 8) (k := 17) rfl (by decide) rfl rfl fl_Mo_123 d_Mo_step_58 rfl, ?_⟩
  refine ⟨so_aloadn d_Mo_step_61 rfl rfl, ?_⟩
  refine ⟨so_getr (ci := 8) (k := 16) rfl (by decide) rfl rfl fl_Mo_49 d_Mo_step_62 rfl, ?_⟩
  refine ⟨so_iloadn d_Mo_step_65 rfl rfl, ?_⟩
  refine ⟨so_iald d_Mo_step_66 rfl, ?_⟩
  refine ⟨so_iast d_Mo_step_67 rfl, ?_⟩
  refine ⟨so_aloadn d_Mo_step_68 rfl rfl, ?_⟩
  refine ⟨so_getr (ci := 8) (k := 19) rfl (by decide) rfl rfl fl_Mo_55 d_Mo_step_69 rfl, ?_⟩
  refine ⟨so_aloadn d_Mo_step_72 rfl rfl, ?_⟩
  refine ⟨so_geti (ci := 8) (k := 17) rfl (by decide) rfl rfl fl_Mo_123 d_Mo_step_73 rfl, ?_⟩
  refine ⟨so_const1 d_Mo_step_76 (by decide) rfl, ?_⟩
  refine ⟨so_iast d_Mo_step_77 rfl, ?_⟩
  refine ⟨so_aloadn d_Mo_step_78 rfl rfl, ?_⟩
  refine ⟨so_getr (ci := 8) (k := 20) rfl (by decide) rfl rfl fl_Mo_58 d_Mo_step_79 rfl, ?_⟩
  refine ⟨so_aloadn d_Mo_step_82 rfl rfl, ?_⟩
  refine ⟨so_geti (ci := 8) (k := 17) rfl (by decide) rfl rfl fl_Mo_123 d_Mo_step_83 rfl, ?_⟩
  refine ⟨so_const1 d_Mo_step_86 (by decide) rfl, ?_⟩
  refine ⟨so_iast d_Mo_step_87 rfl, ?_⟩
  refine ⟨so_aloadn d_Mo_step_88 rfl rfl, ?_⟩
  refine ⟨so_getr (ci := 8) (k := 16) rfl (by decide) rfl rfl fl_Mo_49 d_Mo_step_89 rfl, ?_⟩
  refine ⟨so_iloadn d_Mo_step_92 rfl rfl, ?_⟩
  refine ⟨so_aloadn d_Mo_step_93 rfl rfl, ?_⟩
  refine ⟨so_geti (ci := 8) (k := 17) rfl (by decide) rfl rfl fl_Mo_123 d_Mo_step_94 rfl, ?_⟩
  refine ⟨so_iast d_Mo_step_97 rfl, ?_⟩
  refine ⟨so_aloadn d_Mo_step_98 rfl rfl, ?_⟩
  refine ⟨so_getr (ci := 8) (k := 15) rfl (by decide) rfl rfl fl_Mo_46 d_Mo_step_99 rfl, ?_⟩
  refine ⟨so_iloadn d_Mo_step_102 rfl rfl, ?_⟩
  refine ⟨so_iald d_Mo_step_103 rfl, ?_⟩
  refine ⟨so_istoren d_Mo_step_104 rfl (by decide) rfl, ?_⟩
  refine ⟨so_aloadn d_Mo_step_105 rfl rfl, ?_⟩
  refine ⟨so_getr (ci := 8) (k := 15) rfl (by decide) rfl rfl fl_Mo_46 d_Mo_step_106 rfl, ?_⟩
  refine ⟨so_iloadn d_Mo_step_109 rfl rfl, ?_⟩
  refine ⟨so_dup2 d_Mo_step_110 rfl, ?_⟩
  refine ⟨so_iald d_Mo_step_111 rfl, ?_⟩
  refine ⟨so_const1 d_Mo_step_112 (by decide) rfl, ?_⟩
  refine ⟨so_iadd d_Mo_step_113 rfl, ?_⟩
  refine ⟨so_iast d_Mo_step_114 rfl, ?_⟩
  refine ⟨so_aloadn d_Mo_step_115 rfl rfl, ?_⟩
  refine ⟨so_iloadn d_Mo_step_116 rfl rfl, ?_⟩
  refine ⟨so_aloadn d_Mo_step_117 rfl rfl, ?_⟩
  refine ⟨so_getr (ci := 8) (k := 14) rfl (by decide) rfl rfl fl_Mo_43 d_Mo_step_118 rfl, ?_⟩
  refine ⟨so_iloadn d_Mo_step_121 rfl rfl, ?_⟩
  refine ⟨so_iald d_Mo_step_122 rfl, ?_⟩
  refine ⟨so_iloadn d_Mo_step_123 rfl rfl, ?_⟩
  refine ⟨so_callv (ci := 8) rfl rfl mc_Mo_does mi_Mo mj_Mo_does ms_Mo_does ml_Mo_139 yd_Mo_does (by decide) d_Mo_step_124 rfl, ?_⟩
  refine ⟨so_aloadn d_Mo_step_127 rfl rfl, ?_⟩
  refine ⟨so_iloadn d_Mo_step_128 rfl rfl, ?_⟩
  refine ⟨so_callv (ci := 8) rfl rfl mc_Mo_leave mi_Mo mj_Mo_leave ms_Mo_leave ml_Mo_115 yd_Mo_leave (by decide) d_Mo_step_129 rfl, ?_⟩
  refine ⟨so_aloadn d_Mo_step_132 rfl rfl, ?_⟩
  refine ⟨so_dup d_Mo_step_133 rfl, ?_⟩
  refine ⟨so_geti (ci := 8) (k := 17) rfl (by decide) rfl rfl fl_Mo_123 d_Mo_step_134 rfl, ?_⟩
  refine ⟨so_const1 d_Mo_step_137 (by decide) rfl, ?_⟩
  refine ⟨so_iadd d_Mo_step_138 rfl, ?_⟩
  refine ⟨so_puti (ci := 8) (k := 17) rfl (by decide) rfl rfl (Or.inl ⟨rfl, fl_Mo_123⟩) d_Mo_step_139 rfl, ?_⟩
  refine ⟨so_const1 d_Mo_step_142 (by decide) rfl, ?_⟩
  refine ⟨so_iret d_Mo_step_143 rfl, ?_⟩
  exact trivial
theorem d_Mo_isThread_0 : decode prog_10_method_20_code 0 = .ok (.aload_n 0, 1) := by decide +kernel
theorem d_Mo_isThread_1 : decode prog_10_method_20_code 1 = .ok (.getfield 119, 3) := by decide +kernel
theorem d_Mo_isThread_4 : decode prog_10_method_20_code 4 = .ok (.ifCond .eq 18, 3) := by decide +kernel
theorem d_Mo_isThread_7 : decode prog_10_method_20_code 7 = .ok (.iload_n 1, 1) := by decide +kernel
theorem d_Mo_isThread_8 : decode prog_10_method_20_code 8 = .ok (.aload_n 0, 1) := by decide +kernel
theorem d_Mo_isThread_9 : decode prog_10_method_20_code 9 = .ok (.getfield 108, 3) := by decide +kernel
theorem d_Mo_isThread_12 : decode prog_10_method_20_code 12 = .ok (.invokestatic 68, 3) := by decide +kernel
theorem d_Mo_isThread_15 : decode prog_10_method_20_code 15 = .ok (.ifCond .eq 7, 3) := by decide +kernel
theorem d_Mo_isThread_18 : decode prog_10_method_20_code 18 = .ok (.iconst 1, 1) := by decide +kernel
theorem d_Mo_isThread_19 : decode prog_10_method_20_code 19 = .ok (.goto 4, 3) := by decide +kernel
theorem d_Mo_isThread_22 : decode prog_10_method_20_code 22 = .ok (.iconst 0, 1) := by decide +kernel
theorem d_Mo_isThread_23 : decode prog_10_method_20_code 23 = .ok (.ireturn, 1) := by decide +kernel
def tb_Mo_isThread : List pm_I := [
  pm_aload 1 0,
  pm_geti 2 8 6,
  pm_if 10 3 (fun a => decide (a = 0)),
  pm_iload 4 1,
  pm_aload 5 0,
  pm_geti 6 8 11,
  pm_calls 7 71 2,
  pm_if 10 8 (fun a => decide (a = 0)),
  pm_const 9 1,
  pm_goto 11,
  pm_const 11 0,
  pm_zret]
def bp_Mo_isThread : List Nat := [0, 1, 4, 7, 8, 9, 12, 15, 18, 19, 22, 23]
set_option maxRecDepth 100000 in
theorem sd_Mo_isThread : pm_Sl prog_10_method_20_code 2 R_Mo "isThread" (some .boolean) pm_Y (pm_b bp_Mo_isThread) 0 tb_Mo_isThread := by
  refine ⟨so_aloadn d_Mo_isThread_0 rfl rfl, ?_⟩
  refine ⟨so_geti (ci := 8) (k := 6) rfl (by decide) rfl rfl fl_Mo_119 d_Mo_isThread_1 rfl, ?_⟩
  refine ⟨so_if_eq d_Mo_isThread_4 rfl rfl, ?_⟩
  refine ⟨so_iloadn d_Mo_isThread_7 rfl rfl, ?_⟩
  refine ⟨so_aloadn d_Mo_isThread_8 rfl rfl, ?_⟩
  refine ⟨so_geti (ci := 8) (k := 11) rfl (by decide) rfl rfl fl_Mo_108 d_Mo_isThread_9 rfl, ?_⟩
  refine ⟨so_calls rfl mc_Mo_isIn mi_Mo mt_Mo_isIn ml_Mo_68 yd_Mo_isIn (by decide) d_Mo_isThread_12 rfl, ?_⟩
  refine ⟨so_if_eq d_Mo_isThread_15 rfl rfl, ?_⟩
  refine ⟨so_const1 d_Mo_isThread_18 (by decide) rfl, ?_⟩
  refine ⟨so_goto d_Mo_isThread_19 rfl, ?_⟩
  refine ⟨so_const1 d_Mo_isThread_22 (by decide) rfl, ?_⟩
  refine ⟨so_zret d_Mo_isThread_23 rfl, ?_⟩
  exact trivial
theorem d_Mo_waitsFor_0 : decode prog_10_method_21_code 0 = .ok (.bipush 8, 2) := by decide +kernel
theorem d_Mo_waitsFor_2 : decode prog_10_method_21_code 2 = .ok (.iload_n 1, 1) := by decide +kernel
theorem d_Mo_waitsFor_3 : decode prog_10_method_21_code 3 = .ok (.imul, 1) := by decide +kernel
theorem d_Mo_waitsFor_4 : decode prog_10_method_21_code 4 = .ok (.aload_n 0, 1) := by decide +kernel
theorem d_Mo_waitsFor_5 : decode prog_10_method_21_code 5 = .ok (.getfield 40, 3) := by decide +kernel
theorem d_Mo_waitsFor_8 : decode prog_10_method_21_code 8 = .ok (.iload_n 1, 1) := by decide +kernel
theorem d_Mo_waitsFor_9 : decode prog_10_method_21_code 9 = .ok (.iaload, 1) := by decide +kernel
theorem d_Mo_waitsFor_10 : decode prog_10_method_21_code 10 = .ok (.iadd, 1) := by decide +kernel
theorem d_Mo_waitsFor_11 : decode prog_10_method_21_code 11 = .ok (.iconst 1, 1) := by decide +kernel
theorem d_Mo_waitsFor_12 : decode prog_10_method_21_code 12 = .ok (.isub, 1) := by decide +kernel
theorem d_Mo_waitsFor_13 : decode prog_10_method_21_code 13 = .ok (.istore_n 2, 1) := by decide +kernel
theorem d_Mo_waitsFor_14 : decode prog_10_method_21_code 14 = .ok (.aload_n 0, 1) := by decide +kernel
theorem d_Mo_waitsFor_15 : decode prog_10_method_21_code 15 = .ok (.aload_n 0, 1) := by decide +kernel
theorem d_Mo_waitsFor_16 : decode prog_10_method_21_code 16 = .ok (.getfield 43, 3) := by decide +kernel
theorem d_Mo_waitsFor_19 : decode prog_10_method_21_code 19 = .ok (.iload_n 2, 1) := by decide +kernel
theorem d_Mo_waitsFor_20 : decode prog_10_method_21_code 20 = .ok (.iaload, 1) := by decide +kernel
theorem d_Mo_waitsFor_21 : decode prog_10_method_21_code 21 = .ok (.aload_n 0, 1) := by decide +kernel
theorem d_Mo_waitsFor_22 : decode prog_10_method_21_code 22 = .ok (.getfield 46, 3) := by decide +kernel
theorem d_Mo_waitsFor_25 : decode prog_10_method_21_code 25 = .ok (.iload_n 2, 1) := by decide +kernel
theorem d_Mo_waitsFor_26 : decode prog_10_method_21_code 26 = .ok (.iaload, 1) := by decide +kernel
theorem d_Mo_waitsFor_27 : decode prog_10_method_21_code 27 = .ok (.invokevirtual 72, 3) := by decide +kernel
theorem d_Mo_waitsFor_30 : decode prog_10_method_21_code 30 = .ok (.iconst 4, 1) := by decide +kernel
theorem d_Mo_waitsFor_31 : decode prog_10_method_21_code 31 = .ok (.if_icmp .eq 5, 3) := by decide +kernel
theorem d_Mo_waitsFor_34 : decode prog_10_method_21_code 34 = .ok (.iconst (-1), 1) := by decide +kernel
theorem d_Mo_waitsFor_35 : decode prog_10_method_21_code 35 = .ok (.ireturn, 1) := by decide +kernel
theorem d_Mo_waitsFor_36 : decode prog_10_method_21_code 36 = .ok (.aload_n 0, 1) := by decide +kernel
theorem d_Mo_waitsFor_37 : decode prog_10_method_21_code 37 = .ok (.aload_n 0, 1) := by decide +kernel
theorem d_Mo_waitsFor_38 : decode prog_10_method_21_code 38 = .ok (.getfield 43, 3) := by decide +kernel
theorem d_Mo_waitsFor_41 : decode prog_10_method_21_code 41 = .ok (.iload_n 2, 1) := by decide +kernel
theorem d_Mo_waitsFor_42 : decode prog_10_method_21_code 42 = .ok (.iaload, 1) := by decide +kernel
theorem d_Mo_waitsFor_43 : decode prog_10_method_21_code 43 = .ok (.aload_n 0, 1) := by decide +kernel
theorem d_Mo_waitsFor_44 : decode prog_10_method_21_code 44 = .ok (.getfield 46, 3) := by decide +kernel
theorem d_Mo_waitsFor_47 : decode prog_10_method_21_code 47 = .ok (.iload_n 2, 1) := by decide +kernel
theorem d_Mo_waitsFor_48 : decode prog_10_method_21_code 48 = .ok (.iaload, 1) := by decide +kernel
theorem d_Mo_waitsFor_49 : decode prog_10_method_21_code 49 = .ok (.invokevirtual 95, 3) := by decide +kernel
theorem d_Mo_waitsFor_52 : decode prog_10_method_21_code 52 = .ok (.istore_n 3, 1) := by decide +kernel
theorem d_Mo_waitsFor_53 : decode prog_10_method_21_code 53 = .ok (.aload_n 0, 1) := by decide +kernel
theorem d_Mo_waitsFor_54 : decode prog_10_method_21_code 54 = .ok (.getfield 28, 3) := by decide +kernel
theorem d_Mo_waitsFor_57 : decode prog_10_method_21_code 57 = .ok (.iload_n 3, 1) := by decide +kernel
theorem d_Mo_waitsFor_58 : decode prog_10_method_21_code 58 = .ok (.iaload, 1) := by decide +kernel
theorem d_Mo_waitsFor_59 : decode prog_10_method_21_code 59 = .ok (.ifCond .lt 17, 3) := by decide +kernel
theorem d_Mo_waitsFor_62 : decode prog_10_method_21_code 62 = .ok (.aload_n 0, 1) := by decide +kernel
theorem d_Mo_waitsFor_63 : decode prog_10_method_21_code 63 = .ok (.getfield 28, 3) := by decide +kernel
theorem d_Mo_waitsFor_66 : decode prog_10_method_21_code 66 = .ok (.iload_n 3, 1) := by decide +kernel
theorem d_Mo_waitsFor_67 : decode prog_10_method_21_code 67 = .ok (.iaload, 1) := by decide +kernel
theorem d_Mo_waitsFor_68 : decode prog_10_method_21_code 68 = .ok (.iload_n 1, 1) := by decide +kernel
theorem d_Mo_waitsFor_69 : decode prog_10_method_21_code 69 = .ok (.if_icmp .eq 7, 3) := by decide +kernel
theorem d_Mo_waitsFor_72 : decode prog_10_method_21_code 72 = .ok (.iload_n 3, 1) := by decide +kernel
theorem d_Mo_waitsFor_73 : decode prog_10_method_21_code 73 = .ok (.goto 4, 3) := by decide +kernel
theorem d_Mo_waitsFor_76 : decode prog_10_method_21_code 76 = .ok (.iconst (-1), 1) := by decide +kernel
theorem d_Mo_waitsFor_77 : decode prog_10_method_21_code 77 = .ok (.ireturn, 1) := by decide +kernel
def tb_Mo_waitsFor : List pm_I := [
  pm_const 1 8,
  pm_iload 2 1,
  pm_bin 3 (fun a b => a * b),
  pm_aload 4 0,
  pm_getr 5 8 13,
  pm_iload 6 1,
  pm_iald 7 0,
  pm_bin 8 (fun a b => a + b),
  pm_const 9 1,
  pm_bin 10 (fun a b => a - b),
  pm_istore 11 2,
  pm_aload 12 0,
  pm_aload 13 0,
  pm_getr 14 8 14,
  pm_iload 15 2,
  pm_iald 16 0,
  pm_aload 17 0,
  pm_getr 18 8 15,
  pm_iload 19 2,
  pm_iald 20 0,
  pm_callv 21 74 3 8,
  pm_const 22 4,
  pm_icmp 25 23 (fun a b => decide (a = b)),
  pm_const 24 (-1),
  pm_iret,
  pm_aload 26 0,
  pm_aload 27 0,
  pm_getr 28 8 14,
  pm_iload 29 2,
  pm_iald 30 0,
  pm_aload 31 0,
  pm_getr 32 8 15,
  pm_iload 33 2,
  pm_iald 34 0,
  pm_callv 35 78 3 8,
  pm_istore 36 3,
  pm_aload 37 0,
  pm_getr 38 8 8,
  pm_iload 39 3,
  pm_iald 40 0,
  pm_if 49 41 (fun a => decide (a < 0)),
  pm_aload 42 0,
  pm_getr 43 8 8,
  pm_iload 44 3,
  pm_iald 45 0,
  pm_iload 46 1,
  pm_icmp 49 47 (fun a b => decide (a = b)),
  pm_iload 48 3,
  pm_goto 50,
  pm_const 50 (-1),
  pm_iret]
def bp_Mo_waitsFor : List Nat := [0, 2, 3, 4, 5, 8, 9, 10, 11, 12, 13, 14, 15, 16, 19, 20, 21, 22, 25, 26, 27, 30, 31, 34, 35, 36, 37, 38, 41, 42, 43, 44, 47, 48, 49, 52, 53, 54, 57, 58, 59, 62, 63, 66, 67, 68, 69, 72, 73, 76, 77]
set_option maxRecDepth 100000 in
theorem sd_Mo_waitsFor : pm_Sl prog_10_method_21_code 4 R_Mo "waitsFor" (some .int) pm_Y (pm_b bp_Mo_waitsFor) 0 tb_Mo_waitsFor := by
  refine ⟨so_const2 d_Mo_waitsFor_0 (by decide) rfl, ?_⟩
  refine ⟨so_iloadn d_Mo_waitsFor_2 rfl rfl, ?_⟩
  refine ⟨so_imul d_Mo_waitsFor_3 rfl, ?_⟩
  refine ⟨so_aloadn d_Mo_waitsFor_4 rfl rfl, ?_⟩
  refine ⟨so_getr (ci := 8) (k := 13) rfl (by decide) rfl rfl fl_Mo_40 d_Mo_waitsFor_5 rfl, ?_⟩
  refine ⟨so_iloadn d_Mo_waitsFor_8 rfl rfl, ?_⟩
  refine ⟨so_iald d_Mo_waitsFor_9 rfl, ?_⟩
  refine ⟨so_iadd d_Mo_waitsFor_10 rfl, ?_⟩
  refine ⟨so_const1 d_Mo_waitsFor_11 (by decide) rfl, ?_⟩
  refine ⟨so_isub d_Mo_waitsFor_12 rfl, ?_⟩
  refine ⟨so_istoren d_Mo_waitsFor_13 rfl (by decide) rfl, ?_⟩
  refine ⟨so_aloadn d_Mo_waitsFor_14 rfl rfl, ?_⟩
  refine ⟨so_aloadn d_Mo_waitsFor_15 rfl rfl, ?_⟩
  refine ⟨so_getr (ci := 8) (k := 14) rfl (by decide) rfl rfl fl_Mo_43 d_Mo_waitsFor_16 rfl, ?_⟩
  refine ⟨so_iloadn d_Mo_waitsFor_19 rfl rfl, ?_⟩
  refine ⟨so_iald d_Mo_waitsFor_20 rfl, ?_⟩
  refine ⟨so_aloadn d_Mo_waitsFor_21 rfl rfl, ?_⟩
  refine ⟨so_getr (ci := 8) (k := 15) rfl (by decide) rfl rfl fl_Mo_46 d_Mo_waitsFor_22 rfl, ?_⟩
  refine ⟨so_iloadn d_Mo_waitsFor_25 rfl rfl, ?_⟩
  refine ⟨so_iald d_Mo_waitsFor_26 rfl, ?_⟩
  refine ⟨so_callv (ci := 8) rfl rfl mc_Mo_kindAt mi_Mo mj_Mo_kindAt ms_Mo_kindAt ml_Mo_72 yd_Mo_kindAt (by decide) d_Mo_waitsFor_27 rfl, ?_⟩
  refine ⟨so_const1 d_Mo_waitsFor_30 (by decide) rfl, ?_⟩
  refine ⟨so_icmp_eq d_Mo_waitsFor_31 rfl rfl, ?_⟩
  refine ⟨so_const1 d_Mo_waitsFor_34 (by decide) rfl, ?_⟩
  refine ⟨so_iret d_Mo_waitsFor_35 rfl, ?_⟩
  refine ⟨so_aloadn d_Mo_waitsFor_36 rfl rfl, ?_⟩
  refine ⟨so_aloadn d_Mo_waitsFor_37 rfl rfl, ?_⟩
  refine ⟨so_getr (ci := 8) (k := 14) rfl (by decide) rfl rfl fl_Mo_43 d_Mo_waitsFor_38 rfl, ?_⟩
  refine ⟨so_iloadn d_Mo_waitsFor_41 rfl rfl, ?_⟩
  refine ⟨so_iald d_Mo_waitsFor_42 rfl, ?_⟩
  refine ⟨so_aloadn d_Mo_waitsFor_43 rfl rfl, ?_⟩
  refine ⟨so_getr (ci := 8) (k := 15) rfl (by decide) rfl rfl fl_Mo_46 d_Mo_waitsFor_44 rfl, ?_⟩
  refine ⟨so_iloadn d_Mo_waitsFor_47 rfl rfl, ?_⟩
  refine ⟨so_iald d_Mo_waitsFor_48 rfl, ?_⟩
  refine ⟨so_callv (ci := 8) rfl rfl mc_Mo_numberAt mi_Mo mj_Mo_numberAt ms_Mo_numberAt ml_Mo_95 yd_Mo_numberAt (by decide) d_Mo_waitsFor_49 rfl, ?_⟩
  refine ⟨so_istoren d_Mo_waitsFor_52 rfl (by decide) rfl, ?_⟩
  refine ⟨so_aloadn d_Mo_waitsFor_53 rfl rfl, ?_⟩
  refine ⟨so_getr (ci := 8) (k := 8) rfl (by decide) rfl rfl fl_Mo_28 d_Mo_waitsFor_54 rfl, ?_⟩
  refine ⟨so_iloadn d_Mo_waitsFor_57 rfl rfl, ?_⟩
  refine ⟨so_iald d_Mo_waitsFor_58 rfl, ?_⟩
  refine ⟨so_if_lt d_Mo_waitsFor_59 rfl rfl, ?_⟩
  refine ⟨so_aloadn d_Mo_waitsFor_62 rfl rfl, ?_⟩
  refine ⟨so_getr (ci := 8) (k := 8) rfl (by decide) rfl rfl fl_Mo_28 d_Mo_waitsFor_63 rfl, ?_⟩
  refine ⟨so_iloadn d_Mo_waitsFor_66 rfl rfl, ?_⟩
  refine ⟨so_iald d_Mo_waitsFor_67 rfl, ?_⟩
  refine ⟨so_iloadn d_Mo_waitsFor_68 rfl rfl, ?_⟩
  refine ⟨so_icmp_eq d_Mo_waitsFor_69 rfl rfl, ?_⟩
  refine ⟨so_iloadn d_Mo_waitsFor_72 rfl rfl, ?_⟩
  refine ⟨so_goto d_Mo_waitsFor_73 rfl, ?_⟩
  refine ⟨so_const1 d_Mo_waitsFor_76 (by decide) rfl, ?_⟩
  refine ⟨so_iret d_Mo_waitsFor_77 rfl, ?_⟩
  exact trivial
theorem d_Mo_does_0 : decode prog_10_method_23_code 0 = .ok (.aload_n 0, 1) := by decide +kernel
theorem d_Mo_does_1 : decode prog_10_method_23_code 1 = .ok (.iload_n 2, 1) := by decide +kernel
theorem d_Mo_does_2 : decode prog_10_method_23_code 2 = .ok (.iload_n 3, 1) := by decide +kernel
theorem d_Mo_does_3 : decode prog_10_method_23_code 3 = .ok (.invokevirtual 95, 3) := by decide +kernel
theorem d_Mo_does_6 : decode prog_10_method_23_code 6 = .ok (.istore 4, 2) := by decide +kernel
theorem d_Mo_does_8 : decode prog_10_method_23_code 8 = .ok (.bipush 8, 2) := by decide +kernel
theorem d_Mo_does_10 : decode prog_10_method_23_code 10 = .ok (.iload_n 1, 1) := by decide +kernel
theorem d_Mo_does_11 : decode prog_10_method_23_code 11 = .ok (.imul, 1) := by decide +kernel
theorem d_Mo_does_12 : decode prog_10_method_23_code 12 = .ok (.aload_n 0, 1) := by decide +kernel
theorem d_Mo_does_13 : decode prog_10_method_23_code 13 = .ok (.getfield 40, 3) := by decide +kernel
theorem d_Mo_does_16 : decode prog_10_method_23_code 16 = .ok (.iload_n 1, 1) := by decide +kernel
theorem d_Mo_does_17 : decode prog_10_method_23_code 17 = .ok (.iaload, 1) := by decide +kernel
theorem d_Mo_does_18 : decode prog_10_method_23_code 18 = .ok (.iadd, 1) := by decide +kernel
theorem d_Mo_does_19 : decode prog_10_method_23_code 19 = .ok (.iconst 1, 1) := by decide +kernel
theorem d_Mo_does_20 : decode prog_10_method_23_code 20 = .ok (.isub, 1) := by decide +kernel
theorem d_Mo_does_21 : decode prog_10_method_23_code 21 = .ok (.istore 5, 2) := by decide +kernel
theorem d_Mo_does_23 : decode prog_10_method_23_code 23 = .ok (.aload_n 0, 1) := by decide +kernel
theorem d_Mo_does_24 : decode prog_10_method_23_code 24 = .ok (.iload_n 2, 1) := by decide +kernel
theorem d_Mo_does_25 : decode prog_10_method_23_code 25 = .ok (.iload_n 3, 1) := by decide +kernel
theorem d_Mo_does_26 : decode prog_10_method_23_code 26 = .ok (.invokevirtual 72, 3) := by decide +kernel
theorem d_Mo_does_29 : decode prog_10_method_23_code 29 = .ok (.tableswitch 246 0 9 #[55, 77, 99, 111, 120, 128, 136, 164, 183, 211], 55) := by decide +kernel
theorem d_Mo_does_84 : decode prog_10_method_23_code 84 = .ok (.aload_n 0, 1) := by decide +kernel
theorem d_Mo_does_85 : decode prog_10_method_23_code 85 = .ok (.iload_n 1, 1) := by decide +kernel
theorem d_Mo_does_86 : decode prog_10_method_23_code 86 = .ok (.iload 4, 2) := by decide +kernel
theorem d_Mo_does_88 : decode prog_10_method_23_code 88 = .ok (.iconst 0, 1) := by decide +kernel
theorem d_Mo_does_89 : decode prog_10_method_23_code 89 = .ok (.invokevirtual 142, 3) := by decide +kernel
theorem d_Mo_does_92 : decode prog_10_method_23_code 92 = .ok (.aload_n 0, 1) := by decide +kernel
theorem d_Mo_does_93 : decode prog_10_method_23_code 93 = .ok (.getfield 37, 3) := by decide +kernel
theorem d_Mo_does_96 : decode prog_10_method_23_code 96 = .ok (.iload_n 1, 1) := by decide +kernel
theorem d_Mo_does_97 : decode prog_10_method_23_code 97 = .ok (.aload_n 0, 1) := by decide +kernel
theorem d_Mo_does_98 : decode prog_10_method_23_code 98 = .ok (.getfield 25, 3) := by decide +kernel
theorem d_Mo_does_101 : decode prog_10_method_23_code 101 = .ok (.iload 4, 2) := by decide +kernel
theorem d_Mo_does_103 : decode prog_10_method_23_code 103 = .ok (.iaload, 1) := by decide +kernel
theorem d_Mo_does_104 : decode prog_10_method_23_code 104 = .ok (.iastore, 1) := by decide +kernel
theorem d_Mo_does_105 : decode prog_10_method_23_code 105 = .ok (.return_, 1) := by decide +kernel
theorem d_Mo_does_106 : decode prog_10_method_23_code 106 = .ok (.aload_n 0, 1) := by decide +kernel
theorem d_Mo_does_107 : decode prog_10_method_23_code 107 = .ok (.iload_n 1, 1) := by decide +kernel
theorem d_Mo_does_108 : decode prog_10_method_23_code 108 = .ok (.iload 4, 2) := by decide +kernel
theorem d_Mo_does_110 : decode prog_10_method_23_code 110 = .ok (.iconst 1, 1) := by decide +kernel
theorem d_Mo_does_111 : decode prog_10_method_23_code 111 = .ok (.invokevirtual 142, 3) := by decide +kernel
theorem d_Mo_does_114 : decode prog_10_method_23_code 114 = .ok (.aload_n 0, 1) := by decide +kernel
theorem d_Mo_does_115 : decode prog_10_method_23_code 115 = .ok (.getfield 25, 3) := by decide +kernel
theorem d_Mo_does_118 : decode prog_10_method_23_code 118 = .ok (.iload 4, 2) := by decide +kernel
theorem d_Mo_does_120 : decode prog_10_method_23_code 120 = .ok (.aload_n 0, 1) := by decide +kernel
theorem d_Mo_does_121 : decode prog_10_method_23_code 121 = .ok (.getfield 37, 3) := by decide +kernel
theorem d_Mo_does_124 : decode prog_10_method_23_code 124 = .ok (.iload_n 1, 1) := by decide +kernel
theorem d_Mo_does_125 : decode prog_10_method_23_code 125 = .ok (.iaload, 1) := by decide +kernel
theorem d_Mo_does_126 : decode prog_10_method_23_code 126 = .ok (.iastore, 1) := by decide +kernel
theorem d_Mo_does_127 : decode prog_10_method_23_code 127 = .ok (.return_, 1) := by decide +kernel
theorem d_Mo_does_128 : decode prog_10_method_23_code 128 = .ok (.aload_n 0, 1) := by decide +kernel
theorem d_Mo_does_129 : decode prog_10_method_23_code 129 = .ok (.getfield 37, 3) := by decide +kernel
theorem d_Mo_does_132 : decode prog_10_method_23_code 132 = .ok (.iload_n 1, 1) := by decide +kernel
theorem d_Mo_does_133 : decode prog_10_method_23_code 133 = .ok (.dup2, 1) := by decide +kernel
theorem d_Mo_does_134 : decode prog_10_method_23_code 134 = .ok (.iaload, 1) := by decide +kernel
theorem d_Mo_does_135 : decode prog_10_method_23_code 135 = .ok (.iload 4, 2) := by decide +kernel
theorem d_Mo_does_137 : decode prog_10_method_23_code 137 = .ok (.iadd, 1) := by decide +kernel
theorem d_Mo_does_138 : decode prog_10_method_23_code 138 = .ok (.iastore, 1) := by decide +kernel
theorem d_Mo_does_139 : decode prog_10_method_23_code 139 = .ok (.return_, 1) := by decide +kernel
theorem d_Mo_does_140 : decode prog_10_method_23_code 140 = .ok (.aload_n 0, 1) := by decide +kernel
theorem d_Mo_does_141 : decode prog_10_method_23_code 141 = .ok (.getfield 37, 3) := by decide +kernel
theorem d_Mo_does_144 : decode prog_10_method_23_code 144 = .ok (.iload_n 1, 1) := by decide +kernel
theorem d_Mo_does_145 : decode prog_10_method_23_code 145 = .ok (.iload 4, 2) := by decide +kernel
theorem d_Mo_does_147 : decode prog_10_method_23_code 147 = .ok (.iastore, 1) := by decide +kernel
theorem d_Mo_does_148 : decode prog_10_method_23_code 148 = .ok (.return_, 1) := by decide +kernel
theorem d_Mo_does_149 : decode prog_10_method_23_code 149 = .ok (.aload_n 0, 1) := by decide +kernel
theorem d_Mo_does_150 : decode prog_10_method_23_code 150 = .ok (.iload_n 1, 1) := by decide +kernel
theorem d_Mo_does_151 : decode prog_10_method_23_code 151 = .ok (.iload 4, 2) := by decide +kernel
theorem d_Mo_does_153 : decode prog_10_method_23_code 153 = .ok (.invokevirtual 145, 3) := by decide +kernel
theorem d_Mo_does_156 : decode prog_10_method_23_code 156 = .ok (.return_, 1) := by decide +kernel
theorem d_Mo_does_157 : decode prog_10_method_23_code 157 = .ok (.aload_n 0, 1) := by decide +kernel
theorem d_Mo_does_158 : decode prog_10_method_23_code 158 = .ok (.iload_n 1, 1) := by decide +kernel
theorem d_Mo_does_159 : decode prog_10_method_23_code 159 = .ok (.iload_n 2, 1) := by decide +kernel
theorem d_Mo_does_160 : decode prog_10_method_23_code 160 = .ok (.iload_n 3, 1) := by decide +kernel
theorem d_Mo_does_161 : decode prog_10_method_23_code 161 = .ok (.invokevirtual 148, 3) := by decide +kernel
theorem d_Mo_does_164 : decode prog_10_method_23_code 164 = .ok (.return_, 1) := by decide +kernel
theorem d_Mo_does_165 : decode prog_10_method_23_code 165 = .ok (.aload_n 0, 1) := by decide +kernel
theorem d_Mo_does_166 : decode prog_10_method_23_code 166 = .ok (.getfield 37, 3) := by decide +kernel
theorem d_Mo_does_169 : decode prog_10_method_23_code 169 = .ok (.iload_n 1, 1) := by decide +kernel
theorem d_Mo_does_170 : decode prog_10_method_23_code 170 = .ok (.iaload, 1) := by decide +kernel
theorem d_Mo_does_171 : decode prog_10_method_23_code 171 = .ok (.ifCond .ne 21, 3) := by decide +kernel
theorem d_Mo_does_174 : decode prog_10_method_23_code 174 = .ok (.aload_n 0, 1) := by decide +kernel
theorem d_Mo_does_175 : decode prog_10_method_23_code 175 = .ok (.getfield 46, 3) := by decide +kernel
theorem d_Mo_does_178 : decode prog_10_method_23_code 178 = .ok (.iload 5, 2) := by decide +kernel
theorem d_Mo_does_180 : decode prog_10_method_23_code 180 = .ok (.aload_n 0, 1) := by decide +kernel
theorem d_Mo_does_181 : decode prog_10_method_23_code 181 = .ok (.iload_n 2, 1) := by decide +kernel
theorem d_Mo_does_182 : decode prog_10_method_23_code 182 = .ok (.iload_n 3, 1) := by decide +kernel
theorem d_Mo_does_183 : decode prog_10_method_23_code 183 = .ok (.iconst 1, 1) := by decide +kernel
theorem d_Mo_does_184 : decode prog_10_method_23_code 184 = .ok (.iadd, 1) := by decide +kernel
theorem d_Mo_does_185 : decode prog_10_method_23_code 185 = .ok (.iconst 1, 1) := by decide +kernel
theorem d_Mo_does_186 : decode prog_10_method_23_code 186 = .ok (.invokevirtual 83, 3) := by decide +kernel
theorem d_Mo_does_189 : decode prog_10_method_23_code 189 = .ok (.iconst 1, 1) := by decide +kernel
theorem d_Mo_does_190 : decode prog_10_method_23_code 190 = .ok (.iadd, 1) := by decide +kernel
theorem d_Mo_does_191 : decode prog_10_method_23_code 191 = .ok (.iastore, 1) := by decide +kernel
theorem d_Mo_does_192 : decode prog_10_method_23_code 192 = .ok (.return_, 1) := by decide +kernel
theorem d_Mo_does_193 : decode prog_10_method_23_code 193 = .ok (.aload_n 0, 1) := by decide +kernel
theorem d_Mo_does_194 : decode prog_10_method_23_code 194 = .ok (.getfield 46, 3) := by decide +kernel
theorem d_Mo_does_197 : decode prog_10_method_23_code 197 = .ok (.iload 5, 2) := by decide +kernel
theorem d_Mo_does_199 : decode prog_10_method_23_code 199 = .ok (.aload_n 0, 1) := by decide +kernel
theorem d_Mo_does_200 : decode prog_10_method_23_code 200 = .ok (.iload_n 2, 1) := by decide +kernel
theorem d_Mo_does_201 : decode prog_10_method_23_code 201 = .ok (.iload_n 3, 1) := by decide +kernel
theorem d_Mo_does_202 : decode prog_10_method_23_code 202 = .ok (.iconst 1, 1) := by decide +kernel
theorem d_Mo_does_203 : decode prog_10_method_23_code 203 = .ok (.iadd, 1) := by decide +kernel
theorem d_Mo_does_204 : decode prog_10_method_23_code 204 = .ok (.iconst 0, 1) := by decide +kernel
theorem d_Mo_does_205 : decode prog_10_method_23_code 205 = .ok (.invokevirtual 83, 3) := by decide +kernel
theorem d_Mo_does_208 : decode prog_10_method_23_code 208 = .ok (.iconst 1, 1) := by decide +kernel
theorem d_Mo_does_209 : decode prog_10_method_23_code 209 = .ok (.iadd, 1) := by decide +kernel
theorem d_Mo_does_210 : decode prog_10_method_23_code 210 = .ok (.iastore, 1) := by decide +kernel
theorem d_Mo_does_211 : decode prog_10_method_23_code 211 = .ok (.return_, 1) := by decide +kernel
theorem d_Mo_does_212 : decode prog_10_method_23_code 212 = .ok (.aload_n 0, 1) := by decide +kernel
theorem d_Mo_does_213 : decode prog_10_method_23_code 213 = .ok (.getfield 37, 3) := by decide +kernel
theorem d_Mo_does_216 : decode prog_10_method_23_code 216 = .ok (.iload_n 1, 1) := by decide +kernel
theorem d_Mo_does_217 : decode prog_10_method_23_code 217 = .ok (.iaload, 1) := by decide +kernel
theorem d_Mo_does_218 : decode prog_10_method_23_code 218 = .ok (.ifCond .ne 21, 3) := by decide +kernel
theorem d_Mo_does_221 : decode prog_10_method_23_code 221 = .ok (.aload_n 0, 1) := by decide +kernel
theorem d_Mo_does_222 : decode prog_10_method_23_code 222 = .ok (.getfield 46, 3) := by decide +kernel
theorem d_Mo_does_225 : decode prog_10_method_23_code 225 = .ok (.iload 5, 2) := by decide +kernel
theorem d_Mo_does_227 : decode prog_10_method_23_code 227 = .ok (.aload_n 0, 1) := by decide +kernel
theorem d_Mo_does_228 : decode prog_10_method_23_code 228 = .ok (.iload_n 2, 1) := by decide +kernel
theorem d_Mo_does_229 : decode prog_10_method_23_code 229 = .ok (.iload_n 3, 1) := by decide +kernel
theorem d_Mo_does_230 : decode prog_10_method_23_code 230 = .ok (.iconst 1, 1) := by decide +kernel
theorem d_Mo_does_231 : decode prog_10_method_23_code 231 = .ok (.iadd, 1) := by decide +kernel
theorem d_Mo_does_232 : decode prog_10_method_23_code 232 = .ok (.iconst 0, 1) := by decide +kernel
theorem d_Mo_does_233 : decode prog_10_method_23_code 233 = .ok (.invokevirtual 83, 3) := by decide +kernel
theorem d_Mo_does_236 : decode prog_10_method_23_code 236 = .ok (.iconst 1, 1) := by decide +kernel
theorem d_Mo_does_237 : decode prog_10_method_23_code 237 = .ok (.iadd, 1) := by decide +kernel
theorem d_Mo_does_238 : decode prog_10_method_23_code 238 = .ok (.iastore, 1) := by decide +kernel
theorem d_Mo_does_239 : decode prog_10_method_23_code 239 = .ok (.return_, 1) := by decide +kernel
theorem d_Mo_does_240 : decode prog_10_method_23_code 240 = .ok (.iload 4, 2) := by decide +kernel
theorem d_Mo_does_242 : decode prog_10_method_23_code 242 = .ok (.aload_n 0, 1) := by decide +kernel
theorem d_Mo_does_243 : decode prog_10_method_23_code 243 = .ok (.getfield 87, 3) := by decide +kernel
theorem d_Mo_does_246 : decode prog_10_method_23_code 246 = .ok (.if_icmp .ge 28, 3) := by decide +kernel
theorem d_Mo_does_249 : decode prog_10_method_23_code 249 = .ok (.aload_n 0, 1) := by decide +kernel
theorem d_Mo_does_250 : decode prog_10_method_23_code 250 = .ok (.getfield 108, 3) := by decide +kernel
theorem d_Mo_does_253 : decode prog_10_method_23_code 253 = .ok (.bipush 6, 2) := by decide +kernel
theorem d_Mo_does_255 : decode prog_10_method_23_code 255 = .ok (.if_icmp .ge 19, 3) := by decide +kernel
theorem d_Mo_does_258 : decode prog_10_method_23_code 258 = .ok (.aload_n 0, 1) := by decide +kernel
theorem d_Mo_does_259 : decode prog_10_method_23_code 259 = .ok (.iload 4, 2) := by decide +kernel
theorem d_Mo_does_261 : decode prog_10_method_23_code 261 = .ok (.aload_n 0, 1) := by decide +kernel
theorem d_Mo_does_262 : decode prog_10_method_23_code 262 = .ok (.getfield 37, 3) := by decide +kernel
theorem d_Mo_does_265 : decode prog_10_method_23_code 265 = .ok (.iload_n 1, 1) := by decide +kernel
theorem d_Mo_does_266 : decode prog_10_method_23_code 266 = .ok (.iaload, 1) := by decide +kernel
theorem d_Mo_does_267 : decode prog_10_method_23_code 267 = .ok (.aload_n 0, 1) := by decide +kernel
theorem d_Mo_does_268 : decode prog_10_method_23_code 268 = .ok (.getfield 123, 3) := by decide +kernel
theorem d_Mo_does_271 : decode prog_10_method_23_code 271 = .ok (.invokevirtual 129, 3) := by decide +kernel
theorem d_Mo_does_274 : decode prog_10_method_23_code 274 = .ok (.return_, 1) := by decide +kernel
theorem d_Mo_does_275 : decode prog_10_method_23_code 275 = .ok (.iload 4, 2) := by decide +kernel
theorem d_Mo_does_277 : decode prog_10_method_23_code 277 = .ok (.aload_n 0, 1) := by decide +kernel
theorem d_Mo_does_278 : decode prog_10_method_23_code 278 = .ok (.getfield 87, 3) := by decide +kernel
theorem d_Mo_does_281 : decode prog_10_method_23_code 281 = .ok (.if_icmp .ge 21, 3) := by decide +kernel
theorem d_Mo_does_284 : decode prog_10_method_23_code 284 = .ok (.aload_n 0, 1) := by decide +kernel
theorem d_Mo_does_285 : decode prog_10_method_23_code 285 = .ok (.getfield 40, 3) := by decide +kernel
theorem d_Mo_does_288 : decode prog_10_method_23_code 288 = .ok (.iload_n 1, 1) := by decide +kernel
theorem d_Mo_does_289 : decode prog_10_method_23_code 289 = .ok (.iaload, 1) := by decide +kernel
theorem d_Mo_does_290 : decode prog_10_method_23_code 290 = .ok (.bipush 8, 2) := by decide +kernel
theorem d_Mo_does_292 : decode prog_10_method_23_code 292 = .ok (.if_icmp .ge 10, 3) := by decide +kernel
theorem d_Mo_does_295 : decode prog_10_method_23_code 295 = .ok (.aload_n 0, 1) := by decide +kernel
theorem d_Mo_does_296 : decode prog_10_method_23_code 296 = .ok (.iload_n 1, 1) := by decide +kernel
theorem d_Mo_does_297 : decode prog_10_method_23_code 297 = .ok (.iload 4, 2) := by decide +kernel
theorem d_Mo_does_299 : decode prog_10_method_23_code 299 = .ok (.invokevirtual 111, 3) := by decide +kernel
theorem d_Mo_does_302 : decode prog_10_method_23_code 302 = .ok (.return_, 1) := by decide +kernel
def tb_Mo_does : List pm_I := [
  pm_aload 1 0,
  pm_iload 2 2,
  pm_iload 3 3,
  pm_callv 4 78 3 8,
  pm_istore 5 4,
  pm_const 6 8,
  pm_iload 7 1,
  pm_bin 8 (fun a b => a * b),
  pm_aload 9 0,
  pm_getr 10 8 13,
  pm_iload 11 1,
  pm_iald 12 0,
  pm_bin 13 (fun a b => a + b),
  pm_const 14 1,
  pm_bin 15 (fun a b => a - b),
  pm_istore 16 5,
  pm_aload 17 0,
  pm_iload 18 2,
  pm_iload 19 3,
  pm_callv 20 74 3 8,
  pm_sw [(0, 21), (1, 35), (2, 49), (3, 58), (4, 64), (5, 69), (6, 75), (7, 94), (8, 108), (9, 127)] 145,
  pm_aload 22 0,
  pm_iload 23 1,
  pm_iload 24 4,
  pm_const 25 0,
  pm_callv 26 92 4 8,
  pm_aload 27 0,
  pm_getr 28 8 12,
  pm_iload 29 1,
  pm_aload 30 0,
  pm_getr 31 8 7,
  pm_iload 32 4,
  pm_iald 33 0,
  pm_iast 34,
  pm_vret,
  pm_aload 36 0,
  pm_iload 37 1,
  pm_iload 38 4,
  pm_const 39 1,
  pm_callv 40 92 4 8,
  pm_aload 41 0,
  pm_getr 42 8 7,
  pm_iload 43 4,
  pm_aload 44 0,
  pm_getr 45 8 12,
  pm_iload 46 1,
  pm_iald 47 0,
  pm_iast 48,
  pm_vret,
  pm_aload 50 0,
  pm_getr 51 8 12,
  pm_iload 52 1,
  pm_dup2 53,
  pm_iald 54 0,
  pm_iload 55 4,
  pm_bin 56 (fun a b => a + b),
  pm_iast 57,
  pm_vret,
  pm_aload 59 0,
  pm_getr 60 8 12,
  pm_iload 61 1,
  pm_iload 62 4,
  pm_iast 63,
  pm_vret,
  pm_aload 65 0,
  pm_iload 66 1,
  pm_iload 67 4,
  pm_callv 68 94 3 8,
  pm_vret,
  pm_aload 70 0,
  pm_iload 71 1,
  pm_iload 72 2,
  pm_iload 73 3,
  pm_callv 74 95 4 8,
  pm_vret,
  pm_aload 76 0,
  pm_getr 77 8 12,
  pm_iload 78 1,
  pm_iald 79 0,
  pm_if 93 80 (fun a => decide (a ≠ 0)),
  pm_aload 81 0,
  pm_getr 82 8 15,
  pm_iload 83 5,
  pm_aload 84 0,
  pm_iload 85 2,
  pm_iload 86 3,
  pm_const 87 1,
  pm_bin 88 (fun a b => a + b),
  pm_const 89 1,
  pm_callv 90 77 4 8,
  pm_const 91 1,
  pm_bin 92 (fun a b => a + b),
  pm_iast 93,
  pm_vret,
  pm_aload 95 0,
  pm_getr 96 8 15,
  pm_iload 97 5,
  pm_aload 98 0,
  pm_iload 99 2,
  pm_iload 100 3,
  pm_const 101 1,
  pm_bin 102 (fun a b => a + b),
  pm_const 103 0,
  pm_callv 104 77 4 8,
  pm_const 105 1,
  pm_bin 106 (fun a b => a + b),
  pm_iast 107,
  pm_vret,
  pm_aload 109 0,
  pm_getr 110 8 12,
  pm_iload 111 1,
  pm_iald 112 0,
  pm_if 126 113 (fun a => decide (a ≠ 0)),
  pm_aload 114 0,
  pm_getr 115 8 15,
  pm_iload 116 5,
  pm_aload 117 0,
  pm_iload 118 2,
  pm_iload 119 3,
  pm_const 120 1,
  pm_bin 121 (fun a b => a + b),
  pm_const 122 0,
  pm_callv 123 77 4 8,
  pm_const 124 1,
  pm_bin 125 (fun a b => a + b),
  pm_iast 126,
  pm_vret,
  pm_iload 128 4,
  pm_aload 129 0,
  pm_geti 130 8 4,
  pm_icmp 144 131 (fun a b => decide (b ≤ a)),
  pm_aload 132 0,
  pm_geti 133 8 11,
  pm_const 134 6,
  pm_icmp 144 135 (fun a b => decide (b ≤ a)),
  pm_aload 136 0,
  pm_iload 137 4,
  pm_aload 138 0,
  pm_getr 139 8 12,
  pm_iload 140 1,
  pm_iald 141 0,
  pm_aload 142 0,
  pm_geti 143 8 17,
  pm_callv 144 85 4 8,
  pm_vret,
  pm_iload 146 4,
  pm_aload 147 0,
  pm_geti 148 8 4,
  pm_icmp 159 149 (fun a b => decide (b ≤ a)),
  pm_aload 150 0,
  pm_getr 151 8 13,
  pm_iload 152 1,
  pm_iald 153 0,
  pm_const 154 8,
  pm_icmp 159 155 (fun a b => decide (b ≤ a)),
  pm_aload 156 0,
  pm_iload 157 1,
  pm_iload 158 4,
  pm_callv 159 86 3 8,
  pm_vret]
def bp_Mo_does : List Nat := [0, 1, 2, 3, 6, 8, 10, 11, 12, 13, 16, 17, 18, 19, 20, 21, 23, 24, 25, 26, 29, 84, 85, 86, 88, 89, 92, 93, 96, 97, 98, 101, 103, 104, 105, 106, 107, 108, 110, 111, 114, 115, 118, 120, 121, 124, 125, 126, 127, 128, 129, 132, 133, 134, 135, 137, 138, 139, 140, 141, 144, 145, 147, 148, 149, 150, 151, 153, 156, 157, 158, 159, 160, 161, 164, 165, 166, 169, 170, 171, 174, 175, 178, 180, 181, 182, 183, 184, 185, 186, 189, 190, 191, 192, 193, 194, 197, 199, 200, 201, 202, 203, 204, 205, 208, 209, 210, 211, 212, 213, 216, 217, 218, 221, 222, 225, 227, 228, 229, 230, 231, 232, 233, 236, 237, 238, 239, 240, 242, 243, 246, 249, 250, 253, 255, 258, 259, 261, 262, 265, 266, 267, 268, 271, 274, 275, 277, 278, 281, 284, 285, 288, 289, 290, 292, 295, 296, 297, 299, 302]
set_option maxRecDepth 100000 in
theorem sd_Mo_does : pm_Sl prog_10_method_23_code 6 R_Mo "does" (none) pm_Y (pm_b bp_Mo_does) 0 tb_Mo_does := by
  refine ⟨so_aloadn d_Mo_does_0 rfl rfl, ?_⟩
  refine ⟨so_iloadn d_Mo_does_1 rfl rfl, ?_⟩
  refine ⟨so_iloadn d_Mo_does_2 rfl rfl, ?_⟩
  refine ⟨so_callv (ci := 8) rfl rfl mc_Mo_numberAt mi_Mo mj_Mo_numberAt ms_Mo_numberAt ml_Mo_95 yd_Mo_numberAt (by decide) d_Mo_does_3 rfl, ?_⟩
  refine ⟨so_istore d_Mo_does_6 (by decide) rfl, ?_⟩
  refine ⟨so_const2 d_Mo_does_8 (by decide) rfl, ?_⟩
  refine ⟨so_iloadn d_Mo_does_10 rfl rfl, ?_⟩
  refine ⟨so_imul d_Mo_does_11 rfl, ?_⟩
  refine ⟨so_aloadn d_Mo_does_12 rfl rfl, ?_⟩
  refine ⟨so_getr (ci := 8) (k := 13) rfl (by decide) rfl rfl fl_Mo_40 d_Mo_does_13 rfl, ?_⟩
  refine ⟨so_iloadn d_Mo_does_16 rfl rfl, ?_⟩
  refine ⟨so_iald d_Mo_does_17 rfl, ?_⟩
  refine ⟨so_iadd d_Mo_does_18 rfl, ?_⟩
  refine ⟨so_const1 d_Mo_does_19 (by decide) rfl, ?_⟩
  refine ⟨so_isub d_Mo_does_20 rfl, ?_⟩
  refine ⟨so_istore d_Mo_does_21 (by decide) rfl, ?_⟩
  refine ⟨so_aloadn d_Mo_does_23 rfl rfl, ?_⟩
  refine ⟨so_iloadn d_Mo_does_24 rfl rfl, ?_⟩
  refine ⟨so_iloadn d_Mo_does_25 rfl rfl, ?_⟩
  refine ⟨so_callv (ci := 8) rfl rfl mc_Mo_kindAt mi_Mo mj_Mo_kindAt ms_Mo_kindAt ml_Mo_72 yd_Mo_kindAt (by decide) d_Mo_does_26 rfl, ?_⟩
  refine ⟨so_tsw d_Mo_does_29 (by decide +kernel) (by decide +kernel) rfl, ?_⟩
  refine ⟨so_aloadn d_Mo_does_84 rfl rfl, ?_⟩
  refine ⟨so_iloadn d_Mo_does_85 rfl rfl, ?_⟩
  refine ⟨so_iload d_Mo_does_86 rfl, ?_⟩
  refine ⟨so_const1 d_Mo_does_88 (by decide) rfl, ?_⟩
  refine ⟨so_callv (ci := 8) rfl rfl mc_Mo_meets mi_Mo mj_Mo_meets ms_Mo_meets ml_Mo_142 yd_Mo_meets (by decide) d_Mo_does_89 rfl, ?_⟩
  refine ⟨so_aloadn d_Mo_does_92 rfl rfl, ?_⟩
  refine ⟨so_getr (ci := 8) (k := 12) rfl (by decide) rfl rfl fl_Mo_37 d_Mo_does_93 rfl, ?_⟩
  refine ⟨so_iloadn d_Mo_does_96 rfl rfl, ?_⟩
  refine ⟨so_aloadn d_Mo_does_97 rfl rfl, ?_⟩
  refine ⟨so_getr (ci := 8) (k := 7) rfl (by decide) rfl rfl fl_Mo_25 d_Mo_does_98 rfl, ?_⟩
  refine ⟨so_iload d_Mo_does_101 rfl, ?_⟩
  refine ⟨so_iald d_Mo_does_103 rfl, ?_⟩
  refine ⟨so_iast d_Mo_does_104 rfl, ?_⟩
  refine ⟨so_vret d_Mo_does_105 rfl, ?_⟩
  refine ⟨so_aloadn d_Mo_does_106 rfl rfl, ?_⟩
  refine ⟨so_iloadn d_Mo_does_107 rfl rfl, ?_⟩
  refine ⟨so_iload d_Mo_does_108 rfl, ?_⟩
  refine ⟨so_const1 d_Mo_does_110 (by decide) rfl, ?_⟩
  refine ⟨so_callv (ci := 8) rfl rfl mc_Mo_meets mi_Mo mj_Mo_meets ms_Mo_meets ml_Mo_142 yd_Mo_meets (by decide) d_Mo_does_111 rfl, ?_⟩
  refine ⟨so_aloadn d_Mo_does_114 rfl rfl, ?_⟩
  refine ⟨so_getr (ci := 8) (k := 7) rfl (by decide) rfl rfl fl_Mo_25 d_Mo_does_115 rfl, ?_⟩
  refine ⟨so_iload d_Mo_does_118 rfl, ?_⟩
  refine ⟨so_aloadn d_Mo_does_120 rfl rfl, ?_⟩
  refine ⟨so_getr (ci := 8) (k := 12) rfl (by decide) rfl rfl fl_Mo_37 d_Mo_does_121 rfl, ?_⟩
  refine ⟨so_iloadn d_Mo_does_124 rfl rfl, ?_⟩
  refine ⟨so_iald d_Mo_does_125 rfl, ?_⟩
  refine ⟨so_iast d_Mo_does_126 rfl, ?_⟩
  refine ⟨so_vret d_Mo_does_127 rfl, ?_⟩
  refine ⟨so_aloadn d_Mo_does_128 rfl rfl, ?_⟩
  refine ⟨so_getr (ci := 8) (k := 12) rfl (by decide) rfl rfl fl_Mo_37 d_Mo_does_129 rfl, ?_⟩
  refine ⟨so_iloadn d_Mo_does_132 rfl rfl, ?_⟩
  refine ⟨so_dup2 d_Mo_does_133 rfl, ?_⟩
  refine ⟨so_iald d_Mo_does_134 rfl, ?_⟩
  refine ⟨so_iload d_Mo_does_135 rfl, ?_⟩
  refine ⟨so_iadd d_Mo_does_137 rfl, ?_⟩
  refine ⟨so_iast d_Mo_does_138 rfl, ?_⟩
  refine ⟨so_vret d_Mo_does_139 rfl, ?_⟩
  refine ⟨so_aloadn d_Mo_does_140 rfl rfl, ?_⟩
  refine ⟨so_getr (ci := 8) (k := 12) rfl (by decide) rfl rfl fl_Mo_37 d_Mo_does_141 rfl, ?_⟩
  refine ⟨so_iloadn d_Mo_does_144 rfl rfl, ?_⟩
  refine ⟨so_iload d_Mo_does_145 rfl, ?_⟩
  refine ⟨so_iast d_Mo_does_147 rfl, ?_⟩
  refine ⟨so_vret d_Mo_does_148 rfl, ?_⟩
  refine ⟨so_aloadn d_Mo_does_149 rfl rfl, ?_⟩
  refine ⟨so_iloadn d_Mo_does_150 rfl rfl, ?_⟩
  refine ⟨so_iload d_Mo_does_151 rfl, ?_⟩
  refine ⟨so_callv (ci := 8) rfl rfl mc_Mo_takes mi_Mo mj_Mo_takes ms_Mo_takes ml_Mo_145 yd_Mo_takes (by decide) d_Mo_does_153 rfl, ?_⟩
  refine ⟨so_vret d_Mo_does_156 rfl, ?_⟩
  refine ⟨so_aloadn d_Mo_does_157 rfl rfl, ?_⟩
  refine ⟨so_iloadn d_Mo_does_158 rfl rfl, ?_⟩
  refine ⟨so_iloadn d_Mo_does_159 rfl rfl, ?_⟩
  refine ⟨so_iloadn d_Mo_does_160 rfl rfl, ?_⟩
  refine ⟨so_callv (ci := 8) rfl rfl mc_Mo_ends mi_Mo mj_Mo_ends ms_Mo_ends ml_Mo_148 yd_Mo_ends (by decide) d_Mo_does_161 rfl, ?_⟩
  refine ⟨so_vret d_Mo_does_164 rfl, ?_⟩
  refine ⟨so_aloadn d_Mo_does_165 rfl rfl, ?_⟩
  refine ⟨so_getr (ci := 8) (k := 12) rfl (by decide) rfl rfl fl_Mo_37 d_Mo_does_166 rfl, ?_⟩
  refine ⟨so_iloadn d_Mo_does_169 rfl rfl, ?_⟩
  refine ⟨so_iald d_Mo_does_170 rfl, ?_⟩
  refine ⟨so_if_ne d_Mo_does_171 rfl rfl, ?_⟩
  refine ⟨so_aloadn d_Mo_does_174 rfl rfl, ?_⟩
  refine ⟨so_getr (ci := 8) (k := 15) rfl (by decide) rfl rfl fl_Mo_46 d_Mo_does_175 rfl, ?_⟩
  refine ⟨so_iload d_Mo_does_178 rfl, ?_⟩
  refine ⟨so_aloadn d_Mo_does_180 rfl rfl, ?_⟩
  refine ⟨so_iloadn d_Mo_does_181 rfl rfl, ?_⟩
  refine ⟨so_iloadn d_Mo_does_182 rfl rfl, ?_⟩
  refine ⟨so_const1 d_Mo_does_183 (by decide) rfl, ?_⟩
  refine ⟨so_iadd d_Mo_does_184 rfl, ?_⟩
  refine ⟨so_const1 d_Mo_does_185 (by decide) rfl, ?_⟩
  refine ⟨so_callv (ci := 8) rfl rfl mc_Mo_closerOf mi_Mo mj_Mo_closerOf ms_Mo_closerOf ml_Mo_83 yd_Mo_closerOf (by decide) d_Mo_does_186 rfl, ?_⟩
  refine ⟨so_const1 d_Mo_does_189 (by decide) rfl, ?_⟩
  refine ⟨so_iadd d_Mo_does_190 rfl, ?_⟩
  refine ⟨so_iast d_Mo_does_191 rfl, ?_⟩
  refine ⟨so_vret d_Mo_does_192 rfl, ?_⟩
  refine ⟨so_aloadn d_Mo_does_193 rfl rfl, ?_⟩
  refine ⟨so_getr (ci := 8) (k := 15) rfl (by decide) rfl rfl fl_Mo_46 d_Mo_does_194 rfl, ?_⟩
  refine ⟨so_iload d_Mo_does_197 rfl, ?_⟩
  refine ⟨so_aloadn d_Mo_does_199 rfl rfl, ?_⟩
  refine ⟨so_iloadn d_Mo_does_200 rfl rfl, ?_⟩
  refine ⟨so_iloadn d_Mo_does_201 rfl rfl, ?_⟩
  refine ⟨so_const1 d_Mo_does_202 (by decide) rfl, ?_⟩
  refine ⟨so_iadd d_Mo_does_203 rfl, ?_⟩
  refine ⟨so_const1 d_Mo_does_204 (by decide) rfl, ?_⟩
  refine ⟨so_callv (ci := 8) rfl rfl mc_Mo_closerOf mi_Mo mj_Mo_closerOf ms_Mo_closerOf ml_Mo_83 yd_Mo_closerOf (by decide) d_Mo_does_205 rfl, ?_⟩
  refine ⟨so_const1 d_Mo_does_208 (by decide) rfl, ?_⟩
  refine ⟨so_iadd d_Mo_does_209 rfl, ?_⟩
  refine ⟨so_iast d_Mo_does_210 rfl, ?_⟩
  refine ⟨so_vret d_Mo_does_211 rfl, ?_⟩
  refine ⟨so_aloadn d_Mo_does_212 rfl rfl, ?_⟩
  refine ⟨so_getr (ci := 8) (k := 12) rfl (by decide) rfl rfl fl_Mo_37 d_Mo_does_213 rfl, ?_⟩
  refine ⟨so_iloadn d_Mo_does_216 rfl rfl, ?_⟩
  refine ⟨so_iald d_Mo_does_217 rfl, ?_⟩
  refine ⟨so_if_ne d_Mo_does_218 rfl rfl, ?_⟩
  refine ⟨so_aloadn d_Mo_does_221 rfl rfl, ?_⟩
  refine ⟨so_getr (ci := 8) (k := 15) rfl (by decide) rfl rfl fl_Mo_46 d_Mo_does_222 rfl, ?_⟩
  refine ⟨so_iload d_Mo_does_225 rfl, ?_⟩
  refine ⟨so_aloadn d_Mo_does_227 rfl rfl, ?_⟩
  refine ⟨so_iloadn d_Mo_does_228 rfl rfl, ?_⟩
  refine ⟨so_iloadn d_Mo_does_229 rfl rfl, ?_⟩
  refine ⟨so_const1 d_Mo_does_230 (by decide) rfl, ?_⟩
  refine ⟨so_iadd d_Mo_does_231 rfl, ?_⟩
  refine ⟨so_const1 d_Mo_does_232 (by decide) rfl, ?_⟩
  refine ⟨so_callv (ci := 8) rfl rfl mc_Mo_closerOf mi_Mo mj_Mo_closerOf ms_Mo_closerOf ml_Mo_83 yd_Mo_closerOf (by decide) d_Mo_does_233 rfl, ?_⟩
  refine ⟨so_const1 d_Mo_does_236 (by decide) rfl, ?_⟩
  refine ⟨so_iadd d_Mo_does_237 rfl, ?_⟩
  refine ⟨so_iast d_Mo_does_238 rfl, ?_⟩
  refine ⟨so_vret d_Mo_does_239 rfl, ?_⟩
  refine ⟨so_iload d_Mo_does_240 rfl, ?_⟩
  refine ⟨so_aloadn d_Mo_does_242 rfl rfl, ?_⟩
  refine ⟨so_geti (ci := 8) (k := 4) rfl (by decide) rfl rfl fl_Mo_87 d_Mo_does_243 rfl, ?_⟩
  refine ⟨so_icmp_ge d_Mo_does_246 rfl rfl, ?_⟩
  refine ⟨so_aloadn d_Mo_does_249 rfl rfl, ?_⟩
  refine ⟨so_geti (ci := 8) (k := 11) rfl (by decide) rfl rfl fl_Mo_108 d_Mo_does_250 rfl, ?_⟩
  refine ⟨so_const2 d_Mo_does_253 (by decide) rfl, ?_⟩
  refine ⟨so_icmp_ge d_Mo_does_255 rfl rfl, ?_⟩
  refine ⟨so_aloadn d_Mo_does_258 rfl rfl, ?_⟩
  refine ⟨so_iload d_Mo_does_259 rfl, ?_⟩
  refine ⟨so_aloadn d_Mo_does_261 rfl rfl, ?_⟩
  refine ⟨so_getr (ci := 8) (k := 12) rfl (by decide) rfl rfl fl_Mo_37 d_Mo_does_262 rfl, ?_⟩
  refine ⟨so_iloadn d_Mo_does_265 rfl rfl, ?_⟩
  refine ⟨so_iald d_Mo_does_266 rfl, ?_⟩
  refine ⟨so_aloadn d_Mo_does_267 rfl rfl, ?_⟩
  refine ⟨so_geti (ci := 8) (k := 17) rfl (by decide) rfl rfl fl_Mo_123 d_Mo_does_268 rfl, ?_⟩
  refine ⟨so_callv (ci := 8) rfl rfl mc_Mo_begin mi_Mo mj_Mo_begin ms_Mo_begin ml_Mo_129 yd_Mo_begin (by decide) d_Mo_does_271 rfl, ?_⟩
  refine ⟨so_vret d_Mo_does_274 rfl, ?_⟩
  refine ⟨so_iload d_Mo_does_275 rfl, ?_⟩
  refine ⟨so_aloadn d_Mo_does_277 rfl rfl, ?_⟩
  refine ⟨so_geti (ci := 8) (k := 4) rfl (by decide) rfl rfl fl_Mo_87 d_Mo_does_278 rfl, ?_⟩
  refine ⟨so_icmp_ge d_Mo_does_281 rfl rfl, ?_⟩
  refine ⟨so_aloadn d_Mo_does_284 rfl rfl, ?_⟩
  refine ⟨so_getr (ci := 8) (k := 13) rfl (by decide) rfl rfl fl_Mo_40 d_Mo_does_285 rfl, ?_⟩
  refine ⟨so_iloadn d_Mo_does_288 rfl rfl, ?_⟩
  refine ⟨so_iald d_Mo_does_289 rfl, ?_⟩
  refine ⟨so_const2 d_Mo_does_290 (by decide) rfl, ?_⟩
  refine ⟨so_icmp_ge d_Mo_does_292 rfl rfl, ?_⟩
  refine ⟨so_aloadn d_Mo_does_295 rfl rfl, ?_⟩
  refine ⟨so_iloadn d_Mo_does_296 rfl rfl, ?_⟩
  refine ⟨so_iload d_Mo_does_297 rfl, ?_⟩
  refine ⟨so_callv (ci := 8) rfl rfl mc_Mo_enter mi_Mo mj_Mo_enter ms_Mo_enter ml_Mo_111 yd_Mo_enter (by decide) d_Mo_does_299 rfl, ?_⟩
  refine ⟨so_vret d_Mo_does_302 rfl, ?_⟩
  exact trivial
theorem d_Mo_meets_0 : decode prog_10_method_27_code 0 = .ok (.aload_n 0, 1) := by decide +kernel
theorem d_Mo_meets_1 : decode prog_10_method_27_code 1 = .ok (.getfield 58, 3) := by decide +kernel
theorem d_Mo_meets_4 : decode prog_10_method_27_code 4 = .ok (.aload_n 0, 1) := by decide +kernel
theorem d_Mo_meets_5 : decode prog_10_method_27_code 5 = .ok (.getfield 123, 3) := by decide +kernel
theorem d_Mo_meets_8 : decode prog_10_method_27_code 8 = .ok (.bipush 16, 2) := by decide +kernel
theorem d_Mo_meets_10 : decode prog_10_method_27_code 10 = .ok (.iload_n 1, 1) := by decide +kernel
theorem d_Mo_meets_11 : decode prog_10_method_27_code 11 = .ok (.imul, 1) := by decide +kernel
theorem d_Mo_meets_12 : decode prog_10_method_27_code 12 = .ok (.iconst 2, 1) := by decide +kernel
theorem d_Mo_meets_13 : decode prog_10_method_27_code 13 = .ok (.iload_n 2, 1) := by decide +kernel
theorem d_Mo_meets_14 : decode prog_10_method_27_code 14 = .ok (.imul, 1) := by decide +kernel
theorem d_Mo_meets_15 : decode prog_10_method_27_code 15 = .ok (.iadd, 1) := by decide +kernel
theorem d_Mo_meets_16 : decode prog_10_method_27_code 16 = .ok (.iload_n 3, 1) := by decide +kernel
theorem d_Mo_meets_17 : decode prog_10_method_27_code 17 = .ok (.iadd, 1) := by decide +kernel
theorem d_Mo_meets_18 : decode prog_10_method_27_code 18 = .ok (.iastore, 1) := by decide +kernel
theorem d_Mo_meets_19 : decode prog_10_method_27_code 19 = .ok (.aload_n 0, 1) := by decide +kernel
theorem d_Mo_meets_20 : decode prog_10_method_27_code 20 = .ok (.invokevirtual 151, 3) := by decide +kernel
theorem d_Mo_meets_23 : decode prog_10_method_27_code 23 = .ok (.iconst 0, 1) := by decide +kernel
theorem d_Mo_meets_24 : decode prog_10_method_27_code 24 = .ok (.istore 4, 2) := by decide +kernel
theorem d_Mo_meets_26 : decode prog_10_method_27_code 26 = .ok (.iconst 0, 1) := by decide +kernel
theorem d_Mo_meets_27 : decode prog_10_method_27_code 27 = .ok (.istore 5, 2) := by decide +kernel
theorem d_Mo_meets_29 : decode prog_10_method_27_code 29 = .ok (.iload 5, 2) := by decide +kernel
theorem d_Mo_meets_31 : decode prog_10_method_27_code 31 = .ok (.aload_n 0, 1) := by decide +kernel
theorem d_Mo_meets_32 : decode prog_10_method_27_code 32 = .ok (.getfield 123, 3) := by decide +kernel
theorem d_Mo_meets_35 : decode prog_10_method_27_code 35 = .ok (.if_icmp .ge 78, 3) := by decide +kernel
theorem d_Mo_meets_38 : decode prog_10_method_27_code 38 = .ok (.aload_n 0, 1) := by decide +kernel
theorem d_Mo_meets_39 : decode prog_10_method_27_code 39 = .ok (.getfield 58, 3) := by decide +kernel
theorem d_Mo_meets_42 : decode prog_10_method_27_code 42 = .ok (.iload 5, 2) := by decide +kernel
theorem d_Mo_meets_44 : decode prog_10_method_27_code 44 = .ok (.iaload, 1) := by decide +kernel
theorem d_Mo_meets_45 : decode prog_10_method_27_code 45 = .ok (.istore 6, 2) := by decide +kernel
theorem d_Mo_meets_47 : decode prog_10_method_27_code 47 = .ok (.iload 4, 2) := by decide +kernel
theorem d_Mo_meets_49 : decode prog_10_method_27_code 49 = .ok (.ifCond .ne 51, 3) := by decide +kernel
theorem d_Mo_meets_52 : decode prog_10_method_27_code 52 = .ok (.iload 6, 2) := by decide +kernel
theorem d_Mo_meets_54 : decode prog_10_method_27_code 54 = .ok (.ifCond .lt 50, 3) := by decide +kernel
theorem d_Mo_meets_57 : decode prog_10_method_27_code 57 = .ok (.aload_n 0, 1) := by decide +kernel
theorem d_Mo_meets_58 : decode prog_10_method_27_code 58 = .ok (.getfield 61, 3) := by decide +kernel
theorem d_Mo_meets_61 : decode prog_10_method_27_code 61 = .ok (.iload 5, 2) := by decide +kernel
theorem d_Mo_meets_63 : decode prog_10_method_27_code 63 = .ok (.baload, 1) := by decide +kernel
theorem d_Mo_meets_64 : decode prog_10_method_27_code 64 = .ok (.ifCond .ne 40, 3) := by decide +kernel
theorem d_Mo_meets_67 : decode prog_10_method_27_code 67 = .ok (.iload 6, 2) := by decide +kernel
theorem d_Mo_meets_69 : decode prog_10_method_27_code 69 = .ok (.iconst 2, 1) := by decide +kernel
theorem d_Mo_meets_70 : decode prog_10_method_27_code 70 = .ok (.idiv, 1) := by decide +kernel
theorem d_Mo_meets_71 : decode prog_10_method_27_code 71 = .ok (.bipush 8, 2) := by decide +kernel
theorem d_Mo_meets_73 : decode prog_10_method_27_code 73 = .ok (.irem, 1) := by decide +kernel
theorem d_Mo_meets_74 : decode prog_10_method_27_code 74 = .ok (.iload_n 2, 1) := by decide +kernel
theorem d_Mo_meets_75 : decode prog_10_method_27_code 75 = .ok (.if_icmp .ne 29, 3) := by decide +kernel
theorem d_Mo_meets_78 : decode prog_10_method_27_code 78 = .ok (.iload 6, 2) := by decide +kernel
theorem d_Mo_meets_80 : decode prog_10_method_27_code 80 = .ok (.bipush 16, 2) := by decide +kernel
theorem d_Mo_meets_82 : decode prog_10_method_27_code 82 = .ok (.idiv, 1) := by decide +kernel
theorem d_Mo_meets_83 : decode prog_10_method_27_code 83 = .ok (.iload_n 1, 1) := by decide +kernel
theorem d_Mo_meets_84 : decode prog_10_method_27_code 84 = .ok (.if_icmp .eq 20, 3) := by decide +kernel
theorem d_Mo_meets_87 : decode prog_10_method_27_code 87 = .ok (.iload_n 3, 1) := by decide +kernel
theorem d_Mo_meets_88 : decode prog_10_method_27_code 88 = .ok (.iconst 1, 1) := by decide +kernel
theorem d_Mo_meets_89 : decode prog_10_method_27_code 89 = .ok (.if_icmp .eq 11, 3) := by decide +kernel
theorem d_Mo_meets_92 : decode prog_10_method_27_code 92 = .ok (.iload 6, 2) := by decide +kernel
theorem d_Mo_meets_94 : decode prog_10_method_27_code 94 = .ok (.iconst 2, 1) := by decide +kernel
theorem d_Mo_meets_95 : decode prog_10_method_27_code 95 = .ok (.irem, 1) := by decide +kernel
theorem d_Mo_meets_96 : decode prog_10_method_27_code 96 = .ok (.iconst 1, 1) := by decide +kernel
theorem d_Mo_meets_97 : decode prog_10_method_27_code 97 = .ok (.if_icmp .ne 7, 3) := by decide +kernel
theorem d_Mo_meets_100 : decode prog_10_method_27_code 100 = .ok (.iconst 1, 1) := by decide +kernel
theorem d_Mo_meets_101 : decode prog_10_method_27_code 101 = .ok (.goto 4, 3) := by decide +kernel
theorem d_Mo_meets_104 : decode prog_10_method_27_code 104 = .ok (.iconst 0, 1) := by decide +kernel
theorem d_Mo_meets_105 : decode prog_10_method_27_code 105 = .ok (.istore 4, 2) := by decide +kernel
theorem d_Mo_meets_107 : decode prog_10_method_27_code 107 = .ok (.iinc 5 1, 3) := by decide +kernel
theorem d_Mo_meets_110 : decode prog_10_method_27_code 110 = .ok (.goto (-81), 3) := by decide +kernel
theorem d_Mo_meets_113 : decode prog_10_method_27_code 113 = .ok (.iload 4, 2) := by decide +kernel
theorem d_Mo_meets_115 : decode prog_10_method_27_code 115 = .ok (.ifCond .ne 4, 3) := by decide +kernel
theorem d_Mo_meets_118 : decode prog_10_method_27_code 118 = .ok (.return_, 1) := by decide +kernel
theorem d_Mo_meets_119 : decode prog_10_method_27_code 119 = .ok (.aload_n 0, 1) := by decide +kernel
theorem d_Mo_meets_120 : decode prog_10_method_27_code 120 = .ok (.getfield 126, 3) := by decide +kernel
theorem d_Mo_meets_123 : decode prog_10_method_27_code 123 = .ok (.bipush 64, 2) := by decide +kernel
theorem d_Mo_meets_125 : decode prog_10_method_27_code 125 = .ok (.if_icmp .ge 16, 3) := by decide +kernel
theorem d_Mo_meets_128 : decode prog_10_method_27_code 128 = .ok (.aload_n 0, 1) := by decide +kernel
theorem d_Mo_meets_129 : decode prog_10_method_27_code 129 = .ok (.getfield 65, 3) := by decide +kernel
theorem d_Mo_meets_132 : decode prog_10_method_27_code 132 = .ok (.aload_n 0, 1) := by decide +kernel
theorem d_Mo_meets_133 : decode prog_10_method_27_code 133 = .ok (.getfield 126, 3) := by decide +kernel
theorem d_Mo_meets_136 : decode prog_10_method_27_code 136 = .ok (.aload_n 0, 1) := by decide +kernel
theorem d_Mo_meets_137 : decode prog_10_method_27_code 137 = .ok (.getfield 123, 3) := by decide +kernel
theorem d_Mo_meets_140 : decode prog_10_method_27_code 140 = .ok (.iastore, 1) := by decide +kernel
theorem d_Mo_meets_141 : decode prog_10_method_27_code 141 = .ok (.aload_n 0, 1) := by decide +kernel
theorem d_Mo_meets_142 : decode prog_10_method_27_code 142 = .ok (.dup, 1) := by decide +kernel
theorem d_Mo_meets_143 : decode prog_10_method_27_code 143 = .ok (.getfield 126, 3) := by decide +kernel
theorem d_Mo_meets_146 : decode prog_10_method_27_code 146 = .ok (.iconst 1, 1) := by decide +kernel
theorem d_Mo_meets_147 : decode prog_10_method_27_code 147 = .ok (.iadd, 1) := by decide +kernel
theorem d_Mo_meets_148 : decode prog_10_method_27_code 148 = .ok (.putfield 126, 3) := by decide +kernel
theorem d_Mo_meets_151 : decode prog_10_method_27_code 151 = .ok (.return_, 1) := by decide +kernel
def tb_Mo_meets : List pm_I := [
  pm_aload 1 0,
  pm_getr 2 8 20,
  pm_aload 3 0,
  pm_geti 4 8 17,
  pm_const 5 16,
  pm_iload 6 1,
  pm_bin 7 (fun a b => a * b),
  pm_const 8 2,
  pm_iload 9 2,
  pm_bin 10 (fun a b => a * b),
  pm_bin 11 (fun a b => a + b),
  pm_iload 12 3,
  pm_bin 13 (fun a b => a + b),
  pm_iast 14,
  pm_aload 15 0,
  pm_callv 16 93 1 8,
  pm_const 17 0,
  pm_istore 18 4,
  pm_const 19 0,
  pm_istore 20 5,
  pm_iload 21 5,
  pm_aload 22 0,
  pm_geti 23 8 17,
  pm_icmp 64 24 (fun a b => decide (b ≤ a)),
  pm_aload 25 0,
  pm_getr 26 8 20,
  pm_iload 27 5,
  pm_iald 28 0,
  pm_istore 29 6,
  pm_iload 30 4,
  pm_if 58 31 (fun a => decide (a ≠ 0)),
  pm_iload 32 6,
  pm_if 60 33 (fun a => decide (a < 0)),
  pm_aload 34 0,
  pm_getr 35 8 21,
  pm_iload 36 5,
  pm_iald 37 1,
  pm_if 60 38 (fun a => decide (a ≠ 0)),
  pm_iload 39 6,
  pm_const 40 2,
  pm_div 41 (fun a b => a / b),
  pm_const 42 8,
  pm_div 43 (fun a b => a - a / b * b),
  pm_iload 44 2,
  pm_icmp 60 45 (fun a b => decide (a ≠ b)),
  pm_iload 46 6,
  pm_const 47 16,
  pm_div 48 (fun a b => a / b),
  pm_iload 49 1,
  pm_icmp 60 50 (fun a b => decide (a = b)),
  pm_iload 51 3,
  pm_const 52 1,
  pm_icmp 58 53 (fun a b => decide (a = b)),
  pm_iload 54 6,
  pm_const 55 2,
  pm_div 56 (fun a b => a - a / b * b),
  pm_const 57 1,
  pm_icmp 60 58 (fun a b => decide (a ≠ b)),
  pm_const 59 1,
  pm_goto 61,
  pm_const 61 0,
  pm_istore 62 4,
  pm_iinc 63 5 1,
  pm_goto 20,
  pm_iload 65 4,
  pm_if 67 66 (fun a => decide (a ≠ 0)),
  pm_vret,
  pm_aload 68 0,
  pm_geti 69 8 22,
  pm_const 70 64,
  pm_icmp 78 71 (fun a b => decide (b ≤ a)),
  pm_aload 72 0,
  pm_getr 73 8 23,
  pm_aload 74 0,
  pm_geti 75 8 22,
  pm_aload 76 0,
  pm_geti 77 8 17,
  pm_iast 78,
  pm_aload 79 0,
  pm_dup 80,
  pm_geti 81 8 22,
  pm_const 82 1,
  pm_bin 83 (fun a b => a + b),
  pm_puti 84 8 22,
  pm_vret]
def bp_Mo_meets : List Nat := [0, 1, 4, 5, 8, 10, 11, 12, 13, 14, 15, 16, 17, 18, 19, 20, 23, 24, 26, 27, 29, 31, 32, 35, 38, 39, 42, 44, 45, 47, 49, 52, 54, 57, 58, 61, 63, 64, 67, 69, 70, 71, 73, 74, 75, 78, 80, 82, 83, 84, 87, 88, 89, 92, 94, 95, 96, 97, 100, 101, 104, 105, 107, 110, 113, 115, 118, 119, 120, 123, 125, 128, 129, 132, 133, 136, 137, 140, 141, 142, 143, 146, 147, 148, 151]
set_option maxRecDepth 100000 in
theorem sd_Mo_meets : pm_Sl prog_10_method_27_code 7 R_Mo "meets" (none) pm_Y (pm_b bp_Mo_meets) 0 tb_Mo_meets := by
  refine ⟨so_aloadn d_Mo_meets_0 rfl rfl, ?_⟩
  refine ⟨so_getr (ci := 8) (k := 20) rfl (by decide) rfl rfl fl_Mo_58 d_Mo_meets_1 rfl, ?_⟩
  refine ⟨so_aloadn d_Mo_meets_4 rfl rfl, ?_⟩
  refine ⟨so_geti (ci := 8) (k := 17) rfl (by decide) rfl rfl fl_Mo_123 d_Mo_meets_5 rfl, ?_⟩
  refine ⟨so_const2 d_Mo_meets_8 (by decide) rfl, ?_⟩
  refine ⟨so_iloadn d_Mo_meets_10 rfl rfl, ?_⟩
  refine ⟨so_imul d_Mo_meets_11 rfl, ?_⟩
  refine ⟨so_const1 d_Mo_meets_12 (by decide) rfl, ?_⟩
  refine ⟨so_iloadn d_Mo_meets_13 rfl rfl, ?_⟩
  refine ⟨so_imul d_Mo_meets_14 rfl, ?_⟩
  refine ⟨so_iadd d_Mo_meets_15 rfl, ?_⟩
  refine ⟨so_iloadn d_Mo_meets_16 rfl rfl, ?_⟩
  refine ⟨so_iadd d_Mo_meets_17 rfl, ?_⟩
  refine ⟨so_iast d_Mo_meets_18 rfl, ?_⟩
  refine ⟨so_aloadn d_Mo_meets_19 rfl rfl, ?_⟩
  refine ⟨so_callv (ci := 8) rfl rfl mc_Mo_mark mi_Mo mj_Mo_mark ms_Mo_mark ml_Mo_151 yd_Mo_mark (by decide) d_Mo_meets_20 rfl, ?_⟩
  refine ⟨so_const1 d_Mo_meets_23 (by decide) rfl, ?_⟩
  refine ⟨so_istore d_Mo_meets_24 (by decide) rfl, ?_⟩
  refine ⟨so_const1 d_Mo_meets_26 (by decide) rfl, ?_⟩
  refine ⟨so_istore d_Mo_meets_27 (by decide) rfl, ?_⟩
  refine ⟨so_iload d_Mo_meets_29 rfl, ?_⟩
  refine ⟨so_aloadn d_Mo_meets_31 rfl rfl, ?_⟩
  refine ⟨so_geti (ci := 8) (k := 17) rfl (by decide) rfl rfl fl_Mo_123 d_Mo_meets_32 rfl, ?_⟩
  refine ⟨so_icmp_ge d_Mo_meets_35 rfl rfl, ?_⟩
  refine ⟨so_aloadn d_Mo_meets_38 rfl rfl, ?_⟩
  refine ⟨so_getr (ci := 8) (k := 20) rfl (by decide) rfl rfl fl_Mo_58 d_Mo_meets_39 rfl, ?_⟩
  refine ⟨so_iload d_Mo_meets_42 rfl, ?_⟩
  refine ⟨so_iald d_Mo_meets_44 rfl, ?_⟩
  refine ⟨so_istore d_Mo_meets_45 (by decide) rfl, ?_⟩
  refine ⟨so_iload d_Mo_meets_47 rfl, ?_⟩
  refine ⟨so_if_ne d_Mo_meets_49 rfl rfl, ?_⟩
  refine ⟨so_iload d_Mo_meets_52 rfl, ?_⟩
  refine ⟨so_if_lt d_Mo_meets_54 rfl rfl, ?_⟩
  refine ⟨so_aloadn d_Mo_meets_57 rfl rfl, ?_⟩
  refine ⟨so_getr (ci := 8) (k := 21) rfl (by decide) rfl rfl fl_Mo_61 d_Mo_meets_58 rfl, ?_⟩
  refine ⟨so_iload d_Mo_meets_61 rfl, ?_⟩
  refine ⟨so_zald d_Mo_meets_63 rfl, ?_⟩
  refine ⟨so_if_ne d_Mo_meets_64 rfl rfl, ?_⟩
  refine ⟨so_iload d_Mo_meets_67 rfl, ?_⟩
  refine ⟨so_const1 d_Mo_meets_69 (by decide) rfl, ?_⟩
  refine ⟨so_idiv d_Mo_meets_70 rfl, ?_⟩
  refine ⟨so_const2 d_Mo_meets_71 (by decide) rfl, ?_⟩
  refine ⟨so_irem d_Mo_meets_73 rfl, ?_⟩
  refine ⟨so_iloadn d_Mo_meets_74 rfl rfl, ?_⟩
  refine ⟨so_icmp_ne d_Mo_meets_75 rfl rfl, ?_⟩
  refine ⟨so_iload d_Mo_meets_78 rfl, ?_⟩
  refine ⟨so_const2 d_Mo_meets_80 (by decide) rfl, ?_⟩
  refine ⟨so_idiv d_Mo_meets_82 rfl, ?_⟩
  refine ⟨so_iloadn d_Mo_meets_83 rfl rfl, ?_⟩
  refine ⟨so_icmp_eq d_Mo_meets_84 rfl rfl, ?_⟩
  refine ⟨so_iloadn d_Mo_meets_87 rfl rfl, ?_⟩
  refine ⟨so_const1 d_Mo_meets_88 (by decide) rfl, ?_⟩
  refine ⟨so_icmp_eq d_Mo_meets_89 rfl rfl, ?_⟩
  refine ⟨so_iload d_Mo_meets_92 rfl, ?_⟩
  refine ⟨so_const1 d_Mo_meets_94 (by decide) rfl, ?_⟩
  refine ⟨so_irem d_Mo_meets_95 rfl, ?_⟩
  refine ⟨so_const1 d_Mo_meets_96 (by decide) rfl, ?_⟩
  refine ⟨so_icmp_ne d_Mo_meets_97 rfl rfl, ?_⟩
  refine ⟨so_const1 d_Mo_meets_100 (by decide) rfl, ?_⟩
  refine ⟨so_goto d_Mo_meets_101 rfl, ?_⟩
  refine ⟨so_const1 d_Mo_meets_104 (by decide) rfl, ?_⟩
  refine ⟨so_istore d_Mo_meets_105 (by decide) rfl, ?_⟩
  refine ⟨so_iinc d_Mo_meets_107 (by decide) (by decide) rfl, ?_⟩
  refine ⟨so_goto d_Mo_meets_110 rfl, ?_⟩
  refine ⟨so_iload d_Mo_meets_113 rfl, ?_⟩
  refine ⟨so_if_ne d_Mo_meets_115 rfl rfl, ?_⟩
  refine ⟨so_vret d_Mo_meets_118 rfl, ?_⟩
  refine ⟨so_aloadn d_Mo_meets_119 rfl rfl, ?_⟩
  refine ⟨so_geti (ci := 8) (k := 22) rfl (by decide) rfl rfl fl_Mo_126 d_Mo_meets_120 rfl, ?_⟩
  refine ⟨so_const2 d_Mo_meets_123 (by decide) rfl, ?_⟩
  refine ⟨so_icmp_ge d_Mo_meets_125 rfl rfl, ?_⟩
  refine ⟨so_aloadn d_Mo_meets_128 rfl rfl, ?_⟩
  refine ⟨so_getr (ci := 8) (k := 23) rfl (by decide) rfl rfl fl_Mo_65 d_Mo_meets_129 rfl, ?_⟩
  refine ⟨so_aloadn d_Mo_meets_132 rfl rfl, ?_⟩
  refine ⟨so_geti (ci := 8) (k := 22) rfl (by decide) rfl rfl fl_Mo_126 d_Mo_meets_133 rfl, ?_⟩
  refine ⟨so_aloadn d_Mo_meets_136 rfl rfl, ?_⟩
  refine ⟨so_geti (ci := 8) (k := 17) rfl (by decide) rfl rfl fl_Mo_123 d_Mo_meets_137 rfl, ?_⟩
  refine ⟨so_iast d_Mo_meets_140 rfl, ?_⟩
  refine ⟨so_aloadn d_Mo_meets_141 rfl rfl, ?_⟩
  refine ⟨so_dup d_Mo_meets_142 rfl, ?_⟩
  refine ⟨so_geti (ci := 8) (k := 22) rfl (by decide) rfl rfl fl_Mo_126 d_Mo_meets_143 rfl, ?_⟩
  refine ⟨so_const1 d_Mo_meets_146 (by decide) rfl, ?_⟩
  refine ⟨so_iadd d_Mo_meets_147 rfl, ?_⟩
  refine ⟨so_puti (ci := 8) (k := 22) rfl (by decide) rfl rfl (Or.inl ⟨rfl, fl_Mo_126⟩) d_Mo_meets_148 rfl, ?_⟩
  refine ⟨so_vret d_Mo_meets_151 rfl, ?_⟩
  exact trivial
theorem d_Mo_mark_0 : decode prog_10_method_26_code 0 = .ok (.iconst 0, 1) := by decide +kernel
theorem d_Mo_mark_1 : decode prog_10_method_26_code 1 = .ok (.istore_n 1, 1) := by decide +kernel
theorem d_Mo_mark_2 : decode prog_10_method_26_code 2 = .ok (.iload_n 1, 1) := by decide +kernel
theorem d_Mo_mark_3 : decode prog_10_method_26_code 3 = .ok (.aload_n 0, 1) := by decide +kernel
theorem d_Mo_mark_4 : decode prog_10_method_26_code 4 = .ok (.getfield 123, 3) := by decide +kernel
theorem d_Mo_mark_7 : decode prog_10_method_26_code 7 = .ok (.if_icmp .ge 16, 3) := by decide +kernel
theorem d_Mo_mark_10 : decode prog_10_method_26_code 10 = .ok (.aload_n 0, 1) := by decide +kernel
theorem d_Mo_mark_11 : decode prog_10_method_26_code 11 = .ok (.getfield 61, 3) := by decide +kernel
theorem d_Mo_mark_14 : decode prog_10_method_26_code 14 = .ok (.iload_n 1, 1) := by decide +kernel
theorem d_Mo_mark_15 : decode prog_10_method_26_code 15 = .ok (.iconst 0, 1) := by decide +kernel
theorem d_Mo_mark_16 : decode prog_10_method_26_code 16 = .ok (.bastore, 1) := by decide +kernel
theorem d_Mo_mark_17 : decode prog_10_method_26_code 17 = .ok (.iinc 1 1, 3) := by decide +kernel
theorem d_Mo_mark_20 : decode prog_10_method_26_code 20 = .ok (.goto (-18), 3) := by decide +kernel
theorem d_Mo_mark_23 : decode prog_10_method_26_code 23 = .ok (.aload_n 0, 1) := by decide +kernel
theorem d_Mo_mark_24 : decode prog_10_method_26_code 24 = .ok (.getfield 123, 3) := by decide +kernel
theorem d_Mo_mark_27 : decode prog_10_method_26_code 27 = .ok (.istore_n 1, 1) := by decide +kernel
theorem d_Mo_mark_28 : decode prog_10_method_26_code 28 = .ok (.iload_n 1, 1) := by decide +kernel
theorem d_Mo_mark_29 : decode prog_10_method_26_code 29 = .ok (.ifCond .lt 71, 3) := by decide +kernel
theorem d_Mo_mark_32 : decode prog_10_method_26_code 32 = .ok (.iload_n 1, 1) := by decide +kernel
theorem d_Mo_mark_33 : decode prog_10_method_26_code 33 = .ok (.aload_n 0, 1) := by decide +kernel
theorem d_Mo_mark_34 : decode prog_10_method_26_code 34 = .ok (.getfield 123, 3) := by decide +kernel
theorem d_Mo_mark_37 : decode prog_10_method_26_code 37 = .ok (.if_icmp .ge 15, 3) := by decide +kernel
theorem d_Mo_mark_40 : decode prog_10_method_26_code 40 = .ok (.aload_n 0, 1) := by decide +kernel
theorem d_Mo_mark_41 : decode prog_10_method_26_code 41 = .ok (.getfield 61, 3) := by decide +kernel
theorem d_Mo_mark_44 : decode prog_10_method_26_code 44 = .ok (.iload_n 1, 1) := by decide +kernel
theorem d_Mo_mark_45 : decode prog_10_method_26_code 45 = .ok (.baload, 1) := by decide +kernel
theorem d_Mo_mark_46 : decode prog_10_method_26_code 46 = .ok (.ifCond .ne 6, 3) := by decide +kernel
theorem d_Mo_mark_49 : decode prog_10_method_26_code 49 = .ok (.goto 45, 3) := by decide +kernel
theorem d_Mo_mark_52 : decode prog_10_method_26_code 52 = .ok (.aload_n 0, 1) := by decide +kernel
theorem d_Mo_mark_53 : decode prog_10_method_26_code 53 = .ok (.getfield 52, 3) := by decide +kernel
theorem d_Mo_mark_56 : decode prog_10_method_26_code 56 = .ok (.iload_n 1, 1) := by decide +kernel
theorem d_Mo_mark_57 : decode prog_10_method_26_code 57 = .ok (.iaload, 1) := by decide +kernel
theorem d_Mo_mark_58 : decode prog_10_method_26_code 58 = .ok (.ifCond .lt 15, 3) := by decide +kernel
theorem d_Mo_mark_61 : decode prog_10_method_26_code 61 = .ok (.aload_n 0, 1) := by decide +kernel
theorem d_Mo_mark_62 : decode prog_10_method_26_code 62 = .ok (.getfield 61, 3) := by decide +kernel
theorem d_Mo_mark_65 : decode prog_10_method_26_code 65 = .ok (.aload_n 0, 1) := by decide +kernel
theorem d_Mo_mark_66 : decode prog_10_method_26_code 66 = .ok (.getfield 52, 3) := by decide +kernel
theorem d_Mo_mark_69 : decode prog_10_method_26_code 69 = .ok (.iload_n 1, 1) := by decide +kernel
theorem d_Mo_mark_70 : decode prog_10_method_26_code 70 = .ok (.iaload, 1) := by decide +kernel
theorem d_Mo_mark_71 : decode prog_10_method_26_code 71 = .ok (.iconst 1, 1) := by decide +kernel
theorem d_Mo_mark_72 : decode prog_10_method_26_code 72 = .ok (.bastore, 1) := by decide +kernel
theorem d_Mo_mark_73 : decode prog_10_method_26_code 73 = .ok (.aload_n 0, 1) := by decide +kernel
theorem d_Mo_mark_74 : decode prog_10_method_26_code 74 = .ok (.getfield 55, 3) := by decide +kernel
theorem d_Mo_mark_77 : decode prog_10_method_26_code 77 = .ok (.iload_n 1, 1) := by decide +kernel
theorem d_Mo_mark_78 : decode prog_10_method_26_code 78 = .ok (.iaload, 1) := by decide +kernel
theorem d_Mo_mark_79 : decode prog_10_method_26_code 79 = .ok (.ifCond .lt 15, 3) := by decide +kernel
theorem d_Mo_mark_82 : decode prog_10_method_26_code 82 = .ok (.aload_n 0, 1) := by decide +kernel
theorem d_Mo_mark_83 : decode prog_10_method_26_code 83 = .ok (.getfield 61, 3) := by decide +kernel
theorem d_Mo_mark_86 : decode prog_10_method_26_code 86 = .ok (.aload_n 0, 1) := by decide +kernel
theorem d_Mo_mark_87 : decode prog_10_method_26_code 87 = .ok (.getfield 55, 3) := by decide +kernel
theorem d_Mo_mark_90 : decode prog_10_method_26_code 90 = .ok (.iload_n 1, 1) := by decide +kernel
theorem d_Mo_mark_91 : decode prog_10_method_26_code 91 = .ok (.iaload, 1) := by decide +kernel
theorem d_Mo_mark_92 : decode prog_10_method_26_code 92 = .ok (.iconst 1, 1) := by decide +kernel
theorem d_Mo_mark_93 : decode prog_10_method_26_code 93 = .ok (.bastore, 1) := by decide +kernel
theorem d_Mo_mark_94 : decode prog_10_method_26_code 94 = .ok (.iinc 1 (-1), 3) := by decide +kernel
theorem d_Mo_mark_97 : decode prog_10_method_26_code 97 = .ok (.goto (-69), 3) := by decide +kernel
theorem d_Mo_mark_100 : decode prog_10_method_26_code 100 = .ok (.return_, 1) := by decide +kernel
def tb_Mo_mark : List pm_I := [
  pm_const 1 0,
  pm_istore 2 1,
  pm_iload 3 1,
  pm_aload 4 0,
  pm_geti 5 8 17,
  pm_icmp 13 6 (fun a b => decide (b ≤ a)),
  pm_aload 7 0,
  pm_getr 8 8 21,
  pm_iload 9 1,
  pm_const 10 0,
  pm_zast 11,
  pm_iinc 12 1 1,
  pm_goto 2,
  pm_aload 14 0,
  pm_geti 15 8 17,
  pm_istore 16 1,
  pm_iload 17 1,
  pm_if 56 18 (fun a => decide (a < 0)),
  pm_iload 19 1,
  pm_aload 20 0,
  pm_geti 21 8 17,
  pm_icmp 28 22 (fun a b => decide (b ≤ a)),
  pm_aload 23 0,
  pm_getr 24 8 21,
  pm_iload 25 1,
  pm_iald 26 1,
  pm_if 28 27 (fun a => decide (a ≠ 0)),
  pm_goto 54,
  pm_aload 29 0,
  pm_getr 30 8 18,
  pm_iload 31 1,
  pm_iald 32 0,
  pm_if 41 33 (fun a => decide (a < 0)),
  pm_aload 34 0,
  pm_getr 35 8 21,
  pm_aload 36 0,
  pm_getr 37 8 18,
  pm_iload 38 1,
  pm_iald 39 0,
  pm_const 40 1,
  pm_zast 41,
  pm_aload 42 0,
  pm_getr 43 8 19,
  pm_iload 44 1,
  pm_iald 45 0,
  pm_if 54 46 (fun a => decide (a < 0)),
  pm_aload 47 0,
  pm_getr 48 8 21,
  pm_aload 49 0,
  pm_getr 50 8 19,
  pm_iload 51 1,
  pm_iald 52 0,
  pm_const 53 1,
  pm_zast 54,
  pm_iinc 55 1 (-1),
  pm_goto 16,
  pm_vret]
def bp_Mo_mark : List Nat := [0, 1, 2, 3, 4, 7, 10, 11, 14, 15, 16, 17, 20, 23, 24, 27, 28, 29, 32, 33, 34, 37, 40, 41, 44, 45, 46, 49, 52, 53, 56, 57, 58, 61, 62, 65, 66, 69, 70, 71, 72, 73, 74, 77, 78, 79, 82, 83, 86, 87, 90, 91, 92, 93, 94, 97, 100]
set_option maxRecDepth 100000 in
theorem sd_Mo_mark : pm_Sl prog_10_method_26_code 2 R_Mo "mark" (none) pm_Y (pm_b bp_Mo_mark) 0 tb_Mo_mark := by
  refine ⟨so_const1 d_Mo_mark_0 (by decide) rfl, ?_⟩
  refine ⟨so_istoren d_Mo_mark_1 rfl (by decide) rfl, ?_⟩
  refine ⟨so_iloadn d_Mo_mark_2 rfl rfl, ?_⟩
  refine ⟨so_aloadn d_Mo_mark_3 rfl rfl, ?_⟩
  refine ⟨so_geti (ci := 8) (k := 17) rfl (by decide) rfl rfl fl_Mo_123 d_Mo_mark_4 rfl, ?_⟩
  refine ⟨so_icmp_ge d_Mo_mark_7 rfl rfl, ?_⟩
  refine ⟨so_aloadn d_Mo_mark_10 rfl rfl, ?_⟩
  refine ⟨so_getr (ci := 8) (k := 21) rfl (by decide) rfl rfl fl_Mo_61 d_Mo_mark_11 rfl, ?_⟩
  refine ⟨so_iloadn d_Mo_mark_14 rfl rfl, ?_⟩
  refine ⟨so_const1 d_Mo_mark_15 (by decide) rfl, ?_⟩
  refine ⟨so_zast d_Mo_mark_16 rfl, ?_⟩
  refine ⟨so_iinc d_Mo_mark_17 (by decide) (by decide) rfl, ?_⟩
  refine ⟨so_goto d_Mo_mark_20 rfl, ?_⟩
  refine ⟨so_aloadn d_Mo_mark_23 rfl rfl, ?_⟩
  refine ⟨so_geti (ci := 8) (k := 17) rfl (by decide) rfl rfl fl_Mo_123 d_Mo_mark_24 rfl, ?_⟩
  refine ⟨so_istoren d_Mo_mark_27 rfl (by decide) rfl, ?_⟩
  refine ⟨so_iloadn d_Mo_mark_28 rfl rfl, ?_⟩
  refine ⟨so_if_lt d_Mo_mark_29 rfl rfl, ?_⟩
  refine ⟨so_iloadn d_Mo_mark_32 rfl rfl, ?_⟩
  refine ⟨so_aloadn d_Mo_mark_33 rfl rfl, ?_⟩
  refine ⟨so_geti (ci := 8) (k := 17) rfl (by decide) rfl rfl fl_Mo_123 d_Mo_mark_34 rfl, ?_⟩
  refine ⟨so_icmp_ge d_Mo_mark_37 rfl rfl, ?_⟩
  refine ⟨so_aloadn d_Mo_mark_40 rfl rfl, ?_⟩
  refine ⟨so_getr (ci := 8) (k := 21) rfl (by decide) rfl rfl fl_Mo_61 d_Mo_mark_41 rfl, ?_⟩
  refine ⟨so_iloadn d_Mo_mark_44 rfl rfl, ?_⟩
  refine ⟨so_zald d_Mo_mark_45 rfl, ?_⟩
  refine ⟨so_if_ne d_Mo_mark_46 rfl rfl, ?_⟩
  refine ⟨so_goto d_Mo_mark_49 rfl, ?_⟩
  refine ⟨so_aloadn d_Mo_mark_52 rfl rfl, ?_⟩
  refine ⟨so_getr (ci := 8) (k := 18) rfl (by decide) rfl rfl fl_Mo_52 d_Mo_mark_53 rfl, ?_⟩
  refine ⟨so_iloadn d_Mo_mark_56 rfl rfl, ?_⟩
  refine ⟨so_iald d_Mo_mark_57 rfl, ?_⟩
  refine ⟨so_if_lt d_Mo_mark_58 rfl rfl, ?_⟩
  refine ⟨so_aloadn d_Mo_mark_61 rfl rfl, ?_⟩
  refine ⟨so_getr (ci := 8) (k := 21) rfl (by decide) rfl rfl fl_Mo_61 d_Mo_mark_62 rfl, ?_⟩
  refine ⟨so_aloadn d_Mo_mark_65 rfl rfl, ?_⟩
  refine ⟨so_getr (ci := 8) (k := 18) rfl (by decide) rfl rfl fl_Mo_52 d_Mo_mark_66 rfl, ?_⟩
  refine ⟨so_iloadn d_Mo_mark_69 rfl rfl, ?_⟩
  refine ⟨so_iald d_Mo_mark_70 rfl, ?_⟩
  refine ⟨so_const1 d_Mo_mark_71 (by decide) rfl, ?_⟩
  refine ⟨so_zast d_Mo_mark_72 rfl, ?_⟩
  refine ⟨so_aloadn d_Mo_mark_73 rfl rfl, ?_⟩
  refine ⟨so_getr (ci := 8) (k := 19) rfl (by decide) rfl rfl fl_Mo_55 d_Mo_mark_74 rfl, ?_⟩
  refine ⟨so_iloadn d_Mo_mark_77 rfl rfl, ?_⟩
  refine ⟨so_iald d_Mo_mark_78 rfl, ?_⟩
  refine ⟨so_if_lt d_Mo_mark_79 rfl rfl, ?_⟩
  refine ⟨so_aloadn d_Mo_mark_82 rfl rfl, ?_⟩
  refine ⟨so_getr (ci := 8) (k := 21) rfl (by decide) rfl rfl fl_Mo_61 d_Mo_mark_83 rfl, ?_⟩
  refine ⟨so_aloadn d_Mo_mark_86 rfl rfl, ?_⟩
  refine ⟨so_getr (ci := 8) (k := 19) rfl (by decide) rfl rfl fl_Mo_55 d_Mo_mark_87 rfl, ?_⟩
  refine ⟨so_iloadn d_Mo_mark_90 rfl rfl, ?_⟩
  refine ⟨so_iald d_Mo_mark_91 rfl, ?_⟩
  refine ⟨so_const1 d_Mo_mark_92 (by decide) rfl, ?_⟩
  refine ⟨so_zast d_Mo_mark_93 rfl, ?_⟩
  refine ⟨so_iinc d_Mo_mark_94 (by decide) (by decide) rfl, ?_⟩
  refine ⟨so_goto d_Mo_mark_97 rfl, ?_⟩
  refine ⟨so_vret d_Mo_mark_100 rfl, ?_⟩
  exact trivial
theorem d_Mo_takes_0 : decode prog_10_method_24_code 0 = .ok (.aload_n 0, 1) := by decide +kernel
theorem d_Mo_takes_1 : decode prog_10_method_24_code 1 = .ok (.getfield 31, 3) := by decide +kernel
theorem d_Mo_takes_4 : decode prog_10_method_24_code 4 = .ok (.iload_n 2, 1) := by decide +kernel
theorem d_Mo_takes_5 : decode prog_10_method_24_code 5 = .ok (.iaload, 1) := by decide +kernel
theorem d_Mo_takes_6 : decode prog_10_method_24_code 6 = .ok (.ifCond .ne 18, 3) := by decide +kernel
theorem d_Mo_takes_9 : decode prog_10_method_24_code 9 = .ok (.aload_n 0, 1) := by decide +kernel
theorem d_Mo_takes_10 : decode prog_10_method_24_code 10 = .ok (.getfield 55, 3) := by decide +kernel
theorem d_Mo_takes_13 : decode prog_10_method_24_code 13 = .ok (.aload_n 0, 1) := by decide +kernel
theorem d_Mo_takes_14 : decode prog_10_method_24_code 14 = .ok (.getfield 123, 3) := by decide +kernel
theorem d_Mo_takes_17 : decode prog_10_method_24_code 17 = .ok (.aload_n 0, 1) := by decide +kernel
theorem d_Mo_takes_18 : decode prog_10_method_24_code 18 = .ok (.getfield 34, 3) := by decide +kernel
theorem d_Mo_takes_21 : decode prog_10_method_24_code 21 = .ok (.iload_n 2, 1) := by decide +kernel
theorem d_Mo_takes_22 : decode prog_10_method_24_code 22 = .ok (.iaload, 1) := by decide +kernel
theorem d_Mo_takes_23 : decode prog_10_method_24_code 23 = .ok (.iastore, 1) := by decide +kernel
theorem d_Mo_takes_24 : decode prog_10_method_24_code 24 = .ok (.aload_n 0, 1) := by decide +kernel
theorem d_Mo_takes_25 : decode prog_10_method_24_code 25 = .ok (.getfield 28, 3) := by decide +kernel
theorem d_Mo_takes_28 : decode prog_10_method_24_code 28 = .ok (.iload_n 2, 1) := by decide +kernel
theorem d_Mo_takes_29 : decode prog_10_method_24_code 29 = .ok (.iload_n 1, 1) := by decide +kernel
theorem d_Mo_takes_30 : decode prog_10_method_24_code 30 = .ok (.iastore, 1) := by decide +kernel
theorem d_Mo_takes_31 : decode prog_10_method_24_code 31 = .ok (.aload_n 0, 1) := by decide +kernel
theorem d_Mo_takes_32 : decode prog_10_method_24_code 32 = .ok (.getfield 31, 3) := by decide +kernel
theorem d_Mo_takes_35 : decode prog_10_method_24_code 35 = .ok (.iload_n 2, 1) := by decide +kernel
theorem d_Mo_takes_36 : decode prog_10_method_24_code 36 = .ok (.dup2, 1) := by decide +kernel
theorem d_Mo_takes_37 : decode prog_10_method_24_code 37 = .ok (.iaload, 1) := by decide +kernel
theorem d_Mo_takes_38 : decode prog_10_method_24_code 38 = .ok (.iconst 1, 1) := by decide +kernel
theorem d_Mo_takes_39 : decode prog_10_method_24_code 39 = .ok (.iadd, 1) := by decide +kernel
theorem d_Mo_takes_40 : decode prog_10_method_24_code 40 = .ok (.iastore, 1) := by decide +kernel
theorem d_Mo_takes_41 : decode prog_10_method_24_code 41 = .ok (.return_, 1) := by decide +kernel
def tb_Mo_takes : List pm_I := [
  pm_aload 1 0,
  pm_getr 2 8 9,
  pm_iload 3 2,
  pm_iald 4 0,
  pm_if 14 5 (fun a => decide (a ≠ 0)),
  pm_aload 6 0,
  pm_getr 7 8 19,
  pm_aload 8 0,
  pm_geti 9 8 17,
  pm_aload 10 0,
  pm_getr 11 8 10,
  pm_iload 12 2,
  pm_iald 13 0,
  pm_iast 14,
  pm_aload 15 0,
  pm_getr 16 8 8,
  pm_iload 17 2,
  pm_iload 18 1,
  pm_iast 19,
  pm_aload 20 0,
  pm_getr 21 8 9,
  pm_iload 22 2,
  pm_dup2 23,
  pm_iald 24 0,
  pm_const 25 1,
  pm_bin 26 (fun a b => a + b),
  pm_iast 27,
  pm_vret]
def bp_Mo_takes : List Nat := [0, 1, 4, 5, 6, 9, 10, 13, 14, 17, 18, 21, 22, 23, 24, 25, 28, 29, 30, 31, 32, 35, 36, 37, 38, 39, 40, 41]
set_option maxRecDepth 100000 in
theorem sd_Mo_takes : pm_Sl prog_10_method_24_code 3 R_Mo "takes" (none) pm_Y (pm_b bp_Mo_takes) 0 tb_Mo_takes := by
  refine ⟨so_aloadn d_Mo_takes_0 rfl rfl, ?_⟩
  refine ⟨so_getr (ci := 8) (k := 9) rfl (by decide) rfl rfl fl_Mo_31 d_Mo_takes_1 rfl, ?_⟩
  refine ⟨so_iloadn d_Mo_takes_4 rfl rfl, ?_⟩
  refine ⟨so_iald d_Mo_takes_5 rfl, ?_⟩
  refine ⟨so_if_ne d_Mo_takes_6 rfl rfl, ?_⟩
  refine ⟨so_aloadn d_Mo_takes_9 rfl rfl, ?_⟩
  refine ⟨so_getr (ci := 8) (k := 19) rfl (by decide) rfl rfl fl_Mo_55 d_Mo_takes_10 rfl, ?_⟩
  refine ⟨so_aloadn d_Mo_takes_13 rfl rfl, ?_⟩
  refine ⟨so_geti (ci := 8) (k := 17) rfl (by decide) rfl rfl fl_Mo_123 d_Mo_takes_14 rfl, ?_⟩
  refine ⟨so_aloadn d_Mo_takes_17 rfl rfl, ?_⟩
  refine ⟨so_getr (ci := 8) (k := 10) rfl (by decide) rfl rfl fl_Mo_34 d_Mo_takes_18 rfl, ?_⟩
  refine ⟨so_iloadn d_Mo_takes_21 rfl rfl, ?_⟩
  refine ⟨so_iald d_Mo_takes_22 rfl, ?_⟩
  refine ⟨so_iast d_Mo_takes_23 rfl, ?_⟩
  refine ⟨so_aloadn d_Mo_takes_24 rfl rfl, ?_⟩
  refine ⟨so_getr (ci := 8) (k := 8) rfl (by decide) rfl rfl fl_Mo_28 d_Mo_takes_25 rfl, ?_⟩
  refine ⟨so_iloadn d_Mo_takes_28 rfl rfl, ?_⟩
  refine ⟨so_iloadn d_Mo_takes_29 rfl rfl, ?_⟩
  refine ⟨so_iast d_Mo_takes_30 rfl, ?_⟩
  refine ⟨so_aloadn d_Mo_takes_31 rfl rfl, ?_⟩
  refine ⟨so_getr (ci := 8) (k := 9) rfl (by decide) rfl rfl fl_Mo_31 d_Mo_takes_32 rfl, ?_⟩
  refine ⟨so_iloadn d_Mo_takes_35 rfl rfl, ?_⟩
  refine ⟨so_dup2 d_Mo_takes_36 rfl, ?_⟩
  refine ⟨so_iald d_Mo_takes_37 rfl, ?_⟩
  refine ⟨so_const1 d_Mo_takes_38 (by decide) rfl, ?_⟩
  refine ⟨so_iadd d_Mo_takes_39 rfl, ?_⟩
  refine ⟨so_iast d_Mo_takes_40 rfl, ?_⟩
  refine ⟨so_vret d_Mo_takes_41 rfl, ?_⟩
  exact trivial
theorem d_Mo_ends_0 : decode prog_10_method_25_code 0 = .ok (.aload_n 0, 1) := by decide +kernel
theorem d_Mo_ends_1 : decode prog_10_method_25_code 1 = .ok (.iload_n 2, 1) := by decide +kernel
theorem d_Mo_ends_2 : decode prog_10_method_25_code 2 = .ok (.iload_n 3, 1) := by decide +kernel
theorem d_Mo_ends_3 : decode prog_10_method_25_code 3 = .ok (.invokevirtual 80, 3) := by decide +kernel
theorem d_Mo_ends_6 : decode prog_10_method_25_code 6 = .ok (.istore 4, 2) := by decide +kernel
theorem d_Mo_ends_8 : decode prog_10_method_25_code 8 = .ok (.aload_n 0, 1) := by decide +kernel
theorem d_Mo_ends_9 : decode prog_10_method_25_code 9 = .ok (.iload_n 2, 1) := by decide +kernel
theorem d_Mo_ends_10 : decode prog_10_method_25_code 10 = .ok (.iload 4, 2) := by decide +kernel
theorem d_Mo_ends_12 : decode prog_10_method_25_code 12 = .ok (.invokevirtual 72, 3) := by decide +kernel
theorem d_Mo_ends_15 : decode prog_10_method_25_code 15 = .ok (.bipush 8, 2) := by decide +kernel
theorem d_Mo_ends_17 : decode prog_10_method_25_code 17 = .ok (.if_icmp .ne 23, 3) := by decide +kernel
theorem d_Mo_ends_20 : decode prog_10_method_25_code 20 = .ok (.aload_n 0, 1) := by decide +kernel
theorem d_Mo_ends_21 : decode prog_10_method_25_code 21 = .ok (.getfield 46, 3) := by decide +kernel
theorem d_Mo_ends_24 : decode prog_10_method_25_code 24 = .ok (.bipush 8, 2) := by decide +kernel
theorem d_Mo_ends_26 : decode prog_10_method_25_code 26 = .ok (.iload_n 1, 1) := by decide +kernel
theorem d_Mo_ends_27 : decode prog_10_method_25_code 27 = .ok (.imul, 1) := by decide +kernel
theorem d_Mo_ends_28 : decode prog_10_method_25_code 28 = .ok (.aload_n 0, 1) := by decide +kernel
theorem d_Mo_ends_29 : decode prog_10_method_25_code 29 = .ok (.getfield 40, 3) := by decide +kernel
theorem d_Mo_ends_32 : decode prog_10_method_25_code 32 = .ok (.iload_n 1, 1) := by decide +kernel
theorem d_Mo_ends_33 : decode prog_10_method_25_code 33 = .ok (.iaload, 1) := by decide +kernel
theorem d_Mo_ends_34 : decode prog_10_method_25_code 34 = .ok (.iadd, 1) := by decide +kernel
theorem d_Mo_ends_35 : decode prog_10_method_25_code 35 = .ok (.iconst 1, 1) := by decide +kernel
theorem d_Mo_ends_36 : decode prog_10_method_25_code 36 = .ok (.isub, 1) := by decide +kernel
theorem d_Mo_ends_37 : decode prog_10_method_25_code 37 = .ok (.iload 4, 2) := by decide +kernel
theorem d_Mo_ends_39 : decode prog_10_method_25_code 39 = .ok (.iastore, 1) := by decide +kernel
theorem d_Mo_ends_40 : decode prog_10_method_25_code 40 = .ok (.aload_n 0, 1) := by decide +kernel
theorem d_Mo_ends_41 : decode prog_10_method_25_code 41 = .ok (.iload_n 2, 1) := by decide +kernel
theorem d_Mo_ends_42 : decode prog_10_method_25_code 42 = .ok (.iload 4, 2) := by decide +kernel
theorem d_Mo_ends_44 : decode prog_10_method_25_code 44 = .ok (.invokevirtual 72, 3) := by decide +kernel
theorem d_Mo_ends_47 : decode prog_10_method_25_code 47 = .ok (.iconst 4, 1) := by decide +kernel
theorem d_Mo_ends_48 : decode prog_10_method_25_code 48 = .ok (.if_icmp .eq 4, 3) := by decide +kernel
theorem d_Mo_ends_51 : decode prog_10_method_25_code 51 = .ok (.return_, 1) := by decide +kernel
theorem d_Mo_ends_52 : decode prog_10_method_25_code 52 = .ok (.aload_n 0, 1) := by decide +kernel
theorem d_Mo_ends_53 : decode prog_10_method_25_code 53 = .ok (.iload_n 2, 1) := by decide +kernel
theorem d_Mo_ends_54 : decode prog_10_method_25_code 54 = .ok (.iload 4, 2) := by decide +kernel
theorem d_Mo_ends_56 : decode prog_10_method_25_code 56 = .ok (.invokevirtual 95, 3) := by decide +kernel
theorem d_Mo_ends_59 : decode prog_10_method_25_code 59 = .ok (.istore 5, 2) := by decide +kernel
theorem d_Mo_ends_61 : decode prog_10_method_25_code 61 = .ok (.aload_n 0, 1) := by decide +kernel
theorem d_Mo_ends_62 : decode prog_10_method_25_code 62 = .ok (.getfield 31, 3) := by decide +kernel
theorem d_Mo_ends_65 : decode prog_10_method_25_code 65 = .ok (.iload 5, 2) := by decide +kernel
theorem d_Mo_ends_67 : decode prog_10_method_25_code 67 = .ok (.dup2, 1) := by decide +kernel
theorem d_Mo_ends_68 : decode prog_10_method_25_code 68 = .ok (.iaload, 1) := by decide +kernel
theorem d_Mo_ends_69 : decode prog_10_method_25_code 69 = .ok (.iconst 1, 1) := by decide +kernel
theorem d_Mo_ends_70 : decode prog_10_method_25_code 70 = .ok (.isub, 1) := by decide +kernel
theorem d_Mo_ends_71 : decode prog_10_method_25_code 71 = .ok (.iastore, 1) := by decide +kernel
theorem d_Mo_ends_72 : decode prog_10_method_25_code 72 = .ok (.aload_n 0, 1) := by decide +kernel
theorem d_Mo_ends_73 : decode prog_10_method_25_code 73 = .ok (.getfield 31, 3) := by decide +kernel
theorem d_Mo_ends_76 : decode prog_10_method_25_code 76 = .ok (.iload 5, 2) := by decide +kernel
theorem d_Mo_ends_78 : decode prog_10_method_25_code 78 = .ok (.iaload, 1) := by decide +kernel
theorem d_Mo_ends_79 : decode prog_10_method_25_code 79 = .ok (.ifCond .le 4, 3) := by decide +kernel
theorem d_Mo_ends_82 : decode prog_10_method_25_code 82 = .ok (.return_, 1) := by decide +kernel
theorem d_Mo_ends_83 : decode prog_10_method_25_code 83 = .ok (.aload_n 0, 1) := by decide +kernel
theorem d_Mo_ends_84 : decode prog_10_method_25_code 84 = .ok (.getfield 28, 3) := by decide +kernel
theorem d_Mo_ends_87 : decode prog_10_method_25_code 87 = .ok (.iload 5, 2) := by decide +kernel
theorem d_Mo_ends_89 : decode prog_10_method_25_code 89 = .ok (.iconst (-1), 1) := by decide +kernel
theorem d_Mo_ends_90 : decode prog_10_method_25_code 90 = .ok (.iastore, 1) := by decide +kernel
theorem d_Mo_ends_91 : decode prog_10_method_25_code 91 = .ok (.aload_n 0, 1) := by decide +kernel
theorem d_Mo_ends_92 : decode prog_10_method_25_code 92 = .ok (.getfield 34, 3) := by decide +kernel
theorem d_Mo_ends_95 : decode prog_10_method_25_code 95 = .ok (.iload 5, 2) := by decide +kernel
theorem d_Mo_ends_97 : decode prog_10_method_25_code 97 = .ok (.aload_n 0, 1) := by decide +kernel
theorem d_Mo_ends_98 : decode prog_10_method_25_code 98 = .ok (.getfield 123, 3) := by decide +kernel
theorem d_Mo_ends_101 : decode prog_10_method_25_code 101 = .ok (.iastore, 1) := by decide +kernel
theorem d_Mo_ends_102 : decode prog_10_method_25_code 102 = .ok (.return_, 1) := by decide +kernel
def tb_Mo_ends : List pm_I := [
  pm_aload 1 0,
  pm_iload 2 2,
  pm_iload 3 3,
  pm_callv 4 75 3 8,
  pm_istore 5 4,
  pm_aload 6 0,
  pm_iload 7 2,
  pm_iload 8 4,
  pm_callv 9 74 3 8,
  pm_const 10 8,
  pm_icmp 25 11 (fun a b => decide (a ≠ b)),
  pm_aload 12 0,
  pm_getr 13 8 15,
  pm_const 14 8,
  pm_iload 15 1,
  pm_bin 16 (fun a b => a * b),
  pm_aload 17 0,
  pm_getr 18 8 13,
  pm_iload 19 1,
  pm_iald 20 0,
  pm_bin 21 (fun a b => a + b),
  pm_const 22 1,
  pm_bin 23 (fun a b => a - b),
  pm_iload 24 4,
  pm_iast 25,
  pm_aload 26 0,
  pm_iload 27 2,
  pm_iload 28 4,
  pm_callv 29 74 3 8,
  pm_const 30 4,
  pm_icmp 32 31 (fun a b => decide (a = b)),
  pm_vret,
  pm_aload 33 0,
  pm_iload 34 2,
  pm_iload 35 4,
  pm_callv 36 78 3 8,
  pm_istore 37 5,
  pm_aload 38 0,
  pm_getr 39 8 9,
  pm_iload 40 5,
  pm_dup2 41,
  pm_iald 42 0,
  pm_const 43 1,
  pm_bin 44 (fun a b => a - b),
  pm_iast 45,
  pm_aload 46 0,
  pm_getr 47 8 9,
  pm_iload 48 5,
  pm_iald 49 0,
  pm_if 51 50 (fun a => decide (a ≤ 0)),
  pm_vret,
  pm_aload 52 0,
  pm_getr 53 8 8,
  pm_iload 54 5,
  pm_const 55 (-1),
  pm_iast 56,
  pm_aload 57 0,
  pm_getr 58 8 10,
  pm_iload 59 5,
  pm_aload 60 0,
  pm_geti 61 8 17,
  pm_iast 62,
  pm_vret]
def bp_Mo_ends : List Nat := [0, 1, 2, 3, 6, 8, 9, 10, 12, 15, 17, 20, 21, 24, 26, 27, 28, 29, 32, 33, 34, 35, 36, 37, 39, 40, 41, 42, 44, 47, 48, 51, 52, 53, 54, 56, 59, 61, 62, 65, 67, 68, 69, 70, 71, 72, 73, 76, 78, 79, 82, 83, 84, 87, 89, 90, 91, 92, 95, 97, 98, 101, 102]
set_option maxRecDepth 100000 in
theorem sd_Mo_ends : pm_Sl prog_10_method_25_code 6 R_Mo "ends" (none) pm_Y (pm_b bp_Mo_ends) 0 tb_Mo_ends := by
  refine ⟨so_aloadn d_Mo_ends_0 rfl rfl, ?_⟩
  refine ⟨so_iloadn d_Mo_ends_1 rfl rfl, ?_⟩
  refine ⟨so_iloadn d_Mo_ends_2 rfl rfl, ?_⟩
  refine ⟨so_callv (ci := 8) rfl rfl mc_Mo_openerOf mi_Mo mj_Mo_openerOf ms_Mo_openerOf ml_Mo_80 yd_Mo_openerOf (by decide) d_Mo_ends_3 rfl, ?_⟩
  refine ⟨so_istore d_Mo_ends_6 (by decide) rfl, ?_⟩
  refine ⟨so_aloadn d_Mo_ends_8 rfl rfl, ?_⟩
  refine ⟨so_iloadn d_Mo_ends_9 rfl rfl, ?_⟩
  refine ⟨so_iload d_Mo_ends_10 rfl, ?_⟩
  refine ⟨so_callv (ci := 8) rfl rfl mc_Mo_kindAt mi_Mo mj_Mo_kindAt ms_Mo_kindAt ml_Mo_72 yd_Mo_kindAt (by decide) d_Mo_ends_12 rfl, ?_⟩
  refine ⟨so_const2 d_Mo_ends_15 (by decide) rfl, ?_⟩
  refine ⟨so_icmp_ne d_Mo_ends_17 rfl rfl, ?_⟩
  refine ⟨so_aloadn d_Mo_ends_20 rfl rfl, ?_⟩
  refine ⟨so_getr (ci := 8) (k := 15) rfl (by decide) rfl rfl fl_Mo_46 d_Mo_ends_21 rfl, ?_⟩
  refine ⟨so_const2 d_Mo_ends_24 (by decide) rfl, ?_⟩
  refine ⟨so_iloadn d_Mo_ends_26 rfl rfl, ?_⟩
  refine ⟨so_imul d_Mo_ends_27 rfl, ?_⟩
  refine ⟨so_aloadn d_Mo_ends_28 rfl rfl, ?_⟩
  refine ⟨so_getr (ci := 8) (k := 13) rfl (by decide) rfl rfl fl_Mo_40 d_Mo_ends_29 rfl, ?_⟩
  refine ⟨so_iloadn d_Mo_ends_32 rfl rfl, ?_⟩
  refine ⟨so_iald d_Mo_ends_33 rfl, ?_⟩
  refine ⟨so_iadd d_Mo_ends_34 rfl, ?_⟩
  refine ⟨so_const1 d_Mo_ends_35 (by decide) rfl, ?_⟩
  refine ⟨so_isub d_Mo_ends_36 rfl, ?_⟩
  refine ⟨so_iload d_Mo_ends_37 rfl, ?_⟩
  refine ⟨so_iast d_Mo_ends_39 rfl, ?_⟩
  refine ⟨so_aloadn d_Mo_ends_40 rfl rfl, ?_⟩
  refine ⟨so_iloadn d_Mo_ends_41 rfl rfl, ?_⟩
  refine ⟨so_iload d_Mo_ends_42 rfl, ?_⟩
  refine ⟨so_callv (ci := 8) rfl rfl mc_Mo_kindAt mi_Mo mj_Mo_kindAt ms_Mo_kindAt ml_Mo_72 yd_Mo_kindAt (by decide) d_Mo_ends_44 rfl, ?_⟩
  refine ⟨so_const1 d_Mo_ends_47 (by decide) rfl, ?_⟩
  refine ⟨so_icmp_eq d_Mo_ends_48 rfl rfl, ?_⟩
  refine ⟨so_vret d_Mo_ends_51 rfl, ?_⟩
  refine ⟨so_aloadn d_Mo_ends_52 rfl rfl, ?_⟩
  refine ⟨so_iloadn d_Mo_ends_53 rfl rfl, ?_⟩
  refine ⟨so_iload d_Mo_ends_54 rfl, ?_⟩
  refine ⟨so_callv (ci := 8) rfl rfl mc_Mo_numberAt mi_Mo mj_Mo_numberAt ms_Mo_numberAt ml_Mo_95 yd_Mo_numberAt (by decide) d_Mo_ends_56 rfl, ?_⟩
  refine ⟨so_istore d_Mo_ends_59 (by decide) rfl, ?_⟩
  refine ⟨so_aloadn d_Mo_ends_61 rfl rfl, ?_⟩
  refine ⟨so_getr (ci := 8) (k := 9) rfl (by decide) rfl rfl fl_Mo_31 d_Mo_ends_62 rfl, ?_⟩
  refine ⟨so_iload d_Mo_ends_65 rfl, ?_⟩
  refine ⟨so_dup2 d_Mo_ends_67 rfl, ?_⟩
  refine ⟨so_iald d_Mo_ends_68 rfl, ?_⟩
  refine ⟨so_const1 d_Mo_ends_69 (by decide) rfl, ?_⟩
  refine ⟨so_isub d_Mo_ends_70 rfl, ?_⟩
  refine ⟨so_iast d_Mo_ends_71 rfl, ?_⟩
  refine ⟨so_aloadn d_Mo_ends_72 rfl rfl, ?_⟩
  refine ⟨so_getr (ci := 8) (k := 9) rfl (by decide) rfl rfl fl_Mo_31 d_Mo_ends_73 rfl, ?_⟩
  refine ⟨so_iload d_Mo_ends_76 rfl, ?_⟩
  refine ⟨so_iald d_Mo_ends_78 rfl, ?_⟩
  refine ⟨so_if_le d_Mo_ends_79 rfl rfl, ?_⟩
  refine ⟨so_vret d_Mo_ends_82 rfl, ?_⟩
  refine ⟨so_aloadn d_Mo_ends_83 rfl rfl, ?_⟩
  refine ⟨so_getr (ci := 8) (k := 8) rfl (by decide) rfl rfl fl_Mo_28 d_Mo_ends_84 rfl, ?_⟩
  refine ⟨so_iload d_Mo_ends_87 rfl, ?_⟩
  refine ⟨so_const1 d_Mo_ends_89 (by decide) rfl, ?_⟩
  refine ⟨so_iast d_Mo_ends_90 rfl, ?_⟩
  refine ⟨so_aloadn d_Mo_ends_91 rfl rfl, ?_⟩
  refine ⟨so_getr (ci := 8) (k := 10) rfl (by decide) rfl rfl fl_Mo_34 d_Mo_ends_92 rfl, ?_⟩
  refine ⟨so_iload d_Mo_ends_95 rfl, ?_⟩
  refine ⟨so_aloadn d_Mo_ends_97 rfl rfl, ?_⟩
  refine ⟨so_geti (ci := 8) (k := 17) rfl (by decide) rfl rfl fl_Mo_123 d_Mo_ends_98 rfl, ?_⟩
  refine ⟨so_iast d_Mo_ends_101 rfl, ?_⟩
  refine ⟨so_vret d_Mo_ends_102 rfl, ?_⟩
  exact trivial
theorem d_Mo_has_0 : decode prog_10_method_28_code 0 = .ok (.aload_n 0, 1) := by decide +kernel
theorem d_Mo_has_1 : decode prog_10_method_28_code 1 = .ok (.iload_n 1, 1) := by decide +kernel
theorem d_Mo_has_2 : decode prog_10_method_28_code 2 = .ok (.invokevirtual 133, 3) := by decide +kernel
theorem d_Mo_has_5 : decode prog_10_method_28_code 5 = .ok (.ifCond .eq 12, 3) := by decide +kernel
theorem d_Mo_has_8 : decode prog_10_method_28_code 8 = .ok (.aload_n 0, 1) := by decide +kernel
theorem d_Mo_has_9 : decode prog_10_method_28_code 9 = .ok (.getfield 37, 3) := by decide +kernel
theorem d_Mo_has_12 : decode prog_10_method_28_code 12 = .ok (.iload_n 1, 1) := by decide +kernel
theorem d_Mo_has_13 : decode prog_10_method_28_code 13 = .ok (.iaload, 1) := by decide +kernel
theorem d_Mo_has_14 : decode prog_10_method_28_code 14 = .ok (.goto 4, 3) := by decide +kernel
theorem d_Mo_has_17 : decode prog_10_method_28_code 17 = .ok (.iconst 0, 1) := by decide +kernel
theorem d_Mo_has_18 : decode prog_10_method_28_code 18 = .ok (.ireturn, 1) := by decide +kernel
def tb_Mo_has : List pm_I := [
  pm_aload 1 0,
  pm_iload 2 1,
  pm_callv 3 89 2 8,
  pm_if 9 4 (fun a => decide (a = 0)),
  pm_aload 5 0,
  pm_getr 6 8 12,
  pm_iload 7 1,
  pm_iald 8 0,
  pm_goto 10,
  pm_const 10 0,
  pm_iret]
def bp_Mo_has : List Nat := [0, 1, 2, 5, 8, 9, 12, 13, 14, 17, 18]
set_option maxRecDepth 100000 in
theorem sd_Mo_has : pm_Sl prog_10_method_28_code 2 R_Mo "has" (some .int) pm_Y (pm_b bp_Mo_has) 0 tb_Mo_has := by
  refine ⟨so_aloadn d_Mo_has_0 rfl rfl, ?_⟩
  refine ⟨so_iloadn d_Mo_has_1 rfl rfl, ?_⟩
  refine ⟨so_callv (ci := 8) rfl rfl mc_Mo_isThread mi_Mo mj_Mo_isThread ms_Mo_isThread ml_Mo_133 yd_Mo_isThread (by decide) d_Mo_has_2 rfl, ?_⟩
  refine ⟨so_if_eq d_Mo_has_5 rfl rfl, ?_⟩
  refine ⟨so_aloadn d_Mo_has_8 rfl rfl, ?_⟩
  refine ⟨so_getr (ci := 8) (k := 12) rfl (by decide) rfl rfl fl_Mo_37 d_Mo_has_9 rfl, ?_⟩
  refine ⟨so_iloadn d_Mo_has_12 rfl rfl, ?_⟩
  refine ⟨so_iald d_Mo_has_13 rfl, ?_⟩
  refine ⟨so_goto d_Mo_has_14 rfl, ?_⟩
  refine ⟨so_const1 d_Mo_has_17 (by decide) rfl, ?_⟩
  refine ⟨so_iret d_Mo_has_18 rfl, ?_⟩
  exact trivial
theorem d_Mo_cell_0 : decode prog_10_method_29_code 0 = .ok (.aload_n 0, 1) := by decide +kernel
theorem d_Mo_cell_1 : decode prog_10_method_29_code 1 = .ok (.getfield 119, 3) := by decide +kernel
theorem d_Mo_cell_4 : decode prog_10_method_29_code 4 = .ok (.ifCond .eq 21, 3) := by decide +kernel
theorem d_Mo_cell_7 : decode prog_10_method_29_code 7 = .ok (.iload_n 1, 1) := by decide +kernel
theorem d_Mo_cell_8 : decode prog_10_method_29_code 8 = .ok (.bipush 8, 2) := by decide +kernel
theorem d_Mo_cell_10 : decode prog_10_method_29_code 10 = .ok (.invokestatic 68, 3) := by decide +kernel
theorem d_Mo_cell_13 : decode prog_10_method_29_code 13 = .ok (.ifCond .eq 12, 3) := by decide +kernel
theorem d_Mo_cell_16 : decode prog_10_method_29_code 16 = .ok (.aload_n 0, 1) := by decide +kernel
theorem d_Mo_cell_17 : decode prog_10_method_29_code 17 = .ok (.getfield 25, 3) := by decide +kernel
theorem d_Mo_cell_20 : decode prog_10_method_29_code 20 = .ok (.iload_n 1, 1) := by decide +kernel
theorem d_Mo_cell_21 : decode prog_10_method_29_code 21 = .ok (.iaload, 1) := by decide +kernel
theorem d_Mo_cell_22 : decode prog_10_method_29_code 22 = .ok (.goto 4, 3) := by decide +kernel
theorem d_Mo_cell_25 : decode prog_10_method_29_code 25 = .ok (.iconst 0, 1) := by decide +kernel
theorem d_Mo_cell_26 : decode prog_10_method_29_code 26 = .ok (.ireturn, 1) := by decide +kernel
def tb_Mo_cell : List pm_I := [
  pm_aload 1 0,
  pm_geti 2 8 6,
  pm_if 12 3 (fun a => decide (a = 0)),
  pm_iload 4 1,
  pm_const 5 8,
  pm_calls 6 71 2,
  pm_if 12 7 (fun a => decide (a = 0)),
  pm_aload 8 0,
  pm_getr 9 8 7,
  pm_iload 10 1,
  pm_iald 11 0,
  pm_goto 13,
  pm_const 13 0,
  pm_iret]
def bp_Mo_cell : List Nat := [0, 1, 4, 7, 8, 10, 13, 16, 17, 20, 21, 22, 25, 26]
set_option maxRecDepth 100000 in
theorem sd_Mo_cell : pm_Sl prog_10_method_29_code 2 R_Mo "cell" (some .int) pm_Y (pm_b bp_Mo_cell) 0 tb_Mo_cell := by
  refine ⟨so_aloadn d_Mo_cell_0 rfl rfl, ?_⟩
  refine ⟨so_geti (ci := 8) (k := 6) rfl (by decide) rfl rfl fl_Mo_119 d_Mo_cell_1 rfl, ?_⟩
  refine ⟨so_if_eq d_Mo_cell_4 rfl rfl, ?_⟩
  refine ⟨so_iloadn d_Mo_cell_7 rfl rfl, ?_⟩
  refine ⟨so_const2 d_Mo_cell_8 (by decide) rfl, ?_⟩
  refine ⟨so_calls rfl mc_Mo_isIn mi_Mo mt_Mo_isIn ml_Mo_68 yd_Mo_isIn (by decide) d_Mo_cell_10 rfl, ?_⟩
  refine ⟨so_if_eq d_Mo_cell_13 rfl rfl, ?_⟩
  refine ⟨so_aloadn d_Mo_cell_16 rfl rfl, ?_⟩
  refine ⟨so_getr (ci := 8) (k := 7) rfl (by decide) rfl rfl fl_Mo_25 d_Mo_cell_17 rfl, ?_⟩
  refine ⟨so_iloadn d_Mo_cell_20 rfl rfl, ?_⟩
  refine ⟨so_iald d_Mo_cell_21 rfl, ?_⟩
  refine ⟨so_goto d_Mo_cell_22 rfl, ?_⟩
  refine ⟨so_const1 d_Mo_cell_25 (by decide) rfl, ?_⟩
  refine ⟨so_iret d_Mo_cell_26 rfl, ?_⟩
  exact trivial
theorem d_Mo_holder_0 : decode prog_10_method_30_code 0 = .ok (.aload_n 0, 1) := by decide +kernel
theorem d_Mo_holder_1 : decode prog_10_method_30_code 1 = .ok (.getfield 119, 3) := by decide +kernel
theorem d_Mo_holder_4 : decode prog_10_method_30_code 4 = .ok (.ifCond .eq 20, 3) := by decide +kernel
theorem d_Mo_holder_7 : decode prog_10_method_30_code 7 = .ok (.iload_n 1, 1) := by decide +kernel
theorem d_Mo_holder_8 : decode prog_10_method_30_code 8 = .ok (.iconst 4, 1) := by decide +kernel
theorem d_Mo_holder_9 : decode prog_10_method_30_code 9 = .ok (.invokestatic 68, 3) := by decide +kernel
theorem d_Mo_holder_12 : decode prog_10_method_30_code 12 = .ok (.ifCond .eq 12, 3) := by decide +kernel
theorem d_Mo_holder_15 : decode prog_10_method_30_code 15 = .ok (.aload_n 0, 1) := by decide +kernel
theorem d_Mo_holder_16 : decode prog_10_method_30_code 16 = .ok (.getfield 28, 3) := by decide +kernel
theorem d_Mo_holder_19 : decode prog_10_method_30_code 19 = .ok (.iload_n 1, 1) := by decide +kernel
theorem d_Mo_holder_20 : decode prog_10_method_30_code 20 = .ok (.iaload, 1) := by decide +kernel
theorem d_Mo_holder_21 : decode prog_10_method_30_code 21 = .ok (.goto 4, 3) := by decide +kernel
theorem d_Mo_holder_24 : decode prog_10_method_30_code 24 = .ok (.iconst (-1), 1) := by decide +kernel
theorem d_Mo_holder_25 : decode prog_10_method_30_code 25 = .ok (.ireturn, 1) := by decide +kernel
def tb_Mo_holder : List pm_I := [
  pm_aload 1 0,
  pm_geti 2 8 6,
  pm_if 12 3 (fun a => decide (a = 0)),
  pm_iload 4 1,
  pm_const 5 4,
  pm_calls 6 71 2,
  pm_if 12 7 (fun a => decide (a = 0)),
  pm_aload 8 0,
  pm_getr 9 8 8,
  pm_iload 10 1,
  pm_iald 11 0,
  pm_goto 13,
  pm_const 13 (-1),
  pm_iret]
def bp_Mo_holder : List Nat := [0, 1, 4, 7, 8, 9, 12, 15, 16, 19, 20, 21, 24, 25]
set_option maxRecDepth 100000 in
theorem sd_Mo_holder : pm_Sl prog_10_method_30_code 2 R_Mo "holder" (some .int) pm_Y (pm_b bp_Mo_holder) 0 tb_Mo_holder := by
  refine ⟨so_aloadn d_Mo_holder_0 rfl rfl, ?_⟩
  refine ⟨so_geti (ci := 8) (k := 6) rfl (by decide) rfl rfl fl_Mo_119 d_Mo_holder_1 rfl, ?_⟩
  refine ⟨so_if_eq d_Mo_holder_4 rfl rfl, ?_⟩
  refine ⟨so_iloadn d_Mo_holder_7 rfl rfl, ?_⟩
  refine ⟨so_const1 d_Mo_holder_8 (by decide) rfl, ?_⟩
  refine ⟨so_calls rfl mc_Mo_isIn mi_Mo mt_Mo_isIn ml_Mo_68 yd_Mo_isIn (by decide) d_Mo_holder_9 rfl, ?_⟩
  refine ⟨so_if_eq d_Mo_holder_12 rfl rfl, ?_⟩
  refine ⟨so_aloadn d_Mo_holder_15 rfl rfl, ?_⟩
  refine ⟨so_getr (ci := 8) (k := 8) rfl (by decide) rfl rfl fl_Mo_28 d_Mo_holder_16 rfl, ?_⟩
  refine ⟨so_iloadn d_Mo_holder_19 rfl rfl, ?_⟩
  refine ⟨so_iald d_Mo_holder_20 rfl, ?_⟩
  refine ⟨so_goto d_Mo_holder_21 rfl, ?_⟩
  refine ⟨so_const1 d_Mo_holder_24 (by decide) rfl, ?_⟩
  refine ⟨so_iret d_Mo_holder_25 rfl, ?_⟩
  exact trivial
theorem d_Mo_state_0 : decode prog_10_method_31_code 0 = .ok (.aload_n 0, 1) := by decide +kernel
theorem d_Mo_state_1 : decode prog_10_method_31_code 1 = .ok (.iload_n 1, 1) := by decide +kernel
theorem d_Mo_state_2 : decode prog_10_method_31_code 2 = .ok (.invokevirtual 133, 3) := by decide +kernel
theorem d_Mo_state_5 : decode prog_10_method_31_code 5 = .ok (.ifCond .ne 7, 3) := by decide +kernel
theorem d_Mo_state_8 : decode prog_10_method_31_code 8 = .ok (.iconst (-1), 1) := by decide +kernel
theorem d_Mo_state_9 : decode prog_10_method_31_code 9 = .ok (.goto 29, 3) := by decide +kernel
theorem d_Mo_state_12 : decode prog_10_method_31_code 12 = .ok (.aload_n 0, 1) := by decide +kernel
theorem d_Mo_state_13 : decode prog_10_method_31_code 13 = .ok (.getfield 40, 3) := by decide +kernel
theorem d_Mo_state_16 : decode prog_10_method_31_code 16 = .ok (.iload_n 1, 1) := by decide +kernel
theorem d_Mo_state_17 : decode prog_10_method_31_code 17 = .ok (.iaload, 1) := by decide +kernel
theorem d_Mo_state_18 : decode prog_10_method_31_code 18 = .ok (.ifCond .ne 7, 3) := by decide +kernel
theorem d_Mo_state_21 : decode prog_10_method_31_code 21 = .ok (.iconst 2, 1) := by decide +kernel
theorem d_Mo_state_22 : decode prog_10_method_31_code 22 = .ok (.goto 16, 3) := by decide +kernel
theorem d_Mo_state_25 : decode prog_10_method_31_code 25 = .ok (.aload_n 0, 1) := by decide +kernel
theorem d_Mo_state_26 : decode prog_10_method_31_code 26 = .ok (.iload_n 1, 1) := by decide +kernel
theorem d_Mo_state_27 : decode prog_10_method_31_code 27 = .ok (.invokevirtual 136, 3) := by decide +kernel
theorem d_Mo_state_30 : decode prog_10_method_31_code 30 = .ok (.ifCond .lt 7, 3) := by decide +kernel
theorem d_Mo_state_33 : decode prog_10_method_31_code 33 = .ok (.iconst 1, 1) := by decide +kernel
theorem d_Mo_state_34 : decode prog_10_method_31_code 34 = .ok (.goto 4, 3) := by decide +kernel
theorem d_Mo_state_37 : decode prog_10_method_31_code 37 = .ok (.iconst 0, 1) := by decide +kernel
theorem d_Mo_state_38 : decode prog_10_method_31_code 38 = .ok (.ireturn, 1) := by decide +kernel
def tb_Mo_state : List pm_I := [
  pm_aload 1 0,
  pm_iload 2 1,
  pm_callv 3 89 2 8,
  pm_if 6 4 (fun a => decide (a ≠ 0)),
  pm_const 5 (-1),
  pm_goto 20,
  pm_aload 7 0,
  pm_getr 8 8 13,
  pm_iload 9 1,
  pm_iald 10 0,
  pm_if 13 11 (fun a => decide (a ≠ 0)),
  pm_const 12 2,
  pm_goto 20,
  pm_aload 14 0,
  pm_iload 15 1,
  pm_callv 16 90 2 8,
  pm_if 19 17 (fun a => decide (a < 0)),
  pm_const 18 1,
  pm_goto 20,
  pm_const 20 0,
  pm_iret]
def bp_Mo_state : List Nat := [0, 1, 2, 5, 8, 9, 12, 13, 16, 17, 18, 21, 22, 25, 26, 27, 30, 33, 34, 37, 38]
set_option maxRecDepth 100000 in
theorem sd_Mo_state : pm_Sl prog_10_method_31_code 2 R_Mo "state" (some .int) pm_Y (pm_b bp_Mo_state) 0 tb_Mo_state := by
  refine ⟨so_aloadn d_Mo_state_0 rfl rfl, ?_⟩
  refine ⟨so_iloadn d_Mo_state_1 rfl rfl, ?_⟩
  refine ⟨so_callv (ci := 8) rfl rfl mc_Mo_isThread mi_Mo mj_Mo_isThread ms_Mo_isThread ml_Mo_133 yd_Mo_isThread (by decide) d_Mo_state_2 rfl, ?_⟩
  refine ⟨so_if_ne d_Mo_state_5 rfl rfl, ?_⟩
  refine ⟨so_const1 d_Mo_state_8 (by decide) rfl, ?_⟩
  refine ⟨so_goto d_Mo_state_9 rfl, ?_⟩
  refine ⟨so_aloadn d_Mo_state_12 rfl rfl, ?_⟩
  refine ⟨so_getr (ci := 8) (k := 13) rfl (by decide) rfl rfl fl_Mo_40 d_Mo_state_13 rfl, ?_⟩
  refine ⟨so_iloadn d_Mo_state_16 rfl rfl, ?_⟩
  refine ⟨so_iald d_Mo_state_17 rfl, ?_⟩
  refine ⟨so_if_ne d_Mo_state_18 rfl rfl, ?_⟩
  refine ⟨so_const1 d_Mo_state_21 (by decide) rfl, ?_⟩
  refine ⟨so_goto d_Mo_state_22 rfl, ?_⟩
  refine ⟨so_aloadn d_Mo_state_25 rfl rfl, ?_⟩
  refine ⟨so_iloadn d_Mo_state_26 rfl rfl, ?_⟩
  refine ⟨so_callv (ci := 8) rfl rfl mc_Mo_waitsFor mi_Mo mj_Mo_waitsFor ms_Mo_waitsFor ml_Mo_136 yd_Mo_waitsFor (by decide) d_Mo_state_27 rfl, ?_⟩
  refine ⟨so_if_lt d_Mo_state_30 rfl rfl, ?_⟩
  refine ⟨so_const1 d_Mo_state_33 (by decide) rfl, ?_⟩
  refine ⟨so_goto d_Mo_state_34 rfl, ?_⟩
  refine ⟨so_const1 d_Mo_state_37 (by decide) rfl, ?_⟩
  refine ⟨so_iret d_Mo_state_38 rfl, ?_⟩
  exact trivial
theorem d_Mo_count_0 : decode prog_10_method_32_code 0 = .ok (.aload_n 0, 1) := by decide +kernel
theorem d_Mo_count_1 : decode prog_10_method_32_code 1 = .ok (.getfield 119, 3) := by decide +kernel
theorem d_Mo_count_4 : decode prog_10_method_32_code 4 = .ok (.ifCond .ne 7, 3) := by decide +kernel
theorem d_Mo_count_7 : decode prog_10_method_32_code 7 = .ok (.iconst (-1), 1) := by decide +kernel
theorem d_Mo_count_8 : decode prog_10_method_32_code 8 = .ok (.goto 39, 3) := by decide +kernel
theorem d_Mo_count_11 : decode prog_10_method_32_code 11 = .ok (.iload_n 1, 1) := by decide +kernel
theorem d_Mo_count_12 : decode prog_10_method_32_code 12 = .ok (.ifCond .ne 10, 3) := by decide +kernel
theorem d_Mo_count_15 : decode prog_10_method_32_code 15 = .ok (.aload_n 0, 1) := by decide +kernel
theorem d_Mo_count_16 : decode prog_10_method_32_code 16 = .ok (.getfield 108, 3) := by decide +kernel
theorem d_Mo_count_19 : decode prog_10_method_32_code 19 = .ok (.goto 28, 3) := by decide +kernel
theorem d_Mo_count_22 : decode prog_10_method_32_code 22 = .ok (.iload_n 1, 1) := by decide +kernel
theorem d_Mo_count_23 : decode prog_10_method_32_code 23 = .ok (.iconst 1, 1) := by decide +kernel
theorem d_Mo_count_24 : decode prog_10_method_32_code 24 = .ok (.if_icmp .ne 10, 3) := by decide +kernel
theorem d_Mo_count_27 : decode prog_10_method_32_code 27 = .ok (.aload_n 0, 1) := by decide +kernel
theorem d_Mo_count_28 : decode prog_10_method_32_code 28 = .ok (.getfield 123, 3) := by decide +kernel
theorem d_Mo_count_31 : decode prog_10_method_32_code 31 = .ok (.goto 16, 3) := by decide +kernel
theorem d_Mo_count_34 : decode prog_10_method_32_code 34 = .ok (.iload_n 1, 1) := by decide +kernel
theorem d_Mo_count_35 : decode prog_10_method_32_code 35 = .ok (.iconst 2, 1) := by decide +kernel
theorem d_Mo_count_36 : decode prog_10_method_32_code 36 = .ok (.if_icmp .ne 10, 3) := by decide +kernel
theorem d_Mo_count_39 : decode prog_10_method_32_code 39 = .ok (.aload_n 0, 1) := by decide +kernel
theorem d_Mo_count_40 : decode prog_10_method_32_code 40 = .ok (.getfield 126, 3) := by decide +kernel
theorem d_Mo_count_43 : decode prog_10_method_32_code 43 = .ok (.goto 4, 3) := by decide +kernel
theorem d_Mo_count_46 : decode prog_10_method_32_code 46 = .ok (.iconst (-1), 1) := by decide +kernel
theorem d_Mo_count_47 : decode prog_10_method_32_code 47 = .ok (.ireturn, 1) := by decide +kernel
def tb_Mo_count : List pm_I := [
  pm_aload 1 0,
  pm_geti 2 8 6,
  pm_if 5 3 (fun a => decide (a ≠ 0)),
  pm_const 4 (-1),
  pm_goto 23,
  pm_iload 6 1,
  pm_if 10 7 (fun a => decide (a ≠ 0)),
  pm_aload 8 0,
  pm_geti 9 8 11,
  pm_goto 23,
  pm_iload 11 1,
  pm_const 12 1,
  pm_icmp 16 13 (fun a b => decide (a ≠ b)),
  pm_aload 14 0,
  pm_geti 15 8 17,
  pm_goto 23,
  pm_iload 17 1,
  pm_const 18 2,
  pm_icmp 22 19 (fun a b => decide (a ≠ b)),
  pm_aload 20 0,
  pm_geti 21 8 22,
  pm_goto 23,
  pm_const 23 (-1),
  pm_iret]
def bp_Mo_count : List Nat := [0, 1, 4, 7, 8, 11, 12, 15, 16, 19, 22, 23, 24, 27, 28, 31, 34, 35, 36, 39, 40, 43, 46, 47]
set_option maxRecDepth 100000 in
theorem sd_Mo_count : pm_Sl prog_10_method_32_code 2 R_Mo "count" (some .int) pm_Y (pm_b bp_Mo_count) 0 tb_Mo_count := by
  refine ⟨so_aloadn d_Mo_count_0 rfl rfl, ?_⟩
  refine ⟨so_geti (ci := 8) (k := 6) rfl (by decide) rfl rfl fl_Mo_119 d_Mo_count_1 rfl, ?_⟩
  refine ⟨so_if_ne d_Mo_count_4 rfl rfl, ?_⟩
  refine ⟨so_const1 d_Mo_count_7 (by decide) rfl, ?_⟩
  refine ⟨so_goto d_Mo_count_8 rfl, ?_⟩
  refine ⟨so_iloadn d_Mo_count_11 rfl rfl, ?_⟩
  refine ⟨so_if_ne d_Mo_count_12 rfl rfl, ?_⟩
  refine ⟨so_aloadn d_Mo_count_15 rfl rfl, ?_⟩
  refine ⟨so_geti (ci := 8) (k := 11) rfl (by decide) rfl rfl fl_Mo_108 d_Mo_count_16 rfl, ?_⟩
  refine ⟨so_goto d_Mo_count_19 rfl, ?_⟩
  refine ⟨so_iloadn d_Mo_count_22 rfl rfl, ?_⟩
  refine ⟨so_const1 d_Mo_count_23 (by decide) rfl, ?_⟩
  refine ⟨so_icmp_ne d_Mo_count_24 rfl rfl, ?_⟩
  refine ⟨so_aloadn d_Mo_count_27 rfl rfl, ?_⟩
  refine ⟨so_geti (ci := 8) (k := 17) rfl (by decide) rfl rfl fl_Mo_123 d_Mo_count_28 rfl, ?_⟩
  refine ⟨so_goto d_Mo_count_31 rfl, ?_⟩
  refine ⟨so_iloadn d_Mo_count_34 rfl rfl, ?_⟩
  refine ⟨so_const1 d_Mo_count_35 (by decide) rfl, ?_⟩
  refine ⟨so_icmp_ne d_Mo_count_36 rfl rfl, ?_⟩
  refine ⟨so_aloadn d_Mo_count_39 rfl rfl, ?_⟩
  refine ⟨so_geti (ci := 8) (k := 22) rfl (by decide) rfl rfl fl_Mo_126 d_Mo_count_40 rfl, ?_⟩
  refine ⟨so_goto d_Mo_count_43 rfl, ?_⟩
  refine ⟨so_const1 d_Mo_count_46 (by decide) rfl, ?_⟩
  refine ⟨so_iret d_Mo_count_47 rfl, ?_⟩
  exact trivial
theorem d_Mo_race_0 : decode prog_10_method_33_code 0 = .ok (.aload_n 0, 1) := by decide +kernel
theorem d_Mo_race_1 : decode prog_10_method_33_code 1 = .ok (.getfield 119, 3) := by decide +kernel
theorem d_Mo_race_4 : decode prog_10_method_33_code 4 = .ok (.ifCond .eq 21, 3) := by decide +kernel
theorem d_Mo_race_7 : decode prog_10_method_33_code 7 = .ok (.iload_n 1, 1) := by decide +kernel
theorem d_Mo_race_8 : decode prog_10_method_33_code 8 = .ok (.ifCond .lt 17, 3) := by decide +kernel
theorem d_Mo_race_11 : decode prog_10_method_33_code 11 = .ok (.iload_n 1, 1) := by decide +kernel
theorem d_Mo_race_12 : decode prog_10_method_33_code 12 = .ok (.aload_n 0, 1) := by decide +kernel
theorem d_Mo_race_13 : decode prog_10_method_33_code 13 = .ok (.getfield 126, 3) := by decide +kernel
theorem d_Mo_race_16 : decode prog_10_method_33_code 16 = .ok (.if_icmp .ge 9, 3) := by decide +kernel
theorem d_Mo_race_19 : decode prog_10_method_33_code 19 = .ok (.iload_n 1, 1) := by decide +kernel
theorem d_Mo_race_20 : decode prog_10_method_33_code 20 = .ok (.bipush 64, 2) := by decide +kernel
theorem d_Mo_race_22 : decode prog_10_method_33_code 22 = .ok (.if_icmp .lt 5, 3) := by decide +kernel
theorem d_Mo_race_25 : decode prog_10_method_33_code 25 = .ok (.iconst (-1), 1) := by decide +kernel
theorem d_Mo_race_26 : decode prog_10_method_33_code 26 = .ok (.ireturn, 1) := by decide +kernel
theorem d_Mo_race_27 : decode prog_10_method_33_code 27 = .ok (.aload_n 0, 1) := by decide +kernel
theorem d_Mo_race_28 : decode prog_10_method_33_code 28 = .ok (.getfield 65, 3) := by decide +kernel
theorem d_Mo_race_31 : decode prog_10_method_33_code 31 = .ok (.iload_n 1, 1) := by decide +kernel
theorem d_Mo_race_32 : decode prog_10_method_33_code 32 = .ok (.iaload, 1) := by decide +kernel
theorem d_Mo_race_33 : decode prog_10_method_33_code 33 = .ok (.istore_n 3, 1) := by decide +kernel
theorem d_Mo_race_34 : decode prog_10_method_33_code 34 = .ok (.iload_n 2, 1) := by decide +kernel
theorem d_Mo_race_35 : decode prog_10_method_33_code 35 = .ok (.tableswitch 62 0 3 #[29, 31, 41, 53], 29) := by decide +kernel
theorem d_Mo_race_64 : decode prog_10_method_33_code 64 = .ok (.iload_n 3, 1) := by decide +kernel
theorem d_Mo_race_65 : decode prog_10_method_33_code 65 = .ok (.ireturn, 1) := by decide +kernel
theorem d_Mo_race_66 : decode prog_10_method_33_code 66 = .ok (.aload_n 0, 1) := by decide +kernel
theorem d_Mo_race_67 : decode prog_10_method_33_code 67 = .ok (.getfield 58, 3) := by decide +kernel
theorem d_Mo_race_70 : decode prog_10_method_33_code 70 = .ok (.iload_n 3, 1) := by decide +kernel
theorem d_Mo_race_71 : decode prog_10_method_33_code 71 = .ok (.iaload, 1) := by decide +kernel
theorem d_Mo_race_72 : decode prog_10_method_33_code 72 = .ok (.bipush 16, 2) := by decide +kernel
theorem d_Mo_race_74 : decode prog_10_method_33_code 74 = .ok (.idiv, 1) := by decide +kernel
theorem d_Mo_race_75 : decode prog_10_method_33_code 75 = .ok (.ireturn, 1) := by decide +kernel
theorem d_Mo_race_76 : decode prog_10_method_33_code 76 = .ok (.aload_n 0, 1) := by decide +kernel
theorem d_Mo_race_77 : decode prog_10_method_33_code 77 = .ok (.getfield 58, 3) := by decide +kernel
theorem d_Mo_race_80 : decode prog_10_method_33_code 80 = .ok (.iload_n 3, 1) := by decide +kernel
theorem d_Mo_race_81 : decode prog_10_method_33_code 81 = .ok (.iaload, 1) := by decide +kernel
theorem d_Mo_race_82 : decode prog_10_method_33_code 82 = .ok (.iconst 2, 1) := by decide +kernel
theorem d_Mo_race_83 : decode prog_10_method_33_code 83 = .ok (.idiv, 1) := by decide +kernel
theorem d_Mo_race_84 : decode prog_10_method_33_code 84 = .ok (.bipush 8, 2) := by decide +kernel
theorem d_Mo_race_86 : decode prog_10_method_33_code 86 = .ok (.irem, 1) := by decide +kernel
theorem d_Mo_race_87 : decode prog_10_method_33_code 87 = .ok (.ireturn, 1) := by decide +kernel
theorem d_Mo_race_88 : decode prog_10_method_33_code 88 = .ok (.aload_n 0, 1) := by decide +kernel
theorem d_Mo_race_89 : decode prog_10_method_33_code 89 = .ok (.getfield 58, 3) := by decide +kernel
theorem d_Mo_race_92 : decode prog_10_method_33_code 92 = .ok (.iload_n 3, 1) := by decide +kernel
theorem d_Mo_race_93 : decode prog_10_method_33_code 93 = .ok (.iaload, 1) := by decide +kernel
theorem d_Mo_race_94 : decode prog_10_method_33_code 94 = .ok (.iconst 2, 1) := by decide +kernel
theorem d_Mo_race_95 : decode prog_10_method_33_code 95 = .ok (.irem, 1) := by decide +kernel
theorem d_Mo_race_96 : decode prog_10_method_33_code 96 = .ok (.ireturn, 1) := by decide +kernel
theorem d_Mo_race_97 : decode prog_10_method_33_code 97 = .ok (.iconst (-1), 1) := by decide +kernel
theorem d_Mo_race_98 : decode prog_10_method_33_code 98 = .ok (.ireturn, 1) := by decide +kernel
def tb_Mo_race : List pm_I := [
  pm_aload 1 0,
  pm_geti 2 8 6,
  pm_if 12 3 (fun a => decide (a = 0)),
  pm_iload 4 1,
  pm_if 12 5 (fun a => decide (a < 0)),
  pm_iload 6 1,
  pm_aload 7 0,
  pm_geti 8 8 22,
  pm_icmp 12 9 (fun a b => decide (b ≤ a)),
  pm_iload 10 1,
  pm_const 11 64,
  pm_icmp 14 12 (fun a b => decide (a < b)),
  pm_const 13 (-1),
  pm_iret,
  pm_aload 15 0,
  pm_getr 16 8 23,
  pm_iload 17 1,
  pm_iald 18 0,
  pm_istore 19 3,
  pm_iload 20 2,
  pm_sw [(0, 21), (1, 23), (2, 30), (3, 39)] 46,
  pm_iload 22 3,
  pm_iret,
  pm_aload 24 0,
  pm_getr 25 8 20,
  pm_iload 26 3,
  pm_iald 27 0,
  pm_const 28 16,
  pm_div 29 (fun a b => a / b),
  pm_iret,
  pm_aload 31 0,
  pm_getr 32 8 20,
  pm_iload 33 3,
  pm_iald 34 0,
  pm_const 35 2,
  pm_div 36 (fun a b => a / b),
  pm_const 37 8,
  pm_div 38 (fun a b => a - a / b * b),
  pm_iret,
  pm_aload 40 0,
  pm_getr 41 8 20,
  pm_iload 42 3,
  pm_iald 43 0,
  pm_const 44 2,
  pm_div 45 (fun a b => a - a / b * b),
  pm_iret,
  pm_const 47 (-1),
  pm_iret]
def bp_Mo_race : List Nat := [0, 1, 4, 7, 8, 11, 12, 13, 16, 19, 20, 22, 25, 26, 27, 28, 31, 32, 33, 34, 35, 64, 65, 66, 67, 70, 71, 72, 74, 75, 76, 77, 80, 81, 82, 83, 84, 86, 87, 88, 89, 92, 93, 94, 95, 96, 97, 98]
set_option maxRecDepth 100000 in
theorem sd_Mo_race : pm_Sl prog_10_method_33_code 4 R_Mo "race" (some .int) pm_Y (pm_b bp_Mo_race) 0 tb_Mo_race := by
  refine ⟨so_aloadn d_Mo_race_0 rfl rfl, ?_⟩
  refine ⟨so_geti (ci := 8) (k := 6) rfl (by decide) rfl rfl fl_Mo_119 d_Mo_race_1 rfl, ?_⟩
  refine ⟨so_if_eq d_Mo_race_4 rfl rfl, ?_⟩
  refine ⟨so_iloadn d_Mo_race_7 rfl rfl, ?_⟩
  refine ⟨so_if_lt d_Mo_race_8 rfl rfl, ?_⟩
  refine ⟨so_iloadn d_Mo_race_11 rfl rfl, ?_⟩
  refine ⟨so_aloadn d_Mo_race_12 rfl rfl, ?_⟩
  refine ⟨so_geti (ci := 8) (k := 22) rfl (by decide) rfl rfl fl_Mo_126 d_Mo_race_13 rfl, ?_⟩
  refine ⟨so_icmp_ge d_Mo_race_16 rfl rfl, ?_⟩
  refine ⟨so_iloadn d_Mo_race_19 rfl rfl, ?_⟩
  refine ⟨so_const2 d_Mo_race_20 (by decide) rfl, ?_⟩
  refine ⟨so_icmp_lt d_Mo_race_22 rfl rfl, ?_⟩
  refine ⟨so_const1 d_Mo_race_25 (by decide) rfl, ?_⟩
  refine ⟨so_iret d_Mo_race_26 rfl, ?_⟩
  refine ⟨so_aloadn d_Mo_race_27 rfl rfl, ?_⟩
  refine ⟨so_getr (ci := 8) (k := 23) rfl (by decide) rfl rfl fl_Mo_65 d_Mo_race_28 rfl, ?_⟩
  refine ⟨so_iloadn d_Mo_race_31 rfl rfl, ?_⟩
  refine ⟨so_iald d_Mo_race_32 rfl, ?_⟩
  refine ⟨so_istoren d_Mo_race_33 rfl (by decide) rfl, ?_⟩
  refine ⟨so_iloadn d_Mo_race_34 rfl rfl, ?_⟩
  refine ⟨so_tsw d_Mo_race_35 (by decide +kernel) (by decide +kernel) rfl, ?_⟩
  refine ⟨so_iloadn d_Mo_race_64 rfl rfl, ?_⟩
  refine ⟨so_iret d_Mo_race_65 rfl, ?_⟩
  refine ⟨so_aloadn d_Mo_race_66 rfl rfl, ?_⟩
  refine ⟨so_getr (ci := 8) (k := 20) rfl (by decide) rfl rfl fl_Mo_58 d_Mo_race_67 rfl, ?_⟩
  refine ⟨so_iloadn d_Mo_race_70 rfl rfl, ?_⟩
  refine ⟨so_iald d_Mo_race_71 rfl, ?_⟩
  refine ⟨so_const2 d_Mo_race_72 (by decide) rfl, ?_⟩
  refine ⟨so_idiv d_Mo_race_74 rfl, ?_⟩
  refine ⟨so_iret d_Mo_race_75 rfl, ?_⟩
  refine ⟨so_aloadn d_Mo_race_76 rfl rfl, ?_⟩
  refine ⟨so_getr (ci := 8) (k := 20) rfl (by decide) rfl rfl fl_Mo_58 d_Mo_race_77 rfl, ?_⟩
  refine ⟨so_iloadn d_Mo_race_80 rfl rfl, ?_⟩
  refine ⟨so_iald d_Mo_race_81 rfl, ?_⟩
  refine ⟨so_const1 d_Mo_race_82 (by decide) rfl, ?_⟩
  refine ⟨so_idiv d_Mo_race_83 rfl, ?_⟩
  refine ⟨so_const2 d_Mo_race_84 (by decide) rfl, ?_⟩
  refine ⟨so_irem d_Mo_race_86 rfl, ?_⟩
  refine ⟨so_iret d_Mo_race_87 rfl, ?_⟩
  refine ⟨so_aloadn d_Mo_race_88 rfl rfl, ?_⟩
  refine ⟨so_getr (ci := 8) (k := 20) rfl (by decide) rfl rfl fl_Mo_58 d_Mo_race_89 rfl, ?_⟩
  refine ⟨so_iloadn d_Mo_race_92 rfl rfl, ?_⟩
  refine ⟨so_iald d_Mo_race_93 rfl, ?_⟩
  refine ⟨so_const1 d_Mo_race_94 (by decide) rfl, ?_⟩
  refine ⟨so_irem d_Mo_race_95 rfl, ?_⟩
  refine ⟨so_iret d_Mo_race_96 rfl, ?_⟩
  refine ⟨so_const1 d_Mo_race_97 (by decide) rfl, ?_⟩
  refine ⟨so_iret d_Mo_race_98 rfl, ?_⟩
  exact trivial
theorem d_Mo_stuck_0 : decode prog_10_method_34_code 0 = .ok (.iconst 0, 1) := by decide +kernel
theorem d_Mo_stuck_1 : decode prog_10_method_34_code 1 = .ok (.istore_n 1, 1) := by decide +kernel
theorem d_Mo_stuck_2 : decode prog_10_method_34_code 2 = .ok (.iconst 0, 1) := by decide +kernel
theorem d_Mo_stuck_3 : decode prog_10_method_34_code 3 = .ok (.istore_n 2, 1) := by decide +kernel
theorem d_Mo_stuck_4 : decode prog_10_method_34_code 4 = .ok (.iload_n 2, 1) := by decide +kernel
theorem d_Mo_stuck_5 : decode prog_10_method_34_code 5 = .ok (.aload_n 0, 1) := by decide +kernel
theorem d_Mo_stuck_6 : decode prog_10_method_34_code 6 = .ok (.getfield 108, 3) := by decide +kernel
theorem d_Mo_stuck_9 : decode prog_10_method_34_code 9 = .ok (.if_icmp .ge 43, 3) := by decide +kernel
theorem d_Mo_stuck_12 : decode prog_10_method_34_code 12 = .ok (.aload_n 0, 1) := by decide +kernel
theorem d_Mo_stuck_13 : decode prog_10_method_34_code 13 = .ok (.getfield 119, 3) := by decide +kernel
theorem d_Mo_stuck_16 : decode prog_10_method_34_code 16 = .ok (.ifCond .eq 36, 3) := by decide +kernel
theorem d_Mo_stuck_19 : decode prog_10_method_34_code 19 = .ok (.aload_n 0, 1) := by decide +kernel
theorem d_Mo_stuck_20 : decode prog_10_method_34_code 20 = .ok (.iload_n 2, 1) := by decide +kernel
theorem d_Mo_stuck_21 : decode prog_10_method_34_code 21 = .ok (.invokevirtual 154, 3) := by decide +kernel
theorem d_Mo_stuck_24 : decode prog_10_method_34_code 24 = .ok (.ifCond .ne 5, 3) := by decide +kernel
theorem d_Mo_stuck_27 : decode prog_10_method_34_code 27 = .ok (.iconst 0, 1) := by decide +kernel
theorem d_Mo_stuck_28 : decode prog_10_method_34_code 28 = .ok (.ireturn, 1) := by decide +kernel
theorem d_Mo_stuck_29 : decode prog_10_method_34_code 29 = .ok (.iload_n 1, 1) := by decide +kernel
theorem d_Mo_stuck_30 : decode prog_10_method_34_code 30 = .ok (.aload_n 0, 1) := by decide +kernel
theorem d_Mo_stuck_31 : decode prog_10_method_34_code 31 = .ok (.iload_n 2, 1) := by decide +kernel
theorem d_Mo_stuck_32 : decode prog_10_method_34_code 32 = .ok (.invokevirtual 154, 3) := by decide +kernel
theorem d_Mo_stuck_35 : decode prog_10_method_34_code 35 = .ok (.iconst 2, 1) := by decide +kernel
theorem d_Mo_stuck_36 : decode prog_10_method_34_code 36 = .ok (.if_icmp .ne 7, 3) := by decide +kernel
theorem d_Mo_stuck_39 : decode prog_10_method_34_code 39 = .ok (.iconst 1, 1) := by decide +kernel
theorem d_Mo_stuck_40 : decode prog_10_method_34_code 40 = .ok (.goto 4, 3) := by decide +kernel
theorem d_Mo_stuck_43 : decode prog_10_method_34_code 43 = .ok (.iconst 0, 1) := by decide +kernel
theorem d_Mo_stuck_44 : decode prog_10_method_34_code 44 = .ok (.iadd, 1) := by decide +kernel
theorem d_Mo_stuck_45 : decode prog_10_method_34_code 45 = .ok (.istore_n 1, 1) := by decide +kernel
theorem d_Mo_stuck_46 : decode prog_10_method_34_code 46 = .ok (.iinc 2 1, 3) := by decide +kernel
theorem d_Mo_stuck_49 : decode prog_10_method_34_code 49 = .ok (.goto (-45), 3) := by decide +kernel
theorem d_Mo_stuck_52 : decode prog_10_method_34_code 52 = .ok (.aload_n 0, 1) := by decide +kernel
theorem d_Mo_stuck_53 : decode prog_10_method_34_code 53 = .ok (.getfield 119, 3) := by decide +kernel
theorem d_Mo_stuck_56 : decode prog_10_method_34_code 56 = .ok (.ifCond .eq 15, 3) := by decide +kernel
theorem d_Mo_stuck_59 : decode prog_10_method_34_code 59 = .ok (.iload_n 1, 1) := by decide +kernel
theorem d_Mo_stuck_60 : decode prog_10_method_34_code 60 = .ok (.aload_n 0, 1) := by decide +kernel
theorem d_Mo_stuck_61 : decode prog_10_method_34_code 61 = .ok (.getfield 108, 3) := by decide +kernel
theorem d_Mo_stuck_64 : decode prog_10_method_34_code 64 = .ok (.if_icmp .ge 7, 3) := by decide +kernel
theorem d_Mo_stuck_67 : decode prog_10_method_34_code 67 = .ok (.iconst 1, 1) := by decide +kernel
theorem d_Mo_stuck_68 : decode prog_10_method_34_code 68 = .ok (.goto 4, 3) := by decide +kernel
theorem d_Mo_stuck_71 : decode prog_10_method_34_code 71 = .ok (.iconst 0, 1) := by decide +kernel
theorem d_Mo_stuck_72 : decode prog_10_method_34_code 72 = .ok (.ireturn, 1) := by decide +kernel
def tb_Mo_stuck : List pm_I := [
  pm_const 1 0,
  pm_istore 2 1,
  pm_const 3 0,
  pm_istore 4 2,
  pm_iload 5 2,
  pm_aload 6 0,
  pm_geti 7 8 11,
  pm_icmp 30 8 (fun a b => decide (b ≤ a)),
  pm_aload 9 0,
  pm_geti 10 8 6,
  pm_if 30 11 (fun a => decide (a = 0)),
  pm_aload 12 0,
  pm_iload 13 2,
  pm_callv 14 99 2 8,
  pm_if 17 15 (fun a => decide (a ≠ 0)),
  pm_const 16 0,
  pm_zret,
  pm_iload 18 1,
  pm_aload 19 0,
  pm_iload 20 2,
  pm_callv 21 99 2 8,
  pm_const 22 2,
  pm_icmp 25 23 (fun a b => decide (a ≠ b)),
  pm_const 24 1,
  pm_goto 26,
  pm_const 26 0,
  pm_bin 27 (fun a b => a + b),
  pm_istore 28 1,
  pm_iinc 29 2 1,
  pm_goto 4,
  pm_aload 31 0,
  pm_geti 32 8 6,
  pm_if 39 33 (fun a => decide (a = 0)),
  pm_iload 34 1,
  pm_aload 35 0,
  pm_geti 36 8 11,
  pm_icmp 39 37 (fun a b => decide (b ≤ a)),
  pm_const 38 1,
  pm_goto 40,
  pm_const 40 0,
  pm_zret]
def bp_Mo_stuck : List Nat := [0, 1, 2, 3, 4, 5, 6, 9, 12, 13, 16, 19, 20, 21, 24, 27, 28, 29, 30, 31, 32, 35, 36, 39, 40, 43, 44, 45, 46, 49, 52, 53, 56, 59, 60, 61, 64, 67, 68, 71, 72]
set_option maxRecDepth 100000 in
theorem sd_Mo_stuck : pm_Sl prog_10_method_34_code 3 R_Mo "stuck" (some .boolean) pm_Y (pm_b bp_Mo_stuck) 0 tb_Mo_stuck := by
  refine ⟨so_const1 d_Mo_stuck_0 (by decide) rfl, ?_⟩
  refine ⟨so_istoren d_Mo_stuck_1 rfl (by decide) rfl, ?_⟩
  refine ⟨so_const1 d_Mo_stuck_2 (by decide) rfl, ?_⟩
  refine ⟨so_istoren d_Mo_stuck_3 rfl (by decide) rfl, ?_⟩
  refine ⟨so_iloadn d_Mo_stuck_4 rfl rfl, ?_⟩
  refine ⟨so_aloadn d_Mo_stuck_5 rfl rfl, ?_⟩
  refine ⟨so_geti (ci := 8) (k := 11) rfl (by decide) rfl rfl fl_Mo_108 d_Mo_stuck_6 rfl, ?_⟩
  refine ⟨so_icmp_ge d_Mo_stuck_9 rfl rfl, ?_⟩
  refine ⟨so_aloadn d_Mo_stuck_12 rfl rfl, ?_⟩
  refine ⟨so_geti (ci := 8) (k := 6) rfl (by decide) rfl rfl fl_Mo_119 d_Mo_stuck_13 rfl, ?_⟩
  refine ⟨so_if_eq d_Mo_stuck_16 rfl rfl, ?_⟩
  refine ⟨so_aloadn d_Mo_stuck_19 rfl rfl, ?_⟩
  refine ⟨so_iloadn d_Mo_stuck_20 rfl rfl, ?_⟩
  refine ⟨so_callv (ci := 8) rfl rfl mc_Mo_state mi_Mo mj_Mo_state ms_Mo_state ml_Mo_154 yd_Mo_state (by decide) d_Mo_stuck_21 rfl, ?_⟩
  refine ⟨so_if_ne d_Mo_stuck_24 rfl rfl, ?_⟩
  refine ⟨so_const1 d_Mo_stuck_27 (by decide) rfl, ?_⟩
  refine ⟨so_zret d_Mo_stuck_28 rfl, ?_⟩
  refine ⟨so_iloadn d_Mo_stuck_29 rfl rfl, ?_⟩
  refine ⟨so_aloadn d_Mo_stuck_30 rfl rfl, ?_⟩
  refine ⟨so_iloadn d_Mo_stuck_31 rfl rfl, ?_⟩
  refine ⟨so_callv (ci := 8) rfl rfl mc_Mo_state mi_Mo mj_Mo_state ms_Mo_state ml_Mo_154 yd_Mo_state (by decide) d_Mo_stuck_32 rfl, ?_⟩
  refine ⟨so_const1 d_Mo_stuck_35 (by decide) rfl, ?_⟩
  refine ⟨so_icmp_ne d_Mo_stuck_36 rfl rfl, ?_⟩
  refine ⟨so_const1 d_Mo_stuck_39 (by decide) rfl, ?_⟩
  refine ⟨so_goto d_Mo_stuck_40 rfl, ?_⟩
  refine ⟨so_const1 d_Mo_stuck_43 (by decide) rfl, ?_⟩
  refine ⟨so_iadd d_Mo_stuck_44 rfl, ?_⟩
  refine ⟨so_istoren d_Mo_stuck_45 rfl (by decide) rfl, ?_⟩
  refine ⟨so_iinc d_Mo_stuck_46 (by decide) (by decide) rfl, ?_⟩
  refine ⟨so_goto d_Mo_stuck_49 rfl, ?_⟩
  refine ⟨so_aloadn d_Mo_stuck_52 rfl rfl, ?_⟩
  refine ⟨so_geti (ci := 8) (k := 6) rfl (by decide) rfl rfl fl_Mo_119 d_Mo_stuck_53 rfl, ?_⟩
  refine ⟨so_if_eq d_Mo_stuck_56 rfl rfl, ?_⟩
  refine ⟨so_iloadn d_Mo_stuck_59 rfl rfl, ?_⟩
  refine ⟨so_aloadn d_Mo_stuck_60 rfl rfl, ?_⟩
  refine ⟨so_geti (ci := 8) (k := 11) rfl (by decide) rfl rfl fl_Mo_108 d_Mo_stuck_61 rfl, ?_⟩
  refine ⟨so_icmp_ge d_Mo_stuck_64 rfl rfl, ?_⟩
  refine ⟨so_const1 d_Mo_stuck_67 (by decide) rfl, ?_⟩
  refine ⟨so_goto d_Mo_stuck_68 rfl, ?_⟩
  refine ⟨so_const1 d_Mo_stuck_71 (by decide) rfl, ?_⟩
  refine ⟨so_zret d_Mo_stuck_72 rfl, ?_⟩
  exact trivial
