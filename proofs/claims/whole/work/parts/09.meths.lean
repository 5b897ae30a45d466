theorem fl_Lo_10 : pm_fl R_Lo 10 R_Lo (T_Lo 0).2.1 (T_Lo 0).2.2.1 := Or.inl (pm_in1 (List.mem_append_left _ (List.mem_of_getElem? (i := 194) rfl)))
theorem fl_Lo_21 : pm_fl R_Lo 21 R_Lo (T_Lo 1).2.1 (T_Lo 1).2.2.1 := Or.inl (pm_in1 (List.mem_append_left _ (List.mem_of_getElem? (i := 195) rfl)))
theorem fl_Sh_11 : pm_fl R_Sh 11 R_Sh (T_Sh 0).2.1 (T_Sh 0).2.2.1 := Or.inl (pm_in1 (List.mem_append_left _ (List.mem_of_getElem? (i := 66) rfl)))
theorem fl_Sh_17 : pm_fl R_Sh 17 R_Sh (T_Sh 1).2.1 (T_Sh 1).2.2.1 := Or.inl (pm_in1 (List.mem_append_left _ (List.mem_of_getElem? (i := 68) rfl)))
theorem fl_Sh_22 : pm_fl R_Sh 22 R_Sh (T_Sh 2).2.1 (T_Sh 2).2.2.1 := Or.inl (pm_in1 (List.mem_append_left _ (List.mem_of_getElem? (i := 69) rfl)))
theorem fl_Sh_32 : pm_fl R_Sh 32 R_Sh (T_Sh 3).2.1 (T_Sh 3).2.2.1 := Or.inl (pm_in1 (List.mem_append_left _ (List.mem_of_getElem? (i := 70) rfl)))
theorem fl_Sh_54 : pm_fl R_Sh 54 R_Bo (T_Bo 4).2.1 (T_Bo 4).2.2.1 := Or.inr ⟨_, pm_in1 (List.mem_append_left _ (List.mem_of_getElem? (i := 46) rfl))⟩
theorem fl_Sh_65 : pm_fl R_Sh 65 R_Bo (T_Bo 1).2.1 (T_Bo 1).2.2.1 := Or.inr ⟨_, pm_in1 (List.mem_append_left _ (List.mem_of_getElem? (i := 39) rfl))⟩
theorem fl_Sh_68 : pm_fl R_Sh 68 R_Bo (T_Bo 3).2.1 (T_Bo 3).2.2.1 := Or.inr ⟨_, pm_in1 (List.mem_append_left _ (List.mem_of_getElem? (i := 43) rfl))⟩
theorem fl_Sh_71 : pm_fl R_Sh 71 R_Bo (T_Bo 0).2.1 (T_Bo 0).2.2.1 := Or.inr ⟨_, pm_in1 (List.mem_append_left _ (List.mem_of_getElem? (i := 36) rfl))⟩
theorem fl_Sh_80 : pm_fl R_Sh 80 R_Bo (T_Bo 5).2.1 (T_Bo 5).2.2.1 := Or.inr ⟨_, pm_in1 (List.mem_append_left _ (List.mem_of_getElem? (i := 48) rfl))⟩
theorem fl_Bo_9 : pm_fl R_Bo 9 R_Bo (T_Bo 0).2.1 (T_Bo 0).2.2.1 := Or.inl (pm_in1 (List.mem_append_left _ (List.mem_of_getElem? (i := 34) rfl)))
theorem fl_Bo_15 : pm_fl R_Bo 15 R_Bo (T_Bo 1).2.1 (T_Bo 1).2.2.1 := Or.inl (pm_in1 (List.mem_append_left _ (List.mem_of_getElem? (i := 37) rfl)))
theorem fl_Bo_18 : pm_fl R_Bo 18 R_Bo (T_Bo 2).2.1 (T_Bo 2).2.2.1 := Or.inl (pm_in1 (List.mem_append_left _ (List.mem_of_getElem? (i := 40) rfl)))
theorem fl_Bo_21 : pm_fl R_Bo 21 R_Bo (T_Bo 3).2.1 (T_Bo 3).2.2.1 := Or.inl (pm_in1 (List.mem_append_left _ (List.mem_of_getElem? (i := 42) rfl)))
theorem fl_Bo_24 : pm_fl R_Bo 24 R_Bo (T_Bo 4).2.1 (T_Bo 4).2.2.1 := Or.inl (pm_in1 (List.mem_append_left _ (List.mem_of_getElem? (i := 44) rfl)))
theorem fl_Bo_28 : pm_fl R_Bo 28 R_Bo (T_Bo 5).2.1 (T_Bo 5).2.2.1 := Or.inl (pm_in1 (List.mem_append_left _ (List.mem_of_getElem? (i := 47) rfl)))
theorem fl_Ru_11 : pm_fl R_Ru 11 R_Ru (T_Ru 1).2.1 (T_Ru 1).2.2.1 := Or.inl (pm_in1 (List.mem_append_left _ (List.mem_of_getElem? (i := 173) rfl)))
theorem fl_Ru_19 : pm_fl R_Ru 19 R_Ru (T_Ru 2).2.1 (T_Ru 2).2.2.1 := Or.inl (pm_in1 (List.mem_append_left _ (List.mem_of_getElem? (i := 174) rfl)))
theorem fl_Ru_25 : pm_fl R_Ru 25 R_Ru (T_Ru 3).2.1 (T_Ru 3).2.2.1 := Or.inl (pm_in1 (List.mem_append_left _ (List.mem_of_getElem? (i := 175) rfl)))
theorem fl_Ru_32 : pm_fl R_Ru 32 R_Ru (T_Ru 4).2.1 (T_Ru 4).2.2.1 := Or.inl (pm_in1 (List.mem_append_left _ (List.mem_of_getElem? (i := 176) rfl)))
theorem fl_Ru_36 : pm_fl R_Ru 36 R_Ru (T_Ru 0).2.1 (T_Ru 0).2.2.1 := Or.inl (pm_in1 (List.mem_append_left _ (List.mem_of_getElem? (i := 172) rfl)))
theorem fl_Ru_50 : pm_fl R_Ru 50 R_Ru (T_Ru 6).2.1 (T_Ru 6).2.2.1 := Or.inl (pm_in1 (List.mem_append_left _ (List.mem_of_getElem? (i := 178) rfl)))
theorem fl_Ru_54 : pm_fl R_Ru 54 R_Ru (T_Ru 5).2.1 (T_Ru 5).2.2.1 := Or.inl (pm_in1 (List.mem_append_left _ (List.mem_of_getElem? (i := 177) rfl)))
theorem fl_Ru_57 : pm_fl R_Ru 57 R_Sd (T_Sd 3).2.1 (T_Sd 3).2.2.1 := Or.inr ⟨_, pm_in1 (List.mem_append_left _ (List.mem_of_getElem? (i := 119) rfl))⟩
theorem fl_Ru_98 : pm_fl R_Ru 98 R_Sd (T_Sd 4).2.1 (T_Sd 4).2.2.1 := Or.inr ⟨_, pm_in1 (List.mem_append_left _ (List.mem_of_getElem? (i := 122) rfl))⟩
theorem fl_Ru_112 : pm_fl R_Ru 112 R_Bo (T_Bo 4).2.1 (T_Bo 4).2.2.1 := Or.inr ⟨_, pm_in1 (List.mem_append_left _ (List.mem_of_getElem? (i := 45) rfl))⟩
theorem fl_Ru_101 : pm_fl R_Ru 101 R_Sd (T_Sd 2).2.1 (T_Sd 2).2.2.1 := Or.inr ⟨_, pm_in1 (List.mem_append_left _ (List.mem_of_getElem? (i := 117) rfl))⟩
theorem fl_Ru_90 : pm_fl R_Ru 90 R_Sh (T_Sh 0).2.1 (T_Sh 0).2.2.1 := Or.inr ⟨_, pm_in1 (List.mem_append_left _ (List.mem_of_getElem? (i := 67) rfl))⟩
theorem fl_Ru_96 : pm_fl R_Ru 96 R_Sd (T_Sd 1).2.1 (T_Sd 1).2.2.1 := Or.inr ⟨_, pm_in1 (List.mem_append_left _ (List.mem_of_getElem? (i := 115) rfl))⟩
theorem fl_Ru_117 : pm_fl R_Ru 117 R_Bo (T_Bo 0).2.1 (T_Bo 0).2.2.1 := Or.inr ⟨_, pm_in1 (List.mem_append_left _ (List.mem_of_getElem? (i := 35) rfl))⟩
theorem fl_Ru_120 : pm_fl R_Ru 120 R_Bo (T_Bo 1).2.1 (T_Bo 1).2.2.1 := Or.inr ⟨_, pm_in1 (List.mem_append_left _ (List.mem_of_getElem? (i := 38) rfl))⟩
theorem fl_Ru_136 : pm_fl R_Ru 136 R_Sd (T_Sd 5).2.1 (T_Sd 5).2.2.1 := Or.inr ⟨_, pm_in1 (List.mem_append_left _ (List.mem_of_getElem? (i := 124) rfl))⟩
theorem fl_Ru_142 : pm_fl R_Ru 142 R_Bo (T_Bo 2).2.1 (T_Bo 2).2.2.1 := Or.inr ⟨_, pm_in1 (List.mem_append_left _ (List.mem_of_getElem? (i := 41) rfl))⟩
theorem fl_Ru_163 : pm_fl R_Ru 163 R_Ce (T_Ce 0).2.1 (T_Ce 0).2.2.1 := Or.inr ⟨_, pm_in1 (List.mem_append_left _ (List.mem_of_getElem? (i := 160) rfl))⟩
theorem fl_Ru_166 : pm_fl R_Ru 166 R_Sd (T_Sd 0).2.1 (T_Sd 0).2.2.1 := Or.inr ⟨_, pm_in1 (List.mem_append_left _ (List.mem_of_getElem? (i := 113) rfl))⟩
theorem fl_Ru_169 : pm_fl R_Ru 169 R_Ce (T_Ce 2).2.1 (T_Ce 2).2.2.1 := Or.inr ⟨_, pm_in1 (List.mem_append_left _ (List.mem_of_getElem? (i := 164) rfl))⟩
theorem fl_Ru_170 : pm_fl R_Ru 170 R_Ce (T_Ce 1).2.1 (T_Ce 1).2.2.1 := Or.inr ⟨_, pm_in1 (List.mem_append_left _ (List.mem_of_getElem? (i := 162) rfl))⟩
theorem fl_Ru_190 : pm_fl R_Ru 190 R_Lk (T_Lk 1).2.1 (T_Lk 1).2.2.1 := Or.inr ⟨_, pm_in1 (List.mem_append_left _ (List.mem_of_getElem? (i := 145) rfl))⟩
theorem fl_Ru_193 : pm_fl R_Ru 193 R_Rl (T_Rl 1).2.1 (T_Rl 1).2.2.1 := Or.inr ⟨_, pm_in1 (List.mem_append_left _ (List.mem_of_getElem? (i := 100) rfl))⟩
theorem fl_Rl_9 : pm_fl R_Rl 9 R_Rl (T_Rl 0).2.1 (T_Rl 0).2.2.1 := Or.inl (pm_in1 (List.mem_append_left _ (List.mem_of_getElem? (i := 98) rfl)))
theorem fl_Rl_15 : pm_fl R_Rl 15 R_Rl (T_Rl 1).2.1 (T_Rl 1).2.2.1 := Or.inl (pm_in1 (List.mem_append_left _ (List.mem_of_getElem? (i := 99) rfl)))
theorem fl_Sd_9 : pm_fl R_Sd 9 R_Sd (T_Sd 1).2.1 (T_Sd 1).2.2.1 := Or.inl (pm_in1 (List.mem_append_left _ (List.mem_of_getElem? (i := 114) rfl)))
theorem fl_Sd_15 : pm_fl R_Sd 15 R_Sd (T_Sd 2).2.1 (T_Sd 2).2.2.1 := Or.inl (pm_in1 (List.mem_append_left _ (List.mem_of_getElem? (i := 116) rfl)))
theorem fl_Sd_18 : pm_fl R_Sd 18 R_Sd (T_Sd 3).2.1 (T_Sd 3).2.2.1 := Or.inl (pm_in1 (List.mem_append_left _ (List.mem_of_getElem? (i := 118) rfl)))
theorem fl_Sd_21 : pm_fl R_Sd 21 R_Sd (T_Sd 0).2.1 (T_Sd 0).2.2.1 := Or.inl (pm_in1 (List.mem_append_left _ (List.mem_of_getElem? (i := 111) rfl)))
theorem fl_Sd_25 : pm_fl R_Sd 25 R_Sd (T_Sd 5).2.1 (T_Sd 5).2.2.1 := Or.inl (pm_in1 (List.mem_append_left _ (List.mem_of_getElem? (i := 123) rfl)))
theorem fl_Sd_28 : pm_fl R_Sd 28 R_Sd (T_Sd 4).2.1 (T_Sd 4).2.2.1 := Or.inl (pm_in1 (List.mem_append_left _ (List.mem_of_getElem? (i := 121) rfl)))
theorem fl_Lk_9 : pm_fl R_Lk 9 R_Lk (T_Lk 0).2.1 (T_Lk 0).2.2.1 := Or.inl (pm_in1 (List.mem_append_left _ (List.mem_of_getElem? (i := 143) rfl)))
theorem fl_Lk_15 : pm_fl R_Lk 15 R_Lk (T_Lk 1).2.1 (T_Lk 1).2.2.1 := Or.inl (pm_in1 (List.mem_append_left _ (List.mem_of_getElem? (i := 144) rfl)))
theorem fl_Lk_25 : pm_fl R_Lk 25 R_Lk (T_Lk 2).2.1 (T_Lk 2).2.2.1 := Or.inl (pm_in1 (List.mem_append_left _ (List.mem_of_getElem? (i := 146) rfl)))
theorem fl_Lk_28 : pm_fl R_Lk 28 R_Sd (T_Sd 0).2.1 (T_Sd 0).2.2.1 := Or.inr ⟨_, pm_in1 (List.mem_append_left _ (List.mem_of_getElem? (i := 112) rfl))⟩
theorem fl_Lk_37 : pm_fl R_Lk 37 R_Sd (T_Sd 3).2.1 (T_Sd 3).2.2.1 := Or.inr ⟨_, pm_in1 (List.mem_append_left _ (List.mem_of_getElem? (i := 120) rfl))⟩
theorem fl_Ce_9 : pm_fl R_Ce 9 R_Ce (T_Ce 0).2.1 (T_Ce 0).2.2.1 := Or.inl (pm_in1 (List.mem_append_left _ (List.mem_of_getElem? (i := 159) rfl)))
theorem fl_Ce_15 : pm_fl R_Ce 15 R_Ce (T_Ce 1).2.1 (T_Ce 1).2.2.1 := Or.inl (pm_in1 (List.mem_append_left _ (List.mem_of_getElem? (i := 161) rfl)))
theorem fl_Ce_24 : pm_fl R_Ce 24 R_Ce (T_Ce 2).2.1 (T_Ce 2).2.2.1 := Or.inl (pm_in1 (List.mem_append_left _ (List.mem_of_getElem? (i := 163) rfl)))
theorem fl_Mo_7 : pm_fl R_Mo 7 R_Mo (T_Mo 0).2.1 (T_Mo 0).2.2.1 := Or.inl (pm_in1 (List.mem_append_right _ (List.mem_append_left _ (List.mem_of_getElem? (i := 228) rfl))))
theorem fl_Mo_13 : pm_fl R_Mo 13 R_Mo (T_Mo 1).2.1 (T_Mo 1).2.2.1 := Or.inl (pm_in1 (List.mem_append_right _ (List.mem_append_left _ (List.mem_of_getElem? (i := 229) rfl))))
theorem fl_Mo_16 : pm_fl R_Mo 16 R_Mo (T_Mo 2).2.1 (T_Mo 2).2.2.1 := Or.inl (pm_in1 (List.mem_append_right _ (List.mem_append_left _ (List.mem_of_getElem? (i := 230) rfl))))
theorem fl_Mo_19 : pm_fl R_Mo 19 R_Mo (T_Mo 3).2.1 (T_Mo 3).2.2.1 := Or.inl (pm_in1 (List.mem_append_right _ (List.mem_append_left _ (List.mem_of_getElem? (i := 231) rfl))))
theorem fl_Mo_22 : pm_fl R_Mo 22 R_Mo (T_Mo 5).2.1 (T_Mo 5).2.2.1 := Or.inl (pm_in1 (List.mem_append_right _ (List.mem_append_left _ (List.mem_of_getElem? (i := 233) rfl))))
theorem fl_Mo_25 : pm_fl R_Mo 25 R_Mo (T_Mo 7).2.1 (T_Mo 7).2.2.1 := Or.inl (pm_in1 (List.mem_append_right _ (List.mem_append_left _ (List.mem_of_getElem? (i := 235) rfl))))
theorem fl_Mo_28 : pm_fl R_Mo 28 R_Mo (T_Mo 8).2.1 (T_Mo 8).2.2.1 := Or.inl (pm_in1 (List.mem_append_right _ (List.mem_append_left _ (List.mem_of_getElem? (i := 236) rfl))))
theorem fl_Mo_31 : pm_fl R_Mo 31 R_Mo (T_Mo 9).2.1 (T_Mo 9).2.2.1 := Or.inl (pm_in1 (List.mem_append_right _ (List.mem_append_left _ (List.mem_of_getElem? (i := 237) rfl))))
theorem fl_Mo_34 : pm_fl R_Mo 34 R_Mo (T_Mo 10).2.1 (T_Mo 10).2.2.1 := Or.inl (pm_in1 (List.mem_append_right _ (List.mem_append_left _ (List.mem_of_getElem? (i := 238) rfl))))
theorem fl_Mo_37 : pm_fl R_Mo 37 R_Mo (T_Mo 12).2.1 (T_Mo 12).2.2.1 := Or.inl (pm_in1 (List.mem_append_right _ (List.mem_append_right _ (List.mem_of_getElem? (i := 0) rfl))))
theorem fl_Mo_40 : pm_fl R_Mo 40 R_Mo (T_Mo 13).2.1 (T_Mo 13).2.2.1 := Or.inl (pm_in1 (List.mem_append_right _ (List.mem_append_right _ (List.mem_of_getElem? (i := 1) rfl))))
theorem fl_Mo_43 : pm_fl R_Mo 43 R_Mo (T_Mo 14).2.1 (T_Mo 14).2.2.1 := Or.inl (pm_in1 (List.mem_append_right _ (List.mem_append_right _ (List.mem_of_getElem? (i := 2) rfl))))
theorem fl_Mo_46 : pm_fl R_Mo 46 R_Mo (T_Mo 15).2.1 (T_Mo 15).2.2.1 := Or.inl (pm_in1 (List.mem_append_right _ (List.mem_append_right _ (List.mem_of_getElem? (i := 3) rfl))))
theorem fl_Mo_49 : pm_fl R_Mo 49 R_Mo (T_Mo 16).2.1 (T_Mo 16).2.2.1 := Or.inl (pm_in1 (List.mem_append_right _ (List.mem_append_right _ (List.mem_of_getElem? (i := 4) rfl))))
theorem fl_Mo_52 : pm_fl R_Mo 52 R_Mo (T_Mo 18).2.1 (T_Mo 18).2.2.1 := Or.inl (pm_in1 (List.mem_append_right _ (List.mem_append_right _ (List.mem_of_getElem? (i := 6) rfl))))
theorem fl_Mo_55 : pm_fl R_Mo 55 R_Mo (T_Mo 19).2.1 (T_Mo 19).2.2.1 := Or.inl (pm_in1 (List.mem_append_right _ (List.mem_append_right _ (List.mem_of_getElem? (i := 7) rfl))))
theorem fl_Mo_58 : pm_fl R_Mo 58 R_Mo (T_Mo 20).2.1 (T_Mo 20).2.2.1 := Or.inl (pm_in1 (List.mem_append_right _ (List.mem_append_right _ (List.mem_of_getElem? (i := 8) rfl))))
theorem fl_Mo_61 : pm_fl R_Mo 61 R_Mo (T_Mo 21).2.1 (T_Mo 21).2.2.1 := Or.inl (pm_in1 (List.mem_append_right _ (List.mem_append_right _ (List.mem_of_getElem? (i := 9) rfl))))
theorem fl_Mo_65 : pm_fl R_Mo 65 R_Mo (T_Mo 23).2.1 (T_Mo 23).2.2.1 := Or.inl (pm_in1 (List.mem_append_right _ (List.mem_append_right _ (List.mem_of_getElem? (i := 11) rfl))))
theorem fl_Mo_87 : pm_fl R_Mo 87 R_Mo (T_Mo 4).2.1 (T_Mo 4).2.2.1 := Or.inl (pm_in1 (List.mem_append_right _ (List.mem_append_left _ (List.mem_of_getElem? (i := 232) rfl))))
theorem fl_Mo_119 : pm_fl R_Mo 119 R_Mo (T_Mo 6).2.1 (T_Mo 6).2.2.1 := Or.inl (pm_in1 (List.mem_append_right _ (List.mem_append_left _ (List.mem_of_getElem? (i := 234) rfl))))
theorem fl_Mo_108 : pm_fl R_Mo 108 R_Mo (T_Mo 11).2.1 (T_Mo 11).2.2.1 := Or.inl (pm_in1 (List.mem_append_right _ (List.mem_append_left _ (List.mem_of_getElem? (i := 239) rfl))))
theorem fl_Mo_123 : pm_fl R_Mo 123 R_Mo (T_Mo 17).2.1 (T_Mo 17).2.2.1 := Or.inl (pm_in1 (List.mem_append_right _ (List.mem_append_right _ (List.mem_of_getElem? (i := 5) rfl))))
theorem fl_Mo_126 : pm_fl R_Mo 126 R_Mo (T_Mo 22).2.1 (T_Mo 22).2.2.1 := Or.inl (pm_in1 (List.mem_append_right _ (List.mem_append_right _ (List.mem_of_getElem? (i := 10) rfl))))
abbrev y_Lo_init : MethodName := ⟨R_Lo, "<init>", "()V"⟩
theorem mc_Lo_init : Cond.code y_Lo_init prog_1_method_1_code 1 (none) ∈ lw_tbl := pm_in1 (List.mem_append_left _ (List.mem_of_getElem? (i := 17) rfl))
theorem yd_Lo_init : pm_yd y_Lo_init 0 := ⟨by decide +kernel, by decide +kernel, by decide +kernel⟩
theorem mj_Lo_init : Cond.instanceMethod y_Lo_init ∈ lw_tbl := pm_in1 (List.mem_append_left _ (List.mem_of_getElem? (i := 16) rfl))
abbrev y_Lo_statement : MethodName := ⟨R_Lo, "statement", "(II)I"⟩
theorem mc_Lo_statement : Cond.code y_Lo_statement prog_1_method_2_code 3 (some .int) ∈ lw_tbl := pm_in1 (List.mem_append_left _ (List.mem_of_getElem? (i := 204) rfl))
theorem yd_Lo_statement : pm_yd y_Lo_statement 2 := ⟨by decide +kernel, by decide +kernel, by decide +kernel⟩
theorem mj_Lo_statement : Cond.instanceMethod y_Lo_statement ∈ lw_tbl := pm_in1 (List.mem_append_left _ (List.mem_of_getElem? (i := 202) rfl))
theorem ms_Lo_statement : Cond.selects R_Lo y_Lo_statement y_Lo_statement ∈ lw_tbl := pm_in1 (List.mem_append_left _ (List.mem_of_getElem? (i := 203) rfl))
abbrev y_Lo_isBelow : MethodName := ⟨R_Lo, "isBelow", "(II)Z"⟩
theorem mc_Lo_isBelow : Cond.code y_Lo_isBelow prog_1_method_16_code 2 (some .boolean) ∈ lw_tbl := pm_in1 (List.mem_append_left _ (List.mem_of_getElem? (i := 214) rfl))
theorem yd_Lo_isBelow : pm_yd y_Lo_isBelow 2 := ⟨by decide +kernel, by decide +kernel, by decide +kernel⟩
theorem mt_Lo_isBelow : Cond.static y_Lo_isBelow ∈ lw_tbl := pm_in1 (List.mem_append_left _ (List.mem_of_getElem? (i := 213) rfl))
abbrev y_Lo_body : MethodName := ⟨R_Lo, "body", "(I)I"⟩
theorem mc_Lo_body : Cond.code y_Lo_body prog_1_method_3_code 2 (some .int) ∈ lw_tbl := pm_in1 (List.mem_append_left _ (List.mem_of_getElem? (i := 222) rfl))
theorem yd_Lo_body : pm_yd y_Lo_body 1 := ⟨by decide +kernel, by decide +kernel, by decide +kernel⟩
theorem mj_Lo_body : Cond.instanceMethod y_Lo_body ∈ lw_tbl := pm_in1 (List.mem_append_left _ (List.mem_of_getElem? (i := 220) rfl))
theorem ms_Lo_body : Cond.selects R_Lo y_Lo_body y_Lo_body ∈ lw_tbl := pm_in1 (List.mem_append_left _ (List.mem_of_getElem? (i := 221) rfl))
abbrev y_Lo_guard : MethodName := ⟨R_Lo, "guard", "(II)Z"⟩
theorem mc_Lo_guard : Cond.code y_Lo_guard prog_1_method_4_code 3 (some .boolean) ∈ lw_tbl := pm_in1 (List.mem_append_right _ (List.mem_append_left _ (List.mem_of_getElem? (i := 2) rfl)))
theorem yd_Lo_guard : pm_yd y_Lo_guard 2 := ⟨by decide +kernel, by decide +kernel, by decide +kernel⟩
theorem mj_Lo_guard : Cond.instanceMethod y_Lo_guard ∈ lw_tbl := pm_in1 (List.mem_append_right _ (List.mem_append_left _ (List.mem_of_getElem? (i := 0) rfl)))
theorem ms_Lo_guard : Cond.selects R_Lo y_Lo_guard y_Lo_guard ∈ lw_tbl := pm_in1 (List.mem_append_right _ (List.mem_append_left _ (List.mem_of_getElem? (i := 1) rfl)))
abbrev y_Lo_check : MethodName := ⟨R_Lo, "check", "(I)I"⟩
theorem mc_Lo_check : Cond.code y_Lo_check prog_1_method_5_code 2 (some .int) ∈ lw_tbl := pm_in1 (List.mem_append_right _ (List.mem_append_left _ (List.mem_of_getElem? (i := 10) rfl)))
theorem yd_Lo_check : pm_yd y_Lo_check 1 := ⟨by decide +kernel, by decide +kernel, by decide +kernel⟩
theorem mj_Lo_check : Cond.instanceMethod y_Lo_check ∈ lw_tbl := pm_in1 (List.mem_append_right _ (List.mem_append_left _ (List.mem_of_getElem? (i := 8) rfl)))
theorem ms_Lo_check : Cond.selects R_Lo y_Lo_check y_Lo_check ∈ lw_tbl := pm_in1 (List.mem_append_right _ (List.mem_append_left _ (List.mem_of_getElem? (i := 9) rfl)))
abbrev y_Lo_sound : MethodName := ⟨R_Lo, "sound", "()Z"⟩
theorem mc_Lo_sound : Cond.code y_Lo_sound prog_1_method_6_code 1 (some .boolean) ∈ lw_tbl := pm_in1 (List.mem_append_right _ (List.mem_append_left _ (List.mem_of_getElem? (i := 31) rfl)))
theorem yd_Lo_sound : pm_yd y_Lo_sound 0 := ⟨by decide +kernel, by decide +kernel, by decide +kernel⟩
theorem mj_Lo_sound : Cond.instanceMethod y_Lo_sound ∈ lw_tbl := pm_in1 (List.mem_append_right _ (List.mem_append_left _ (List.mem_of_getElem? (i := 29) rfl)))
theorem ms_Lo_sound : Cond.selects R_Lo y_Lo_sound y_Lo_sound ∈ lw_tbl := pm_in1 (List.mem_append_right _ (List.mem_append_left _ (List.mem_of_getElem? (i := 30) rfl)))
abbrev y_Lo_start : MethodName := ⟨R_Lo, "start", "(II)Z"⟩
theorem mc_Lo_start : Cond.code y_Lo_start prog_1_method_7_code 3 (some .boolean) ∈ lw_tbl := pm_in1 (List.mem_append_right _ (List.mem_append_left _ (List.mem_of_getElem? (i := 40) rfl)))
theorem yd_Lo_start : pm_yd y_Lo_start 2 := ⟨by decide +kernel, by decide +kernel, by decide +kernel⟩
theorem mj_Lo_start : Cond.instanceMethod y_Lo_start ∈ lw_tbl := pm_in1 (List.mem_append_right _ (List.mem_append_left _ (List.mem_of_getElem? (i := 38) rfl)))
theorem ms_Lo_start : Cond.selects R_Lo y_Lo_start y_Lo_start ∈ lw_tbl := pm_in1 (List.mem_append_right _ (List.mem_append_left _ (List.mem_of_getElem? (i := 39) rfl)))
abbrev y_Lo_step : MethodName := ⟨R_Lo, "step", "(I)I"⟩
theorem mc_Lo_step : Cond.code y_Lo_step prog_1_method_8_code 2 (some .int) ∈ lw_tbl := pm_in1 (List.mem_append_right _ (List.mem_append_left _ (List.mem_of_getElem? (i := 82) rfl)))
theorem yd_Lo_step : pm_yd y_Lo_step 1 := ⟨by decide +kernel, by decide +kernel, by decide +kernel⟩
theorem mj_Lo_step : Cond.instanceMethod y_Lo_step ∈ lw_tbl := pm_in1 (List.mem_append_right _ (List.mem_append_left _ (List.mem_of_getElem? (i := 80) rfl)))
theorem ms_Lo_step : Cond.selects R_Lo y_Lo_step y_Lo_step ∈ lw_tbl := pm_in1 (List.mem_append_right _ (List.mem_append_left _ (List.mem_of_getElem? (i := 81) rfl)))
abbrev y_Lo_has : MethodName := ⟨R_Lo, "has", "(I)I"⟩
theorem mc_Lo_has : Cond.code y_Lo_has prog_1_method_9_code 2 (some .int) ∈ lw_tbl := pm_in1 (List.mem_append_right _ (List.mem_append_left _ (List.mem_of_getElem? (i := 160) rfl)))
theorem yd_Lo_has : pm_yd y_Lo_has 1 := ⟨by decide +kernel, by decide +kernel, by decide +kernel⟩
theorem mj_Lo_has : Cond.instanceMethod y_Lo_has ∈ lw_tbl := pm_in1 (List.mem_append_right _ (List.mem_append_left _ (List.mem_of_getElem? (i := 158) rfl)))
theorem ms_Lo_has : Cond.selects R_Lo y_Lo_has y_Lo_has ∈ lw_tbl := pm_in1 (List.mem_append_right _ (List.mem_append_left _ (List.mem_of_getElem? (i := 159) rfl)))
abbrev y_Lo_cell : MethodName := ⟨R_Lo, "cell", "(I)I"⟩
theorem mc_Lo_cell : Cond.code y_Lo_cell prog_1_method_10_code 2 (some .int) ∈ lw_tbl := pm_in1 (List.mem_append_right _ (List.mem_append_left _ (List.mem_of_getElem? (i := 168) rfl)))
theorem yd_Lo_cell : pm_yd y_Lo_cell 1 := ⟨by decide +kernel, by decide +kernel, by decide +kernel⟩
theorem mj_Lo_cell : Cond.instanceMethod y_Lo_cell ∈ lw_tbl := pm_in1 (List.mem_append_right _ (List.mem_append_left _ (List.mem_of_getElem? (i := 166) rfl)))
theorem ms_Lo_cell : Cond.selects R_Lo y_Lo_cell y_Lo_cell ∈ lw_tbl := pm_in1 (List.mem_append_right _ (List.mem_append_left _ (List.mem_of_getElem? (i := 167) rfl)))
abbrev y_Lo_holder : MethodName := ⟨R_Lo, "holder", "(I)I"⟩
theorem mc_Lo_holder : Cond.code y_Lo_holder prog_1_method_11_code 2 (some .int) ∈ lw_tbl := pm_in1 (List.mem_append_right _ (List.mem_append_left _ (List.mem_of_getElem? (i := 176) rfl)))
theorem yd_Lo_holder : pm_yd y_Lo_holder 1 := ⟨by decide +kernel, by decide +kernel, by decide +kernel⟩
theorem mj_Lo_holder : Cond.instanceMethod y_Lo_holder ∈ lw_tbl := pm_in1 (List.mem_append_right _ (List.mem_append_left _ (List.mem_of_getElem? (i := 174) rfl)))
theorem ms_Lo_holder : Cond.selects R_Lo y_Lo_holder y_Lo_holder ∈ lw_tbl := pm_in1 (List.mem_append_right _ (List.mem_append_left _ (List.mem_of_getElem? (i := 175) rfl)))
abbrev y_Lo_state : MethodName := ⟨R_Lo, "state", "(I)I"⟩
theorem mc_Lo_state : Cond.code y_Lo_state prog_1_method_12_code 2 (some .int) ∈ lw_tbl := pm_in1 (List.mem_append_right _ (List.mem_append_left _ (List.mem_of_getElem? (i := 184) rfl)))
theorem yd_Lo_state : pm_yd y_Lo_state 1 := ⟨by decide +kernel, by decide +kernel, by decide +kernel⟩
theorem mj_Lo_state : Cond.instanceMethod y_Lo_state ∈ lw_tbl := pm_in1 (List.mem_append_right _ (List.mem_append_left _ (List.mem_of_getElem? (i := 182) rfl)))
theorem ms_Lo_state : Cond.selects R_Lo y_Lo_state y_Lo_state ∈ lw_tbl := pm_in1 (List.mem_append_right _ (List.mem_append_left _ (List.mem_of_getElem? (i := 183) rfl)))
abbrev y_Lo_count : MethodName := ⟨R_Lo, "count", "(I)I"⟩
theorem mc_Lo_count : Cond.code y_Lo_count prog_1_method_13_code 2 (some .int) ∈ lw_tbl := pm_in1 (List.mem_append_right _ (List.mem_append_left _ (List.mem_of_getElem? (i := 192) rfl)))
theorem yd_Lo_count : pm_yd y_Lo_count 1 := ⟨by decide +kernel, by decide +kernel, by decide +kernel⟩
theorem mj_Lo_count : Cond.instanceMethod y_Lo_count ∈ lw_tbl := pm_in1 (List.mem_append_right _ (List.mem_append_left _ (List.mem_of_getElem? (i := 190) rfl)))
theorem ms_Lo_count : Cond.selects R_Lo y_Lo_count y_Lo_count ∈ lw_tbl := pm_in1 (List.mem_append_right _ (List.mem_append_left _ (List.mem_of_getElem? (i := 191) rfl)))
abbrev y_Lo_race : MethodName := ⟨R_Lo, "race", "(II)I"⟩
theorem mc_Lo_race : Cond.code y_Lo_race prog_1_method_14_code 3 (some .int) ∈ lw_tbl := pm_in1 (List.mem_append_right _ (List.mem_append_left _ (List.mem_of_getElem? (i := 200) rfl)))
theorem yd_Lo_race : pm_yd y_Lo_race 2 := ⟨by decide +kernel, by decide +kernel, by decide +kernel⟩
theorem mj_Lo_race : Cond.instanceMethod y_Lo_race ∈ lw_tbl := pm_in1 (List.mem_append_right _ (List.mem_append_left _ (List.mem_of_getElem? (i := 198) rfl)))
theorem ms_Lo_race : Cond.selects R_Lo y_Lo_race y_Lo_race ∈ lw_tbl := pm_in1 (List.mem_append_right _ (List.mem_append_left _ (List.mem_of_getElem? (i := 199) rfl)))
abbrev y_Lo_stuck : MethodName := ⟨R_Lo, "stuck", "()Z"⟩
theorem mc_Lo_stuck : Cond.code y_Lo_stuck prog_1_method_15_code 1 (some .boolean) ∈ lw_tbl := pm_in1 (List.mem_append_right _ (List.mem_append_left _ (List.mem_of_getElem? (i := 216) rfl)))
theorem yd_Lo_stuck : pm_yd y_Lo_stuck 0 := ⟨by decide +kernel, by decide +kernel, by decide +kernel⟩
theorem mj_Lo_stuck : Cond.instanceMethod y_Lo_stuck ∈ lw_tbl := pm_in1 (List.mem_append_right _ (List.mem_append_left _ (List.mem_of_getElem? (i := 214) rfl)))
theorem ms_Lo_stuck : Cond.selects R_Lo y_Lo_stuck y_Lo_stuck ∈ lw_tbl := pm_in1 (List.mem_append_right _ (List.mem_append_left _ (List.mem_of_getElem? (i := 215) rfl)))
abbrev y_Sh_init : MethodName := ⟨R_Sh, "<init>", "()V"⟩
theorem mc_Sh_init : Cond.code y_Sh_init prog_7_method_1_code 2 (none) ∈ lw_tbl := pm_in1 (List.mem_append_left _ (List.mem_of_getElem? (i := 25) rfl))
theorem yd_Sh_init : pm_yd y_Sh_init 0 := ⟨by decide +kernel, by decide +kernel, by decide +kernel⟩
theorem mj_Sh_init : Cond.instanceMethod y_Sh_init ∈ lw_tbl := pm_in1 (List.mem_append_left _ (List.mem_of_getElem? (i := 24) rfl))
abbrev y_Sh_addStatement : MethodName := ⟨R_Sh, "addStatement", "(II)I"⟩
theorem mc_Sh_addStatement : Cond.code y_Sh_addStatement prog_7_method_3_code 3 (some .int) ∈ lw_tbl := pm_in1 (List.mem_append_left _ (List.mem_of_getElem? (i := 208) rfl))
theorem yd_Sh_addStatement : pm_yd y_Sh_addStatement 2 := ⟨by decide +kernel, by decide +kernel, by decide +kernel⟩
theorem mj_Sh_addStatement : Cond.instanceMethod y_Sh_addStatement ∈ lw_tbl := pm_in1 (List.mem_append_left _ (List.mem_of_getElem? (i := 206) rfl))
theorem ms_Sh_addStatement : Cond.selects R_Sh y_Sh_addStatement y_Sh_addStatement ∈ lw_tbl := pm_in1 (List.mem_append_left _ (List.mem_of_getElem? (i := 207) rfl))
abbrev y_Sh_fits : MethodName := ⟨R_Sh, "fits", "(II)Z"⟩
theorem mc_Sh_fits : Cond.code y_Sh_fits prog_7_method_4_code 2 (some .boolean) ∈ lw_tbl := pm_in1 (List.mem_append_left _ (List.mem_of_getElem? (i := 211) rfl))
theorem yd_Sh_fits : pm_yd y_Sh_fits 2 := ⟨by decide +kernel, by decide +kernel, by decide +kernel⟩
theorem mt_Sh_fits : Cond.static y_Sh_fits ∈ lw_tbl := pm_in1 (List.mem_append_left _ (List.mem_of_getElem? (i := 210) rfl))
abbrev y_Sh_closeText : MethodName := ⟨R_Sh, "closeText", "(I)I"⟩
theorem mc_Sh_closeText : Cond.code y_Sh_closeText prog_7_method_5_code 3 (some .int) ∈ lw_tbl := pm_in1 (List.mem_append_left _ (List.mem_of_getElem? (i := 226) rfl))
theorem yd_Sh_closeText : pm_yd y_Sh_closeText 1 := ⟨by decide +kernel, by decide +kernel, by decide +kernel⟩
theorem mj_Sh_closeText : Cond.instanceMethod y_Sh_closeText ∈ lw_tbl := pm_in1 (List.mem_append_left _ (List.mem_of_getElem? (i := 224) rfl))
theorem ms_Sh_closeText : Cond.selects R_Sh y_Sh_closeText y_Sh_closeText ∈ lw_tbl := pm_in1 (List.mem_append_left _ (List.mem_of_getElem? (i := 225) rfl))
abbrev y_Sh_setGuard : MethodName := ⟨R_Sh, "setGuard", "(II)Z"⟩
theorem mc_Sh_setGuard : Cond.code y_Sh_setGuard prog_7_method_6_code 3 (some .boolean) ∈ lw_tbl := pm_in1 (List.mem_append_right _ (List.mem_append_left _ (List.mem_of_getElem? (i := 6) rfl)))
theorem yd_Sh_setGuard : pm_yd y_Sh_setGuard 2 := ⟨by decide +kernel, by decide +kernel, by decide +kernel⟩
theorem mj_Sh_setGuard : Cond.instanceMethod y_Sh_setGuard ∈ lw_tbl := pm_in1 (List.mem_append_right _ (List.mem_append_left _ (List.mem_of_getElem? (i := 4) rfl)))
theorem ms_Sh_setGuard : Cond.selects R_Sh y_Sh_setGuard y_Sh_setGuard ∈ lw_tbl := pm_in1 (List.mem_append_right _ (List.mem_append_left _ (List.mem_of_getElem? (i := 5) rfl)))
abbrev y_Sh_contains : MethodName := ⟨R_Sh, "contains", "(I)Z"⟩
theorem mc_Sh_contains : Cond.code y_Sh_contains prog_7_method_2_code 2 (some .boolean) ∈ lw_tbl := pm_in1 (List.mem_append_right _ (List.mem_append_left _ (List.mem_of_getElem? (i := 14) rfl)))
theorem yd_Sh_contains : pm_yd y_Sh_contains 1 := ⟨by decide +kernel, by decide +kernel, by decide +kernel⟩
theorem mj_Sh_contains : Cond.instanceMethod y_Sh_contains ∈ lw_tbl := pm_in1 (List.mem_append_right _ (List.mem_append_left _ (List.mem_of_getElem? (i := 12) rfl)))
theorem ms_Sh_contains : Cond.selects R_Sh y_Sh_contains y_Sh_contains ∈ lw_tbl := pm_in1 (List.mem_append_right _ (List.mem_append_left _ (List.mem_of_getElem? (i := 13) rfl)))
abbrev y_Sh_firstWrong : MethodName := ⟨R_Sh, "firstWrong", "(I)I"⟩
theorem mc_Sh_firstWrong : Cond.code y_Sh_firstWrong prog_7_method_7_code 4 (some .int) ∈ lw_tbl := pm_in1 (List.mem_append_right _ (List.mem_append_left _ (List.mem_of_getElem? (i := 18) rfl)))
theorem yd_Sh_firstWrong : pm_yd y_Sh_firstWrong 1 := ⟨by decide +kernel, by decide +kernel, by decide +kernel⟩
theorem mj_Sh_firstWrong : Cond.instanceMethod y_Sh_firstWrong ∈ lw_tbl := pm_in1 (List.mem_append_right _ (List.mem_append_left _ (List.mem_of_getElem? (i := 16) rfl)))
theorem ms_Sh_firstWrong : Cond.selects R_Sh y_Sh_firstWrong y_Sh_firstWrong ∈ lw_tbl := pm_in1 (List.mem_append_right _ (List.mem_append_left _ (List.mem_of_getElem? (i := 17) rfl)))
abbrev y_Sh_isRight : MethodName := ⟨R_Sh, "isRight", "(LLockLoom$Body;I)Z"⟩
theorem mc_Sh_isRight : Cond.code y_Sh_isRight prog_7_method_9_code 5 (some .boolean) ∈ lw_tbl := pm_in1 (List.mem_append_right _ (List.mem_append_left _ (List.mem_of_getElem? (i := 22) rfl)))
theorem yd_Sh_isRight : pm_yd y_Sh_isRight 2 := ⟨by decide +kernel, by decide +kernel, by decide +kernel⟩
theorem mj_Sh_isRight : Cond.instanceMethod y_Sh_isRight ∈ lw_tbl := pm_in1 (List.mem_append_right _ (List.mem_append_left _ (List.mem_of_getElem? (i := 21) rfl)))
theorem ms_Sh_isRight : Cond.selects R_Sh y_Sh_isRight y_Sh_isRight ∈ lw_tbl := pm_in0 (List.mem_of_getElem? (i := 1) rfl)
abbrev y_Sh_guardHeld : MethodName := ⟨R_Sh, "guardHeld", "(II)Z"⟩
theorem mc_Sh_guardHeld : Cond.code y_Sh_guardHeld prog_7_method_10_code 3 (some .boolean) ∈ lw_tbl := pm_in1 (List.mem_append_right _ (List.mem_append_left _ (List.mem_of_getElem? (i := 26) rfl)))
theorem yd_Sh_guardHeld : pm_yd y_Sh_guardHeld 2 := ⟨by decide +kernel, by decide +kernel, by decide +kernel⟩
theorem mj_Sh_guardHeld : Cond.instanceMethod y_Sh_guardHeld ∈ lw_tbl := pm_in1 (List.mem_append_right _ (List.mem_append_left _ (List.mem_of_getElem? (i := 25) rfl)))
theorem ms_Sh_guardHeld : Cond.selects R_Sh y_Sh_guardHeld y_Sh_guardHeld ∈ lw_tbl := pm_in0 (List.mem_of_getElem? (i := 2) rfl)
abbrev y_Sh_allRight : MethodName := ⟨R_Sh, "allRight", "()Z"⟩
theorem mc_Sh_allRight : Cond.code y_Sh_allRight prog_7_method_8_code 2 (some .boolean) ∈ lw_tbl := pm_in1 (List.mem_append_right _ (List.mem_append_left _ (List.mem_of_getElem? (i := 35) rfl)))
theorem yd_Sh_allRight : pm_yd y_Sh_allRight 0 := ⟨by decide +kernel, by decide +kernel, by decide +kernel⟩
theorem mj_Sh_allRight : Cond.instanceMethod y_Sh_allRight ∈ lw_tbl := pm_in1 (List.mem_append_right _ (List.mem_append_left _ (List.mem_of_getElem? (i := 33) rfl)))
theorem ms_Sh_allRight : Cond.selects R_Sh y_Sh_allRight y_Sh_allRight ∈ lw_tbl := pm_in1 (List.mem_append_right _ (List.mem_append_left _ (List.mem_of_getElem? (i := 34) rfl)))
abbrev y_Bo_init : MethodName := ⟨R_Bo, "<init>", "()V"⟩
theorem mc_Bo_init : Cond.code y_Bo_init prog_2_method_1_code 1 (none) ∈ lw_tbl := pm_in1 (List.mem_append_left _ (List.mem_of_getElem? (i := 32) rfl))
theorem yd_Bo_init : pm_yd y_Bo_init 0 := ⟨by decide +kernel, by decide +kernel, by decide +kernel⟩
theorem mj_Bo_init : Cond.instanceMethod y_Bo_init ∈ lw_tbl := pm_in1 (List.mem_append_left _ (List.mem_of_getElem? (i := 31) rfl))
abbrev y_Bo_append : MethodName := ⟨R_Bo, "append", "(II)I"⟩
theorem mc_Bo_append : Cond.code y_Bo_append prog_2_method_3_code 3 (some .int) ∈ lw_tbl := pm_in1 (List.mem_append_left _ (List.mem_of_getElem? (i := 218) rfl))
theorem yd_Bo_append : pm_yd y_Bo_append 2 := ⟨by decide +kernel, by decide +kernel, by decide +kernel⟩
theorem mj_Bo_append : Cond.instanceMethod y_Bo_append ∈ lw_tbl := pm_in1 (List.mem_append_left _ (List.mem_of_getElem? (i := 216) rfl))
theorem ms_Bo_append : Cond.selects R_Bo y_Bo_append y_Bo_append ∈ lw_tbl := pm_in1 (List.mem_append_left _ (List.mem_of_getElem? (i := 217) rfl))
abbrev y_Bo_joinBlocks : MethodName := ⟨R_Bo, "joinBlocks", "(I)Z"⟩
theorem mc_Bo_joinBlocks : Cond.code y_Bo_joinBlocks prog_2_method_4_code 5 (some .boolean) ∈ lw_tbl := pm_in1 (List.mem_append_left _ (List.mem_of_getElem? (i := 230) rfl))
theorem yd_Bo_joinBlocks : pm_yd y_Bo_joinBlocks 1 := ⟨by decide +kernel, by decide +kernel, by decide +kernel⟩
theorem mj_Bo_joinBlocks : Cond.instanceMethod y_Bo_joinBlocks ∈ lw_tbl := pm_in1 (List.mem_append_left _ (List.mem_of_getElem? (i := 228) rfl))
theorem ms_Bo_joinBlocks : Cond.selects R_Bo y_Bo_joinBlocks y_Bo_joinBlocks ∈ lw_tbl := pm_in1 (List.mem_append_left _ (List.mem_of_getElem? (i := 229) rfl))
abbrev y_Bo_closeBlock : MethodName := ⟨R_Bo, "closeBlock", "(II)I"⟩
theorem mc_Bo_closeBlock : Cond.code y_Bo_closeBlock prog_2_method_5_code 4 (some .int) ∈ lw_tbl := pm_in1 (List.mem_append_left _ (List.mem_of_getElem? (i := 234) rfl))
theorem yd_Bo_closeBlock : pm_yd y_Bo_closeBlock 2 := ⟨by decide +kernel, by decide +kernel, by decide +kernel⟩
theorem mj_Bo_closeBlock : Cond.instanceMethod y_Bo_closeBlock ∈ lw_tbl := pm_in1 (List.mem_append_left _ (List.mem_of_getElem? (i := 233) rfl))
theorem ms_Bo_closeBlock : Cond.selects R_Bo y_Bo_closeBlock y_Bo_closeBlock ∈ lw_tbl := pm_in0 (List.mem_of_getElem? (i := 0) rfl)
abbrev y_Bo_clear : MethodName := ⟨R_Bo, "clear", "()V"⟩
theorem mc_Bo_clear : Cond.code y_Bo_clear prog_2_method_2_code 1 (none) ∈ lw_tbl := pm_in1 (List.mem_append_left _ (List.mem_of_getElem? (i := 238) rfl))
theorem yd_Bo_clear : pm_yd y_Bo_clear 0 := ⟨by decide +kernel, by decide +kernel, by decide +kernel⟩
theorem mj_Bo_clear : Cond.instanceMethod y_Bo_clear ∈ lw_tbl := pm_in1 (List.mem_append_left _ (List.mem_of_getElem? (i := 236) rfl))
theorem ms_Bo_clear : Cond.selects R_Bo y_Bo_clear y_Bo_clear ∈ lw_tbl := pm_in1 (List.mem_append_left _ (List.mem_of_getElem? (i := 237) rfl))
abbrev y_Ru_init : MethodName := ⟨R_Ru, "<init>", "(LLockLoom$Shelf;)V"⟩
theorem mc_Ru_init : Cond.code y_Ru_init prog_6_method_1_code 3 (none) ∈ lw_tbl := pm_in1 (List.mem_append_left _ (List.mem_of_getElem? (i := 84) rfl))
theorem yd_Ru_init : pm_yd y_Ru_init 1 := ⟨by decide +kernel, by decide +kernel, by decide +kernel⟩
theorem mj_Ru_init : Cond.instanceMethod y_Ru_init ∈ lw_tbl := pm_in1 (List.mem_append_left _ (List.mem_of_getElem? (i := 83) rfl))
abbrev y_Ru_begin : MethodName := ⟨R_Ru, "begin", "(II)V"⟩
theorem mc_Ru_begin : Cond.code y_Ru_begin prog_6_method_2_code 4 (none) ∈ lw_tbl := pm_in1 (List.mem_append_right _ (List.mem_append_left _ (List.mem_of_getElem? (i := 44) rfl)))
theorem yd_Ru_begin : pm_yd y_Ru_begin 2 := ⟨by decide +kernel, by decide +kernel, by decide +kernel⟩
theorem mj_Ru_begin : Cond.instanceMethod y_Ru_begin ∈ lw_tbl := pm_in1 (List.mem_append_right _ (List.mem_append_left _ (List.mem_of_getElem? (i := 42) rfl)))
theorem ms_Ru_begin : Cond.selects R_Ru y_Ru_begin y_Ru_begin ∈ lw_tbl := pm_in1 (List.mem_append_right _ (List.mem_append_left _ (List.mem_of_getElem? (i := 43) rfl)))
abbrev y_Ru_leaveEnded : MethodName := ⟨R_Ru, "leaveEnded", "(LLockLoom$Strand;)V"⟩
theorem mc_Ru_leaveEnded : Cond.code y_Ru_leaveEnded prog_6_method_6_code 2 (none) ∈ lw_tbl := pm_in1 (List.mem_append_right _ (List.mem_append_left _ (List.mem_of_getElem? (i := 71) rfl)))
theorem yd_Ru_leaveEnded : pm_yd y_Ru_leaveEnded 1 := ⟨by decide +kernel, by decide +kernel, by decide +kernel⟩
theorem mj_Ru_leaveEnded : Cond.instanceMethod y_Ru_leaveEnded ∈ lw_tbl := pm_in1 (List.mem_append_right _ (List.mem_append_left _ (List.mem_of_getElem? (i := 70) rfl)))
theorem ms_Ru_leaveEnded : Cond.selects R_Ru y_Ru_leaveEnded y_Ru_leaveEnded ∈ lw_tbl := pm_in0 (List.mem_of_getElem? (i := 3) rfl)
abbrev y_Ru_placeOf : MethodName := ⟨R_Ru, "placeOf", "(LLockLoom$Strand;)I"⟩
theorem mc_Ru_placeOf : Cond.code y_Ru_placeOf prog_6_method_5_code 1 (some .int) ∈ lw_tbl := pm_in1 (List.mem_append_right _ (List.mem_append_left _ (List.mem_of_getElem? (i := 74) rfl)))
theorem yd_Ru_placeOf : pm_yd y_Ru_placeOf 1 := ⟨by decide +kernel, by decide +kernel, by decide +kernel⟩
theorem mt_Ru_placeOf : Cond.static y_Ru_placeOf ∈ lw_tbl := pm_in1 (List.mem_append_right _ (List.mem_append_left _ (List.mem_of_getElem? (i := 73) rfl)))
abbrev y_Ru_bodyOf : MethodName := ⟨R_Ru, "bodyOf", "(LLockLoom$Strand;)LLockLoom$Body;"⟩
theorem mc_Ru_bodyOf : Cond.code y_Ru_bodyOf prog_6_method_4_code 2 (some (.object "LockLoom$Body")) ∈ lw_tbl := pm_in1 (List.mem_append_right _ (List.mem_append_left _ (List.mem_of_getElem? (i := 78) rfl)))
theorem yd_Ru_bodyOf : pm_yd y_Ru_bodyOf 1 := ⟨by decide +kernel, by decide +kernel, by decide +kernel⟩
theorem mj_Ru_bodyOf : Cond.instanceMethod y_Ru_bodyOf ∈ lw_tbl := pm_in1 (List.mem_append_right _ (List.mem_append_left _ (List.mem_of_getElem? (i := 77) rfl)))
theorem ms_Ru_bodyOf : Cond.selects R_Ru y_Ru_bodyOf y_Ru_bodyOf ∈ lw_tbl := pm_in0 (List.mem_of_getElem? (i := 4) rfl)
abbrev y_Ru_advance : MethodName := ⟨R_Ru, "advance", "(I)I"⟩
theorem mc_Ru_advance : Cond.code y_Ru_advance prog_6_method_3_code 3 (some .int) ∈ lw_tbl := pm_in1 (List.mem_append_right _ (List.mem_append_left _ (List.mem_of_getElem? (i := 86) rfl)))
theorem yd_Ru_advance : pm_yd y_Ru_advance 1 := ⟨by decide +kernel, by decide +kernel, by decide +kernel⟩
theorem mj_Ru_advance : Cond.instanceMethod y_Ru_advance ∈ lw_tbl := pm_in1 (List.mem_append_right _ (List.mem_append_left _ (List.mem_of_getElem? (i := 84) rfl)))
theorem ms_Ru_advance : Cond.selects R_Ru y_Ru_advance y_Ru_advance ∈ lw_tbl := pm_in1 (List.mem_append_right _ (List.mem_append_left _ (List.mem_of_getElem? (i := 85) rfl)))
abbrev y_Ru_wouldWait : MethodName := ⟨R_Ru, "wouldWait", "(LLockLoom$Strand;)Z"⟩
theorem mc_Ru_wouldWait : Cond.code y_Ru_wouldWait prog_6_method_7_code 4 (some .boolean) ∈ lw_tbl := pm_in1 (List.mem_append_right _ (List.mem_append_left _ (List.mem_of_getElem? (i := 95) rfl)))
theorem yd_Ru_wouldWait : pm_yd y_Ru_wouldWait 1 := ⟨by decide +kernel, by decide +kernel, by decide +kernel⟩
theorem mj_Ru_wouldWait : Cond.instanceMethod y_Ru_wouldWait ∈ lw_tbl := pm_in1 (List.mem_append_right _ (List.mem_append_left _ (List.mem_of_getElem? (i := 94) rfl)))
theorem ms_Ru_wouldWait : Cond.selects R_Ru y_Ru_wouldWait y_Ru_wouldWait ∈ lw_tbl := pm_in0 (List.mem_of_getElem? (i := 5) rfl)
abbrev y_Ru_perform : MethodName := ⟨R_Ru, "perform", "(LLockLoom$Strand;)V"⟩
theorem mc_Ru_perform : Cond.code y_Ru_perform prog_6_method_8_code 5 (none) ∈ lw_tbl := pm_in1 (List.mem_append_right _ (List.mem_append_left _ (List.mem_of_getElem? (i := 103) rfl)))
theorem yd_Ru_perform : pm_yd y_Ru_perform 1 := ⟨by decide +kernel, by decide +kernel, by decide +kernel⟩
theorem mj_Ru_perform : Cond.instanceMethod y_Ru_perform ∈ lw_tbl := pm_in1 (List.mem_append_right _ (List.mem_append_left _ (List.mem_of_getElem? (i := 102) rfl)))
theorem ms_Ru_perform : Cond.selects R_Ru y_Ru_perform y_Ru_perform ∈ lw_tbl := pm_in0 (List.mem_of_getElem? (i := 6) rfl)
abbrev y_Ru_readCell : MethodName := ⟨R_Ru, "readCell", "(LLockLoom$Strand;I)V"⟩
theorem mc_Ru_readCell : Cond.code y_Ru_readCell prog_6_method_9_code 3 (none) ∈ lw_tbl := pm_in1 (List.mem_append_right _ (List.mem_append_left _ (List.mem_of_getElem? (i := 111) rfl)))
theorem yd_Ru_readCell : pm_yd y_Ru_readCell 2 := ⟨by decide +kernel, by decide +kernel, by decide +kernel⟩
theorem mj_Ru_readCell : Cond.instanceMethod y_Ru_readCell ∈ lw_tbl := pm_in1 (List.mem_append_right _ (List.mem_append_left _ (List.mem_of_getElem? (i := 110) rfl)))
theorem ms_Ru_readCell : Cond.selects R_Ru y_Ru_readCell y_Ru_readCell ∈ lw_tbl := pm_in0 (List.mem_of_getElem? (i := 7) rfl)
abbrev y_Ru_noteRace : MethodName := ⟨R_Ru, "noteRace", "(LLockLoom$Strand;IZ)V"⟩
theorem mc_Ru_noteRace : Cond.code y_Ru_noteRace prog_6_method_11_code 4 (none) ∈ lw_tbl := pm_in1 (List.mem_append_right _ (List.mem_append_left _ (List.mem_of_getElem? (i := 115) rfl)))
theorem yd_Ru_noteRace : pm_yd y_Ru_noteRace 3 := ⟨by decide +kernel, by decide +kernel, by decide +kernel⟩
theorem mj_Ru_noteRace : Cond.instanceMethod y_Ru_noteRace ∈ lw_tbl := pm_in1 (List.mem_append_right _ (List.mem_append_left _ (List.mem_of_getElem? (i := 114) rfl)))
theorem ms_Ru_noteRace : Cond.selects R_Ru y_Ru_noteRace y_Ru_noteRace ∈ lw_tbl := pm_in0 (List.mem_of_getElem? (i := 8) rfl)
abbrev y_Ru_writeCell : MethodName := ⟨R_Ru, "writeCell", "(LLockLoom$Strand;I)V"⟩
theorem mc_Ru_writeCell : Cond.code y_Ru_writeCell prog_6_method_10_code 3 (none) ∈ lw_tbl := pm_in1 (List.mem_append_right _ (List.mem_append_left _ (List.mem_of_getElem? (i := 127) rfl)))
theorem yd_Ru_writeCell : pm_yd y_Ru_writeCell 2 := ⟨by decide +kernel, by decide +kernel, by decide +kernel⟩
theorem mj_Ru_writeCell : Cond.instanceMethod y_Ru_writeCell ∈ lw_tbl := pm_in1 (List.mem_append_right _ (List.mem_append_left _ (List.mem_of_getElem? (i := 126) rfl)))
theorem ms_Ru_writeCell : Cond.selects R_Ru y_Ru_writeCell y_Ru_writeCell ∈ lw_tbl := pm_in0 (List.mem_of_getElem? (i := 9) rfl)
abbrev y_Ru_endBlock : MethodName := ⟨R_Ru, "endBlock", "(LLockLoom$Strand;LLockLoom$Body;I)V"⟩
theorem mc_Ru_endBlock : Cond.code y_Ru_endBlock prog_6_method_12_code 4 (none) ∈ lw_tbl := pm_in1 (List.mem_append_right _ (List.mem_append_left _ (List.mem_of_getElem? (i := 142) rfl)))
theorem yd_Ru_endBlock : pm_yd y_Ru_endBlock 3 := ⟨by decide +kernel, by decide +kernel, by decide +kernel⟩
theorem mj_Ru_endBlock : Cond.instanceMethod y_Ru_endBlock ∈ lw_tbl := pm_in1 (List.mem_append_right _ (List.mem_append_left _ (List.mem_of_getElem? (i := 141) rfl)))
theorem ms_Ru_endBlock : Cond.selects R_Ru y_Ru_endBlock y_Ru_endBlock ∈ lw_tbl := pm_in0 (List.mem_of_getElem? (i := 10) rfl)
abbrev y_Ru_fork : MethodName := ⟨R_Ru, "fork", "(LLockLoom$Strand;I)V"⟩
theorem mc_Ru_fork : Cond.code y_Ru_fork prog_6_method_13_code 4 (none) ∈ lw_tbl := pm_in1 (List.mem_append_right _ (List.mem_append_left _ (List.mem_of_getElem? (i := 153) rfl)))
theorem yd_Ru_fork : pm_yd y_Ru_fork 2 := ⟨by decide +kernel, by decide +kernel, by decide +kernel⟩
theorem mj_Ru_fork : Cond.instanceMethod y_Ru_fork ∈ lw_tbl := pm_in1 (List.mem_append_right _ (List.mem_append_left _ (List.mem_of_getElem? (i := 152) rfl)))
theorem ms_Ru_fork : Cond.selects R_Ru y_Ru_fork y_Ru_fork ∈ lw_tbl := pm_in0 (List.mem_of_getElem? (i := 11) rfl)
abbrev y_Ru_valueOf : MethodName := ⟨R_Ru, "valueOf", "(I)I"⟩
theorem mc_Ru_valueOf : Cond.code y_Ru_valueOf prog_6_method_14_code 2 (some .int) ∈ lw_tbl := pm_in1 (List.mem_append_right _ (List.mem_append_left _ (List.mem_of_getElem? (i := 164) rfl)))
theorem yd_Ru_valueOf : pm_yd y_Ru_valueOf 1 := ⟨by decide +kernel, by decide +kernel, by decide +kernel⟩
theorem mj_Ru_valueOf : Cond.instanceMethod y_Ru_valueOf ∈ lw_tbl := pm_in1 (List.mem_append_right _ (List.mem_append_left _ (List.mem_of_getElem? (i := 162) rfl)))
theorem ms_Ru_valueOf : Cond.selects R_Ru y_Ru_valueOf y_Ru_valueOf ∈ lw_tbl := pm_in1 (List.mem_append_right _ (List.mem_append_left _ (List.mem_of_getElem? (i := 163) rfl)))
abbrev y_Ru_contentOf : MethodName := ⟨R_Ru, "contentOf", "(I)I"⟩
theorem mc_Ru_contentOf : Cond.code y_Ru_contentOf prog_6_method_15_code 2 (some .int) ∈ lw_tbl := pm_in1 (List.mem_append_right _ (List.mem_append_left _ (List.mem_of_getElem? (i := 172) rfl)))
theorem yd_Ru_contentOf : pm_yd y_Ru_contentOf 1 := ⟨by decide +kernel, by decide +kernel, by decide +kernel⟩
theorem mj_Ru_contentOf : Cond.instanceMethod y_Ru_contentOf ∈ lw_tbl := pm_in1 (List.mem_append_right _ (List.mem_append_left _ (List.mem_of_getElem? (i := 170) rfl)))
theorem ms_Ru_contentOf : Cond.selects R_Ru y_Ru_contentOf y_Ru_contentOf ∈ lw_tbl := pm_in1 (List.mem_append_right _ (List.mem_append_left _ (List.mem_of_getElem? (i := 171) rfl)))
abbrev y_Ru_holderOf : MethodName := ⟨R_Ru, "holderOf", "(I)I"⟩
theorem mc_Ru_holderOf : Cond.code y_Ru_holderOf prog_6_method_16_code 2 (some .int) ∈ lw_tbl := pm_in1 (List.mem_append_right _ (List.mem_append_left _ (List.mem_of_getElem? (i := 180) rfl)))
theorem yd_Ru_holderOf : pm_yd y_Ru_holderOf 1 := ⟨by decide +kernel, by decide +kernel, by decide +kernel⟩
theorem mj_Ru_holderOf : Cond.instanceMethod y_Ru_holderOf ∈ lw_tbl := pm_in1 (List.mem_append_right _ (List.mem_append_left _ (List.mem_of_getElem? (i := 178) rfl)))
theorem ms_Ru_holderOf : Cond.selects R_Ru y_Ru_holderOf y_Ru_holderOf ∈ lw_tbl := pm_in1 (List.mem_append_right _ (List.mem_append_left _ (List.mem_of_getElem? (i := 179) rfl)))
abbrev y_Ru_stateOf : MethodName := ⟨R_Ru, "stateOf", "(I)I"⟩
theorem mc_Ru_stateOf : Cond.code y_Ru_stateOf prog_6_method_17_code 2 (some .int) ∈ lw_tbl := pm_in1 (List.mem_append_right _ (List.mem_append_left _ (List.mem_of_getElem? (i := 188) rfl)))
theorem yd_Ru_stateOf : pm_yd y_Ru_stateOf 1 := ⟨by decide +kernel, by decide +kernel, by decide +kernel⟩
theorem mj_Ru_stateOf : Cond.instanceMethod y_Ru_stateOf ∈ lw_tbl := pm_in1 (List.mem_append_right _ (List.mem_append_left _ (List.mem_of_getElem? (i := 186) rfl)))
theorem ms_Ru_stateOf : Cond.selects R_Ru y_Ru_stateOf y_Ru_stateOf ∈ lw_tbl := pm_in1 (List.mem_append_right _ (List.mem_append_left _ (List.mem_of_getElem? (i := 187) rfl)))
abbrev y_Ru_countOf : MethodName := ⟨R_Ru, "countOf", "(I)I"⟩
theorem mc_Ru_countOf : Cond.code y_Ru_countOf prog_6_method_18_code 2 (some .int) ∈ lw_tbl := pm_in1 (List.mem_append_right _ (List.mem_append_left _ (List.mem_of_getElem? (i := 196) rfl)))
theorem yd_Ru_countOf : pm_yd y_Ru_countOf 1 := ⟨by decide +kernel, by decide +kernel, by decide +kernel⟩
theorem mj_Ru_countOf : Cond.instanceMethod y_Ru_countOf ∈ lw_tbl := pm_in1 (List.mem_append_right _ (List.mem_append_left _ (List.mem_of_getElem? (i := 194) rfl)))
theorem ms_Ru_countOf : Cond.selects R_Ru y_Ru_countOf y_Ru_countOf ∈ lw_tbl := pm_in1 (List.mem_append_right _ (List.mem_append_left _ (List.mem_of_getElem? (i := 195) rfl)))
abbrev y_Ru_racePart : MethodName := ⟨R_Ru, "racePart", "(II)I"⟩
theorem mc_Ru_racePart : Cond.code y_Ru_racePart prog_6_method_19_code 3 (some .int) ∈ lw_tbl := pm_in1 (List.mem_append_right _ (List.mem_append_left _ (List.mem_of_getElem? (i := 204) rfl)))
theorem yd_Ru_racePart : pm_yd y_Ru_racePart 2 := ⟨by decide +kernel, by decide +kernel, by decide +kernel⟩
theorem mj_Ru_racePart : Cond.instanceMethod y_Ru_racePart ∈ lw_tbl := pm_in1 (List.mem_append_right _ (List.mem_append_left _ (List.mem_of_getElem? (i := 202) rfl)))
theorem ms_Ru_racePart : Cond.selects R_Ru y_Ru_racePart y_Ru_racePart ∈ lw_tbl := pm_in1 (List.mem_append_right _ (List.mem_append_left _ (List.mem_of_getElem? (i := 203) rfl)))
abbrev y_Ru_isStuck : MethodName := ⟨R_Ru, "isStuck", "()Z"⟩
theorem mc_Ru_isStuck : Cond.code y_Ru_isStuck prog_6_method_20_code 4 (some .boolean) ∈ lw_tbl := pm_in1 (List.mem_append_right _ (List.mem_append_left _ (List.mem_of_getElem? (i := 220) rfl)))
theorem yd_Ru_isStuck : pm_yd y_Ru_isStuck 0 := ⟨by decide +kernel, by decide +kernel, by decide +kernel⟩
theorem mj_Ru_isStuck : Cond.instanceMethod y_Ru_isStuck ∈ lw_tbl := pm_in1 (List.mem_append_right _ (List.mem_append_left _ (List.mem_of_getElem? (i := 218) rfl)))
theorem ms_Ru_isStuck : Cond.selects R_Ru y_Ru_isStuck y_Ru_isStuck ∈ lw_tbl := pm_in1 (List.mem_append_right _ (List.mem_append_left _ (List.mem_of_getElem? (i := 219) rfl)))
abbrev y_Rl_init : MethodName := ⟨R_Rl, "<init>", "()V"⟩
theorem mc_Rl_init : Cond.code y_Rl_init prog_5_method_1_code 1 (none) ∈ lw_tbl := pm_in1 (List.mem_append_left _ (List.mem_of_getElem? (i := 96) rfl))
theorem yd_Rl_init : pm_yd y_Rl_init 0 := ⟨by decide +kernel, by decide +kernel, by decide +kernel⟩
theorem mj_Rl_init : Cond.instanceMethod y_Rl_init ∈ lw_tbl := pm_in1 (List.mem_append_left _ (List.mem_of_getElem? (i := 95) rfl))
abbrev y_Rl_clear : MethodName := ⟨R_Rl, "clear", "()V"⟩
theorem mc_Rl_clear : Cond.code y_Rl_clear prog_5_method_2_code 1 (none) ∈ lw_tbl := pm_in1 (List.mem_append_right _ (List.mem_append_left _ (List.mem_of_getElem? (i := 58) rfl)))
theorem yd_Rl_clear : pm_yd y_Rl_clear 0 := ⟨by decide +kernel, by decide +kernel, by decide +kernel⟩
theorem mj_Rl_clear : Cond.instanceMethod y_Rl_clear ∈ lw_tbl := pm_in1 (List.mem_append_right _ (List.mem_append_left _ (List.mem_of_getElem? (i := 56) rfl)))
theorem ms_Rl_clear : Cond.selects R_Rl y_Rl_clear y_Rl_clear ∈ lw_tbl := pm_in1 (List.mem_append_right _ (List.mem_append_left _ (List.mem_of_getElem? (i := 57) rfl)))
abbrev y_Rl_add : MethodName := ⟨R_Rl, "add", "(IIIZ)V"⟩
theorem mc_Rl_add : Cond.code y_Rl_add prog_5_method_3_code 6 (none) ∈ lw_tbl := pm_in1 (List.mem_append_right _ (List.mem_append_left _ (List.mem_of_getElem? (i := 123) rfl)))
theorem yd_Rl_add : pm_yd y_Rl_add 4 := ⟨by decide +kernel, by decide +kernel, by decide +kernel⟩
theorem mj_Rl_add : Cond.instanceMethod y_Rl_add ∈ lw_tbl := pm_in1 (List.mem_append_right _ (List.mem_append_left _ (List.mem_of_getElem? (i := 121) rfl)))
theorem ms_Rl_add : Cond.selects R_Rl y_Rl_add y_Rl_add ∈ lw_tbl := pm_in1 (List.mem_append_right _ (List.mem_append_left _ (List.mem_of_getElem? (i := 122) rfl)))
abbrev y_Rl_part : MethodName := ⟨R_Rl, "part", "(II)I"⟩
theorem mc_Rl_part : Cond.code y_Rl_part prog_5_method_4_code 4 (some .int) ∈ lw_tbl := pm_in1 (List.mem_append_right _ (List.mem_append_left _ (List.mem_of_getElem? (i := 208) rfl)))
theorem yd_Rl_part : pm_yd y_Rl_part 2 := ⟨by decide +kernel, by decide +kernel, by decide +kernel⟩
theorem mj_Rl_part : Cond.instanceMethod y_Rl_part ∈ lw_tbl := pm_in1 (List.mem_append_right _ (List.mem_append_left _ (List.mem_of_getElem? (i := 206) rfl)))
theorem ms_Rl_part : Cond.selects R_Rl y_Rl_part y_Rl_part ∈ lw_tbl := pm_in1 (List.mem_append_right _ (List.mem_append_left _ (List.mem_of_getElem? (i := 207) rfl)))
abbrev y_Sd_init : MethodName := ⟨R_Sd, "<init>", "(I)V"⟩
theorem mc_Sd_init : Cond.code y_Sd_init prog_8_method_1_code 2 (none) ∈ lw_tbl := pm_in1 (List.mem_append_left _ (List.mem_of_getElem? (i := 109) rfl))
theorem yd_Sd_init : pm_yd y_Sd_init 1 := ⟨by decide +kernel, by decide +kernel, by decide +kernel⟩
theorem mj_Sd_init : Cond.instanceMethod y_Sd_init ∈ lw_tbl := pm_in1 (List.mem_append_left _ (List.mem_of_getElem? (i := 108) rfl))
abbrev y_Sd_begin : MethodName := ⟨R_Sd, "begin", "(II)V"⟩
theorem mc_Sd_begin : Cond.code y_Sd_begin prog_8_method_2_code 3 (none) ∈ lw_tbl := pm_in1 (List.mem_append_right _ (List.mem_append_left _ (List.mem_of_getElem? (i := 63) rfl)))
theorem yd_Sd_begin : pm_yd y_Sd_begin 2 := ⟨by decide +kernel, by decide +kernel, by decide +kernel⟩
theorem mj_Sd_begin : Cond.instanceMethod y_Sd_begin ∈ lw_tbl := pm_in1 (List.mem_append_right _ (List.mem_append_left _ (List.mem_of_getElem? (i := 61) rfl)))
theorem ms_Sd_begin : Cond.selects R_Sd y_Sd_begin y_Sd_begin ∈ lw_tbl := pm_in1 (List.mem_append_right _ (List.mem_append_left _ (List.mem_of_getElem? (i := 62) rfl)))
abbrev y_Sd_enter : MethodName := ⟨R_Sd, "enter", "(I)V"⟩
theorem mc_Sd_enter : Cond.code y_Sd_enter prog_8_method_3_code 2 (none) ∈ lw_tbl := pm_in1 (List.mem_append_right _ (List.mem_append_left _ (List.mem_of_getElem? (i := 67) rfl)))
theorem yd_Sd_enter : pm_yd y_Sd_enter 1 := ⟨by decide +kernel, by decide +kernel, by decide +kernel⟩
theorem mj_Sd_enter : Cond.instanceMethod y_Sd_enter ∈ lw_tbl := pm_in1 (List.mem_append_right _ (List.mem_append_left _ (List.mem_of_getElem? (i := 65) rfl)))
theorem ms_Sd_enter : Cond.selects R_Sd y_Sd_enter y_Sd_enter ∈ lw_tbl := pm_in1 (List.mem_append_right _ (List.mem_append_left _ (List.mem_of_getElem? (i := 66) rfl)))
abbrev y_Sd_isDone : MethodName := ⟨R_Sd, "isDone", "()Z"⟩
theorem mc_Sd_isDone : Cond.code y_Sd_isDone prog_8_method_4_code 1 (some .boolean) ∈ lw_tbl := pm_in1 (List.mem_append_right _ (List.mem_append_left _ (List.mem_of_getElem? (i := 91) rfl)))
theorem yd_Sd_isDone : pm_yd y_Sd_isDone 0 := ⟨by decide +kernel, by decide +kernel, by decide +kernel⟩
theorem mj_Sd_isDone : Cond.instanceMethod y_Sd_isDone ∈ lw_tbl := pm_in1 (List.mem_append_right _ (List.mem_append_left _ (List.mem_of_getElem? (i := 89) rfl)))
theorem ms_Sd_isDone : Cond.selects R_Sd y_Sd_isDone y_Sd_isDone ∈ lw_tbl := pm_in1 (List.mem_append_right _ (List.mem_append_left _ (List.mem_of_getElem? (i := 90) rfl)))
abbrev y_Sd_moveTo : MethodName := ⟨R_Sd, "moveTo", "(I)V"⟩
theorem mc_Sd_moveTo : Cond.code y_Sd_moveTo prog_8_method_5_code 2 (none) ∈ lw_tbl := pm_in1 (List.mem_append_right _ (List.mem_append_left _ (List.mem_of_getElem? (i := 107) rfl)))
theorem yd_Sd_moveTo : pm_yd y_Sd_moveTo 1 := ⟨by decide +kernel, by decide +kernel, by decide +kernel⟩
theorem mj_Sd_moveTo : Cond.instanceMethod y_Sd_moveTo ∈ lw_tbl := pm_in1 (List.mem_append_right _ (List.mem_append_left _ (List.mem_of_getElem? (i := 105) rfl)))
theorem ms_Sd_moveTo : Cond.selects R_Sd y_Sd_moveTo y_Sd_moveTo ∈ lw_tbl := pm_in1 (List.mem_append_right _ (List.mem_append_left _ (List.mem_of_getElem? (i := 106) rfl)))
abbrev y_Sd_learn : MethodName := ⟨R_Sd, "learn", "([I)V"⟩
theorem mc_Sd_learn : Cond.code y_Sd_learn prog_8_method_6_code 3 (none) ∈ lw_tbl := pm_in1 (List.mem_append_right _ (List.mem_append_left _ (List.mem_of_getElem? (i := 135) rfl)))
theorem yd_Sd_learn : pm_yd y_Sd_learn 1 := ⟨by decide +kernel, by decide +kernel, by decide +kernel⟩
theorem mj_Sd_learn : Cond.instanceMethod y_Sd_learn ∈ lw_tbl := pm_in1 (List.mem_append_right _ (List.mem_append_left _ (List.mem_of_getElem? (i := 133) rfl)))
theorem ms_Sd_learn : Cond.selects R_Sd y_Sd_learn y_Sd_learn ∈ lw_tbl := pm_in1 (List.mem_append_right _ (List.mem_append_left _ (List.mem_of_getElem? (i := 134) rfl)))
abbrev y_Lk_init : MethodName := ⟨R_Lk, "<init>", "()V"⟩
theorem mc_Lk_init : Cond.code y_Lk_init prog_4_method_1_code 1 (none) ∈ lw_tbl := pm_in1 (List.mem_append_left _ (List.mem_of_getElem? (i := 141) rfl))
theorem yd_Lk_init : pm_yd y_Lk_init 0 := ⟨by decide +kernel, by decide +kernel, by decide +kernel⟩
theorem mj_Lk_init : Cond.instanceMethod y_Lk_init ∈ lw_tbl := pm_in1 (List.mem_append_left _ (List.mem_of_getElem? (i := 140) rfl))
abbrev y_Lk_clear : MethodName := ⟨R_Lk, "clear", "()V"⟩
theorem mc_Lk_clear : Cond.code y_Lk_clear prog_4_method_2_code 1 (none) ∈ lw_tbl := pm_in1 (List.mem_append_right _ (List.mem_append_left _ (List.mem_of_getElem? (i := 48) rfl)))
theorem yd_Lk_clear : pm_yd y_Lk_clear 0 := ⟨by decide +kernel, by decide +kernel, by decide +kernel⟩
theorem mj_Lk_clear : Cond.instanceMethod y_Lk_clear ∈ lw_tbl := pm_in1 (List.mem_append_right _ (List.mem_append_left _ (List.mem_of_getElem? (i := 46) rfl)))
theorem ms_Lk_clear : Cond.selects R_Lk y_Lk_clear y_Lk_clear ∈ lw_tbl := pm_in1 (List.mem_append_right _ (List.mem_append_left _ (List.mem_of_getElem? (i := 47) rfl)))
abbrev y_Lk_refuses : MethodName := ⟨R_Lk, "refuses", "(LLockLoom$Strand;)Z"⟩
theorem mc_Lk_refuses : Cond.code y_Lk_refuses prog_4_method_3_code 2 (some .boolean) ∈ lw_tbl := pm_in1 (List.mem_append_right _ (List.mem_append_left _ (List.mem_of_getElem? (i := 99) rfl)))
theorem yd_Lk_refuses : pm_yd y_Lk_refuses 1 := ⟨by decide +kernel, by decide +kernel, by decide +kernel⟩
theorem mj_Lk_refuses : Cond.instanceMethod y_Lk_refuses ∈ lw_tbl := pm_in1 (List.mem_append_right _ (List.mem_append_left _ (List.mem_of_getElem? (i := 97) rfl)))
theorem ms_Lk_refuses : Cond.selects R_Lk y_Lk_refuses y_Lk_refuses ∈ lw_tbl := pm_in1 (List.mem_append_right _ (List.mem_append_left _ (List.mem_of_getElem? (i := 98) rfl)))
abbrev y_Lk_take : MethodName := ⟨R_Lk, "take", "(LLockLoom$Strand;)V"⟩
theorem mc_Lk_take : Cond.code y_Lk_take prog_4_method_4_code 2 (none) ∈ lw_tbl := pm_in1 (List.mem_append_right _ (List.mem_append_left _ (List.mem_of_getElem? (i := 131) rfl)))
theorem yd_Lk_take : pm_yd y_Lk_take 1 := ⟨by decide +kernel, by decide +kernel, by decide +kernel⟩
theorem mj_Lk_take : Cond.instanceMethod y_Lk_take ∈ lw_tbl := pm_in1 (List.mem_append_right _ (List.mem_append_left _ (List.mem_of_getElem? (i := 129) rfl)))
theorem ms_Lk_take : Cond.selects R_Lk y_Lk_take y_Lk_take ∈ lw_tbl := pm_in1 (List.mem_append_right _ (List.mem_append_left _ (List.mem_of_getElem? (i := 130) rfl)))
abbrev y_Lk_release : MethodName := ⟨R_Lk, "release", "(LLockLoom$Strand;)V"⟩
theorem mc_Lk_release : Cond.code y_Lk_release prog_4_method_5_code 2 (none) ∈ lw_tbl := pm_in1 (List.mem_append_right _ (List.mem_append_left _ (List.mem_of_getElem? (i := 146) rfl)))
theorem yd_Lk_release : pm_yd y_Lk_release 1 := ⟨by decide +kernel, by decide +kernel, by decide +kernel⟩
theorem mj_Lk_release : Cond.instanceMethod y_Lk_release ∈ lw_tbl := pm_in1 (List.mem_append_right _ (List.mem_append_left _ (List.mem_of_getElem? (i := 144) rfl)))
theorem ms_Lk_release : Cond.selects R_Lk y_Lk_release y_Lk_release ∈ lw_tbl := pm_in1 (List.mem_append_right _ (List.mem_append_left _ (List.mem_of_getElem? (i := 145) rfl)))
abbrev y_Ce_init : MethodName := ⟨R_Ce, "<init>", "()V"⟩
theorem mc_Ce_init : Cond.code y_Ce_init prog_3_method_1_code 1 (none) ∈ lw_tbl := pm_in1 (List.mem_append_left _ (List.mem_of_getElem? (i := 157) rfl))
theorem yd_Ce_init : pm_yd y_Ce_init 0 := ⟨by decide +kernel, by decide +kernel, by decide +kernel⟩
theorem mj_Ce_init : Cond.instanceMethod y_Ce_init ∈ lw_tbl := pm_in1 (List.mem_append_left _ (List.mem_of_getElem? (i := 156) rfl))
abbrev y_Ce_clear : MethodName := ⟨R_Ce, "clear", "()V"⟩
theorem mc_Ce_clear : Cond.code y_Ce_clear prog_3_method_2_code 1 (none) ∈ lw_tbl := pm_in1 (List.mem_append_right _ (List.mem_append_left _ (List.mem_of_getElem? (i := 53) rfl)))
theorem yd_Ce_clear : pm_yd y_Ce_clear 0 := ⟨by decide +kernel, by decide +kernel, by decide +kernel⟩
theorem mj_Ce_clear : Cond.instanceMethod y_Ce_clear ∈ lw_tbl := pm_in1 (List.mem_append_right _ (List.mem_append_left _ (List.mem_of_getElem? (i := 51) rfl)))
theorem ms_Ce_clear : Cond.selects R_Ce y_Ce_clear y_Ce_clear ∈ lw_tbl := pm_in1 (List.mem_append_right _ (List.mem_append_left _ (List.mem_of_getElem? (i := 52) rfl)))
abbrev y_Ce_races : MethodName := ⟨R_Ce, "races", "([IZ)Z"⟩
theorem mc_Ce_races : Cond.code y_Ce_races prog_3_method_3_code 4 (some .boolean) ∈ lw_tbl := pm_in1 (List.mem_append_right _ (List.mem_append_left _ (List.mem_of_getElem? (i := 119) rfl)))
theorem yd_Ce_races : pm_yd y_Ce_races 2 := ⟨by decide +kernel, by decide +kernel, by decide +kernel⟩
theorem mj_Ce_races : Cond.instanceMethod y_Ce_races ∈ lw_tbl := pm_in1 (List.mem_append_right _ (List.mem_append_left _ (List.mem_of_getElem? (i := 117) rfl)))
theorem ms_Ce_races : Cond.selects R_Ce y_Ce_races y_Ce_races ∈ lw_tbl := pm_in1 (List.mem_append_right _ (List.mem_append_left _ (List.mem_of_getElem? (i := 118) rfl)))
abbrev y_Mo_init : MethodName := ⟨R_Mo, "<init>", "()V"⟩
theorem mc_Mo_init : Cond.code y_Mo_init prog_10_method_1_code 2 (none) ∈ lw_tbl := pm_in1 (List.mem_append_right _ (List.mem_append_left _ (List.mem_of_getElem? (i := 226) rfl)))
theorem yd_Mo_init : pm_yd y_Mo_init 0 := ⟨by decide +kernel, by decide +kernel, by decide +kernel⟩
theorem mj_Mo_init : Cond.instanceMethod y_Mo_init ∈ lw_tbl := pm_in1 (List.mem_append_right _ (List.mem_append_left _ (List.mem_of_getElem? (i := 225) rfl)))
abbrev y_Mo_statement : MethodName := ⟨R_Mo, "statement", "(II)I"⟩
theorem mc_Mo_statement : Cond.code y_Mo_statement prog_10_method_3_code 4 (some .int) ∈ lw_tbl := pm_in1 (List.mem_append_right _ (List.mem_append_right _ (List.mem_of_getElem? (i := 65) rfl)))
theorem yd_Mo_statement : pm_yd y_Mo_statement 2 := ⟨by decide +kernel, by decide +kernel, by decide +kernel⟩
theorem mj_Mo_statement : Cond.instanceMethod y_Mo_statement ∈ lw_tbl := pm_in1 (List.mem_append_right _ (List.mem_append_right _ (List.mem_of_getElem? (i := 63) rfl)))
theorem ms_Mo_statement : Cond.selects R_Mo y_Mo_statement y_Mo_statement ∈ lw_tbl := pm_in1 (List.mem_append_right _ (List.mem_append_right _ (List.mem_of_getElem? (i := 64) rfl)))
abbrev y_Mo_isIn : MethodName := ⟨R_Mo, "isIn", "(II)Z"⟩
theorem mc_Mo_isIn : Cond.code y_Mo_isIn prog_10_method_2_code 2 (some .boolean) ∈ lw_tbl := pm_in1 (List.mem_append_right _ (List.mem_append_right _ (List.mem_of_getElem? (i := 68) rfl)))
theorem yd_Mo_isIn : pm_yd y_Mo_isIn 2 := ⟨by decide +kernel, by decide +kernel, by decide +kernel⟩
theorem mt_Mo_isIn : Cond.static y_Mo_isIn ∈ lw_tbl := pm_in1 (List.mem_append_right _ (List.mem_append_right _ (List.mem_of_getElem? (i := 67) rfl)))
abbrev y_Mo_body : MethodName := ⟨R_Mo, "body", "(I)I"⟩
theorem mc_Mo_body : Cond.code y_Mo_body prog_10_method_10_code 4 (some .int) ∈ lw_tbl := pm_in1 (List.mem_append_right _ (List.mem_append_right _ (List.mem_of_getElem? (i := 72) rfl)))
theorem yd_Mo_body : pm_yd y_Mo_body 1 := ⟨by decide +kernel, by decide +kernel, by decide +kernel⟩
theorem mj_Mo_body : Cond.instanceMethod y_Mo_body ∈ lw_tbl := pm_in1 (List.mem_append_right _ (List.mem_append_right _ (List.mem_of_getElem? (i := 70) rfl)))
theorem ms_Mo_body : Cond.selects R_Mo y_Mo_body y_Mo_body ∈ lw_tbl := pm_in1 (List.mem_append_right _ (List.mem_append_right _ (List.mem_of_getElem? (i := 71) rfl)))
abbrev y_Mo_isWhole : MethodName := ⟨R_Mo, "isWhole", "()Z"⟩
theorem mc_Mo_isWhole : Cond.code y_Mo_isWhole prog_10_method_9_code 5 (some .boolean) ∈ lw_tbl := pm_in1 (List.mem_append_right _ (List.mem_append_right _ (List.mem_of_getElem? (i := 76) rfl)))
theorem yd_Mo_isWhole : pm_yd y_Mo_isWhole 0 := ⟨by decide +kernel, by decide +kernel, by decide +kernel⟩
theorem mj_Mo_isWhole : Cond.instanceMethod y_Mo_isWhole ∈ lw_tbl := pm_in1 (List.mem_append_right _ (List.mem_append_right _ (List.mem_of_getElem? (i := 75) rfl)))
theorem ms_Mo_isWhole : Cond.selects R_Mo y_Mo_isWhole y_Mo_isWhole ∈ lw_tbl := pm_in0 (List.mem_of_getElem? (i := 12) rfl)
abbrev y_Mo_kindAt : MethodName := ⟨R_Mo, "kindAt", "(II)I"⟩
theorem mc_Mo_kindAt : Cond.code y_Mo_kindAt prog_10_method_4_code 3 (some .int) ∈ lw_tbl := pm_in1 (List.mem_append_right _ (List.mem_append_right _ (List.mem_of_getElem? (i := 80) rfl)))
theorem yd_Mo_kindAt : pm_yd y_Mo_kindAt 2 := ⟨by decide +kernel, by decide +kernel, by decide +kernel⟩
theorem mj_Mo_kindAt : Cond.instanceMethod y_Mo_kindAt ∈ lw_tbl := pm_in1 (List.mem_append_right _ (List.mem_append_right _ (List.mem_of_getElem? (i := 79) rfl)))
theorem ms_Mo_kindAt : Cond.selects R_Mo y_Mo_kindAt y_Mo_kindAt ∈ lw_tbl := pm_in0 (List.mem_of_getElem? (i := 13) rfl)
abbrev y_Mo_openerOf : MethodName := ⟨R_Mo, "openerOf", "(II)I"⟩
theorem mc_Mo_openerOf : Cond.code y_Mo_openerOf prog_10_method_7_code 5 (some .int) ∈ lw_tbl := pm_in1 (List.mem_append_right _ (List.mem_append_right _ (List.mem_of_getElem? (i := 84) rfl)))
theorem yd_Mo_openerOf : pm_yd y_Mo_openerOf 2 := ⟨by decide +kernel, by decide +kernel, by decide +kernel⟩
theorem mj_Mo_openerOf : Cond.instanceMethod y_Mo_openerOf ∈ lw_tbl := pm_in1 (List.mem_append_right _ (List.mem_append_right _ (List.mem_of_getElem? (i := 83) rfl)))
theorem ms_Mo_openerOf : Cond.selects R_Mo y_Mo_openerOf y_Mo_openerOf ∈ lw_tbl := pm_in0 (List.mem_of_getElem? (i := 14) rfl)
abbrev y_Mo_opens : MethodName := ⟨R_Mo, "opens", "(I)Z"⟩
theorem mc_Mo_opens : Cond.code y_Mo_opens prog_10_method_6_code 1 (some .boolean) ∈ lw_tbl := pm_in1 (List.mem_append_right _ (List.mem_append_right _ (List.mem_of_getElem? (i := 87) rfl)))
theorem yd_Mo_opens : pm_yd y_Mo_opens 1 := ⟨by decide +kernel, by decide +kernel, by decide +kernel⟩
theorem mt_Mo_opens : Cond.static y_Mo_opens ∈ lw_tbl := pm_in1 (List.mem_append_right _ (List.mem_append_right _ (List.mem_of_getElem? (i := 86) rfl)))
abbrev y_Mo_closerOf : MethodName := ⟨R_Mo, "closerOf", "(IIZ)I"⟩
theorem mc_Mo_closerOf : Cond.code y_Mo_closerOf prog_10_method_8_code 7 (some .int) ∈ lw_tbl := pm_in1 (List.mem_append_right _ (List.mem_append_right _ (List.mem_of_getElem? (i := 91) rfl)))
theorem yd_Mo_closerOf : pm_yd y_Mo_closerOf 3 := ⟨by decide +kernel, by decide +kernel, by decide +kernel⟩
theorem mj_Mo_closerOf : Cond.instanceMethod y_Mo_closerOf ∈ lw_tbl := pm_in1 (List.mem_append_right _ (List.mem_append_right _ (List.mem_of_getElem? (i := 90) rfl)))
theorem ms_Mo_closerOf : Cond.selects R_Mo y_Mo_closerOf y_Mo_closerOf ∈ lw_tbl := pm_in0 (List.mem_of_getElem? (i := 15) rfl)
abbrev y_Mo_numberAt : MethodName := ⟨R_Mo, "numberAt", "(II)I"⟩
theorem mc_Mo_numberAt : Cond.code y_Mo_numberAt prog_10_method_5_code 3 (some .int) ∈ lw_tbl := pm_in1 (List.mem_append_right _ (List.mem_append_right _ (List.mem_of_getElem? (i := 95) rfl)))
theorem yd_Mo_numberAt : pm_yd y_Mo_numberAt 2 := ⟨by decide +kernel, by decide +kernel, by decide +kernel⟩
theorem mj_Mo_numberAt : Cond.instanceMethod y_Mo_numberAt ∈ lw_tbl := pm_in1 (List.mem_append_right _ (List.mem_append_right _ (List.mem_of_getElem? (i := 94) rfl)))
theorem ms_Mo_numberAt : Cond.selects R_Mo y_Mo_numberAt y_Mo_numberAt ∈ lw_tbl := pm_in0 (List.mem_of_getElem? (i := 16) rfl)
abbrev y_Mo_guard : MethodName := ⟨R_Mo, "guard", "(II)Z"⟩
theorem mc_Mo_guard : Cond.code y_Mo_guard prog_10_method_11_code 3 (some .boolean) ∈ lw_tbl := pm_in1 (List.mem_append_right _ (List.mem_append_right _ (List.mem_of_getElem? (i := 99) rfl)))
theorem yd_Mo_guard : pm_yd y_Mo_guard 2 := ⟨by decide +kernel, by decide +kernel, by decide +kernel⟩
theorem mj_Mo_guard : Cond.instanceMethod y_Mo_guard ∈ lw_tbl := pm_in1 (List.mem_append_right _ (List.mem_append_right _ (List.mem_of_getElem? (i := 97) rfl)))
theorem ms_Mo_guard : Cond.selects R_Mo y_Mo_guard y_Mo_guard ∈ lw_tbl := pm_in1 (List.mem_append_right _ (List.mem_append_right _ (List.mem_of_getElem? (i := 98) rfl)))
abbrev y_Mo_check : MethodName := ⟨R_Mo, "check", "(I)I"⟩
theorem mc_Mo_check : Cond.code y_Mo_check prog_10_method_14_code 3 (some .int) ∈ lw_tbl := pm_in1 (List.mem_append_right _ (List.mem_append_right _ (List.mem_of_getElem? (i := 103) rfl)))
theorem yd_Mo_check : pm_yd y_Mo_check 1 := ⟨by decide +kernel, by decide +kernel, by decide +kernel⟩
theorem mj_Mo_check : Cond.instanceMethod y_Mo_check ∈ lw_tbl := pm_in1 (List.mem_append_right _ (List.mem_append_right _ (List.mem_of_getElem? (i := 101) rfl)))
theorem ms_Mo_check : Cond.selects R_Mo y_Mo_check y_Mo_check ∈ lw_tbl := pm_in1 (List.mem_append_right _ (List.mem_append_right _ (List.mem_of_getElem? (i := 102) rfl)))
abbrev y_Mo_isRight : MethodName := ⟨R_Mo, "isRight", "(II)Z"⟩
theorem mc_Mo_isRight : Cond.code y_Mo_isRight prog_10_method_13_code 6 (some .boolean) ∈ lw_tbl := pm_in1 (List.mem_append_right _ (List.mem_append_right _ (List.mem_of_getElem? (i := 107) rfl)))
theorem yd_Mo_isRight : pm_yd y_Mo_isRight 2 := ⟨by decide +kernel, by decide +kernel, by decide +kernel⟩
theorem mj_Mo_isRight : Cond.instanceMethod y_Mo_isRight ∈ lw_tbl := pm_in1 (List.mem_append_right _ (List.mem_append_right _ (List.mem_of_getElem? (i := 106) rfl)))
theorem ms_Mo_isRight : Cond.selects R_Mo y_Mo_isRight y_Mo_isRight ∈ lw_tbl := pm_in0 (List.mem_of_getElem? (i := 17) rfl)
abbrev y_Mo_heldAt : MethodName := ⟨R_Mo, "heldAt", "(II)I"⟩
theorem mc_Mo_heldAt : Cond.code y_Mo_heldAt prog_10_method_12_code 5 (some .int) ∈ lw_tbl := pm_in1 (List.mem_append_right _ (List.mem_append_right _ (List.mem_of_getElem? (i := 111) rfl)))
theorem yd_Mo_heldAt : pm_yd y_Mo_heldAt 2 := ⟨by decide +kernel, by decide +kernel, by decide +kernel⟩
theorem mj_Mo_heldAt : Cond.instanceMethod y_Mo_heldAt ∈ lw_tbl := pm_in1 (List.mem_append_right _ (List.mem_append_right _ (List.mem_of_getElem? (i := 110) rfl)))
theorem ms_Mo_heldAt : Cond.selects R_Mo y_Mo_heldAt y_Mo_heldAt ∈ lw_tbl := pm_in0 (List.mem_of_getElem? (i := 18) rfl)
abbrev y_Mo_sound : MethodName := ⟨R_Mo, "sound", "()Z"⟩
theorem mc_Mo_sound : Cond.code y_Mo_sound prog_10_method_15_code 2 (some .boolean) ∈ lw_tbl := pm_in1 (List.mem_append_right _ (List.mem_append_right _ (List.mem_of_getElem? (i := 115) rfl)))
theorem yd_Mo_sound : pm_yd y_Mo_sound 0 := ⟨by decide +kernel, by decide +kernel, by decide +kernel⟩
theorem mj_Mo_sound : Cond.instanceMethod y_Mo_sound ∈ lw_tbl := pm_in1 (List.mem_append_right _ (List.mem_append_right _ (List.mem_of_getElem? (i := 113) rfl)))
theorem ms_Mo_sound : Cond.selects R_Mo y_Mo_sound y_Mo_sound ∈ lw_tbl := pm_in1 (List.mem_append_right _ (List.mem_append_right _ (List.mem_of_getElem? (i := 114) rfl)))
abbrev y_Mo_start : MethodName := ⟨R_Mo, "start", "(II)Z"⟩
theorem mc_Mo_start : Cond.code y_Mo_start prog_10_method_19_code 4 (some .boolean) ∈ lw_tbl := pm_in1 (List.mem_append_right _ (List.mem_append_right _ (List.mem_of_getElem? (i := 120) rfl)))
theorem yd_Mo_start : pm_yd y_Mo_start 2 := ⟨by decide +kernel, by decide +kernel, by decide +kernel⟩
theorem mj_Mo_start : Cond.instanceMethod y_Mo_start ∈ lw_tbl := pm_in1 (List.mem_append_right _ (List.mem_append_right _ (List.mem_of_getElem? (i := 118) rfl)))
theorem ms_Mo_start : Cond.selects R_Mo y_Mo_start y_Mo_start ∈ lw_tbl := pm_in1 (List.mem_append_right _ (List.mem_append_right _ (List.mem_of_getElem? (i := 119) rfl)))
abbrev y_Mo_begin : MethodName := ⟨R_Mo, "begin", "(III)V"⟩
theorem mc_Mo_begin : Cond.code y_Mo_begin prog_10_method_18_code 4 (none) ∈ lw_tbl := pm_in1 (List.mem_append_right _ (List.mem_append_right _ (List.mem_of_getElem? (i := 124) rfl)))
theorem yd_Mo_begin : pm_yd y_Mo_begin 3 := ⟨by decide +kernel, by decide +kernel, by decide +kernel⟩
theorem mj_Mo_begin : Cond.instanceMethod y_Mo_begin ∈ lw_tbl := pm_in1 (List.mem_append_right _ (List.mem_append_right _ (List.mem_of_getElem? (i := 123) rfl)))
theorem ms_Mo_begin : Cond.selects R_Mo y_Mo_begin y_Mo_begin ∈ lw_tbl := pm_in0 (List.mem_of_getElem? (i := 19) rfl)
abbrev y_Mo_enter : MethodName := ⟨R_Mo, "enter", "(II)V"⟩
theorem mc_Mo_enter : Cond.code y_Mo_enter prog_10_method_16_code 3 (none) ∈ lw_tbl := pm_in1 (List.mem_append_right _ (List.mem_append_right _ (List.mem_of_getElem? (i := 128) rfl)))
theorem yd_Mo_enter : pm_yd y_Mo_enter 2 := ⟨by decide +kernel, by decide +kernel, by decide +kernel⟩
theorem mj_Mo_enter : Cond.instanceMethod y_Mo_enter ∈ lw_tbl := pm_in1 (List.mem_append_right _ (List.mem_append_right _ (List.mem_of_getElem? (i := 127) rfl)))
theorem ms_Mo_enter : Cond.selects R_Mo y_Mo_enter y_Mo_enter ∈ lw_tbl := pm_in0 (List.mem_of_getElem? (i := 20) rfl)
abbrev y_Mo_leave : MethodName := ⟨R_Mo, "leave", "(I)V"⟩
theorem mc_Mo_leave : Cond.code y_Mo_leave prog_10_method_17_code 3 (none) ∈ lw_tbl := pm_in1 (List.mem_append_right _ (List.mem_append_right _ (List.mem_of_getElem? (i := 132) rfl)))
theorem yd_Mo_leave : pm_yd y_Mo_leave 1 := ⟨by decide +kernel, by decide +kernel, by decide +kernel⟩
theorem mj_Mo_leave : Cond.instanceMethod y_Mo_leave ∈ lw_tbl := pm_in1 (List.mem_append_right _ (List.mem_append_right _ (List.mem_of_getElem? (i := 131) rfl)))
theorem ms_Mo_leave : Cond.selects R_Mo y_Mo_leave y_Mo_leave ∈ lw_tbl := pm_in0 (List.mem_of_getElem? (i := 21) rfl)
abbrev y_Mo_step : MethodName := ⟨R_Mo, "step", "(I)I"⟩
theorem mc_Mo_step : Cond.code y_Mo_step prog_10_method_22_code 4 (some .int) ∈ lw_tbl := pm_in1 (List.mem_append_right _ (List.mem_append_right _ (List.mem_of_getElem? (i := 136) rfl)))
theorem yd_Mo_step : pm_yd y_Mo_step 1 := ⟨by decide +kernel, by decide +kernel, by decide +kernel⟩
theorem mj_Mo_step : Cond.instanceMethod y_Mo_step ∈ lw_tbl := pm_in1 (List.mem_append_right _ (List.mem_append_right _ (List.mem_of_getElem? (i := 134) rfl)))
theorem ms_Mo_step : Cond.selects R_Mo y_Mo_step y_Mo_step ∈ lw_tbl := pm_in1 (List.mem_append_right _ (List.mem_append_right _ (List.mem_of_getElem? (i := 135) rfl)))
abbrev y_Mo_isThread : MethodName := ⟨R_Mo, "isThread", "(I)Z"⟩
theorem mc_Mo_isThread : Cond.code y_Mo_isThread prog_10_method_20_code 2 (some .boolean) ∈ lw_tbl := pm_in1 (List.mem_append_right _ (List.mem_append_right _ (List.mem_of_getElem? (i := 140) rfl)))
theorem yd_Mo_isThread : pm_yd y_Mo_isThread 1 := ⟨by decide +kernel, by decide +kernel, by decide +kernel⟩
theorem mj_Mo_isThread : Cond.instanceMethod y_Mo_isThread ∈ lw_tbl := pm_in1 (List.mem_append_right _ (List.mem_append_right _ (List.mem_of_getElem? (i := 139) rfl)))
theorem ms_Mo_isThread : Cond.selects R_Mo y_Mo_isThread y_Mo_isThread ∈ lw_tbl := pm_in0 (List.mem_of_getElem? (i := 22) rfl)
abbrev y_Mo_waitsFor : MethodName := ⟨R_Mo, "waitsFor", "(I)I"⟩
theorem mc_Mo_waitsFor : Cond.code y_Mo_waitsFor prog_10_method_21_code 4 (some .int) ∈ lw_tbl := pm_in1 (List.mem_append_right _ (List.mem_append_right _ (List.mem_of_getElem? (i := 144) rfl)))
theorem yd_Mo_waitsFor : pm_yd y_Mo_waitsFor 1 := ⟨by decide +kernel, by decide +kernel, by decide +kernel⟩
theorem mj_Mo_waitsFor : Cond.instanceMethod y_Mo_waitsFor ∈ lw_tbl := pm_in1 (List.mem_append_right _ (List.mem_append_right _ (List.mem_of_getElem? (i := 143) rfl)))
theorem ms_Mo_waitsFor : Cond.selects R_Mo y_Mo_waitsFor y_Mo_waitsFor ∈ lw_tbl := pm_in0 (List.mem_of_getElem? (i := 23) rfl)
abbrev y_Mo_does : MethodName := ⟨R_Mo, "does", "(III)V"⟩
theorem mc_Mo_does : Cond.code y_Mo_does prog_10_method_23_code 6 (none) ∈ lw_tbl := pm_in1 (List.mem_append_right _ (List.mem_append_right _ (List.mem_of_getElem? (i := 148) rfl)))
theorem yd_Mo_does : pm_yd y_Mo_does 3 := ⟨by decide +kernel, by decide +kernel, by decide +kernel⟩
theorem mj_Mo_does : Cond.instanceMethod y_Mo_does ∈ lw_tbl := pm_in1 (List.mem_append_right _ (List.mem_append_right _ (List.mem_of_getElem? (i := 147) rfl)))
theorem ms_Mo_does : Cond.selects R_Mo y_Mo_does y_Mo_does ∈ lw_tbl := pm_in0 (List.mem_of_getElem? (i := 24) rfl)
abbrev y_Mo_meets : MethodName := ⟨R_Mo, "meets", "(III)V"⟩
theorem mc_Mo_meets : Cond.code y_Mo_meets prog_10_method_27_code 7 (none) ∈ lw_tbl := pm_in1 (List.mem_append_right _ (List.mem_append_right _ (List.mem_of_getElem? (i := 152) rfl)))
theorem yd_Mo_meets : pm_yd y_Mo_meets 3 := ⟨by decide +kernel, by decide +kernel, by decide +kernel⟩
theorem mj_Mo_meets : Cond.instanceMethod y_Mo_meets ∈ lw_tbl := pm_in1 (List.mem_append_right _ (List.mem_append_right _ (List.mem_of_getElem? (i := 151) rfl)))
theorem ms_Mo_meets : Cond.selects R_Mo y_Mo_meets y_Mo_meets ∈ lw_tbl := pm_in0 (List.mem_of_getElem? (i := 25) rfl)
abbrev y_Mo_mark : MethodName := ⟨R_Mo, "mark", "()V"⟩
theorem mc_Mo_mark : Cond.code y_Mo_mark prog_10_method_26_code 2 (none) ∈ lw_tbl := pm_in1 (List.mem_append_right _ (List.mem_append_right _ (List.mem_of_getElem? (i := 156) rfl)))
theorem yd_Mo_mark : pm_yd y_Mo_mark 0 := ⟨by decide +kernel, by decide +kernel, by decide +kernel⟩
theorem mj_Mo_mark : Cond.instanceMethod y_Mo_mark ∈ lw_tbl := pm_in1 (List.mem_append_right _ (List.mem_append_right _ (List.mem_of_getElem? (i := 155) rfl)))
theorem ms_Mo_mark : Cond.selects R_Mo y_Mo_mark y_Mo_mark ∈ lw_tbl := pm_in0 (List.mem_of_getElem? (i := 26) rfl)
abbrev y_Mo_takes : MethodName := ⟨R_Mo, "takes", "(II)V"⟩
theorem mc_Mo_takes : Cond.code y_Mo_takes prog_10_method_24_code 3 (none) ∈ lw_tbl := pm_in1 (List.mem_append_right _ (List.mem_append_right _ (List.mem_of_getElem? (i := 160) rfl)))
theorem yd_Mo_takes : pm_yd y_Mo_takes 2 := ⟨by decide +kernel, by decide +kernel, by decide +kernel⟩
theorem mj_Mo_takes : Cond.instanceMethod y_Mo_takes ∈ lw_tbl := pm_in1 (List.mem_append_right _ (List.mem_append_right _ (List.mem_of_getElem? (i := 159) rfl)))
theorem ms_Mo_takes : Cond.selects R_Mo y_Mo_takes y_Mo_takes ∈ lw_tbl := pm_in0 (List.mem_of_getElem? (i := 27) rfl)
abbrev y_Mo_ends : MethodName := ⟨R_Mo, "ends", "(III)V"⟩
theorem mc_Mo_ends : Cond.code y_Mo_ends prog_10_method_25_code 6 (none) ∈ lw_tbl := pm_in1 (List.mem_append_right _ (List.mem_append_right _ (List.mem_of_getElem? (i := 164) rfl)))
theorem yd_Mo_ends : pm_yd y_Mo_ends 3 := ⟨by decide +kernel, by decide +kernel, by decide +kernel⟩
theorem mj_Mo_ends : Cond.instanceMethod y_Mo_ends ∈ lw_tbl := pm_in1 (List.mem_append_right _ (List.mem_append_right _ (List.mem_of_getElem? (i := 163) rfl)))
theorem ms_Mo_ends : Cond.selects R_Mo y_Mo_ends y_Mo_ends ∈ lw_tbl := pm_in0 (List.mem_of_getElem? (i := 28) rfl)
abbrev y_Mo_has : MethodName := ⟨R_Mo, "has", "(I)I"⟩
theorem mc_Mo_has : Cond.code y_Mo_has prog_10_method_28_code 2 (some .int) ∈ lw_tbl := pm_in1 (List.mem_append_right _ (List.mem_append_right _ (List.mem_of_getElem? (i := 168) rfl)))
theorem yd_Mo_has : pm_yd y_Mo_has 1 := ⟨by decide +kernel, by decide +kernel, by decide +kernel⟩
theorem mj_Mo_has : Cond.instanceMethod y_Mo_has ∈ lw_tbl := pm_in1 (List.mem_append_right _ (List.mem_append_right _ (List.mem_of_getElem? (i := 166) rfl)))
theorem ms_Mo_has : Cond.selects R_Mo y_Mo_has y_Mo_has ∈ lw_tbl := pm_in1 (List.mem_append_right _ (List.mem_append_right _ (List.mem_of_getElem? (i := 167) rfl)))
abbrev y_Mo_cell : MethodName := ⟨R_Mo, "cell", "(I)I"⟩
theorem mc_Mo_cell : Cond.code y_Mo_cell prog_10_method_29_code 2 (some .int) ∈ lw_tbl := pm_in1 (List.mem_append_right _ (List.mem_append_right _ (List.mem_of_getElem? (i := 172) rfl)))
theorem yd_Mo_cell : pm_yd y_Mo_cell 1 := ⟨by decide +kernel, by decide +kernel, by decide +kernel⟩
theorem mj_Mo_cell : Cond.instanceMethod y_Mo_cell ∈ lw_tbl := pm_in1 (List.mem_append_right _ (List.mem_append_right _ (List.mem_of_getElem? (i := 170) rfl)))
theorem ms_Mo_cell : Cond.selects R_Mo y_Mo_cell y_Mo_cell ∈ lw_tbl := pm_in1 (List.mem_append_right _ (List.mem_append_right _ (List.mem_of_getElem? (i := 171) rfl)))
abbrev y_Mo_holder : MethodName := ⟨R_Mo, "holder", "(I)I"⟩
theorem mc_Mo_holder : Cond.code y_Mo_holder prog_10_method_30_code 2 (some .int) ∈ lw_tbl := pm_in1 (List.mem_append_right _ (List.mem_append_right _ (List.mem_of_getElem? (i := 176) rfl)))
theorem yd_Mo_holder : pm_yd y_Mo_holder 1 := ⟨by decide +kernel, by decide +kernel, by decide +kernel⟩
theorem mj_Mo_holder : Cond.instanceMethod y_Mo_holder ∈ lw_tbl := pm_in1 (List.mem_append_right _ (List.mem_append_right _ (List.mem_of_getElem? (i := 174) rfl)))
theorem ms_Mo_holder : Cond.selects R_Mo y_Mo_holder y_Mo_holder ∈ lw_tbl := pm_in1 (List.mem_append_right _ (List.mem_append_right _ (List.mem_of_getElem? (i := 175) rfl)))
abbrev y_Mo_state : MethodName := ⟨R_Mo, "state", "(I)I"⟩
theorem mc_Mo_state : Cond.code y_Mo_state prog_10_method_31_code 2 (some .int) ∈ lw_tbl := pm_in1 (List.mem_append_right _ (List.mem_append_right _ (List.mem_of_getElem? (i := 180) rfl)))
theorem yd_Mo_state : pm_yd y_Mo_state 1 := ⟨by decide +kernel, by decide +kernel, by decide +kernel⟩
theorem mj_Mo_state : Cond.instanceMethod y_Mo_state ∈ lw_tbl := pm_in1 (List.mem_append_right _ (List.mem_append_right _ (List.mem_of_getElem? (i := 178) rfl)))
theorem ms_Mo_state : Cond.selects R_Mo y_Mo_state y_Mo_state ∈ lw_tbl := pm_in1 (List.mem_append_right _ (List.mem_append_right _ (List.mem_of_getElem? (i := 179) rfl)))
abbrev y_Mo_count : MethodName := ⟨R_Mo, "count", "(I)I"⟩
theorem mc_Mo_count : Cond.code y_Mo_count prog_10_method_32_code 2 (some .int) ∈ lw_tbl := pm_in1 (List.mem_append_right _ (List.mem_append_right _ (List.mem_of_getElem? (i := 184) rfl)))
theorem yd_Mo_count : pm_yd y_Mo_count 1 := ⟨by decide +kernel, by decide +kernel, by decide +kernel⟩
theorem mj_Mo_count : Cond.instanceMethod y_Mo_count ∈ lw_tbl := pm_in1 (List.mem_append_right _ (List.mem_append_right _ (List.mem_of_getElem? (i := 182) rfl)))
theorem ms_Mo_count : Cond.selects R_Mo y_Mo_count y_Mo_count ∈ lw_tbl := pm_in1 (List.mem_append_right _ (List.mem_append_right _ (List.mem_of_getElem? (i := 183) rfl)))
abbrev y_Mo_race : MethodName := ⟨R_Mo, "race", "(II)I"⟩
theorem mc_Mo_race : Cond.code y_Mo_race prog_10_method_33_code 4 (some .int) ∈ lw_tbl := pm_in1 (List.mem_append_right _ (List.mem_append_right _ (List.mem_of_getElem? (i := 188) rfl)))
theorem yd_Mo_race : pm_yd y_Mo_race 2 := ⟨by decide +kernel, by decide +kernel, by decide +kernel⟩
theorem mj_Mo_race : Cond.instanceMethod y_Mo_race ∈ lw_tbl := pm_in1 (List.mem_append_right _ (List.mem_append_right _ (List.mem_of_getElem? (i := 186) rfl)))
theorem ms_Mo_race : Cond.selects R_Mo y_Mo_race y_Mo_race ∈ lw_tbl := pm_in1 (List.mem_append_right _ (List.mem_append_right _ (List.mem_of_getElem? (i := 187) rfl)))
abbrev y_Mo_stuck : MethodName := ⟨R_Mo, "stuck", "()Z"⟩
theorem mc_Mo_stuck : Cond.code y_Mo_stuck prog_10_method_34_code 3 (some .boolean) ∈ lw_tbl := pm_in1 (List.mem_append_right _ (List.mem_append_right _ (List.mem_of_getElem? (i := 192) rfl)))
theorem yd_Mo_stuck : pm_yd y_Mo_stuck 0 := ⟨by decide +kernel, by decide +kernel, by decide +kernel⟩
theorem mj_Mo_stuck : Cond.instanceMethod y_Mo_stuck ∈ lw_tbl := pm_in1 (List.mem_append_right _ (List.mem_append_right _ (List.mem_of_getElem? (i := 190) rfl)))
theorem ms_Mo_stuck : Cond.selects R_Mo y_Mo_stuck y_Mo_stuck ∈ lw_tbl := pm_in1 (List.mem_append_right _ (List.mem_append_right _ (List.mem_of_getElem? (i := 191) rfl)))
abbrev y_Ar_fill : MethodName := ⟨R_Ar, "fill", "([II)V"⟩
theorem mc_Ar_fill : Cond.code y_Ar_fill prog_13_method_103_code 4 (none) ∈ lw_tbl := pm_in1 (List.mem_append_left _ (List.mem_of_getElem? (i := 65) rfl))
theorem yd_Ar_fill : pm_yd y_Ar_fill 2 := ⟨by decide +kernel, by decide +kernel, by decide +kernel⟩
theorem mt_Ar_fill : Cond.static y_Ar_fill ∈ lw_tbl := pm_in1 (List.mem_append_left _ (List.mem_of_getElem? (i := 64) rfl))
theorem mi_Lo : Cond.initialized R_Lo ∈ lw_tbl := pm_in1 (List.mem_append_left _ (List.mem_of_getElem? (i := 1) rfl))
theorem mi_Sh : Cond.initialized R_Sh ∈ lw_tbl := pm_in1 (List.mem_append_left _ (List.mem_of_getElem? (i := 2) rfl))
theorem mi_Bo : Cond.initialized R_Bo ∈ lw_tbl := pm_in1 (List.mem_append_left _ (List.mem_of_getElem? (i := 3) rfl))
theorem mi_Ru : Cond.initialized R_Ru ∈ lw_tbl := pm_in1 (List.mem_append_left _ (List.mem_of_getElem? (i := 5) rfl))
theorem mi_Rl : Cond.initialized R_Rl ∈ lw_tbl := pm_in1 (List.mem_append_left _ (List.mem_of_getElem? (i := 6) rfl))
theorem mi_Sd : Cond.initialized R_Sd ∈ lw_tbl := pm_in1 (List.mem_append_left _ (List.mem_of_getElem? (i := 7) rfl))
theorem mi_Lk : Cond.initialized R_Lk ∈ lw_tbl := pm_in1 (List.mem_append_left _ (List.mem_of_getElem? (i := 8) rfl))
theorem mi_Ce : Cond.initialized R_Ce ∈ lw_tbl := pm_in1 (List.mem_append_left _ (List.mem_of_getElem? (i := 9) rfl))
theorem mi_Mo : Cond.initialized R_Mo ∈ lw_tbl := pm_in1 (List.mem_append_left _ (List.mem_of_getElem? (i := 10) rfl))
theorem mi_Ar : Cond.initialized R_Ar ∈ lw_tbl := pm_in1 (List.mem_append_left _ (List.mem_of_getElem? (i := 4) rfl))
def pm_Y (k : Nat) : pm_N := match k with
  | 0 => (y_Lo_init, prog_1_method_1_code, 1, none)
  | 1 => (y_Lo_statement, prog_1_method_2_code, 3, some .int)
  | 2 => (y_Lo_isBelow, prog_1_method_16_code, 2, some .boolean)
  | 3 => (y_Lo_body, prog_1_method_3_code, 2, some .int)
  | 4 => (y_Lo_guard, prog_1_method_4_code, 3, some .boolean)
  | 5 => (y_Lo_check, prog_1_method_5_code, 2, some .int)
  | 6 => (y_Lo_sound, prog_1_method_6_code, 1, some .boolean)
  | 7 => (y_Lo_start, prog_1_method_7_code, 3, some .boolean)
  | 8 => (y_Lo_step, prog_1_method_8_code, 2, some .int)
  | 9 => (y_Lo_has, prog_1_method_9_code, 2, some .int)
  | 10 => (y_Lo_cell, prog_1_method_10_code, 2, some .int)
  | 11 => (y_Lo_holder, prog_1_method_11_code, 2, some .int)
  | 12 => (y_Lo_state, prog_1_method_12_code, 2, some .int)
  | 13 => (y_Lo_count, prog_1_method_13_code, 2, some .int)
  | 14 => (y_Lo_race, prog_1_method_14_code, 3, some .int)
  | 15 => (y_Lo_stuck, prog_1_method_15_code, 1, some .boolean)
  | 16 => (y_Sh_init, prog_7_method_1_code, 2, none)
  | 17 => (y_Sh_addStatement, prog_7_method_3_code, 3, some .int)
  | 18 => (y_Sh_fits, prog_7_method_4_code, 2, some .boolean)
  | 19 => (y_Sh_closeText, prog_7_method_5_code, 3, some .int)
  | 20 => (y_Sh_setGuard, prog_7_method_6_code, 3, some .boolean)
  | 21 => (y_Sh_contains, prog_7_method_2_code, 2, some .boolean)
  | 22 => (y_Sh_firstWrong, prog_7_method_7_code, 4, some .int)
  | 23 => (y_Sh_isRight, prog_7_method_9_code, 5, some .boolean)
  | 24 => (y_Sh_guardHeld, prog_7_method_10_code, 3, some .boolean)
  | 25 => (y_Sh_allRight, prog_7_method_8_code, 2, some .boolean)
  | 26 => (y_Bo_init, prog_2_method_1_code, 1, none)
  | 27 => (y_Bo_append, prog_2_method_3_code, 3, some .int)
  | 28 => (y_Bo_joinBlocks, prog_2_method_4_code, 5, some .boolean)
  | 29 => (y_Bo_closeBlock, prog_2_method_5_code, 4, some .int)
  | 30 => (y_Bo_clear, prog_2_method_2_code, 1, none)
  | 31 => (y_Ru_init, prog_6_method_1_code, 3, none)
  | 32 => (y_Ru_begin, prog_6_method_2_code, 4, none)
  | 33 => (y_Ru_leaveEnded, prog_6_method_6_code, 2, none)
  | 34 => (y_Ru_placeOf, prog_6_method_5_code, 1, some .int)
  | 35 => (y_Ru_bodyOf, prog_6_method_4_code, 2, some (.object "LockLoom$Body"))
  | 36 => (y_Ru_advance, prog_6_method_3_code, 3, some .int)
  | 37 => (y_Ru_wouldWait, prog_6_method_7_code, 4, some .boolean)
  | 38 => (y_Ru_perform, prog_6_method_8_code, 5, none)
  | 39 => (y_Ru_readCell, prog_6_method_9_code, 3, none)
  | 40 => (y_Ru_noteRace, prog_6_method_11_code, 4, none)
  | 41 => (y_Ru_writeCell, prog_6_method_10_code, 3, none)
  | 42 => (y_Ru_endBlock, prog_6_method_12_code, 4, none)
  | 43 => (y_Ru_fork, prog_6_method_13_code, 4, none)
  | 44 => (y_Ru_valueOf, prog_6_method_14_code, 2, some .int)
  | 45 => (y_Ru_contentOf, prog_6_method_15_code, 2, some .int)
  | 46 => (y_Ru_holderOf, prog_6_method_16_code, 2, some .int)
  | 47 => (y_Ru_stateOf, prog_6_method_17_code, 2, some .int)
  | 48 => (y_Ru_countOf, prog_6_method_18_code, 2, some .int)
  | 49 => (y_Ru_racePart, prog_6_method_19_code, 3, some .int)
  | 50 => (y_Ru_isStuck, prog_6_method_20_code, 4, some .boolean)
  | 51 => (y_Rl_init, prog_5_method_1_code, 1, none)
  | 52 => (y_Rl_clear, prog_5_method_2_code, 1, none)
  | 53 => (y_Rl_add, prog_5_method_3_code, 6, none)
  | 54 => (y_Rl_part, prog_5_method_4_code, 4, some .int)
  | 55 => (y_Sd_init, prog_8_method_1_code, 2, none)
  | 56 => (y_Sd_begin, prog_8_method_2_code, 3, none)
  | 57 => (y_Sd_enter, prog_8_method_3_code, 2, none)
  | 58 => (y_Sd_isDone, prog_8_method_4_code, 1, some .boolean)
  | 59 => (y_Sd_moveTo, prog_8_method_5_code, 2, none)
  | 60 => (y_Sd_learn, prog_8_method_6_code, 3, none)
  | 61 => (y_Lk_init, prog_4_method_1_code, 1, none)
  | 62 => (y_Lk_clear, prog_4_method_2_code, 1, none)
  | 63 => (y_Lk_refuses, prog_4_method_3_code, 2, some .boolean)
  | 64 => (y_Lk_take, prog_4_method_4_code, 2, none)
  | 65 => (y_Lk_release, prog_4_method_5_code, 2, none)
  | 66 => (y_Ce_init, prog_3_method_1_code, 1, none)
  | 67 => (y_Ce_clear, prog_3_method_2_code, 1, none)
  | 68 => (y_Ce_races, prog_3_method_3_code, 4, some .boolean)
  | 69 => (y_Mo_init, prog_10_method_1_code, 2, none)
  | 70 => (y_Mo_statement, prog_10_method_3_code, 4, some .int)
  | 71 => (y_Mo_isIn, prog_10_method_2_code, 2, some .boolean)
  | 72 => (y_Mo_body, prog_10_method_10_code, 4, some .int)
  | 73 => (y_Mo_isWhole, prog_10_method_9_code, 5, some .boolean)
  | 74 => (y_Mo_kindAt, prog_10_method_4_code, 3, some .int)
  | 75 => (y_Mo_openerOf, prog_10_method_7_code, 5, some .int)
  | 76 => (y_Mo_opens, prog_10_method_6_code, 1, some .boolean)
  | 77 => (y_Mo_closerOf, prog_10_method_8_code, 7, some .int)
  | 78 => (y_Mo_numberAt, prog_10_method_5_code, 3, some .int)
  | 79 => (y_Mo_guard, prog_10_method_11_code, 3, some .boolean)
  | 80 => (y_Mo_check, prog_10_method_14_code, 3, some .int)
  | 81 => (y_Mo_isRight, prog_10_method_13_code, 6, some .boolean)
  | 82 => (y_Mo_heldAt, prog_10_method_12_code, 5, some .int)
  | 83 => (y_Mo_sound, prog_10_method_15_code, 2, some .boolean)
  | 84 => (y_Mo_start, prog_10_method_19_code, 4, some .boolean)
  | 85 => (y_Mo_begin, prog_10_method_18_code, 4, none)
  | 86 => (y_Mo_enter, prog_10_method_16_code, 3, none)
  | 87 => (y_Mo_leave, prog_10_method_17_code, 3, none)
  | 88 => (y_Mo_step, prog_10_method_22_code, 4, some .int)
  | 89 => (y_Mo_isThread, prog_10_method_20_code, 2, some .boolean)
  | 90 => (y_Mo_waitsFor, prog_10_method_21_code, 4, some .int)
  | 91 => (y_Mo_does, prog_10_method_23_code, 6, none)
  | 92 => (y_Mo_meets, prog_10_method_27_code, 7, none)
  | 93 => (y_Mo_mark, prog_10_method_26_code, 2, none)
  | 94 => (y_Mo_takes, prog_10_method_24_code, 3, none)
  | 95 => (y_Mo_ends, prog_10_method_25_code, 6, none)
  | 96 => (y_Mo_has, prog_10_method_28_code, 2, some .int)
  | 97 => (y_Mo_cell, prog_10_method_29_code, 2, some .int)
  | 98 => (y_Mo_holder, prog_10_method_30_code, 2, some .int)
  | 99 => (y_Mo_state, prog_10_method_31_code, 2, some .int)
  | 100 => (y_Mo_count, prog_10_method_32_code, 2, some .int)
  | 101 => (y_Mo_race, prog_10_method_33_code, 4, some .int)
  | 102 => (y_Mo_stuck, prog_10_method_34_code, 3, some .boolean)
  | 103 => (y_Ar_fill, prog_13_method_103_code, 4, none)
  | _ => (y_Lo_init, prog_1_method_1_code, 1, none)
abbrev M_Lo_init : Nat := 0
abbrev M_Lo_statement : Nat := 1
abbrev M_Lo_isBelow : Nat := 2
abbrev M_Lo_body : Nat := 3
abbrev M_Lo_guard : Nat := 4
abbrev M_Lo_check : Nat := 5
abbrev M_Lo_sound : Nat := 6
abbrev M_Lo_start : Nat := 7
abbrev M_Lo_step : Nat := 8
abbrev M_Lo_has : Nat := 9
abbrev M_Lo_cell : Nat := 10
abbrev M_Lo_holder : Nat := 11
abbrev M_Lo_state : Nat := 12
abbrev M_Lo_count : Nat := 13
abbrev M_Lo_race : Nat := 14
abbrev M_Lo_stuck : Nat := 15
abbrev M_Sh_init : Nat := 16
abbrev M_Sh_addStatement : Nat := 17
abbrev M_Sh_fits : Nat := 18
abbrev M_Sh_closeText : Nat := 19
abbrev M_Sh_setGuard : Nat := 20
abbrev M_Sh_contains : Nat := 21
abbrev M_Sh_firstWrong : Nat := 22
abbrev M_Sh_isRight : Nat := 23
abbrev M_Sh_guardHeld : Nat := 24
abbrev M_Sh_allRight : Nat := 25
abbrev M_Bo_init : Nat := 26
abbrev M_Bo_append : Nat := 27
abbrev M_Bo_joinBlocks : Nat := 28
abbrev M_Bo_closeBlock : Nat := 29
abbrev M_Bo_clear : Nat := 30
abbrev M_Ru_init : Nat := 31
abbrev M_Ru_begin : Nat := 32
abbrev M_Ru_leaveEnded : Nat := 33
abbrev M_Ru_placeOf : Nat := 34
abbrev M_Ru_bodyOf : Nat := 35
abbrev M_Ru_advance : Nat := 36
abbrev M_Ru_wouldWait : Nat := 37
abbrev M_Ru_perform : Nat := 38
abbrev M_Ru_readCell : Nat := 39
abbrev M_Ru_noteRace : Nat := 40
abbrev M_Ru_writeCell : Nat := 41
abbrev M_Ru_endBlock : Nat := 42
abbrev M_Ru_fork : Nat := 43
abbrev M_Ru_valueOf : Nat := 44
abbrev M_Ru_contentOf : Nat := 45
abbrev M_Ru_holderOf : Nat := 46
abbrev M_Ru_stateOf : Nat := 47
abbrev M_Ru_countOf : Nat := 48
abbrev M_Ru_racePart : Nat := 49
abbrev M_Ru_isStuck : Nat := 50
abbrev M_Rl_init : Nat := 51
abbrev M_Rl_clear : Nat := 52
abbrev M_Rl_add : Nat := 53
abbrev M_Rl_part : Nat := 54
abbrev M_Sd_init : Nat := 55
abbrev M_Sd_begin : Nat := 56
abbrev M_Sd_enter : Nat := 57
abbrev M_Sd_isDone : Nat := 58
abbrev M_Sd_moveTo : Nat := 59
abbrev M_Sd_learn : Nat := 60
abbrev M_Lk_init : Nat := 61
abbrev M_Lk_clear : Nat := 62
abbrev M_Lk_refuses : Nat := 63
abbrev M_Lk_take : Nat := 64
abbrev M_Lk_release : Nat := 65
abbrev M_Ce_init : Nat := 66
abbrev M_Ce_clear : Nat := 67
abbrev M_Ce_races : Nat := 68
abbrev M_Mo_init : Nat := 69
abbrev M_Mo_statement : Nat := 70
abbrev M_Mo_isIn : Nat := 71
abbrev M_Mo_body : Nat := 72
abbrev M_Mo_isWhole : Nat := 73
abbrev M_Mo_kindAt : Nat := 74
abbrev M_Mo_openerOf : Nat := 75
abbrev M_Mo_opens : Nat := 76
abbrev M_Mo_closerOf : Nat := 77
abbrev M_Mo_numberAt : Nat := 78
abbrev M_Mo_guard : Nat := 79
abbrev M_Mo_check : Nat := 80
abbrev M_Mo_isRight : Nat := 81
abbrev M_Mo_heldAt : Nat := 82
abbrev M_Mo_sound : Nat := 83
abbrev M_Mo_start : Nat := 84
abbrev M_Mo_begin : Nat := 85
abbrev M_Mo_enter : Nat := 86
abbrev M_Mo_leave : Nat := 87
abbrev M_Mo_step : Nat := 88
abbrev M_Mo_isThread : Nat := 89
abbrev M_Mo_waitsFor : Nat := 90
abbrev M_Mo_does : Nat := 91
abbrev M_Mo_meets : Nat := 92
abbrev M_Mo_mark : Nat := 93
abbrev M_Mo_takes : Nat := 94
abbrev M_Mo_ends : Nat := 95
abbrev M_Mo_has : Nat := 96
abbrev M_Mo_cell : Nat := 97
abbrev M_Mo_holder : Nat := 98
abbrev M_Mo_state : Nat := 99
abbrev M_Mo_count : Nat := 100
abbrev M_Mo_race : Nat := 101
abbrev M_Mo_stuck : Nat := 102
abbrev M_Ar_fill : Nat := 103
theorem ml_Lo_9 : pm_ml R_Lo 9 y_Sh_init := Or.inl (pm_in1 (List.mem_append_left _ (List.mem_of_getElem? (i := 23) rfl)))
theorem ml_Lo_18 : pm_ml R_Lo 18 y_Ru_init := Or.inl (pm_in1 (List.mem_append_left _ (List.mem_of_getElem? (i := 82) rfl)))
theorem ml_Lo_25 : pm_ml R_Lo 25 y_Sh_addStatement := Or.inl (pm_in1 (List.mem_append_left _ (List.mem_of_getElem? (i := 205) rfl)))
theorem ml_Lo_29 : pm_ml R_Lo 29 y_Sh_closeText := Or.inl (pm_in1 (List.mem_append_left _ (List.mem_of_getElem? (i := 223) rfl)))
theorem ml_Lo_33 : pm_ml R_Lo 33 y_Sh_setGuard := Or.inl (pm_in1 (List.mem_append_right _ (List.mem_append_left _ (List.mem_of_getElem? (i := 3) rfl))))
theorem ml_Lo_37 : pm_ml R_Lo 37 y_Sh_contains := Or.inl (pm_in1 (List.mem_append_right _ (List.mem_append_left _ (List.mem_of_getElem? (i := 11) rfl))))
theorem ml_Lo_41 : pm_ml R_Lo 41 y_Sh_firstWrong := Or.inl (pm_in1 (List.mem_append_right _ (List.mem_append_left _ (List.mem_of_getElem? (i := 15) rfl))))
theorem ml_Lo_44 : pm_ml R_Lo 44 y_Sh_allRight := Or.inl (pm_in1 (List.mem_append_right _ (List.mem_append_left _ (List.mem_of_getElem? (i := 32) rfl))))
theorem ml_Lo_48 : pm_ml R_Lo 48 y_Ru_begin := Or.inl (pm_in1 (List.mem_append_right _ (List.mem_append_left _ (List.mem_of_getElem? (i := 41) rfl))))
theorem ml_Lo_52 : pm_ml R_Lo 52 y_Ru_advance := Or.inl (pm_in1 (List.mem_append_right _ (List.mem_append_left _ (List.mem_of_getElem? (i := 83) rfl))))
theorem ml_Lo_55 : pm_ml R_Lo 55 y_Ru_valueOf := Or.inl (pm_in1 (List.mem_append_right _ (List.mem_append_left _ (List.mem_of_getElem? (i := 161) rfl))))
theorem ml_Lo_58 : pm_ml R_Lo 58 y_Ru_contentOf := Or.inl (pm_in1 (List.mem_append_right _ (List.mem_append_left _ (List.mem_of_getElem? (i := 169) rfl))))
theorem ml_Lo_61 : pm_ml R_Lo 61 y_Ru_holderOf := Or.inl (pm_in1 (List.mem_append_right _ (List.mem_append_left _ (List.mem_of_getElem? (i := 177) rfl))))
theorem ml_Lo_64 : pm_ml R_Lo 64 y_Ru_stateOf := Or.inl (pm_in1 (List.mem_append_right _ (List.mem_append_left _ (List.mem_of_getElem? (i := 185) rfl))))
theorem ml_Lo_67 : pm_ml R_Lo 67 y_Ru_countOf := Or.inl (pm_in1 (List.mem_append_right _ (List.mem_append_left _ (List.mem_of_getElem? (i := 193) rfl))))
theorem ml_Lo_70 : pm_ml R_Lo 70 y_Ru_racePart := Or.inl (pm_in1 (List.mem_append_right _ (List.mem_append_left _ (List.mem_of_getElem? (i := 201) rfl))))
theorem ml_Lo_73 : pm_ml R_Lo 73 y_Ru_isStuck := Or.inl (pm_in1 (List.mem_append_right _ (List.mem_append_left _ (List.mem_of_getElem? (i := 217) rfl))))
theorem ml_Sh_21 : pm_ml R_Sh 21 y_Bo_init := Or.inr ⟨_, pm_in1 (List.mem_append_left _ (List.mem_of_getElem? (i := 30) rfl))⟩
theorem ml_Sh_26 : pm_ml R_Sh 26 y_Ar_fill := Or.inl (pm_in1 (List.mem_append_left _ (List.mem_of_getElem? (i := 63) rfl)))
theorem ml_Sh_40 : pm_ml R_Sh 40 y_Sh_fits := Or.inl (pm_in1 (List.mem_append_left _ (List.mem_of_getElem? (i := 209) rfl)))
theorem ml_Sh_43 : pm_ml R_Sh 43 y_Bo_append := Or.inl (pm_in1 (List.mem_append_left _ (List.mem_of_getElem? (i := 215) rfl)))
theorem ml_Sh_36 : pm_ml R_Sh 36 y_Lo_isBelow := Or.inr ⟨_, pm_in1 (List.mem_append_left _ (List.mem_of_getElem? (i := 212) rfl))⟩
theorem ml_Sh_47 : pm_ml R_Sh 47 y_Bo_joinBlocks := Or.inl (pm_in1 (List.mem_append_left _ (List.mem_of_getElem? (i := 227) rfl)))
theorem ml_Sh_51 : pm_ml R_Sh 51 y_Bo_clear := Or.inl (pm_in1 (List.mem_append_left _ (List.mem_of_getElem? (i := 235) rfl)))
theorem ml_Sh_57 : pm_ml R_Sh 57 y_Sh_isRight := Or.inl (pm_in1 (List.mem_append_right _ (List.mem_append_left _ (List.mem_of_getElem? (i := 19) rfl))))
theorem ml_Sh_74 : pm_ml R_Sh 74 y_Sh_guardHeld := Or.inl (pm_in1 (List.mem_append_right _ (List.mem_append_left _ (List.mem_of_getElem? (i := 23) rfl))))
theorem ml_Sh_77 : pm_ml R_Sh 77 y_Sh_contains := Or.inl (pm_in1 (List.mem_append_right _ (List.mem_append_left _ (List.mem_of_getElem? (i := 27) rfl))))
theorem ml_Sh_61 : pm_ml R_Sh 61 y_Sh_firstWrong := Or.inl (pm_in1 (List.mem_append_right _ (List.mem_append_left _ (List.mem_of_getElem? (i := 36) rfl))))
theorem ml_Bo_31 : pm_ml R_Bo 31 y_Bo_closeBlock := Or.inl (pm_in1 (List.mem_append_left _ (List.mem_of_getElem? (i := 231) rfl)))
theorem ml_Ru_31 : pm_ml R_Ru 31 y_Rl_init := Or.inr ⟨_, pm_in1 (List.mem_append_left _ (List.mem_of_getElem? (i := 94) rfl))⟩
theorem ml_Ru_40 : pm_ml R_Ru 40 y_Sd_init := Or.inl (pm_in1 (List.mem_append_left _ (List.mem_of_getElem? (i := 107) rfl)))
theorem ml_Ru_43 : pm_ml R_Ru 43 y_Lk_init := Or.inr ⟨_, pm_in1 (List.mem_append_left _ (List.mem_of_getElem? (i := 139) rfl))⟩
theorem ml_Ru_44 : pm_ml R_Ru 44 y_Ce_init := Or.inr ⟨_, pm_in1 (List.mem_append_left _ (List.mem_of_getElem? (i := 155) rfl))⟩
theorem ml_Ru_45 : pm_ml R_Ru 45 y_Lk_clear := Or.inl (pm_in1 (List.mem_append_right _ (List.mem_append_left _ (List.mem_of_getElem? (i := 45) rfl))))
theorem ml_Ru_48 : pm_ml R_Ru 48 y_Ce_clear := Or.inl (pm_in1 (List.mem_append_right _ (List.mem_append_left _ (List.mem_of_getElem? (i := 50) rfl))))
theorem ml_Ru_49 : pm_ml R_Ru 49 y_Rl_clear := Or.inl (pm_in1 (List.mem_append_right _ (List.mem_append_left _ (List.mem_of_getElem? (i := 55) rfl))))
theorem ml_Ru_61 : pm_ml R_Ru 61 y_Ar_fill := Or.inl (pm_in1 (List.mem_append_right _ (List.mem_append_left _ (List.mem_of_getElem? (i := 59) rfl))))
theorem ml_Ru_67 : pm_ml R_Ru 67 y_Sd_begin := Or.inl (pm_in1 (List.mem_append_right _ (List.mem_append_left _ (List.mem_of_getElem? (i := 60) rfl))))
theorem ml_Ru_71 : pm_ml R_Ru 71 y_Ru_leaveEnded := Or.inl (pm_in1 (List.mem_append_right _ (List.mem_append_left _ (List.mem_of_getElem? (i := 68) rfl))))
theorem ml_Ru_104 : pm_ml R_Ru 104 y_Ru_placeOf := Or.inl (pm_in1 (List.mem_append_right _ (List.mem_append_left _ (List.mem_of_getElem? (i := 72) rfl))))
theorem ml_Ru_108 : pm_ml R_Ru 108 y_Ru_bodyOf := Or.inl (pm_in1 (List.mem_append_right _ (List.mem_append_left _ (List.mem_of_getElem? (i := 75) rfl))))
theorem ml_Ru_75 : pm_ml R_Ru 75 y_Lo_isBelow := Or.inr ⟨_, pm_in1 (List.mem_append_right _ (List.mem_append_left _ (List.mem_of_getElem? (i := 87) rfl)))⟩
theorem ml_Ru_79 : pm_ml R_Ru 79 y_Sd_isDone := Or.inl (pm_in1 (List.mem_append_right _ (List.mem_append_left _ (List.mem_of_getElem? (i := 88) rfl))))
theorem ml_Ru_83 : pm_ml R_Ru 83 y_Ru_wouldWait := Or.inl (pm_in1 (List.mem_append_right _ (List.mem_append_left _ (List.mem_of_getElem? (i := 92) rfl))))
theorem ml_Ru_87 : pm_ml R_Ru 87 y_Ru_perform := Or.inl (pm_in1 (List.mem_append_right _ (List.mem_append_left _ (List.mem_of_getElem? (i := 100) rfl))))
theorem ml_Ru_123 : pm_ml R_Ru 123 y_Lk_refuses := Or.inl (pm_in1 (List.mem_append_right _ (List.mem_append_left _ (List.mem_of_getElem? (i := 96) rfl))))
theorem ml_Ru_126 : pm_ml R_Ru 126 y_Sd_moveTo := Or.inl (pm_in1 (List.mem_append_right _ (List.mem_append_left _ (List.mem_of_getElem? (i := 104) rfl))))
theorem ml_Ru_129 : pm_ml R_Ru 129 y_Ru_readCell := Or.inl (pm_in1 (List.mem_append_right _ (List.mem_append_left _ (List.mem_of_getElem? (i := 108) rfl))))
theorem ml_Ru_133 : pm_ml R_Ru 133 y_Ru_writeCell := Or.inl (pm_in1 (List.mem_append_right _ (List.mem_append_left _ (List.mem_of_getElem? (i := 124) rfl))))
theorem ml_Ru_139 : pm_ml R_Ru 139 y_Lk_take := Or.inl (pm_in1 (List.mem_append_right _ (List.mem_append_left _ (List.mem_of_getElem? (i := 128) rfl))))
theorem ml_Ru_145 : pm_ml R_Ru 145 y_Ru_endBlock := Or.inl (pm_in1 (List.mem_append_right _ (List.mem_append_left _ (List.mem_of_getElem? (i := 139) rfl))))
theorem ml_Ru_149 : pm_ml R_Ru 149 y_Ru_fork := Or.inl (pm_in1 (List.mem_append_right _ (List.mem_append_left _ (List.mem_of_getElem? (i := 150) rfl))))
theorem ml_Ru_152 : pm_ml R_Ru 152 y_Sh_contains := Or.inl (pm_in1 (List.mem_append_right _ (List.mem_append_left _ (List.mem_of_getElem? (i := 154) rfl))))
theorem ml_Ru_156 : pm_ml R_Ru 156 y_Sd_enter := Or.inl (pm_in1 (List.mem_append_right _ (List.mem_append_left _ (List.mem_of_getElem? (i := 156) rfl))))
theorem ml_Ru_159 : pm_ml R_Ru 159 y_Ru_noteRace := Or.inl (pm_in1 (List.mem_append_right _ (List.mem_append_left _ (List.mem_of_getElem? (i := 112) rfl))))
theorem ml_Ru_173 : pm_ml R_Ru 173 y_Ce_races := Or.inl (pm_in1 (List.mem_append_right _ (List.mem_append_left _ (List.mem_of_getElem? (i := 116) rfl))))
theorem ml_Ru_177 : pm_ml R_Ru 177 y_Rl_add := Or.inl (pm_in1 (List.mem_append_right _ (List.mem_append_left _ (List.mem_of_getElem? (i := 120) rfl))))
theorem ml_Ru_181 : pm_ml R_Ru 181 y_Lk_release := Or.inl (pm_in1 (List.mem_append_right _ (List.mem_append_left _ (List.mem_of_getElem? (i := 143) rfl))))
theorem ml_Ru_196 : pm_ml R_Ru 196 y_Rl_part := Or.inl (pm_in1 (List.mem_append_right _ (List.mem_append_left _ (List.mem_of_getElem? (i := 205) rfl))))
theorem ml_Ru_200 : pm_ml R_Ru 200 y_Ru_stateOf := Or.inl (pm_in1 (List.mem_append_right _ (List.mem_append_left _ (List.mem_of_getElem? (i := 221) rfl))))
theorem ml_Rl_25 : pm_ml R_Rl 25 y_Lo_isBelow := Or.inr ⟨_, pm_in1 (List.mem_append_right _ (List.mem_append_left _ (List.mem_of_getElem? (i := 212) rfl)))⟩
theorem ml_Sd_31 : pm_ml R_Sd 31 y_Sd_enter := Or.inl (pm_in1 (List.mem_append_right _ (List.mem_append_left _ (List.mem_of_getElem? (i := 64) rfl))))
theorem ml_Lk_19 : pm_ml R_Lk 19 y_Ar_fill := Or.inl (pm_in1 (List.mem_append_right _ (List.mem_append_left _ (List.mem_of_getElem? (i := 49) rfl))))
theorem ml_Lk_33 : pm_ml R_Lk 33 y_Sd_learn := Or.inl (pm_in1 (List.mem_append_right _ (List.mem_append_left _ (List.mem_of_getElem? (i := 132) rfl))))
theorem ml_Ce_18 : pm_ml R_Ce 18 y_Ar_fill := Or.inl (pm_in1 (List.mem_append_right _ (List.mem_append_left _ (List.mem_of_getElem? (i := 54) rfl))))
theorem ml_Mo_68 : pm_ml R_Mo 68 y_Mo_isIn := Or.inl (pm_in1 (List.mem_append_right _ (List.mem_append_right _ (List.mem_of_getElem? (i := 66) rfl))))
theorem ml_Mo_91 : pm_ml R_Mo 91 y_Mo_isWhole := Or.inl (pm_in1 (List.mem_append_right _ (List.mem_append_right _ (List.mem_of_getElem? (i := 73) rfl))))
theorem ml_Mo_72 : pm_ml R_Mo 72 y_Mo_kindAt := Or.inl (pm_in1 (List.mem_append_right _ (List.mem_append_right _ (List.mem_of_getElem? (i := 77) rfl))))
theorem ml_Mo_95 : pm_ml R_Mo 95 y_Mo_numberAt := Or.inl (pm_in1 (List.mem_append_right _ (List.mem_append_right _ (List.mem_of_getElem? (i := 92) rfl))))
theorem ml_Mo_80 : pm_ml R_Mo 80 y_Mo_openerOf := Or.inl (pm_in1 (List.mem_append_right _ (List.mem_append_right _ (List.mem_of_getElem? (i := 81) rfl))))
theorem ml_Mo_76 : pm_ml R_Mo 76 y_Mo_opens := Or.inl (pm_in1 (List.mem_append_right _ (List.mem_append_right _ (List.mem_of_getElem? (i := 85) rfl))))
theorem ml_Mo_83 : pm_ml R_Mo 83 y_Mo_closerOf := Or.inl (pm_in1 (List.mem_append_right _ (List.mem_append_right _ (List.mem_of_getElem? (i := 88) rfl))))
theorem ml_Mo_101 : pm_ml R_Mo 101 y_Mo_isRight := Or.inl (pm_in1 (List.mem_append_right _ (List.mem_append_right _ (List.mem_of_getElem? (i := 104) rfl))))
theorem ml_Mo_98 : pm_ml R_Mo 98 y_Mo_heldAt := Or.inl (pm_in1 (List.mem_append_right _ (List.mem_append_right _ (List.mem_of_getElem? (i := 108) rfl))))
theorem ml_Mo_104 : pm_ml R_Mo 104 y_Mo_check := Or.inl (pm_in1 (List.mem_append_right _ (List.mem_append_right _ (List.mem_of_getElem? (i := 116) rfl))))
theorem ml_Mo_129 : pm_ml R_Mo 129 y_Mo_begin := Or.inl (pm_in1 (List.mem_append_right _ (List.mem_append_right _ (List.mem_of_getElem? (i := 121) rfl))))
theorem ml_Mo_111 : pm_ml R_Mo 111 y_Mo_enter := Or.inl (pm_in1 (List.mem_append_right _ (List.mem_append_right _ (List.mem_of_getElem? (i := 125) rfl))))
theorem ml_Mo_115 : pm_ml R_Mo 115 y_Mo_leave := Or.inl (pm_in1 (List.mem_append_right _ (List.mem_append_right _ (List.mem_of_getElem? (i := 129) rfl))))
theorem ml_Mo_133 : pm_ml R_Mo 133 y_Mo_isThread := Or.inl (pm_in1 (List.mem_append_right _ (List.mem_append_right _ (List.mem_of_getElem? (i := 137) rfl))))
theorem ml_Mo_136 : pm_ml R_Mo 136 y_Mo_waitsFor := Or.inl (pm_in1 (List.mem_append_right _ (List.mem_append_right _ (List.mem_of_getElem? (i := 141) rfl))))
theorem ml_Mo_139 : pm_ml R_Mo 139 y_Mo_does := Or.inl (pm_in1 (List.mem_append_right _ (List.mem_append_right _ (List.mem_of_getElem? (i := 145) rfl))))
theorem ml_Mo_142 : pm_ml R_Mo 142 y_Mo_meets := Or.inl (pm_in1 (List.mem_append_right _ (List.mem_append_right _ (List.mem_of_getElem? (i := 149) rfl))))
theorem ml_Mo_145 : pm_ml R_Mo 145 y_Mo_takes := Or.inl (pm_in1 (List.mem_append_right _ (List.mem_append_right _ (List.mem_of_getElem? (i := 157) rfl))))
theorem ml_Mo_148 : pm_ml R_Mo 148 y_Mo_ends := Or.inl (pm_in1 (List.mem_append_right _ (List.mem_append_right _ (List.mem_of_getElem? (i := 161) rfl))))
theorem ml_Mo_151 : pm_ml R_Mo 151 y_Mo_mark := Or.inl (pm_in1 (List.mem_append_right _ (List.mem_append_right _ (List.mem_of_getElem? (i := 153) rfl))))
theorem ml_Mo_154 : pm_ml R_Mo 154 y_Mo_state := Or.inl (pm_in1 (List.mem_append_right _ (List.mem_append_right _ (List.mem_of_getElem? (i := 193) rfl))))
theorem ml_Law_9 : pm_ml R_Law 9 y_Lo_init := Or.inl (pm_in1 (List.mem_append_left _ (List.mem_of_getElem? (i := 15) rfl)))
theorem ml_Law_12 : pm_ml R_Law 12 y_Mo_init := Or.inl (pm_in1 (List.mem_append_right _ (List.mem_append_left _ (List.mem_of_getElem? (i := 224) rfl))))
theorem ml_Law_13 : pm_ml R_Law 13 y_Lo_statement := Or.inl (pm_in1 (List.mem_append_left _ (List.mem_of_getElem? (i := 201) rfl)))
theorem ml_Law_17 : pm_ml R_Law 17 y_Mo_statement := Or.inl (pm_in1 (List.mem_append_right _ (List.mem_append_right _ (List.mem_of_getElem? (i := 62) rfl))))
theorem ml_Law_18 : pm_ml R_Law 18 y_Lo_body := Or.inl (pm_in1 (List.mem_append_left _ (List.mem_of_getElem? (i := 219) rfl)))
theorem ml_Law_22 : pm_ml R_Law 22 y_Mo_body := Or.inl (pm_in1 (List.mem_append_right _ (List.mem_append_right _ (List.mem_of_getElem? (i := 69) rfl))))
theorem ml_Law_23 : pm_ml R_Law 23 y_Lo_guard := Or.inl (pm_in1 (List.mem_append_left _ (List.mem_of_getElem? (i := 239) rfl)))
theorem ml_Law_27 : pm_ml R_Law 27 y_Mo_guard := Or.inl (pm_in1 (List.mem_append_right _ (List.mem_append_right _ (List.mem_of_getElem? (i := 96) rfl))))
theorem ml_Law_28 : pm_ml R_Law 28 y_Lo_check := Or.inl (pm_in1 (List.mem_append_right _ (List.mem_append_left _ (List.mem_of_getElem? (i := 7) rfl))))
theorem ml_Law_31 : pm_ml R_Law 31 y_Mo_check := Or.inl (pm_in1 (List.mem_append_right _ (List.mem_append_right _ (List.mem_of_getElem? (i := 100) rfl))))
theorem ml_Law_32 : pm_ml R_Law 32 y_Lo_sound := Or.inl (pm_in1 (List.mem_append_right _ (List.mem_append_left _ (List.mem_of_getElem? (i := 28) rfl))))
theorem ml_Law_36 : pm_ml R_Law 36 y_Mo_sound := Or.inl (pm_in1 (List.mem_append_right _ (List.mem_append_right _ (List.mem_of_getElem? (i := 112) rfl))))
theorem ml_Law_37 : pm_ml R_Law 37 y_Lo_start := Or.inl (pm_in1 (List.mem_append_right _ (List.mem_append_left _ (List.mem_of_getElem? (i := 37) rfl))))
theorem ml_Law_40 : pm_ml R_Law 40 y_Mo_start := Or.inl (pm_in1 (List.mem_append_right _ (List.mem_append_right _ (List.mem_of_getElem? (i := 117) rfl))))
theorem ml_Law_41 : pm_ml R_Law 41 y_Lo_step := Or.inl (pm_in1 (List.mem_append_right _ (List.mem_append_left _ (List.mem_of_getElem? (i := 79) rfl))))
theorem ml_Law_44 : pm_ml R_Law 44 y_Mo_step := Or.inl (pm_in1 (List.mem_append_right _ (List.mem_append_right _ (List.mem_of_getElem? (i := 133) rfl))))
theorem ml_Law_45 : pm_ml R_Law 45 y_Lo_has := Or.inl (pm_in1 (List.mem_append_right _ (List.mem_append_left _ (List.mem_of_getElem? (i := 157) rfl))))
theorem ml_Law_48 : pm_ml R_Law 48 y_Mo_has := Or.inl (pm_in1 (List.mem_append_right _ (List.mem_append_right _ (List.mem_of_getElem? (i := 165) rfl))))
theorem ml_Law_49 : pm_ml R_Law 49 y_Lo_cell := Or.inl (pm_in1 (List.mem_append_right _ (List.mem_append_left _ (List.mem_of_getElem? (i := 165) rfl))))
theorem ml_Law_52 : pm_ml R_Law 52 y_Mo_cell := Or.inl (pm_in1 (List.mem_append_right _ (List.mem_append_right _ (List.mem_of_getElem? (i := 169) rfl))))
theorem ml_Law_53 : pm_ml R_Law 53 y_Lo_holder := Or.inl (pm_in1 (List.mem_append_right _ (List.mem_append_left _ (List.mem_of_getElem? (i := 173) rfl))))
theorem ml_Law_56 : pm_ml R_Law 56 y_Mo_holder := Or.inl (pm_in1 (List.mem_append_right _ (List.mem_append_right _ (List.mem_of_getElem? (i := 173) rfl))))
theorem ml_Law_57 : pm_ml R_Law 57 y_Lo_state := Or.inl (pm_in1 (List.mem_append_right _ (List.mem_append_left _ (List.mem_of_getElem? (i := 181) rfl))))
theorem ml_Law_60 : pm_ml R_Law 60 y_Mo_state := Or.inl (pm_in1 (List.mem_append_right _ (List.mem_append_right _ (List.mem_of_getElem? (i := 177) rfl))))
theorem ml_Law_61 : pm_ml R_Law 61 y_Lo_count := Or.inl (pm_in1 (List.mem_append_right _ (List.mem_append_left _ (List.mem_of_getElem? (i := 189) rfl))))
theorem ml_Law_64 : pm_ml R_Law 64 y_Mo_count := Or.inl (pm_in1 (List.mem_append_right _ (List.mem_append_right _ (List.mem_of_getElem? (i := 181) rfl))))
theorem ml_Law_65 : pm_ml R_Law 65 y_Lo_race := Or.inl (pm_in1 (List.mem_append_right _ (List.mem_append_left _ (List.mem_of_getElem? (i := 197) rfl))))
theorem ml_Law_68 : pm_ml R_Law 68 y_Mo_race := Or.inl (pm_in1 (List.mem_append_right _ (List.mem_append_right _ (List.mem_of_getElem? (i := 185) rfl))))
theorem ml_Law_69 : pm_ml R_Law 69 y_Lo_stuck := Or.inl (pm_in1 (List.mem_append_right _ (List.mem_append_left _ (List.mem_of_getElem? (i := 213) rfl))))
theorem ml_Law_72 : pm_ml R_Law 72 y_Mo_stuck := Or.inl (pm_in1 (List.mem_append_right _ (List.mem_append_right _ (List.mem_of_getElem? (i := 189) rfl))))
