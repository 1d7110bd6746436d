/-! ===== the class's constructors ===== -/
theorem d_Te_init_0 : decode jTe_init.cc 0 = .ok (.aload_n 0, 1) := by decide +kernel
theorem d_Te_init_1 : decode jTe_init.cc 1 = .ok (.invokespecial 1, 3) := by decide +kernel
theorem d_Te_init_4 : decode jTe_init.cc 4 = .ok (.aload_n 0, 1) := by decide +kernel
theorem d_Te_init_5 : decode jTe_init.cc 5 = .ok (.sipush 4000, 3) := by decide +kernel
theorem d_Te_init_8 : decode jTe_init.cc 8 = .ok (.newarray .byte, 2) := by decide +kernel
theorem d_Te_init_10 : decode jTe_init.cc 10 = .ok (.putfield 9, 3) := by decide +kernel
theorem d_Te_init_13 : decode jTe_init.cc 13 = .ok (.aload_n 0, 1) := by decide +kernel
theorem d_Te_init_14 : decode jTe_init.cc 14 = .ok (.sipush 1002, 3) := by decide +kernel
theorem d_Te_init_17 : decode jTe_init.cc 17 = .ok (.newarray .int, 2) := by decide +kernel
theorem d_Te_init_19 : decode jTe_init.cc 19 = .ok (.putfield 13, 3) := by decide +kernel
theorem d_Te_init_22 : decode jTe_init.cc 22 = .ok (.aload_n 0, 1) := by decide +kernel
theorem d_Te_init_23 : decode jTe_init.cc 23 = .ok (.sipush 1002, 3) := by decide +kernel
theorem d_Te_init_26 : decode jTe_init.cc 26 = .ok (.newarray .int, 2) := by decide +kernel
theorem d_Te_init_28 : decode jTe_init.cc 28 = .ok (.putfield 17, 3) := by decide +kernel
theorem d_Te_init_31 : decode jTe_init.cc 31 = .ok (.aload_n 0, 1) := by decide +kernel
theorem d_Te_init_32 : decode jTe_init.cc 32 = .ok (.sipush 1002, 3) := by decide +kernel
theorem d_Te_init_35 : decode jTe_init.cc 35 = .ok (.newarray .int, 2) := by decide +kernel
theorem d_Te_init_37 : decode jTe_init.cc 37 = .ok (.putfield 20, 3) := by decide +kernel
theorem d_Te_init_40 : decode jTe_init.cc 40 = .ok (.aload_n 0, 1) := by decide +kernel
theorem d_Te_init_41 : decode jTe_init.cc 41 = .ok (.sipush 1002, 3) := by decide +kernel
theorem d_Te_init_44 : decode jTe_init.cc 44 = .ok (.newarray .int, 2) := by decide +kernel
theorem d_Te_init_46 : decode jTe_init.cc 46 = .ok (.putfield 23, 3) := by decide +kernel
theorem d_Te_init_49 : decode jTe_init.cc 49 = .ok (.return_, 1) := by decide +kernel
set_option maxRecDepth 20000 in
theorem ff_Te_9 : FF "VertexLanguage$Text" 9 9 0 7 := ⟨cR9, cT9, rfl, by decide, by decide, rfl, rfl, mt_1 40 rfl rfl⟩
set_option maxRecDepth 20000 in
theorem ff_Te_13 : FF "VertexLanguage$Text" 13 9 2 7 := ⟨cR9, cT9, rfl, by decide, by decide, rfl, rfl, mt_1 44 rfl rfl⟩
set_option maxRecDepth 20000 in
theorem ff_Te_17 : FF "VertexLanguage$Text" 17 9 3 7 := ⟨cR9, cT9, rfl, by decide, by decide, rfl, rfl, mt_1 46 rfl rfl⟩
set_option maxRecDepth 20000 in
theorem ff_Te_20 : FF "VertexLanguage$Text" 20 9 4 7 := ⟨cR9, cT9, rfl, by decide, by decide, rfl, rfl, mt_1 51 rfl rfl⟩
set_option maxRecDepth 20000 in
theorem ff_Te_23 : FF "VertexLanguage$Text" 23 9 5 7 := ⟨cR9, cT9, rfl, by decide, by decide, rfl, rfl, mt_1 54 rfl rfl⟩
theorem d_Lo_init_0 : decode jLo_init.cc 0 = .ok (.aload_n 0, 1) := by decide +kernel
theorem d_Lo_init_1 : decode jLo_init.cc 1 = .ok (.invokespecial 1, 3) := by decide +kernel
theorem d_Lo_init_4 : decode jLo_init.cc 4 = .ok (.aload_n 0, 1) := by decide +kernel
theorem d_Lo_init_5 : decode jLo_init.cc 5 = .ok (.bipush 28, 2) := by decide +kernel
theorem d_Lo_init_7 : decode jLo_init.cc 7 = .ok (.newarray .int, 2) := by decide +kernel
theorem d_Lo_init_9 : decode jLo_init.cc 9 = .ok (.putfield 9, 3) := by decide +kernel
theorem d_Lo_init_12 : decode jLo_init.cc 12 = .ok (.aload_n 0, 1) := by decide +kernel
theorem d_Lo_init_13 : decode jLo_init.cc 13 = .ok (.bipush 28, 2) := by decide +kernel
theorem d_Lo_init_15 : decode jLo_init.cc 15 = .ok (.newarray .int, 2) := by decide +kernel
theorem d_Lo_init_17 : decode jLo_init.cc 17 = .ok (.putfield 13, 3) := by decide +kernel
theorem d_Lo_init_20 : decode jLo_init.cc 20 = .ok (.aload_n 0, 1) := by decide +kernel
theorem d_Lo_init_21 : decode jLo_init.cc 21 = .ok (.bipush 28, 2) := by decide +kernel
theorem d_Lo_init_23 : decode jLo_init.cc 23 = .ok (.newarray .int, 2) := by decide +kernel
theorem d_Lo_init_25 : decode jLo_init.cc 25 = .ok (.putfield 16, 3) := by decide +kernel
theorem d_Lo_init_28 : decode jLo_init.cc 28 = .ok (.aload_n 0, 1) := by decide +kernel
theorem d_Lo_init_29 : decode jLo_init.cc 29 = .ok (.bipush 28, 2) := by decide +kernel
theorem d_Lo_init_31 : decode jLo_init.cc 31 = .ok (.newarray .int, 2) := by decide +kernel
theorem d_Lo_init_33 : decode jLo_init.cc 33 = .ok (.putfield 19, 3) := by decide +kernel
theorem d_Lo_init_36 : decode jLo_init.cc 36 = .ok (.aload_n 0, 1) := by decide +kernel
theorem d_Lo_init_37 : decode jLo_init.cc 37 = .ok (.getstatic 22, 3) := by decide +kernel
theorem d_Lo_init_40 : decode jLo_init.cc 40 = .ok (.arraylength, 1) := by decide +kernel
theorem d_Lo_init_41 : decode jLo_init.cc 41 = .ok (.newarray .int, 2) := by decide +kernel
theorem d_Lo_init_43 : decode jLo_init.cc 43 = .ok (.putfield 25, 3) := by decide +kernel
theorem d_Lo_init_46 : decode jLo_init.cc 46 = .ok (.aload_n 0, 1) := by decide +kernel
theorem d_Lo_init_47 : decode jLo_init.cc 47 = .ok (.aload_n 1, 1) := by decide +kernel
theorem d_Lo_init_48 : decode jLo_init.cc 48 = .ok (.putfield 28, 3) := by decide +kernel
theorem d_Lo_init_51 : decode jLo_init.cc 51 = .ok (.return_, 1) := by decide +kernel
set_option maxRecDepth 20000 in
theorem ff_Lo_9 : FF "VertexLanguage$Lot" 9 4 1 7 := ⟨cR4, cT4, rfl, by decide, by decide, rfl, rfl, mt_1 92 rfl rfl⟩
set_option maxRecDepth 20000 in
theorem ff_Lo_13 : FF "VertexLanguage$Lot" 13 4 2 7 := ⟨cR4, cT4, rfl, by decide, by decide, rfl, rfl, mt_1 93 rfl rfl⟩
set_option maxRecDepth 20000 in
theorem ff_Lo_16 : FF "VertexLanguage$Lot" 16 4 3 7 := ⟨cR4, cT4, rfl, by decide, by decide, rfl, rfl, mt_1 94 rfl rfl⟩
set_option maxRecDepth 20000 in
theorem ff_Lo_19 : FF "VertexLanguage$Lot" 19 4 4 7 := ⟨cR4, cT4, rfl, by decide, by decide, rfl, rfl, mt_1 95 rfl rfl⟩
set_option maxRecDepth 20000 in
theorem ff_Lo_25 : FF "VertexLanguage$Lot" 25 4 5 7 := ⟨cR4, cT4, rfl, by decide, by decide, rfl, rfl, mt_1 96 rfl rfl⟩
set_option maxRecDepth 20000 in
theorem ff_Lo_28 : FF "VertexLanguage$Lot" 28 4 0 7 := ⟨cR4, cT4, rfl, by decide, by decide, rfl, rfl, mt_1 91 rfl rfl⟩
theorem d_Co_init_0 : decode jCo_init.cc 0 = .ok (.aload_n 0, 1) := by decide +kernel
theorem d_Co_init_1 : decode jCo_init.cc 1 = .ok (.invokespecial 3, 3) := by decide +kernel
theorem d_Co_init_4 : decode jCo_init.cc 4 = .ok (.aload_n 0, 1) := by decide +kernel
theorem d_Co_init_5 : decode jCo_init.cc 5 = .ok (.sipush 1024, 3) := by decide +kernel
theorem d_Co_init_8 : decode jCo_init.cc 8 = .ok (.newarray .int, 2) := by decide +kernel
theorem d_Co_init_10 : decode jCo_init.cc 10 = .ok (.putfield 11, 3) := by decide +kernel
theorem d_Co_init_13 : decode jCo_init.cc 13 = .ok (.aload_n 0, 1) := by decide +kernel
theorem d_Co_init_14 : decode jCo_init.cc 14 = .ok (.sipush 1024, 3) := by decide +kernel
theorem d_Co_init_17 : decode jCo_init.cc 17 = .ok (.newarray .int, 2) := by decide +kernel
theorem d_Co_init_19 : decode jCo_init.cc 19 = .ok (.putfield 15, 3) := by decide +kernel
theorem d_Co_init_22 : decode jCo_init.cc 22 = .ok (.aload_n 0, 1) := by decide +kernel
theorem d_Co_init_23 : decode jCo_init.cc 23 = .ok (.sipush 1024, 3) := by decide +kernel
theorem d_Co_init_26 : decode jCo_init.cc 26 = .ok (.newarray .int, 2) := by decide +kernel
theorem d_Co_init_28 : decode jCo_init.cc 28 = .ok (.putfield 18, 3) := by decide +kernel
theorem d_Co_init_31 : decode jCo_init.cc 31 = .ok (.aload_n 0, 1) := by decide +kernel
theorem d_Co_init_32 : decode jCo_init.cc 32 = .ok (.sipush 1024, 3) := by decide +kernel
theorem d_Co_init_35 : decode jCo_init.cc 35 = .ok (.newarray .int, 2) := by decide +kernel
theorem d_Co_init_37 : decode jCo_init.cc 37 = .ok (.putfield 21, 3) := by decide +kernel
theorem d_Co_init_40 : decode jCo_init.cc 40 = .ok (.return_, 1) := by decide +kernel
set_option maxRecDepth 20000 in
theorem ff_Co_11 : FF "VertexLanguage$Code" 11 0 0 6 := ⟨cR0, cT0, rfl, by decide, by decide, rfl, rfl, mt_1 119 rfl rfl⟩
set_option maxRecDepth 20000 in
theorem ff_Co_15 : FF "VertexLanguage$Code" 15 0 1 6 := ⟨cR0, cT0, rfl, by decide, by decide, rfl, rfl, mt_1 121 rfl rfl⟩
set_option maxRecDepth 20000 in
theorem ff_Co_18 : FF "VertexLanguage$Code" 18 0 2 6 := ⟨cR0, cT0, rfl, by decide, by decide, rfl, rfl, mt_1 123 rfl rfl⟩
set_option maxRecDepth 20000 in
theorem ff_Co_21 : FF "VertexLanguage$Code" 21 0 3 6 := ⟨cR0, cT0, rfl, by decide, by decide, rfl, rfl, mt_1 125 rfl rfl⟩
theorem d_Pr_init_0 : decode jPr_init.cc 0 = .ok (.aload_n 0, 1) := by decide +kernel
theorem d_Pr_init_1 : decode jPr_init.cc 1 = .ok (.invokespecial 1, 3) := by decide +kernel
theorem d_Pr_init_4 : decode jPr_init.cc 4 = .ok (.aload_n 0, 1) := by decide +kernel
theorem d_Pr_init_5 : decode jPr_init.cc 5 = .ok (.bipush 8, 2) := by decide +kernel
theorem d_Pr_init_7 : decode jPr_init.cc 7 = .ok (.newarray .int, 2) := by decide +kernel
theorem d_Pr_init_9 : decode jPr_init.cc 9 = .ok (.putfield 9, 3) := by decide +kernel
theorem d_Pr_init_12 : decode jPr_init.cc 12 = .ok (.aload_n 0, 1) := by decide +kernel
theorem d_Pr_init_13 : decode jPr_init.cc 13 = .ok (.iconst 4, 1) := by decide +kernel
theorem d_Pr_init_14 : decode jPr_init.cc 14 = .ok (.newarray .int, 2) := by decide +kernel
theorem d_Pr_init_16 : decode jPr_init.cc 16 = .ok (.putfield 15, 3) := by decide +kernel
theorem d_Pr_init_19 : decode jPr_init.cc 19 = .ok (.aload_n 0, 1) := by decide +kernel
theorem d_Pr_init_20 : decode jPr_init.cc 20 = .ok (.iconst 4, 1) := by decide +kernel
theorem d_Pr_init_21 : decode jPr_init.cc 21 = .ok (.newarray .int, 2) := by decide +kernel
theorem d_Pr_init_23 : decode jPr_init.cc 23 = .ok (.putfield 18, 3) := by decide +kernel
theorem d_Pr_init_26 : decode jPr_init.cc 26 = .ok (.aload_n 0, 1) := by decide +kernel
theorem d_Pr_init_27 : decode jPr_init.cc 27 = .ok (.sipush 5000, 3) := by decide +kernel
theorem d_Pr_init_30 : decode jPr_init.cc 30 = .ok (.newarray .byte, 2) := by decide +kernel
theorem d_Pr_init_32 : decode jPr_init.cc 32 = .ok (.putfield 23, 3) := by decide +kernel
theorem d_Pr_init_35 : decode jPr_init.cc 35 = .ok (.aload_n 0, 1) := by decide +kernel
theorem d_Pr_init_36 : decode jPr_init.cc 36 = .ok (.new 7, 3) := by decide +kernel
theorem d_Pr_init_39 : decode jPr_init.cc 39 = .ok (.dup, 1) := by decide +kernel
theorem d_Pr_init_40 : decode jPr_init.cc 40 = .ok (.aload_n 1, 1) := by decide +kernel
theorem d_Pr_init_41 : decode jPr_init.cc 41 = .ok (.invokespecial 27, 3) := by decide +kernel
theorem d_Pr_init_44 : decode jPr_init.cc 44 = .ok (.putfield 30, 3) := by decide +kernel
theorem d_Pr_init_47 : decode jPr_init.cc 47 = .ok (.aload_n 0, 1) := by decide +kernel
theorem d_Pr_init_48 : decode jPr_init.cc 48 = .ok (.new 34, 3) := by decide +kernel
theorem d_Pr_init_51 : decode jPr_init.cc 51 = .ok (.dup, 1) := by decide +kernel
theorem d_Pr_init_52 : decode jPr_init.cc 52 = .ok (.invokespecial 36, 3) := by decide +kernel
theorem d_Pr_init_55 : decode jPr_init.cc 55 = .ok (.putfield 37, 3) := by decide +kernel
theorem d_Pr_init_58 : decode jPr_init.cc 58 = .ok (.return_, 1) := by decide +kernel
set_option maxRecDepth 20000 in
theorem ff_Pr_9 : FF "VertexLanguage$Program" 9 7 6 11 := ⟨cR7, cT7, rfl, by decide, by decide, rfl, rfl, mt_1 163 rfl rfl⟩
set_option maxRecDepth 20000 in
theorem ff_Pr_15 : FF "VertexLanguage$Program" 15 7 7 11 := ⟨cR7, cT7, rfl, by decide, by decide, rfl, rfl, mt_1 166 rfl rfl⟩
set_option maxRecDepth 20000 in
theorem ff_Pr_18 : FF "VertexLanguage$Program" 18 7 8 11 := ⟨cR7, cT7, rfl, by decide, by decide, rfl, rfl, mt_1 169 rfl rfl⟩
set_option maxRecDepth 20000 in
theorem ff_Pr_23 : FF "VertexLanguage$Program" 23 7 9 11 := ⟨cR7, cT7, rfl, by decide, by decide, rfl, rfl, mt_1 172 rfl rfl⟩
set_option maxRecDepth 20000 in
theorem ff_Pr_30 : FF "VertexLanguage$Program" 30 7 0 11 := ⟨cR7, cT7, rfl, by decide, by decide, rfl, rfl, mt_1 146 rfl rfl⟩
set_option maxRecDepth 20000 in
theorem ff_Pr_37 : FF "VertexLanguage$Program" 37 7 1 11 := ⟨cR7, cT7, rfl, by decide, by decide, rfl, rfl, mt_1 151 rfl rfl⟩
theorem d_Cu_init_0 : decode jCu_init.cc 0 = .ok (.aload_n 0, 1) := by decide +kernel
theorem d_Cu_init_1 : decode jCu_init.cc 1 = .ok (.invokespecial 1, 3) := by decide +kernel
theorem d_Cu_init_4 : decode jCu_init.cc 4 = .ok (.aload_n 0, 1) := by decide +kernel
theorem d_Cu_init_5 : decode jCu_init.cc 5 = .ok (.aload_n 1, 1) := by decide +kernel
theorem d_Cu_init_6 : decode jCu_init.cc 6 = .ok (.putfield 7, 3) := by decide +kernel
theorem d_Cu_init_9 : decode jCu_init.cc 9 = .ok (.return_, 1) := by decide +kernel
set_option maxRecDepth 20000 in
theorem ff_Cu_7 : FF "VertexLanguage$Cursor" 7 1 0 6 := ⟨cR1, cT1, rfl, by decide, by decide, rfl, rfl, mt_1 211 rfl rfl⟩
theorem d_Ex_init_0 : decode jEx_init.cc 0 = .ok (.aload_n 0, 1) := by decide +kernel
theorem d_Ex_init_1 : decode jEx_init.cc 1 = .ok (.invokespecial 1, 3) := by decide +kernel
theorem d_Ex_init_4 : decode jEx_init.cc 4 = .ok (.aload_n 0, 1) := by decide +kernel
theorem d_Ex_init_5 : decode jEx_init.cc 5 = .ok (.sipush 1002, 3) := by decide +kernel
theorem d_Ex_init_8 : decode jEx_init.cc 8 = .ok (.newarray .int, 2) := by decide +kernel
theorem d_Ex_init_10 : decode jEx_init.cc 10 = .ok (.putfield 9, 3) := by decide +kernel
theorem d_Ex_init_13 : decode jEx_init.cc 13 = .ok (.aload_n 0, 1) := by decide +kernel
theorem d_Ex_init_14 : decode jEx_init.cc 14 = .ok (.sipush 1002, 3) := by decide +kernel
theorem d_Ex_init_17 : decode jEx_init.cc 17 = .ok (.newarray .int, 2) := by decide +kernel
theorem d_Ex_init_19 : decode jEx_init.cc 19 = .ok (.putfield 15, 3) := by decide +kernel
theorem d_Ex_init_22 : decode jEx_init.cc 22 = .ok (.aload_n 0, 1) := by decide +kernel
theorem d_Ex_init_23 : decode jEx_init.cc 23 = .ok (.sipush 1002, 3) := by decide +kernel
theorem d_Ex_init_26 : decode jEx_init.cc 26 = .ok (.newarray .int, 2) := by decide +kernel
theorem d_Ex_init_28 : decode jEx_init.cc 28 = .ok (.putfield 18, 3) := by decide +kernel
theorem d_Ex_init_31 : decode jEx_init.cc 31 = .ok (.aload_n 0, 1) := by decide +kernel
theorem d_Ex_init_32 : decode jEx_init.cc 32 = .ok (.sipush 1002, 3) := by decide +kernel
theorem d_Ex_init_35 : decode jEx_init.cc 35 = .ok (.newarray .boolean, 2) := by decide +kernel
theorem d_Ex_init_37 : decode jEx_init.cc 37 = .ok (.putfield 21, 3) := by decide +kernel
theorem d_Ex_init_40 : decode jEx_init.cc 40 = .ok (.aload_n 0, 1) := by decide +kernel
theorem d_Ex_init_41 : decode jEx_init.cc 41 = .ok (.aload_n 1, 1) := by decide +kernel
theorem d_Ex_init_42 : decode jEx_init.cc 42 = .ok (.putfield 25, 3) := by decide +kernel
theorem d_Ex_init_45 : decode jEx_init.cc 45 = .ok (.aload_n 0, 1) := by decide +kernel
theorem d_Ex_init_46 : decode jEx_init.cc 46 = .ok (.aload_n 2, 1) := by decide +kernel
theorem d_Ex_init_47 : decode jEx_init.cc 47 = .ok (.putfield 29, 3) := by decide +kernel
theorem d_Ex_init_50 : decode jEx_init.cc 50 = .ok (.aload_n 0, 1) := by decide +kernel
theorem d_Ex_init_51 : decode jEx_init.cc 51 = .ok (.aload_n 3, 1) := by decide +kernel
theorem d_Ex_init_52 : decode jEx_init.cc 52 = .ok (.getfield 33, 3) := by decide +kernel
theorem d_Ex_init_55 : decode jEx_init.cc 55 = .ok (.putfield 39, 3) := by decide +kernel
theorem d_Ex_init_58 : decode jEx_init.cc 58 = .ok (.aload_n 0, 1) := by decide +kernel
theorem d_Ex_init_59 : decode jEx_init.cc 59 = .ok (.aload_n 3, 1) := by decide +kernel
theorem d_Ex_init_60 : decode jEx_init.cc 60 = .ok (.getfield 40, 3) := by decide +kernel
theorem d_Ex_init_63 : decode jEx_init.cc 63 = .ok (.putfield 44, 3) := by decide +kernel
theorem d_Ex_init_66 : decode jEx_init.cc 66 = .ok (.return_, 1) := by decide +kernel
set_option maxRecDepth 20000 in
theorem ff_Ex_9 : FF "VertexLanguage$Exps" 9 2 5 9 := ⟨cR2, cT2, rfl, by decide, by decide, rfl, rfl, mt_2 2 rfl rfl⟩
set_option maxRecDepth 20000 in
theorem ff_Ex_15 : FF "VertexLanguage$Exps" 15 2 6 9 := ⟨cR2, cT2, rfl, by decide, by decide, rfl, rfl, mt_2 3 rfl rfl⟩
set_option maxRecDepth 20000 in
theorem ff_Ex_18 : FF "VertexLanguage$Exps" 18 2 7 9 := ⟨cR2, cT2, rfl, by decide, by decide, rfl, rfl, mt_2 4 rfl rfl⟩
set_option maxRecDepth 20000 in
theorem ff_Ex_21 : FF "VertexLanguage$Exps" 21 2 8 9 := ⟨cR2, cT2, rfl, by decide, by decide, rfl, rfl, mt_2 5 rfl rfl⟩
set_option maxRecDepth 20000 in
theorem ff_Ex_25 : FF "VertexLanguage$Exps" 25 2 0 9 := ⟨cR2, cT2, rfl, by decide, by decide, rfl, rfl, mt_1 236 rfl rfl⟩
set_option maxRecDepth 20000 in
theorem ff_Ex_29 : FF "VertexLanguage$Exps" 29 2 1 9 := ⟨cR2, cT2, rfl, by decide, by decide, rfl, rfl, mt_1 237 rfl rfl⟩
set_option maxRecDepth 20000 in
theorem ff_Ex_39 : FF "VertexLanguage$Exps" 39 2 2 9 := ⟨cR2, cT2, rfl, by decide, by decide, rfl, rfl, mt_1 238 rfl rfl⟩
set_option maxRecDepth 20000 in
theorem ff_Ex_44 : FF "VertexLanguage$Exps" 44 2 3 9 := ⟨cR2, cT2, rfl, by decide, by decide, rfl, rfl, mt_1 239 rfl rfl⟩
theorem d_Re_init_0 : decode jRe_init.cc 0 = .ok (.aload_n 0, 1) := by decide +kernel
theorem d_Re_init_1 : decode jRe_init.cc 1 = .ok (.invokespecial 1, 3) := by decide +kernel
theorem d_Re_init_4 : decode jRe_init.cc 4 = .ok (.aload_n 0, 1) := by decide +kernel
theorem d_Re_init_5 : decode jRe_init.cc 5 = .ok (.aload_n 1, 1) := by decide +kernel
theorem d_Re_init_6 : decode jRe_init.cc 6 = .ok (.putfield 7, 3) := by decide +kernel
theorem d_Re_init_9 : decode jRe_init.cc 9 = .ok (.aload_n 0, 1) := by decide +kernel
theorem d_Re_init_10 : decode jRe_init.cc 10 = .ok (.aload_n 2, 1) := by decide +kernel
theorem d_Re_init_11 : decode jRe_init.cc 11 = .ok (.putfield 13, 3) := by decide +kernel
theorem d_Re_init_14 : decode jRe_init.cc 14 = .ok (.aload_n 0, 1) := by decide +kernel
theorem d_Re_init_15 : decode jRe_init.cc 15 = .ok (.aload_n 2, 1) := by decide +kernel
theorem d_Re_init_16 : decode jRe_init.cc 16 = .ok (.getfield 17, 3) := by decide +kernel
theorem d_Re_init_19 : decode jRe_init.cc 19 = .ok (.putfield 23, 3) := by decide +kernel
theorem d_Re_init_22 : decode jRe_init.cc 22 = .ok (.aload_n 0, 1) := by decide +kernel
theorem d_Re_init_23 : decode jRe_init.cc 23 = .ok (.aload_n 2, 1) := by decide +kernel
theorem d_Re_init_24 : decode jRe_init.cc 24 = .ok (.getfield 24, 3) := by decide +kernel
theorem d_Re_init_27 : decode jRe_init.cc 27 = .ok (.putfield 28, 3) := by decide +kernel
theorem d_Re_init_30 : decode jRe_init.cc 30 = .ok (.aload_n 0, 1) := by decide +kernel
theorem d_Re_init_31 : decode jRe_init.cc 31 = .ok (.new 29, 3) := by decide +kernel
theorem d_Re_init_34 : decode jRe_init.cc 34 = .ok (.dup, 1) := by decide +kernel
theorem d_Re_init_35 : decode jRe_init.cc 35 = .ok (.aload_n 1, 1) := by decide +kernel
theorem d_Re_init_36 : decode jRe_init.cc 36 = .ok (.invokespecial 31, 3) := by decide +kernel
theorem d_Re_init_39 : decode jRe_init.cc 39 = .ok (.putfield 34, 3) := by decide +kernel
theorem d_Re_init_42 : decode jRe_init.cc 42 = .ok (.aload_n 0, 1) := by decide +kernel
theorem d_Re_init_43 : decode jRe_init.cc 43 = .ok (.new 38, 3) := by decide +kernel
theorem d_Re_init_46 : decode jRe_init.cc 46 = .ok (.dup, 1) := by decide +kernel
theorem d_Re_init_47 : decode jRe_init.cc 47 = .ok (.aload_n 1, 1) := by decide +kernel
theorem d_Re_init_48 : decode jRe_init.cc 48 = .ok (.aload_n 0, 1) := by decide +kernel
theorem d_Re_init_49 : decode jRe_init.cc 49 = .ok (.getfield 34, 3) := by decide +kernel
theorem d_Re_init_52 : decode jRe_init.cc 52 = .ok (.aload_n 2, 1) := by decide +kernel
theorem d_Re_init_53 : decode jRe_init.cc 53 = .ok (.invokespecial 40, 3) := by decide +kernel
theorem d_Re_init_56 : decode jRe_init.cc 56 = .ok (.putfield 43, 3) := by decide +kernel
theorem d_Re_init_59 : decode jRe_init.cc 59 = .ok (.return_, 1) := by decide +kernel
set_option maxRecDepth 20000 in
theorem ff_Re_7 : FF "VertexLanguage$Reader" 7 8 0 7 := ⟨cR8, cT8, rfl, by decide, by decide, rfl, rfl, mt_2 26 rfl rfl⟩
set_option maxRecDepth 20000 in
theorem ff_Re_13 : FF "VertexLanguage$Reader" 13 8 1 7 := ⟨cR8, cT8, rfl, by decide, by decide, rfl, rfl, mt_2 27 rfl rfl⟩
set_option maxRecDepth 20000 in
theorem ff_Re_23 : FF "VertexLanguage$Reader" 23 8 2 7 := ⟨cR8, cT8, rfl, by decide, by decide, rfl, rfl, mt_2 28 rfl rfl⟩
set_option maxRecDepth 20000 in
theorem ff_Re_28 : FF "VertexLanguage$Reader" 28 8 3 7 := ⟨cR8, cT8, rfl, by decide, by decide, rfl, rfl, mt_2 29 rfl rfl⟩
set_option maxRecDepth 20000 in
theorem ff_Re_34 : FF "VertexLanguage$Reader" 34 8 4 7 := ⟨cR8, cT8, rfl, by decide, by decide, rfl, rfl, mt_2 30 rfl rfl⟩
set_option maxRecDepth 20000 in
theorem ff_Re_43 : FF "VertexLanguage$Reader" 43 8 5 7 := ⟨cR8, cT8, rfl, by decide, by decide, rfl, rfl, mt_2 31 rfl rfl⟩
theorem d_Gr_init_0 : decode jGr_init.cc 0 = .ok (.aload_n 0, 1) := by decide +kernel
theorem d_Gr_init_1 : decode jGr_init.cc 1 = .ok (.invokespecial 1, 3) := by decide +kernel
theorem d_Gr_init_4 : decode jGr_init.cc 4 = .ok (.aload_n 0, 1) := by decide +kernel
theorem d_Gr_init_5 : decode jGr_init.cc 5 = .ok (.bipush 120, 2) := by decide +kernel
theorem d_Gr_init_7 : decode jGr_init.cc 7 = .ok (.newarray .int, 2) := by decide +kernel
theorem d_Gr_init_9 : decode jGr_init.cc 9 = .ok (.putfield 9, 3) := by decide +kernel
theorem d_Gr_init_12 : decode jGr_init.cc 12 = .ok (.aload_n 0, 1) := by decide +kernel
theorem d_Gr_init_13 : decode jGr_init.cc 13 = .ok (.bipush 120, 2) := by decide +kernel
theorem d_Gr_init_15 : decode jGr_init.cc 15 = .ok (.newarray .int, 2) := by decide +kernel
theorem d_Gr_init_17 : decode jGr_init.cc 17 = .ok (.putfield 13, 3) := by decide +kernel
theorem d_Gr_init_20 : decode jGr_init.cc 20 = .ok (.aload_n 0, 1) := by decide +kernel
theorem d_Gr_init_21 : decode jGr_init.cc 21 = .ok (.sipush 480, 3) := by decide +kernel
theorem d_Gr_init_24 : decode jGr_init.cc 24 = .ok (.newarray .int, 2) := by decide +kernel
theorem d_Gr_init_26 : decode jGr_init.cc 26 = .ok (.putfield 16, 3) := by decide +kernel
theorem d_Gr_init_29 : decode jGr_init.cc 29 = .ok (.aload_n 0, 1) := by decide +kernel
theorem d_Gr_init_30 : decode jGr_init.cc 30 = .ok (.bipush 40, 2) := by decide +kernel
theorem d_Gr_init_32 : decode jGr_init.cc 32 = .ok (.newarray .int, 2) := by decide +kernel
theorem d_Gr_init_34 : decode jGr_init.cc 34 = .ok (.putfield 19, 3) := by decide +kernel
theorem d_Gr_init_37 : decode jGr_init.cc 37 = .ok (.aload_n 0, 1) := by decide +kernel
theorem d_Gr_init_38 : decode jGr_init.cc 38 = .ok (.bipush 40, 2) := by decide +kernel
theorem d_Gr_init_40 : decode jGr_init.cc 40 = .ok (.newarray .int, 2) := by decide +kernel
theorem d_Gr_init_42 : decode jGr_init.cc 42 = .ok (.putfield 22, 3) := by decide +kernel
theorem d_Gr_init_45 : decode jGr_init.cc 45 = .ok (.aload_n 0, 1) := by decide +kernel
theorem d_Gr_init_46 : decode jGr_init.cc 46 = .ok (.bipush 40, 2) := by decide +kernel
theorem d_Gr_init_48 : decode jGr_init.cc 48 = .ok (.newarray .int, 2) := by decide +kernel
theorem d_Gr_init_50 : decode jGr_init.cc 50 = .ok (.putfield 25, 3) := by decide +kernel
theorem d_Gr_init_53 : decode jGr_init.cc 53 = .ok (.aload_n 0, 1) := by decide +kernel
theorem d_Gr_init_54 : decode jGr_init.cc 54 = .ok (.bipush 40, 2) := by decide +kernel
theorem d_Gr_init_56 : decode jGr_init.cc 56 = .ok (.newarray .int, 2) := by decide +kernel
theorem d_Gr_init_58 : decode jGr_init.cc 58 = .ok (.putfield 28, 3) := by decide +kernel
theorem d_Gr_init_61 : decode jGr_init.cc 61 = .ok (.aload_n 0, 1) := by decide +kernel
theorem d_Gr_init_62 : decode jGr_init.cc 62 = .ok (.bipush 120, 2) := by decide +kernel
theorem d_Gr_init_64 : decode jGr_init.cc 64 = .ok (.newarray .int, 2) := by decide +kernel
theorem d_Gr_init_66 : decode jGr_init.cc 66 = .ok (.putfield 31, 3) := by decide +kernel
theorem d_Gr_init_69 : decode jGr_init.cc 69 = .ok (.aload_n 0, 1) := by decide +kernel
theorem d_Gr_init_70 : decode jGr_init.cc 70 = .ok (.bipush 40, 2) := by decide +kernel
theorem d_Gr_init_72 : decode jGr_init.cc 72 = .ok (.newarray .int, 2) := by decide +kernel
theorem d_Gr_init_74 : decode jGr_init.cc 74 = .ok (.putfield 34, 3) := by decide +kernel
theorem d_Gr_init_77 : decode jGr_init.cc 77 = .ok (.aload_n 0, 1) := by decide +kernel
theorem d_Gr_init_78 : decode jGr_init.cc 78 = .ok (.bipush 40, 2) := by decide +kernel
theorem d_Gr_init_80 : decode jGr_init.cc 80 = .ok (.newarray .int, 2) := by decide +kernel
theorem d_Gr_init_82 : decode jGr_init.cc 82 = .ok (.putfield 37, 3) := by decide +kernel
theorem d_Gr_init_85 : decode jGr_init.cc 85 = .ok (.aload_n 0, 1) := by decide +kernel
theorem d_Gr_init_86 : decode jGr_init.cc 86 = .ok (.bipush 120, 2) := by decide +kernel
theorem d_Gr_init_88 : decode jGr_init.cc 88 = .ok (.newarray .int, 2) := by decide +kernel
theorem d_Gr_init_90 : decode jGr_init.cc 90 = .ok (.putfield 40, 3) := by decide +kernel
theorem d_Gr_init_93 : decode jGr_init.cc 93 = .ok (.aload_n 0, 1) := by decide +kernel
theorem d_Gr_init_94 : decode jGr_init.cc 94 = .ok (.iconst 1, 1) := by decide +kernel
theorem d_Gr_init_95 : decode jGr_init.cc 95 = .ok (.invokevirtual 43, 3) := by decide +kernel
theorem d_Gr_init_98 : decode jGr_init.cc 98 = .ok (.return_, 1) := by decide +kernel
set_option maxRecDepth 20000 in
theorem ff_Gr_9 : FF "VertexLanguage$Graph" 9 3 2 13 := ⟨cR3, cT3, rfl, by decide, by decide, rfl, rfl, mt_2 67 rfl rfl⟩
set_option maxRecDepth 20000 in
theorem ff_Gr_13 : FF "VertexLanguage$Graph" 13 3 3 13 := ⟨cR3, cT3, rfl, by decide, by decide, rfl, rfl, mt_2 68 rfl rfl⟩
set_option maxRecDepth 20000 in
theorem ff_Gr_16 : FF "VertexLanguage$Graph" 16 3 4 13 := ⟨cR3, cT3, rfl, by decide, by decide, rfl, rfl, mt_2 69 rfl rfl⟩
set_option maxRecDepth 20000 in
theorem ff_Gr_19 : FF "VertexLanguage$Graph" 19 3 5 13 := ⟨cR3, cT3, rfl, by decide, by decide, rfl, rfl, mt_2 70 rfl rfl⟩
set_option maxRecDepth 20000 in
theorem ff_Gr_22 : FF "VertexLanguage$Graph" 22 3 6 13 := ⟨cR3, cT3, rfl, by decide, by decide, rfl, rfl, mt_2 72 rfl rfl⟩
set_option maxRecDepth 20000 in
theorem ff_Gr_25 : FF "VertexLanguage$Graph" 25 3 7 13 := ⟨cR3, cT3, rfl, by decide, by decide, rfl, rfl, mt_2 74 rfl rfl⟩
set_option maxRecDepth 20000 in
theorem ff_Gr_28 : FF "VertexLanguage$Graph" 28 3 8 13 := ⟨cR3, cT3, rfl, by decide, by decide, rfl, rfl, mt_2 75 rfl rfl⟩
set_option maxRecDepth 20000 in
theorem ff_Gr_31 : FF "VertexLanguage$Graph" 31 3 9 13 := ⟨cR3, cT3, rfl, by decide, by decide, rfl, rfl, mt_2 76 rfl rfl⟩
set_option maxRecDepth 20000 in
theorem ff_Gr_34 : FF "VertexLanguage$Graph" 34 3 10 13 := ⟨cR3, cT3, rfl, by decide, by decide, rfl, rfl, mt_2 77 rfl rfl⟩
set_option maxRecDepth 20000 in
theorem ff_Gr_37 : FF "VertexLanguage$Graph" 37 3 11 13 := ⟨cR3, cT3, rfl, by decide, by decide, rfl, rfl, mt_2 78 rfl rfl⟩
set_option maxRecDepth 20000 in
theorem ff_Gr_40 : FF "VertexLanguage$Graph" 40 3 12 13 := ⟨cR3, cT3, rfl, by decide, by decide, rfl, rfl, mt_2 79 rfl rfl⟩
theorem d_Mo_init_0 : decode jMo_init.cc 0 = .ok (.aload_n 0, 1) := by decide +kernel
theorem d_Mo_init_1 : decode jMo_init.cc 1 = .ok (.invokespecial 1, 3) := by decide +kernel
theorem d_Mo_init_4 : decode jMo_init.cc 4 = .ok (.aload_n 0, 1) := by decide +kernel
theorem d_Mo_init_5 : decode jMo_init.cc 5 = .ok (.sipush 320, 3) := by decide +kernel
theorem d_Mo_init_8 : decode jMo_init.cc 8 = .ok (.newarray .int, 2) := by decide +kernel
theorem d_Mo_init_10 : decode jMo_init.cc 10 = .ok (.putfield 11, 3) := by decide +kernel
theorem d_Mo_init_13 : decode jMo_init.cc 13 = .ok (.aload_n 0, 1) := by decide +kernel
theorem d_Mo_init_14 : decode jMo_init.cc 14 = .ok (.bipush 40, 2) := by decide +kernel
theorem d_Mo_init_16 : decode jMo_init.cc 16 = .ok (.newarray .boolean, 2) := by decide +kernel
theorem d_Mo_init_18 : decode jMo_init.cc 18 = .ok (.putfield 17, 3) := by decide +kernel
theorem d_Mo_init_21 : decode jMo_init.cc 21 = .ok (.aload_n 0, 1) := by decide +kernel
theorem d_Mo_init_22 : decode jMo_init.cc 22 = .ok (.sipush 160, 3) := by decide +kernel
theorem d_Mo_init_25 : decode jMo_init.cc 25 = .ok (.newarray .int, 2) := by decide +kernel
theorem d_Mo_init_27 : decode jMo_init.cc 27 = .ok (.putfield 21, 3) := by decide +kernel
theorem d_Mo_init_30 : decode jMo_init.cc 30 = .ok (.aload_n 0, 1) := by decide +kernel
theorem d_Mo_init_31 : decode jMo_init.cc 31 = .ok (.sipush 160, 3) := by decide +kernel
theorem d_Mo_init_34 : decode jMo_init.cc 34 = .ok (.newarray .int, 2) := by decide +kernel
theorem d_Mo_init_36 : decode jMo_init.cc 36 = .ok (.putfield 24, 3) := by decide +kernel
theorem d_Mo_init_39 : decode jMo_init.cc 39 = .ok (.aload_n 0, 1) := by decide +kernel
theorem d_Mo_init_40 : decode jMo_init.cc 40 = .ok (.iconst 4, 1) := by decide +kernel
theorem d_Mo_init_41 : decode jMo_init.cc 41 = .ok (.newarray .int, 2) := by decide +kernel
theorem d_Mo_init_43 : decode jMo_init.cc 43 = .ok (.putfield 27, 3) := by decide +kernel
theorem d_Mo_init_46 : decode jMo_init.cc 46 = .ok (.aload_n 0, 1) := by decide +kernel
theorem d_Mo_init_47 : decode jMo_init.cc 47 = .ok (.iconst 4, 1) := by decide +kernel
theorem d_Mo_init_48 : decode jMo_init.cc 48 = .ok (.newarray .int, 2) := by decide +kernel
theorem d_Mo_init_50 : decode jMo_init.cc 50 = .ok (.putfield 30, 3) := by decide +kernel
theorem d_Mo_init_53 : decode jMo_init.cc 53 = .ok (.return_, 1) := by decide +kernel
set_option maxRecDepth 20000 in
theorem ff_Mo_11 : FF "VertexLanguage$Moment" 11 6 2 8 := ⟨cR6, cT6, rfl, by decide, by decide, rfl, rfl, mt_2 126 rfl rfl⟩
set_option maxRecDepth 20000 in
theorem ff_Mo_17 : FF "VertexLanguage$Moment" 17 6 3 8 := ⟨cR6, cT6, rfl, by decide, by decide, rfl, rfl, mt_2 129 rfl rfl⟩
set_option maxRecDepth 20000 in
theorem ff_Mo_21 : FF "VertexLanguage$Moment" 21 6 4 8 := ⟨cR6, cT6, rfl, by decide, by decide, rfl, rfl, mt_2 133 rfl rfl⟩
set_option maxRecDepth 20000 in
theorem ff_Mo_24 : FF "VertexLanguage$Moment" 24 6 5 8 := ⟨cR6, cT6, rfl, by decide, by decide, rfl, rfl, mt_2 136 rfl rfl⟩
set_option maxRecDepth 20000 in
theorem ff_Mo_27 : FF "VertexLanguage$Moment" 27 6 6 8 := ⟨cR6, cT6, rfl, by decide, by decide, rfl, rfl, mt_2 139 rfl rfl⟩
set_option maxRecDepth 20000 in
theorem ff_Mo_30 : FF "VertexLanguage$Moment" 30 6 7 8 := ⟨cR6, cT6, rfl, by decide, by decide, rfl, rfl, mt_2 142 rfl rfl⟩
theorem d_Wo_init_0 : decode jWo_init.cc 0 = .ok (.aload_n 0, 1) := by decide +kernel
theorem d_Wo_init_1 : decode jWo_init.cc 1 = .ok (.invokespecial 1, 3) := by decide +kernel
theorem d_Wo_init_4 : decode jWo_init.cc 4 = .ok (.aload_n 0, 1) := by decide +kernel
theorem d_Wo_init_5 : decode jWo_init.cc 5 = .ok (.bipush 64, 2) := by decide +kernel
theorem d_Wo_init_7 : decode jWo_init.cc 7 = .ok (.newarray .int, 2) := by decide +kernel
theorem d_Wo_init_9 : decode jWo_init.cc 9 = .ok (.putfield 9, 3) := by decide +kernel
theorem d_Wo_init_12 : decode jWo_init.cc 12 = .ok (.aload_n 0, 1) := by decide +kernel
theorem d_Wo_init_13 : decode jWo_init.cc 13 = .ok (.bipush 8, 2) := by decide +kernel
theorem d_Wo_init_15 : decode jWo_init.cc 15 = .ok (.newarray .int, 2) := by decide +kernel
theorem d_Wo_init_17 : decode jWo_init.cc 17 = .ok (.putfield 15, 3) := by decide +kernel
theorem d_Wo_init_20 : decode jWo_init.cc 20 = .ok (.aload_n 0, 1) := by decide +kernel
theorem d_Wo_init_21 : decode jWo_init.cc 21 = .ok (.bipush 16, 2) := by decide +kernel
theorem d_Wo_init_23 : decode jWo_init.cc 23 = .ok (.newarray .int, 2) := by decide +kernel
theorem d_Wo_init_25 : decode jWo_init.cc 25 = .ok (.putfield 18, 3) := by decide +kernel
theorem d_Wo_init_28 : decode jWo_init.cc 28 = .ok (.aload_n 0, 1) := by decide +kernel
theorem d_Wo_init_29 : decode jWo_init.cc 29 = .ok (.aload_n 1, 1) := by decide +kernel
theorem d_Wo_init_30 : decode jWo_init.cc 30 = .ok (.putfield 21, 3) := by decide +kernel
theorem d_Wo_init_33 : decode jWo_init.cc 33 = .ok (.aload_n 0, 1) := by decide +kernel
theorem d_Wo_init_34 : decode jWo_init.cc 34 = .ok (.aload_n 1, 1) := by decide +kernel
theorem d_Wo_init_35 : decode jWo_init.cc 35 = .ok (.getfield 25, 3) := by decide +kernel
theorem d_Wo_init_38 : decode jWo_init.cc 38 = .ok (.putfield 31, 3) := by decide +kernel
theorem d_Wo_init_41 : decode jWo_init.cc 41 = .ok (.aload_n 0, 1) := by decide +kernel
theorem d_Wo_init_42 : decode jWo_init.cc 42 = .ok (.aload_n 2, 1) := by decide +kernel
theorem d_Wo_init_43 : decode jWo_init.cc 43 = .ok (.putfield 32, 3) := by decide +kernel
theorem d_Wo_init_46 : decode jWo_init.cc 46 = .ok (.aload_n 0, 1) := by decide +kernel
theorem d_Wo_init_47 : decode jWo_init.cc 47 = .ok (.aload_n 3, 1) := by decide +kernel
theorem d_Wo_init_48 : decode jWo_init.cc 48 = .ok (.putfield 36, 3) := by decide +kernel
theorem d_Wo_init_51 : decode jWo_init.cc 51 = .ok (.aload_n 0, 1) := by decide +kernel
theorem d_Wo_init_52 : decode jWo_init.cc 52 = .ok (.aload_n 3, 1) := by decide +kernel
theorem d_Wo_init_53 : decode jWo_init.cc 53 = .ok (.putfield 40, 3) := by decide +kernel
theorem d_Wo_init_56 : decode jWo_init.cc 56 = .ok (.return_, 1) := by decide +kernel
set_option maxRecDepth 20000 in
theorem ff_Wo_9 : FF "VertexLanguage$Worker" 9 10 3 18 := ⟨cR10, cT10, rfl, by decide, by decide, rfl, rfl, mt_2 169 rfl rfl⟩
set_option maxRecDepth 20000 in
theorem ff_Wo_15 : FF "VertexLanguage$Worker" 15 10 4 18 := ⟨cR10, cT10, rfl, by decide, by decide, rfl, rfl, mt_2 170 rfl rfl⟩
set_option maxRecDepth 20000 in
theorem ff_Wo_18 : FF "VertexLanguage$Worker" 18 10 5 18 := ⟨cR10, cT10, rfl, by decide, by decide, rfl, rfl, mt_2 171 rfl rfl⟩
set_option maxRecDepth 20000 in
theorem ff_Wo_21 : FF "VertexLanguage$Worker" 21 10 0 18 := ⟨cR10, cT10, rfl, by decide, by decide, rfl, rfl, mt_2 166 rfl rfl⟩
set_option maxRecDepth 20000 in
theorem ff_Wo_31 : FF "VertexLanguage$Worker" 31 10 1 18 := ⟨cR10, cT10, rfl, by decide, by decide, rfl, rfl, mt_2 167 rfl rfl⟩
set_option maxRecDepth 20000 in
theorem ff_Wo_32 : FF "VertexLanguage$Worker" 32 10 2 18 := ⟨cR10, cT10, rfl, by decide, by decide, rfl, rfl, mt_2 168 rfl rfl⟩
theorem d_Ma_init_0 : decode jMa_init.cc 0 = .ok (.aload_n 0, 1) := by decide +kernel
theorem d_Ma_init_1 : decode jMa_init.cc 1 = .ok (.invokespecial 5, 3) := by decide +kernel
theorem d_Ma_init_4 : decode jMa_init.cc 4 = .ok (.aload_n 0, 1) := by decide +kernel
theorem d_Ma_init_5 : decode jMa_init.cc 5 = .ok (.bipush 8, 2) := by decide +kernel
theorem d_Ma_init_7 : decode jMa_init.cc 7 = .ok (.anewarray 11, 3) := by decide +kernel
theorem d_Ma_init_10 : decode jMa_init.cc 10 = .ok (.putfield 13, 3) := by decide +kernel
theorem d_Ma_init_13 : decode jMa_init.cc 13 = .ok (.aload_n 0, 1) := by decide +kernel
theorem d_Ma_init_14 : decode jMa_init.cc 14 = .ok (.aload_n 1, 1) := by decide +kernel
theorem d_Ma_init_15 : decode jMa_init.cc 15 = .ok (.putfield 17, 3) := by decide +kernel
theorem d_Ma_init_18 : decode jMa_init.cc 18 = .ok (.aload_n 0, 1) := by decide +kernel
theorem d_Ma_init_19 : decode jMa_init.cc 19 = .ok (.aload_n 2, 1) := by decide +kernel
theorem d_Ma_init_20 : decode jMa_init.cc 20 = .ok (.putfield 21, 3) := by decide +kernel
theorem d_Ma_init_23 : decode jMa_init.cc 23 = .ok (.iconst 0, 1) := by decide +kernel
theorem d_Ma_init_24 : decode jMa_init.cc 24 = .ok (.istore_n 3, 1) := by decide +kernel
theorem d_Ma_init_25 : decode jMa_init.cc 25 = .ok (.iload_n 3, 1) := by decide +kernel
theorem d_Ma_init_26 : decode jMa_init.cc 26 = .ok (.bipush 8, 2) := by decide +kernel
theorem d_Ma_init_28 : decode jMa_init.cc 28 = .ok (.if_icmp .ge 22, 3) := by decide +kernel
theorem d_Ma_init_31 : decode jMa_init.cc 31 = .ok (.aload_n 0, 1) := by decide +kernel
theorem d_Ma_init_32 : decode jMa_init.cc 32 = .ok (.getfield 13, 3) := by decide +kernel
theorem d_Ma_init_35 : decode jMa_init.cc 35 = .ok (.iload_n 3, 1) := by decide +kernel
theorem d_Ma_init_36 : decode jMa_init.cc 36 = .ok (.new 11, 3) := by decide +kernel
theorem d_Ma_init_39 : decode jMa_init.cc 39 = .ok (.dup, 1) := by decide +kernel
theorem d_Ma_init_40 : decode jMa_init.cc 40 = .ok (.invokespecial 25, 3) := by decide +kernel
theorem d_Ma_init_43 : decode jMa_init.cc 43 = .ok (.aastore, 1) := by decide +kernel
theorem d_Ma_init_44 : decode jMa_init.cc 44 = .ok (.iinc 3 1, 3) := by decide +kernel
theorem d_Ma_init_47 : decode jMa_init.cc 47 = .ok (.goto (-22), 3) := by decide +kernel
theorem d_Ma_init_50 : decode jMa_init.cc 50 = .ok (.aload_n 0, 1) := by decide +kernel
theorem d_Ma_init_51 : decode jMa_init.cc 51 = .ok (.new 26, 3) := by decide +kernel
theorem d_Ma_init_54 : decode jMa_init.cc 54 = .ok (.dup, 1) := by decide +kernel
theorem d_Ma_init_55 : decode jMa_init.cc 55 = .ok (.aload_n 1, 1) := by decide +kernel
theorem d_Ma_init_56 : decode jMa_init.cc 56 = .ok (.aload_n 2, 1) := by decide +kernel
theorem d_Ma_init_57 : decode jMa_init.cc 57 = .ok (.aload_n 0, 1) := by decide +kernel
theorem d_Ma_init_58 : decode jMa_init.cc 58 = .ok (.getfield 13, 3) := by decide +kernel
theorem d_Ma_init_61 : decode jMa_init.cc 61 = .ok (.iconst 0, 1) := by decide +kernel
theorem d_Ma_init_62 : decode jMa_init.cc 62 = .ok (.aaload, 1) := by decide +kernel
theorem d_Ma_init_63 : decode jMa_init.cc 63 = .ok (.invokespecial 28, 3) := by decide +kernel
theorem d_Ma_init_66 : decode jMa_init.cc 66 = .ok (.putfield 31, 3) := by decide +kernel
theorem d_Ma_init_69 : decode jMa_init.cc 69 = .ok (.return_, 1) := by decide +kernel
set_option maxRecDepth 20000 in
theorem ff_Ma_13 : FF "VertexLanguage$Machine" 13 5 3 13 := ⟨cR5, cT5, rfl, by decide, by decide, rfl, rfl, mt_2 227 rfl rfl⟩
set_option maxRecDepth 20000 in
theorem ff_Ma_17 : FF "VertexLanguage$Machine" 17 5 0 13 := ⟨cR5, cT5, rfl, by decide, by decide, rfl, rfl, mt_2 224 rfl rfl⟩
set_option maxRecDepth 20000 in
theorem ff_Ma_21 : FF "VertexLanguage$Machine" 21 5 1 13 := ⟨cR5, cT5, rfl, by decide, by decide, rfl, rfl, mt_2 225 rfl rfl⟩
set_option maxRecDepth 20000 in
theorem ff_Ma_31 : FF "VertexLanguage$Machine" 31 5 2 13 := ⟨cR5, cT5, rfl, by decide, by decide, rfl, rfl, mt_2 226 rfl rfl⟩
theorem d_VL_init_0 : decode jVL_init.cc 0 = .ok (.aload_n 0, 1) := by decide +kernel
theorem d_VL_init_1 : decode jVL_init.cc 1 = .ok (.invokespecial 1, 3) := by decide +kernel
theorem d_VL_init_4 : decode jVL_init.cc 4 = .ok (.aload_n 0, 1) := by decide +kernel
theorem d_VL_init_5 : decode jVL_init.cc 5 = .ok (.sipush 4000, 3) := by decide +kernel
theorem d_VL_init_8 : decode jVL_init.cc 8 = .ok (.newarray .byte, 2) := by decide +kernel
theorem d_VL_init_10 : decode jVL_init.cc 10 = .ok (.putfield 9, 3) := by decide +kernel
theorem d_VL_init_13 : decode jVL_init.cc 13 = .ok (.aload_n 0, 1) := by decide +kernel
theorem d_VL_init_14 : decode jVL_init.cc 14 = .ok (.new 7, 3) := by decide +kernel
theorem d_VL_init_17 : decode jVL_init.cc 17 = .ok (.dup, 1) := by decide +kernel
theorem d_VL_init_18 : decode jVL_init.cc 18 = .ok (.invokespecial 15, 3) := by decide +kernel
theorem d_VL_init_21 : decode jVL_init.cc 21 = .ok (.putfield 16, 3) := by decide +kernel
theorem d_VL_init_24 : decode jVL_init.cc 24 = .ok (.aload_n 0, 1) := by decide +kernel
theorem d_VL_init_25 : decode jVL_init.cc 25 = .ok (.new 20, 3) := by decide +kernel
theorem d_VL_init_28 : decode jVL_init.cc 28 = .ok (.dup, 1) := by decide +kernel
theorem d_VL_init_29 : decode jVL_init.cc 29 = .ok (.aload_n 0, 1) := by decide +kernel
theorem d_VL_init_30 : decode jVL_init.cc 30 = .ok (.getfield 16, 3) := by decide +kernel
theorem d_VL_init_33 : decode jVL_init.cc 33 = .ok (.invokespecial 22, 3) := by decide +kernel
theorem d_VL_init_36 : decode jVL_init.cc 36 = .ok (.putfield 25, 3) := by decide +kernel
theorem d_VL_init_39 : decode jVL_init.cc 39 = .ok (.aload_n 0, 1) := by decide +kernel
theorem d_VL_init_40 : decode jVL_init.cc 40 = .ok (.new 29, 3) := by decide +kernel
theorem d_VL_init_43 : decode jVL_init.cc 43 = .ok (.dup, 1) := by decide +kernel
theorem d_VL_init_44 : decode jVL_init.cc 44 = .ok (.aload_n 0, 1) := by decide +kernel
theorem d_VL_init_45 : decode jVL_init.cc 45 = .ok (.getfield 16, 3) := by decide +kernel
theorem d_VL_init_48 : decode jVL_init.cc 48 = .ok (.aload_n 0, 1) := by decide +kernel
theorem d_VL_init_49 : decode jVL_init.cc 49 = .ok (.getfield 25, 3) := by decide +kernel
theorem d_VL_init_52 : decode jVL_init.cc 52 = .ok (.invokespecial 31, 3) := by decide +kernel
theorem d_VL_init_55 : decode jVL_init.cc 55 = .ok (.putfield 34, 3) := by decide +kernel
theorem d_VL_init_58 : decode jVL_init.cc 58 = .ok (.aload_n 0, 1) := by decide +kernel
theorem d_VL_init_59 : decode jVL_init.cc 59 = .ok (.new 38, 3) := by decide +kernel
theorem d_VL_init_62 : decode jVL_init.cc 62 = .ok (.dup, 1) := by decide +kernel
theorem d_VL_init_63 : decode jVL_init.cc 63 = .ok (.invokespecial 40, 3) := by decide +kernel
theorem d_VL_init_66 : decode jVL_init.cc 66 = .ok (.putfield 41, 3) := by decide +kernel
theorem d_VL_init_69 : decode jVL_init.cc 69 = .ok (.aload_n 0, 1) := by decide +kernel
theorem d_VL_init_70 : decode jVL_init.cc 70 = .ok (.new 45, 3) := by decide +kernel
theorem d_VL_init_73 : decode jVL_init.cc 73 = .ok (.dup, 1) := by decide +kernel
theorem d_VL_init_74 : decode jVL_init.cc 74 = .ok (.aload_n 0, 1) := by decide +kernel
theorem d_VL_init_75 : decode jVL_init.cc 75 = .ok (.getfield 25, 3) := by decide +kernel
theorem d_VL_init_78 : decode jVL_init.cc 78 = .ok (.aload_n 0, 1) := by decide +kernel
theorem d_VL_init_79 : decode jVL_init.cc 79 = .ok (.getfield 41, 3) := by decide +kernel
theorem d_VL_init_82 : decode jVL_init.cc 82 = .ok (.invokespecial 47, 3) := by decide +kernel
theorem d_VL_init_85 : decode jVL_init.cc 85 = .ok (.putfield 50, 3) := by decide +kernel
theorem d_VL_init_88 : decode jVL_init.cc 88 = .ok (.return_, 1) := by decide +kernel
set_option maxRecDepth 20000 in
theorem ff_VL_9 : FF "VertexLanguage" 9 11 0 7 := ⟨cR11, cT11, rfl, by decide, by decide, rfl, rfl, mt_3 26 rfl rfl⟩
set_option maxRecDepth 20000 in
theorem ff_VL_16 : FF "VertexLanguage" 16 11 2 7 := ⟨cR11, cT11, rfl, by decide, by decide, rfl, rfl, mt_3 28 rfl rfl⟩
set_option maxRecDepth 20000 in
theorem ff_VL_25 : FF "VertexLanguage" 25 11 3 7 := ⟨cR11, cT11, rfl, by decide, by decide, rfl, rfl, mt_3 29 rfl rfl⟩
set_option maxRecDepth 20000 in
theorem ff_VL_34 : FF "VertexLanguage" 34 11 4 7 := ⟨cR11, cT11, rfl, by decide, by decide, rfl, rfl, mt_3 30 rfl rfl⟩
set_option maxRecDepth 20000 in
theorem ff_VL_41 : FF "VertexLanguage" 41 11 5 7 := ⟨cR11, cT11, rfl, by decide, by decide, rfl, rfl, mt_3 31 rfl rfl⟩
set_option maxRecDepth 20000 in
theorem ff_VL_50 : FF "VertexLanguage" 50 11 6 7 := ⟨cR11, cT11, rfl, by decide, by decide, rfl, rfl, mt_3 32 rfl rfl⟩
set_option maxRecDepth 20000 in
set_option maxHeartbeats 4000000 in
theorem n_Te_s0 {g : Mg} {lo : Nat} {K : Wd → Prop} {w : Wd}  (hK : K (up (up (up (up (up w 2 0 ((3 : Nat) : Int)) 2 2 ((4 : Nat) : Int)) 2 3 ((5 : Nat) : Int)) 2 4 ((6 : Nat) : Int)) 2 5 ((7 : Nat) : Int))) : NV g LC.ly szC lo 105 jTe_init 11 3 8 K 0 [(0, vA 2)] [] 3 w := by
  refine n_aload_n (pc := 0) (i := 0) (x := 2) d_Te_init_0 rfl (.head _) ?_
  refine n_obj (pc := 1) (o := 2) d_Te_init_1 (mt_1 39 rfl rfl) (mt_1 32 rfl rfl) (mt_1 33 rfl rfl) (by decide) (by decide) ?_
  refine n_aload_n (pc := 4) (i := 0) (x := 2) d_Te_init_4 rfl (.head _) ?_
  refine n_sipush (pc := 5) (x := (4000 : Nat)) d_Te_init_5 (by decide) (by decide) ?_
  refine n_newB (pc := 8) (k := 3) (N := 4000) d_Te_init_8 rfl (by decide) (by decide) (by decide) rfl (by decide) (mt_1 75 rfl rfl) ?_
  refine n_putr (pc := 10) (o := 2) (ci := 9) (f := 0) (N := 7) (r := 3) d_Te_init_10 (Or.inr ⟨ff_Te_9, rfl⟩) (by decide) rfl (by decide) (Or.inr ⟨_, rfl⟩) (by decide) ?_
  refine n_aload_n (pc := 13) (i := 0) (x := 2) d_Te_init_13 rfl (.head _) ?_
  refine n_sipush (pc := 14) (x := (1002 : Nat)) d_Te_init_14 (by decide) (by decide) ?_
  refine n_newI (pc := 17) (k := 4) (N := 1002) d_Te_init_17 rfl (by decide) (by decide) (by decide) rfl (by decide) (mt_1 76 rfl rfl) ?_
  refine n_putr (pc := 19) (o := 2) (ci := 9) (f := 2) (N := 7) (r := 4) d_Te_init_19 (Or.inr ⟨ff_Te_13, rfl⟩) (by decide) rfl (by decide) (Or.inr ⟨_, rfl⟩) (by decide) ?_
  refine n_aload_n (pc := 22) (i := 0) (x := 2) d_Te_init_22 rfl (.head _) ?_
  refine n_sipush (pc := 23) (x := (1002 : Nat)) d_Te_init_23 (by decide) (by decide) ?_
  refine n_newI (pc := 26) (k := 5) (N := 1002) d_Te_init_26 rfl (by decide) (by decide) (by decide) rfl (by decide) (mt_1 76 rfl rfl) ?_
  refine n_putr (pc := 28) (o := 2) (ci := 9) (f := 3) (N := 7) (r := 5) d_Te_init_28 (Or.inr ⟨ff_Te_17, rfl⟩) (by decide) rfl (by decide) (Or.inr ⟨_, rfl⟩) (by decide) ?_
  refine n_aload_n (pc := 31) (i := 0) (x := 2) d_Te_init_31 rfl (.head _) ?_
  refine n_sipush (pc := 32) (x := (1002 : Nat)) d_Te_init_32 (by decide) (by decide) ?_
  refine n_newI (pc := 35) (k := 6) (N := 1002) d_Te_init_35 rfl (by decide) (by decide) (by decide) rfl (by decide) (mt_1 76 rfl rfl) ?_
  refine n_putr (pc := 37) (o := 2) (ci := 9) (f := 4) (N := 7) (r := 6) d_Te_init_37 (Or.inr ⟨ff_Te_20, rfl⟩) (by decide) rfl (by decide) (Or.inr ⟨_, rfl⟩) (by decide) ?_
  refine n_aload_n (pc := 40) (i := 0) (x := 2) d_Te_init_40 rfl (.head _) ?_
  refine n_sipush (pc := 41) (x := (1002 : Nat)) d_Te_init_41 (by decide) (by decide) ?_
  refine n_newI (pc := 44) (k := 7) (N := 1002) d_Te_init_44 rfl (by decide) (by decide) (by decide) rfl (by decide) (mt_1 76 rfl rfl) ?_
  refine n_putr (pc := 46) (o := 2) (ci := 9) (f := 5) (N := 7) (r := 7) d_Te_init_46 (Or.inr ⟨ff_Te_23, rfl⟩) (by decide) rfl (by decide) (Or.inr ⟨_, rfl⟩) (by decide) ?_
  exact n_vret (pc := 49) d_Te_init_49 rfl hK (by decide)
set_option maxRecDepth 20000 in
set_option maxHeartbeats 4000000 in
theorem n_Te {g : Mg} {lo : Nat} {K : Wd → Prop} {w : Wd}  (hK : K (up (up (up (up (up w 2 0 ((3 : Nat) : Int)) 2 2 ((4 : Nat) : Int)) 2 3 ((5 : Nat) : Int)) 2 4 ((6 : Nat) : Int)) 2 5 ((7 : Nat) : Int))) : NCal g LC.ly szC lo 105 jTe_init 11 3 8 [vA 2] w K := by
  refine NCal.ofV (by decide) rfl rfl (Nat.le_of_ble_eq_true rfl) ?_
  show NV g LC.ly szC lo 105 jTe_init 11 3 8 K 0 [(0, vA 2)] [] 3 w
  refine n_Te_s0  ?_
  exact hK
set_option maxRecDepth 20000 in
set_option maxHeartbeats 4000000 in
theorem n_Lo_s0 {g : Mg} {lo : Nat} {K : Wd → Prop} {w : Wd}  (hK : K (up (up (up (up (up (up w 13 1 ((14 : Nat) : Int)) 13 2 ((15 : Nat) : Int)) 13 3 ((16 : Nat) : Int)) 13 4 ((17 : Nat) : Int)) 13 5 ((18 : Nat) : Int)) 13 0 ((2 : Nat) : Int))) : NV g LC.ly szC lo 105 jLo_init 10 14 19 K 0 [(0, vA 13), (1, vA 2)] [] 14 w := by
  refine n_aload_n (pc := 0) (i := 0) (x := 13) d_Lo_init_0 rfl (.head _) ?_
  refine n_obj (pc := 1) (o := 13) d_Lo_init_1 (mt_1 88 rfl rfl) (mt_1 32 rfl rfl) (mt_1 33 rfl rfl) (by decide) (by decide) ?_
  refine n_aload_n (pc := 4) (i := 0) (x := 13) d_Lo_init_4 rfl (.head _) ?_
  refine n_bipush (pc := 5) (x := (28 : Nat)) d_Lo_init_5 (by decide) (by decide) ?_
  refine n_newI (pc := 7) (k := 14) (N := 28) d_Lo_init_7 rfl (by decide) (by decide) (by decide) rfl (by decide) (mt_1 76 rfl rfl) ?_
  refine n_putr (pc := 9) (o := 13) (ci := 4) (f := 1) (N := 7) (r := 14) d_Lo_init_9 (Or.inr ⟨ff_Lo_9, rfl⟩) (by decide) rfl (by decide) (Or.inr ⟨_, rfl⟩) (by decide) ?_
  refine n_aload_n (pc := 12) (i := 0) (x := 13) d_Lo_init_12 rfl (.head _) ?_
  refine n_bipush (pc := 13) (x := (28 : Nat)) d_Lo_init_13 (by decide) (by decide) ?_
  refine n_newI (pc := 15) (k := 15) (N := 28) d_Lo_init_15 rfl (by decide) (by decide) (by decide) rfl (by decide) (mt_1 76 rfl rfl) ?_
  refine n_putr (pc := 17) (o := 13) (ci := 4) (f := 2) (N := 7) (r := 15) d_Lo_init_17 (Or.inr ⟨ff_Lo_13, rfl⟩) (by decide) rfl (by decide) (Or.inr ⟨_, rfl⟩) (by decide) ?_
  refine n_aload_n (pc := 20) (i := 0) (x := 13) d_Lo_init_20 rfl (.head _) ?_
  refine n_bipush (pc := 21) (x := (28 : Nat)) d_Lo_init_21 (by decide) (by decide) ?_
  refine n_newI (pc := 23) (k := 16) (N := 28) d_Lo_init_23 rfl (by decide) (by decide) (by decide) rfl (by decide) (mt_1 76 rfl rfl) ?_
  refine n_putr (pc := 25) (o := 13) (ci := 4) (f := 3) (N := 7) (r := 16) d_Lo_init_25 (Or.inr ⟨ff_Lo_16, rfl⟩) (by decide) rfl (by decide) (Or.inr ⟨_, rfl⟩) (by decide) ?_
  refine n_aload_n (pc := 28) (i := 0) (x := 13) d_Lo_init_28 rfl (.head _) ?_
  refine n_bipush (pc := 29) (x := (28 : Nat)) d_Lo_init_29 (by decide) (by decide) ?_
  refine n_newI (pc := 31) (k := 17) (N := 28) d_Lo_init_31 rfl (by decide) (by decide) (by decide) rfl (by decide) (mt_1 76 rfl rfl) ?_
  refine n_putr (pc := 33) (o := 13) (ci := 4) (f := 4) (N := 7) (r := 17) d_Lo_init_33 (Or.inr ⟨ff_Lo_19, rfl⟩) (by decide) rfl (by decide) (Or.inr ⟨_, rfl⟩) (by decide) ?_
  refine n_aload_n (pc := 36) (i := 0) (x := 13) d_Lo_init_36 rfl (.head _) ?_
  refine n_most (pc := 37) d_Lo_init_37 (mt_1 89 rfl rfl) d_Lo_init_40 ?_
  refine n_newI (pc := 41) (k := 18) (N := 5) d_Lo_init_41 rfl (by decide) (by decide) (by decide) rfl (by decide) (mt_1 76 rfl rfl) ?_
  refine n_putr (pc := 43) (o := 13) (ci := 4) (f := 5) (N := 7) (r := 18) d_Lo_init_43 (Or.inr ⟨ff_Lo_25, rfl⟩) (by decide) rfl (by decide) (Or.inr ⟨_, rfl⟩) (by decide) ?_
  refine n_aload_n (pc := 46) (i := 0) (x := 13) d_Lo_init_46 rfl (.head _) ?_
  refine n_aload_n (pc := 47) (i := 1) (x := 2) d_Lo_init_47 rfl (.tail _ (.head _)) ?_
  refine n_putr (pc := 48) (o := 13) (ci := 4) (f := 0) (N := 7) (r := 2) d_Lo_init_48 (Or.inr ⟨ff_Lo_28, rfl⟩) (by decide) rfl (by decide) (Or.inl ⟨_, rfl⟩) (by decide) ?_
  exact n_vret (pc := 51) d_Lo_init_51 rfl hK (by decide)
set_option maxRecDepth 20000 in
set_option maxHeartbeats 4000000 in
theorem n_Lo {g : Mg} {lo : Nat} {K : Wd → Prop} {w : Wd}  (hK : K (up (up (up (up (up (up w 13 1 ((14 : Nat) : Int)) 13 2 ((15 : Nat) : Int)) 13 3 ((16 : Nat) : Int)) 13 4 ((17 : Nat) : Int)) 13 5 ((18 : Nat) : Int)) 13 0 ((2 : Nat) : Int))) : NCal g LC.ly szC lo 105 jLo_init 10 14 19 [vA 13, vA 2] w K := by
  refine NCal.ofV (by decide) rfl rfl (Nat.le_of_ble_eq_true rfl) ?_
  show NV g LC.ly szC lo 105 jLo_init 10 14 19 K 0 [(0, vA 13), (1, vA 2)] [] 14 w
  refine n_Lo_s0  ?_
  exact hK
set_option maxRecDepth 20000 in
set_option maxHeartbeats 4000000 in
theorem n_Co_s0 {g : Mg} {lo : Nat} {K : Wd → Prop} {w : Wd}  (hK : K (up (up (up (up w 19 0 ((20 : Nat) : Int)) 19 1 ((21 : Nat) : Int)) 19 2 ((22 : Nat) : Int)) 19 3 ((23 : Nat) : Int))) : NV g LC.ly szC lo 105 jCo_init 10 20 24 K 0 [(0, vA 19)] [] 20 w := by
  refine n_aload_n (pc := 0) (i := 0) (x := 19) d_Co_init_0 rfl (.head _) ?_
  refine n_obj (pc := 1) (o := 19) d_Co_init_1 (mt_1 118 rfl rfl) (mt_1 32 rfl rfl) (mt_1 33 rfl rfl) (by decide) (by decide) ?_
  refine n_aload_n (pc := 4) (i := 0) (x := 19) d_Co_init_4 rfl (.head _) ?_
  refine n_sipush (pc := 5) (x := (1024 : Nat)) d_Co_init_5 (by decide) (by decide) ?_
  refine n_newI (pc := 8) (k := 20) (N := 1024) d_Co_init_8 rfl (by decide) (by decide) (by decide) rfl (by decide) (mt_1 76 rfl rfl) ?_
  refine n_putr (pc := 10) (o := 19) (ci := 0) (f := 0) (N := 6) (r := 20) d_Co_init_10 (Or.inr ⟨ff_Co_11, rfl⟩) (by decide) rfl (by decide) (Or.inr ⟨_, rfl⟩) (by decide) ?_
  refine n_aload_n (pc := 13) (i := 0) (x := 19) d_Co_init_13 rfl (.head _) ?_
  refine n_sipush (pc := 14) (x := (1024 : Nat)) d_Co_init_14 (by decide) (by decide) ?_
  refine n_newI (pc := 17) (k := 21) (N := 1024) d_Co_init_17 rfl (by decide) (by decide) (by decide) rfl (by decide) (mt_1 76 rfl rfl) ?_
  refine n_putr (pc := 19) (o := 19) (ci := 0) (f := 1) (N := 6) (r := 21) d_Co_init_19 (Or.inr ⟨ff_Co_15, rfl⟩) (by decide) rfl (by decide) (Or.inr ⟨_, rfl⟩) (by decide) ?_
  refine n_aload_n (pc := 22) (i := 0) (x := 19) d_Co_init_22 rfl (.head _) ?_
  refine n_sipush (pc := 23) (x := (1024 : Nat)) d_Co_init_23 (by decide) (by decide) ?_
  refine n_newI (pc := 26) (k := 22) (N := 1024) d_Co_init_26 rfl (by decide) (by decide) (by decide) rfl (by decide) (mt_1 76 rfl rfl) ?_
  refine n_putr (pc := 28) (o := 19) (ci := 0) (f := 2) (N := 6) (r := 22) d_Co_init_28 (Or.inr ⟨ff_Co_18, rfl⟩) (by decide) rfl (by decide) (Or.inr ⟨_, rfl⟩) (by decide) ?_
  refine n_aload_n (pc := 31) (i := 0) (x := 19) d_Co_init_31 rfl (.head _) ?_
  refine n_sipush (pc := 32) (x := (1024 : Nat)) d_Co_init_32 (by decide) (by decide) ?_
  refine n_newI (pc := 35) (k := 23) (N := 1024) d_Co_init_35 rfl (by decide) (by decide) (by decide) rfl (by decide) (mt_1 76 rfl rfl) ?_
  refine n_putr (pc := 37) (o := 19) (ci := 0) (f := 3) (N := 6) (r := 23) d_Co_init_37 (Or.inr ⟨ff_Co_21, rfl⟩) (by decide) rfl (by decide) (Or.inr ⟨_, rfl⟩) (by decide) ?_
  exact n_vret (pc := 40) d_Co_init_40 rfl hK (by decide)
set_option maxRecDepth 20000 in
set_option maxHeartbeats 4000000 in
theorem n_Co {g : Mg} {lo : Nat} {K : Wd → Prop} {w : Wd}  (hK : K (up (up (up (up w 19 0 ((20 : Nat) : Int)) 19 1 ((21 : Nat) : Int)) 19 2 ((22 : Nat) : Int)) 19 3 ((23 : Nat) : Int))) : NCal g LC.ly szC lo 105 jCo_init 10 20 24 [vA 19] w K := by
  refine NCal.ofV (by decide) rfl rfl (Nat.le_of_ble_eq_true rfl) ?_
  show NV g LC.ly szC lo 105 jCo_init 10 20 24 K 0 [(0, vA 19)] [] 20 w
  refine n_Co_s0  ?_
  exact hK
set_option maxRecDepth 20000 in
set_option maxHeartbeats 4000000 in
theorem n_Pr_s0 {g : Mg} {lo : Nat} {K : Wd → Prop} {w : Wd}  (hK : K (up (up (up (up (up (up (up (up (up (up (up (up (up (up (up (up w 8 6 ((9 : Nat) : Int)) 8 7 ((10 : Nat) : Int)) 8 8 ((11 : Nat) : Int)) 8 9 ((12 : Nat) : Int)) 13 1 ((14 : Nat) : Int)) 13 2 ((15 : Nat) : Int)) 13 3 ((16 : Nat) : Int)) 13 4 ((17 : Nat) : Int)) 13 5 ((18 : Nat) : Int)) 13 0 ((2 : Nat) : Int)) 8 0 ((13 : Nat) : Int)) 19 0 ((20 : Nat) : Int)) 19 1 ((21 : Nat) : Int)) 19 2 ((22 : Nat) : Int)) 19 3 ((23 : Nat) : Int)) 8 1 ((19 : Nat) : Int))) : NV g LC.ly szC lo 105 jPr_init 11 9 24 K 0 [(0, vA 8), (1, vA 2)] [] 9 w := by
  refine n_aload_n (pc := 0) (i := 0) (x := 8) d_Pr_init_0 rfl (.head _) ?_
  refine n_obj (pc := 1) (o := 8) d_Pr_init_1 (mt_1 82 rfl rfl) (mt_1 32 rfl rfl) (mt_1 33 rfl rfl) (by decide) (by decide) ?_
  refine n_aload_n (pc := 4) (i := 0) (x := 8) d_Pr_init_4 rfl (.head _) ?_
  refine n_bipush (pc := 5) (x := (8 : Nat)) d_Pr_init_5 (by decide) (by decide) ?_
  refine n_newI (pc := 7) (k := 9) (N := 8) d_Pr_init_7 rfl (by decide) (by decide) (by decide) rfl (by decide) (mt_1 76 rfl rfl) ?_
  refine n_putr (pc := 9) (o := 8) (ci := 7) (f := 6) (N := 11) (r := 9) d_Pr_init_9 (Or.inr ⟨ff_Pr_9, rfl⟩) (by decide) rfl (by decide) (Or.inr ⟨_, rfl⟩) (by decide) ?_
  refine n_aload_n (pc := 12) (i := 0) (x := 8) d_Pr_init_12 rfl (.head _) ?_
  refine n_iconst (pc := 13) (x := (4 : Nat)) d_Pr_init_13 (by decide) ?_
  refine n_newI (pc := 14) (k := 10) (N := 4) d_Pr_init_14 rfl (by decide) (by decide) (by decide) rfl (by decide) (mt_1 76 rfl rfl) ?_
  refine n_putr (pc := 16) (o := 8) (ci := 7) (f := 7) (N := 11) (r := 10) d_Pr_init_16 (Or.inr ⟨ff_Pr_15, rfl⟩) (by decide) rfl (by decide) (Or.inr ⟨_, rfl⟩) (by decide) ?_
  refine n_aload_n (pc := 19) (i := 0) (x := 8) d_Pr_init_19 rfl (.head _) ?_
  refine n_iconst (pc := 20) (x := (4 : Nat)) d_Pr_init_20 (by decide) ?_
  refine n_newI (pc := 21) (k := 11) (N := 4) d_Pr_init_21 rfl (by decide) (by decide) (by decide) rfl (by decide) (mt_1 76 rfl rfl) ?_
  refine n_putr (pc := 23) (o := 8) (ci := 7) (f := 8) (N := 11) (r := 11) d_Pr_init_23 (Or.inr ⟨ff_Pr_18, rfl⟩) (by decide) rfl (by decide) (Or.inr ⟨_, rfl⟩) (by decide) ?_
  refine n_aload_n (pc := 26) (i := 0) (x := 8) d_Pr_init_26 rfl (.head _) ?_
  refine n_sipush (pc := 27) (x := (5000 : Nat)) d_Pr_init_27 (by decide) (by decide) ?_
  refine n_newB (pc := 30) (k := 12) (N := 5000) d_Pr_init_30 rfl (by decide) (by decide) (by decide) rfl (by decide) (mt_1 75 rfl rfl) ?_
  refine n_putr (pc := 32) (o := 8) (ci := 7) (f := 9) (N := 11) (r := 12) d_Pr_init_32 (Or.inr ⟨ff_Pr_23, rfl⟩) (by decide) rfl (by decide) (Or.inr ⟨_, rfl⟩) (by decide) ?_
  refine n_aload_n (pc := 35) (i := 0) (x := 8) d_Pr_init_35 rfl (.head _) ?_
  refine n_new (pc := 36) (k := 13) (ci := 4) (N := 7) (Ns := 7) (C := cR4) (T := cT4) d_Pr_init_36 (mt_1 83 rfl rfl) (mt_1 84 rfl rfl) (mt_1 4 rfl rfl) rfl ft_4 rfl (by decide) (by decide) (by decide) rfl (by decide) ?_
  refine n_dup (pc := 39) d_Pr_init_39 rfl ?_
  refine n_aload_n (pc := 40) (i := 1) (x := 2) d_Pr_init_40 rfl (.tail _ (.head _)) ?_
  refine n_call (pc := 41) (st := [vA 13, vA 8]) (J' := jLo_init) (d' := 10) (k2 := 19) (o := 13) (As := [vA 2]) d_Pr_init_41 (Or.inl (mt_1 85 rfl rfl)) iok_Lo_init rfl (by decide) (by decide) (by decide) (by decide) (by decide) (by decide) (n_Lo  ?_)
  refine n_putr (pc := 44) (o := 8) (ci := 7) (f := 0) (N := 11) (r := 13) d_Pr_init_44 (Or.inr ⟨ff_Pr_30, rfl⟩) (by decide) rfl (by decide) (Or.inl ⟨_, rfl⟩) (by decide) ?_
  refine n_aload_n (pc := 47) (i := 0) (x := 8) d_Pr_init_47 rfl (.head _) ?_
  refine n_new (pc := 48) (k := 19) (ci := 0) (N := 6) (Ns := 6) (C := cR0) (T := cT0) d_Pr_init_48 (mt_1 113 rfl rfl) (mt_1 114 rfl rfl) (mt_1 5 rfl rfl) rfl ft_0 rfl (by decide) (by decide) (by decide) rfl (by decide) ?_
  refine n_dup (pc := 51) d_Pr_init_51 rfl ?_
  refine n_call (pc := 52) (st := [vA 19, vA 8]) (J' := jCo_init) (d' := 10) (k2 := 24) (o := 19) (As := []) d_Pr_init_52 (Or.inr ⟨_, .tail _ (.head _), rfl, rfl, rfl⟩) iok_Co_init rfl (by decide) (by decide) (by decide) (by decide) (by decide) (by decide) (n_Co  ?_)
  refine n_putr (pc := 55) (o := 8) (ci := 7) (f := 1) (N := 11) (r := 19) d_Pr_init_55 (Or.inr ⟨ff_Pr_37, rfl⟩) (by decide) rfl (by decide) (Or.inl ⟨_, rfl⟩) (by decide) ?_
  exact n_vret (pc := 58) d_Pr_init_58 rfl hK (by decide)
set_option maxRecDepth 20000 in
set_option maxHeartbeats 4000000 in
theorem n_Pr {g : Mg} {lo : Nat} {K : Wd → Prop} {w : Wd}  (hK : K (up (up (up (up (up (up (up (up (up (up (up (up (up (up (up (up w 8 6 ((9 : Nat) : Int)) 8 7 ((10 : Nat) : Int)) 8 8 ((11 : Nat) : Int)) 8 9 ((12 : Nat) : Int)) 13 1 ((14 : Nat) : Int)) 13 2 ((15 : Nat) : Int)) 13 3 ((16 : Nat) : Int)) 13 4 ((17 : Nat) : Int)) 13 5 ((18 : Nat) : Int)) 13 0 ((2 : Nat) : Int)) 8 0 ((13 : Nat) : Int)) 19 0 ((20 : Nat) : Int)) 19 1 ((21 : Nat) : Int)) 19 2 ((22 : Nat) : Int)) 19 3 ((23 : Nat) : Int)) 8 1 ((19 : Nat) : Int))) : NCal g LC.ly szC lo 105 jPr_init 11 9 24 [vA 8, vA 2] w K := by
  refine NCal.ofV (by decide) rfl rfl (Nat.le_of_ble_eq_true rfl) ?_
  show NV g LC.ly szC lo 105 jPr_init 11 9 24 K 0 [(0, vA 8), (1, vA 2)] [] 9 w
  refine n_Pr_s0  ?_
  exact hK
set_option maxRecDepth 20000 in
set_option maxHeartbeats 4000000 in
theorem n_Cu_s0 {g : Mg} {lo : Nat} {K : Wd → Prop} {w : Wd}  (hK : K (up w 25 0 ((2 : Nat) : Int))) : NV g LC.ly szC lo 105 jCu_init 10 26 26 K 0 [(0, vA 25), (1, vA 2)] [] 26 w := by
  refine n_aload_n (pc := 0) (i := 0) (x := 25) d_Cu_init_0 rfl (.head _) ?_
  refine n_obj (pc := 1) (o := 25) d_Cu_init_1 (mt_1 210 rfl rfl) (mt_1 32 rfl rfl) (mt_1 33 rfl rfl) (by decide) (by decide) ?_
  refine n_aload_n (pc := 4) (i := 0) (x := 25) d_Cu_init_4 rfl (.head _) ?_
  refine n_aload_n (pc := 5) (i := 1) (x := 2) d_Cu_init_5 rfl (.tail _ (.head _)) ?_
  refine n_putr (pc := 6) (o := 25) (ci := 1) (f := 0) (N := 6) (r := 2) d_Cu_init_6 (Or.inr ⟨ff_Cu_7, rfl⟩) (by decide) rfl (by decide) (Or.inl ⟨_, rfl⟩) (by decide) ?_
  exact n_vret (pc := 9) d_Cu_init_9 rfl hK (by decide)
set_option maxRecDepth 20000 in
set_option maxHeartbeats 4000000 in
theorem n_Cu {g : Mg} {lo : Nat} {K : Wd → Prop} {w : Wd}  (hK : K (up w 25 0 ((2 : Nat) : Int))) : NCal g LC.ly szC lo 105 jCu_init 10 26 26 [vA 25, vA 2] w K := by
  refine NCal.ofV (by decide) rfl rfl (Nat.le_of_ble_eq_true rfl) ?_
  show NV g LC.ly szC lo 105 jCu_init 10 26 26 K 0 [(0, vA 25), (1, vA 2)] [] 26 w
  refine n_Cu_s0  ?_
  exact hK
set_option maxRecDepth 20000 in
set_option maxHeartbeats 4000000 in
theorem n_Ex_s0 {g : Mg} {lo : Nat} {K : Wd → Prop} {w : Wd} (h_8_0 : w 8 0 = ((13 : Nat) : Int)) (h_8_1 : w 8 1 = ((19 : Nat) : Int)) (hK : K (up (up (up (up (up (up (up (up w 26 5 ((27 : Nat) : Int)) 26 6 ((28 : Nat) : Int)) 26 7 ((29 : Nat) : Int)) 26 8 ((30 : Nat) : Int)) 26 0 ((2 : Nat) : Int)) 26 1 ((25 : Nat) : Int)) 26 2 ((13 : Nat) : Int)) 26 3 ((19 : Nat) : Int))) : NV g LC.ly szC lo 105 jEx_init 10 27 31 K 0 [(0, vA 26), (1, vA 2), (2, vA 25), (3, vA 8)] [] 27 w := by
  refine n_aload_n (pc := 0) (i := 0) (x := 26) d_Ex_init_0 rfl (.head _) ?_
  refine n_obj (pc := 1) (o := 26) d_Ex_init_1 (mt_1 235 rfl rfl) (mt_1 32 rfl rfl) (mt_1 33 rfl rfl) (by decide) (by decide) ?_
  refine n_aload_n (pc := 4) (i := 0) (x := 26) d_Ex_init_4 rfl (.head _) ?_
  refine n_sipush (pc := 5) (x := (1002 : Nat)) d_Ex_init_5 (by decide) (by decide) ?_
  refine n_newI (pc := 8) (k := 27) (N := 1002) d_Ex_init_8 rfl (by decide) (by decide) (by decide) rfl (by decide) (mt_1 76 rfl rfl) ?_
  refine n_putr (pc := 10) (o := 26) (ci := 2) (f := 5) (N := 9) (r := 27) d_Ex_init_10 (Or.inr ⟨ff_Ex_9, rfl⟩) (by decide) rfl (by decide) (Or.inr ⟨_, rfl⟩) (by decide) ?_
  refine n_aload_n (pc := 13) (i := 0) (x := 26) d_Ex_init_13 rfl (.head _) ?_
  refine n_sipush (pc := 14) (x := (1002 : Nat)) d_Ex_init_14 (by decide) (by decide) ?_
  refine n_newI (pc := 17) (k := 28) (N := 1002) d_Ex_init_17 rfl (by decide) (by decide) (by decide) rfl (by decide) (mt_1 76 rfl rfl) ?_
  refine n_putr (pc := 19) (o := 26) (ci := 2) (f := 6) (N := 9) (r := 28) d_Ex_init_19 (Or.inr ⟨ff_Ex_15, rfl⟩) (by decide) rfl (by decide) (Or.inr ⟨_, rfl⟩) (by decide) ?_
  refine n_aload_n (pc := 22) (i := 0) (x := 26) d_Ex_init_22 rfl (.head _) ?_
  refine n_sipush (pc := 23) (x := (1002 : Nat)) d_Ex_init_23 (by decide) (by decide) ?_
  refine n_newI (pc := 26) (k := 29) (N := 1002) d_Ex_init_26 rfl (by decide) (by decide) (by decide) rfl (by decide) (mt_1 76 rfl rfl) ?_
  refine n_putr (pc := 28) (o := 26) (ci := 2) (f := 7) (N := 9) (r := 29) d_Ex_init_28 (Or.inr ⟨ff_Ex_18, rfl⟩) (by decide) rfl (by decide) (Or.inr ⟨_, rfl⟩) (by decide) ?_
  refine n_aload_n (pc := 31) (i := 0) (x := 26) d_Ex_init_31 rfl (.head _) ?_
  refine n_sipush (pc := 32) (x := (1002 : Nat)) d_Ex_init_32 (by decide) (by decide) ?_
  refine n_newZ (pc := 35) (k := 30) (N := 1002) d_Ex_init_35 rfl (by decide) (by decide) (by decide) rfl (by decide) (mt_2 25 rfl rfl) ?_
  refine n_putr (pc := 37) (o := 26) (ci := 2) (f := 8) (N := 9) (r := 30) d_Ex_init_37 (Or.inr ⟨ff_Ex_21, rfl⟩) (by decide) rfl (by decide) (Or.inr ⟨_, rfl⟩) (by decide) ?_
  refine n_aload_n (pc := 40) (i := 0) (x := 26) d_Ex_init_40 rfl (.head _) ?_
  refine n_aload_n (pc := 41) (i := 1) (x := 2) d_Ex_init_41 rfl (.tail _ (.head _)) ?_
  refine n_putr (pc := 42) (o := 26) (ci := 2) (f := 0) (N := 9) (r := 2) d_Ex_init_42 (Or.inr ⟨ff_Ex_25, rfl⟩) (by decide) rfl (by decide) (Or.inl ⟨_, rfl⟩) (by decide) ?_
  refine n_aload_n (pc := 45) (i := 0) (x := 26) d_Ex_init_45 rfl (.head _) ?_
  refine n_aload_n (pc := 46) (i := 2) (x := 25) d_Ex_init_46 rfl (.tail _ (.tail _ (.head _))) ?_
  refine n_putr (pc := 47) (o := 26) (ci := 2) (f := 1) (N := 9) (r := 25) d_Ex_init_47 (Or.inr ⟨ff_Ex_29, rfl⟩) (by decide) rfl (by decide) (Or.inl ⟨_, rfl⟩) (by decide) ?_
  refine n_aload_n (pc := 50) (i := 0) (x := 26) d_Ex_init_50 rfl (.head _) ?_
  refine n_aload_n (pc := 51) (i := 3) (x := 8) d_Ex_init_51 rfl (.tail _ (.tail _ (.tail _ (.head _)))) ?_
  refine n_getr (pc := 52) (o := 8) (ci := 7) (f := 0) (N := 11) (r := 13) d_Ex_init_52 fl_Ex_33 (by decide) rfl (Or.inl ⟨_, rfl⟩) h_8_0 ?_
  refine n_putr (pc := 55) (o := 26) (ci := 2) (f := 2) (N := 9) (r := 13) d_Ex_init_55 (Or.inr ⟨ff_Ex_39, rfl⟩) (by decide) rfl (by decide) (Or.inl ⟨_, rfl⟩) (by decide) ?_
  refine n_aload_n (pc := 58) (i := 0) (x := 26) d_Ex_init_58 rfl (.head _) ?_
  refine n_aload_n (pc := 59) (i := 3) (x := 8) d_Ex_init_59 rfl (.tail _ (.tail _ (.tail _ (.head _)))) ?_
  refine n_getr (pc := 60) (o := 8) (ci := 7) (f := 1) (N := 11) (r := 19) d_Ex_init_60 fl_Ex_40 (by decide) rfl (Or.inl ⟨_, rfl⟩) h_8_1 ?_
  refine n_putr (pc := 63) (o := 26) (ci := 2) (f := 3) (N := 9) (r := 19) d_Ex_init_63 (Or.inr ⟨ff_Ex_44, rfl⟩) (by decide) rfl (by decide) (Or.inl ⟨_, rfl⟩) (by decide) ?_
  exact n_vret (pc := 66) d_Ex_init_66 rfl hK (by decide)
set_option maxRecDepth 20000 in
set_option maxHeartbeats 4000000 in
theorem n_Ex {g : Mg} {lo : Nat} {K : Wd → Prop} {w : Wd} (h_8_0 : w 8 0 = ((13 : Nat) : Int)) (h_8_1 : w 8 1 = ((19 : Nat) : Int)) (hK : K (up (up (up (up (up (up (up (up w 26 5 ((27 : Nat) : Int)) 26 6 ((28 : Nat) : Int)) 26 7 ((29 : Nat) : Int)) 26 8 ((30 : Nat) : Int)) 26 0 ((2 : Nat) : Int)) 26 1 ((25 : Nat) : Int)) 26 2 ((13 : Nat) : Int)) 26 3 ((19 : Nat) : Int))) : NCal g LC.ly szC lo 105 jEx_init 10 27 31 [vA 26, vA 2, vA 25, vA 8] w K := by
  refine NCal.ofV (by decide) rfl rfl (Nat.le_of_ble_eq_true rfl) ?_
  show NV g LC.ly szC lo 105 jEx_init 10 27 31 K 0 [(0, vA 26), (1, vA 2), (2, vA 25), (3, vA 8)] [] 27 w
  refine n_Ex_s0 (h_8_0) (h_8_1) ?_
  exact hK
set_option maxRecDepth 20000 in
set_option maxHeartbeats 4000000 in
theorem n_Re_s0 {g : Mg} {lo : Nat} {K : Wd → Prop} {w : Wd} (h_8_0 : w 8 0 = ((13 : Nat) : Int)) (h_8_1 : w 8 1 = ((19 : Nat) : Int)) (hK : K (up (up (up (up (up (up (up (up (up (up (up (up (up (up (up w 24 0 ((2 : Nat) : Int)) 24 1 ((8 : Nat) : Int)) 24 2 ((13 : Nat) : Int)) 24 3 ((19 : Nat) : Int)) 25 0 ((2 : Nat) : Int)) 24 4 ((25 : Nat) : Int)) 26 5 ((27 : Nat) : Int)) 26 6 ((28 : Nat) : Int)) 26 7 ((29 : Nat) : Int)) 26 8 ((30 : Nat) : Int)) 26 0 ((2 : Nat) : Int)) 26 1 ((25 : Nat) : Int)) 26 2 ((13 : Nat) : Int)) 26 3 ((19 : Nat) : Int)) 24 5 ((26 : Nat) : Int))) : NV g LC.ly szC lo 105 jRe_init 11 25 31 K 0 [(0, vA 24), (1, vA 2), (2, vA 8)] [] 25 w := by
  refine n_aload_n (pc := 0) (i := 0) (x := 24) d_Re_init_0 rfl (.head _) ?_
  refine n_obj (pc := 1) (o := 24) d_Re_init_1 (mt_1 204 rfl rfl) (mt_1 32 rfl rfl) (mt_1 33 rfl rfl) (by decide) (by decide) ?_
  refine n_aload_n (pc := 4) (i := 0) (x := 24) d_Re_init_4 rfl (.head _) ?_
  refine n_aload_n (pc := 5) (i := 1) (x := 2) d_Re_init_5 rfl (.tail _ (.head _)) ?_
  refine n_putr (pc := 6) (o := 24) (ci := 8) (f := 0) (N := 7) (r := 2) d_Re_init_6 (Or.inr ⟨ff_Re_7, rfl⟩) (by decide) rfl (by decide) (Or.inl ⟨_, rfl⟩) (by decide) ?_
  refine n_aload_n (pc := 9) (i := 0) (x := 24) d_Re_init_9 rfl (.head _) ?_
  refine n_aload_n (pc := 10) (i := 2) (x := 8) d_Re_init_10 rfl (.tail _ (.tail _ (.head _))) ?_
  refine n_putr (pc := 11) (o := 24) (ci := 8) (f := 1) (N := 7) (r := 8) d_Re_init_11 (Or.inr ⟨ff_Re_13, rfl⟩) (by decide) rfl (by decide) (Or.inl ⟨_, rfl⟩) (by decide) ?_
  refine n_aload_n (pc := 14) (i := 0) (x := 24) d_Re_init_14 rfl (.head _) ?_
  refine n_aload_n (pc := 15) (i := 2) (x := 8) d_Re_init_15 rfl (.tail _ (.tail _ (.head _))) ?_
  refine n_getr (pc := 16) (o := 8) (ci := 7) (f := 0) (N := 11) (r := 13) d_Re_init_16 fl_Re_17 (by decide) rfl (Or.inl ⟨_, rfl⟩) h_8_0 ?_
  refine n_putr (pc := 19) (o := 24) (ci := 8) (f := 2) (N := 7) (r := 13) d_Re_init_19 (Or.inr ⟨ff_Re_23, rfl⟩) (by decide) rfl (by decide) (Or.inl ⟨_, rfl⟩) (by decide) ?_
  refine n_aload_n (pc := 22) (i := 0) (x := 24) d_Re_init_22 rfl (.head _) ?_
  refine n_aload_n (pc := 23) (i := 2) (x := 8) d_Re_init_23 rfl (.tail _ (.tail _ (.head _))) ?_
  refine n_getr (pc := 24) (o := 8) (ci := 7) (f := 1) (N := 11) (r := 19) d_Re_init_24 fl_Re_24 (by decide) rfl (Or.inl ⟨_, rfl⟩) h_8_1 ?_
  refine n_putr (pc := 27) (o := 24) (ci := 8) (f := 3) (N := 7) (r := 19) d_Re_init_27 (Or.inr ⟨ff_Re_28, rfl⟩) (by decide) rfl (by decide) (Or.inl ⟨_, rfl⟩) (by decide) ?_
  refine n_aload_n (pc := 30) (i := 0) (x := 24) d_Re_init_30 rfl (.head _) ?_
  refine n_new (pc := 31) (k := 25) (ci := 1) (N := 6) (Ns := 6) (C := cR1) (T := cT1) d_Re_init_31 (mt_1 205 rfl rfl) (mt_1 206 rfl rfl) (mt_1 7 rfl rfl) rfl ft_1 rfl (by decide) (by decide) (by decide) rfl (by decide) ?_
  refine n_dup (pc := 34) d_Re_init_34 rfl ?_
  refine n_aload_n (pc := 35) (i := 1) (x := 2) d_Re_init_35 rfl (.tail _ (.head _)) ?_
  refine n_call (pc := 36) (st := [vA 25, vA 24]) (J' := jCu_init) (d' := 10) (k2 := 26) (o := 25) (As := [vA 2]) d_Re_init_36 (Or.inl (mt_1 207 rfl rfl)) iok_Cu_init rfl (by decide) (by decide) (by decide) (by decide) (by decide) (by decide) (n_Cu  ?_)
  refine n_putr (pc := 39) (o := 24) (ci := 8) (f := 4) (N := 7) (r := 25) d_Re_init_39 (Or.inr ⟨ff_Re_34, rfl⟩) (by decide) rfl (by decide) (Or.inl ⟨_, rfl⟩) (by decide) ?_
  refine n_aload_n (pc := 42) (i := 0) (x := 24) d_Re_init_42 rfl (.head _) ?_
  refine n_new (pc := 43) (k := 26) (ci := 2) (N := 9) (Ns := 9) (C := cR2) (T := cT2) d_Re_init_43 (mt_1 230 rfl rfl) (mt_1 231 rfl rfl) (mt_1 8 rfl rfl) rfl ft_2 rfl (by decide) (by decide) (by decide) rfl (by decide) ?_
  refine n_dup (pc := 46) d_Re_init_46 rfl ?_
  refine n_aload_n (pc := 47) (i := 1) (x := 2) d_Re_init_47 rfl (.tail _ (.head _)) ?_
  refine n_aload_n (pc := 48) (i := 0) (x := 24) d_Re_init_48 rfl (.head _) ?_
  refine n_getr (pc := 49) (o := 24) (ci := 8) (f := 4) (N := 7) (r := 25) d_Re_init_49 fl_Re_34 (by decide) rfl (Or.inl ⟨_, rfl⟩) rfl ?_
  refine n_aload_n (pc := 52) (i := 2) (x := 8) d_Re_init_52 rfl (.tail _ (.tail _ (.head _))) ?_
  refine n_call (pc := 53) (st := [vA 26, vA 24]) (J' := jEx_init) (d' := 10) (k2 := 31) (o := 26) (As := [vA 2, vA 25, vA 8]) d_Re_init_53 (Or.inl (mt_1 232 rfl rfl)) iok_Ex_init rfl (by decide) (by decide) (by decide) (by decide) (by decide) (by decide) (n_Ex (h_8_0) (h_8_1) ?_)
  refine n_putr (pc := 56) (o := 24) (ci := 8) (f := 5) (N := 7) (r := 26) d_Re_init_56 (Or.inr ⟨ff_Re_43, rfl⟩) (by decide) rfl (by decide) (Or.inl ⟨_, rfl⟩) (by decide) ?_
  exact n_vret (pc := 59) d_Re_init_59 rfl hK (by decide)
set_option maxRecDepth 20000 in
set_option maxHeartbeats 4000000 in
theorem n_Re {g : Mg} {lo : Nat} {K : Wd → Prop} {w : Wd} (h_8_0 : w 8 0 = ((13 : Nat) : Int)) (h_8_1 : w 8 1 = ((19 : Nat) : Int)) (hK : K (up (up (up (up (up (up (up (up (up (up (up (up (up (up (up w 24 0 ((2 : Nat) : Int)) 24 1 ((8 : Nat) : Int)) 24 2 ((13 : Nat) : Int)) 24 3 ((19 : Nat) : Int)) 25 0 ((2 : Nat) : Int)) 24 4 ((25 : Nat) : Int)) 26 5 ((27 : Nat) : Int)) 26 6 ((28 : Nat) : Int)) 26 7 ((29 : Nat) : Int)) 26 8 ((30 : Nat) : Int)) 26 0 ((2 : Nat) : Int)) 26 1 ((25 : Nat) : Int)) 26 2 ((13 : Nat) : Int)) 26 3 ((19 : Nat) : Int)) 24 5 ((26 : Nat) : Int))) : NCal g LC.ly szC lo 105 jRe_init 11 25 31 [vA 24, vA 2, vA 8] w K := by
  refine NCal.ofV (by decide) rfl rfl (Nat.le_of_ble_eq_true rfl) ?_
  show NV g LC.ly szC lo 105 jRe_init 11 25 31 K 0 [(0, vA 24), (1, vA 2), (2, vA 8)] [] 25 w
  refine n_Re_s0 (h_8_0) (h_8_1) ?_
  exact hK
set_option maxRecDepth 20000 in
set_option maxHeartbeats 4000000 in
theorem n_Gr_s0 {g : Mg} {lo : Nat} {K : Wd → Prop} {w : Wd}  (hK : NV g LC.ly szC lo 105 jGr_init 11 32 43 K 93 [(0, vA 31)] [] 43 (up (up (up (up (up (up (up (up (up (up (up w 31 2 ((32 : Nat) : Int)) 31 3 ((33 : Nat) : Int)) 31 4 ((34 : Nat) : Int)) 31 5 ((35 : Nat) : Int)) 31 6 ((36 : Nat) : Int)) 31 7 ((37 : Nat) : Int)) 31 8 ((38 : Nat) : Int)) 31 9 ((39 : Nat) : Int)) 31 10 ((40 : Nat) : Int)) 31 11 ((41 : Nat) : Int)) 31 12 ((42 : Nat) : Int))) : NV g LC.ly szC lo 105 jGr_init 11 32 43 K 0 [(0, vA 31)] [] 32 w := by
  refine n_aload_n (pc := 0) (i := 0) (x := 31) d_Gr_init_0 rfl (.head _) ?_
  refine n_obj (pc := 1) (o := 31) d_Gr_init_1 (mt_2 53 rfl rfl) (mt_1 32 rfl rfl) (mt_1 33 rfl rfl) (by decide) (by decide) ?_
  refine n_aload_n (pc := 4) (i := 0) (x := 31) d_Gr_init_4 rfl (.head _) ?_
  refine n_bipush (pc := 5) (x := (120 : Nat)) d_Gr_init_5 (by decide) (by decide) ?_
  refine n_newI (pc := 7) (k := 32) (N := 120) d_Gr_init_7 rfl (by decide) (by decide) (by decide) rfl (by decide) (mt_1 76 rfl rfl) ?_
  refine n_putr (pc := 9) (o := 31) (ci := 3) (f := 2) (N := 13) (r := 32) d_Gr_init_9 (Or.inr ⟨ff_Gr_9, rfl⟩) (by decide) rfl (by decide) (Or.inr ⟨_, rfl⟩) (by decide) ?_
  refine n_aload_n (pc := 12) (i := 0) (x := 31) d_Gr_init_12 rfl (.head _) ?_
  refine n_bipush (pc := 13) (x := (120 : Nat)) d_Gr_init_13 (by decide) (by decide) ?_
  refine n_newI (pc := 15) (k := 33) (N := 120) d_Gr_init_15 rfl (by decide) (by decide) (by decide) rfl (by decide) (mt_1 76 rfl rfl) ?_
  refine n_putr (pc := 17) (o := 31) (ci := 3) (f := 3) (N := 13) (r := 33) d_Gr_init_17 (Or.inr ⟨ff_Gr_13, rfl⟩) (by decide) rfl (by decide) (Or.inr ⟨_, rfl⟩) (by decide) ?_
  refine n_aload_n (pc := 20) (i := 0) (x := 31) d_Gr_init_20 rfl (.head _) ?_
  refine n_sipush (pc := 21) (x := (480 : Nat)) d_Gr_init_21 (by decide) (by decide) ?_
  refine n_newI (pc := 24) (k := 34) (N := 480) d_Gr_init_24 rfl (by decide) (by decide) (by decide) rfl (by decide) (mt_1 76 rfl rfl) ?_
  refine n_putr (pc := 26) (o := 31) (ci := 3) (f := 4) (N := 13) (r := 34) d_Gr_init_26 (Or.inr ⟨ff_Gr_16, rfl⟩) (by decide) rfl (by decide) (Or.inr ⟨_, rfl⟩) (by decide) ?_
  refine n_aload_n (pc := 29) (i := 0) (x := 31) d_Gr_init_29 rfl (.head _) ?_
  refine n_bipush (pc := 30) (x := (40 : Nat)) d_Gr_init_30 (by decide) (by decide) ?_
  refine n_newI (pc := 32) (k := 35) (N := 40) d_Gr_init_32 rfl (by decide) (by decide) (by decide) rfl (by decide) (mt_1 76 rfl rfl) ?_
  refine n_putr (pc := 34) (o := 31) (ci := 3) (f := 5) (N := 13) (r := 35) d_Gr_init_34 (Or.inr ⟨ff_Gr_19, rfl⟩) (by decide) rfl (by decide) (Or.inr ⟨_, rfl⟩) (by decide) ?_
  refine n_aload_n (pc := 37) (i := 0) (x := 31) d_Gr_init_37 rfl (.head _) ?_
  refine n_bipush (pc := 38) (x := (40 : Nat)) d_Gr_init_38 (by decide) (by decide) ?_
  refine n_newI (pc := 40) (k := 36) (N := 40) d_Gr_init_40 rfl (by decide) (by decide) (by decide) rfl (by decide) (mt_1 76 rfl rfl) ?_
  refine n_putr (pc := 42) (o := 31) (ci := 3) (f := 6) (N := 13) (r := 36) d_Gr_init_42 (Or.inr ⟨ff_Gr_22, rfl⟩) (by decide) rfl (by decide) (Or.inr ⟨_, rfl⟩) (by decide) ?_
  refine n_aload_n (pc := 45) (i := 0) (x := 31) d_Gr_init_45 rfl (.head _) ?_
  refine n_bipush (pc := 46) (x := (40 : Nat)) d_Gr_init_46 (by decide) (by decide) ?_
  refine n_newI (pc := 48) (k := 37) (N := 40) d_Gr_init_48 rfl (by decide) (by decide) (by decide) rfl (by decide) (mt_1 76 rfl rfl) ?_
  refine n_putr (pc := 50) (o := 31) (ci := 3) (f := 7) (N := 13) (r := 37) d_Gr_init_50 (Or.inr ⟨ff_Gr_25, rfl⟩) (by decide) rfl (by decide) (Or.inr ⟨_, rfl⟩) (by decide) ?_
  refine n_aload_n (pc := 53) (i := 0) (x := 31) d_Gr_init_53 rfl (.head _) ?_
  refine n_bipush (pc := 54) (x := (40 : Nat)) d_Gr_init_54 (by decide) (by decide) ?_
  refine n_newI (pc := 56) (k := 38) (N := 40) d_Gr_init_56 rfl (by decide) (by decide) (by decide) rfl (by decide) (mt_1 76 rfl rfl) ?_
  refine n_putr (pc := 58) (o := 31) (ci := 3) (f := 8) (N := 13) (r := 38) d_Gr_init_58 (Or.inr ⟨ff_Gr_28, rfl⟩) (by decide) rfl (by decide) (Or.inr ⟨_, rfl⟩) (by decide) ?_
  refine n_aload_n (pc := 61) (i := 0) (x := 31) d_Gr_init_61 rfl (.head _) ?_
  refine n_bipush (pc := 62) (x := (120 : Nat)) d_Gr_init_62 (by decide) (by decide) ?_
  refine n_newI (pc := 64) (k := 39) (N := 120) d_Gr_init_64 rfl (by decide) (by decide) (by decide) rfl (by decide) (mt_1 76 rfl rfl) ?_
  refine n_putr (pc := 66) (o := 31) (ci := 3) (f := 9) (N := 13) (r := 39) d_Gr_init_66 (Or.inr ⟨ff_Gr_31, rfl⟩) (by decide) rfl (by decide) (Or.inr ⟨_, rfl⟩) (by decide) ?_
  refine n_aload_n (pc := 69) (i := 0) (x := 31) d_Gr_init_69 rfl (.head _) ?_
  refine n_bipush (pc := 70) (x := (40 : Nat)) d_Gr_init_70 (by decide) (by decide) ?_
  refine n_newI (pc := 72) (k := 40) (N := 40) d_Gr_init_72 rfl (by decide) (by decide) (by decide) rfl (by decide) (mt_1 76 rfl rfl) ?_
  refine n_putr (pc := 74) (o := 31) (ci := 3) (f := 10) (N := 13) (r := 40) d_Gr_init_74 (Or.inr ⟨ff_Gr_34, rfl⟩) (by decide) rfl (by decide) (Or.inr ⟨_, rfl⟩) (by decide) ?_
  refine n_aload_n (pc := 77) (i := 0) (x := 31) d_Gr_init_77 rfl (.head _) ?_
  refine n_bipush (pc := 78) (x := (40 : Nat)) d_Gr_init_78 (by decide) (by decide) ?_
  refine n_newI (pc := 80) (k := 41) (N := 40) d_Gr_init_80 rfl (by decide) (by decide) (by decide) rfl (by decide) (mt_1 76 rfl rfl) ?_
  refine n_putr (pc := 82) (o := 31) (ci := 3) (f := 11) (N := 13) (r := 41) d_Gr_init_82 (Or.inr ⟨ff_Gr_37, rfl⟩) (by decide) rfl (by decide) (Or.inr ⟨_, rfl⟩) (by decide) ?_
  refine n_aload_n (pc := 85) (i := 0) (x := 31) d_Gr_init_85 rfl (.head _) ?_
  refine n_bipush (pc := 86) (x := (120 : Nat)) d_Gr_init_86 (by decide) (by decide) ?_
  refine n_newI (pc := 88) (k := 42) (N := 120) d_Gr_init_88 rfl (by decide) (by decide) (by decide) rfl (by decide) (mt_1 76 rfl rfl) ?_
  refine n_putr (pc := 90) (o := 31) (ci := 3) (f := 12) (N := 13) (r := 42) d_Gr_init_90 (Or.inr ⟨ff_Gr_40, rfl⟩) (by decide) rfl (by decide) (Or.inr ⟨_, rfl⟩) (by decide) ?_
  exact hK
set_option maxRecDepth 20000 in
set_option maxHeartbeats 4000000 in
theorem n_Gr_s1 {g : Mg} {lo : Nat} {K : Wd → Prop} {w : Wd} (h_31_2 : w 31 2 = ((32 : Nat) : Int)) (h_31_3 : w 31 3 = ((33 : Nat) : Int)) (h_31_4 : w 31 4 = ((34 : Nat) : Int)) (h_31_5 : w 31 5 = ((35 : Nat) : Int)) (h_31_6 : w 31 6 = ((36 : Nat) : Int)) (h_31_7 : w 31 7 = ((37 : Nat) : Int)) (h_31_8 : w 31 8 = ((38 : Nat) : Int)) (h_31_9 : w 31 9 = ((39 : Nat) : Int)) (h_31_10 : w 31 10 = ((40 : Nat) : Int)) (h_31_11 : w 31 11 = ((41 : Nat) : Int)) (h_31_12 : w 31 12 = ((42 : Nat) : Int)) (hK : K (fillw (fillw (fillw (fillw (fillw (up (up w 31 0 1) 31 1 0) 34 480 0) 35 40 0) 36 40 0) 37 40 (-1)) 40 40 (-1))) : NV g LC.ly szC lo 105 jGr_init 11 32 43 K 93 [(0, vA 31)] [] 43 w := by
  refine n_aload_n (pc := 93) (i := 0) (x := 31) d_Gr_init_93 rfl (.head _) ?_
  refine n_iconst (pc := 94) d_Gr_init_94 (by decide) ?_
  refine n_callV (pc := 95) (st := []) (y := LG) (J' := jGr_clear) (d' := 5) (o := 31) (ci := 3) (N := 13) (T := cT3) (As := [vI 1]) rfl rfl (rf_LG _ (⟨h_31_2, h_31_3, h_31_4, h_31_5, h_31_6, h_31_7, h_31_8, h_31_9, h_31_10, h_31_11, h_31_12⟩)) d_Gr_init_95 ml_Gr_43 (by decide) rfl (by decide) rfl rfl (by decide) (by decide) (by decide) (by decide) (cl_LG ⟨rfl, fun o h j => by rw [fillw_o (by omega), fillw_o (by omega), fillw_o (by omega), fillw_o (by omega), fillw_o (by omega), up_o (by omega), up_o (by omega)], ?_⟩)
  exact n_vret (pc := 98) d_Gr_init_98 rfl hK (by decide)
set_option maxRecDepth 20000 in
set_option maxHeartbeats 4000000 in
theorem n_Gr {g : Mg} {lo : Nat} {K : Wd → Prop} {w : Wd}  (hK : K (fillw (fillw (fillw (fillw (fillw (up (up (up (up (up (up (up (up (up (up (up (up (up w 31 2 ((32 : Nat) : Int)) 31 3 ((33 : Nat) : Int)) 31 4 ((34 : Nat) : Int)) 31 5 ((35 : Nat) : Int)) 31 6 ((36 : Nat) : Int)) 31 7 ((37 : Nat) : Int)) 31 8 ((38 : Nat) : Int)) 31 9 ((39 : Nat) : Int)) 31 10 ((40 : Nat) : Int)) 31 11 ((41 : Nat) : Int)) 31 12 ((42 : Nat) : Int)) 31 0 1) 31 1 0) 34 480 0) 35 40 0) 36 40 0) 37 40 (-1)) 40 40 (-1))) : NCal g LC.ly szC lo 105 jGr_init 11 32 43 [vA 31] w K := by
  refine NCal.ofV (by decide) rfl rfl (Nat.le_of_ble_eq_true rfl) ?_
  show NV g LC.ly szC lo 105 jGr_init 11 32 43 K 0 [(0, vA 31)] [] 32 w
  refine n_Gr_s0  ?_
  refine n_Gr_s1 (rfl) (rfl) (rfl) (rfl) (rfl) (rfl) (rfl) (rfl) (rfl) (rfl) (rfl) ?_
  exact hK
set_option maxRecDepth 20000 in
set_option maxHeartbeats 4000000 in
theorem n_Mo_45_s0 {g : Mg} {lo : Nat} {K : Wd → Prop} {w : Wd}  (hK : K (up (up (up (up (up (up w 45 2 ((46 : Nat) : Int)) 45 3 ((47 : Nat) : Int)) 45 4 ((48 : Nat) : Int)) 45 5 ((49 : Nat) : Int)) 45 6 ((50 : Nat) : Int)) 45 7 ((51 : Nat) : Int))) : NV g LC.ly szC lo 105 jMo_init 10 46 52 K 0 [(0, vA 45)] [] 46 w := by
  refine n_aload_n (pc := 0) (i := 0) (x := 45) d_Mo_init_0 rfl (.head _) ?_
  refine n_obj (pc := 1) (o := 45) d_Mo_init_1 (mt_2 119 rfl rfl) (mt_1 32 rfl rfl) (mt_1 33 rfl rfl) (by decide) (by decide) ?_
  refine n_aload_n (pc := 4) (i := 0) (x := 45) d_Mo_init_4 rfl (.head _) ?_
  refine n_sipush (pc := 5) (x := (320 : Nat)) d_Mo_init_5 (by decide) (by decide) ?_
  refine n_newI (pc := 8) (k := 46) (N := 320) d_Mo_init_8 rfl (by decide) (by decide) (by decide) rfl (by decide) (mt_1 76 rfl rfl) ?_
  refine n_putr (pc := 10) (o := 45) (ci := 6) (f := 2) (N := 8) (r := 46) d_Mo_init_10 (Or.inr ⟨ff_Mo_11, rfl⟩) (by decide) rfl (by decide) (Or.inr ⟨_, rfl⟩) (by decide) ?_
  refine n_aload_n (pc := 13) (i := 0) (x := 45) d_Mo_init_13 rfl (.head _) ?_
  refine n_bipush (pc := 14) (x := (40 : Nat)) d_Mo_init_14 (by decide) (by decide) ?_
  refine n_newZ (pc := 16) (k := 47) (N := 40) d_Mo_init_16 rfl (by decide) (by decide) (by decide) rfl (by decide) (mt_2 25 rfl rfl) ?_
  refine n_putr (pc := 18) (o := 45) (ci := 6) (f := 3) (N := 8) (r := 47) d_Mo_init_18 (Or.inr ⟨ff_Mo_17, rfl⟩) (by decide) rfl (by decide) (Or.inr ⟨_, rfl⟩) (by decide) ?_
  refine n_aload_n (pc := 21) (i := 0) (x := 45) d_Mo_init_21 rfl (.head _) ?_
  refine n_sipush (pc := 22) (x := (160 : Nat)) d_Mo_init_22 (by decide) (by decide) ?_
  refine n_newI (pc := 25) (k := 48) (N := 160) d_Mo_init_25 rfl (by decide) (by decide) (by decide) rfl (by decide) (mt_1 76 rfl rfl) ?_
  refine n_putr (pc := 27) (o := 45) (ci := 6) (f := 4) (N := 8) (r := 48) d_Mo_init_27 (Or.inr ⟨ff_Mo_21, rfl⟩) (by decide) rfl (by decide) (Or.inr ⟨_, rfl⟩) (by decide) ?_
  refine n_aload_n (pc := 30) (i := 0) (x := 45) d_Mo_init_30 rfl (.head _) ?_
  refine n_sipush (pc := 31) (x := (160 : Nat)) d_Mo_init_31 (by decide) (by decide) ?_
  refine n_newI (pc := 34) (k := 49) (N := 160) d_Mo_init_34 rfl (by decide) (by decide) (by decide) rfl (by decide) (mt_1 76 rfl rfl) ?_
  refine n_putr (pc := 36) (o := 45) (ci := 6) (f := 5) (N := 8) (r := 49) d_Mo_init_36 (Or.inr ⟨ff_Mo_24, rfl⟩) (by decide) rfl (by decide) (Or.inr ⟨_, rfl⟩) (by decide) ?_
  refine n_aload_n (pc := 39) (i := 0) (x := 45) d_Mo_init_39 rfl (.head _) ?_
  refine n_iconst (pc := 40) (x := (4 : Nat)) d_Mo_init_40 (by decide) ?_
  refine n_newI (pc := 41) (k := 50) (N := 4) d_Mo_init_41 rfl (by decide) (by decide) (by decide) rfl (by decide) (mt_1 76 rfl rfl) ?_
  refine n_putr (pc := 43) (o := 45) (ci := 6) (f := 6) (N := 8) (r := 50) d_Mo_init_43 (Or.inr ⟨ff_Mo_27, rfl⟩) (by decide) rfl (by decide) (Or.inr ⟨_, rfl⟩) (by decide) ?_
  refine n_aload_n (pc := 46) (i := 0) (x := 45) d_Mo_init_46 rfl (.head _) ?_
  refine n_iconst (pc := 47) (x := (4 : Nat)) d_Mo_init_47 (by decide) ?_
  refine n_newI (pc := 48) (k := 51) (N := 4) d_Mo_init_48 rfl (by decide) (by decide) (by decide) rfl (by decide) (mt_1 76 rfl rfl) ?_
  refine n_putr (pc := 50) (o := 45) (ci := 6) (f := 7) (N := 8) (r := 51) d_Mo_init_50 (Or.inr ⟨ff_Mo_30, rfl⟩) (by decide) rfl (by decide) (Or.inr ⟨_, rfl⟩) (by decide) ?_
  exact n_vret (pc := 53) d_Mo_init_53 rfl hK (by decide)
set_option maxRecDepth 20000 in
set_option maxHeartbeats 4000000 in
theorem n_Mo_45 {g : Mg} {lo : Nat} {K : Wd → Prop} {w : Wd}  (hK : K (up (up (up (up (up (up w 45 2 ((46 : Nat) : Int)) 45 3 ((47 : Nat) : Int)) 45 4 ((48 : Nat) : Int)) 45 5 ((49 : Nat) : Int)) 45 6 ((50 : Nat) : Int)) 45 7 ((51 : Nat) : Int))) : NCal g LC.ly szC lo 105 jMo_init 10 46 52 [vA 45] w K := by
  refine NCal.ofV (by decide) rfl rfl (Nat.le_of_ble_eq_true rfl) ?_
  show NV g LC.ly szC lo 105 jMo_init 10 46 52 K 0 [(0, vA 45)] [] 46 w
  refine n_Mo_45_s0  ?_
  exact hK
set_option maxRecDepth 20000 in
set_option maxHeartbeats 4000000 in
theorem n_Mo_52_s0 {g : Mg} {lo : Nat} {K : Wd → Prop} {w : Wd}  (hK : K (up (up (up (up (up (up w 52 2 ((53 : Nat) : Int)) 52 3 ((54 : Nat) : Int)) 52 4 ((55 : Nat) : Int)) 52 5 ((56 : Nat) : Int)) 52 6 ((57 : Nat) : Int)) 52 7 ((58 : Nat) : Int))) : NV g LC.ly szC lo 105 jMo_init 10 53 59 K 0 [(0, vA 52)] [] 53 w := by
  refine n_aload_n (pc := 0) (i := 0) (x := 52) d_Mo_init_0 rfl (.head _) ?_
  refine n_obj (pc := 1) (o := 52) d_Mo_init_1 (mt_2 119 rfl rfl) (mt_1 32 rfl rfl) (mt_1 33 rfl rfl) (by decide) (by decide) ?_
  refine n_aload_n (pc := 4) (i := 0) (x := 52) d_Mo_init_4 rfl (.head _) ?_
  refine n_sipush (pc := 5) (x := (320 : Nat)) d_Mo_init_5 (by decide) (by decide) ?_
  refine n_newI (pc := 8) (k := 53) (N := 320) d_Mo_init_8 rfl (by decide) (by decide) (by decide) rfl (by decide) (mt_1 76 rfl rfl) ?_
  refine n_putr (pc := 10) (o := 52) (ci := 6) (f := 2) (N := 8) (r := 53) d_Mo_init_10 (Or.inr ⟨ff_Mo_11, rfl⟩) (by decide) rfl (by decide) (Or.inr ⟨_, rfl⟩) (by decide) ?_
  refine n_aload_n (pc := 13) (i := 0) (x := 52) d_Mo_init_13 rfl (.head _) ?_
  refine n_bipush (pc := 14) (x := (40 : Nat)) d_Mo_init_14 (by decide) (by decide) ?_
  refine n_newZ (pc := 16) (k := 54) (N := 40) d_Mo_init_16 rfl (by decide) (by decide) (by decide) rfl (by decide) (mt_2 25 rfl rfl) ?_
  refine n_putr (pc := 18) (o := 52) (ci := 6) (f := 3) (N := 8) (r := 54) d_Mo_init_18 (Or.inr ⟨ff_Mo_17, rfl⟩) (by decide) rfl (by decide) (Or.inr ⟨_, rfl⟩) (by decide) ?_
  refine n_aload_n (pc := 21) (i := 0) (x := 52) d_Mo_init_21 rfl (.head _) ?_
  refine n_sipush (pc := 22) (x := (160 : Nat)) d_Mo_init_22 (by decide) (by decide) ?_
  refine n_newI (pc := 25) (k := 55) (N := 160) d_Mo_init_25 rfl (by decide) (by decide) (by decide) rfl (by decide) (mt_1 76 rfl rfl) ?_
  refine n_putr (pc := 27) (o := 52) (ci := 6) (f := 4) (N := 8) (r := 55) d_Mo_init_27 (Or.inr ⟨ff_Mo_21, rfl⟩) (by decide) rfl (by decide) (Or.inr ⟨_, rfl⟩) (by decide) ?_
  refine n_aload_n (pc := 30) (i := 0) (x := 52) d_Mo_init_30 rfl (.head _) ?_
  refine n_sipush (pc := 31) (x := (160 : Nat)) d_Mo_init_31 (by decide) (by decide) ?_
  refine n_newI (pc := 34) (k := 56) (N := 160) d_Mo_init_34 rfl (by decide) (by decide) (by decide) rfl (by decide) (mt_1 76 rfl rfl) ?_
  refine n_putr (pc := 36) (o := 52) (ci := 6) (f := 5) (N := 8) (r := 56) d_Mo_init_36 (Or.inr ⟨ff_Mo_24, rfl⟩) (by decide) rfl (by decide) (Or.inr ⟨_, rfl⟩) (by decide) ?_
  refine n_aload_n (pc := 39) (i := 0) (x := 52) d_Mo_init_39 rfl (.head _) ?_
  refine n_iconst (pc := 40) (x := (4 : Nat)) d_Mo_init_40 (by decide) ?_
  refine n_newI (pc := 41) (k := 57) (N := 4) d_Mo_init_41 rfl (by decide) (by decide) (by decide) rfl (by decide) (mt_1 76 rfl rfl) ?_
  refine n_putr (pc := 43) (o := 52) (ci := 6) (f := 6) (N := 8) (r := 57) d_Mo_init_43 (Or.inr ⟨ff_Mo_27, rfl⟩) (by decide) rfl (by decide) (Or.inr ⟨_, rfl⟩) (by decide) ?_
  refine n_aload_n (pc := 46) (i := 0) (x := 52) d_Mo_init_46 rfl (.head _) ?_
  refine n_iconst (pc := 47) (x := (4 : Nat)) d_Mo_init_47 (by decide) ?_
  refine n_newI (pc := 48) (k := 58) (N := 4) d_Mo_init_48 rfl (by decide) (by decide) (by decide) rfl (by decide) (mt_1 76 rfl rfl) ?_
  refine n_putr (pc := 50) (o := 52) (ci := 6) (f := 7) (N := 8) (r := 58) d_Mo_init_50 (Or.inr ⟨ff_Mo_30, rfl⟩) (by decide) rfl (by decide) (Or.inr ⟨_, rfl⟩) (by decide) ?_
  exact n_vret (pc := 53) d_Mo_init_53 rfl hK (by decide)
set_option maxRecDepth 20000 in
set_option maxHeartbeats 4000000 in
theorem n_Mo_52 {g : Mg} {lo : Nat} {K : Wd → Prop} {w : Wd}  (hK : K (up (up (up (up (up (up w 52 2 ((53 : Nat) : Int)) 52 3 ((54 : Nat) : Int)) 52 4 ((55 : Nat) : Int)) 52 5 ((56 : Nat) : Int)) 52 6 ((57 : Nat) : Int)) 52 7 ((58 : Nat) : Int))) : NCal g LC.ly szC lo 105 jMo_init 10 53 59 [vA 52] w K := by
  refine NCal.ofV (by decide) rfl rfl (Nat.le_of_ble_eq_true rfl) ?_
  show NV g LC.ly szC lo 105 jMo_init 10 53 59 K 0 [(0, vA 52)] [] 53 w
  refine n_Mo_52_s0  ?_
  exact hK
set_option maxRecDepth 20000 in
set_option maxHeartbeats 4000000 in
theorem n_Mo_59_s0 {g : Mg} {lo : Nat} {K : Wd → Prop} {w : Wd}  (hK : K (up (up (up (up (up (up w 59 2 ((60 : Nat) : Int)) 59 3 ((61 : Nat) : Int)) 59 4 ((62 : Nat) : Int)) 59 5 ((63 : Nat) : Int)) 59 6 ((64 : Nat) : Int)) 59 7 ((65 : Nat) : Int))) : NV g LC.ly szC lo 105 jMo_init 10 60 66 K 0 [(0, vA 59)] [] 60 w := by
  refine n_aload_n (pc := 0) (i := 0) (x := 59) d_Mo_init_0 rfl (.head _) ?_
  refine n_obj (pc := 1) (o := 59) d_Mo_init_1 (mt_2 119 rfl rfl) (mt_1 32 rfl rfl) (mt_1 33 rfl rfl) (by decide) (by decide) ?_
  refine n_aload_n (pc := 4) (i := 0) (x := 59) d_Mo_init_4 rfl (.head _) ?_
  refine n_sipush (pc := 5) (x := (320 : Nat)) d_Mo_init_5 (by decide) (by decide) ?_
  refine n_newI (pc := 8) (k := 60) (N := 320) d_Mo_init_8 rfl (by decide) (by decide) (by decide) rfl (by decide) (mt_1 76 rfl rfl) ?_
  refine n_putr (pc := 10) (o := 59) (ci := 6) (f := 2) (N := 8) (r := 60) d_Mo_init_10 (Or.inr ⟨ff_Mo_11, rfl⟩) (by decide) rfl (by decide) (Or.inr ⟨_, rfl⟩) (by decide) ?_
  refine n_aload_n (pc := 13) (i := 0) (x := 59) d_Mo_init_13 rfl (.head _) ?_
  refine n_bipush (pc := 14) (x := (40 : Nat)) d_Mo_init_14 (by decide) (by decide) ?_
  refine n_newZ (pc := 16) (k := 61) (N := 40) d_Mo_init_16 rfl (by decide) (by decide) (by decide) rfl (by decide) (mt_2 25 rfl rfl) ?_
  refine n_putr (pc := 18) (o := 59) (ci := 6) (f := 3) (N := 8) (r := 61) d_Mo_init_18 (Or.inr ⟨ff_Mo_17, rfl⟩) (by decide) rfl (by decide) (Or.inr ⟨_, rfl⟩) (by decide) ?_
  refine n_aload_n (pc := 21) (i := 0) (x := 59) d_Mo_init_21 rfl (.head _) ?_
  refine n_sipush (pc := 22) (x := (160 : Nat)) d_Mo_init_22 (by decide) (by decide) ?_
  refine n_newI (pc := 25) (k := 62) (N := 160) d_Mo_init_25 rfl (by decide) (by decide) (by decide) rfl (by decide) (mt_1 76 rfl rfl) ?_
  refine n_putr (pc := 27) (o := 59) (ci := 6) (f := 4) (N := 8) (r := 62) d_Mo_init_27 (Or.inr ⟨ff_Mo_21, rfl⟩) (by decide) rfl (by decide) (Or.inr ⟨_, rfl⟩) (by decide) ?_
  refine n_aload_n (pc := 30) (i := 0) (x := 59) d_Mo_init_30 rfl (.head _) ?_
  refine n_sipush (pc := 31) (x := (160 : Nat)) d_Mo_init_31 (by decide) (by decide) ?_
  refine n_newI (pc := 34) (k := 63) (N := 160) d_Mo_init_34 rfl (by decide) (by decide) (by decide) rfl (by decide) (mt_1 76 rfl rfl) ?_
  refine n_putr (pc := 36) (o := 59) (ci := 6) (f := 5) (N := 8) (r := 63) d_Mo_init_36 (Or.inr ⟨ff_Mo_24, rfl⟩) (by decide) rfl (by decide) (Or.inr ⟨_, rfl⟩) (by decide) ?_
  refine n_aload_n (pc := 39) (i := 0) (x := 59) d_Mo_init_39 rfl (.head _) ?_
  refine n_iconst (pc := 40) (x := (4 : Nat)) d_Mo_init_40 (by decide) ?_
  refine n_newI (pc := 41) (k := 64) (N := 4) d_Mo_init_41 rfl (by decide) (by decide) (by decide) rfl (by decide) (mt_1 76 rfl rfl) ?_
  refine n_putr (pc := 43) (o := 59) (ci := 6) (f := 6) (N := 8) (r := 64) d_Mo_init_43 (Or.inr ⟨ff_Mo_27, rfl⟩) (by decide) rfl (by decide) (Or.inr ⟨_, rfl⟩) (by decide) ?_
  refine n_aload_n (pc := 46) (i := 0) (x := 59) d_Mo_init_46 rfl (.head _) ?_
  refine n_iconst (pc := 47) (x := (4 : Nat)) d_Mo_init_47 (by decide) ?_
  refine n_newI (pc := 48) (k := 65) (N := 4) d_Mo_init_48 rfl (by decide) (by decide) (by decide) rfl (by decide) (mt_1 76 rfl rfl) ?_
  refine n_putr (pc := 50) (o := 59) (ci := 6) (f := 7) (N := 8) (r := 65) d_Mo_init_50 (Or.inr ⟨ff_Mo_30, rfl⟩) (by decide) rfl (by decide) (Or.inr ⟨_, rfl⟩) (by decide) ?_
  exact n_vret (pc := 53) d_Mo_init_53 rfl hK (by decide)
set_option maxRecDepth 20000 in
set_option maxHeartbeats 4000000 in
theorem n_Mo_59 {g : Mg} {lo : Nat} {K : Wd → Prop} {w : Wd}  (hK : K (up (up (up (up (up (up w 59 2 ((60 : Nat) : Int)) 59 3 ((61 : Nat) : Int)) 59 4 ((62 : Nat) : Int)) 59 5 ((63 : Nat) : Int)) 59 6 ((64 : Nat) : Int)) 59 7 ((65 : Nat) : Int))) : NCal g LC.ly szC lo 105 jMo_init 10 60 66 [vA 59] w K := by
  refine NCal.ofV (by decide) rfl rfl (Nat.le_of_ble_eq_true rfl) ?_
  show NV g LC.ly szC lo 105 jMo_init 10 60 66 K 0 [(0, vA 59)] [] 60 w
  refine n_Mo_59_s0  ?_
  exact hK
set_option maxRecDepth 20000 in
set_option maxHeartbeats 4000000 in
theorem n_Mo_66_s0 {g : Mg} {lo : Nat} {K : Wd → Prop} {w : Wd}  (hK : K (up (up (up (up (up (up w 66 2 ((67 : Nat) : Int)) 66 3 ((68 : Nat) : Int)) 66 4 ((69 : Nat) : Int)) 66 5 ((70 : Nat) : Int)) 66 6 ((71 : Nat) : Int)) 66 7 ((72 : Nat) : Int))) : NV g LC.ly szC lo 105 jMo_init 10 67 73 K 0 [(0, vA 66)] [] 67 w := by
  refine n_aload_n (pc := 0) (i := 0) (x := 66) d_Mo_init_0 rfl (.head _) ?_
  refine n_obj (pc := 1) (o := 66) d_Mo_init_1 (mt_2 119 rfl rfl) (mt_1 32 rfl rfl) (mt_1 33 rfl rfl) (by decide) (by decide) ?_
  refine n_aload_n (pc := 4) (i := 0) (x := 66) d_Mo_init_4 rfl (.head _) ?_
  refine n_sipush (pc := 5) (x := (320 : Nat)) d_Mo_init_5 (by decide) (by decide) ?_
  refine n_newI (pc := 8) (k := 67) (N := 320) d_Mo_init_8 rfl (by decide) (by decide) (by decide) rfl (by decide) (mt_1 76 rfl rfl) ?_
  refine n_putr (pc := 10) (o := 66) (ci := 6) (f := 2) (N := 8) (r := 67) d_Mo_init_10 (Or.inr ⟨ff_Mo_11, rfl⟩) (by decide) rfl (by decide) (Or.inr ⟨_, rfl⟩) (by decide) ?_
  refine n_aload_n (pc := 13) (i := 0) (x := 66) d_Mo_init_13 rfl (.head _) ?_
  refine n_bipush (pc := 14) (x := (40 : Nat)) d_Mo_init_14 (by decide) (by decide) ?_
  refine n_newZ (pc := 16) (k := 68) (N := 40) d_Mo_init_16 rfl (by decide) (by decide) (by decide) rfl (by decide) (mt_2 25 rfl rfl) ?_
  refine n_putr (pc := 18) (o := 66) (ci := 6) (f := 3) (N := 8) (r := 68) d_Mo_init_18 (Or.inr ⟨ff_Mo_17, rfl⟩) (by decide) rfl (by decide) (Or.inr ⟨_, rfl⟩) (by decide) ?_
  refine n_aload_n (pc := 21) (i := 0) (x := 66) d_Mo_init_21 rfl (.head _) ?_
  refine n_sipush (pc := 22) (x := (160 : Nat)) d_Mo_init_22 (by decide) (by decide) ?_
  refine n_newI (pc := 25) (k := 69) (N := 160) d_Mo_init_25 rfl (by decide) (by decide) (by decide) rfl (by decide) (mt_1 76 rfl rfl) ?_
  refine n_putr (pc := 27) (o := 66) (ci := 6) (f := 4) (N := 8) (r := 69) d_Mo_init_27 (Or.inr ⟨ff_Mo_21, rfl⟩) (by decide) rfl (by decide) (Or.inr ⟨_, rfl⟩) (by decide) ?_
  refine n_aload_n (pc := 30) (i := 0) (x := 66) d_Mo_init_30 rfl (.head _) ?_
  refine n_sipush (pc := 31) (x := (160 : Nat)) d_Mo_init_31 (by decide) (by decide) ?_
  refine n_newI (pc := 34) (k := 70) (N := 160) d_Mo_init_34 rfl (by decide) (by decide) (by decide) rfl (by decide) (mt_1 76 rfl rfl) ?_
  refine n_putr (pc := 36) (o := 66) (ci := 6) (f := 5) (N := 8) (r := 70) d_Mo_init_36 (Or.inr ⟨ff_Mo_24, rfl⟩) (by decide) rfl (by decide) (Or.inr ⟨_, rfl⟩) (by decide) ?_
  refine n_aload_n (pc := 39) (i := 0) (x := 66) d_Mo_init_39 rfl (.head _) ?_
  refine n_iconst (pc := 40) (x := (4 : Nat)) d_Mo_init_40 (by decide) ?_
  refine n_newI (pc := 41) (k := 71) (N := 4) d_Mo_init_41 rfl (by decide) (by decide) (by decide) rfl (by decide) (mt_1 76 rfl rfl) ?_
  refine n_putr (pc := 43) (o := 66) (ci := 6) (f := 6) (N := 8) (r := 71) d_Mo_init_43 (Or.inr ⟨ff_Mo_27, rfl⟩) (by decide) rfl (by decide) (Or.inr ⟨_, rfl⟩) (by decide) ?_
  refine n_aload_n (pc := 46) (i := 0) (x := 66) d_Mo_init_46 rfl (.head _) ?_
  refine n_iconst (pc := 47) (x := (4 : Nat)) d_Mo_init_47 (by decide) ?_
  refine n_newI (pc := 48) (k := 72) (N := 4) d_Mo_init_48 rfl (by decide) (by decide) (by decide) rfl (by decide) (mt_1 76 rfl rfl) ?_
  refine n_putr (pc := 50) (o := 66) (ci := 6) (f := 7) (N := 8) (r := 72) d_Mo_init_50 (Or.inr ⟨ff_Mo_30, rfl⟩) (by decide) rfl (by decide) (Or.inr ⟨_, rfl⟩) (by decide) ?_
  exact n_vret (pc := 53) d_Mo_init_53 rfl hK (by decide)
set_option maxRecDepth 20000 in
set_option maxHeartbeats 4000000 in
theorem n_Mo_66 {g : Mg} {lo : Nat} {K : Wd → Prop} {w : Wd}  (hK : K (up (up (up (up (up (up w 66 2 ((67 : Nat) : Int)) 66 3 ((68 : Nat) : Int)) 66 4 ((69 : Nat) : Int)) 66 5 ((70 : Nat) : Int)) 66 6 ((71 : Nat) : Int)) 66 7 ((72 : Nat) : Int))) : NCal g LC.ly szC lo 105 jMo_init 10 67 73 [vA 66] w K := by
  refine NCal.ofV (by decide) rfl rfl (Nat.le_of_ble_eq_true rfl) ?_
  show NV g LC.ly szC lo 105 jMo_init 10 67 73 K 0 [(0, vA 66)] [] 67 w
  refine n_Mo_66_s0  ?_
  exact hK
set_option maxRecDepth 20000 in
set_option maxHeartbeats 4000000 in
theorem n_Mo_73_s0 {g : Mg} {lo : Nat} {K : Wd → Prop} {w : Wd}  (hK : K (up (up (up (up (up (up w 73 2 ((74 : Nat) : Int)) 73 3 ((75 : Nat) : Int)) 73 4 ((76 : Nat) : Int)) 73 5 ((77 : Nat) : Int)) 73 6 ((78 : Nat) : Int)) 73 7 ((79 : Nat) : Int))) : NV g LC.ly szC lo 105 jMo_init 10 74 80 K 0 [(0, vA 73)] [] 74 w := by
  refine n_aload_n (pc := 0) (i := 0) (x := 73) d_Mo_init_0 rfl (.head _) ?_
  refine n_obj (pc := 1) (o := 73) d_Mo_init_1 (mt_2 119 rfl rfl) (mt_1 32 rfl rfl) (mt_1 33 rfl rfl) (by decide) (by decide) ?_
  refine n_aload_n (pc := 4) (i := 0) (x := 73) d_Mo_init_4 rfl (.head _) ?_
  refine n_sipush (pc := 5) (x := (320 : Nat)) d_Mo_init_5 (by decide) (by decide) ?_
  refine n_newI (pc := 8) (k := 74) (N := 320) d_Mo_init_8 rfl (by decide) (by decide) (by decide) rfl (by decide) (mt_1 76 rfl rfl) ?_
  refine n_putr (pc := 10) (o := 73) (ci := 6) (f := 2) (N := 8) (r := 74) d_Mo_init_10 (Or.inr ⟨ff_Mo_11, rfl⟩) (by decide) rfl (by decide) (Or.inr ⟨_, rfl⟩) (by decide) ?_
  refine n_aload_n (pc := 13) (i := 0) (x := 73) d_Mo_init_13 rfl (.head _) ?_
  refine n_bipush (pc := 14) (x := (40 : Nat)) d_Mo_init_14 (by decide) (by decide) ?_
  refine n_newZ (pc := 16) (k := 75) (N := 40) d_Mo_init_16 rfl (by decide) (by decide) (by decide) rfl (by decide) (mt_2 25 rfl rfl) ?_
  refine n_putr (pc := 18) (o := 73) (ci := 6) (f := 3) (N := 8) (r := 75) d_Mo_init_18 (Or.inr ⟨ff_Mo_17, rfl⟩) (by decide) rfl (by decide) (Or.inr ⟨_, rfl⟩) (by decide) ?_
  refine n_aload_n (pc := 21) (i := 0) (x := 73) d_Mo_init_21 rfl (.head _) ?_
  refine n_sipush (pc := 22) (x := (160 : Nat)) d_Mo_init_22 (by decide) (by decide) ?_
  refine n_newI (pc := 25) (k := 76) (N := 160) d_Mo_init_25 rfl (by decide) (by decide) (by decide) rfl (by decide) (mt_1 76 rfl rfl) ?_
  refine n_putr (pc := 27) (o := 73) (ci := 6) (f := 4) (N := 8) (r := 76) d_Mo_init_27 (Or.inr ⟨ff_Mo_21, rfl⟩) (by decide) rfl (by decide) (Or.inr ⟨_, rfl⟩) (by decide) ?_
  refine n_aload_n (pc := 30) (i := 0) (x := 73) d_Mo_init_30 rfl (.head _) ?_
  refine n_sipush (pc := 31) (x := (160 : Nat)) d_Mo_init_31 (by decide) (by decide) ?_
  refine n_newI (pc := 34) (k := 77) (N := 160) d_Mo_init_34 rfl (by decide) (by decide) (by decide) rfl (by decide) (mt_1 76 rfl rfl) ?_
  refine n_putr (pc := 36) (o := 73) (ci := 6) (f := 5) (N := 8) (r := 77) d_Mo_init_36 (Or.inr ⟨ff_Mo_24, rfl⟩) (by decide) rfl (by decide) (Or.inr ⟨_, rfl⟩) (by decide) ?_
  refine n_aload_n (pc := 39) (i := 0) (x := 73) d_Mo_init_39 rfl (.head _) ?_
  refine n_iconst (pc := 40) (x := (4 : Nat)) d_Mo_init_40 (by decide) ?_
  refine n_newI (pc := 41) (k := 78) (N := 4) d_Mo_init_41 rfl (by decide) (by decide) (by decide) rfl (by decide) (mt_1 76 rfl rfl) ?_
  refine n_putr (pc := 43) (o := 73) (ci := 6) (f := 6) (N := 8) (r := 78) d_Mo_init_43 (Or.inr ⟨ff_Mo_27, rfl⟩) (by decide) rfl (by decide) (Or.inr ⟨_, rfl⟩) (by decide) ?_
  refine n_aload_n (pc := 46) (i := 0) (x := 73) d_Mo_init_46 rfl (.head _) ?_
  refine n_iconst (pc := 47) (x := (4 : Nat)) d_Mo_init_47 (by decide) ?_
  refine n_newI (pc := 48) (k := 79) (N := 4) d_Mo_init_48 rfl (by decide) (by decide) (by decide) rfl (by decide) (mt_1 76 rfl rfl) ?_
  refine n_putr (pc := 50) (o := 73) (ci := 6) (f := 7) (N := 8) (r := 79) d_Mo_init_50 (Or.inr ⟨ff_Mo_30, rfl⟩) (by decide) rfl (by decide) (Or.inr ⟨_, rfl⟩) (by decide) ?_
  exact n_vret (pc := 53) d_Mo_init_53 rfl hK (by decide)
set_option maxRecDepth 20000 in
set_option maxHeartbeats 4000000 in
theorem n_Mo_73 {g : Mg} {lo : Nat} {K : Wd → Prop} {w : Wd}  (hK : K (up (up (up (up (up (up w 73 2 ((74 : Nat) : Int)) 73 3 ((75 : Nat) : Int)) 73 4 ((76 : Nat) : Int)) 73 5 ((77 : Nat) : Int)) 73 6 ((78 : Nat) : Int)) 73 7 ((79 : Nat) : Int))) : NCal g LC.ly szC lo 105 jMo_init 10 74 80 [vA 73] w K := by
  refine NCal.ofV (by decide) rfl rfl (Nat.le_of_ble_eq_true rfl) ?_
  show NV g LC.ly szC lo 105 jMo_init 10 74 80 K 0 [(0, vA 73)] [] 74 w
  refine n_Mo_73_s0  ?_
  exact hK
set_option maxRecDepth 20000 in
set_option maxHeartbeats 4000000 in
theorem n_Mo_80_s0 {g : Mg} {lo : Nat} {K : Wd → Prop} {w : Wd}  (hK : K (up (up (up (up (up (up w 80 2 ((81 : Nat) : Int)) 80 3 ((82 : Nat) : Int)) 80 4 ((83 : Nat) : Int)) 80 5 ((84 : Nat) : Int)) 80 6 ((85 : Nat) : Int)) 80 7 ((86 : Nat) : Int))) : NV g LC.ly szC lo 105 jMo_init 10 81 87 K 0 [(0, vA 80)] [] 81 w := by
  refine n_aload_n (pc := 0) (i := 0) (x := 80) d_Mo_init_0 rfl (.head _) ?_
  refine n_obj (pc := 1) (o := 80) d_Mo_init_1 (mt_2 119 rfl rfl) (mt_1 32 rfl rfl) (mt_1 33 rfl rfl) (by decide) (by decide) ?_
  refine n_aload_n (pc := 4) (i := 0) (x := 80) d_Mo_init_4 rfl (.head _) ?_
  refine n_sipush (pc := 5) (x := (320 : Nat)) d_Mo_init_5 (by decide) (by decide) ?_
  refine n_newI (pc := 8) (k := 81) (N := 320) d_Mo_init_8 rfl (by decide) (by decide) (by decide) rfl (by decide) (mt_1 76 rfl rfl) ?_
  refine n_putr (pc := 10) (o := 80) (ci := 6) (f := 2) (N := 8) (r := 81) d_Mo_init_10 (Or.inr ⟨ff_Mo_11, rfl⟩) (by decide) rfl (by decide) (Or.inr ⟨_, rfl⟩) (by decide) ?_
  refine n_aload_n (pc := 13) (i := 0) (x := 80) d_Mo_init_13 rfl (.head _) ?_
  refine n_bipush (pc := 14) (x := (40 : Nat)) d_Mo_init_14 (by decide) (by decide) ?_
  refine n_newZ (pc := 16) (k := 82) (N := 40) d_Mo_init_16 rfl (by decide) (by decide) (by decide) rfl (by decide) (mt_2 25 rfl rfl) ?_
  refine n_putr (pc := 18) (o := 80) (ci := 6) (f := 3) (N := 8) (r := 82) d_Mo_init_18 (Or.inr ⟨ff_Mo_17, rfl⟩) (by decide) rfl (by decide) (Or.inr ⟨_, rfl⟩) (by decide) ?_
  refine n_aload_n (pc := 21) (i := 0) (x := 80) d_Mo_init_21 rfl (.head _) ?_
  refine n_sipush (pc := 22) (x := (160 : Nat)) d_Mo_init_22 (by decide) (by decide) ?_
  refine n_newI (pc := 25) (k := 83) (N := 160) d_Mo_init_25 rfl (by decide) (by decide) (by decide) rfl (by decide) (mt_1 76 rfl rfl) ?_
  refine n_putr (pc := 27) (o := 80) (ci := 6) (f := 4) (N := 8) (r := 83) d_Mo_init_27 (Or.inr ⟨ff_Mo_21, rfl⟩) (by decide) rfl (by decide) (Or.inr ⟨_, rfl⟩) (by decide) ?_
  refine n_aload_n (pc := 30) (i := 0) (x := 80) d_Mo_init_30 rfl (.head _) ?_
  refine n_sipush (pc := 31) (x := (160 : Nat)) d_Mo_init_31 (by decide) (by decide) ?_
  refine n_newI (pc := 34) (k := 84) (N := 160) d_Mo_init_34 rfl (by decide) (by decide) (by decide) rfl (by decide) (mt_1 76 rfl rfl) ?_
  refine n_putr (pc := 36) (o := 80) (ci := 6) (f := 5) (N := 8) (r := 84) d_Mo_init_36 (Or.inr ⟨ff_Mo_24, rfl⟩) (by decide) rfl (by decide) (Or.inr ⟨_, rfl⟩) (by decide) ?_
  refine n_aload_n (pc := 39) (i := 0) (x := 80) d_Mo_init_39 rfl (.head _) ?_
  refine n_iconst (pc := 40) (x := (4 : Nat)) d_Mo_init_40 (by decide) ?_
  refine n_newI (pc := 41) (k := 85) (N := 4) d_Mo_init_41 rfl (by decide) (by decide) (by decide) rfl (by decide) (mt_1 76 rfl rfl) ?_
  refine n_putr (pc := 43) (o := 80) (ci := 6) (f := 6) (N := 8) (r := 85) d_Mo_init_43 (Or.inr ⟨ff_Mo_27, rfl⟩) (by decide) rfl (by decide) (Or.inr ⟨_, rfl⟩) (by decide) ?_
  refine n_aload_n (pc := 46) (i := 0) (x := 80) d_Mo_init_46 rfl (.head _) ?_
  refine n_iconst (pc := 47) (x := (4 : Nat)) d_Mo_init_47 (by decide) ?_
  refine n_newI (pc := 48) (k := 86) (N := 4) d_Mo_init_48 rfl (by decide) (by decide) (by decide) rfl (by decide) (mt_1 76 rfl rfl) ?_
  refine n_putr (pc := 50) (o := 80) (ci := 6) (f := 7) (N := 8) (r := 86) d_Mo_init_50 (Or.inr ⟨ff_Mo_30, rfl⟩) (by decide) rfl (by decide) (Or.inr ⟨_, rfl⟩) (by decide) ?_
  exact n_vret (pc := 53) d_Mo_init_53 rfl hK (by decide)
set_option maxRecDepth 20000 in
set_option maxHeartbeats 4000000 in
theorem n_Mo_80 {g : Mg} {lo : Nat} {K : Wd → Prop} {w : Wd}  (hK : K (up (up (up (up (up (up w 80 2 ((81 : Nat) : Int)) 80 3 ((82 : Nat) : Int)) 80 4 ((83 : Nat) : Int)) 80 5 ((84 : Nat) : Int)) 80 6 ((85 : Nat) : Int)) 80 7 ((86 : Nat) : Int))) : NCal g LC.ly szC lo 105 jMo_init 10 81 87 [vA 80] w K := by
  refine NCal.ofV (by decide) rfl rfl (Nat.le_of_ble_eq_true rfl) ?_
  show NV g LC.ly szC lo 105 jMo_init 10 81 87 K 0 [(0, vA 80)] [] 81 w
  refine n_Mo_80_s0  ?_
  exact hK
set_option maxRecDepth 20000 in
set_option maxHeartbeats 4000000 in
theorem n_Mo_87_s0 {g : Mg} {lo : Nat} {K : Wd → Prop} {w : Wd}  (hK : K (up (up (up (up (up (up w 87 2 ((88 : Nat) : Int)) 87 3 ((89 : Nat) : Int)) 87 4 ((90 : Nat) : Int)) 87 5 ((91 : Nat) : Int)) 87 6 ((92 : Nat) : Int)) 87 7 ((93 : Nat) : Int))) : NV g LC.ly szC lo 105 jMo_init 10 88 94 K 0 [(0, vA 87)] [] 88 w := by
  refine n_aload_n (pc := 0) (i := 0) (x := 87) d_Mo_init_0 rfl (.head _) ?_
  refine n_obj (pc := 1) (o := 87) d_Mo_init_1 (mt_2 119 rfl rfl) (mt_1 32 rfl rfl) (mt_1 33 rfl rfl) (by decide) (by decide) ?_
  refine n_aload_n (pc := 4) (i := 0) (x := 87) d_Mo_init_4 rfl (.head _) ?_
  refine n_sipush (pc := 5) (x := (320 : Nat)) d_Mo_init_5 (by decide) (by decide) ?_
  refine n_newI (pc := 8) (k := 88) (N := 320) d_Mo_init_8 rfl (by decide) (by decide) (by decide) rfl (by decide) (mt_1 76 rfl rfl) ?_
  refine n_putr (pc := 10) (o := 87) (ci := 6) (f := 2) (N := 8) (r := 88) d_Mo_init_10 (Or.inr ⟨ff_Mo_11, rfl⟩) (by decide) rfl (by decide) (Or.inr ⟨_, rfl⟩) (by decide) ?_
  refine n_aload_n (pc := 13) (i := 0) (x := 87) d_Mo_init_13 rfl (.head _) ?_
  refine n_bipush (pc := 14) (x := (40 : Nat)) d_Mo_init_14 (by decide) (by decide) ?_
  refine n_newZ (pc := 16) (k := 89) (N := 40) d_Mo_init_16 rfl (by decide) (by decide) (by decide) rfl (by decide) (mt_2 25 rfl rfl) ?_
  refine n_putr (pc := 18) (o := 87) (ci := 6) (f := 3) (N := 8) (r := 89) d_Mo_init_18 (Or.inr ⟨ff_Mo_17, rfl⟩) (by decide) rfl (by decide) (Or.inr ⟨_, rfl⟩) (by decide) ?_
  refine n_aload_n (pc := 21) (i := 0) (x := 87) d_Mo_init_21 rfl (.head _) ?_
  refine n_sipush (pc := 22) (x := (160 : Nat)) d_Mo_init_22 (by decide) (by decide) ?_
  refine n_newI (pc := 25) (k := 90) (N := 160) d_Mo_init_25 rfl (by decide) (by decide) (by decide) rfl (by decide) (mt_1 76 rfl rfl) ?_
  refine n_putr (pc := 27) (o := 87) (ci := 6) (f := 4) (N := 8) (r := 90) d_Mo_init_27 (Or.inr ⟨ff_Mo_21, rfl⟩) (by decide) rfl (by decide) (Or.inr ⟨_, rfl⟩) (by decide) ?_
  refine n_aload_n (pc := 30) (i := 0) (x := 87) d_Mo_init_30 rfl (.head _) ?_
  refine n_sipush (pc := 31) (x := (160 : Nat)) d_Mo_init_31 (by decide) (by decide) ?_
  refine n_newI (pc := 34) (k := 91) (N := 160) d_Mo_init_34 rfl (by decide) (by decide) (by decide) rfl (by decide) (mt_1 76 rfl rfl) ?_
  refine n_putr (pc := 36) (o := 87) (ci := 6) (f := 5) (N := 8) (r := 91) d_Mo_init_36 (Or.inr ⟨ff_Mo_24, rfl⟩) (by decide) rfl (by decide) (Or.inr ⟨_, rfl⟩) (by decide) ?_
  refine n_aload_n (pc := 39) (i := 0) (x := 87) d_Mo_init_39 rfl (.head _) ?_
  refine n_iconst (pc := 40) (x := (4 : Nat)) d_Mo_init_40 (by decide) ?_
  refine n_newI (pc := 41) (k := 92) (N := 4) d_Mo_init_41 rfl (by decide) (by decide) (by decide) rfl (by decide) (mt_1 76 rfl rfl) ?_
  refine n_putr (pc := 43) (o := 87) (ci := 6) (f := 6) (N := 8) (r := 92) d_Mo_init_43 (Or.inr ⟨ff_Mo_27, rfl⟩) (by decide) rfl (by decide) (Or.inr ⟨_, rfl⟩) (by decide) ?_
  refine n_aload_n (pc := 46) (i := 0) (x := 87) d_Mo_init_46 rfl (.head _) ?_
  refine n_iconst (pc := 47) (x := (4 : Nat)) d_Mo_init_47 (by decide) ?_
  refine n_newI (pc := 48) (k := 93) (N := 4) d_Mo_init_48 rfl (by decide) (by decide) (by decide) rfl (by decide) (mt_1 76 rfl rfl) ?_
  refine n_putr (pc := 50) (o := 87) (ci := 6) (f := 7) (N := 8) (r := 93) d_Mo_init_50 (Or.inr ⟨ff_Mo_30, rfl⟩) (by decide) rfl (by decide) (Or.inr ⟨_, rfl⟩) (by decide) ?_
  exact n_vret (pc := 53) d_Mo_init_53 rfl hK (by decide)
set_option maxRecDepth 20000 in
set_option maxHeartbeats 4000000 in
theorem n_Mo_87 {g : Mg} {lo : Nat} {K : Wd → Prop} {w : Wd}  (hK : K (up (up (up (up (up (up w 87 2 ((88 : Nat) : Int)) 87 3 ((89 : Nat) : Int)) 87 4 ((90 : Nat) : Int)) 87 5 ((91 : Nat) : Int)) 87 6 ((92 : Nat) : Int)) 87 7 ((93 : Nat) : Int))) : NCal g LC.ly szC lo 105 jMo_init 10 88 94 [vA 87] w K := by
  refine NCal.ofV (by decide) rfl rfl (Nat.le_of_ble_eq_true rfl) ?_
  show NV g LC.ly szC lo 105 jMo_init 10 88 94 K 0 [(0, vA 87)] [] 88 w
  refine n_Mo_87_s0  ?_
  exact hK
set_option maxRecDepth 20000 in
set_option maxHeartbeats 4000000 in
theorem n_Mo_94_s0 {g : Mg} {lo : Nat} {K : Wd → Prop} {w : Wd}  (hK : K (up (up (up (up (up (up w 94 2 ((95 : Nat) : Int)) 94 3 ((96 : Nat) : Int)) 94 4 ((97 : Nat) : Int)) 94 5 ((98 : Nat) : Int)) 94 6 ((99 : Nat) : Int)) 94 7 ((100 : Nat) : Int))) : NV g LC.ly szC lo 105 jMo_init 10 95 101 K 0 [(0, vA 94)] [] 95 w := by
  refine n_aload_n (pc := 0) (i := 0) (x := 94) d_Mo_init_0 rfl (.head _) ?_
  refine n_obj (pc := 1) (o := 94) d_Mo_init_1 (mt_2 119 rfl rfl) (mt_1 32 rfl rfl) (mt_1 33 rfl rfl) (by decide) (by decide) ?_
  refine n_aload_n (pc := 4) (i := 0) (x := 94) d_Mo_init_4 rfl (.head _) ?_
  refine n_sipush (pc := 5) (x := (320 : Nat)) d_Mo_init_5 (by decide) (by decide) ?_
  refine n_newI (pc := 8) (k := 95) (N := 320) d_Mo_init_8 rfl (by decide) (by decide) (by decide) rfl (by decide) (mt_1 76 rfl rfl) ?_
  refine n_putr (pc := 10) (o := 94) (ci := 6) (f := 2) (N := 8) (r := 95) d_Mo_init_10 (Or.inr ⟨ff_Mo_11, rfl⟩) (by decide) rfl (by decide) (Or.inr ⟨_, rfl⟩) (by decide) ?_
  refine n_aload_n (pc := 13) (i := 0) (x := 94) d_Mo_init_13 rfl (.head _) ?_
  refine n_bipush (pc := 14) (x := (40 : Nat)) d_Mo_init_14 (by decide) (by decide) ?_
  refine n_newZ (pc := 16) (k := 96) (N := 40) d_Mo_init_16 rfl (by decide) (by decide) (by decide) rfl (by decide) (mt_2 25 rfl rfl) ?_
  refine n_putr (pc := 18) (o := 94) (ci := 6) (f := 3) (N := 8) (r := 96) d_Mo_init_18 (Or.inr ⟨ff_Mo_17, rfl⟩) (by decide) rfl (by decide) (Or.inr ⟨_, rfl⟩) (by decide) ?_
  refine n_aload_n (pc := 21) (i := 0) (x := 94) d_Mo_init_21 rfl (.head _) ?_
  refine n_sipush (pc := 22) (x := (160 : Nat)) d_Mo_init_22 (by decide) (by decide) ?_
  refine n_newI (pc := 25) (k := 97) (N := 160) d_Mo_init_25 rfl (by decide) (by decide) (by decide) rfl (by decide) (mt_1 76 rfl rfl) ?_
  refine n_putr (pc := 27) (o := 94) (ci := 6) (f := 4) (N := 8) (r := 97) d_Mo_init_27 (Or.inr ⟨ff_Mo_21, rfl⟩) (by decide) rfl (by decide) (Or.inr ⟨_, rfl⟩) (by decide) ?_
  refine n_aload_n (pc := 30) (i := 0) (x := 94) d_Mo_init_30 rfl (.head _) ?_
  refine n_sipush (pc := 31) (x := (160 : Nat)) d_Mo_init_31 (by decide) (by decide) ?_
  refine n_newI (pc := 34) (k := 98) (N := 160) d_Mo_init_34 rfl (by decide) (by decide) (by decide) rfl (by decide) (mt_1 76 rfl rfl) ?_
  refine n_putr (pc := 36) (o := 94) (ci := 6) (f := 5) (N := 8) (r := 98) d_Mo_init_36 (Or.inr ⟨ff_Mo_24, rfl⟩) (by decide) rfl (by decide) (Or.inr ⟨_, rfl⟩) (by decide) ?_
  refine n_aload_n (pc := 39) (i := 0) (x := 94) d_Mo_init_39 rfl (.head _) ?_
  refine n_iconst (pc := 40) (x := (4 : Nat)) d_Mo_init_40 (by decide) ?_
  refine n_newI (pc := 41) (k := 99) (N := 4) d_Mo_init_41 rfl (by decide) (by decide) (by decide) rfl (by decide) (mt_1 76 rfl rfl) ?_
  refine n_putr (pc := 43) (o := 94) (ci := 6) (f := 6) (N := 8) (r := 99) d_Mo_init_43 (Or.inr ⟨ff_Mo_27, rfl⟩) (by decide) rfl (by decide) (Or.inr ⟨_, rfl⟩) (by decide) ?_
  refine n_aload_n (pc := 46) (i := 0) (x := 94) d_Mo_init_46 rfl (.head _) ?_
  refine n_iconst (pc := 47) (x := (4 : Nat)) d_Mo_init_47 (by decide) ?_
  refine n_newI (pc := 48) (k := 100) (N := 4) d_Mo_init_48 rfl (by decide) (by decide) (by decide) rfl (by decide) (mt_1 76 rfl rfl) ?_
  refine n_putr (pc := 50) (o := 94) (ci := 6) (f := 7) (N := 8) (r := 100) d_Mo_init_50 (Or.inr ⟨ff_Mo_30, rfl⟩) (by decide) rfl (by decide) (Or.inr ⟨_, rfl⟩) (by decide) ?_
  exact n_vret (pc := 53) d_Mo_init_53 rfl hK (by decide)
set_option maxRecDepth 20000 in
set_option maxHeartbeats 4000000 in
theorem n_Mo_94 {g : Mg} {lo : Nat} {K : Wd → Prop} {w : Wd}  (hK : K (up (up (up (up (up (up w 94 2 ((95 : Nat) : Int)) 94 3 ((96 : Nat) : Int)) 94 4 ((97 : Nat) : Int)) 94 5 ((98 : Nat) : Int)) 94 6 ((99 : Nat) : Int)) 94 7 ((100 : Nat) : Int))) : NCal g LC.ly szC lo 105 jMo_init 10 95 101 [vA 94] w K := by
  refine NCal.ofV (by decide) rfl rfl (Nat.le_of_ble_eq_true rfl) ?_
  show NV g LC.ly szC lo 105 jMo_init 10 95 101 K 0 [(0, vA 94)] [] 95 w
  refine n_Mo_94_s0  ?_
  exact hK
set_option maxRecDepth 20000 in
set_option maxHeartbeats 4000000 in
theorem n_Wo_s0 {g : Mg} {lo : Nat} {K : Wd → Prop} {w : Wd} (h_8_1 : w 8 1 = ((19 : Nat) : Int)) (hK : K (up (up (up (up (up (up (up (up w 101 3 ((102 : Nat) : Int)) 101 4 ((103 : Nat) : Int)) 101 5 ((104 : Nat) : Int)) 101 0 ((8 : Nat) : Int)) 101 1 ((19 : Nat) : Int)) 101 2 ((31 : Nat) : Int)) 101 6 ((45 : Nat) : Int)) 101 7 ((45 : Nat) : Int))) : NV g LC.ly szC lo 105 jWo_init 10 102 105 K 0 [(0, vA 101), (1, vA 8), (2, vA 31), (3, vA 45)] [] 102 w := by
  refine n_aload_n (pc := 0) (i := 0) (x := 101) d_Wo_init_0 rfl (.head _) ?_
  refine n_obj (pc := 1) (o := 101) d_Wo_init_1 (mt_2 165 rfl rfl) (mt_1 32 rfl rfl) (mt_1 33 rfl rfl) (by decide) (by decide) ?_
  refine n_aload_n (pc := 4) (i := 0) (x := 101) d_Wo_init_4 rfl (.head _) ?_
  refine n_bipush (pc := 5) (x := (64 : Nat)) d_Wo_init_5 (by decide) (by decide) ?_
  refine n_newI (pc := 7) (k := 102) (N := 64) d_Wo_init_7 rfl (by decide) (by decide) (by decide) rfl (by decide) (mt_1 76 rfl rfl) ?_
  refine n_putr (pc := 9) (o := 101) (ci := 10) (f := 3) (N := 18) (r := 102) d_Wo_init_9 (Or.inr ⟨ff_Wo_9, rfl⟩) (by decide) rfl (by decide) (Or.inr ⟨_, rfl⟩) (by decide) ?_
  refine n_aload_n (pc := 12) (i := 0) (x := 101) d_Wo_init_12 rfl (.head _) ?_
  refine n_bipush (pc := 13) (x := (8 : Nat)) d_Wo_init_13 (by decide) (by decide) ?_
  refine n_newI (pc := 15) (k := 103) (N := 8) d_Wo_init_15 rfl (by decide) (by decide) (by decide) rfl (by decide) (mt_1 76 rfl rfl) ?_
  refine n_putr (pc := 17) (o := 101) (ci := 10) (f := 4) (N := 18) (r := 103) d_Wo_init_17 (Or.inr ⟨ff_Wo_15, rfl⟩) (by decide) rfl (by decide) (Or.inr ⟨_, rfl⟩) (by decide) ?_
  refine n_aload_n (pc := 20) (i := 0) (x := 101) d_Wo_init_20 rfl (.head _) ?_
  refine n_bipush (pc := 21) (x := (16 : Nat)) d_Wo_init_21 (by decide) (by decide) ?_
  refine n_newI (pc := 23) (k := 104) (N := 16) d_Wo_init_23 rfl (by decide) (by decide) (by decide) rfl (by decide) (mt_1 76 rfl rfl) ?_
  refine n_putr (pc := 25) (o := 101) (ci := 10) (f := 5) (N := 18) (r := 104) d_Wo_init_25 (Or.inr ⟨ff_Wo_18, rfl⟩) (by decide) rfl (by decide) (Or.inr ⟨_, rfl⟩) (by decide) ?_
  refine n_aload_n (pc := 28) (i := 0) (x := 101) d_Wo_init_28 rfl (.head _) ?_
  refine n_aload_n (pc := 29) (i := 1) (x := 8) d_Wo_init_29 rfl (.tail _ (.head _)) ?_
  refine n_putr (pc := 30) (o := 101) (ci := 10) (f := 0) (N := 18) (r := 8) d_Wo_init_30 (Or.inr ⟨ff_Wo_21, rfl⟩) (by decide) rfl (by decide) (Or.inl ⟨_, rfl⟩) (by decide) ?_
  refine n_aload_n (pc := 33) (i := 0) (x := 101) d_Wo_init_33 rfl (.head _) ?_
  refine n_aload_n (pc := 34) (i := 1) (x := 8) d_Wo_init_34 rfl (.tail _ (.head _)) ?_
  refine n_getr (pc := 35) (o := 8) (ci := 7) (f := 1) (N := 11) (r := 19) d_Wo_init_35 fl_Wo_25 (by decide) rfl (Or.inl ⟨_, rfl⟩) h_8_1 ?_
  refine n_putr (pc := 38) (o := 101) (ci := 10) (f := 1) (N := 18) (r := 19) d_Wo_init_38 (Or.inr ⟨ff_Wo_31, rfl⟩) (by decide) rfl (by decide) (Or.inl ⟨_, rfl⟩) (by decide) ?_
  refine n_aload_n (pc := 41) (i := 0) (x := 101) d_Wo_init_41 rfl (.head _) ?_
  refine n_aload_n (pc := 42) (i := 2) (x := 31) d_Wo_init_42 rfl (.tail _ (.tail _ (.head _))) ?_
  refine n_putr (pc := 43) (o := 101) (ci := 10) (f := 2) (N := 18) (r := 31) d_Wo_init_43 (Or.inr ⟨ff_Wo_32, rfl⟩) (by decide) rfl (by decide) (Or.inl ⟨_, rfl⟩) (by decide) ?_
  refine n_aload_n (pc := 46) (i := 0) (x := 101) d_Wo_init_46 rfl (.head _) ?_
  refine n_aload_n (pc := 47) (i := 3) (x := 45) d_Wo_init_47 rfl (.tail _ (.tail _ (.tail _ (.head _)))) ?_
  refine n_putr (pc := 48) (o := 101) (ci := 10) (f := 6) (N := 18) (r := 45) d_Wo_init_48 (Or.inl fp_Wo_36) (by decide) rfl (by decide) (Or.inl ⟨_, rfl⟩) (by decide) ?_
  refine n_aload_n (pc := 51) (i := 0) (x := 101) d_Wo_init_51 rfl (.head _) ?_
  refine n_aload_n (pc := 52) (i := 3) (x := 45) d_Wo_init_52 rfl (.tail _ (.tail _ (.tail _ (.head _)))) ?_
  refine n_putr (pc := 53) (o := 101) (ci := 10) (f := 7) (N := 18) (r := 45) d_Wo_init_53 (Or.inl fp_Wo_40) (by decide) rfl (by decide) (Or.inl ⟨_, rfl⟩) (by decide) ?_
  exact n_vret (pc := 56) d_Wo_init_56 rfl hK (by decide)
set_option maxRecDepth 20000 in
set_option maxHeartbeats 4000000 in
theorem n_Wo {g : Mg} {lo : Nat} {K : Wd → Prop} {w : Wd} (h_8_1 : w 8 1 = ((19 : Nat) : Int)) (hK : K (up (up (up (up (up (up (up (up w 101 3 ((102 : Nat) : Int)) 101 4 ((103 : Nat) : Int)) 101 5 ((104 : Nat) : Int)) 101 0 ((8 : Nat) : Int)) 101 1 ((19 : Nat) : Int)) 101 2 ((31 : Nat) : Int)) 101 6 ((45 : Nat) : Int)) 101 7 ((45 : Nat) : Int))) : NCal g LC.ly szC lo 105 jWo_init 10 102 105 [vA 101, vA 8, vA 31, vA 45] w K := by
  refine NCal.ofV (by decide) rfl rfl (Nat.le_of_ble_eq_true rfl) ?_
  show NV g LC.ly szC lo 105 jWo_init 10 102 105 K 0 [(0, vA 101), (1, vA 8), (2, vA 31), (3, vA 45)] [] 102 w
  refine n_Wo_s0 (h_8_1) ?_
  exact hK
