/-! ===== printed by wip/whole/mk_meth.py: methods as data ===== -/
def mJ9_abs_0f7a4 : pz_M := (yJ9_abs_0f7a4, cJ9_abs_0f7a4, 1, (some .int), [(0, .iload_n 0, 1, [], .null), (1, .ifCond .ge 8, 3, [9], .null), (4, .iload_n 0, 1, [], .null), (5, .ineg, 1, [], .null), (6, .goto 4, 3, [10], .null), (9, .iload_n 0, 1, [], .null), (10, .ireturn, 1, [], .null)])
def mJ9_abs_067f4 : pz_M := (yJ9_abs_067f4, cJ9_abs_067f4, 2, (some .long), [(0, .lload_n 0, 1, [], .null), (1, .lconst 0, 1, [], .long 0), (2, .lcmp, 1, [], .null), (3, .ifCond .ge 8, 3, [11], .null), (6, .lload_n 0, 1, [], .null), (7, .lneg, 1, [], .null), (8, .goto 4, 3, [12], .null), (11, .lload_n 0, 1, [], .null), (12, .lreturn, 1, [], .null)])
def mJ9_max_7cf53 : pz_M := (yJ9_max_7cf53, cJ9_max_7cf53, 2, (some .int), [(0, .iload_n 0, 1, [], .null), (1, .iload_n 1, 1, [], .null), (2, .if_icmp .lt 7, 3, [9], .null), (5, .iload_n 0, 1, [], .null), (6, .goto 4, 3, [10], .null), (9, .iload_n 1, 1, [], .null), (10, .ireturn, 1, [], .null)])
def mJ9_max_f86c9 : pz_M := (yJ9_max_f86c9, cJ9_max_f86c9, 4, (some .long), [(0, .lload_n 0, 1, [], .null), (1, .lload_n 2, 1, [], .null), (2, .lcmp, 1, [], .null), (3, .ifCond .lt 7, 3, [10], .null), (6, .lload_n 0, 1, [], .null), (7, .goto 4, 3, [11], .null), (10, .lload_n 2, 1, [], .null), (11, .lreturn, 1, [], .null)])
def mJ9_min_7cf53 : pz_M := (yJ9_min_7cf53, cJ9_min_7cf53, 2, (some .int), [(0, .iload_n 0, 1, [], .null), (1, .iload_n 1, 1, [], .null), (2, .if_icmp .gt 7, 3, [9], .null), (5, .iload_n 0, 1, [], .null), (6, .goto 4, 3, [10], .null), (9, .iload_n 1, 1, [], .null), (10, .ireturn, 1, [], .null)])
def mJ9_min_f86c9 : pz_M := (yJ9_min_f86c9, cJ9_min_f86c9, 4, (some .long), [(0, .lload_n 0, 1, [], .null), (1, .lload_n 2, 1, [], .null), (2, .lcmp, 1, [], .null), (3, .ifCond .gt 7, 3, [10], .null), (6, .lload_n 0, 1, [], .null), (7, .goto 4, 3, [11], .null), (10, .lload_n 2, 1, [], .null), (11, .lreturn, 1, [], .null)])
def mJ0_length_8abf5 : pz_M := (yJ0_length_8abf5, cJ0_length_8abf5, 1, (some .int), [(0, .aload_n 0, 1, [], .null), (1, .getfield 9, 3, [99, 0, 1508, 0], .null), (4, .arraylength, 1, [], .null), (5, .aload_n 0, 1, [], .null), (6, .invokevirtual 335, 3, [], .null), (9, .ishr, 1, [], .null), (10, .ireturn, 1, [], .null)])
def mJ0_charAt_5068e : pz_M := (yJ0_charAt_5068e, cJ0_charAt_5068e, 2, (some .char), [(0, .aload_n 0, 1, [], .null), (1, .invokevirtual 492, 3, [], .null), (4, .ifCond .eq 12, 3, [16], .null), (7, .aload_n 0, 1, [], .null), (8, .getfield 9, 3, [99, 0, 1508, 0], .null), (11, .iload_n 1, 1, [], .null), (12, .invokestatic 495, 3, [0], .null), (15, .ireturn, 1, [], .null), (16, .aload_n 0, 1, [], .null), (17, .getfield 9, 3, [99, 0, 1508, 0], .null), (20, .iload_n 1, 1, [], .null), (21, .invokestatic 498, 3, [0], .null), (24, .ireturn, 1, [], .null)])
def mJ0_coder_7d493 : pz_M := (yJ0_coder_7d493, cJ0_coder_7d493, 1, (some .byte), [(0, .getstatic 38, 3, [9, 1192], .null), (3, .ifCond .eq 10, 3, [13], .null), (6, .aload_n 0, 1, [], .null), (7, .getfield 15, 3, [99, 0, 1509, 0], .null), (10, .goto 4, 3, [14], .null), (13, .iconst 1, 1, [], .int 1), (14, .ireturn, 1, [], .null)])
def mJ0_isLatin1_aae02 : pz_M := (yJ0_isLatin1_aae02, cJ0_isLatin1_aae02, 1, (some .boolean), [(0, .getstatic 38, 3, [9, 1192], .null), (3, .ifCond .eq 14, 3, [17], .null), (6, .aload_n 0, 1, [], .null), (7, .getfield 15, 3, [99, 0, 1509, 0], .null), (10, .ifCond .ne 7, 3, [17], .null), (13, .iconst 1, 1, [], .int 1), (14, .goto 4, 3, [18], .null), (17, .iconst 0, 1, [], .int 0), (18, .ireturn, 1, [], .null)])
def mJ0_checkIndex_df160 : pz_M := (yJ0_checkIndex_df160, cJ0_checkIndex_df160, 2, none, [(0, .iload_n 0, 1, [], .null), (1, .iload_n 1, 1, [], .null), (2, .getstatic 1053, 3, [9, 1207], .null), (5, .invokestatic 1059, 3, [0], .null), (8, .pop, 1, [], .null), (9, .return_, 1, [], .null)])
def mJ1_charAt_3b067 : pz_M := (yJ1_charAt_3b067, cJ1_charAt_3b067, 2, (some .char), [(0, .iload_n 1, 1, [], .null), (1, .aload_n 0, 1, [], .null), (2, .arraylength, 1, [], .null), (3, .invokestatic 9, 3, [0], .null), (6, .aload_n 0, 1, [], .null), (7, .iload_n 1, 1, [], .null), (8, .baload, 1, [], .null), (9, .sipush 255, 3, [], .int 255), (12, .iand, 1, [], .null), (13, .i2c, 1, [], .null), (14, .ireturn, 1, [], .null)])
def mJ7_fill_d0a16 : pz_M := (yJ7_fill_d0a16, cJ7_fill_d0a16, 5, none, [(0, .iconst 0, 1, [], .int 0), (1, .istore_n 3, 1, [], .null), (2, .aload_n 0, 1, [], .null), (3, .arraylength, 1, [], .null), (4, .istore 4, 2, [], .null), (6, .iload_n 3, 1, [], .null), (7, .iload 4, 2, [], .null), (9, .if_icmp .ge 13, 3, [22], .null), (12, .aload_n 0, 1, [], .null), (13, .iload_n 3, 1, [], .null), (14, .lload_n 1, 1, [], .null), (15, .lastore, 1, [], .null), (16, .iinc 3 1, 3, [], .int 1), (19, .goto (-13), 3, [6], .null), (22, .return_, 1, [], .null)])
def mJ7_fill_53178 : pz_M := (yJ7_fill_53178, cJ7_fill_53178, 4, none, [(0, .iconst 0, 1, [], .int 0), (1, .istore_n 2, 1, [], .null), (2, .aload_n 0, 1, [], .null), (3, .arraylength, 1, [], .null), (4, .istore_n 3, 1, [], .null), (5, .iload_n 2, 1, [], .null), (6, .iload_n 3, 1, [], .null), (7, .if_icmp .ge 13, 3, [20], .null), (10, .aload_n 0, 1, [], .null), (11, .iload_n 2, 1, [], .null), (12, .iload_n 1, 1, [], .null), (13, .iastore, 1, [], .null), (14, .iinc 2 1, 3, [], .int 1), (17, .goto (-12), 3, [5], .null), (20, .return_, 1, [], .null)])
def mJ3_checkIndex_8e157 : pz_M := (yJ3_checkIndex_8e157, cJ3_checkIndex_8e157, 3, (some .int), [(0, .iload_n 0, 1, [], .null), (1, .ifCond .lt 8, 3, [9], .null), (4, .iload_n 0, 1, [], .null), (5, .iload_n 1, 1, [], .null), (6, .if_icmp .lt 10, 3, [16], .null), (9, .aload_n 2, 1, [], .null), (10, .iload_n 0, 1, [], .null), (11, .iload_n 1, 1, [], .null), (12, .invokestatic 95, 3, [0], .null), (15, .athrow, 1, [], .null), (16, .iload_n 0, 1, [], .null), (17, .ireturn, 1, [], .null)])
def msJ0 : List pz_M := [mJ9_abs_0f7a4, mJ9_abs_067f4, mJ9_max_7cf53, mJ9_max_f86c9, mJ9_min_7cf53, mJ9_min_f86c9, mJ0_length_8abf5, mJ0_charAt_5068e, mJ0_coder_7d493, mJ0_isLatin1_aae02, mJ0_checkIndex_df160, mJ1_charAt_3b067, mJ7_fill_d0a16, mJ7_fill_53178, mJ3_checkIndex_8e157]
set_option maxRecDepth 100000 in
theorem okJ0 : msJ0.all pz_okM = true := by decide +kernel
theorem okJ9_abs_0f7a4 : pz_okM mJ9_abs_0f7a4 = true := pz_okl okJ0 0 rfl
theorem okJ9_abs_067f4 : pz_okM mJ9_abs_067f4 = true := pz_okl okJ0 1 rfl
theorem okJ9_max_7cf53 : pz_okM mJ9_max_7cf53 = true := pz_okl okJ0 2 rfl
theorem okJ9_max_f86c9 : pz_okM mJ9_max_f86c9 = true := pz_okl okJ0 3 rfl
theorem okJ9_min_7cf53 : pz_okM mJ9_min_7cf53 = true := pz_okl okJ0 4 rfl
theorem okJ9_min_f86c9 : pz_okM mJ9_min_f86c9 = true := pz_okl okJ0 5 rfl
theorem okJ0_length_8abf5 : pz_okM mJ0_length_8abf5 = true := pz_okl okJ0 6 rfl
theorem okJ0_charAt_5068e : pz_okM mJ0_charAt_5068e = true := pz_okl okJ0 7 rfl
theorem okJ0_coder_7d493 : pz_okM mJ0_coder_7d493 = true := pz_okl okJ0 8 rfl
theorem okJ0_isLatin1_aae02 : pz_okM mJ0_isLatin1_aae02 = true := pz_okl okJ0 9 rfl
theorem okJ0_checkIndex_df160 : pz_okM mJ0_checkIndex_df160 = true := pz_okl okJ0 10 rfl
theorem okJ1_charAt_3b067 : pz_okM mJ1_charAt_3b067 = true := pz_okl okJ0 11 rfl
theorem okJ7_fill_d0a16 : pz_okM mJ7_fill_d0a16 = true := pz_okl okJ0 12 rfl
theorem okJ7_fill_53178 : pz_okM mJ7_fill_53178 = true := pz_okl okJ0 13 rfl
theorem okJ3_checkIndex_8e157 : pz_okM mJ3_checkIndex_8e157 = true := pz_okl okJ0 14 rfl
def wcJ : List (Nat × Cond) := [(762, .static yJ9_abs_0f7a4), (105, .initialized RJ9), (1357, .static yJ9_abs_067f4), (105, .initialized RJ9), (752, .static yJ9_max_7cf53), (105, .initialized RJ9), (691, .static yJ9_max_f86c9), (105, .initialized RJ9), (458, .static yJ9_min_7cf53), (105, .initialized RJ9), (688, .static yJ9_min_f86c9), (105, .initialized RJ9), (1185, .instanceMethod yJ0_length_8abf5), (1186, .selects RJ0 yJ0_length_8abf5 yJ0_length_8abf5), (106, .initialized RJ0), (1194, .instanceMethod yJ0_charAt_5068e), (1195, .selects RJ0 yJ0_charAt_5068e yJ0_charAt_5068e), (106, .initialized RJ0), (1189, .instanceMethod yJ0_coder_7d493), (1190, .selects RJ0 yJ0_coder_7d493 yJ0_coder_7d493), (106, .initialized RJ0), (1198, .instanceMethod yJ0_isLatin1_aae02), (1199, .selects RJ0 yJ0_isLatin1_aae02 yJ0_isLatin1_aae02), (106, .initialized RJ0), (1205, .static yJ0_checkIndex_df160), (106, .initialized RJ0), (1202, .static yJ1_charAt_3b067), (107, .initialized RJ1), (849, .static yJ7_fill_d0a16), (115, .initialized RJ7), (733, .static yJ7_fill_53178), (115, .initialized RJ7), (1209, .static yJ3_checkIndex_8e157), (108, .initialized RJ3)]
set_option maxRecDepth 100000 in
theorem wdJ : wcJ.all (fun q => pz_gwi q.1 q.2) = true := by decide +kernel
set_option maxRecDepth 100000 in
theorem csJ9_abs_0f7a4 : pz_CS mJ9_abs_0f7a4 1 := ⟨pz_gwl wdJ 0 rfl, pz_gwl wdJ 1 rfl, pz_gwi_mem (i := 763) (by decide +kernel), ⟨by decide, by decide, by decide +kernel⟩, by decide⟩
set_option maxRecDepth 100000 in
theorem csJ9_abs_067f4 : pz_CS mJ9_abs_067f4 1 := ⟨pz_gwl wdJ 2 rfl, pz_gwl wdJ 3 rfl, pz_gwi_mem (i := 1358) (by decide +kernel), ⟨by decide, by decide, by decide +kernel⟩, by decide⟩
set_option maxRecDepth 100000 in
theorem csJ9_max_7cf53 : pz_CS mJ9_max_7cf53 2 := ⟨pz_gwl wdJ 4 rfl, pz_gwl wdJ 5 rfl, pz_gwi_mem (i := 753) (by decide +kernel), ⟨by decide, by decide, by decide +kernel⟩, by decide⟩
set_option maxRecDepth 100000 in
theorem csJ9_max_f86c9 : pz_CS mJ9_max_f86c9 2 := ⟨pz_gwl wdJ 6 rfl, pz_gwl wdJ 7 rfl, pz_gwi_mem (i := 692) (by decide +kernel), ⟨by decide, by decide, by decide +kernel⟩, by decide⟩
set_option maxRecDepth 100000 in
theorem csJ9_min_7cf53 : pz_CS mJ9_min_7cf53 2 := ⟨pz_gwl wdJ 8 rfl, pz_gwl wdJ 9 rfl, pz_gwi_mem (i := 459) (by decide +kernel), ⟨by decide, by decide, by decide +kernel⟩, by decide⟩
set_option maxRecDepth 100000 in
theorem csJ9_min_f86c9 : pz_CS mJ9_min_f86c9 2 := ⟨pz_gwl wdJ 10 rfl, pz_gwl wdJ 11 rfl, pz_gwi_mem (i := 689) (by decide +kernel), ⟨by decide, by decide, by decide +kernel⟩, by decide⟩
set_option maxRecDepth 100000 in
theorem cvJ0_length_8abf5 : pz_CV mJ0_length_8abf5 0 := ⟨pz_gwl wdJ 12 rfl, pz_gwl wdJ 13 rfl, pz_gwl wdJ 14 rfl, pz_gwi_mem (i := 1187) (by decide +kernel), ⟨by decide, by decide, by decide +kernel⟩, by decide⟩
set_option maxRecDepth 100000 in
theorem cvJ0_charAt_5068e : pz_CV mJ0_charAt_5068e 1 := ⟨pz_gwl wdJ 15 rfl, pz_gwl wdJ 16 rfl, pz_gwl wdJ 17 rfl, pz_gwi_mem (i := 1196) (by decide +kernel), ⟨by decide, by decide, by decide +kernel⟩, by decide⟩
set_option maxRecDepth 100000 in
theorem cvJ0_coder_7d493 : pz_CV mJ0_coder_7d493 0 := ⟨pz_gwl wdJ 18 rfl, pz_gwl wdJ 19 rfl, pz_gwl wdJ 20 rfl, pz_gwi_mem (i := 1191) (by decide +kernel), ⟨by decide, by decide, by decide +kernel⟩, by decide⟩
set_option maxRecDepth 100000 in
theorem cvJ0_isLatin1_aae02 : pz_CV mJ0_isLatin1_aae02 0 := ⟨pz_gwl wdJ 21 rfl, pz_gwl wdJ 22 rfl, pz_gwl wdJ 23 rfl, pz_gwi_mem (i := 1200) (by decide +kernel), ⟨by decide, by decide, by decide +kernel⟩, by decide⟩
set_option maxRecDepth 100000 in
theorem csJ0_checkIndex_df160 : pz_CS mJ0_checkIndex_df160 2 := ⟨pz_gwl wdJ 24 rfl, pz_gwl wdJ 25 rfl, pz_gwi_mem (i := 1206) (by decide +kernel), ⟨by decide, by decide, by decide +kernel⟩, by decide⟩
set_option maxRecDepth 100000 in
theorem csJ1_charAt_3b067 : pz_CS mJ1_charAt_3b067 2 := ⟨pz_gwl wdJ 26 rfl, pz_gwl wdJ 27 rfl, pz_gwi_mem (i := 1203) (by decide +kernel), ⟨by decide, by decide, by decide +kernel⟩, by decide⟩
set_option maxRecDepth 100000 in
theorem csJ7_fill_d0a16 : pz_CS mJ7_fill_d0a16 2 := ⟨pz_gwl wdJ 28 rfl, pz_gwl wdJ 29 rfl, pz_gwi_mem (i := 850) (by decide +kernel), ⟨by decide, by decide, by decide +kernel⟩, by decide⟩
set_option maxRecDepth 100000 in
theorem csJ7_fill_53178 : pz_CS mJ7_fill_53178 2 := ⟨pz_gwl wdJ 30 rfl, pz_gwl wdJ 31 rfl, pz_gwi_mem (i := 734) (by decide +kernel), ⟨by decide, by decide, by decide +kernel⟩, by decide⟩
set_option maxRecDepth 100000 in
theorem csJ3_checkIndex_8e157 : pz_CS mJ3_checkIndex_8e157 3 := ⟨pz_gwl wdJ 32 rfl, pz_gwl wdJ 33 rfl, pz_gwi_mem (i := 1210) (by decide +kernel), ⟨by decide, by decide, by decide +kernel⟩, by decide⟩
