/-! ===== printed by wip/whole/mk_meth.py: methods as data ===== -/
def mJ9_abs_0f7a4 : pz_M := (yJ9_abs_0f7a4, cJ9_abs_0f7a4, 1, (some .int), [(0, .iload_n 0, 1, [], .null), (1, .ifCond .ge 8, 3, [9], .null), (4, .iload_n 0, 1, [], .null), (5, .ineg, 1, [], .null), (6, .goto 4, 3, [10], .null), (9, .iload_n 0, 1, [], .null), (10, .ireturn, 1, [], .null)])
def mJ9_abs_067f4 : pz_M := (yJ9_abs_067f4, cJ9_abs_067f4, 2, (some .long), [(0, .lload_n 0, 1, [], .null), (1, .lconst 0, 1, [], .long 0), (2, .lcmp, 1, [], .null), (3, .ifCond .ge 8, 3, [11], .null), (6, .lload_n 0, 1, [], .null), (7, .lneg, 1, [], .null), (8, .goto 4, 3, [12], .null), (11, .lload_n 0, 1, [], .null), (12, .lreturn, 1, [], .null)])
def mJ9_max_7cf53 : pz_M := (yJ9_max_7cf53, cJ9_max_7cf53, 2, (some .int), [(0, .iload_n 0, 1, [], .null), (1, .iload_n 1, 1, [], .null), (2, .if_icmp .lt 7, 3, [9], .null), (5, .iload_n 0, 1, [], .null), (6, .goto 4, 3, [10], .null), (9, .iload_n 1, 1, [], .null), (10, .ireturn, 1, [], .null)])
def mJ9_max_f86c9 : pz_M := (yJ9_max_f86c9, cJ9_max_f86c9, 4, (some .long), [(0, .lload_n 0, 1, [], .null), (1, .lload_n 2, 1, [], .null), (2, .lcmp, 1, [], .null), (3, .ifCond .lt 7, 3, [10], .null), (6, .lload_n 0, 1, [], .null), (7, .goto 4, 3, [11], .null), (10, .lload_n 2, 1, [], .null), (11, .lreturn, 1, [], .null)])
def mJ9_min_7cf53 : pz_M := (yJ9_min_7cf53, cJ9_min_7cf53, 2, (some .int), [(0, .iload_n 0, 1, [], .null), (1, .iload_n 1, 1, [], .null), (2, .if_icmp .gt 7, 3, [9], .null), (5, .iload_n 0, 1, [], .null), (6, .goto 4, 3, [10], .null), (9, .iload_n 1, 1, [], .null), (10, .ireturn, 1, [], .null)])
def mJ9_min_f86c9 : pz_M := (yJ9_min_f86c9, cJ9_min_f86c9, 4, (some .long), [(0, .lload_n 0, 1, [], .null), (1, .lload_n 2, 1, [], .null), (2, .lcmp, 1, [], .null), (3, .ifCond .gt 7, 3, [10], .null), (6, .lload_n 0, 1, [], .null), (7, .goto 4, 3, [11], .null), (10, .lload_n 2, 1, [], .null), (11, .lreturn, 1, [], .null)])
def mJ7_fill_d0a16 : pz_M := (yJ7_fill_d0a16, cJ7_fill_d0a16, 5, none, [(0, .iconst 0, 1, [], .int 0), (1, .istore_n 3, 1, [], .null), (2, .aload_n 0, 1, [], .null), (3, .arraylength, 1, [], .null), (4, .istore 4, 2, [], .null), (6, .iload_n 3, 1, [], .null), (7, .iload 4, 2, [], .null), (9, .if_icmp .ge 13, 3, [22], .null), (12, .aload_n 0, 1, [], .null), (13, .iload_n 3, 1, [], .null), (14, .lload_n 1, 1, [], .null), (15, .lastore, 1, [], .null), (16, .iinc 3 1, 3, [], .int 1), (19, .goto (-13), 3, [6], .null), (22, .return_, 1, [], .null)])
def mJ7_fill_53178 : pz_M := (yJ7_fill_53178, cJ7_fill_53178, 4, none, [(0, .iconst 0, 1, [], .int 0), (1, .istore_n 2, 1, [], .null), (2, .aload_n 0, 1, [], .null), (3, .arraylength, 1, [], .null), (4, .istore_n 3, 1, [], .null), (5, .iload_n 2, 1, [], .null), (6, .iload_n 3, 1, [], .null), (7, .if_icmp .ge 13, 3, [20], .null), (10, .aload_n 0, 1, [], .null), (11, .iload_n 2, 1, [], .null), (12, .iload_n 1, 1, [], .null), (13, .iastore, 1, [], .null), (14, .iinc 2 1, 3, [], .int 1), (17, .goto (-12), 3, [5], .null), (20, .return_, 1, [], .null)])
def msJ0 : List pz_M := [mJ9_abs_0f7a4, mJ9_abs_067f4, mJ9_max_7cf53, mJ9_max_f86c9, mJ9_min_7cf53, mJ9_min_f86c9, mJ7_fill_d0a16, mJ7_fill_53178]
set_option maxRecDepth 100000 in
theorem okJ0 : msJ0.all pz_okM = true := by decide +kernel
theorem okJ9_abs_0f7a4 : pz_okM mJ9_abs_0f7a4 = true := pz_okl okJ0 0 rfl
theorem okJ9_abs_067f4 : pz_okM mJ9_abs_067f4 = true := pz_okl okJ0 1 rfl
theorem okJ9_max_7cf53 : pz_okM mJ9_max_7cf53 = true := pz_okl okJ0 2 rfl
theorem okJ9_max_f86c9 : pz_okM mJ9_max_f86c9 = true := pz_okl okJ0 3 rfl
theorem okJ9_min_7cf53 : pz_okM mJ9_min_7cf53 = true := pz_okl okJ0 4 rfl
theorem okJ9_min_f86c9 : pz_okM mJ9_min_f86c9 = true := pz_okl okJ0 5 rfl
theorem okJ7_fill_d0a16 : pz_okM mJ7_fill_d0a16 = true := pz_okl okJ0 6 rfl
theorem okJ7_fill_53178 : pz_okM mJ7_fill_53178 = true := pz_okl okJ0 7 rfl
def wcJ : List (Nat × Cond) := [(762, .static yJ9_abs_0f7a4), (105, .initialized RJ9), (1357, .static yJ9_abs_067f4), (105, .initialized RJ9), (752, .static yJ9_max_7cf53), (105, .initialized RJ9), (691, .static yJ9_max_f86c9), (105, .initialized RJ9), (458, .static yJ9_min_7cf53), (105, .initialized RJ9), (688, .static yJ9_min_f86c9), (105, .initialized RJ9), (849, .static yJ7_fill_d0a16), (115, .initialized RJ7), (733, .static yJ7_fill_53178), (115, .initialized RJ7)]
set_option maxRecDepth 100000 in
theorem wdJ : wcJ.all (fun q => pz_gwi q.1 q.2) = true := by decide +kernel
set_option maxRecDepth 100000 in
theorem csJ9_abs_0f7a4 : pz_CS mJ9_abs_0f7a4 1 := ⟨pz_gwl wdJ 0 rfl, pz_gwl wdJ 1 rfl, pz_gwi_mem (i := 763) (by decide +kernel), ⟨by decide, by decide, by decide +kernel⟩, by decide⟩
set_option maxRecDepth 100000 in
theorem csJ9_abs_067f4 : pz_CS mJ9_abs_067f4 1 := ⟨pz_gwl wdJ 2 rfl, pz_gwl wdJ 3 rfl, pz_gwi_mem (i := 1358) (by decide +kernel), ⟨by decide, by decide, by decide +kernel⟩, by decide⟩
set_option maxRecDepth 100000 in
theorem csJ9_max_7cf53 : pz_CS mJ9_max_7cf53 2 := ⟨pz_gwl wdJ 4 rfl, pz_gwl wdJ 5 rfl, pz_gwi_mem (i := 753) (by decide +kernel), ⟨by decide, by decide, by decide +kernel⟩, by decide⟩
set_option maxRecDepth 100000 in
theorem csJ9_max_f86c9 : pz_CS mJ9_max_f86c9 2 := ⟨pz_gwl wdJ 6 rfl, pz_gwl wdJ 7 rfl, pz_gwi_mem (i := 692) (by decide +kernel), ⟨by decide, by decide, by decide +kernel⟩, by decide⟩
set_option maxRecDepth 100000 in
theorem csJ9_min_7cf53 : pz_CS mJ9_min_7cf53 2 := ⟨pz_gwl wdJ 8 rfl, pz_gwl wdJ 9 rfl, pz_gwi_mem (i := 459) (by decide +kernel), ⟨by decide, by decide, by decide +kernel⟩, by decide⟩
set_option maxRecDepth 100000 in
theorem csJ9_min_f86c9 : pz_CS mJ9_min_f86c9 2 := ⟨pz_gwl wdJ 10 rfl, pz_gwl wdJ 11 rfl, pz_gwi_mem (i := 689) (by decide +kernel), ⟨by decide, by decide, by decide +kernel⟩, by decide⟩
set_option maxRecDepth 100000 in
theorem csJ7_fill_d0a16 : pz_CS mJ7_fill_d0a16 2 := ⟨pz_gwl wdJ 12 rfl, pz_gwl wdJ 13 rfl, pz_gwi_mem (i := 850) (by decide +kernel), ⟨by decide, by decide, by decide +kernel⟩, by decide⟩
set_option maxRecDepth 100000 in
theorem csJ7_fill_53178 : pz_CS mJ7_fill_53178 2 := ⟨pz_gwl wdJ 14 rfl, pz_gwl wdJ 15 rfl, pz_gwi_mem (i := 734) (by decide +kernel), ⟨by decide, by decide, by decide +kernel⟩, by decide⟩
