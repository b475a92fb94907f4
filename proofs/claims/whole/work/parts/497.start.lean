/-! ===== printed by wip/whole/mk_start.py: what holds at the start ===== -/
theorem z_instA : vwCl.all (fun q => decide (Cond.instantiable q.1 q.2.2 ∈ pz_gw)) = true := by decide +kernel
theorem z_inst (ci : Nat) (q : vw_C) (h : vwCl[ci]? = some q) : Cond.instantiable q.1 q.2.2 ∈ pz_gw := of_decide_eq_true (List.all_eq_true.mp z_instA q (List.mem_of_getElem? h))
theorem z_arr0 : Cond.arrayClass .int ∈ pz_gw := List.mem_of_elem_eq_true (by decide +kernel)
theorem z_arr1 : Cond.arrayClass .long ∈ pz_gw := List.mem_of_elem_eq_true (by decide +kernel)
theorem z_arr2 : Cond.arrayClass .byte ∈ pz_gw := List.mem_of_elem_eq_true (by decide +kernel)
theorem z_arr3 : Cond.arrayClass .boolean ∈ pz_gw := List.mem_of_elem_eq_true (by decide +kernel)
theorem z_K {args : Array Value} {s : State} (hts : ∀ w ∈ pz_gw, w.before args s = true) : ∃ (D : va_G) (kA : Nat → ClassId), va_K D vwCl (pz_tys kA) s := by
  have h : ∀ c : Nat, ∃ d : ClassId × (Nat → Nat), ∀ q, vwCl[c]? = some q → u_Kn s q.1 q.2.1 q.2.2 d.1 d.2 := by
    intro c
    cases hc : vwCl[c]? with
    | none => exact ⟨(0, fun _ => 0), fun q hq => by cases hq⟩
    | some q =>
      obtain ⟨cC, iS, hk⟩ := u_known (C := q.1) (T := q.2.1) (N := q.2.2) (n := q.2.2) hts (pz_cin _ _ hc) (hts _ (z_inst _ _ hc))
      exact ⟨(cC, iS), fun q' hq => by cases hq; exact hk⟩
  obtain ⟨d, hd⟩ := Classical.axiomOfChoice h
  have g : ∀ ty : FieldType, (ty = .int ∨ ty = .long ∨ ty = .byte ∨ ty = .boolean) → Cond.arrayClass ty ∈ pz_gw → ∃ cA : ClassId, ArrOfT s cA ty ∧ va_RA s cA ty := by
    intro ty hty hm
    obtain ⟨c, k, comp, h1, h2, h3⟩ := Cond.arrayClass_spec (hts _ hm)
    refine ⟨c, fun n z => ⟨fun k h => (by cases h), k, h2, comp, h3⟩, ?_⟩
    rcases hty with rfl | rfl | rfl | rfl <;> exact h1
  obtain ⟨c0, k0⟩ := g .int (Or.inl rfl) z_arr0
  obtain ⟨c1, k1⟩ := g .long (Or.inr (Or.inl rfl)) z_arr1
  obtain ⟨c2, k2⟩ := g .byte (Or.inr (Or.inr (Or.inl rfl))) z_arr2
  obtain ⟨c3, k3⟩ := g .boolean (Or.inr (Or.inr (Or.inr rfl))) z_arr3
  refine ⟨(fun c => (d c).1, fun c => (d c).2), fun t => zl c0 [c0, c1, c2, c3] t, fun c q hq => hd c q hq, fun k q hk => ?_⟩
  match k, hk with
  | 0, hk => cases hk; exact k0
  | 1, hk => cases hk; exact k1
  | 2, hk => cases hk; exact k2
  | 3, hk => cases hk; exact k3
  | n + 4, hk => cases hk
def z_F : List Cond := flatC (Cond.and given_1 narrow_1)
theorem z_twA : pz_tw.all (fun w => decide (w ∈ lw_tbl)) = true := by decide +kernel
theorem z_nc : Cond.not (.castable pz_NS pz_IO) ∈ z_F := List.mem_of_elem_eq_true (by decide +kernel)
theorem z_sa0 : Cond.arrayOf (.static "HuntingRudder$Settings" "PART_LEAST" "[I") .int ∈ z_F := List.mem_of_elem_eq_true (by decide +kernel)
theorem z_sl0 : Cond.eq (.length (.static "HuntingRudder$Settings" "PART_LEAST" "[I")) (.int (Int32.ofNat 5)) ∈ z_F := List.mem_of_elem_eq_true (by decide +kernel)
theorem z_se0 : (List.range 5).all (fun j => decide (Cond.eq (.elem (.static "HuntingRudder$Settings" "PART_LEAST" "[I") (.int (Int32.ofNat j))) (.int (([0, 0, 1, 0, 0] : List Int32).getD j 0)) ∈ z_F)) = true := by decide +kernel
theorem z_sw0 : Cond.laysStatic "HuntingRudder$Settings" "PART_LEAST" "[I" ∈ lw_tbl ∧ Cond.initialized "HuntingRudder$Settings" ∈ lw_tbl := ⟨List.mem_of_elem_eq_true (by decide +kernel), List.mem_of_elem_eq_true (by decide +kernel)⟩
theorem z_st0 {args : Array Value} {s : State} (hts : ∀ w ∈ lw_tbl, w.before args s = true) (hf : ∀ w ∈ z_F, w.before args s = true) : ∃ t : Nat, va_Z "HuntingRudder$Settings" "PART_LEAST" "[I" (.ref t) (fun q => s.heap.size ≤ q) s s.heap ∧ va_T .int t 5 (fun i => .int (([0, 0, 1, 0, 0] : List Int32).getD i 0)) (fun q => s.heap.size ≤ q) s s.heap := by
  obtain ⟨t, e1, e2⟩ := va_Tof (args := args) (tm := (.static "HuntingRudder$Settings" "PART_LEAST" "[I")) (ty := .int) (N := 5) (f := fun i => .int (([0, 0, 1, 0, 0] : List Int32).getD i 0)) (A := fun q => s.heap.size ≤ q) (by decide) (hf _ z_sa0) (va_eqt (hf _ z_sl0)) (fun j hj => va_eqt (hf _ (of_decide_eq_true (List.all_eq_true.mp z_se0 j (List.mem_range.mpr hj))))) (fun a h => Nat.not_le.mpr h)
  exact ⟨t, va_Zref (hts _ z_sw0.1) (hts _ z_sw0.2) e1 (fun a h => Nat.not_le.mpr h), e2⟩
theorem z_sa1 : Cond.arrayOf (.static "HuntingRudder$Settings" "PART_MOST" "[I") .int ∈ z_F := List.mem_of_elem_eq_true (by decide +kernel)
theorem z_sl1 : Cond.eq (.length (.static "HuntingRudder$Settings" "PART_MOST" "[I")) (.int (Int32.ofNat 5)) ∈ z_F := List.mem_of_elem_eq_true (by decide +kernel)
theorem z_se1 : (List.range 5).all (fun j => decide (Cond.eq (.elem (.static "HuntingRudder$Settings" "PART_MOST" "[I") (.int (Int32.ofNat j))) (.int (([8, 8, 9, 3, 2] : List Int32).getD j 0)) ∈ z_F)) = true := by decide +kernel
theorem z_sw1 : Cond.laysStatic "HuntingRudder$Settings" "PART_MOST" "[I" ∈ lw_tbl ∧ Cond.initialized "HuntingRudder$Settings" ∈ lw_tbl := ⟨List.mem_of_elem_eq_true (by decide +kernel), List.mem_of_elem_eq_true (by decide +kernel)⟩
theorem z_st1 {args : Array Value} {s : State} (hts : ∀ w ∈ lw_tbl, w.before args s = true) (hf : ∀ w ∈ z_F, w.before args s = true) : ∃ t : Nat, va_Z "HuntingRudder$Settings" "PART_MOST" "[I" (.ref t) (fun q => s.heap.size ≤ q) s s.heap ∧ va_T .int t 5 (fun i => .int (([8, 8, 9, 3, 2] : List Int32).getD i 0)) (fun q => s.heap.size ≤ q) s s.heap := by
  obtain ⟨t, e1, e2⟩ := va_Tof (args := args) (tm := (.static "HuntingRudder$Settings" "PART_MOST" "[I")) (ty := .int) (N := 5) (f := fun i => .int (([8, 8, 9, 3, 2] : List Int32).getD i 0)) (A := fun q => s.heap.size ≤ q) (by decide) (hf _ z_sa1) (va_eqt (hf _ z_sl1)) (fun j hj => va_eqt (hf _ (of_decide_eq_true (List.all_eq_true.mp z_se1 j (List.mem_range.mpr hj))))) (fun a h => Nat.not_le.mpr h)
  exact ⟨t, va_Zref (hts _ z_sw1.1) (hts _ z_sw1.2) e1 (fun a h => Nat.not_le.mpr h), e2⟩
theorem z_sa2 : Cond.arrayOf (.static "HuntingRudder$Settings" "SHIP_LEAST" "[I") .int ∈ z_F := List.mem_of_elem_eq_true (by decide +kernel)
theorem z_sl2 : Cond.eq (.length (.static "HuntingRudder$Settings" "SHIP_LEAST" "[I")) (.int (Int32.ofNat 3)) ∈ z_F := List.mem_of_elem_eq_true (by decide +kernel)
theorem z_se2 : (List.range 3).all (fun j => decide (Cond.eq (.elem (.static "HuntingRudder$Settings" "SHIP_LEAST" "[I") (.int (Int32.ofNat j))) (.int (([1, 1, -9] : List Int32).getD j 0)) ∈ z_F)) = true := by decide +kernel
theorem z_sw2 : Cond.laysStatic "HuntingRudder$Settings" "SHIP_LEAST" "[I" ∈ lw_tbl ∧ Cond.initialized "HuntingRudder$Settings" ∈ lw_tbl := ⟨List.mem_of_elem_eq_true (by decide +kernel), List.mem_of_elem_eq_true (by decide +kernel)⟩
theorem z_st2 {args : Array Value} {s : State} (hts : ∀ w ∈ lw_tbl, w.before args s = true) (hf : ∀ w ∈ z_F, w.before args s = true) : ∃ t : Nat, va_Z "HuntingRudder$Settings" "SHIP_LEAST" "[I" (.ref t) (fun q => s.heap.size ≤ q) s s.heap ∧ va_T .int t 3 (fun i => .int (([1, 1, -9] : List Int32).getD i 0)) (fun q => s.heap.size ≤ q) s s.heap := by
  obtain ⟨t, e1, e2⟩ := va_Tof (args := args) (tm := (.static "HuntingRudder$Settings" "SHIP_LEAST" "[I")) (ty := .int) (N := 3) (f := fun i => .int (([1, 1, -9] : List Int32).getD i 0)) (A := fun q => s.heap.size ≤ q) (by decide) (hf _ z_sa2) (va_eqt (hf _ z_sl2)) (fun j hj => va_eqt (hf _ (of_decide_eq_true (List.all_eq_true.mp z_se2 j (List.mem_range.mpr hj))))) (fun a h => Nat.not_le.mpr h)
  exact ⟨t, va_Zref (hts _ z_sw2.1) (hts _ z_sw2.2) e1 (fun a h => Nat.not_le.mpr h), e2⟩
theorem z_sa3 : Cond.arrayOf (.static "HuntingRudder$Settings" "SHIP_MOST" "[I") .int ∈ z_F := List.mem_of_elem_eq_true (by decide +kernel)
theorem z_sl3 : Cond.eq (.length (.static "HuntingRudder$Settings" "SHIP_MOST" "[I")) (.int (Int32.ofNat 3)) ∈ z_F := List.mem_of_elem_eq_true (by decide +kernel)
theorem z_se3 : (List.range 3).all (fun j => decide (Cond.eq (.elem (.static "HuntingRudder$Settings" "SHIP_MOST" "[I") (.int (Int32.ofNat j))) (.int (([20, 9, 9] : List Int32).getD j 0)) ∈ z_F)) = true := by decide +kernel
theorem z_sw3 : Cond.laysStatic "HuntingRudder$Settings" "SHIP_MOST" "[I" ∈ lw_tbl ∧ Cond.initialized "HuntingRudder$Settings" ∈ lw_tbl := ⟨List.mem_of_elem_eq_true (by decide +kernel), List.mem_of_elem_eq_true (by decide +kernel)⟩
theorem z_st3 {args : Array Value} {s : State} (hts : ∀ w ∈ lw_tbl, w.before args s = true) (hf : ∀ w ∈ z_F, w.before args s = true) : ∃ t : Nat, va_Z "HuntingRudder$Settings" "SHIP_MOST" "[I" (.ref t) (fun q => s.heap.size ≤ q) s s.heap ∧ va_T .int t 3 (fun i => .int (([20, 9, 9] : List Int32).getD i 0)) (fun q => s.heap.size ≤ q) s s.heap := by
  obtain ⟨t, e1, e2⟩ := va_Tof (args := args) (tm := (.static "HuntingRudder$Settings" "SHIP_MOST" "[I")) (ty := .int) (N := 3) (f := fun i => .int (([20, 9, 9] : List Int32).getD i 0)) (A := fun q => s.heap.size ≤ q) (by decide) (hf _ z_sa3) (va_eqt (hf _ z_sl3)) (fun j hj => va_eqt (hf _ (of_decide_eq_true (List.all_eq_true.mp z_se3 j (List.mem_range.mpr hj))))) (fun a h => Nat.not_le.mpr h)
  exact ⟨t, va_Zref (hts _ z_sw3.1) (hts _ z_sw3.2) e1 (fun a h => Nat.not_le.mpr h), e2⟩
theorem z_sa4 : Cond.arrayOf (.static "HuntingRudder$Knots" "GEAR_TABLES" "[J") .long ∈ z_F := List.mem_of_elem_eq_true (by decide +kernel)
theorem z_sl4 : Cond.eq (.length (.static "HuntingRudder$Knots" "GEAR_TABLES" "[J")) (.int (Int32.ofNat 6)) ∈ z_F := List.mem_of_elem_eq_true (by decide +kernel)
theorem z_se4 : (List.range 6).all (fun j => decide (Cond.eq (.elem (.static "HuntingRudder$Knots" "GEAR_TABLES" "[J") (.int (Int32.ofNat j))) (.long (([-6148914691236517206, -3689348814741910324, -1085102592571150096, -71777214294589696, -281470681808896, -4294967296] : List Int64).getD j 0)) ∈ z_F)) = true := by decide +kernel
theorem z_sw4 : Cond.laysStatic "HuntingRudder$Knots" "GEAR_TABLES" "[J" ∈ lw_tbl ∧ Cond.initialized "HuntingRudder$Knots" ∈ lw_tbl := ⟨List.mem_of_elem_eq_true (by decide +kernel), List.mem_of_elem_eq_true (by decide +kernel)⟩
theorem z_st4 {args : Array Value} {s : State} (hts : ∀ w ∈ lw_tbl, w.before args s = true) (hf : ∀ w ∈ z_F, w.before args s = true) : ∃ t : Nat, va_Z "HuntingRudder$Knots" "GEAR_TABLES" "[J" (.ref t) (fun q => s.heap.size ≤ q) s s.heap ∧ va_T .long t 6 (fun i => .long (([-6148914691236517206, -3689348814741910324, -1085102592571150096, -71777214294589696, -281470681808896, -4294967296] : List Int64).getD i 0)) (fun q => s.heap.size ≤ q) s s.heap := by
  obtain ⟨t, e1, e2⟩ := va_Tof (args := args) (tm := (.static "HuntingRudder$Knots" "GEAR_TABLES" "[J")) (ty := .long) (N := 6) (f := fun i => .long (([-6148914691236517206, -3689348814741910324, -1085102592571150096, -71777214294589696, -281470681808896, -4294967296] : List Int64).getD i 0)) (A := fun q => s.heap.size ≤ q) (by decide) (hf _ z_sa4) (va_eqt (hf _ z_sl4)) (fun j hj => va_eqtl (hf _ (of_decide_eq_true (List.all_eq_true.mp z_se4 j (List.mem_range.mpr hj))))) (fun a h => Nat.not_le.mpr h)
  exact ⟨t, va_Zref (hts _ z_sw4.1) (hts _ z_sw4.2) e1 (fun a h => Nat.not_le.mpr h), e2⟩
theorem z_str1 : Cond.exactly (.string "HuntingRudderModel" 151) "java/lang/String" ∈ z_F ∧ Cond.exactly (.string "HuntingRudder" 136) "java/lang/String" ∈ z_F ∧ Cond.exactly (.string "HuntingRudder" 150) "java/lang/String" ∈ z_F := ⟨List.mem_of_elem_eq_true (by decide +kernel), List.mem_of_elem_eq_true (by decide +kernel), List.mem_of_elem_eq_true (by decide +kernel)⟩
theorem z_str2 : Cond.eq (.field (.string "HuntingRudderModel" 151) "java/lang/String" "coder" "B") (.int 0) ∈ z_F := List.mem_of_elem_eq_true (by decide +kernel)
theorem z_str3 : Cond.arrayOf (.field (.string "HuntingRudderModel" 151) "java/lang/String" "value" "[B") .byte ∈ z_F := List.mem_of_elem_eq_true (by decide +kernel)
theorem z_str4 : Cond.eq (.length (.field (.string "HuntingRudderModel" 151) "java/lang/String" "value" "[B")) (.int (Int32.ofNat 54)) ∈ z_F := List.mem_of_elem_eq_true (by decide +kernel)
theorem z_str5 : (List.range 54).all (fun j => decide (Cond.eq (.elem (.field (.string "HuntingRudderModel" 151) "java/lang/String" "value" "[B") (.int (Int32.ofNat j))) (.int (pz_wb.getD j 0)) ∈ z_F)) = true := by decide +kernel
theorem z_str6 : Cond.stringRef "HuntingRudderModel" 151 pz_wt ∈ lw_tbl ∧ Cond.stringRef "HuntingRudder" 136 "no such ROW" ∈ lw_tbl ∧ Cond.stringRef "HuntingRudder" 150 "no such what" ∈ lw_tbl := ⟨List.mem_of_elem_eq_true (by decide +kernel), List.mem_of_elem_eq_true (by decide +kernel), List.mem_of_elem_eq_true (by decide +kernel)⟩
theorem z_cs : Cond.laysStatic "java/lang/String" "COMPACT_STRINGS" "Z" ∈ lw_tbl ∧ Cond.initialized "java/lang/String" ∈ lw_tbl ∧ Cond.eq (.static "java/lang/String" "COMPACT_STRINGS" "Z") (.int 1) ∈ z_F := ⟨List.mem_of_elem_eq_true (by decide +kernel), List.mem_of_elem_eq_true (by decide +kernel), List.mem_of_elem_eq_true (by decide +kernel)⟩
theorem z_fm : Cond.laysStatic "jdk/internal/util/Preconditions" "SIOOBE_FORMATTER" "Ljava/util/function/BiFunction;" ∈ lw_tbl ∧ Cond.initialized "jdk/internal/util/Preconditions" ∈ lw_tbl ∧ Cond.isRef (.static "jdk/internal/util/Preconditions" "SIOOBE_FORMATTER" "Ljava/util/function/BiFunction;") ∈ z_F := ⟨List.mem_of_elem_eq_true (by decide +kernel), List.mem_of_elem_eq_true (by decide +kernel), List.mem_of_elem_eq_true (by decide +kernel)⟩
theorem z_us : Cond.laysStatic Bundle.tN "UNASSIGNED_STACK" Bundle.steD ∈ lw_tbl ∧ Cond.initialized Bundle.tN ∈ lw_tbl ∧ Cond.isRef (.static Bundle.tN "UNASSIGNED_STACK" Bundle.steD) ∈ z_F := ⟨List.mem_of_elem_eq_true (by decide +kernel), List.mem_of_elem_eq_true (by decide +kernel), List.mem_of_elem_eq_true (by decide +kernel)⟩
theorem z_ss : Cond.laysStatic Bundle.tN "SUPPRESSED_SENTINEL" Bundle.listD ∈ lw_tbl ∧ Cond.isRef (.static Bundle.tN "SUPPRESSED_SENTINEL" Bundle.listD) ∈ z_F := ⟨List.mem_of_elem_eq_true (by decide +kernel), List.mem_of_elem_eq_true (by decide +kernel)⟩
theorem z_amb {args : Array Value} {s : State} (hts : ∀ w ∈ lw_tbl, w.before args s = true) (hf : ∀ w ∈ z_F, w.before args s = true) (b : Nat) : ∃ ad : Nat → Nat, ad 1010 = b ∧ pz_amb s.heap.size ad s s.heap := by
  have hA : ∀ a : Nat, a < s.heap.size → ¬ (fun q => s.heap.size ≤ q) a := fun a h => Nat.not_le.mpr h
  obtain ⟨t0, a0, b0⟩ := z_st0 hts hf
  obtain ⟨t1, a1, b1⟩ := z_st1 hts hf
  obtain ⟨t2, a2, b2⟩ := z_st2 hts hf
  obtain ⟨t3, a3, b3⟩ := z_st3 hts hf
  obtain ⟨t4, a4, b4⟩ := z_st4 hts hf
  obtain ⟨t5, u1, u2, u3, u4, u5, u6, -⟩ := Cond.exactly_spec (args := args) (first := s) (o := none) (s := s) (idx := []) (t := .string "HuntingRudderModel" 151) (cls := "java/lang/String") (hf _ z_str1.1)
  obtain ⟨t8, -, -, -, w1, -⟩ := Cond.exactly_spec (args := args) (first := s) (o := none) (s := s) (idx := []) (t := .string "HuntingRudder" 136) (cls := "java/lang/String") (hf _ z_str1.2.1)
  obtain ⟨t9, -, -, -, w2, -⟩ := Cond.exactly_spec (args := args) (first := s) (o := none) (s := s) (idx := []) (t := .string "HuntingRudder" 150) (cls := "java/lang/String") (hf _ z_str1.2.2)
  obtain ⟨t6, v1, v2⟩ := va_Tof (args := args) (tm := .field (.string "HuntingRudderModel" 151) "java/lang/String" "value" "[B") (ty := .byte) (N := 54) (f := fun i => .int (pz_wb.getD i 0)) (A := fun q => s.heap.size ≤ q) (by decide) (hf _ z_str3) (va_eqt (hf _ z_str4)) (fun j hj => va_eqt (hf _ (of_decide_eq_true (List.all_eq_true.mp z_str5 j (List.mem_range.mpr hj))))) hA
  have hO : va_O "java/lang/String" t5 (fun q => s.heap.size ≤ q) s s.heap := va_Oof (hf _ z_str1.1) u4 hA
  have hV : va_OF "java/lang/String" "value" "[B" (.ref t6) t5 (fun q => s.heap.size ≤ q) s s.heap := vk_OFof u4 v1 hA
  have hC : va_OF "java/lang/String" "coder" "B" (.int 0) t5 (fun q => s.heap.size ≤ q) s s.heap := vk_OFof u4 (va_eqt (hf _ z_str2)) hA
  have hZ : va_Z "java/lang/String" "COMPACT_STRINGS" "Z" (.int 1) (fun q => s.heap.size ≤ q) s s.heap := va_Zof (hts _ z_cs.1) (hts _ z_cs.2.1) (va_eqt (hf _ z_cs.2.2)) hA
  obtain ⟨t7, hF⟩ : ∃ t7 : Nat, va_Z "jdk/internal/util/Preconditions" "SIOOBE_FORMATTER" "Ljava/util/function/BiFunction;" .null (fun q => s.heap.size ≤ q) s s.heap ∨ va_Z "jdk/internal/util/Preconditions" "SIOOBE_FORMATTER" "Ljava/util/function/BiFunction;" (.ref t7) (fun q => s.heap.size ≤ q) s s.heap := by
    rcases va_Zqof (A := fun q => s.heap.size ≤ q) (hts _ z_fm.1) (hts _ z_fm.2.1) (hf _ z_fm.2.2) hA with h | ⟨t, h⟩
    · exact ⟨0, Or.inl h⟩
    · exact ⟨t, Or.inr h⟩
  refine ⟨fun k => zl 0 [t0, t1, t2, t3, t4, t5, t6, t7, t8, t9, b] (k - 1000), rfl, fun w hw => ?_, fun j hj => ?_, fun j n f hj => ?_, fun j n f hj => ?_, ?_⟩
  · have h1 := List.mem_filter.mp hw
    have h2 := hts w h1.1
    have h3 := h1.2
    cases w <;> first | exact absurd h3 Bool.false_ne_true | exact va_Nw.of rfl h2
  · match j, hj with
    | 0, _ => exact a0
    | 1, _ => exact a1
    | 2, _ => exact a2
    | 3, _ => exact a3
    | 4, _ => exact a4
    | n + 5, hj => exact absurd hj (by omega)
  · match j, hj with
    | 0, hj => cases hj; exact b0
    | 1, hj => cases hj; exact b1
    | 2, hj => cases hj; exact b2
    | 3, hj => cases hj; exact b3
    | n + 4, hj => cases hj
  · match j, hj with
    | 0, hj => cases hj
    | 1, hj => cases hj
    | 2, hj => cases hj
    | 3, hj => cases hj
    | 4, hj => cases hj; exact b4
    | n + 5, hj => cases hj
  · exact ⟨vk_R.of (hts _ z_str6.1) u4, hO, hV, hC, v2, hZ, hF, vx_Zqof (hts _ z_us.1) (hts _ z_us.2.1) (hf _ z_us.2.2) hA, vx_Zqof (hts _ z_ss.1) (hts _ z_us.2.1) (hf _ z_ss.2) hA, vk_R.of (hts _ z_str6.2.1) w1, vk_R.of (hts _ z_str6.2.2) w2,
      fun w hw => va_Nw.of (pz_tok_tab (List.all_eq_true.mp pz_tw_ok w hw)) (hts w (of_decide_eq_true (List.all_eq_true.mp z_twA w hw))), va_Nc.of (hf _ z_nc)⟩
