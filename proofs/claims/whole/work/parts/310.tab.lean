/-! ===== instructions as data ===== -/
def pz_i0 (r : pz_I) : Nat := match r.2.2.2.1 with
  | a :: _ => a
  | _ => 0
def pz_i1 (r : pz_I) : Nat := match r.2.2.2.1 with
  | _ :: a :: _ => a
  | _ => 0
def pz_i2 (r : pz_I) : Nat := match r.2.2.2.1 with
  | _ :: _ :: a :: _ => a
  | _ => 0
def pz_df (ci : Nat) : List Value := match ci with
  | 0 => [.null, .null, .int 0]
  | 1 => [.null, .null, .null, .null, .null, .null, .int 0]
  | 2 => [.null, .null, .null, .int 0, .int 0]
  | 3 => [.null, .null]
  | 4 => [.int 0, .int 0, .int 0, .int 0, .int 0, .int 0, .int 0, .int 0]
  | 5 => [.null, .int 0, .int 0, .int 0, .int 0, .int 0, .int 0]
  | 6 => [.null, .null, .null, .null, .null, .null, .null, .null, .null, .long 0, .int 0, .int 0, .int 0, .int 0]
  | 7 => [.null, .null, .null, .null, .null, .null, .int 0, .int 0, .int 0, .int 0, .int 0, .int 0, .int 0]
  | 8 => [.null, .null, .null, .int 0, .int 0, .int 0, .int 0]
  | 9 => [.null, .null, .int 0]
  | 10 => [.null, .null, .null, .null, .int 0, .null, .int 0, .int 0, .int 0, .int 0, .int 0, .int 0, .int 0]
  | 11 => [.null, .null, .null, .null, .null, .null, .null, .null, .null, .null]
  | 12 => [.int 0, .null, .int 0, .null, .null, .null, .null, .null, .null, .null, .null, .null, .null, .null, .null, .int 0, .int 0, .int 0, .int 0, .int 0, .int 0, .int 0, .int 0, .int 0, .int 0, .int 0, .int 0, .int 0, .int 0, .int 0, .int 0, .int 0, .int 0, .int 0, .int 0, .int 0, .int 0, .int 0, .int 0, .int 0, .int 0, .int 0, .null, .null, .null, .null, .int 0, .null, .int 0, .int 0, .int 0, .null, .null, .int 0, .int 0, .null, .null, .null, .null, .null, .null, .null, .null, .int 0, .int 0, .null]
  | _ => []
def pz_gwi (i : Nat) (w : Cond) : Bool := decide (pz_at pz_gw i = some w)
def pz_nwi (i : Nat) (w : Cond) : Bool := decide (pz_at pz_nw i = some w)
theorem pz_gwi_mem {i : Nat} {w : Cond} (h : pz_gwi i w = true) : w ∈ pz_gw := by
  have h := of_decide_eq_true h
  rw [pz_at_eq] at h
  exact List.mem_of_getElem? h
theorem pz_nwi_mem {i : Nat} {w : Cond} (h : pz_nwi i w = true) : w ∈ pz_nw := by
  have h := of_decide_eq_true h
  rw [pz_at_eq] at h
  exact List.mem_of_getElem? h
def pz_dfc (q : vw_C) (fs : List Value) : Bool := (List.range q.2.2).all fun j => match parseFieldDescriptor (q.2.1 j).2.2.1 with
  | some ty => decide (defaultValue ty = vp_V fs j)
  | none => false
theorem pz_dfc_ok {q : vw_C} {fs : List Value} (h : pz_dfc q fs = true) (ty : Nat → FieldType) (hty : ∀ k, k < q.2.2 → parseFieldDescriptor (q.2.1 k).2.2.1 = some (ty k)) : ∀ j, j < q.2.2 → defaultValue (ty j) = vp_V fs j := by
  intro j hj
  have h1 := List.all_eq_true.mp h j (List.mem_range.mpr hj)
  rw [hty j hj] at h1
  exact of_decide_eq_true h1
def pz_nr (v : Value) : Bool := match v with
  | .ref _ => false
  | _ => true
theorem pz_nr_ok {fs : List Value} (h : fs.all pz_nr = true) (ad : Nat → Nat) : fs.map (pz_v ad) = fs := by
  have : fs.map (pz_v ad) = fs.map id := List.map_congr_left (fun v hv => by
    have h1 := List.all_eq_true.mp h v hv
    cases v <;> first | rfl | exact absurd h1 Bool.false_ne_true)
  rw [this, List.map_id]
def pz_l0 (l : List Nat) : Nat := match l with
  | a :: _ => a
  | _ => 0
def pz_l1 (l : List Nat) : Nat := match l with
  | _ :: a :: _ => a
  | _ => 0
def pz_l2 (l : List Nat) : Nat := match l with
  | _ :: _ :: a :: _ => a
  | _ => 0
def pz_l3 (l : List Nat) : Nat := match l with
  | _ :: _ :: _ :: a :: _ => a
  | _ => 0
def pz_l4 (l : List Nat) : Nat := match l with
  | _ :: _ :: _ :: _ :: a :: _ => a
  | _ => 0
def pz_vint (cv : Value) (f : Int32 → Bool) : Bool := match cv with
  | .int v => f v
  | .null => true
  | _ => false
def pz_vlong (cv : Value) (f : Int64 → Bool) : Bool := match cv with
  | .long v => f v
  | .null => true
  | _ => false
def pz_opi (N : Nat) (ins : Instr) (inf : List Nat) (cv : Value) : pz_O := match ins with
  | .iadd  => pz_o_iadd
  | .isub  => pz_o_isub
  | .imul  => pz_o_imul
  | .iand  => pz_o_iand
  | .ior  => pz_o_ior
  | .ixor  => pz_o_ixor
  | .ishl  => pz_o_ishl
  | .ishr  => pz_o_ishr
  | .iushr  => pz_o_iushr
  | .ladd  => pz_o_ladd
  | .lsub  => pz_o_lsub
  | .lmul  => pz_o_lmul
  | .land  => pz_o_land
  | .lor  => pz_o_lor
  | .lxor  => pz_o_lxor
  | .idiv  => pz_o_idiv
  | .irem  => pz_o_irem
  | .ldiv  => pz_o_ldiv
  | .ineg  => pz_o_ineg
  | .lneg  => pz_o_lneg
  | .i2l  => pz_o_i2l
  | .l2i  => pz_o_l2i
  | .i2b  => pz_o_i2b
  | .i2c  => pz_o_i2c
  | .lshl  => pz_o_lshl
  | .lshr  => pz_o_lshr
  | .lushr  => pz_o_lushr
  | .lcmp  => pz_o_lcmp
  | .dup  => pz_o_dup
  | .pop  => pz_o_pop
  | .dup2  => pz_o_dup2
  | .iaload  => pz_o_iald
  | .laload  => pz_o_lald
  | .baload  => pz_o_bald
  | .arraylength  => pz_o_alen
  | .iastore  => pz_o_iast
  | .lastore  => pz_o_last
  | .bastore  => pz_o_bast
  | .iconst _ => pz_oc cv
  | .bipush _ => pz_oc cv
  | .sipush _ => pz_oc cv
  | .lconst _ => pz_oc cv
  | .ldc _ => pz_oc cv
  | .ldc_w _ => pz_oc cv
  | .ldc2_w _ => pz_oc cv
  | .iload_n j => pz_oild j.val
  | .iload j => pz_oild j
  | .istore_n j => pz_oist N j.val
  | .istore j => pz_oist N j
  | .lload_n j => pz_olld j.val
  | .lload j => pz_olld j
  | .lstore_n j => pz_olst N j.val
  | .lstore j => pz_olst N j
  | .aload_n j => pz_oald j.val
  | .aload j => pz_oald j
  | .astore_n j => pz_oast N j.val
  | .astore j => pz_oast N j
  | .iinc i _ => pz_oinc N i cv
  | .getfield _ => pz_o_get (pz_l0 inf) (pz_l1 inf)
  | .putfield _ => pz_o_put (pz_l0 inf) (pz_l1 inf) (pz_l3 inf)
  | .getstatic _ => if pz_l0 inf = 9 then pz_on else pz_o_gets (pz_l0 inf)
  | .new _ => if pz_l0 inf = 99 then pz_on else pz_o_new (pz_l0 inf) (pz_l1 inf) (pz_df (pz_l0 inf))
  | .newarray _ => pz_o_newa (pz_l0 inf) (pz_l1 inf)
  | .invokespecial _ => if pz_l0 inf = 1 then pz_o_oi else pz_on
  | .invokestatic _ => if pz_l0 inf = 1 then pz_o_cpy else pz_on
  | _ => pz_on
def pz_okx (M : pz_M) (ins : Instr) (len : Nat) (inf : List Nat) (cv : Value) : Bool := match ins with
  | .iadd  => decide (len = 1)
  | .isub  => decide (len = 1)
  | .imul  => decide (len = 1)
  | .iand  => decide (len = 1)
  | .ior  => decide (len = 1)
  | .ixor  => decide (len = 1)
  | .ishl  => decide (len = 1)
  | .ishr  => decide (len = 1)
  | .iushr  => decide (len = 1)
  | .ladd  => decide (len = 1)
  | .lsub  => decide (len = 1)
  | .lmul  => decide (len = 1)
  | .land  => decide (len = 1)
  | .lor  => decide (len = 1)
  | .lxor  => decide (len = 1)
  | .idiv  => decide (len = 1)
  | .irem  => decide (len = 1)
  | .ldiv  => decide (len = 1)
  | .ineg  => decide (len = 1)
  | .lneg  => decide (len = 1)
  | .i2l  => decide (len = 1)
  | .l2i  => decide (len = 1)
  | .i2b  => decide (len = 1)
  | .i2c  => decide (len = 1)
  | .lshl  => decide (len = 1)
  | .lshr  => decide (len = 1)
  | .lushr  => decide (len = 1)
  | .lcmp  => decide (len = 1)
  | .dup  => decide (len = 1)
  | .pop  => decide (len = 1)
  | .dup2  => decide (len = 1)
  | .iaload  => decide (len = 1)
  | .laload  => decide (len = 1)
  | .baload  => decide (len = 1)
  | .arraylength  => decide (len = 1)
  | .iastore  => decide (len = 1)
  | .lastore  => decide (len = 1)
  | .bastore  => decide (len = 1)
  | .iconst i => decide (len = 1) && pz_vint cv (fun v => decide (Int32.ofInt i = v))
  | .bipush i => decide (len = 2) && pz_vint cv (fun v => decide ((Int8.ofInt i).toInt32 = v))
  | .sipush i => decide (len = 3) && pz_vint cv (fun v => decide ((Int16.ofInt i).toInt32 = v))
  | .lconst i => decide (len = 1) && pz_vlong cv (fun v => decide (Int64.ofNat (i : Nat) = v))
  | .ldc i => decide (len = 2) && pz_vint cv (fun v => pz_gwi (pz_l0 inf) (.constant M.1.cls i v))
  | .ldc_w i => decide (len = 3) && pz_vint cv (fun v => pz_gwi (pz_l0 inf) (.constant M.1.cls i v))
  | .ldc2_w i => decide (len = 3) && pz_vlong cv (fun v => pz_gwi (pz_l0 inf) (.constantLong M.1.cls i v))
  | .iload_n _ => decide (len = 1)
  | .iload _ => decide (len = 2)
  | .istore_n _ => decide (len = 1)
  | .istore _ => decide (len = 2)
  | .lload_n _ => decide (len = 1)
  | .lload _ => decide (len = 2)
  | .lstore_n _ => decide (len = 1)
  | .lstore _ => decide (len = 2)
  | .aload_n _ => decide (len = 1)
  | .aload _ => decide (len = 2)
  | .astore_n _ => decide (len = 1)
  | .astore _ => decide (len = 2)
  | .iinc _ c0 => decide (len = 3) && pz_vint cv (fun v => decide (Int32.ofInt c0 = v))
  | .getfield idx => decide (len = 3) && (match vwCl[pz_l0 inf]? with | some q => decide (pz_l1 inf < q.2.2) && pz_gwi (pz_l2 inf) (.fieldLink M.1.cls idx (q.2.1 (pz_l1 inf)).1 (q.2.1 (pz_l1 inf)).2.1 (q.2.1 (pz_l1 inf)).2.2.1) | none => true)
  | .putfield idx => decide (len = 3) && (match vwCl[pz_l0 inf]? with | some q => decide (pz_l1 inf < q.2.2) && (pz_gwi (pz_l2 inf) (.fieldLink M.1.cls idx (q.2.1 (pz_l1 inf)).1 (q.2.1 (pz_l1 inf)).2.1 (q.2.1 (pz_l1 inf)).2.2.1) && ((match parseFieldDescriptor (q.2.1 (pz_l1 inf)).2.2.1 with | some ty => decide (pz_tc ty = pz_l3 inf) | none => false) && (decide ((q.2.1 (pz_l1 inf)).2.2.2 = false) || decide ((q.2.1 (pz_l1 inf)).2.2.2 = true ∧ M.1.name = "<init>" ∧ (q.2.1 (pz_l1 inf)).1 = M.1.cls)))) | none => false)
  | .getstatic idx => if pz_l0 inf = 9 then true else decide (len = 3) && (decide (pz_l0 inf < 5) && (pz_gwi (pz_l1 inf) (.fieldLink M.1.cls idx (pz_sn (pz_l0 inf)).1 (pz_sn (pz_l0 inf)).2.1 (pz_sn (pz_l0 inf)).2.2) || pz_nwi (pz_l1 inf) (.fieldLinkNest M.1.cls idx (pz_sn (pz_l0 inf)).1 (pz_sn (pz_l0 inf)).2.1 (pz_sn (pz_l0 inf)).2.2 "HuntingRudder")))
  | .new idx => if pz_l0 inf = 99 then true else decide (len = 3) && (match vwCl[pz_l0 inf]? with | some q => decide (q.2.2 = pz_l1 inf) && (pz_gwi (pz_l2 inf) (.classLink M.1.cls idx q.1) && (pz_gwi (pz_l3 inf) (.instantiable q.1 (pz_l1 inf)) && (pz_gwi (pz_l4 inf) (.initialized q.1) && (pz_dfc q (pz_df (pz_l0 inf)) && (pz_df (pz_l0 inf)).all pz_nr)))) | none => false)
  | .newarray at0 => decide (len = 2) && (decide (pz_l0 inf < 4) && (decide (newarray.typeOf at0 = pz_ty (pz_l0 inf)) && pz_gwi (pz_l2 inf) (.arrayClass (newarray.typeOf at0))))
  | .invokespecial idx => if pz_l0 inf = 1 then decide (len = 3) && (pz_gwi (pz_l1 inf) (.methodLink M.1.cls idx Lib.objectInit) && (pz_gwi (pz_l2 inf) (.instanceMethod Lib.objectInit) && pz_gwi (pz_l3 inf) (.code Lib.objectInit ⟨#[0xb1]⟩ 1 none))) else true
  | .invokestatic idx => if pz_l0 inf = 1 then decide (len = 3) && (pz_gwi (pz_l1 inf) (.methodLink M.1.cls idx arraycopyName) && (pz_gwi (pz_l2 inf) (.native arraycopyName) && (pz_gwi (pz_l3 inf) (.static arraycopyName) && pz_gwi (pz_l4 inf) (.initialized "java/lang/System")))) else true
  | _ => true
theorem pz_sound1 {M : pz_M} {pc len : Nat} {ins : Instr} {inf : List Nat} {cv : Value} (h1 : decode M.2.1 pc = .ok (ins, len)) (h2 : pz_okx M ins len inf cv = true) : pz_S M pc len (pz_opi M.2.2.1 ins inf cv) := by
  cases ins with
  | iadd  => exact (have hl := of_decide_eq_true h2; by subst hl; exact so_iadd h1)
  | isub  => exact (have hl := of_decide_eq_true h2; by subst hl; exact so_isub h1)
  | imul  => exact (have hl := of_decide_eq_true h2; by subst hl; exact so_imul h1)
  | iand  => exact (have hl := of_decide_eq_true h2; by subst hl; exact so_iand h1)
  | ior  => exact (have hl := of_decide_eq_true h2; by subst hl; exact so_ior h1)
  | ixor  => exact (have hl := of_decide_eq_true h2; by subst hl; exact so_ixor h1)
  | ishl  => exact (have hl := of_decide_eq_true h2; by subst hl; exact so_ishl h1)
  | ishr  => exact (have hl := of_decide_eq_true h2; by subst hl; exact so_ishr h1)
  | iushr  => exact (have hl := of_decide_eq_true h2; by subst hl; exact so_iushr h1)
  | ladd  => exact (have hl := of_decide_eq_true h2; by subst hl; exact so_ladd h1)
  | lsub  => exact (have hl := of_decide_eq_true h2; by subst hl; exact so_lsub h1)
  | lmul  => exact (have hl := of_decide_eq_true h2; by subst hl; exact so_lmul h1)
  | land  => exact (have hl := of_decide_eq_true h2; by subst hl; exact so_land h1)
  | lor  => exact (have hl := of_decide_eq_true h2; by subst hl; exact so_lor h1)
  | lxor  => exact (have hl := of_decide_eq_true h2; by subst hl; exact so_lxor h1)
  | idiv  => exact (have hl := of_decide_eq_true h2; by subst hl; exact so_idiv h1)
  | irem  => exact (have hl := of_decide_eq_true h2; by subst hl; exact so_irem h1)
  | ldiv  => exact (have hl := of_decide_eq_true h2; by subst hl; exact so_ldiv h1)
  | ineg  => exact (have hl := of_decide_eq_true h2; by subst hl; exact so_ineg h1)
  | lneg  => exact (have hl := of_decide_eq_true h2; by subst hl; exact so_lneg h1)
  | i2l  => exact (have hl := of_decide_eq_true h2; by subst hl; exact so_i2l h1)
  | l2i  => exact (have hl := of_decide_eq_true h2; by subst hl; exact so_l2i h1)
  | i2b  => exact (have hl := of_decide_eq_true h2; by subst hl; exact so_i2b h1)
  | i2c  => exact (have hl := of_decide_eq_true h2; by subst hl; exact so_i2c h1)
  | lshl  => exact (have hl := of_decide_eq_true h2; by subst hl; exact so_lshl h1)
  | lshr  => exact (have hl := of_decide_eq_true h2; by subst hl; exact so_lshr h1)
  | lushr  => exact (have hl := of_decide_eq_true h2; by subst hl; exact so_lushr h1)
  | lcmp  => exact (have hl := of_decide_eq_true h2; by subst hl; exact so_lcmp h1)
  | dup  => exact (have hl := of_decide_eq_true h2; by subst hl; exact so_dup h1)
  | pop  => exact (have hl := of_decide_eq_true h2; by subst hl; exact so_pop h1)
  | dup2  => exact (have hl := of_decide_eq_true h2; by subst hl; exact so_dup2 h1)
  | iaload  => exact (have hl := of_decide_eq_true h2; by subst hl; exact so_iald h1)
  | laload  => exact (have hl := of_decide_eq_true h2; by subst hl; exact so_lald h1)
  | baload  => exact (have hl := of_decide_eq_true h2; by subst hl; exact so_bald h1)
  | arraylength  => exact (have hl := of_decide_eq_true h2; by subst hl; exact so_alen h1)
  | iastore  => exact (have hl := of_decide_eq_true h2; by subst hl; exact so_iast h1)
  | lastore  => exact (have hl := of_decide_eq_true h2; by subst hl; exact so_last h1)
  | bastore  => exact (have hl := of_decide_eq_true h2; by subst hl; exact so_bast h1)
  | iconst i =>
    have h2 : (decide (len = 1) && pz_vint cv (fun v => decide (Int32.ofInt i = v))) = true := h2
    rw [Bool.and_eq_true] at h2
    obtain ⟨hl, h3⟩ := h2
    have hl := of_decide_eq_true hl
    subst hl
    cases cv with
    | int v => exact so_iconst h1 (of_decide_eq_true h3)
    | null => exact so_none
    | _ => cases h3
  | bipush i =>
    have h2 : (decide (len = 2) && pz_vint cv (fun v => decide ((Int8.ofInt i).toInt32 = v))) = true := h2
    rw [Bool.and_eq_true] at h2
    obtain ⟨hl, h3⟩ := h2
    have hl := of_decide_eq_true hl
    subst hl
    cases cv with
    | int v => exact so_bipush h1 (of_decide_eq_true h3)
    | null => exact so_none
    | _ => cases h3
  | sipush i =>
    have h2 : (decide (len = 3) && pz_vint cv (fun v => decide ((Int16.ofInt i).toInt32 = v))) = true := h2
    rw [Bool.and_eq_true] at h2
    obtain ⟨hl, h3⟩ := h2
    have hl := of_decide_eq_true hl
    subst hl
    cases cv with
    | int v => exact so_sipush h1 (of_decide_eq_true h3)
    | null => exact so_none
    | _ => cases h3
  | lconst i =>
    have h2 : (decide (len = 1) && pz_vlong cv (fun v => decide (Int64.ofNat (i : Nat) = v))) = true := h2
    rw [Bool.and_eq_true] at h2
    obtain ⟨hl, h3⟩ := h2
    have hl := of_decide_eq_true hl
    subst hl
    cases cv with
    | long v => exact so_lconst h1 (of_decide_eq_true h3)
    | null => exact so_none
    | _ => cases h3
  | ldc i =>
    have h2 : (decide (len = 2) && pz_vint cv (fun v => pz_gwi (pz_l0 inf) (.constant M.1.cls i v))) = true := h2
    rw [Bool.and_eq_true] at h2
    obtain ⟨hl, h3⟩ := h2
    have hl := of_decide_eq_true hl
    subst hl
    cases cv with
    | int v => exact so_ldc (pz_gwi_mem h3) h1
    | null => exact so_none
    | _ => cases h3
  | ldc_w i =>
    have h2 : (decide (len = 3) && pz_vint cv (fun v => pz_gwi (pz_l0 inf) (.constant M.1.cls i v))) = true := h2
    rw [Bool.and_eq_true] at h2
    obtain ⟨hl, h3⟩ := h2
    have hl := of_decide_eq_true hl
    subst hl
    cases cv with
    | int v => exact so_ldcw (pz_gwi_mem h3) h1
    | null => exact so_none
    | _ => cases h3
  | ldc2_w i =>
    have h2 : (decide (len = 3) && pz_vlong cv (fun v => pz_gwi (pz_l0 inf) (.constantLong M.1.cls i v))) = true := h2
    rw [Bool.and_eq_true] at h2
    obtain ⟨hl, h3⟩ := h2
    have hl := of_decide_eq_true hl
    subst hl
    cases cv with
    | long v => exact so_ldc2 (pz_gwi_mem h3) h1
    | null => exact so_none
    | _ => cases h3
  | iload_n j => exact (have hl := of_decide_eq_true h2; by subst hl; exact so_iload_n h1 rfl)
  | iload j => exact (have hl := of_decide_eq_true h2; by subst hl; exact so_iload h1)
  | istore_n j => exact (have hl := of_decide_eq_true h2; by subst hl; exact so_istore_n h1 rfl)
  | istore j => exact (have hl := of_decide_eq_true h2; by subst hl; exact so_istore h1)
  | lload_n j => exact (have hl := of_decide_eq_true h2; by subst hl; exact so_lload_n h1 rfl)
  | lload j => exact (have hl := of_decide_eq_true h2; by subst hl; exact so_lload h1)
  | lstore_n j => exact (have hl := of_decide_eq_true h2; by subst hl; exact so_lstore_n h1 rfl)
  | lstore j => exact (have hl := of_decide_eq_true h2; by subst hl; exact so_lstore h1)
  | aload_n j => exact (have hl := of_decide_eq_true h2; by subst hl; exact so_aload_n h1 rfl)
  | aload j => exact (have hl := of_decide_eq_true h2; by subst hl; exact so_aload h1)
  | astore_n j => exact (have hl := of_decide_eq_true h2; by subst hl; exact so_astore_n h1 rfl)
  | astore j => exact (have hl := of_decide_eq_true h2; by subst hl; exact so_astore h1)
  | iinc i c0 =>
    have h2 : (decide (len = 3) && pz_vint cv (fun v => decide (Int32.ofInt c0 = v))) = true := h2
    rw [Bool.and_eq_true] at h2
    obtain ⟨hl, h3⟩ := h2
    have hl := of_decide_eq_true hl
    subst hl
    cases cv with
    | int v => exact so_iinc h1 (of_decide_eq_true h3)
    | null => exact so_none
    | _ => cases h3
  | getfield idx =>
    have h2 : (decide (len = 3) && (match vwCl[pz_l0 inf]? with | some q => decide (pz_l1 inf < q.2.2) && pz_gwi (pz_l2 inf) (.fieldLink M.1.cls idx (q.2.1 (pz_l1 inf)).1 (q.2.1 (pz_l1 inf)).2.1 (q.2.1 (pz_l1 inf)).2.2.1) | none => true)) = true := h2
    rw [Bool.and_eq_true] at h2
    obtain ⟨hl, h3⟩ := h2
    have hl := of_decide_eq_true hl
    subst hl
    cases hq : vwCl[pz_l0 inf]? with
    | none => exact so_getX hq
    | some q =>
      rw [hq] at h3
      have h3 := Bool.and_eq_true_iff.mp h3
      exact so_get hq (of_decide_eq_true h3.1) (pz_gwi_mem h3.2) h1
  | putfield idx =>
    have h2 : (decide (len = 3) && (match vwCl[pz_l0 inf]? with | some q => decide (pz_l1 inf < q.2.2) && (pz_gwi (pz_l2 inf) (.fieldLink M.1.cls idx (q.2.1 (pz_l1 inf)).1 (q.2.1 (pz_l1 inf)).2.1 (q.2.1 (pz_l1 inf)).2.2.1) && ((match parseFieldDescriptor (q.2.1 (pz_l1 inf)).2.2.1 with | some ty => decide (pz_tc ty = pz_l3 inf) | none => false) && (decide ((q.2.1 (pz_l1 inf)).2.2.2 = false) || decide ((q.2.1 (pz_l1 inf)).2.2.2 = true ∧ M.1.name = "<init>" ∧ (q.2.1 (pz_l1 inf)).1 = M.1.cls)))) | none => false)) = true := h2
    rw [Bool.and_eq_true] at h2
    obtain ⟨hl, h3⟩ := h2
    have hl := of_decide_eq_true hl
    subst hl
    cases hq : vwCl[pz_l0 inf]? with
    | none => rw [hq] at h3; cases h3
    | some q =>
      rw [hq] at h3
      simp only [Bool.and_eq_true] at h3
      obtain ⟨g1, g2, g3, g4⟩ := h3
      cases hp : parseFieldDescriptor (q.2.1 (pz_l1 inf)).2.2.1 with
      | none => rw [hp] at g3; cases g3
      | some ty =>
        rw [hp] at g3
        exact so_put hq (of_decide_eq_true g1) (pz_gwi_mem g2) hp (of_decide_eq_true g3) ((Bool.or_eq_true_iff.mp g4).elim (fun z => Or.inl (of_decide_eq_true z)) (fun z => Or.inr (of_decide_eq_true z))) h1
  | getstatic idx =>
    have h2 : (if pz_l0 inf = 9 then true else decide (len = 3) && (decide (pz_l0 inf < 5) && (pz_gwi (pz_l1 inf) (.fieldLink M.1.cls idx (pz_sn (pz_l0 inf)).1 (pz_sn (pz_l0 inf)).2.1 (pz_sn (pz_l0 inf)).2.2) || pz_nwi (pz_l1 inf) (.fieldLinkNest M.1.cls idx (pz_sn (pz_l0 inf)).1 (pz_sn (pz_l0 inf)).2.1 (pz_sn (pz_l0 inf)).2.2 "HuntingRudder")))) = true := h2
    show pz_S M pc len (if pz_l0 inf = 9 then pz_on else pz_o_gets (pz_l0 inf))
    by_cases h9 : pz_l0 inf = 9
    · rw [if_pos h9]; exact so_none
    rw [if_neg h9] at h2 ⊢
    simp only [Bool.and_eq_true] at h2
    obtain ⟨hl, h3, h4⟩ := h2
    have hl := of_decide_eq_true hl
    subst hl
    exact (Bool.or_eq_true_iff.mp h4).elim (fun z => so_gets (of_decide_eq_true h3) (pz_gwi_mem z) h1) (fun z => so_getsN (of_decide_eq_true h3) (pz_nwi_mem z) h1)
  | new idx =>
    have h2 : (if pz_l0 inf = 99 then true else decide (len = 3) && (match vwCl[pz_l0 inf]? with | some q => decide (q.2.2 = pz_l1 inf) && (pz_gwi (pz_l2 inf) (.classLink M.1.cls idx q.1) && (pz_gwi (pz_l3 inf) (.instantiable q.1 (pz_l1 inf)) && (pz_gwi (pz_l4 inf) (.initialized q.1) && (pz_dfc q (pz_df (pz_l0 inf)) && (pz_df (pz_l0 inf)).all pz_nr)))) | none => false)) = true := h2
    show pz_S M pc len (if pz_l0 inf = 99 then pz_on else pz_o_new (pz_l0 inf) (pz_l1 inf) (pz_df (pz_l0 inf)))
    by_cases h99 : pz_l0 inf = 99
    · rw [if_pos h99]; exact so_none
    rw [if_neg h99] at h2 ⊢
    rw [Bool.and_eq_true] at h2
    obtain ⟨hl, h3⟩ := h2
    have hl := of_decide_eq_true hl
    subst hl
    cases hq : vwCl[pz_l0 inf]? with
    | none => rw [hq] at h3; cases h3
    | some q =>
      rw [hq] at h3
      simp only [Bool.and_eq_true] at h3
      obtain ⟨g1, g2, g3, g4, g5, g6⟩ := h3
      have g1 := of_decide_eq_true g1
      exact so_new hq g1 (pz_gwi_mem g2) (pz_gwi_mem g3) (pz_gwi_mem g4) (fun ty hty => g1 ▸ pz_dfc_ok g5 ty hty) (pz_nr_ok g6) h1
  | newarray at0 =>
    have h2 : (decide (len = 2) && (decide (pz_l0 inf < 4) && (decide (newarray.typeOf at0 = pz_ty (pz_l0 inf)) && pz_gwi (pz_l2 inf) (.arrayClass (newarray.typeOf at0))))) = true := h2
    simp only [Bool.and_eq_true] at h2
    obtain ⟨hl, h3, h4, h5⟩ := h2
    have hl := of_decide_eq_true hl
    subst hl
    exact so_newa (of_decide_eq_true h3) (of_decide_eq_true h4) (pz_gwi_mem h5) h1
  | invokespecial idx =>
    have h2 : (if pz_l0 inf = 1 then decide (len = 3) && (pz_gwi (pz_l1 inf) (.methodLink M.1.cls idx Lib.objectInit) && (pz_gwi (pz_l2 inf) (.instanceMethod Lib.objectInit) && pz_gwi (pz_l3 inf) (.code Lib.objectInit ⟨#[0xb1]⟩ 1 none))) else true) = true := h2
    by_cases hi : pz_l0 inf = 1
    · rw [if_pos hi] at h2
      show pz_S M pc len (if pz_l0 inf = 1 then pz_o_oi else pz_on)
      rw [if_pos hi]
      simp only [Bool.and_eq_true] at h2
      obtain ⟨hl, h3, h4, h5⟩ := h2
      have hl := of_decide_eq_true hl
      subst hl
      exact so_oi (pz_gwi_mem h3) (pz_gwi_mem h4) (pz_gwi_mem h5) h1
    · show pz_S M pc len (if pz_l0 inf = 1 then pz_o_oi else pz_on)
      rw [if_neg hi]
      exact so_none
  | invokestatic idx =>
    have h2 : (if pz_l0 inf = 1 then decide (len = 3) && (pz_gwi (pz_l1 inf) (.methodLink M.1.cls idx arraycopyName) && (pz_gwi (pz_l2 inf) (.native arraycopyName) && (pz_gwi (pz_l3 inf) (.static arraycopyName) && pz_gwi (pz_l4 inf) (.initialized "java/lang/System")))) else true) = true := h2
    by_cases hi : pz_l0 inf = 1
    · rw [if_pos hi] at h2
      show pz_S M pc len (if pz_l0 inf = 1 then pz_o_cpy else pz_on)
      rw [if_pos hi]
      simp only [Bool.and_eq_true] at h2
      obtain ⟨hl, h3, h4, h5, h6⟩ := h2
      have hl := of_decide_eq_true hl
      subst hl
      exact so_cpy (pz_gwi_mem h3) (pz_gwi_mem h4) (pz_gwi_mem h5) (pz_gwi_mem h6) h1
    · show pz_S M pc len (if pz_l0 inf = 1 then pz_o_cpy else pz_on)
      rw [if_neg hi]
      exact so_none
  | _ => exact so_none
def pz_bri (pc : Nat) (ins : Instr) (inf : List Nat) : pz_B := match ins with
  | .ifCond cd _ => pz_b_if cd (pz_l0 inf) (pc + 3)
  | .if_icmp cd _ => pz_b_ic cd (pz_l0 inf) (pc + 3)
  | .goto _ => pz_b_go (pz_l0 inf)
  | _ => pz_bn
def pz_okb (pc : Nat) (ins : Instr) (len : Nat) (inf : List Nat) : Bool := match ins with
  | .ifCond _ off => decide (len = 3) && decide ((pc : Int) + off = ((pz_l0 inf : Nat) : Int))
  | .if_icmp _ off => decide (len = 3) && decide ((pc : Int) + off = ((pz_l0 inf : Nat) : Int))
  | .goto off => decide (len = 3) && decide ((pc : Int) + off = ((pz_l0 inf : Nat) : Int))
  | _ => true
theorem pz_sound2 {M : pz_M} {pc len : Nat} {ins : Instr} {inf : List Nat} (h1 : decode M.2.1 pc = .ok (ins, len)) (h2 : pz_okb pc ins len inf = true) : pz_SB M pc (pz_bri pc ins inf) := by
  cases ins with
  | ifCond cd off =>
    have h2 := Bool.and_eq_true_iff.mp h2
    have hl := of_decide_eq_true h2.1
    subst hl
    exact sb_if h1 (of_decide_eq_true h2.2)
  | if_icmp cd off =>
    have h2 := Bool.and_eq_true_iff.mp h2
    have hl := of_decide_eq_true h2.1
    subst hl
    exact sb_ic h1 (of_decide_eq_true h2.2)
  | goto off =>
    have h2 := Bool.and_eq_true_iff.mp h2
    have hl := of_decide_eq_true h2.1
    subst hl
    exact sb_go h1 (of_decide_eq_true h2.2)
  | _ => exact sb_none
def pz_ok (M : pz_M) (r : pz_I) : Bool := decide (decode M.2.1 r.1 = .ok (r.2.1, r.2.2.1)) && (pz_okx M r.2.1 r.2.2.1 r.2.2.2.1 r.2.2.2.2 && pz_okb r.1 r.2.1 r.2.2.1 r.2.2.2.1)
/-- the method's instructions are as its bytes say, and its words are among ours -/
def pz_okM (M : pz_M) : Bool := M.2.2.2.2.all (pz_ok M)
theorem pz_okl {L : List pz_M} (h : L.all pz_okM = true) (i : Nat) {m : pz_M} (hm : pz_at L i = some m) : pz_okM m = true := by
  rw [pz_at_eq] at hm
  exact List.all_eq_true.mp h m (List.mem_of_getElem? hm)
theorem pz_gwl {L : List (Nat × Cond)} (h : L.all (fun q => pz_gwi q.1 q.2) = true) (i : Nat) {k : Nat} {w : Cond} (hm : pz_at L i = some (k, w)) : w ∈ pz_gw := by
  rw [pz_at_eq] at hm
  exact pz_gwi_mem (List.all_eq_true.mp h (k, w) (List.mem_of_getElem? hm))
theorem pz_nwl {L : List (Nat × Cond)} (h : L.all (fun q => pz_nwi q.1 q.2) = true) (i : Nat) {k : Nat} {w : Cond} (hm : pz_at L i = some (k, w)) : w ∈ pz_nw := by
  rw [pz_at_eq] at hm
  exact pz_nwi_mem (List.all_eq_true.mp h (k, w) (List.mem_of_getElem? hm))
theorem pz_okM_at {M : pz_M} (hM : pz_okM M = true) {r : pz_I} (hr : r ∈ M.2.2.2.2) : decode M.2.1 r.1 = .ok (r.2.1, r.2.2.1) ∧ pz_S M r.1 r.2.2.1 (pz_opi M.2.2.1 r.2.1 r.2.2.2.1 r.2.2.2.2) ∧ pz_SB M r.1 (pz_bri r.1 r.2.1 r.2.2.2.1) := by
  have h := List.all_eq_true.mp hM r hr
  simp only [pz_ok, Bool.and_eq_true] at h
  have h1 := of_decide_eq_true h.1
  exact ⟨h1, pz_sound1 h1 h.2.1, pz_sound2 h1 h.2.2⟩
/-- a stretch of instructions without a choice -/
def pz_run (N : Nat) : List pz_I → Nat → pz_L → List Value → pz_H → Nat → Nat → Option (List Prop × Nat × pz_L × List Value × pz_H × Nat × Nat)
  | [], pc, ls, st, h, k, n => some ([], pc, ls, st, h, k, n)
  | r :: rs, pc, ls, st, h, k, n => if r.1 = pc then match pz_opi N r.2.1 r.2.2.2.1 r.2.2.2.2 ls st h k n with
      | some (cs, ls', st', h', k', n') => match pz_run N rs (pc + r.2.2.1) ls' st' h' k' n' with
        | some (cs', z) => some (cs ++ cs', z)
        | none => none
      | none => none
    else none
def pz_grow (f : pz_O) : Prop := ∀ ls st h k n cs ls' st' h' k' n', f ls st h k n = some (cs, ls', st', h', k', n') → k ≤ k' ∧ n ≤ n'
def pz_drop : Nat → List pz_I → List pz_I
  | 0, l => l
  | n + 1, _ :: t => pz_drop n t
  | _ + 1, [] => []
def pz_take : Nat → List pz_I → List pz_I
  | 0, _ => []
  | n + 1, x :: t => x :: pz_take n t
  | _ + 1, [] => []
theorem pz_drop_mem {r : pz_I} : ∀ (n : Nat) (l : List pz_I), r ∈ pz_drop n l → r ∈ l
  | 0, _, h => h
  | n + 1, _ :: t, h => List.mem_cons_of_mem _ (pz_drop_mem n t h)
  | _ + 1, [], h => h
theorem pz_take_mem {r : pz_I} : ∀ (n : Nat) (l : List pz_I), r ∈ pz_take n l → r ∈ l
  | 0, _, h => by cases h
  | n + 1, x :: t, h => by
    rcases List.mem_cons.mp h with h | h
    · rw [h]; exact List.mem_cons_self
    · exact List.mem_cons_of_mem _ (pz_take_mem n t h)
  | _ + 1, [], h => by cases h
