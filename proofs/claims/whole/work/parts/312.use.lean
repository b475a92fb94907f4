/-! ===== for use: methods that make no cells ===== -/
theorem pz_ofW {l : Launch} {y : MethodName} {ws ws' : List Cond} {rm : Room} {Pc : Array Value → State → Prop} {Qc : Array Value → State → Outcome → State → Prop} {mc ms : Nat} {free : Addr → Prop} {cc : ByteArray} {maxL : Nat} {ret : Option FieldType}
    (hy : plainFor y = true) (hw : ws = Cond.code y cc maxL ret :: ws')
    (body : ∀ p e s m args below meth c s₁, BodyLoose p l y (headSpec ws rm) cc maxL ret e s m args below meth c s₁ → c.maxLocals = maxL → Pc args s →
      W p l e (headSpec ws rm).room s m args below meth c s.heap [] 0 0 (MQ below Qc args s mc ms free) (entryFrame m args maxL)) : Met l y ws rm Pc Qc mc ms free := by
  refine MetFree.of_bodySF (code := cc) (maxLocals := maxL) (ret := ret) hy ?_ ?_
  · intro args s m h hn
    obtain ⟨meth, c, h1, h2, h3, h4, h5, h6, -, -⟩ := Cond.code_spec hn (atoms_spec (ws := ws) h _ (by rw [hw]; exact List.mem_cons_self))
    exact ⟨meth, c, h1, h2, h3, h4, h5, h6⟩
  · intro p e s m args below meth c s₁ B hml hP _
    have hh0 : s₁.heap = s.heap := by rw [B.state]; rfl
    obtain ⟨t, a1, o, b1, b2, b3⟩ := body p e s m args below meth c s₁ B hml hP s₁ hh0 (Stand.of_body B)
    exact ⟨t, o, a1, b1, b2, ⟨b3.1, b3.2⟩⟩
/-- a walk that never throws -/
theorem pz_noX {p : Program} {l : Launch} {e : Env} {R : Room} {s : State} {m : MethodId} {args : Array Value} {below : List Frame} {meth : Method} {c : Code} {H : Heap} {locs : List Loc} {cells slots mc ms : Nat} {free : Addr → Prop} {Qc : Array Value → State → Outcome → State → Prop} {XC : String → State → State → Prop} {g : JFrame}
    (hx : ∀ E s t, ¬ XC E s t) (k : W p l e R s m args below meth c H locs cells slots (vx_MQ below Qc XC args s mc ms free) g) : W p l e R s m args below meth c H locs cells slots (MQ below Qc args s mc ms free) g := by
  intro T hT X
  obtain ⟨t, a1, o, b1, b2, b3⟩ := k T hT X
  rcases b3 with ⟨b3, b4⟩ | ⟨q, -, E, ce, L, h, -⟩
  · exact ⟨t, a1, o, b1, b2, b3, b4⟩
  · exact absurd h (hx _ _ _)
/-- a contract out of a walk, the JDK's methods too -/
theorem pz_en {M : pz_M} {d mc ms : Nat} {av : List Value} {h : pz_H} {Post : Option Value → pz_H → Prop} (hy : (plainFor M.1 && !pz_xr M) = true) (hlen : (lg_sl av).length ≤ M.2.2.1) (w : pz_W M d mc ms h.length Post 0 (lv_args 0 av) [] h 0 0) : pz_T M d mc ms av h Post := by
  intro l bs D kA ad sz
  obtain ⟨hy, hm⟩ := Bool.and_eq_true_iff.mp hy
  have hm : ¬ pz_xr M = true := by rw [Bool.not_eq_true']at hm; rw [hm]; exact Bool.false_ne_true
  refine pz_ofW (cc := M.2.1) (maxL := M.2.2.1) (ret := M.2.2.2.1) hy rfl ?_
  intro p e s m args below meth c s₁ B hml hv
  obtain ⟨rfl, hsz, hbs, hP, hK, hD0, hamb⟩ := hv
  have hts := atoms_spec (ws := pz_ws M) B.pre
  subst hsz
  have hD := hD0.self (sz := s.heap.size)
  have hX : pz_X M bs D kA ad p s m (av.map (pz_v ad)).toArray meth c (va_A (pz_w ad kA h) s.heap.size) := by
    refine ⟨B.exec, B.bytes, hml, B.returns, findClass_of_methodNamed B.named, fun w hw => hts w (List.mem_cons_of_mem _ hw), B.notSynchronized, ⟨(name_of_methodNamed B.named B.method).1, fun h9 => absurd h9 hm⟩, hK, fun q hq => Or.inr hq, fun q hq => ?_, hbs, hamb⟩
    rcases hq with ⟨i, x, hq⟩ | hq
    · exact hD0.2 i _ hq
    · exact Nat.le_trans hbs hq
  have hl := lv_entry (av.map (pz_v ad)) (n := M.2.2.1) (by rw [pz_lg_len]; exact hlen)
  rw [lg_entry_eq]
  rw [pz_args_l] at hl
  exact pz_noX (fun _ _ _ h => hm h.1) (w bs D kA ad ad p l e s m _ below meth c _ s.heap [] _ hX ⟨Nat.le_refl _, fun _ _ => rfl⟩ hP hD va_S.rf hl)
theorem pz_ac {c : Prop} {r : List Prop} (h : c) (hr : pz_all r) : pz_all (c :: r) := by
  cases r with
  | nil => exact h
  | cons d r => exact ⟨h, hr⟩
section
variable {M M' : pz_M} {d n0 : Nat} {Post Post' : Option Value → pz_H → Prop} {pc : Nat} {ls : pz_L} {st : List Value} {h : pz_H}
theorem pz_g (hM : pz_okM M = true) (i j : Nat) {cs : List Prop} {pc' : Nat} {ls' : pz_L} {st' : List Value} {h' : pz_H} (hd1 : 1 ≤ d) (hr : pz_run M.2.2.1 (pz_take j (pz_drop i M.2.2.2.2)) pc ls st h 0 0 = some (cs, pc', ls', st', h', 0, 0)) (hcs : pz_all cs) (hw : pz_W M d 0 0 n0 Post pc' ls' st' h' 0 0) : pz_W M d 0 0 n0 Post pc ls st h 0 0 :=
  pz_go hM i j hd1 hr hcs (Nat.le_refl 0) (Nat.le_refl 0) hw
theorem pz_if (hM : pz_okM M = true) (i : Nat) {ins : Instr} {len : Nat} {inf : List Nat} {cv : Value} {r : List Value} {c : Prop} {t f : Nat} (hi : pz_at M.2.2.2.2 i = some (pc, ins, len, inf, cv)) (hb : pz_bri pc ins inf st = some (r, [(c, t), (True, f)])) (ht : c → pz_W M d 0 0 n0 Post t ls r h 0 0) (hf : ¬ c → pz_W M d 0 0 n0 Post f ls r h 0 0) : pz_W M d 0 0 n0 Post pc ls st h 0 0 :=
  pz_br hM i hi hb ⟨ht, hf⟩
theorem pz_j (hM : pz_okM M = true) (i : Nat) {ins : Instr} {len : Nat} {inf : List Nat} {cv : Value} {t : Nat} (hi : pz_at M.2.2.2.2 i = some (pc, ins, len, inf, cv)) (hb : pz_bri pc ins inf st = some (st, [(True, t)])) (ht : pz_W M d 0 0 n0 Post t ls st h 0 0) : pz_W M d 0 0 n0 Post pc ls st h 0 0 :=
  pz_br hM i hi hb ht
theorem pz_ri_ (hM : pz_okM M = true) (i : Nat) {v : Int32} {ty : FieldType} {inf : List Nat} {cv : Value} (hi : pz_at M.2.2.2.2 i = some (pc, .ireturn, 1, inf, cv)) (hr : M.2.2.2.1 = some ty) (hv : narrow ty (.int v) = .int v) (hp : Post (some (.int v)) h) : pz_W M d 0 0 n0 Post pc ls [.int v] h 0 0 :=
  pz_iret (pz_dec hM i hi) hr hv (Nat.le_refl 0) (Nat.le_refl 0) hp
theorem pz_rl_ (hM : pz_okM M = true) (i : Nat) {v : Int64} {inf : List Nat} {cv : Value} (hi : pz_at M.2.2.2.2 i = some (pc, .lreturn, 1, inf, cv)) (hr : M.2.2.2.1 = some .long) (hp : Post (some (.long v)) h) : pz_W M d 0 0 n0 Post pc ls [.long v] h 0 0 :=
  pz_lret (pz_dec hM i hi) hr (Nat.le_refl 0) (Nat.le_refl 0) hp
theorem pz_rv_ (hM : pz_okM M = true) (i : Nat) {inf : List Nat} {cv : Value} (hi : pz_at M.2.2.2.2 i = some (pc, .return_, 1, inf, cv)) (hr : M.2.2.2.1 = none) (hp : Post none h) : pz_W M d 0 0 n0 Post pc ls [] h 0 0 :=
  pz_vret (pz_dec hM i hi) hr (Nat.le_refl 0) (Nat.le_refl 0) hp
theorem pz_ra_ (hM : pz_okM M = true) (i : Nat) {a : Nat} {C : String} {inf : List Nat} {cv : Value} (hi : pz_at M.2.2.2.2 i = some (pc, .areturn, 1, inf, cv)) (hr : M.2.2.2.1 = some (.object C)) (hp : Post (some (.ref a)) h) : pz_W M d 0 0 n0 Post pc ls [.ref a] h 0 0 :=
  pz_aret (pz_dec hM i hi) hr (Nat.le_refl 0) (Nat.le_refl 0) hp
/-- a state written otherwise -/
theorem pz_as {st' : List Value} {h' : pz_H} (hs : st = st') (hh : h = h') (hw : pz_W M d 0 0 n0 Post pc ls st' h' 0 0) : pz_W M d 0 0 n0 Post pc ls st h 0 0 := by
  subst hs; subst hh; exact hw
/-- a call of an instance's method -/
theorem pz_cv {d' np idx : Nat} {hs : pz_H} {rest0 asc : List Value} {b0 ci : Nat} {fs : List Value} {q : vw_C} {inf : List Nat} {cv : Value} (hM : pz_okM M = true) (i : Nat) (hi : pz_at M.2.2.2.2 i = some (pc, .invokevirtual idx, 3, inf, cv)) (hlk : Cond.methodLink M.1.cls idx M'.1 ∈ pz_gw) (hcv : pz_CV M' np) (σ δ : List Nat) (hT : pz_T M' d' 0 0 (.ref b0 :: asc) hs Post') (hdd : d' + 1 ≤ d) (hnp : asc.length = np) (hcl : vwCl[ci]? = some q) (hcq : q.1 = M'.1.cls) (hb : pz_at hs b0 = some (.inr (ci, fs)))
    (hpk : pz_pick h σ = some (hs.map (pz_rc (pz_rn σ δ h.length)))) (hnd : va_nd σ = true) (hl1 : σ.length ≤ 500) (hl2 : δ.length ≤ 500) (hrs : (rest0.map fun v => v.category).sum ≤ 8) (hst : ((.ref b0 :: asc).map (pz_v (pz_rn σ δ h.length))).reverse ++ rest0 = st)
    (hw : ∀ r hs', Post' r hs' → hs'.length = hs.length ∧ pz_W M d 0 0 n0 Post (pc + 3) ls ((r.map (pz_v (pz_rn σ δ h.length))).toList ++ rest0) (pz_back h σ (hs'.map (pz_rc (pz_rn σ δ h.length)))) 0 0) : pz_W M d 0 0 n0 Post pc ls st h 0 0 := by
  subst hst
  exact pz_callV hlk hcv (pz_dec hM i hi) hT σ δ hdd hnp hcl hcq hb ⟨hpk, hnd, hl1, hl2⟩ hrs hw (Nat.le_refl 0) (Nat.le_refl 0)
/-- a call of a static method -/
theorem pz_cs {d' np idx : Nat} {hs : pz_H} {rest0 asc : List Value} {inf : List Nat} {cv : Value} (hM : pz_okM M = true) (i : Nat) (hi : pz_at M.2.2.2.2 i = some (pc, .invokestatic idx, 3, inf, cv)) (hlk : Cond.methodLink M.1.cls idx M'.1 ∈ pz_gw) (hcv : pz_CS M' np) (σ δ : List Nat) (hT : pz_T M' d' 0 0 asc hs Post') (hdd : d' + 1 ≤ d) (hnp : asc.length = np)
    (hpk : pz_pick h σ = some (hs.map (pz_rc (pz_rn σ δ h.length)))) (hnd : va_nd σ = true) (hl1 : σ.length ≤ 500) (hl2 : δ.length ≤ 500) (hrs : (rest0.map fun v => v.category).sum ≤ 8) (hst : (asc.map (pz_v (pz_rn σ δ h.length))).reverse ++ rest0 = st)
    (hw : ∀ r hs', Post' r hs' → hs'.length = hs.length ∧ pz_W M d 0 0 n0 Post (pc + 3) ls ((r.map (pz_v (pz_rn σ δ h.length))).toList ++ rest0) (pz_back h σ (hs'.map (pz_rc (pz_rn σ δ h.length)))) 0 0) : pz_W M d 0 0 n0 Post pc ls st h 0 0 := by
  subst hst
  exact pz_callS hlk hcv (pz_dec hM i hi) hT σ δ hdd hnp ⟨hpk, hnd, hl1, hl2⟩ hrs hw (Nat.le_refl 0) (Nat.le_refl 0)
/-- behind a call whose end is one state -/
theorem pz_one {hs hs2 : pz_H} {rv : Option Value} {ρ : Nat → Nat} {σ : List Nat} {rest0 st2 : List Value} {h2 : pz_H} {pc2 : Nat} (hl : hs2.length = hs.length) (hst : (rv.map (pz_v ρ)).toList ++ rest0 = st2) (hh : pz_back h σ (hs2.map (pz_rc ρ)) = h2) (hw : pz_W M d 0 0 n0 Post pc2 ls st2 h2 0 0) : ∀ r hs', (r = rv ∧ hs' = hs2) → hs'.length = hs.length ∧ pz_W M d 0 0 n0 Post pc2 ls ((r.map (pz_v ρ)).toList ++ rest0) (pz_back h σ (hs'.map (pz_rc ρ))) 0 0 := by
  rintro r hs' ⟨rfl, rfl⟩
  refine ⟨hl, ?_⟩
  rw [hst, hh]
  exact hw
end
section
variable {P : Nat → Prop} {x k : Int32} {t dft : Nat} {r : List (Int32 × Nat)}
theorem pz_s1 (h : P dft) : pz_sel P (pz_ch x [] dft) := h
theorem pz_s2 (h1 : x = k → P t) (h2 : ¬ x = k → pz_sel P (pz_ch x r dft)) : pz_sel P (pz_ch x ((k, t) :: r) dft) := by
  cases r with
  | nil => exact ⟨h1, h2⟩
  | cons a r => obtain ⟨k2, t2⟩ := a; exact ⟨h1, h2⟩
end
/-- an index that was asked -/
theorem pz_inA {x : Int32} {n : Nat} (m : Int32) (hm : m.toInt = n) (h1 : ¬ x < 0) (h2 : ¬ m ≤ x) : vp_in x n := by
  rw [vp_in_iff]
  have a1 := Int32.not_lt.mp h1
  have a2 := Int32.not_le.mp h2
  rw [Int32.le_iff_toInt_le] at a1
  rw [Int32.lt_iff_toInt_lt] at a2
  have : (0 : Int32).toInt = 0 := by decide
  omega
/-- a contract with one end -/
theorem pz_en2 {M : pz_M} {d mc ms : Nat} {av : List Value} {h : pz_H} {rv : Option Value} {h2 : pz_H} (hy : (plainFor M.1 && !pz_xr M) = true) (hlen : (lg_sl av).length ≤ M.2.2.1) (w : ∀ P : Option Value → pz_H → Prop, P rv h2 → pz_W M d mc ms h.length P 0 (lv_args 0 av) [] h 0 0) : pz_T M d mc ms av h (fun r h => r = rv ∧ h = h2) :=
  pz_en hy hlen (w _ ⟨rfl, rfl⟩)
theorem pz_nb {v : Int32} (h : v = 0 ∨ v = 1) : narrow .boolean (.int v) = .int v := by
  rcases h with h | h <;> subst h <;> decide
theorem pz_ral {M : pz_M} {d n0 : Nat} {Post : Option Value → pz_H → Prop} {pc : Nat} {ls : pz_L} {st : List Value} {h : pz_H} (hM : pz_okM M = true) (i : Nat) {inf : List Nat} {cv : Value} (j : Nat) {N : Nat} {f : Nat → Int64} (hj : pz_rl j = some (N, f)) (hi : pz_at M.2.2.2.2 i = some (pc, .arraylength, 1, inf, cv)) (hw : pz_W M d 0 0 n0 Post (pc + 1) ls (.int (Int32.ofNat N) :: st) h 0 0) : pz_W M d 0 0 n0 Post pc ls (.ref (1000 + j) :: st) h 0 0 := by
  intro bs D kA ad ad0 p l e s m args below meth c A H locs lc X hag hP hD hS hl
  have hT := X.2.2.2.2.2.2.2.2.2.2.2.2.2.2.2.1 _ _ _ hj
  exact va_tlen X.1 X.2.1 (hT.narrow X.2.2.2.2.2.2.2.2.2.2.1) hS rfl (pz_dec hM i hi) (hw bs D kA ad ad0 p l e s m args below meth c A H locs lc X hag hP hD hS hl)
/-! ===== the reference's text of words ===== -/
section
variable {M : pz_M} {d n0 : Nat} {Post : Option Value → pz_H → Prop} {pc : Nat} {ls : pz_L} {st : List Value} {h : pz_H} {inf : List Nat} {cv : Value}
theorem pz_X_str {bs : Nat} {D : va_G} {kA : Nat → ClassId} {ad : Nat → Nat} {p : Program} {s : State} {m : MethodId} {args : Array Value} {meth : Method} {c : Code} {A : Nat → Prop} (X : pz_X M bs D kA ad p s m args meth c A) : pz_str bs ad s s.heap := X.2.2.2.2.2.2.2.2.2.2.2.2.2.2.2.2
theorem pz_sldc (hM : pz_okM M = true) (i : Nat) (hi : pz_at M.2.2.2.2 i = some (pc, .ldc 151, 2, inf, cv)) (hc : M.1.cls = "HuntingRudderModel") (hw : pz_W M d 0 0 n0 Post (pc + 2) ls (.ref 1005 :: st) h 0 0) : pz_W M d 0 0 n0 Post pc ls st h 0 0 := by
  intro bs D kA ad ad0 p l e s m args below meth c A H locs lc X hag hP hD hS hl
  exact va_ldcS X.1 X.2.1 (hc ▸ X.2.2.2.2.1) (pz_X_str X).1 (pz_dec hM i hi) (hw bs D kA ad ad0 p l e s m args below meth c A H locs lc X hag hP hD hS hl)
theorem pz_sval (hM : pz_okM M = true) (i : Nat) {idx : Nat} (hi : pz_at M.2.2.2.2 i = some (pc, .getfield idx, 3, inf, cv)) (hlk : Cond.fieldLink M.1.cls idx "java/lang/String" "value" "[B" ∈ pz_gw) (hw : pz_W M d 0 0 n0 Post (pc + 3) ls (.ref 1006 :: st) h 0 0) : pz_W M d 0 0 n0 Post pc ls (.ref 1005 :: st) h 0 0 := by
  intro bs D kA ad ad0 p l e s m args below meth c A H locs lc X hag hP hD hS hl
  exact vk_getf X.1 X.2.1 ((pz_X_str X).2.2.1.narrow X.2.2.2.2.2.2.2.2.2.2.1) hS X.2.2.2.2.1 (X.2.2.2.2.2.1 _ hlk) (fun _ h9 => h9) (pz_dec hM i hi) (hw bs D kA ad ad0 p l e s m args below meth c A H locs lc X hag hP hD hS hl)
theorem pz_scod (hM : pz_okM M = true) (i : Nat) {idx : Nat} (hi : pz_at M.2.2.2.2 i = some (pc, .getfield idx, 3, inf, cv)) (hlk : Cond.fieldLink M.1.cls idx "java/lang/String" "coder" "B" ∈ pz_gw) (hw : pz_W M d 0 0 n0 Post (pc + 3) ls (.int 0 :: st) h 0 0) : pz_W M d 0 0 n0 Post pc ls (.ref 1005 :: st) h 0 0 := by
  intro bs D kA ad ad0 p l e s m args below meth c A H locs lc X hag hP hD hS hl
  exact vk_getf X.1 X.2.1 ((pz_X_str X).2.2.2.1.narrow X.2.2.2.2.2.2.2.2.2.2.1) hS X.2.2.2.2.1 (X.2.2.2.2.2.1 _ hlk) (fun _ h9 => h9) (pz_dec hM i hi) (hw bs D kA ad ad0 p l e s m args below meth c A H locs lc X hag hP hD hS hl)
theorem pz_sbyt (hM : pz_okM M = true) (i : Nat) {k : Int32} (hi : pz_at M.2.2.2.2 i = some (pc, .baload, 1, inf, cv)) (hk : vp_in k 54) (hw : pz_W M d 0 0 n0 Post (pc + 1) ls (.int (pz_wb.getD k.toNatClampNeg 0) :: st) h 0 0) : pz_W M d 0 0 n0 Post pc ls (.int k :: .ref 1006 :: st) h 0 0 := by
  intro bs D kA ad ad0 p l e s m args below meth c A H locs lc X hag hP hD hS hl
  exact va_tb X.1 X.2.1 ((pz_X_str X).2.2.2.2.1.narrow X.2.2.2.2.2.2.2.2.2.2.1) hS hk rfl (pz_dec hM i hi) (hw bs D kA ad ad0 p l e s m args below meth c A H locs lc X hag hP hD hS hl)
theorem pz_slen (hM : pz_okM M = true) (i : Nat) (hi : pz_at M.2.2.2.2 i = some (pc, .arraylength, 1, inf, cv)) (hw : pz_W M d 0 0 n0 Post (pc + 1) ls (.int 54 :: st) h 0 0) : pz_W M d 0 0 n0 Post pc ls (.ref 1006 :: st) h 0 0 := by
  intro bs D kA ad ad0 p l e s m args below meth c A H locs lc X hag hP hD hS hl
  exact va_tlen X.1 X.2.1 ((pz_X_str X).2.2.2.2.1.narrow X.2.2.2.2.2.2.2.2.2.2.1) hS (by decide) (pz_dec hM i hi) (hw bs D kA ad ad0 p l e s m args below meth c A H locs lc X hag hP hD hS hl)
theorem pz_scom (hM : pz_okM M = true) (i : Nat) {idx : Nat} (hi : pz_at M.2.2.2.2 i = some (pc, .getstatic idx, 3, inf, cv)) (hlk : Cond.fieldLink M.1.cls idx "java/lang/String" "COMPACT_STRINGS" "Z" ∈ pz_gw) (hw : pz_W M d 0 0 n0 Post (pc + 3) ls (.int 1 :: st) h 0 0) : pz_W M d 0 0 n0 Post pc ls st h 0 0 := by
  intro bs D kA ad ad0 p l e s m args below meth c A H locs lc X hag hP hD hS hl
  exact va_gets X.1 X.2.1 ((pz_X_str X).2.2.2.2.2.1.narrow X.2.2.2.2.2.2.2.2.2.2.1) hS X.2.2.2.2.1 (X.2.2.2.2.2.1 _ hlk) (fun _ h9 => h9) (pz_dec hM i hi) (hw bs D kA ad ad0 p l e s m args below meth c A H locs lc X hag hP hD hS hl)
theorem pz_sfmt (hM : pz_okM M = true) (i : Nat) {idx : Nat} (hi : pz_at M.2.2.2.2 i = some (pc, .getstatic idx, 3, inf, cv)) (hlk : Cond.fieldLink M.1.cls idx "jdk/internal/util/Preconditions" "SIOOBE_FORMATTER" "Ljava/util/function/BiFunction;" ∈ pz_gw) (hw0 : pz_W M d 0 0 n0 Post (pc + 3) ls (.null :: st) h 0 0) (hw1 : pz_W M d 0 0 n0 Post (pc + 3) ls (.ref 1007 :: st) h 0 0) : pz_W M d 0 0 n0 Post pc ls st h 0 0 := by
  intro bs D kA ad ad0 p l e s m args below meth c A H locs lc X hag hP hD hS hl
  rcases (pz_X_str X).2.2.2.2.2.2.1 with hz | hz
  · exact va_gets X.1 X.2.1 (hz.narrow X.2.2.2.2.2.2.2.2.2.2.1) hS X.2.2.2.2.1 (X.2.2.2.2.2.1 _ hlk) (fun _ h9 => h9) (pz_dec hM i hi) (hw0 bs D kA ad ad0 p l e s m args below meth c A H locs lc X hag hP hD hS hl)
  · exact va_gets X.1 X.2.1 (hz.narrow X.2.2.2.2.2.2.2.2.2.2.1) hS X.2.2.2.2.1 (X.2.2.2.2.2.1 _ hlk) (fun _ h9 => h9) (pz_dec hM i hi) (hw1 bs D kA ad ad0 p l e s m args below meth c A H locs lc X hag hP hD hS hl)
end
/-- a call of a method of the text of words -/
theorem pz_cvs {M M' : pz_M} {d d' n0 pc np idx : Nat} {Post Post' : Option Value → pz_H → Prop} {ls : pz_L} {st : List Value} {h : pz_H} {rest0 asc : List Value} {inf : List Nat} {cv : Value} (hM : pz_okM M = true) (i : Nat) (hi : pz_at M.2.2.2.2 i = some (pc, .invokevirtual idx, 3, inf, cv)) (hlk : Cond.methodLink M.1.cls idx M'.1 ∈ pz_gw) (hcv : pz_CV M' np) (hT : pz_T M' d' 0 0 (.ref 1005 :: asc) [] Post') (hdd : d' + 1 ≤ d) (hnp : asc.length = np) (hcq : "java/lang/String" = M'.1.cls) (hrs : (rest0.map fun v => v.category).sum ≤ 8) (hst : ((.ref 1005 :: asc).map (pz_v (pz_rn [] [] h.length))).reverse ++ rest0 = st)
    (hw : ∀ r hs', Post' r hs' → hs'.length = 0 ∧ pz_W M d 0 0 n0 Post (pc + 3) ls ((r.map (pz_v (pz_rn [] [] h.length))).toList ++ rest0) (pz_back h [] (hs'.map (pz_rc (pz_rn [] [] h.length)))) 0 0) : pz_W M d 0 0 n0 Post pc ls st h 0 0 := by
  subst hst
  intro bs D kA ad ad0 p l e s m args below meth c A H locs lc X hag hP hD hS hl
  obtain ⟨c1, c2, c3, c4, c5, c6⟩ := hcv
  have hts := X.2.2.2.2.2.1
  have hc : pz_Cut h [] [] [] := ⟨rfl, rfl, by decide, by decide⟩
  have hrec : ∃ cell : Cell, H[ad 1005]? = some cell ∧ cell.vm.isStatics = false ∧ s.vm.findClass M'.1.cls = some cell.cls := by
    obtain ⟨cell, h1, h2, h3, -⟩ := ((pz_X_str X).2.1.narrow X.2.2.2.2.2.2.2.2.2.2.1).kept hS.2.1
    exact ⟨cell, h1, h2, hcq ▸ h3⟩
  refine pz_after0 (hs := []) (σ := []) (δ := []) (mc' := 0) (ms' := 0) (aa := ((Value.ref 1005 :: asc).map (pz_v (fun k => ad (pz_rn [] [] h.length k)))).toArray) (rest0 := rest0) X hag hP hD hS hl hc ?_ hw
  have hst : ((((Value.ref 1005 :: asc).map (pz_v (pz_rn [] [] h.length))).reverse ++ rest0).map (pz_v ad)) = (asc.map (pz_v (fun k => ad (pz_rn [] [] h.length k)))).reverse ++ Value.ref (ad 1005) :: rest0.map (pz_v ad) := by
    rw [List.map_append, List.map_reverse, pz_vs_vs]
    have e1 : pz_rn [] [] h.length 1005 = 1005 := rfl
    simp [pz_v, e1]
  rw [hst]
  exact va_runV (b := ad 1005) (As := asc.map (pz_v (fun k => ad (pz_rn [] [] h.length k)))) (rest := rest0.map (pz_v ad)) (ret := M'.2.2.2.1) (n := np) ⟨X.1, X.2.1, X.2.2.1, X.2.2.2.2.1, hts⟩ (hT l bs D kA (fun k => ad (pz_rn [] [] h.length k)) H.size)
    ⟨callB_of np hts (pz_good M' c4) rfl rfl rfl (hts _ c3) (hts _ hlk) c5 ⟨hdd, pz_room hdd c6⟩, hts _ c1, hts _ c2⟩ ⟨pz_blind, hrec, fun U hU hW => ⟨rfl, pz_pre X hP hD hS hc hU hW⟩⟩ rfl (by rw [List.length_map]; exact hnp) hl.1 rfl (by rw [pz_cats]; show 2 * 0 + _ ≤ 8; omega) (pz_dec hM i hi) ⟨Nat.le_refl 0, Nat.le_refl 0⟩
