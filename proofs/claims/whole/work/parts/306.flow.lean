/-! ===== new cells ===== -/
def pz_fv (j : Nat) (v : Value) : Bool := match v with
  | .ref k => Nat.blt k j || Nat.ble 500 k
  | _ => true
def pz_fc (j : Nat) (c : pz_C) : Bool := match c with
  | .inl _ => true
  | .inr o => o.2.all (pz_fv j)
/-- no reference from j on (but those that are no cells of ours) -/
def pz_fresh (j : Nat) (ls : pz_L) (st : List Value) (h : pz_H) : Bool := Nat.blt j 500 && (h.all (pz_fc j) && (ls.all (fun q => pz_fv j q.2) && st.all (pz_fv j)))
/-- ad, but for the places from j on below 500 -/
def pz_like (j : Nat) (ad ad' : Nat → Nat) : Prop := ∀ i, (i < j ∨ 500 ≤ i) → ad' i = ad i
theorem pz_fv_eq {j : Nat} {ad ad' : Nat → Nat} {v : Value} (hl : pz_like j ad ad') (h : pz_fv j v = true) : pz_v ad' v = pz_v ad v := by
  cases v with
  | ref k =>
    simp only [pz_fv, Bool.or_eq_true] at h
    have : k < j ∨ 500 ≤ k := h.elim (fun h => Or.inl (Nat.blt_eq.mp h)) (fun h => Or.inr (Nat.le_of_ble_eq_true h))
    simp only [pz_v]
    rw [hl k this]
  | _ => rfl
theorem pz_fvs_eq {j : Nat} {ad ad' : Nat → Nat} {vs : List Value} (hl : pz_like j ad ad') (h : vs.all (pz_fv j) = true) : vs.map (pz_v ad') = vs.map (pz_v ad) :=
  List.map_congr_left (fun v hv => pz_fv_eq hl (List.all_eq_true.mp h v hv))
theorem pz_fls_eq {j : Nat} {ad ad' : Nat → Nat} {ls : pz_L} (hl : pz_like j ad ad') (h : ls.all (fun q => pz_fv j q.2) = true) : pz_l ad' ls = pz_l ad ls :=
  List.map_congr_left (fun v hv => by rw [pz_fv_eq hl (List.all_eq_true.mp h v hv)])
theorem pz_fc_eq {j : Nat} {ad ad' : Nat → Nat} {kA : Nat → ClassId} {c : pz_C} (hl : pz_like j ad ad') (h : pz_fc j c = true) : pz_e ad' kA c = pz_e ad kA c := by
  cases c with
  | inl a => rfl
  | inr o =>
    show Sum.inr (o.1, o.2.map (pz_v ad')) = Sum.inr (o.1, o.2.map (pz_v ad))
    rw [pz_fvs_eq hl h]
theorem pz_fw_eq {j : Nat} {ad ad' : Nat → Nat} {kA : Nat → ClassId} {h : pz_H} (hl : pz_like j ad ad') (hj : h.length ≤ j) (hf : h.all (pz_fc j) = true) : pz_w ad' kA h = pz_w ad kA h := by
  apply List.ext_getElem?
  intro i
  simp only [pz_w, List.getElem?_mapIdx]
  cases hc : h[i]? with
  | none => rfl
  | some c =>
    have hi : i < h.length := (List.getElem?_eq_some_iff.mp hc).1
    simp only [Option.map_some]
    rw [hl i (Or.inl (Nat.lt_of_lt_of_le hi hj)), pz_fc_eq hl (List.all_eq_true.mp hf c (List.mem_of_getElem? hc))]
theorem pz_amb_like {j bs : Nat} {ad ad' : Nat → Nat} {U : State} {H : Heap} (hl : pz_like j ad ad') (h : pz_amb bs ad U H) : pz_amb bs ad' U H := by
  obtain ⟨h1, h2, h3, h4, h5⟩ := h
  refine ⟨h1, fun i hi => ?_, fun i n f hf => ?_, fun i n f hf => ?_, ?_⟩
  · rw [hl (1000 + i) (Or.inr (by omega))]; exact h2 i hi
  · rw [hl (1000 + i) (Or.inr (by omega))]; exact h3 i n f hf
  · rw [hl (1000 + i) (Or.inr (by omega))]; exact h4 i n f hf
  · unfold pz_str pz_thr
    rw [hl 1005 (Or.inr (by omega)), hl 1006 (Or.inr (by omega)), hl 1007 (Or.inr (by omega)), hl 1008 (Or.inr (by omega)), hl 1009 (Or.inr (by omega))]
    exact h5
theorem pz_X_like {M : pz_M} {bs j : Nat} {D : va_G} {kA : Nat → ClassId} {ad ad' : Nat → Nat} {p : Program} {s : State} {m : MethodId} {args : Array Value} {meth : Method} {c : Code} {A : Nat → Prop} (hl : pz_like j ad ad') (X : pz_X M bs D kA ad p s m args meth c A) : pz_X M bs D kA ad' p s m args meth c A := by
  obtain ⟨x1, x2, x3, x4, x5, x6, x7, x8, x9, x10, x11, x12, x13⟩ := X
  exact ⟨x1, x2, x3, x4, x5, x6, x7, x8, x9, x10, x11, x12, pz_amb_like hl x13⟩
theorem pz_like_up {j q : Nat} {ad : Nat → Nat} (hj : j < 500) : pz_like j ad (va_up ad j q) := by
  intro i hi
  have : ¬ i = j := by omega
  simp [va_up, this]
def pz_o_new (ci N : Nat) (fs : List Value) : pz_O := fun ls st h k n =>
  if pz_fresh h.length ls st h = true then some ([], ls, .ref h.length :: st, h ++ [.inr (ci, fs)], k + 1, n + N) else none
theorem so_new {M : pz_M} {pc ci N idx : Nat} {q : vw_C} {fs : List Value} (hc : vwCl[ci]? = some q) (hN : q.2.2 = N) (hl1 : Cond.classLink M.1.cls idx q.1 ∈ pz_gw) (hl2 : Cond.instantiable q.1 N ∈ pz_gw) (hl3 : Cond.initialized q.1 ∈ pz_gw)
    (hfs : ∀ ty : Nat → FieldType, (∀ k, k < q.2.2 → parseFieldDescriptor (q.2.1 k).2.2.1 = some (ty k)) → ∀ j, j < N → defaultValue (ty j) = vp_V fs j) (hnr : ∀ ad, fs.map (pz_v ad) = fs) (hd : decode M.2.1 pc = .ok (.new idx, 3)) : pz_S M pc 3 (pz_o_new ci N fs) := by
  intro d mc ms n0 Post ls st h k n cs ls' st' h' k' n' hd1 hf hcs hk hn hw
  unfold pz_o_new at hf
  split at hf
  · rename_i hfr
    cases hf
    intro bs D kA ad ad0 p l e s m args below meth c A H locs lc X hag hP hD hS hl
    simp only [pz_fresh, Bool.and_eq_true] at hfr
    obtain ⟨f1, f2, f3, f4⟩ := hfr
    have f1 : h.length < 500 := Nat.blt_eq.mp f1
    obtain ⟨ty0, hty, hnm⟩ := pz_cty _ _ hc
    subst hN
    refine va_new (ci := ci) (fs := fs) (C := q.1) (T := q.2.1) (N := q.2.2) X.1 X.2.1 X.2.2.2.2.2.1 (pz_cin _ _ hc) ty0 hty X.2.2.2.2.1 (X.2.2.2.2.2.1 _ hl1) (X.2.2.2.2.2.1 _ hl2) (X.2.2.2.2.2.1 _ hl3) X.2.2.2.2.2.2.2.2.1 hP hD hS X.2.2.2.2.2.2.2.2.2.1 hc (hfs ty0 hty) hk hn hd (fun z H1 hP1 hD1 hS1 => ?_)
    have hlk := pz_like_up (q := z) (ad := ad) f1
    have hww : pz_w ad kA h ++ [(z, .inr (ci, fs))] = pz_w (va_up ad h.length z) kA (h ++ [.inr (ci, fs)]) := by
      rw [← pz_w_push, pz_fw_eq hlk (Nat.le_refl _) f2]
      show _ = _ ++ [(va_up ad h.length z h.length, Sum.inr (ci, fs.map (pz_v _)))]
      rw [hnr]
      simp [va_up]
    rw [hww] at hP1 hD1
    have := hw bs D kA (va_up ad h.length z) ad0 p l e s m args below meth c A H1 locs lc (pz_X_like hlk X) ⟨by have := hag.1; simp; omega, fun i hi => by have g := hag.1; rw [List.length_append, List.length_singleton] at hi; rw [show va_up ad h.length z i = ad i by simp [va_up]; omega]; exact hag.2 i (by omega)⟩ hP1 hD1 hS1 (by rw [pz_fls_eq hlk f3]; exact hl)
    rw [List.map_cons, pz_fvs_eq hlk f4] at this
    have e1 : pz_v (va_up ad h.length z) (.ref h.length) = .ref z := by simp [pz_v, va_up]
    rw [e1] at this
    exact this
  · cases hf
def pz_ty (t : Nat) : FieldType := match t with
  | 0 => .int
  | 1 => .long
  | 2 => .byte
  | _ => .boolean
def pz_dfa (t : Nat) : (Nat → Int32) ⊕ (Nat → Int64) ⊕ (Nat → UInt32) ⊕ (Nat → UInt64) ⊕ (Nat → Option Nat) := match t with
  | 1 => .inr (.inl (fun _ => 0))
  | _ => .inl (fun _ => 0)
def pz_o_newa (t N : Nat) : pz_O := fun ls st h k n => match st with
  | .int x :: r => if pz_fresh h.length ls r h = true ∧ Nat.ble N 1000000 = true then some ([x.toNatClampNeg = N ∧ ¬ x < 0], ls, .ref h.length :: r, h ++ [.inl (t, N, pz_dfa t)], k + 1, n + N) else none
  | _ => none
theorem so_newa {M : pz_M} {pc t N : Nat} {at0 : ArrayType} (ht : t < 4) (hat : newarray.typeOf at0 = pz_ty t) (hl1 : Cond.arrayClass (newarray.typeOf at0) ∈ pz_gw) (hd : decode M.2.1 pc = .ok (.newarray at0, 2)) : pz_S M pc 2 (pz_o_newa t N) := by
  intro d mc ms n0 Post ls st h k n cs ls' st' h' k' n' hd1 hf hcs hk hn hw
  unfold pz_o_newa at hf
  split at hf
  · rename_i x r
    split at hf
    · rename_i hfr
      obtain ⟨hfr, hNb⟩ := hfr
      have hNb : N ≤ 1000000 := Nat.le_of_ble_eq_true hNb
      cases hf
      intro bs D kA ad ad0 p l e s m args below meth c A H locs lc X hag hP hD hS hl
      simp only [pz_fresh, Bool.and_eq_true] at hfr
      obtain ⟨f1, f2, f3, f4⟩ := hfr
      have f1 : h.length < 500 := Nat.blt_eq.mp f1
      have hcell : ∀ cA : ClassId, vp_cell cA (N, pz_dfa t) = arrV cA N (fun _ => defaultValue (pz_ty t)) := by
        match t, ht with
        | 0, _ => intro cA; rfl
        | 1, _ => intro cA; rfl
        | 2, _ => intro cA; rfl
        | 3, _ => intro cA; rfl
      have hby : N * componentBytes (pz_ty t) ≤ 536870912 := by
        have : componentBytes (pz_ty t) ≤ 8 := by
          match t, ht with
          | 0, _ => decide
          | 1, _ => decide
          | 2, _ => decide
          | 3, _ => decide
        calc N * componentBytes (pz_ty t) ≤ 1000000 * 8 := Nat.mul_le_mul hNb this
          _ ≤ 536870912 := by decide
      refine va_newa (a0 := (N, pz_dfa t)) X.1 X.2.1 (X.2.2.2.2.2.1 _ hl1) hat X.2.2.2.2.2.2.2.2.1 hP hD hS X.2.2.2.2.2.2.2.2.2.1 hcell hcs.2 hcs.1 hby hk hn hd (fun z cA H1 hK1 hP1 hD1 hS1 => ?_)
      have hcA : cA = kA t := by
        have g1 := (hK1.2 4 (cA, pz_ty t) rfl).2
        match t, ht with
        | 0, _ =>
          have g2 := (X.2.2.2.2.2.2.2.2.1.2 0 (kA 0, .int) rfl).2
          exact Option.some.inj (Eq.trans (Eq.symm g1) g2)
        | 1, _ =>
          have g2 := (X.2.2.2.2.2.2.2.2.1.2 1 (kA 1, .long) rfl).2
          exact Option.some.inj (Eq.trans (Eq.symm g1) g2)
        | 2, _ =>
          have g2 := (X.2.2.2.2.2.2.2.2.1.2 2 (kA 2, .byte) rfl).2
          exact Option.some.inj (Eq.trans (Eq.symm g1) g2)
        | 3, _ =>
          have g2 := (X.2.2.2.2.2.2.2.2.1.2 3 (kA 3, .boolean) rfl).2
          exact Option.some.inj (Eq.trans (Eq.symm g1) g2)
      subst hcA
      have hlk := pz_like_up (q := z) (ad := ad) f1
      have hww : pz_w ad kA h ++ [(z, .inl (kA t, N, pz_dfa t))] = pz_w (va_up ad h.length z) kA (h ++ [.inl (t, N, pz_dfa t)]) := by
        rw [← pz_w_push, pz_fw_eq hlk (Nat.le_refl _) f2]
        show _ = _ ++ [(va_up ad h.length z h.length, Sum.inl (kA t, N, pz_dfa t))]
        simp [va_up]
      rw [hww] at hP1 hD1
      have := hw bs D kA (va_up ad h.length z) ad0 p l e s m args below meth c A H1 locs lc (pz_X_like hlk X) ⟨by have := hag.1; simp; omega, fun i hi => by have g := hag.1; rw [List.length_append, List.length_singleton] at hi; rw [show va_up ad h.length z i = ad i by simp [va_up]; omega]; exact hag.2 i (by omega)⟩ hP1 hD1 hS1 (by rw [pz_fls_eq hlk f3]; exact hl)
      rw [List.map_cons, pz_fvs_eq hlk f4] at this
      have e1 : pz_v (va_up ad h.length z) (.ref h.length) = .ref z := by simp [pz_v, va_up]
      rw [e1] at this
      exact this
    · cases hf
  · cases hf
/-- Object's own constructor -/
def pz_o_oi : pz_O := fun ls st h k n => match st with
  | .ref _ :: r => if Nat.ble (r.map fun v => v.category).sum 40 = true then some ([], ls, r, h, k, n) else none
  | _ => none
theorem pz_cats (ad : Nat → Nat) (r : List Value) : ((r.map (pz_v ad)).map fun v => v.category) = r.map fun v => v.category := by
  rw [List.map_map]
  exact List.map_congr_left (fun v _ => pz_v_cat ad v)
theorem so_oi {M : pz_M} {pc idx : Nat} (hl1 : Cond.methodLink M.1.cls idx Lib.objectInit ∈ pz_gw) (hl2 : Cond.instanceMethod Lib.objectInit ∈ pz_gw) (hl3 : Cond.code Lib.objectInit ⟨#[0xb1]⟩ 1 none ∈ pz_gw) (hd : decode M.2.1 pc = .ok (.invokespecial idx, 3)) : pz_S M pc 3 pz_o_oi := by
  intro d mc ms n0 Post ls st h k n cs ls' st' h' k' n' hd1 hf hcs hk hn hw
  unfold pz_o_oi at hf
  split at hf
  · rename_i a r
    split at hf
    · rename_i hr
      have hr := Nat.le_of_ble_eq_true hr
      cases hf
      intro bs D kA ad ad0 p l e s m args below meth c A H locs lc X hag hP hD hS hl
      refine W.objInit (a := ad a) (rest := st'.map (pz_v ad)) X.1 X.2.1 X.2.2.2.2.1 (X.2.2.2.2.2.1 _ hl1) (X.2.2.2.2.2.1 _ hl2) (X.2.2.2.2.2.1 _ hl3) rfl (hl.1.trans X.2.2.1.symm) rfl hd hd1 ?_ (hw bs D kA ad ad0 p l e s m args below meth c A H locs lc X hag hP hD hS hl)
      rw [pz_cats]
      show 2 * 0 + _ + 12 ≤ 64 * d
      omega
    · cases hf
  · cases hf
/-- System.arraycopy between arrays of ints -/
def pz_o_cpy : pz_O := fun ls st h k n => match st with
  | .int c :: .int dp :: .ref b :: .int sp :: .ref a :: r => match pz_at h a, pz_at h b with
      | some (.inl (0, N, .inl f)), some (.inl (0, N1, .inl g)) => if Nat.ble (r.map fun v => v.category).sum 40 = true then some ([¬ sp < 0 ∧ ¬ dp < 0 ∧ ¬ c < 0 ∧ sp.toNatClampNeg + c.toNatClampNeg ≤ N ∧ dp.toNatClampNeg + c.toNatClampNeg ≤ N1], ls, r, pz_put h b (.inl (0, N1, .inl (va_cpy f g sp.toNatClampNeg dp.toNatClampNeg c.toNatClampNeg))), k, n) else none
      | _, _ => none
  | _ => none
theorem so_cpy {M : pz_M} {pc idx : Nat} (hl1 : Cond.methodLink M.1.cls idx arraycopyName ∈ pz_gw) (hl2 : Cond.native arraycopyName ∈ pz_gw) (hl3 : Cond.static arraycopyName ∈ pz_gw) (hl4 : Cond.initialized "java/lang/System" ∈ pz_gw) (hd : decode M.2.1 pc = .ok (.invokestatic idx, 3)) : pz_S M pc 3 pz_o_cpy := by
  intro d mc ms n0 Post ls st h k n cs ls' st' h' k' n' hd1 hf hcs hk hn hw
  unfold pz_o_cpy at hf
  split at hf
  · rename_i c0 dp b sp a r
    split at hf
    · rename_i N f N1 g hat hbt
      split at hf
      · rename_i hr
        have hr := Nat.le_of_ble_eq_true hr
        cases hf
        obtain ⟨q1, q2, q3, q4, q5⟩ := hcs
        intro bs D kA ad ad0 p l e s m args below meth c A H locs lc X hag hP hD hS hl
        refine va_copyi (ty := .int) X.1 X.2.1 (X.2.2.1.trans hl.1.symm) X.2.2.2.2.1 (X.2.2.2.2.2.1 _ hl1) (X.2.2.2.2.2.1 _ hl2) (X.2.2.2.2.2.1 _ hl3) (X.2.2.2.2.2.1 _ hl4) X.2.2.2.2.2.2.2.2.1 hP hD hS a b 0 0 (pz_w_get hat) (pz_w_get hbt) rfl rfl rfl q1 q2 q3 q4 q5 (fun _ _ => rfl) hd1 ?_ hd (fun H1 locs1 hP1 hD1 hS1 => ?_)
        · rw [pz_cats]
          have e1 : nativeFrameWords "java/lang/System" "arraycopy" 5 = 7 := by decide
          rw [e1]
          show _ ≤ 64 * d
          omega
        · have hset := pz_w_set (ad := ad) (kA := kA) (h := h) (i := b) (c := .inl (0, N1, .inl (va_cpy f g sp.toNatClampNeg dp.toNatClampNeg c0.toNatClampNeg)))
          exact hw bs D kA ad ad0 p l e s m args below meth c A H1 locs1 lc X (pz_ag_put hag) (by rw [← hset]; exact hP1) (by rw [← hset]; exact hD1) hS1 hl
      · cases hf
    · cases hf
  · cases hf
