/-! ===== fields, arrays, statics, new cells ===== -/
set_option maxRecDepth 100000 in
theorem pz_cin : ∀ (ci : Nat) (q : vw_C), vwCl[ci]? = some q → ∀ w ∈ u_ws q.1 q.2.1 q.2.2, w ∈ pz_gw := by
  intro ci q hq
  match ci, hq with
  | 0, hq => cases hq; decide +kernel
  | 1, hq => cases hq; decide +kernel
  | 2, hq => cases hq; decide +kernel
  | 3, hq => cases hq; decide +kernel
  | 4, hq => cases hq; decide +kernel
  | 5, hq => cases hq; decide +kernel
  | 6, hq => cases hq; decide +kernel
  | 7, hq => cases hq; decide +kernel
  | 8, hq => cases hq; decide +kernel
  | 9, hq => cases hq; decide +kernel
  | 10, hq => cases hq; decide +kernel
  | 11, hq => cases hq; decide +kernel
  | 12, hq => cases hq; decide +kernel
  | k + 13, hq => simp [vwCl] at hq
theorem pz_cty : ∀ (ci : Nat) (q : vw_C), vwCl[ci]? = some q → ∃ ty : Nat → FieldType, (∀ k, k < q.2.2 → parseFieldDescriptor (q.2.1 k).2.2.1 = some (ty k)) ∧ ∀ a, a < q.2.2 → ∀ b, b < q.2.2 → a ≠ b → (q.2.1 a).2.1 ≠ (q.2.1 b).2.1 := by
  intro ci q hq
  match ci, hq with
  | 0, hq => cases hq; exact ⟨tyX0, tyX0_ok, nmX0⟩
  | 1, hq => cases hq; exact ⟨tyX1, tyX1_ok, nmX1⟩
  | 2, hq => cases hq; exact ⟨tyX2, tyX2_ok, nmX2⟩
  | 3, hq => cases hq; exact ⟨tyX3, tyX3_ok, nmX3⟩
  | 4, hq => cases hq; exact ⟨tyX4, tyX4_ok, nmX4⟩
  | 5, hq => cases hq; exact ⟨tyX5, tyX5_ok, nmX5⟩
  | 6, hq => cases hq; exact ⟨tyX6, tyX6_ok, nmX6⟩
  | 7, hq => cases hq; exact ⟨tyX7, tyX7_ok, nmX7⟩
  | 8, hq => cases hq; exact ⟨tyX8, tyX8_ok, nmX8⟩
  | 9, hq => cases hq; exact ⟨tyX9, tyX9_ok, nmX9⟩
  | 10, hq => cases hq; exact ⟨tyX10, tyX10_ok, nmX10⟩
  | 11, hq => cases hq; exact ⟨tyX11, tyX11_ok, nmX11⟩
  | 12, hq => cases hq; exact ⟨tyX12, tyX12_ok, nmX12⟩
  | k + 13, hq => simp [vwCl] at hq
/-- getfield: class ci, field k -/
def pz_o_get (ci f : Nat) : pz_O := fun ls st h k n => match st with
  | .ref a :: r => match pz_at h a with
    | some (.inr (c, fs)) => if c = ci then match pz_at fs f with
      | some v => some ([], ls, v :: r, h, k, n)
      | none => none
      else none
    | _ => none
  | _ => none
theorem so_get {M : pz_M} {pc ci f idx : Nat} {q : vw_C} (hc : vwCl[ci]? = some q) (hf0 : f < q.2.2) (hlk : Cond.fieldLink M.1.cls idx (q.2.1 f).1 (q.2.1 f).2.1 (q.2.1 f).2.2.1 ∈ pz_gw) (hd : decode M.2.1 pc = .ok (.getfield idx, 3)) : pz_S M pc 3 (pz_o_get ci f) := by
  intro d mc ms n0 Post ls st h k n cs ls' st' h' k' n' hd1 hf hcs hk hn hw
  unfold pz_o_get at hf
  split at hf
  · rename_i a r
    split at hf
    · rename_i c1 fs hat
      split at hf
      · rename_i hci
        subst hci
        split at hf
        · rename_i v hv
          cases hf
          intro bs D kA ad ad0 p l e s m args below meth c A H locs lc X hag hP hD hS hl
          rw [pz_at_eq] at hv
          refine va_get (D := D) (ci := c1) (v := pz_v ad v) (C := q.1) (T := q.2.1) (N := q.2.2) X.1 X.2.1 X.2.2.2.2.2.1 (pz_cin _ _ hc) X.2.2.2.2.1 X.2.2.2.2.2.2.2.2.1 hP a (pz_w_get hat) hc f hf0 (X.2.2.2.2.2.1 _ hlk) (fun _ h9 => h9) ?_ hd (hw bs D kA ad ad0 p l e s m args below meth c A H locs lc X hag hP hD hS hl)
          show (fs.map (pz_v ad))[f]? = _
          rw [List.getElem?_map, hv]
          rfl
        · cases hf
      · cases hf
    · cases hf
  · cases hf
theorem so_getX {M : pz_M} {pc len ci f : Nat} (hc : vwCl[ci]? = none) : pz_S M pc len (pz_o_get ci f) := by
  intro d mc ms n0 Post ls st h k n cs ls' st' h' k' n' hd1 hf hcs hk hn hw
  unfold pz_o_get at hf
  split at hf
  · rename_i a r
    split at hf
    · rename_i c1 fs hat
      split at hf
      · rename_i hci
        subst hci
        intro bs D kA ad ad0 p l e s m args below meth c A H locs lc X hag hP hD hS hl
        obtain ⟨r1, h1, -⟩ := hP a _ (pz_w_get hat)
        rw [hc] at h1
        cases h1
      · cases hf
    · cases hf
  · cases hf
/-- a value for a field of a type: 0 int, 1 boolean, 2 long, 3 a reference -/
def pz_fit (t : Nat) (v : Value) : Option (List Prop) := match t, v with
  | 0, .int _ => some []
  | 1, .int x => some [x = 0 ∨ x = 1]
  | 2, .long _ => some []
  | 3, .ref _ => some []
  | _, _ => none
def pz_tc (ty : FieldType) : Nat := match ty with
  | .int => 0
  | .boolean => 1
  | .long => 2
  | .object _ => 3
  | .array _ => 3
  | _ => 9
theorem pz_fit_ok {ty : FieldType} {v : Value} {cs : List Prop} {ad : Nat → Nat} (h : pz_fit (pz_tc ty) v = some cs) (hcs : pz_all cs) : narrow ty (pz_v ad v) = pz_v ad v ∧ fits ty (pz_v ad v) = true := by
  cases ty <;> cases v <;> simp [pz_tc, pz_fit] at h <;> subst h <;> try exact ⟨rfl, rfl⟩
  rcases hcs with h | h <;> subst h
  · exact ⟨(by decide : narrow .boolean (.int 0) = .int 0), (by decide : fits .boolean (.int 0) = true)⟩
  · exact ⟨(by decide : narrow .boolean (.int 1) = .int 1), (by decide : fits .boolean (.int 1) = true)⟩

def pz_o_put (ci f t : Nat) : pz_O := fun ls st h k n => match st with
  | v :: .ref a :: r => match pz_at h a with
    | some (.inr (c, fs)) => if c = ci ∧ f < fs.length then match pz_fit t v with
      | some cs => some (cs, ls, r, pz_put h a (.inr (ci, pz_put fs f v)), k, n)
      | none => none
      else none
    | _ => none
  | _ => none
theorem so_put {M : pz_M} {pc ci f idx t : Nat} {q : vw_C} {ty : FieldType} (hc : vwCl[ci]? = some q) (hf0 : f < q.2.2) (hlk : Cond.fieldLink M.1.cls idx (q.2.1 f).1 (q.2.1 f).2.1 (q.2.1 f).2.2.1 ∈ pz_gw) (hpd : parseFieldDescriptor (q.2.1 f).2.2.1 = some ty) (ht : pz_tc ty = t)
    (hfin : (q.2.1 f).2.2.2 = false ∨ ((q.2.1 f).2.2.2 = true ∧ M.1.name = "<init>" ∧ (q.2.1 f).1 = M.1.cls)) (hd : decode M.2.1 pc = .ok (.putfield idx, 3)) : pz_S M pc 3 (pz_o_put ci f t) := by
  intro d mc ms n0 Post ls st h k n cs ls' st' h' k' n' hd1 hf hcs hk hn hw
  subst ht
  unfold pz_o_put at hf
  split at hf
  · rename_i v a r
    split at hf
    · rename_i c1 fs hat
      split at hf
      · rename_i hci
        obtain ⟨hci, hfl⟩ := hci
        subst hci
        split at hf
        · rename_i cs1 hv
          cases hf
          intro bs D kA ad ad0 p l e s m args below meth c A H locs lc X hag hP hD hS hl
          obtain ⟨hn1, hf1⟩ := pz_fit_ok (ad := ad) hv hcs
          obtain ⟨ty0, hty, hnm⟩ := pz_cty _ _ hc
          have hset : ((pz_w ad kA h).set a (ad a, .inr (c1, (fs.map (pz_v ad)).set f (pz_v ad v)))) = pz_w ad kA (pz_put h a (.inr (c1, pz_put fs f v))) := by
            rw [← pz_w_set]
            congr 1
            show _ = (ad a, Sum.inr (c1, (pz_put fs f v).map (pz_v ad)))
            rw [pz_put_eq, List.map_set]
          have hfl2 : f < (fs.map (pz_v ad)).length := by rw [List.length_map]; exact hfl
          rcases hfin with hfin | ⟨hfin, hin1, hin2⟩
          · refine va_put (D := D) (ci := c1) (v := pz_v ad v) (ty := ty) (C := q.1) (T := q.2.1) (N := q.2.2) X.1 X.2.1 X.2.2.2.2.2.1 (pz_cin _ _ hc) ty0 hty hnm X.2.2.2.2.1 X.2.2.2.2.2.2.2.2.1 hP hD hS a (pz_w_get hat) hc f hf0 (X.2.2.2.2.2.1 _ hlk) (fun _ h9 => h9) hfin hpd hn1 hf1 hfl2 hd (fun H1 locs1 hP1 hD1 hS1 => ?_)
            rw [hset] at hP1 hD1
            exact hw bs D kA ad ad0 p l e s m args below meth c A H1 locs1 lc X (pz_ag_put hag) hP1 hD1 hS1 hl
          · refine va_putF (D := D) (ci := c1) (v := pz_v ad v) (ty := ty) (C := q.1) (T := q.2.1) (N := q.2.2) X.1 X.2.1 X.2.2.2.2.2.1 (pz_cin _ _ hc) ty0 hty hnm X.2.2.2.2.1 X.2.2.2.2.2.2.2.2.1 hP hD hS a (pz_w_get hat) hc f hf0 (X.2.2.2.2.2.1 _ hlk) (fun _ h9 => h9) hfin (X.2.2.2.2.2.2.2.1.1.trans hin1) hin2 hpd hn1 hf1 hfl2 hd (fun H1 locs1 hP1 hD1 hS1 => ?_)
            rw [hset] at hP1 hD1
            exact hw bs D kA ad ad0 p l e s m args below meth c A H1 locs1 lc X (pz_ag_put hag) hP1 hD1 hS1 hl
        · cases hf
      · cases hf
    · cases hf
  · cases hf
/-- statics -/
def pz_o_gets (j : Nat) : pz_O := fun ls st h k n => some ([], ls, .ref (1000 + j) :: st, h, k, n)
theorem so_gets {M : pz_M} {pc j idx : Nat} (hj : j < 5) (hlk : Cond.fieldLink M.1.cls idx (pz_sn j).1 (pz_sn j).2.1 (pz_sn j).2.2 ∈ pz_gw) (hd : decode M.2.1 pc = .ok (.getstatic idx, 3)) : pz_S M pc 3 (pz_o_gets j) := by
  intro d mc ms n0 Post ls st h k n cs ls' st' h' k' n' hd1 hf hcs hk hn hw
  cases hf
  intro bs D kA ad ad0 p l e s m args below meth c A H locs lc X hag hP hD hS hl
  exact va_gets X.1 X.2.1 ((X.2.2.2.2.2.2.2.2.2.2.2.2.2.1 j hj).narrow X.2.2.2.2.2.2.2.2.2.2.1) hS X.2.2.2.2.1 (X.2.2.2.2.2.1 _ hlk) (fun _ h9 => h9) hd (hw bs D kA ad ad0 p l e s m args below meth c A H locs lc X hag hP hD hS hl)
theorem so_getsN {M : pz_M} {pc j idx : Nat} {host : String} (hj : j < 5) (hlk : Cond.fieldLinkNest M.1.cls idx (pz_sn j).1 (pz_sn j).2.1 (pz_sn j).2.2 host ∈ pz_nw) (hd : decode M.2.1 pc = .ok (.getstatic idx, 3)) : pz_S M pc 3 (pz_o_gets j) := by
  intro d mc ms n0 Post ls st h k n cs ls' st' h' k' n' hd1 hf hcs hk hn hw
  cases hf
  intro bs D kA ad ad0 p l e s m args below meth c A H locs lc X hag hP hD hS hl
  exact va_getsN X.1 X.2.1 ((X.2.2.2.2.2.2.2.2.2.2.2.2.2.1 j hj).narrow X.2.2.2.2.2.2.2.2.2.2.1) hS X.2.2.2.2.1 (va_Nw.use rfl (X.2.2.2.2.2.2.2.2.2.2.2.2.1 _ hlk)) (fun _ h9 => h9) hd (hw bs D kA ad ad0 p l e s m args below meth c A H locs lc X hag hP hD hS hl)
/-- arrays: reading -/
def pz_o_iald : pz_O := fun ls st h k n => match st with
  | .int i :: .ref a :: r => if 1000 ≤ a then match pz_ri (a - 1000) with
      | some (N, f) => some ([vp_in i N], ls, .int (f i.toNatClampNeg) :: r, h, k, n)
      | none => none
    else match pz_at h a with
      | some (.inl (0, N, .inl f)) => some ([vp_in i N], ls, .int (f i.toNatClampNeg) :: r, h, k, n)
      | _ => none
  | _ => none
theorem so_iald {M : pz_M} {pc : Nat} (hd : decode M.2.1 pc = .ok (.iaload, 1)) : pz_S M pc 1 pz_o_iald := by
  intro d mc ms n0 Post ls st h k n cs ls' st' h' k' n' hd1 hf hcs hk hn hw
  unfold pz_o_iald at hf
  split at hf
  · rename_i i a r
    split at hf
    · rename_i ha
      split at hf
      · rename_i N f hr
        cases hf
        intro bs D kA ad ad0 p l e s m args below meth c A H locs lc X hag hP hD hS hl
        have hT := X.2.2.2.2.2.2.2.2.2.2.2.2.2.2.1 _ _ _ hr
        rw [Nat.add_sub_of_le ha] at hT
        exact va_ti X.1 X.2.1 (hT.narrow X.2.2.2.2.2.2.2.2.2.2.1) hS hcs rfl hd (hw bs D kA ad ad0 p l e s m args below meth c A H locs lc X hag hP hD hS hl)
      · cases hf
    · split at hf
      · rename_i N f hat
        cases hf
        intro bs D kA ad ad0 p l e s m args below meth c A H locs lc X hag hP hD hS hl
        exact va_iald X.1 X.2.1 X.2.2.2.2.2.2.2.2.1 hP a 0 (pz_w_get hat) rfl hcs hd (hw bs D kA ad ad0 p l e s m args below meth c A H locs lc X hag hP hD hS hl)
      · cases hf
  · cases hf
def pz_o_lald : pz_O := fun ls st h k n => match st with
  | .int i :: .ref a :: r => if 1000 ≤ a then match pz_rl (a - 1000) with
      | some (N, f) => some ([vp_in i N], ls, .long (f i.toNatClampNeg) :: r, h, k, n)
      | none => none
    else match pz_at h a with
      | some (.inl (1, N, .inr (.inl f))) => some ([vp_in i N], ls, .long (f i.toNatClampNeg) :: r, h, k, n)
      | _ => none
  | _ => none
theorem so_lald {M : pz_M} {pc : Nat} (hd : decode M.2.1 pc = .ok (.laload, 1)) : pz_S M pc 1 pz_o_lald := by
  intro d mc ms n0 Post ls st h k n cs ls' st' h' k' n' hd1 hf hcs hk hn hw
  unfold pz_o_lald at hf
  split at hf
  · rename_i i a r
    split at hf
    · rename_i ha
      split at hf
      · rename_i N f hr
        cases hf
        intro bs D kA ad ad0 p l e s m args below meth c A H locs lc X hag hP hD hS hl
        have hT := X.2.2.2.2.2.2.2.2.2.2.2.2.2.2.2.1 _ _ _ hr
        rw [Nat.add_sub_of_le ha] at hT
        exact va_tl X.1 X.2.1 (hT.narrow X.2.2.2.2.2.2.2.2.2.2.1) hS hcs rfl hd (hw bs D kA ad ad0 p l e s m args below meth c A H locs lc X hag hP hD hS hl)
      · cases hf
    · split at hf
      · rename_i N f hat
        cases hf
        intro bs D kA ad ad0 p l e s m args below meth c A H locs lc X hag hP hD hS hl
        exact va_lald X.1 X.2.1 X.2.2.2.2.2.2.2.2.1 hP a 1 (pz_w_get hat) rfl hcs hd (hw bs D kA ad ad0 p l e s m args below meth c A H locs lc X hag hP hD hS hl)
      · cases hf
  · cases hf
def pz_o_bald : pz_O := fun ls st h k n => match st with
  | .int i :: .ref a :: r => match pz_at h a with
      | some (.inl (2, N, .inl f)) => some ([vp_in i N], ls, .int (f i.toNatClampNeg) :: r, h, k, n)
      | some (.inl (3, N, .inl f)) => some ([vp_in i N], ls, .int (f i.toNatClampNeg) :: r, h, k, n)
      | _ => none
  | _ => none
theorem so_bald {M : pz_M} {pc : Nat} (hd : decode M.2.1 pc = .ok (.baload, 1)) : pz_S M pc 1 pz_o_bald := by
  intro d mc ms n0 Post ls st h k n cs ls' st' h' k' n' hd1 hf hcs hk hn hw
  unfold pz_o_bald at hf
  split at hf
  · rename_i i a r
    split at hf
    · rename_i N f hat
      cases hf
      intro bs D kA ad ad0 p l e s m args below meth c A H locs lc X hag hP hD hS hl
      exact va_bald X.1 X.2.1 X.2.2.2.2.2.2.2.2.1 hP a 2 (pz_w_get hat) rfl hcs hd (hw bs D kA ad ad0 p l e s m args below meth c A H locs lc X hag hP hD hS hl)
    · rename_i N f hat
      cases hf
      intro bs D kA ad ad0 p l e s m args below meth c A H locs lc X hag hP hD hS hl
      exact va_zald X.1 X.2.1 X.2.2.2.2.2.2.2.2.1 hP a 3 (pz_w_get hat) rfl hcs hd (hw bs D kA ad ad0 p l e s m args below meth c A H locs lc X hag hP hD hS hl)
    · cases hf
  · cases hf
def pz_o_alen : pz_O := fun ls st h k n => match st with
  | .ref a :: r => match pz_at h a with
      | some (.inl (t, N, _)) => if t < 4 then some ([], ls, .int (Int32.ofNat N) :: r, h, k, n) else none
      | _ => none
  | _ => none
theorem so_alen {M : pz_M} {pc : Nat} (hd : decode M.2.1 pc = .ok (.arraylength, 1)) : pz_S M pc 1 pz_o_alen := by
  intro d mc ms n0 Post ls st h k n cs ls' st' h' k' n' hd1 hf hcs hk hn hw
  unfold pz_o_alen at hf
  split at hf
  · rename_i a r
    split at hf
    · rename_i t N f hat
      split at hf
      · rename_i ht
        cases hf
        intro bs D kA ad ad0 p l e s m args below meth c A H locs lc X hag hP hD hS hl
        have e1 : ∃ ty, (pz_tys kA)[t]? = some (kA t, ty) := by
          match t, ht with
          | 0, _ => exact ⟨_, rfl⟩
          | 1, _ => exact ⟨_, rfl⟩
          | 2, _ => exact ⟨_, rfl⟩
          | 3, _ => exact ⟨_, rfl⟩
        obtain ⟨ty, e1⟩ := e1
        exact va_alen X.1 X.2.1 X.2.2.2.2.2.2.2.2.1 hP a t (pz_w_get hat) e1 rfl hd (hw bs D kA ad ad0 p l e s m args below meth c A H locs lc X hag hP hD hS hl)
      · cases hf
    · cases hf
  · cases hf
/-- arrays: writing -/
def pz_o_iast : pz_O := fun ls st h k n => match st with
  | .int x :: .int i :: .ref a :: r => match pz_at h a with
      | some (.inl (0, N, .inl f)) => some ([vp_in i N], ls, r, pz_put h a (.inl (0, N, .inl (upd f i.toNatClampNeg x))), k, n)
      | _ => none
  | _ => none
theorem so_iast {M : pz_M} {pc : Nat} (hd : decode M.2.1 pc = .ok (.iastore, 1)) : pz_S M pc 1 pz_o_iast := by
  intro d mc ms n0 Post ls st h k n cs ls' st' h' k' n' hd1 hf hcs hk hn hw
  unfold pz_o_iast at hf
  split at hf
  · rename_i x i a r
    split at hf
    · rename_i N f hat
      cases hf
      intro bs D kA ad ad0 p l e s m args below meth c A H locs lc X hag hP hD hS hl
      refine va_iast X.1 X.2.1 X.2.2.2.2.2.2.2.2.1 hP hD hS a 0 (pz_w_get hat) rfl hcs hd (fun H1 locs1 hP1 hD1 hS1 => ?_)
      have hset := pz_w_set (ad := ad) (kA := kA) (h := h) (i := a) (c := .inl (0, N, .inl (upd f i.toNatClampNeg x)))
      exact hw bs D kA ad ad0 p l e s m args below meth c A H1 locs1 lc X (pz_ag_put hag) (by rw [← hset]; exact hP1) (by rw [← hset]; exact hD1) hS1 hl
    · cases hf
  · cases hf
def pz_o_last : pz_O := fun ls st h k n => match st with
  | .long x :: .int i :: .ref a :: r => match pz_at h a with
      | some (.inl (1, N, .inr (.inl f))) => some ([vp_in i N], ls, r, pz_put h a (.inl (1, N, .inr (.inl (vp_updL f i.toNatClampNeg x)))), k, n)
      | _ => none
  | _ => none
theorem so_last {M : pz_M} {pc : Nat} (hd : decode M.2.1 pc = .ok (.lastore, 1)) : pz_S M pc 1 pz_o_last := by
  intro d mc ms n0 Post ls st h k n cs ls' st' h' k' n' hd1 hf hcs hk hn hw
  unfold pz_o_last at hf
  split at hf
  · rename_i x i a r
    split at hf
    · rename_i N f hat
      cases hf
      intro bs D kA ad ad0 p l e s m args below meth c A H locs lc X hag hP hD hS hl
      refine va_last X.1 X.2.1 X.2.2.2.2.2.2.2.2.1 hP hD hS a 1 (pz_w_get hat) rfl hcs hd (fun H1 locs1 hP1 hD1 hS1 => ?_)
      have hset := pz_w_set (ad := ad) (kA := kA) (h := h) (i := a) (c := .inl (1, N, .inr (.inl (vp_updL f i.toNatClampNeg x))))
      exact hw bs D kA ad ad0 p l e s m args below meth c A H1 locs1 lc X (pz_ag_put hag) (by rw [← hset]; exact hP1) (by rw [← hset]; exact hD1) hS1 hl
    · cases hf
  · cases hf
def pz_o_bast : pz_O := fun ls st h k n => match st with
  | .int x :: .int i :: .ref a :: r => match pz_at h a with
      | some (.inl (2, N, .inl f)) => some ([vp_in i N], ls, r, pz_put h a (.inl (2, N, .inl (upd f i.toNatClampNeg (vp_nar .byte x)))), k, n)
      | some (.inl (3, N, .inl f)) => some ([vp_in i N], ls, r, pz_put h a (.inl (3, N, .inl (upd f i.toNatClampNeg (vp_nar .boolean x)))), k, n)
      | _ => none
  | _ => none
theorem so_bast {M : pz_M} {pc : Nat} (hd : decode M.2.1 pc = .ok (.bastore, 1)) : pz_S M pc 1 pz_o_bast := by
  intro d mc ms n0 Post ls st h k n cs ls' st' h' k' n' hd1 hf hcs hk hn hw
  unfold pz_o_bast at hf
  split at hf
  · rename_i x i a r
    split at hf
    · rename_i N f hat
      cases hf
      intro bs D kA ad ad0 p l e s m args below meth c A H locs lc X hag hP hD hS hl
      refine va_bast X.1 X.2.1 X.2.2.2.2.2.2.2.2.1 hP hD hS a 2 (pz_w_get hat) rfl hcs hd (fun H1 locs1 hP1 hD1 hS1 => ?_)
      have hset := pz_w_set (ad := ad) (kA := kA) (h := h) (i := a) (c := .inl (2, N, .inl (upd f i.toNatClampNeg (vp_nar .byte x))))
      exact hw bs D kA ad ad0 p l e s m args below meth c A H1 locs1 lc X (pz_ag_put hag) (by rw [← hset]; exact hP1) (by rw [← hset]; exact hD1) hS1 hl
    · rename_i N f hat
      cases hf
      intro bs D kA ad ad0 p l e s m args below meth c A H locs lc X hag hP hD hS hl
      refine va_zast X.1 X.2.1 X.2.2.2.2.2.2.2.2.1 hP hD hS a 3 (pz_w_get hat) rfl hcs hd (fun H1 locs1 hP1 hD1 hS1 => ?_)
      have hset := pz_w_set (ad := ad) (kA := kA) (h := h) (i := a) (c := .inl (3, N, .inl (upd f i.toNatClampNeg (vp_nar .boolean x))))
      exact hw bs D kA ad ad0 p l e s m args below meth c A H1 locs1 lc X (pz_ag_put hag) (by rw [← hset]; exact hP1) (by rw [← hset]; exact hD1) hS1 hl
    · cases hf
  · cases hf
