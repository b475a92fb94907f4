/-! ===== one instruction: over the pure machine, and that the machine does it ===== -/
def pz_on : pz_O := fun _ _ _ _ _ => none
theorem so_none {M : pz_M} {pc len : Nat} : pz_S M pc len pz_on := by
  intro d mc ms n0 Post ls st h k n cs ls' st' h' k' n' hd1 hf hcs hk hn hw
  cases hf
def pz_oc (v : Value) : pz_O := fun ls st h k n => match v with
  | .int x => some ([], ls, .int x :: st, h, k, n)
  | .long x => some ([], ls, .long x :: st, h, k, n)
  | _ => none
theorem so_iconst {M : pz_M} {pc : Nat} {v : Int32} {i : Int} (hd : decode M.2.1 pc = .ok (.iconst i, 1)) (hv : Int32.ofInt i = v) : pz_S M pc 1 (pz_oc (.int v)) := by
  intro d mc ms n0 Post ls st h k n cs ls' st' h' k' n' hd1 hf hcs hk hn hw
  cases hf
  intro bs D kA ad ad0 p l e s m args below meth c A H locs lc X hag hP hD hS hl
  exact lv_iconst X.1 X.2.1 hd hv (hw bs D kA ad ad0 p l e s m args below meth c A H locs lc X hag hP hD hS hl)
theorem so_bipush {M : pz_M} {pc : Nat} {v : Int32} {i : Int} (hd : decode M.2.1 pc = .ok (.bipush i, 2)) (hv : (Int8.ofInt i).toInt32 = v) : pz_S M pc 2 (pz_oc (.int v)) := by
  intro d mc ms n0 Post ls st h k n cs ls' st' h' k' n' hd1 hf hcs hk hn hw
  cases hf
  intro bs D kA ad ad0 p l e s m args below meth c A H locs lc X hag hP hD hS hl
  exact lv_bipush X.1 X.2.1 hd hv (hw bs D kA ad ad0 p l e s m args below meth c A H locs lc X hag hP hD hS hl)
theorem so_sipush {M : pz_M} {pc : Nat} {v : Int32} {i : Int} (hd : decode M.2.1 pc = .ok (.sipush i, 3)) (hv : (Int16.ofInt i).toInt32 = v) : pz_S M pc 3 (pz_oc (.int v)) := by
  intro d mc ms n0 Post ls st h k n cs ls' st' h' k' n' hd1 hf hcs hk hn hw
  cases hf
  intro bs D kA ad ad0 p l e s m args below meth c A H locs lc X hag hP hD hS hl
  exact lv_sipush X.1 X.2.1 hd hv (hw bs D kA ad ad0 p l e s m args below meth c A H locs lc X hag hP hD hS hl)
theorem so_lconst {M : pz_M} {pc : Nat} {v : Int64} {i : Fin 2} (hd : decode M.2.1 pc = .ok (.lconst i, 1)) (hv : Int64.ofNat (i : Nat) = v) : pz_S M pc 1 (pz_oc (.long v)) := by
  intro d mc ms n0 Post ls st h k n cs ls' st' h' k' n' hd1 hf hcs hk hn hw
  cases hf
  intro bs D kA ad ad0 p l e s m args below meth c A H locs lc X hag hP hD hS hl
  exact lv_lconst X.1 X.2.1 hd hv (hw bs D kA ad ad0 p l e s m args below meth c A H locs lc X hag hP hD hS hl)
theorem so_ldc {M : pz_M} {pc : Nat} {v : Int32} {i : Nat} (hw0 : Cond.constant M.1.cls i v ∈ pz_gw) (hd : decode M.2.1 pc = .ok (.ldc i, 2)) : pz_S M pc 2 (pz_oc (.int v)) := by
  intro d mc ms n0 Post ls st h k n cs ls' st' h' k' n' hd1 hf hcs hk hn hw
  cases hf
  intro bs D kA ad ad0 p l e s m args below meth c A H locs lc X hag hP hD hS hl
  exact lv_ldc X.1 X.2.1 X.2.2.2.2.1 (X.2.2.2.2.2.1 _ hw0) hd (hw bs D kA ad ad0 p l e s m args below meth c A H locs lc X hag hP hD hS hl)
theorem so_ldcw {M : pz_M} {pc : Nat} {v : Int32} {i : Nat} (hw0 : Cond.constant M.1.cls i v ∈ pz_gw) (hd : decode M.2.1 pc = .ok (.ldc_w i, 3)) : pz_S M pc 3 (pz_oc (.int v)) := by
  intro d mc ms n0 Post ls st h k n cs ls' st' h' k' n' hd1 hf hcs hk hn hw
  cases hf
  intro bs D kA ad ad0 p l e s m args below meth c A H locs lc X hag hP hD hS hl
  exact lv_ldcw X.1 X.2.1 X.2.2.2.2.1 (X.2.2.2.2.2.1 _ hw0) hd (hw bs D kA ad ad0 p l e s m args below meth c A H locs lc X hag hP hD hS hl)
theorem so_ldc2 {M : pz_M} {pc : Nat} {v : Int64} {i : Nat} (hw0 : Cond.constantLong M.1.cls i v ∈ pz_gw) (hd : decode M.2.1 pc = .ok (.ldc2_w i, 3)) : pz_S M pc 3 (pz_oc (.long v)) := by
  intro d mc ms n0 Post ls st h k n cs ls' st' h' k' n' hd1 hf hcs hk hn hw
  cases hf
  intro bs D kA ad ad0 p l e s m args below meth c A H locs lc X hag hP hD hS hl
  exact lv_ldc2 X.1 X.2.1 X.2.2.2.2.1 (X.2.2.2.2.2.1 _ hw0) hd (hw bs D kA ad ad0 p l e s m args below meth c A H locs lc X hag hP hD hS hl)
def pz_oild (i : Nat) : pz_O := fun ls st h k n => match pz_get i ls with
  | some (.int x) => some ([], ls, .int x :: st, h, k, n)
  | _ => none
theorem so_iload_n {M : pz_M} {pc : Nat} {j : Fin 4} {i : Nat} (hd : decode M.2.1 pc = .ok (.iload_n j, 1)) (hj : (j : Nat) = i) : pz_S M pc 1 (pz_oild i) := by
  intro d mc ms n0 Post ls st h k n cs ls' st' h' k' n' hd1 hf hcs hk hn hw
  unfold pz_oild at hf
  split at hf
  · rename_i x hg
    cases hf
    intro bs D kA ad ad0 p l e s m args below meth c A H locs lc X hag hP hD hS hl
    exact lv_iload_n X.1 X.2.1 hd hj (pz_l_at hl hg) (hw bs D kA ad ad0 p l e s m args below meth c A H locs lc X hag hP hD hS hl)
  · cases hf
theorem so_iload {M : pz_M} {pc : Nat} {i : Nat} (hd : decode M.2.1 pc = .ok (.iload i, 2)) : pz_S M pc 2 (pz_oild i) := by
  intro d mc ms n0 Post ls st h k n cs ls' st' h' k' n' hd1 hf hcs hk hn hw
  unfold pz_oild at hf
  split at hf
  · rename_i x hg
    cases hf
    intro bs D kA ad ad0 p l e s m args below meth c A H locs lc X hag hP hD hS hl
    exact lv_iload X.1 X.2.1 hd (pz_l_at hl hg) (hw bs D kA ad ad0 p l e s m args below meth c A H locs lc X hag hP hD hS hl)
  · cases hf
def pz_olld (i : Nat) : pz_O := fun ls st h k n => match pz_get i ls with
  | some (.long x) => some ([], ls, .long x :: st, h, k, n)
  | _ => none
theorem so_lload_n {M : pz_M} {pc : Nat} {j : Fin 4} {i : Nat} (hd : decode M.2.1 pc = .ok (.lload_n j, 1)) (hj : (j : Nat) = i) : pz_S M pc 1 (pz_olld i) := by
  intro d mc ms n0 Post ls st h k n cs ls' st' h' k' n' hd1 hf hcs hk hn hw
  unfold pz_olld at hf
  split at hf
  · rename_i x hg
    cases hf
    intro bs D kA ad ad0 p l e s m args below meth c A H locs lc X hag hP hD hS hl
    exact lv_lload_n X.1 X.2.1 hd hj (pz_l_at hl hg) (hw bs D kA ad ad0 p l e s m args below meth c A H locs lc X hag hP hD hS hl)
  · cases hf
theorem so_lload {M : pz_M} {pc : Nat} {i : Nat} (hd : decode M.2.1 pc = .ok (.lload i, 2)) : pz_S M pc 2 (pz_olld i) := by
  intro d mc ms n0 Post ls st h k n cs ls' st' h' k' n' hd1 hf hcs hk hn hw
  unfold pz_olld at hf
  split at hf
  · rename_i x hg
    cases hf
    intro bs D kA ad ad0 p l e s m args below meth c A H locs lc X hag hP hD hS hl
    exact lv_lload X.1 X.2.1 hd (pz_l_at hl hg) (hw bs D kA ad ad0 p l e s m args below meth c A H locs lc X hag hP hD hS hl)
  · cases hf
def pz_oald (i : Nat) : pz_O := fun ls st h k n => match pz_get i ls with
  | some (.ref x) => some ([], ls, .ref x :: st, h, k, n)
  | _ => none
theorem so_aload_n {M : pz_M} {pc : Nat} {j : Fin 4} {i : Nat} (hd : decode M.2.1 pc = .ok (.aload_n j, 1)) (hj : (j : Nat) = i) : pz_S M pc 1 (pz_oald i) := by
  intro d mc ms n0 Post ls st h k n cs ls' st' h' k' n' hd1 hf hcs hk hn hw
  unfold pz_oald at hf
  split at hf
  · rename_i x hg
    cases hf
    intro bs D kA ad ad0 p l e s m args below meth c A H locs lc X hag hP hD hS hl
    exact lv_aload_n X.1 X.2.1 hd hj (pz_l_at hl hg) (hw bs D kA ad ad0 p l e s m args below meth c A H locs lc X hag hP hD hS hl)
  · cases hf
theorem so_aload {M : pz_M} {pc : Nat} {i : Nat} (hd : decode M.2.1 pc = .ok (.aload i, 2)) : pz_S M pc 2 (pz_oald i) := by
  intro d mc ms n0 Post ls st h k n cs ls' st' h' k' n' hd1 hf hcs hk hn hw
  unfold pz_oald at hf
  split at hf
  · rename_i x hg
    cases hf
    intro bs D kA ad ad0 p l e s m args below meth c A H locs lc X hag hP hD hS hl
    exact lv_aload X.1 X.2.1 hd (pz_l_at hl hg) (hw bs D kA ad ad0 p l e s m args below meth c A H locs lc X hag hP hD hS hl)
  · cases hf
def pz_oist (N i : Nat) : pz_O := fun ls st h k n => match st with
  | .int x :: r => if i + 1 ≤ N then some ([], pz_set1 i (.int x) ls, r, h, k, n) else none
  | _ => none
theorem so_istore_n {M : pz_M} {pc : Nat} {j : Fin 4} {i : Nat} (hd : decode M.2.1 pc = .ok (.istore_n j, 1)) (hj : (j : Nat) = i) : pz_S M pc 1 (pz_oist M.2.2.1 i) := by
  intro d mc ms n0 Post ls st h k n cs ls' st' h' k' n' hd1 hf hcs hk hn hw
  unfold pz_oist at hf
  split at hf
  · split at hf
    · rename_i hi
      cases hf
      intro bs D kA ad ad0 p l e s m args below meth c A H locs lc X hag hP hD hS hl
      exact lv_istore_n X.1 X.2.1 hd hj hl hi rfl (fun lc' hl' => hw bs D kA ad ad0 p l e s m args below meth c A H locs lc' X hag hP hD hS (pz_has_sub hl' (fun q hq => pz_l_set1 hq)))
    · cases hf
  · cases hf
theorem so_istore {M : pz_M} {pc : Nat} {i : Nat} (hd : decode M.2.1 pc = .ok (.istore i, 2)) : pz_S M pc 2 (pz_oist M.2.2.1 i) := by
  intro d mc ms n0 Post ls st h k n cs ls' st' h' k' n' hd1 hf hcs hk hn hw
  unfold pz_oist at hf
  split at hf
  · split at hf
    · rename_i hi
      cases hf
      intro bs D kA ad ad0 p l e s m args below meth c A H locs lc X hag hP hD hS hl
      exact lv_istore X.1 X.2.1 hd hl hi rfl (fun lc' hl' => hw bs D kA ad ad0 p l e s m args below meth c A H locs lc' X hag hP hD hS (pz_has_sub hl' (fun q hq => pz_l_set1 hq)))
    · cases hf
  · cases hf
def pz_olst (N i : Nat) : pz_O := fun ls st h k n => match st with
  | .long x :: r => if i + 2 ≤ N then some ([], pz_set2 i (.long x) ls, r, h, k, n) else none
  | _ => none
theorem so_lstore_n {M : pz_M} {pc : Nat} {j : Fin 4} {i : Nat} (hd : decode M.2.1 pc = .ok (.lstore_n j, 1)) (hj : (j : Nat) = i) : pz_S M pc 1 (pz_olst M.2.2.1 i) := by
  intro d mc ms n0 Post ls st h k n cs ls' st' h' k' n' hd1 hf hcs hk hn hw
  unfold pz_olst at hf
  split at hf
  · split at hf
    · rename_i hi
      cases hf
      intro bs D kA ad ad0 p l e s m args below meth c A H locs lc X hag hP hD hS hl
      exact lv_lstore_n X.1 X.2.1 hd hj hl hi rfl (fun lc' hl' => hw bs D kA ad ad0 p l e s m args below meth c A H locs lc' X hag hP hD hS (pz_has_sub hl' (fun q hq => pz_l_set2 hq)))
    · cases hf
  · cases hf
theorem so_lstore {M : pz_M} {pc : Nat} {i : Nat} (hd : decode M.2.1 pc = .ok (.lstore i, 2)) : pz_S M pc 2 (pz_olst M.2.2.1 i) := by
  intro d mc ms n0 Post ls st h k n cs ls' st' h' k' n' hd1 hf hcs hk hn hw
  unfold pz_olst at hf
  split at hf
  · split at hf
    · rename_i hi
      cases hf
      intro bs D kA ad ad0 p l e s m args below meth c A H locs lc X hag hP hD hS hl
      exact lv_lstore X.1 X.2.1 hd hl hi rfl (fun lc' hl' => hw bs D kA ad ad0 p l e s m args below meth c A H locs lc' X hag hP hD hS (pz_has_sub hl' (fun q hq => pz_l_set2 hq)))
    · cases hf
  · cases hf
def pz_oast (N i : Nat) : pz_O := fun ls st h k n => match st with
  | .ref x :: r => if i + 1 ≤ N then some ([], pz_set1 i (.ref x) ls, r, h, k, n) else none
  | _ => none
theorem so_astore_n {M : pz_M} {pc : Nat} {j : Fin 4} {i : Nat} (hd : decode M.2.1 pc = .ok (.astore_n j, 1)) (hj : (j : Nat) = i) : pz_S M pc 1 (pz_oast M.2.2.1 i) := by
  intro d mc ms n0 Post ls st h k n cs ls' st' h' k' n' hd1 hf hcs hk hn hw
  unfold pz_oast at hf
  split at hf
  · split at hf
    · rename_i hi
      cases hf
      intro bs D kA ad ad0 p l e s m args below meth c A H locs lc X hag hP hD hS hl
      exact lv_astore_n X.1 X.2.1 hd hj hl hi rfl (fun lc' hl' => hw bs D kA ad ad0 p l e s m args below meth c A H locs lc' X hag hP hD hS (pz_has_sub hl' (fun q hq => pz_l_set1 hq)))
    · cases hf
  · cases hf
theorem so_astore {M : pz_M} {pc : Nat} {i : Nat} (hd : decode M.2.1 pc = .ok (.astore i, 2)) : pz_S M pc 2 (pz_oast M.2.2.1 i) := by
  intro d mc ms n0 Post ls st h k n cs ls' st' h' k' n' hd1 hf hcs hk hn hw
  unfold pz_oast at hf
  split at hf
  · split at hf
    · rename_i hi
      cases hf
      intro bs D kA ad ad0 p l e s m args below meth c A H locs lc X hag hP hD hS hl
      exact lv_astore X.1 X.2.1 hd hl hi rfl (fun lc' hl' => hw bs D kA ad ad0 p l e s m args below meth c A H locs lc' X hag hP hD hS (pz_has_sub hl' (fun q hq => pz_l_set1 hq)))
    · cases hf
  · cases hf
def pz_oinc (N i : Nat) (v : Value) : pz_O := fun ls st h k n => match v, pz_get i ls with
  | .int v, some (.int x) => if i + 1 ≤ N then some ([], pz_set1 i (.int (x + v)) ls, st, h, k, n) else none
  | _, _ => none
theorem so_iinc {M : pz_M} {pc i : Nat} {c0 : Int} {v : Int32} (hd : decode M.2.1 pc = .ok (.iinc i c0, 3)) (hv : Int32.ofInt c0 = v) : pz_S M pc 3 (pz_oinc M.2.2.1 i (.int v)) := by
  intro d mc ms n0 Post ls st h k n cs ls' st' h' k' n' hd1 hf hcs hk hn hw
  unfold pz_oinc at hf
  split at hf
  · rename_i v1 x e1 hg
    cases e1
    split at hf
    · rename_i hi
      cases hf
      intro bs D kA ad ad0 p l e s m args below meth c A H locs lc X hag hP hD hS hl
      obtain ⟨j, hj⟩ := List.getElem?_of_mem (pz_l_mem (ad := ad) (pz_get_mem hg))
      exact lv_iinc X.1 X.2.1 hd hl hj (by rw [hv]) hi rfl (fun lc' hl' => hw bs D kA ad ad0 p l e s m args below meth c A H locs lc' X hag hP hD hS (pz_has_sub hl' (fun q hq => pz_l_set1 hq)))
    · cases hf
  · cases hf
def pz_o_iadd : pz_O := fun ls st h k n => match st with
  | .int y :: .int x :: r => some ([], ls, .int (x + y) :: r, h, k, n)
  | _ => none
theorem so_iadd {M : pz_M} {pc : Nat} (hd : decode M.2.1 pc = .ok (.iadd, 1)) : pz_S M pc 1 pz_o_iadd := by
  intro d mc ms n0 Post ls st h k n cs ls' st' h' k' n' hd1 hf hcs hk hn hw
  unfold pz_o_iadd at hf
  split at hf
  · cases hf
    intro bs D kA ad ad0 p l e s m args below meth c A H locs lc X hag hP hD hS hl
    exact lv_iadd X.1 X.2.1 hd   (hw bs D kA ad ad0 p l e s m args below meth c A H locs lc X hag hP hD hS hl)
  · cases hf
def pz_o_isub : pz_O := fun ls st h k n => match st with
  | .int y :: .int x :: r => some ([], ls, .int (x - y) :: r, h, k, n)
  | _ => none
theorem so_isub {M : pz_M} {pc : Nat} (hd : decode M.2.1 pc = .ok (.isub, 1)) : pz_S M pc 1 pz_o_isub := by
  intro d mc ms n0 Post ls st h k n cs ls' st' h' k' n' hd1 hf hcs hk hn hw
  unfold pz_o_isub at hf
  split at hf
  · cases hf
    intro bs D kA ad ad0 p l e s m args below meth c A H locs lc X hag hP hD hS hl
    exact lv_isub X.1 X.2.1 hd   (hw bs D kA ad ad0 p l e s m args below meth c A H locs lc X hag hP hD hS hl)
  · cases hf
def pz_o_imul : pz_O := fun ls st h k n => match st with
  | .int y :: .int x :: r => some ([], ls, .int (x * y) :: r, h, k, n)
  | _ => none
theorem so_imul {M : pz_M} {pc : Nat} (hd : decode M.2.1 pc = .ok (.imul, 1)) : pz_S M pc 1 pz_o_imul := by
  intro d mc ms n0 Post ls st h k n cs ls' st' h' k' n' hd1 hf hcs hk hn hw
  unfold pz_o_imul at hf
  split at hf
  · cases hf
    intro bs D kA ad ad0 p l e s m args below meth c A H locs lc X hag hP hD hS hl
    exact lv_imul X.1 X.2.1 hd   (hw bs D kA ad ad0 p l e s m args below meth c A H locs lc X hag hP hD hS hl)
  · cases hf
def pz_o_iand : pz_O := fun ls st h k n => match st with
  | .int y :: .int x :: r => some ([], ls, .int (x &&& y) :: r, h, k, n)
  | _ => none
theorem so_iand {M : pz_M} {pc : Nat} (hd : decode M.2.1 pc = .ok (.iand, 1)) : pz_S M pc 1 pz_o_iand := by
  intro d mc ms n0 Post ls st h k n cs ls' st' h' k' n' hd1 hf hcs hk hn hw
  unfold pz_o_iand at hf
  split at hf
  · cases hf
    intro bs D kA ad ad0 p l e s m args below meth c A H locs lc X hag hP hD hS hl
    exact lv_iand X.1 X.2.1 hd   (hw bs D kA ad ad0 p l e s m args below meth c A H locs lc X hag hP hD hS hl)
  · cases hf
def pz_o_ior : pz_O := fun ls st h k n => match st with
  | .int y :: .int x :: r => some ([], ls, .int (x ||| y) :: r, h, k, n)
  | _ => none
theorem so_ior {M : pz_M} {pc : Nat} (hd : decode M.2.1 pc = .ok (.ior, 1)) : pz_S M pc 1 pz_o_ior := by
  intro d mc ms n0 Post ls st h k n cs ls' st' h' k' n' hd1 hf hcs hk hn hw
  unfold pz_o_ior at hf
  split at hf
  · cases hf
    intro bs D kA ad ad0 p l e s m args below meth c A H locs lc X hag hP hD hS hl
    exact lv_ior X.1 X.2.1 hd   (hw bs D kA ad ad0 p l e s m args below meth c A H locs lc X hag hP hD hS hl)
  · cases hf
def pz_o_ixor : pz_O := fun ls st h k n => match st with
  | .int y :: .int x :: r => some ([], ls, .int (x ^^^ y) :: r, h, k, n)
  | _ => none
theorem so_ixor {M : pz_M} {pc : Nat} (hd : decode M.2.1 pc = .ok (.ixor, 1)) : pz_S M pc 1 pz_o_ixor := by
  intro d mc ms n0 Post ls st h k n cs ls' st' h' k' n' hd1 hf hcs hk hn hw
  unfold pz_o_ixor at hf
  split at hf
  · cases hf
    intro bs D kA ad ad0 p l e s m args below meth c A H locs lc X hag hP hD hS hl
    exact lv_ixor X.1 X.2.1 hd   (hw bs D kA ad ad0 p l e s m args below meth c A H locs lc X hag hP hD hS hl)
  · cases hf
def pz_o_ishl : pz_O := fun ls st h k n => match st with
  | .int y :: .int x :: r => some ([], ls, .int (x <<< (y &&& 31)) :: r, h, k, n)
  | _ => none
theorem so_ishl {M : pz_M} {pc : Nat} (hd : decode M.2.1 pc = .ok (.ishl, 1)) : pz_S M pc 1 pz_o_ishl := by
  intro d mc ms n0 Post ls st h k n cs ls' st' h' k' n' hd1 hf hcs hk hn hw
  unfold pz_o_ishl at hf
  split at hf
  · cases hf
    intro bs D kA ad ad0 p l e s m args below meth c A H locs lc X hag hP hD hS hl
    exact lv_ishl X.1 X.2.1 hd   (hw bs D kA ad ad0 p l e s m args below meth c A H locs lc X hag hP hD hS hl)
  · cases hf
def pz_o_ishr : pz_O := fun ls st h k n => match st with
  | .int y :: .int x :: r => some ([], ls, .int (x >>> (y &&& 31)) :: r, h, k, n)
  | _ => none
theorem so_ishr {M : pz_M} {pc : Nat} (hd : decode M.2.1 pc = .ok (.ishr, 1)) : pz_S M pc 1 pz_o_ishr := by
  intro d mc ms n0 Post ls st h k n cs ls' st' h' k' n' hd1 hf hcs hk hn hw
  unfold pz_o_ishr at hf
  split at hf
  · cases hf
    intro bs D kA ad ad0 p l e s m args below meth c A H locs lc X hag hP hD hS hl
    exact lv_ishr X.1 X.2.1 hd   (hw bs D kA ad ad0 p l e s m args below meth c A H locs lc X hag hP hD hS hl)
  · cases hf
def pz_o_iushr : pz_O := fun ls st h k n => match st with
  | .int y :: .int x :: r => some ([], ls, .int ((x.toUInt32 >>> (y.toUInt32 &&& Int32.toUInt32 31)).toInt32) :: r, h, k, n)
  | _ => none
theorem so_iushr {M : pz_M} {pc : Nat} (hd : decode M.2.1 pc = .ok (.iushr, 1)) : pz_S M pc 1 pz_o_iushr := by
  intro d mc ms n0 Post ls st h k n cs ls' st' h' k' n' hd1 hf hcs hk hn hw
  unfold pz_o_iushr at hf
  split at hf
  · cases hf
    intro bs D kA ad ad0 p l e s m args below meth c A H locs lc X hag hP hD hS hl
    exact lv_iushr X.1 X.2.1 hd  rfl (hw bs D kA ad ad0 p l e s m args below meth c A H locs lc X hag hP hD hS hl)
  · cases hf
def pz_o_ladd : pz_O := fun ls st h k n => match st with
  | .long y :: .long x :: r => some ([], ls, .long (x + y) :: r, h, k, n)
  | _ => none
theorem so_ladd {M : pz_M} {pc : Nat} (hd : decode M.2.1 pc = .ok (.ladd, 1)) : pz_S M pc 1 pz_o_ladd := by
  intro d mc ms n0 Post ls st h k n cs ls' st' h' k' n' hd1 hf hcs hk hn hw
  unfold pz_o_ladd at hf
  split at hf
  · cases hf
    intro bs D kA ad ad0 p l e s m args below meth c A H locs lc X hag hP hD hS hl
    exact lv_ladd X.1 X.2.1 hd   (hw bs D kA ad ad0 p l e s m args below meth c A H locs lc X hag hP hD hS hl)
  · cases hf
def pz_o_lsub : pz_O := fun ls st h k n => match st with
  | .long y :: .long x :: r => some ([], ls, .long (x - y) :: r, h, k, n)
  | _ => none
theorem so_lsub {M : pz_M} {pc : Nat} (hd : decode M.2.1 pc = .ok (.lsub, 1)) : pz_S M pc 1 pz_o_lsub := by
  intro d mc ms n0 Post ls st h k n cs ls' st' h' k' n' hd1 hf hcs hk hn hw
  unfold pz_o_lsub at hf
  split at hf
  · cases hf
    intro bs D kA ad ad0 p l e s m args below meth c A H locs lc X hag hP hD hS hl
    exact lv_lsub X.1 X.2.1 hd   (hw bs D kA ad ad0 p l e s m args below meth c A H locs lc X hag hP hD hS hl)
  · cases hf
def pz_o_lmul : pz_O := fun ls st h k n => match st with
  | .long y :: .long x :: r => some ([], ls, .long (x * y) :: r, h, k, n)
  | _ => none
theorem so_lmul {M : pz_M} {pc : Nat} (hd : decode M.2.1 pc = .ok (.lmul, 1)) : pz_S M pc 1 pz_o_lmul := by
  intro d mc ms n0 Post ls st h k n cs ls' st' h' k' n' hd1 hf hcs hk hn hw
  unfold pz_o_lmul at hf
  split at hf
  · cases hf
    intro bs D kA ad ad0 p l e s m args below meth c A H locs lc X hag hP hD hS hl
    exact lv_lmul X.1 X.2.1 hd   (hw bs D kA ad ad0 p l e s m args below meth c A H locs lc X hag hP hD hS hl)
  · cases hf
def pz_o_land : pz_O := fun ls st h k n => match st with
  | .long y :: .long x :: r => some ([], ls, .long (x &&& y) :: r, h, k, n)
  | _ => none
theorem so_land {M : pz_M} {pc : Nat} (hd : decode M.2.1 pc = .ok (.land, 1)) : pz_S M pc 1 pz_o_land := by
  intro d mc ms n0 Post ls st h k n cs ls' st' h' k' n' hd1 hf hcs hk hn hw
  unfold pz_o_land at hf
  split at hf
  · cases hf
    intro bs D kA ad ad0 p l e s m args below meth c A H locs lc X hag hP hD hS hl
    exact lv_land X.1 X.2.1 hd   (hw bs D kA ad ad0 p l e s m args below meth c A H locs lc X hag hP hD hS hl)
  · cases hf
def pz_o_lor : pz_O := fun ls st h k n => match st with
  | .long y :: .long x :: r => some ([], ls, .long (x ||| y) :: r, h, k, n)
  | _ => none
theorem so_lor {M : pz_M} {pc : Nat} (hd : decode M.2.1 pc = .ok (.lor, 1)) : pz_S M pc 1 pz_o_lor := by
  intro d mc ms n0 Post ls st h k n cs ls' st' h' k' n' hd1 hf hcs hk hn hw
  unfold pz_o_lor at hf
  split at hf
  · cases hf
    intro bs D kA ad ad0 p l e s m args below meth c A H locs lc X hag hP hD hS hl
    exact lv_lor X.1 X.2.1 hd   (hw bs D kA ad ad0 p l e s m args below meth c A H locs lc X hag hP hD hS hl)
  · cases hf
def pz_o_lxor : pz_O := fun ls st h k n => match st with
  | .long y :: .long x :: r => some ([], ls, .long (x ^^^ y) :: r, h, k, n)
  | _ => none
theorem so_lxor {M : pz_M} {pc : Nat} (hd : decode M.2.1 pc = .ok (.lxor, 1)) : pz_S M pc 1 pz_o_lxor := by
  intro d mc ms n0 Post ls st h k n cs ls' st' h' k' n' hd1 hf hcs hk hn hw
  unfold pz_o_lxor at hf
  split at hf
  · cases hf
    intro bs D kA ad ad0 p l e s m args below meth c A H locs lc X hag hP hD hS hl
    exact lv_lxor X.1 X.2.1 hd   (hw bs D kA ad ad0 p l e s m args below meth c A H locs lc X hag hP hD hS hl)
  · cases hf
def pz_o_idiv : pz_O := fun ls st h k n => match st with
  | .int y :: .int x :: r => some ([¬ y = 0], ls, .int (x / y) :: r, h, k, n)
  | _ => none
theorem so_idiv {M : pz_M} {pc : Nat} (hd : decode M.2.1 pc = .ok (.idiv, 1)) : pz_S M pc 1 pz_o_idiv := by
  intro d mc ms n0 Post ls st h k n cs ls' st' h' k' n' hd1 hf hcs hk hn hw
  unfold pz_o_idiv at hf
  split at hf
  · cases hf
    intro bs D kA ad ad0 p l e s m args below meth c A H locs lc X hag hP hD hS hl
    exact lv_idiv X.1 X.2.1 hd hcs  (hw bs D kA ad ad0 p l e s m args below meth c A H locs lc X hag hP hD hS hl)
  · cases hf
def pz_o_irem : pz_O := fun ls st h k n => match st with
  | .int y :: .int x :: r => some ([¬ y = 0], ls, .int (x - x / y * y) :: r, h, k, n)
  | _ => none
theorem so_irem {M : pz_M} {pc : Nat} (hd : decode M.2.1 pc = .ok (.irem, 1)) : pz_S M pc 1 pz_o_irem := by
  intro d mc ms n0 Post ls st h k n cs ls' st' h' k' n' hd1 hf hcs hk hn hw
  unfold pz_o_irem at hf
  split at hf
  · cases hf
    intro bs D kA ad ad0 p l e s m args below meth c A H locs lc X hag hP hD hS hl
    exact lv_irem X.1 X.2.1 hd hcs  (hw bs D kA ad ad0 p l e s m args below meth c A H locs lc X hag hP hD hS hl)
  · cases hf
def pz_o_ldiv : pz_O := fun ls st h k n => match st with
  | .long y :: .long x :: r => some ([¬ y = 0], ls, .long (x / y) :: r, h, k, n)
  | _ => none
theorem so_ldiv {M : pz_M} {pc : Nat} (hd : decode M.2.1 pc = .ok (.ldiv, 1)) : pz_S M pc 1 pz_o_ldiv := by
  intro d mc ms n0 Post ls st h k n cs ls' st' h' k' n' hd1 hf hcs hk hn hw
  unfold pz_o_ldiv at hf
  split at hf
  · cases hf
    intro bs D kA ad ad0 p l e s m args below meth c A H locs lc X hag hP hD hS hl
    exact lv_ldiv X.1 X.2.1 hd hcs  (hw bs D kA ad ad0 p l e s m args below meth c A H locs lc X hag hP hD hS hl)
  · cases hf
def pz_o_ineg : pz_O := fun ls st h k n => match st with
  | .int x :: r => some ([], ls, .int (-x) :: r, h, k, n)
  | _ => none
theorem so_ineg {M : pz_M} {pc : Nat} (hd : decode M.2.1 pc = .ok (.ineg, 1)) : pz_S M pc 1 pz_o_ineg := by
  intro d mc ms n0 Post ls st h k n cs ls' st' h' k' n' hd1 hf hcs hk hn hw
  unfold pz_o_ineg at hf
  split at hf
  · cases hf
    intro bs D kA ad ad0 p l e s m args below meth c A H locs lc X hag hP hD hS hl
    exact lv_ineg X.1 X.2.1 hd   (hw bs D kA ad ad0 p l e s m args below meth c A H locs lc X hag hP hD hS hl)
  · cases hf
def pz_o_lneg : pz_O := fun ls st h k n => match st with
  | .long x :: r => some ([], ls, .long (-x) :: r, h, k, n)
  | _ => none
theorem so_lneg {M : pz_M} {pc : Nat} (hd : decode M.2.1 pc = .ok (.lneg, 1)) : pz_S M pc 1 pz_o_lneg := by
  intro d mc ms n0 Post ls st h k n cs ls' st' h' k' n' hd1 hf hcs hk hn hw
  unfold pz_o_lneg at hf
  split at hf
  · cases hf
    intro bs D kA ad ad0 p l e s m args below meth c A H locs lc X hag hP hD hS hl
    exact lv_lneg X.1 X.2.1 hd   (hw bs D kA ad ad0 p l e s m args below meth c A H locs lc X hag hP hD hS hl)
  · cases hf
def pz_o_i2l : pz_O := fun ls st h k n => match st with
  | .int x :: r => some ([], ls, .long x.toInt64 :: r, h, k, n)
  | _ => none
theorem so_i2l {M : pz_M} {pc : Nat} (hd : decode M.2.1 pc = .ok (.i2l, 1)) : pz_S M pc 1 pz_o_i2l := by
  intro d mc ms n0 Post ls st h k n cs ls' st' h' k' n' hd1 hf hcs hk hn hw
  unfold pz_o_i2l at hf
  split at hf
  · cases hf
    intro bs D kA ad ad0 p l e s m args below meth c A H locs lc X hag hP hD hS hl
    exact lv_i2l X.1 X.2.1 hd  rfl (hw bs D kA ad ad0 p l e s m args below meth c A H locs lc X hag hP hD hS hl)
  · cases hf
def pz_o_l2i : pz_O := fun ls st h k n => match st with
  | .long x :: r => some ([], ls, .int x.toInt32 :: r, h, k, n)
  | _ => none
theorem so_l2i {M : pz_M} {pc : Nat} (hd : decode M.2.1 pc = .ok (.l2i, 1)) : pz_S M pc 1 pz_o_l2i := by
  intro d mc ms n0 Post ls st h k n cs ls' st' h' k' n' hd1 hf hcs hk hn hw
  unfold pz_o_l2i at hf
  split at hf
  · cases hf
    intro bs D kA ad ad0 p l e s m args below meth c A H locs lc X hag hP hD hS hl
    exact lv_l2i X.1 X.2.1 hd  rfl (hw bs D kA ad ad0 p l e s m args below meth c A H locs lc X hag hP hD hS hl)
  · cases hf
def pz_o_i2b : pz_O := fun ls st h k n => match st with
  | .int x :: r => some ([], ls, .int x.toInt8.toInt32 :: r, h, k, n)
  | _ => none
theorem so_i2b {M : pz_M} {pc : Nat} (hd : decode M.2.1 pc = .ok (.i2b, 1)) : pz_S M pc 1 pz_o_i2b := by
  intro d mc ms n0 Post ls st h k n cs ls' st' h' k' n' hd1 hf hcs hk hn hw
  unfold pz_o_i2b at hf
  split at hf
  · cases hf
    intro bs D kA ad ad0 p l e s m args below meth c A H locs lc X hag hP hD hS hl
    exact lv_i2b X.1 X.2.1 hd  rfl (hw bs D kA ad ad0 p l e s m args below meth c A H locs lc X hag hP hD hS hl)
  · cases hf
def pz_o_i2c : pz_O := fun ls st h k n => match st with
  | .int x :: r => some ([], ls, .int (x.toUInt32 % 65536).toInt32 :: r, h, k, n)
  | _ => none
theorem so_i2c {M : pz_M} {pc : Nat} (hd : decode M.2.1 pc = .ok (.i2c, 1)) : pz_S M pc 1 pz_o_i2c := by
  intro d mc ms n0 Post ls st h k n cs ls' st' h' k' n' hd1 hf hcs hk hn hw
  unfold pz_o_i2c at hf
  split at hf
  · cases hf
    intro bs D kA ad ad0 p l e s m args below meth c A H locs lc X hag hP hD hS hl
    exact lv_i2c X.1 X.2.1 hd  rfl (hw bs D kA ad ad0 p l e s m args below meth c A H locs lc X hag hP hD hS hl)
  · cases hf
def pz_o_lshl : pz_O := fun ls st h k n => match st with
  | .int y :: .long x :: r => some ([], ls, .long (x <<< (y.toInt64 &&& 63)) :: r, h, k, n)
  | _ => none
theorem so_lshl {M : pz_M} {pc : Nat} (hd : decode M.2.1 pc = .ok (.lshl, 1)) : pz_S M pc 1 pz_o_lshl := by
  intro d mc ms n0 Post ls st h k n cs ls' st' h' k' n' hd1 hf hcs hk hn hw
  unfold pz_o_lshl at hf
  split at hf
  · cases hf
    intro bs D kA ad ad0 p l e s m args below meth c A H locs lc X hag hP hD hS hl
    exact lv_lshl X.1 X.2.1 hd  rfl (hw bs D kA ad ad0 p l e s m args below meth c A H locs lc X hag hP hD hS hl)
  · cases hf
def pz_o_lshr : pz_O := fun ls st h k n => match st with
  | .int y :: .long x :: r => some ([], ls, .long (x >>> (y.toInt64 &&& 63)) :: r, h, k, n)
  | _ => none
theorem so_lshr {M : pz_M} {pc : Nat} (hd : decode M.2.1 pc = .ok (.lshr, 1)) : pz_S M pc 1 pz_o_lshr := by
  intro d mc ms n0 Post ls st h k n cs ls' st' h' k' n' hd1 hf hcs hk hn hw
  unfold pz_o_lshr at hf
  split at hf
  · cases hf
    intro bs D kA ad ad0 p l e s m args below meth c A H locs lc X hag hP hD hS hl
    exact lv_lshr X.1 X.2.1 hd  rfl (hw bs D kA ad ad0 p l e s m args below meth c A H locs lc X hag hP hD hS hl)
  · cases hf
def pz_o_lushr : pz_O := fun ls st h k n => match st with
  | .int y :: .long x :: r => some ([], ls, .long ((x.toUInt64 >>> (y.toInt64.toUInt64 &&& Int64.toUInt64 63)).toInt64) :: r, h, k, n)
  | _ => none
theorem so_lushr {M : pz_M} {pc : Nat} (hd : decode M.2.1 pc = .ok (.lushr, 1)) : pz_S M pc 1 pz_o_lushr := by
  intro d mc ms n0 Post ls st h k n cs ls' st' h' k' n' hd1 hf hcs hk hn hw
  unfold pz_o_lushr at hf
  split at hf
  · cases hf
    intro bs D kA ad ad0 p l e s m args below meth c A H locs lc X hag hP hD hS hl
    exact lv_lushr X.1 X.2.1 hd  rfl (hw bs D kA ad ad0 p l e s m args below meth c A H locs lc X hag hP hD hS hl)
  · cases hf
def pz_o_lcmp : pz_O := fun ls st h k n => match st with
  | .long y :: .long x :: r => some ([], ls, .int (lg_cmp x y) :: r, h, k, n)
  | _ => none
theorem so_lcmp {M : pz_M} {pc : Nat} (hd : decode M.2.1 pc = .ok (.lcmp, 1)) : pz_S M pc 1 pz_o_lcmp := by
  intro d mc ms n0 Post ls st h k n cs ls' st' h' k' n' hd1 hf hcs hk hn hw
  unfold pz_o_lcmp at hf
  split at hf
  · cases hf
    intro bs D kA ad ad0 p l e s m args below meth c A H locs lc X hag hP hD hS hl
    exact W.lcmp X.1 X.2.1 hd   (hw bs D kA ad ad0 p l e s m args below meth c A H locs lc X hag hP hD hS hl)
  · cases hf
def pz_o_dup : pz_O := fun ls st h k n => match st with
  | v :: r => if v.category = 1 then some ([], ls, v :: v :: r, h, k, n) else none
  | _ => none
theorem so_dup {M : pz_M} {pc : Nat} (hd : decode M.2.1 pc = .ok (.dup, 1)) : pz_S M pc 1 pz_o_dup := by
  intro d mc ms n0 Post ls st h k n cs ls' st' h' k' n' hd1 hf hcs hk hn hw
  unfold pz_o_dup at hf
  split at hf
  · split at hf
    · rename_i hc
      cases hf
      intro bs D kA ad ad0 p l e s m args below meth c A H locs lc X hag hP hD hS hl
      exact lv_dup X.1 X.2.1 hd (by rw [pz_v_cat]; exact hc) (hw bs D kA ad ad0 p l e s m args below meth c A H locs lc X hag hP hD hS hl)
    · cases hf
  · cases hf
def pz_o_pop : pz_O := fun ls st h k n => match st with
  | v :: r => if v.category = 1 then some ([], ls, r, h, k, n) else none
  | _ => none
theorem so_pop {M : pz_M} {pc : Nat} (hd : decode M.2.1 pc = .ok (.pop, 1)) : pz_S M pc 1 pz_o_pop := by
  intro d mc ms n0 Post ls st h k n cs ls' st' h' k' n' hd1 hf hcs hk hn hw
  unfold pz_o_pop at hf
  split at hf
  · split at hf
    · rename_i hc
      cases hf
      intro bs D kA ad ad0 p l e s m args below meth c A H locs lc X hag hP hD hS hl
      exact lv_pop X.1 X.2.1 hd (by rw [pz_v_cat]; exact hc) (hw bs D kA ad ad0 p l e s m args below meth c A H locs lc X hag hP hD hS hl)
    · cases hf
  · cases hf
def pz_o_dup2 : pz_O := fun ls st h k n => match st with
  | v :: w :: r => if v.category = 1 ∧ w.category = 1 then some ([], ls, v :: w :: v :: w :: r, h, k, n) else none
  | _ => none
theorem so_dup2 {M : pz_M} {pc : Nat} (hd : decode M.2.1 pc = .ok (.dup2, 1)) : pz_S M pc 1 pz_o_dup2 := by
  intro d mc ms n0 Post ls st h k n cs ls' st' h' k' n' hd1 hf hcs hk hn hw
  unfold pz_o_dup2 at hf
  split at hf
  · split at hf
    · rename_i hc
      cases hf
      intro bs D kA ad ad0 p l e s m args below meth c A H locs lc X hag hP hD hS hl
      exact lv_dup2_11 X.1 X.2.1 hd (by rw [pz_v_cat]; exact hc.1) (by rw [pz_v_cat]; exact hc.2) (hw bs D kA ad ad0 p l e s m args below meth c A H locs lc X hag hP hD hS hl)
    · cases hf
  · cases hf
