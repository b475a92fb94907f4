/-! ===== printed by wip/whole/mk_pv.py: the machine of the law (a script outside the world) ===== -/
def v_pz_X (sL : Nat) (sX : Nat → Int32) (M : pz_M) (bs : Nat) (D : va_G) (kA : Nat → ClassId) (ad : Nat → Nat) (p : Program) (s : State) (m : MethodId) (args : Array Value) (meth : Method) (c : Code) (A : Nat → Prop) : Prop :=
  pz_X M bs D kA ad p s m args meth c A ∧ ¬ A (ad 1010) ∧ ad 1010 < s.heap.size ∧ va_X (ad 1010) sL sX s s.heap
theorem v_pz_X_like {sL : Nat} {sX : Nat → Int32} {M : pz_M} {bs j : Nat} {D : va_G} {kA : Nat → ClassId} {ad ad' : Nat → Nat} {p : Program} {s : State} {m : MethodId} {args : Array Value} {meth : Method} {c : Code} {A : Nat → Prop} (hl : pz_like j ad ad') (X : v_pz_X sL sX M bs D kA ad p s m args meth c A) : v_pz_X sL sX M bs D kA ad' p s m args meth c A := by
  obtain ⟨x, y⟩ := X
  refine ⟨pz_X_like hl x, ?_⟩
  rw [hl 1010 (Or.inr (by omega))]
  exact y
section
variable {sL : Nat} {sX : Nat → Int32}
def v_pz_W (sL : Nat) (sX : Nat → Int32) (M : pz_M) (d mc ms n0 : Nat) (Post : Option Value → pz_H → Prop) (pc : Nat) (ls : pz_L) (st : List Value) (h : pz_H) (k n : Nat) : Prop :=
  ∀ (bs : Nat) (D : va_G) (kA : Nat → ClassId) (ad ad0 : Nat → Nat) (p : Program) (l : pz_Ln) (e : Env) (s : State) (m : MethodId) (args : Array Value) (below : List Frame) (meth : Method) (c : Code) (A : Nat → Prop) (H : Heap) (locs : List Loc) (lc : Array Slot),
    v_pz_X sL sX M bs D kA ad p s m args meth c A → pz_ag n0 h ad ad0 → va_P D vwCl (pz_w ad kA h) H → va_D A (pz_w ad kA h) → va_S A s.heap H locs → lv_has lc M.2.2.1 (pz_l ad ls) →
    W p l.1 e (pz_R d mc ms) s m args below meth c H locs k n (vx_MQ below (pz_Q D kA ad0 n0 Post A) (pz_XC M D kA ad0 n0 Post A) args s mc ms A) (F0 m pc lc (st.map (pz_v ad)))
def v_pz_S (sL : Nat) (sX : Nat → Int32) (M : pz_M) (pc len : Nat) (f : pz_O) : Prop := ∀ (d mc ms n0 : Nat) (Post : Option Value → pz_H → Prop) (ls : pz_L) (st : List Value) (h : pz_H) (k n : Nat) (cs : List Prop) (ls' : pz_L) (st' : List Value) (h' : pz_H) (k' n' : Nat),
  1 ≤ d → f ls st h k n = some (cs, ls', st', h', k', n') → pz_all cs → k' ≤ mc → n' ≤ ms → v_pz_W sL sX M d mc ms n0 Post (pc + len) ls' st' h' k' n' → v_pz_W sL sX M d mc ms n0 Post pc ls st h k n

theorem v_so_none {M : pz_M} {pc len : Nat} : v_pz_S sL sX M pc len pz_on := by
  intro d mc ms n0 Post ls st h k n cs ls' st' h' k' n' hd1 hf hcs hk hn hw
  cases hf
theorem v_so_iconst {M : pz_M} {pc : Nat} {v : Int32} {i : Int} (hd : decode M.2.1 pc = .ok (.iconst i, 1)) (hv : Int32.ofInt i = v) : v_pz_S sL sX M pc 1 (pz_oc (.int v)) := by
  intro d mc ms n0 Post ls st h k n cs ls' st' h' k' n' hd1 hf hcs hk hn hw
  cases hf
  intro bs D kA ad ad0 p l e s m args below meth c A H locs lc X0 hag hP hD hS hl
  have X := X0.1
  exact lv_iconst X.1 X.2.1 hd hv (hw bs D kA ad ad0 p l e s m args below meth c A H locs lc X0 hag hP hD hS hl)
theorem v_so_bipush {M : pz_M} {pc : Nat} {v : Int32} {i : Int} (hd : decode M.2.1 pc = .ok (.bipush i, 2)) (hv : (Int8.ofInt i).toInt32 = v) : v_pz_S sL sX M pc 2 (pz_oc (.int v)) := by
  intro d mc ms n0 Post ls st h k n cs ls' st' h' k' n' hd1 hf hcs hk hn hw
  cases hf
  intro bs D kA ad ad0 p l e s m args below meth c A H locs lc X0 hag hP hD hS hl
  have X := X0.1
  exact lv_bipush X.1 X.2.1 hd hv (hw bs D kA ad ad0 p l e s m args below meth c A H locs lc X0 hag hP hD hS hl)
theorem v_so_sipush {M : pz_M} {pc : Nat} {v : Int32} {i : Int} (hd : decode M.2.1 pc = .ok (.sipush i, 3)) (hv : (Int16.ofInt i).toInt32 = v) : v_pz_S sL sX M pc 3 (pz_oc (.int v)) := by
  intro d mc ms n0 Post ls st h k n cs ls' st' h' k' n' hd1 hf hcs hk hn hw
  cases hf
  intro bs D kA ad ad0 p l e s m args below meth c A H locs lc X0 hag hP hD hS hl
  have X := X0.1
  exact lv_sipush X.1 X.2.1 hd hv (hw bs D kA ad ad0 p l e s m args below meth c A H locs lc X0 hag hP hD hS hl)
theorem v_so_lconst {M : pz_M} {pc : Nat} {v : Int64} {i : _root_.Fin 2} (hd : decode M.2.1 pc = .ok (.lconst i, 1)) (hv : Int64.ofNat (i : Nat) = v) : v_pz_S sL sX M pc 1 (pz_oc (.long v)) := by
  intro d mc ms n0 Post ls st h k n cs ls' st' h' k' n' hd1 hf hcs hk hn hw
  cases hf
  intro bs D kA ad ad0 p l e s m args below meth c A H locs lc X0 hag hP hD hS hl
  have X := X0.1
  exact lv_lconst X.1 X.2.1 hd hv (hw bs D kA ad ad0 p l e s m args below meth c A H locs lc X0 hag hP hD hS hl)
theorem v_so_ldc {M : pz_M} {pc : Nat} {v : Int32} {i : Nat} (hw0 : Cond.constant M.1.cls i v ∈ pz_gw) (hd : decode M.2.1 pc = .ok (.ldc i, 2)) : v_pz_S sL sX M pc 2 (pz_oc (.int v)) := by
  intro d mc ms n0 Post ls st h k n cs ls' st' h' k' n' hd1 hf hcs hk hn hw
  cases hf
  intro bs D kA ad ad0 p l e s m args below meth c A H locs lc X0 hag hP hD hS hl
  have X := X0.1
  exact lv_ldc X.1 X.2.1 X.2.2.2.2.1 (X.2.2.2.2.2.1 _ hw0) hd (hw bs D kA ad ad0 p l e s m args below meth c A H locs lc X0 hag hP hD hS hl)
theorem v_so_ldcw {M : pz_M} {pc : Nat} {v : Int32} {i : Nat} (hw0 : Cond.constant M.1.cls i v ∈ pz_gw) (hd : decode M.2.1 pc = .ok (.ldc_w i, 3)) : v_pz_S sL sX M pc 3 (pz_oc (.int v)) := by
  intro d mc ms n0 Post ls st h k n cs ls' st' h' k' n' hd1 hf hcs hk hn hw
  cases hf
  intro bs D kA ad ad0 p l e s m args below meth c A H locs lc X0 hag hP hD hS hl
  have X := X0.1
  exact lv_ldcw X.1 X.2.1 X.2.2.2.2.1 (X.2.2.2.2.2.1 _ hw0) hd (hw bs D kA ad ad0 p l e s m args below meth c A H locs lc X0 hag hP hD hS hl)
theorem v_so_ldc2 {M : pz_M} {pc : Nat} {v : Int64} {i : Nat} (hw0 : Cond.constantLong M.1.cls i v ∈ pz_gw) (hd : decode M.2.1 pc = .ok (.ldc2_w i, 3)) : v_pz_S sL sX M pc 3 (pz_oc (.long v)) := by
  intro d mc ms n0 Post ls st h k n cs ls' st' h' k' n' hd1 hf hcs hk hn hw
  cases hf
  intro bs D kA ad ad0 p l e s m args below meth c A H locs lc X0 hag hP hD hS hl
  have X := X0.1
  exact lv_ldc2 X.1 X.2.1 X.2.2.2.2.1 (X.2.2.2.2.2.1 _ hw0) hd (hw bs D kA ad ad0 p l e s m args below meth c A H locs lc X0 hag hP hD hS hl)
theorem v_so_iload_n {M : pz_M} {pc : Nat} {j : _root_.Fin 4} {i : Nat} (hd : decode M.2.1 pc = .ok (.iload_n j, 1)) (hj : (j : Nat) = i) : v_pz_S sL sX M pc 1 (pz_oild i) := by
  intro d mc ms n0 Post ls st h k n cs ls' st' h' k' n' hd1 hf hcs hk hn hw
  unfold pz_oild at hf
  split at hf
  · rename_i x hg
    cases hf
    intro bs D kA ad ad0 p l e s m args below meth c A H locs lc X0 hag hP hD hS hl
    have X := X0.1
    exact lv_iload_n X.1 X.2.1 hd hj (pz_l_at hl hg) (hw bs D kA ad ad0 p l e s m args below meth c A H locs lc X0 hag hP hD hS hl)
  · cases hf
theorem v_so_iload {M : pz_M} {pc : Nat} {i : Nat} (hd : decode M.2.1 pc = .ok (.iload i, 2)) : v_pz_S sL sX M pc 2 (pz_oild i) := by
  intro d mc ms n0 Post ls st h k n cs ls' st' h' k' n' hd1 hf hcs hk hn hw
  unfold pz_oild at hf
  split at hf
  · rename_i x hg
    cases hf
    intro bs D kA ad ad0 p l e s m args below meth c A H locs lc X0 hag hP hD hS hl
    have X := X0.1
    exact lv_iload X.1 X.2.1 hd (pz_l_at hl hg) (hw bs D kA ad ad0 p l e s m args below meth c A H locs lc X0 hag hP hD hS hl)
  · cases hf
theorem v_so_lload_n {M : pz_M} {pc : Nat} {j : _root_.Fin 4} {i : Nat} (hd : decode M.2.1 pc = .ok (.lload_n j, 1)) (hj : (j : Nat) = i) : v_pz_S sL sX M pc 1 (pz_olld i) := by
  intro d mc ms n0 Post ls st h k n cs ls' st' h' k' n' hd1 hf hcs hk hn hw
  unfold pz_olld at hf
  split at hf
  · rename_i x hg
    cases hf
    intro bs D kA ad ad0 p l e s m args below meth c A H locs lc X0 hag hP hD hS hl
    have X := X0.1
    exact lv_lload_n X.1 X.2.1 hd hj (pz_l_at hl hg) (hw bs D kA ad ad0 p l e s m args below meth c A H locs lc X0 hag hP hD hS hl)
  · cases hf
theorem v_so_lload {M : pz_M} {pc : Nat} {i : Nat} (hd : decode M.2.1 pc = .ok (.lload i, 2)) : v_pz_S sL sX M pc 2 (pz_olld i) := by
  intro d mc ms n0 Post ls st h k n cs ls' st' h' k' n' hd1 hf hcs hk hn hw
  unfold pz_olld at hf
  split at hf
  · rename_i x hg
    cases hf
    intro bs D kA ad ad0 p l e s m args below meth c A H locs lc X0 hag hP hD hS hl
    have X := X0.1
    exact lv_lload X.1 X.2.1 hd (pz_l_at hl hg) (hw bs D kA ad ad0 p l e s m args below meth c A H locs lc X0 hag hP hD hS hl)
  · cases hf
theorem v_so_aload_n {M : pz_M} {pc : Nat} {j : _root_.Fin 4} {i : Nat} (hd : decode M.2.1 pc = .ok (.aload_n j, 1)) (hj : (j : Nat) = i) : v_pz_S sL sX M pc 1 (pz_oald i) := by
  intro d mc ms n0 Post ls st h k n cs ls' st' h' k' n' hd1 hf hcs hk hn hw
  unfold pz_oald at hf
  split at hf
  · rename_i x hg
    cases hf
    intro bs D kA ad ad0 p l e s m args below meth c A H locs lc X0 hag hP hD hS hl
    have X := X0.1
    exact lv_aload_n X.1 X.2.1 hd hj (pz_l_at hl hg) (hw bs D kA ad ad0 p l e s m args below meth c A H locs lc X0 hag hP hD hS hl)
  · cases hf
theorem v_so_aload {M : pz_M} {pc : Nat} {i : Nat} (hd : decode M.2.1 pc = .ok (.aload i, 2)) : v_pz_S sL sX M pc 2 (pz_oald i) := by
  intro d mc ms n0 Post ls st h k n cs ls' st' h' k' n' hd1 hf hcs hk hn hw
  unfold pz_oald at hf
  split at hf
  · rename_i x hg
    cases hf
    intro bs D kA ad ad0 p l e s m args below meth c A H locs lc X0 hag hP hD hS hl
    have X := X0.1
    exact lv_aload X.1 X.2.1 hd (pz_l_at hl hg) (hw bs D kA ad ad0 p l e s m args below meth c A H locs lc X0 hag hP hD hS hl)
  · cases hf
theorem v_so_istore_n {M : pz_M} {pc : Nat} {j : _root_.Fin 4} {i : Nat} (hd : decode M.2.1 pc = .ok (.istore_n j, 1)) (hj : (j : Nat) = i) : v_pz_S sL sX M pc 1 (pz_oist M.2.2.1 i) := by
  intro d mc ms n0 Post ls st h k n cs ls' st' h' k' n' hd1 hf hcs hk hn hw
  unfold pz_oist at hf
  split at hf
  · split at hf
    · rename_i hi
      cases hf
      intro bs D kA ad ad0 p l e s m args below meth c A H locs lc X0 hag hP hD hS hl
      have X := X0.1
      exact lv_istore_n X.1 X.2.1 hd hj hl hi rfl (fun lc' hl' => hw bs D kA ad ad0 p l e s m args below meth c A H locs lc' X0 hag hP hD hS (pz_has_sub hl' (fun q hq => pz_l_set1 hq)))
    · cases hf
  · cases hf
theorem v_so_istore {M : pz_M} {pc : Nat} {i : Nat} (hd : decode M.2.1 pc = .ok (.istore i, 2)) : v_pz_S sL sX M pc 2 (pz_oist M.2.2.1 i) := by
  intro d mc ms n0 Post ls st h k n cs ls' st' h' k' n' hd1 hf hcs hk hn hw
  unfold pz_oist at hf
  split at hf
  · split at hf
    · rename_i hi
      cases hf
      intro bs D kA ad ad0 p l e s m args below meth c A H locs lc X0 hag hP hD hS hl
      have X := X0.1
      exact lv_istore X.1 X.2.1 hd hl hi rfl (fun lc' hl' => hw bs D kA ad ad0 p l e s m args below meth c A H locs lc' X0 hag hP hD hS (pz_has_sub hl' (fun q hq => pz_l_set1 hq)))
    · cases hf
  · cases hf
theorem v_so_lstore_n {M : pz_M} {pc : Nat} {j : _root_.Fin 4} {i : Nat} (hd : decode M.2.1 pc = .ok (.lstore_n j, 1)) (hj : (j : Nat) = i) : v_pz_S sL sX M pc 1 (pz_olst M.2.2.1 i) := by
  intro d mc ms n0 Post ls st h k n cs ls' st' h' k' n' hd1 hf hcs hk hn hw
  unfold pz_olst at hf
  split at hf
  · split at hf
    · rename_i hi
      cases hf
      intro bs D kA ad ad0 p l e s m args below meth c A H locs lc X0 hag hP hD hS hl
      have X := X0.1
      exact lv_lstore_n X.1 X.2.1 hd hj hl hi rfl (fun lc' hl' => hw bs D kA ad ad0 p l e s m args below meth c A H locs lc' X0 hag hP hD hS (pz_has_sub hl' (fun q hq => pz_l_set2 hq)))
    · cases hf
  · cases hf
theorem v_so_lstore {M : pz_M} {pc : Nat} {i : Nat} (hd : decode M.2.1 pc = .ok (.lstore i, 2)) : v_pz_S sL sX M pc 2 (pz_olst M.2.2.1 i) := by
  intro d mc ms n0 Post ls st h k n cs ls' st' h' k' n' hd1 hf hcs hk hn hw
  unfold pz_olst at hf
  split at hf
  · split at hf
    · rename_i hi
      cases hf
      intro bs D kA ad ad0 p l e s m args below meth c A H locs lc X0 hag hP hD hS hl
      have X := X0.1
      exact lv_lstore X.1 X.2.1 hd hl hi rfl (fun lc' hl' => hw bs D kA ad ad0 p l e s m args below meth c A H locs lc' X0 hag hP hD hS (pz_has_sub hl' (fun q hq => pz_l_set2 hq)))
    · cases hf
  · cases hf
theorem v_so_astore_n {M : pz_M} {pc : Nat} {j : _root_.Fin 4} {i : Nat} (hd : decode M.2.1 pc = .ok (.astore_n j, 1)) (hj : (j : Nat) = i) : v_pz_S sL sX M pc 1 (pz_oast M.2.2.1 i) := by
  intro d mc ms n0 Post ls st h k n cs ls' st' h' k' n' hd1 hf hcs hk hn hw
  unfold pz_oast at hf
  split at hf
  · split at hf
    · rename_i hi
      cases hf
      intro bs D kA ad ad0 p l e s m args below meth c A H locs lc X0 hag hP hD hS hl
      have X := X0.1
      exact lv_astore_n X.1 X.2.1 hd hj hl hi rfl (fun lc' hl' => hw bs D kA ad ad0 p l e s m args below meth c A H locs lc' X0 hag hP hD hS (pz_has_sub hl' (fun q hq => pz_l_set1 hq)))
    · cases hf
  · cases hf
theorem v_so_astore {M : pz_M} {pc : Nat} {i : Nat} (hd : decode M.2.1 pc = .ok (.astore i, 2)) : v_pz_S sL sX M pc 2 (pz_oast M.2.2.1 i) := by
  intro d mc ms n0 Post ls st h k n cs ls' st' h' k' n' hd1 hf hcs hk hn hw
  unfold pz_oast at hf
  split at hf
  · split at hf
    · rename_i hi
      cases hf
      intro bs D kA ad ad0 p l e s m args below meth c A H locs lc X0 hag hP hD hS hl
      have X := X0.1
      exact lv_astore X.1 X.2.1 hd hl hi rfl (fun lc' hl' => hw bs D kA ad ad0 p l e s m args below meth c A H locs lc' X0 hag hP hD hS (pz_has_sub hl' (fun q hq => pz_l_set1 hq)))
    · cases hf
  · cases hf
theorem v_so_iinc {M : pz_M} {pc i : Nat} {c0 : Int} {v : Int32} (hd : decode M.2.1 pc = .ok (.iinc i c0, 3)) (hv : Int32.ofInt c0 = v) : v_pz_S sL sX M pc 3 (pz_oinc M.2.2.1 i (.int v)) := by
  intro d mc ms n0 Post ls st h k n cs ls' st' h' k' n' hd1 hf hcs hk hn hw
  unfold pz_oinc at hf
  split at hf
  · rename_i v1 x e1 hg
    cases e1
    split at hf
    · rename_i hi
      cases hf
      intro bs D kA ad ad0 p l e s m args below meth c A H locs lc X0 hag hP hD hS hl
      have X := X0.1
      obtain ⟨j, hj⟩ := List.getElem?_of_mem (pz_l_mem (ad := ad) (pz_get_mem hg))
      exact lv_iinc X.1 X.2.1 hd hl hj (by rw [hv]) hi rfl (fun lc' hl' => hw bs D kA ad ad0 p l e s m args below meth c A H locs lc' X0 hag hP hD hS (pz_has_sub hl' (fun q hq => pz_l_set1 hq)))
    · cases hf
  · cases hf
theorem v_so_iadd {M : pz_M} {pc : Nat} (hd : decode M.2.1 pc = .ok (.iadd, 1)) : v_pz_S sL sX M pc 1 pz_o_iadd := by
  intro d mc ms n0 Post ls st h k n cs ls' st' h' k' n' hd1 hf hcs hk hn hw
  unfold pz_o_iadd at hf
  split at hf
  · cases hf
    intro bs D kA ad ad0 p l e s m args below meth c A H locs lc X0 hag hP hD hS hl
    have X := X0.1
    exact lv_iadd X.1 X.2.1 hd   (hw bs D kA ad ad0 p l e s m args below meth c A H locs lc X0 hag hP hD hS hl)
  · cases hf
theorem v_so_isub {M : pz_M} {pc : Nat} (hd : decode M.2.1 pc = .ok (.isub, 1)) : v_pz_S sL sX M pc 1 pz_o_isub := by
  intro d mc ms n0 Post ls st h k n cs ls' st' h' k' n' hd1 hf hcs hk hn hw
  unfold pz_o_isub at hf
  split at hf
  · cases hf
    intro bs D kA ad ad0 p l e s m args below meth c A H locs lc X0 hag hP hD hS hl
    have X := X0.1
    exact lv_isub X.1 X.2.1 hd   (hw bs D kA ad ad0 p l e s m args below meth c A H locs lc X0 hag hP hD hS hl)
  · cases hf
theorem v_so_imul {M : pz_M} {pc : Nat} (hd : decode M.2.1 pc = .ok (.imul, 1)) : v_pz_S sL sX M pc 1 pz_o_imul := by
  intro d mc ms n0 Post ls st h k n cs ls' st' h' k' n' hd1 hf hcs hk hn hw
  unfold pz_o_imul at hf
  split at hf
  · cases hf
    intro bs D kA ad ad0 p l e s m args below meth c A H locs lc X0 hag hP hD hS hl
    have X := X0.1
    exact lv_imul X.1 X.2.1 hd   (hw bs D kA ad ad0 p l e s m args below meth c A H locs lc X0 hag hP hD hS hl)
  · cases hf
theorem v_so_iand {M : pz_M} {pc : Nat} (hd : decode M.2.1 pc = .ok (.iand, 1)) : v_pz_S sL sX M pc 1 pz_o_iand := by
  intro d mc ms n0 Post ls st h k n cs ls' st' h' k' n' hd1 hf hcs hk hn hw
  unfold pz_o_iand at hf
  split at hf
  · cases hf
    intro bs D kA ad ad0 p l e s m args below meth c A H locs lc X0 hag hP hD hS hl
    have X := X0.1
    exact lv_iand X.1 X.2.1 hd   (hw bs D kA ad ad0 p l e s m args below meth c A H locs lc X0 hag hP hD hS hl)
  · cases hf
theorem v_so_ior {M : pz_M} {pc : Nat} (hd : decode M.2.1 pc = .ok (.ior, 1)) : v_pz_S sL sX M pc 1 pz_o_ior := by
  intro d mc ms n0 Post ls st h k n cs ls' st' h' k' n' hd1 hf hcs hk hn hw
  unfold pz_o_ior at hf
  split at hf
  · cases hf
    intro bs D kA ad ad0 p l e s m args below meth c A H locs lc X0 hag hP hD hS hl
    have X := X0.1
    exact lv_ior X.1 X.2.1 hd   (hw bs D kA ad ad0 p l e s m args below meth c A H locs lc X0 hag hP hD hS hl)
  · cases hf
theorem v_so_ixor {M : pz_M} {pc : Nat} (hd : decode M.2.1 pc = .ok (.ixor, 1)) : v_pz_S sL sX M pc 1 pz_o_ixor := by
  intro d mc ms n0 Post ls st h k n cs ls' st' h' k' n' hd1 hf hcs hk hn hw
  unfold pz_o_ixor at hf
  split at hf
  · cases hf
    intro bs D kA ad ad0 p l e s m args below meth c A H locs lc X0 hag hP hD hS hl
    have X := X0.1
    exact lv_ixor X.1 X.2.1 hd   (hw bs D kA ad ad0 p l e s m args below meth c A H locs lc X0 hag hP hD hS hl)
  · cases hf
theorem v_so_ishl {M : pz_M} {pc : Nat} (hd : decode M.2.1 pc = .ok (.ishl, 1)) : v_pz_S sL sX M pc 1 pz_o_ishl := by
  intro d mc ms n0 Post ls st h k n cs ls' st' h' k' n' hd1 hf hcs hk hn hw
  unfold pz_o_ishl at hf
  split at hf
  · cases hf
    intro bs D kA ad ad0 p l e s m args below meth c A H locs lc X0 hag hP hD hS hl
    have X := X0.1
    exact lv_ishl X.1 X.2.1 hd   (hw bs D kA ad ad0 p l e s m args below meth c A H locs lc X0 hag hP hD hS hl)
  · cases hf
theorem v_so_ishr {M : pz_M} {pc : Nat} (hd : decode M.2.1 pc = .ok (.ishr, 1)) : v_pz_S sL sX M pc 1 pz_o_ishr := by
  intro d mc ms n0 Post ls st h k n cs ls' st' h' k' n' hd1 hf hcs hk hn hw
  unfold pz_o_ishr at hf
  split at hf
  · cases hf
    intro bs D kA ad ad0 p l e s m args below meth c A H locs lc X0 hag hP hD hS hl
    have X := X0.1
    exact lv_ishr X.1 X.2.1 hd   (hw bs D kA ad ad0 p l e s m args below meth c A H locs lc X0 hag hP hD hS hl)
  · cases hf
theorem v_so_iushr {M : pz_M} {pc : Nat} (hd : decode M.2.1 pc = .ok (.iushr, 1)) : v_pz_S sL sX M pc 1 pz_o_iushr := by
  intro d mc ms n0 Post ls st h k n cs ls' st' h' k' n' hd1 hf hcs hk hn hw
  unfold pz_o_iushr at hf
  split at hf
  · cases hf
    intro bs D kA ad ad0 p l e s m args below meth c A H locs lc X0 hag hP hD hS hl
    have X := X0.1
    exact lv_iushr X.1 X.2.1 hd  rfl (hw bs D kA ad ad0 p l e s m args below meth c A H locs lc X0 hag hP hD hS hl)
  · cases hf
theorem v_so_ladd {M : pz_M} {pc : Nat} (hd : decode M.2.1 pc = .ok (.ladd, 1)) : v_pz_S sL sX M pc 1 pz_o_ladd := by
  intro d mc ms n0 Post ls st h k n cs ls' st' h' k' n' hd1 hf hcs hk hn hw
  unfold pz_o_ladd at hf
  split at hf
  · cases hf
    intro bs D kA ad ad0 p l e s m args below meth c A H locs lc X0 hag hP hD hS hl
    have X := X0.1
    exact lv_ladd X.1 X.2.1 hd   (hw bs D kA ad ad0 p l e s m args below meth c A H locs lc X0 hag hP hD hS hl)
  · cases hf
theorem v_so_lsub {M : pz_M} {pc : Nat} (hd : decode M.2.1 pc = .ok (.lsub, 1)) : v_pz_S sL sX M pc 1 pz_o_lsub := by
  intro d mc ms n0 Post ls st h k n cs ls' st' h' k' n' hd1 hf hcs hk hn hw
  unfold pz_o_lsub at hf
  split at hf
  · cases hf
    intro bs D kA ad ad0 p l e s m args below meth c A H locs lc X0 hag hP hD hS hl
    have X := X0.1
    exact lv_lsub X.1 X.2.1 hd   (hw bs D kA ad ad0 p l e s m args below meth c A H locs lc X0 hag hP hD hS hl)
  · cases hf
theorem v_so_lmul {M : pz_M} {pc : Nat} (hd : decode M.2.1 pc = .ok (.lmul, 1)) : v_pz_S sL sX M pc 1 pz_o_lmul := by
  intro d mc ms n0 Post ls st h k n cs ls' st' h' k' n' hd1 hf hcs hk hn hw
  unfold pz_o_lmul at hf
  split at hf
  · cases hf
    intro bs D kA ad ad0 p l e s m args below meth c A H locs lc X0 hag hP hD hS hl
    have X := X0.1
    exact lv_lmul X.1 X.2.1 hd   (hw bs D kA ad ad0 p l e s m args below meth c A H locs lc X0 hag hP hD hS hl)
  · cases hf
theorem v_so_land {M : pz_M} {pc : Nat} (hd : decode M.2.1 pc = .ok (.land, 1)) : v_pz_S sL sX M pc 1 pz_o_land := by
  intro d mc ms n0 Post ls st h k n cs ls' st' h' k' n' hd1 hf hcs hk hn hw
  unfold pz_o_land at hf
  split at hf
  · cases hf
    intro bs D kA ad ad0 p l e s m args below meth c A H locs lc X0 hag hP hD hS hl
    have X := X0.1
    exact lv_land X.1 X.2.1 hd   (hw bs D kA ad ad0 p l e s m args below meth c A H locs lc X0 hag hP hD hS hl)
  · cases hf
theorem v_so_lor {M : pz_M} {pc : Nat} (hd : decode M.2.1 pc = .ok (.lor, 1)) : v_pz_S sL sX M pc 1 pz_o_lor := by
  intro d mc ms n0 Post ls st h k n cs ls' st' h' k' n' hd1 hf hcs hk hn hw
  unfold pz_o_lor at hf
  split at hf
  · cases hf
    intro bs D kA ad ad0 p l e s m args below meth c A H locs lc X0 hag hP hD hS hl
    have X := X0.1
    exact lv_lor X.1 X.2.1 hd   (hw bs D kA ad ad0 p l e s m args below meth c A H locs lc X0 hag hP hD hS hl)
  · cases hf
theorem v_so_lxor {M : pz_M} {pc : Nat} (hd : decode M.2.1 pc = .ok (.lxor, 1)) : v_pz_S sL sX M pc 1 pz_o_lxor := by
  intro d mc ms n0 Post ls st h k n cs ls' st' h' k' n' hd1 hf hcs hk hn hw
  unfold pz_o_lxor at hf
  split at hf
  · cases hf
    intro bs D kA ad ad0 p l e s m args below meth c A H locs lc X0 hag hP hD hS hl
    have X := X0.1
    exact lv_lxor X.1 X.2.1 hd   (hw bs D kA ad ad0 p l e s m args below meth c A H locs lc X0 hag hP hD hS hl)
  · cases hf
theorem v_so_idiv {M : pz_M} {pc : Nat} (hd : decode M.2.1 pc = .ok (.idiv, 1)) : v_pz_S sL sX M pc 1 pz_o_idiv := by
  intro d mc ms n0 Post ls st h k n cs ls' st' h' k' n' hd1 hf hcs hk hn hw
  unfold pz_o_idiv at hf
  split at hf
  · cases hf
    intro bs D kA ad ad0 p l e s m args below meth c A H locs lc X0 hag hP hD hS hl
    have X := X0.1
    exact lv_idiv X.1 X.2.1 hd hcs  (hw bs D kA ad ad0 p l e s m args below meth c A H locs lc X0 hag hP hD hS hl)
  · cases hf
theorem v_so_irem {M : pz_M} {pc : Nat} (hd : decode M.2.1 pc = .ok (.irem, 1)) : v_pz_S sL sX M pc 1 pz_o_irem := by
  intro d mc ms n0 Post ls st h k n cs ls' st' h' k' n' hd1 hf hcs hk hn hw
  unfold pz_o_irem at hf
  split at hf
  · cases hf
    intro bs D kA ad ad0 p l e s m args below meth c A H locs lc X0 hag hP hD hS hl
    have X := X0.1
    exact lv_irem X.1 X.2.1 hd hcs  (hw bs D kA ad ad0 p l e s m args below meth c A H locs lc X0 hag hP hD hS hl)
  · cases hf
theorem v_so_ldiv {M : pz_M} {pc : Nat} (hd : decode M.2.1 pc = .ok (.ldiv, 1)) : v_pz_S sL sX M pc 1 pz_o_ldiv := by
  intro d mc ms n0 Post ls st h k n cs ls' st' h' k' n' hd1 hf hcs hk hn hw
  unfold pz_o_ldiv at hf
  split at hf
  · cases hf
    intro bs D kA ad ad0 p l e s m args below meth c A H locs lc X0 hag hP hD hS hl
    have X := X0.1
    exact lv_ldiv X.1 X.2.1 hd hcs  (hw bs D kA ad ad0 p l e s m args below meth c A H locs lc X0 hag hP hD hS hl)
  · cases hf
theorem v_so_ineg {M : pz_M} {pc : Nat} (hd : decode M.2.1 pc = .ok (.ineg, 1)) : v_pz_S sL sX M pc 1 pz_o_ineg := by
  intro d mc ms n0 Post ls st h k n cs ls' st' h' k' n' hd1 hf hcs hk hn hw
  unfold pz_o_ineg at hf
  split at hf
  · cases hf
    intro bs D kA ad ad0 p l e s m args below meth c A H locs lc X0 hag hP hD hS hl
    have X := X0.1
    exact lv_ineg X.1 X.2.1 hd   (hw bs D kA ad ad0 p l e s m args below meth c A H locs lc X0 hag hP hD hS hl)
  · cases hf
theorem v_so_lneg {M : pz_M} {pc : Nat} (hd : decode M.2.1 pc = .ok (.lneg, 1)) : v_pz_S sL sX M pc 1 pz_o_lneg := by
  intro d mc ms n0 Post ls st h k n cs ls' st' h' k' n' hd1 hf hcs hk hn hw
  unfold pz_o_lneg at hf
  split at hf
  · cases hf
    intro bs D kA ad ad0 p l e s m args below meth c A H locs lc X0 hag hP hD hS hl
    have X := X0.1
    exact lv_lneg X.1 X.2.1 hd   (hw bs D kA ad ad0 p l e s m args below meth c A H locs lc X0 hag hP hD hS hl)
  · cases hf
theorem v_so_i2l {M : pz_M} {pc : Nat} (hd : decode M.2.1 pc = .ok (.i2l, 1)) : v_pz_S sL sX M pc 1 pz_o_i2l := by
  intro d mc ms n0 Post ls st h k n cs ls' st' h' k' n' hd1 hf hcs hk hn hw
  unfold pz_o_i2l at hf
  split at hf
  · cases hf
    intro bs D kA ad ad0 p l e s m args below meth c A H locs lc X0 hag hP hD hS hl
    have X := X0.1
    exact lv_i2l X.1 X.2.1 hd  rfl (hw bs D kA ad ad0 p l e s m args below meth c A H locs lc X0 hag hP hD hS hl)
  · cases hf
theorem v_so_l2i {M : pz_M} {pc : Nat} (hd : decode M.2.1 pc = .ok (.l2i, 1)) : v_pz_S sL sX M pc 1 pz_o_l2i := by
  intro d mc ms n0 Post ls st h k n cs ls' st' h' k' n' hd1 hf hcs hk hn hw
  unfold pz_o_l2i at hf
  split at hf
  · cases hf
    intro bs D kA ad ad0 p l e s m args below meth c A H locs lc X0 hag hP hD hS hl
    have X := X0.1
    exact lv_l2i X.1 X.2.1 hd  rfl (hw bs D kA ad ad0 p l e s m args below meth c A H locs lc X0 hag hP hD hS hl)
  · cases hf
theorem v_so_i2b {M : pz_M} {pc : Nat} (hd : decode M.2.1 pc = .ok (.i2b, 1)) : v_pz_S sL sX M pc 1 pz_o_i2b := by
  intro d mc ms n0 Post ls st h k n cs ls' st' h' k' n' hd1 hf hcs hk hn hw
  unfold pz_o_i2b at hf
  split at hf
  · cases hf
    intro bs D kA ad ad0 p l e s m args below meth c A H locs lc X0 hag hP hD hS hl
    have X := X0.1
    exact lv_i2b X.1 X.2.1 hd  rfl (hw bs D kA ad ad0 p l e s m args below meth c A H locs lc X0 hag hP hD hS hl)
  · cases hf
theorem v_so_i2c {M : pz_M} {pc : Nat} (hd : decode M.2.1 pc = .ok (.i2c, 1)) : v_pz_S sL sX M pc 1 pz_o_i2c := by
  intro d mc ms n0 Post ls st h k n cs ls' st' h' k' n' hd1 hf hcs hk hn hw
  unfold pz_o_i2c at hf
  split at hf
  · cases hf
    intro bs D kA ad ad0 p l e s m args below meth c A H locs lc X0 hag hP hD hS hl
    have X := X0.1
    exact lv_i2c X.1 X.2.1 hd  rfl (hw bs D kA ad ad0 p l e s m args below meth c A H locs lc X0 hag hP hD hS hl)
  · cases hf
theorem v_so_lshl {M : pz_M} {pc : Nat} (hd : decode M.2.1 pc = .ok (.lshl, 1)) : v_pz_S sL sX M pc 1 pz_o_lshl := by
  intro d mc ms n0 Post ls st h k n cs ls' st' h' k' n' hd1 hf hcs hk hn hw
  unfold pz_o_lshl at hf
  split at hf
  · cases hf
    intro bs D kA ad ad0 p l e s m args below meth c A H locs lc X0 hag hP hD hS hl
    have X := X0.1
    exact lv_lshl X.1 X.2.1 hd  rfl (hw bs D kA ad ad0 p l e s m args below meth c A H locs lc X0 hag hP hD hS hl)
  · cases hf
theorem v_so_lshr {M : pz_M} {pc : Nat} (hd : decode M.2.1 pc = .ok (.lshr, 1)) : v_pz_S sL sX M pc 1 pz_o_lshr := by
  intro d mc ms n0 Post ls st h k n cs ls' st' h' k' n' hd1 hf hcs hk hn hw
  unfold pz_o_lshr at hf
  split at hf
  · cases hf
    intro bs D kA ad ad0 p l e s m args below meth c A H locs lc X0 hag hP hD hS hl
    have X := X0.1
    exact lv_lshr X.1 X.2.1 hd  rfl (hw bs D kA ad ad0 p l e s m args below meth c A H locs lc X0 hag hP hD hS hl)
  · cases hf
theorem v_so_lushr {M : pz_M} {pc : Nat} (hd : decode M.2.1 pc = .ok (.lushr, 1)) : v_pz_S sL sX M pc 1 pz_o_lushr := by
  intro d mc ms n0 Post ls st h k n cs ls' st' h' k' n' hd1 hf hcs hk hn hw
  unfold pz_o_lushr at hf
  split at hf
  · cases hf
    intro bs D kA ad ad0 p l e s m args below meth c A H locs lc X0 hag hP hD hS hl
    have X := X0.1
    exact lv_lushr X.1 X.2.1 hd  rfl (hw bs D kA ad ad0 p l e s m args below meth c A H locs lc X0 hag hP hD hS hl)
  · cases hf
theorem v_so_lcmp {M : pz_M} {pc : Nat} (hd : decode M.2.1 pc = .ok (.lcmp, 1)) : v_pz_S sL sX M pc 1 pz_o_lcmp := by
  intro d mc ms n0 Post ls st h k n cs ls' st' h' k' n' hd1 hf hcs hk hn hw
  unfold pz_o_lcmp at hf
  split at hf
  · cases hf
    intro bs D kA ad ad0 p l e s m args below meth c A H locs lc X0 hag hP hD hS hl
    have X := X0.1
    exact W.lcmp X.1 X.2.1 hd   (hw bs D kA ad ad0 p l e s m args below meth c A H locs lc X0 hag hP hD hS hl)
  · cases hf
theorem v_so_dup {M : pz_M} {pc : Nat} (hd : decode M.2.1 pc = .ok (.dup, 1)) : v_pz_S sL sX M pc 1 pz_o_dup := by
  intro d mc ms n0 Post ls st h k n cs ls' st' h' k' n' hd1 hf hcs hk hn hw
  unfold pz_o_dup at hf
  split at hf
  · split at hf
    · rename_i hc
      cases hf
      intro bs D kA ad ad0 p l e s m args below meth c A H locs lc X0 hag hP hD hS hl
      have X := X0.1
      exact lv_dup X.1 X.2.1 hd (by rw [pz_v_cat]; exact hc) (hw bs D kA ad ad0 p l e s m args below meth c A H locs lc X0 hag hP hD hS hl)
    · cases hf
  · cases hf
theorem v_so_pop {M : pz_M} {pc : Nat} (hd : decode M.2.1 pc = .ok (.pop, 1)) : v_pz_S sL sX M pc 1 pz_o_pop := by
  intro d mc ms n0 Post ls st h k n cs ls' st' h' k' n' hd1 hf hcs hk hn hw
  unfold pz_o_pop at hf
  split at hf
  · split at hf
    · rename_i hc
      cases hf
      intro bs D kA ad ad0 p l e s m args below meth c A H locs lc X0 hag hP hD hS hl
      have X := X0.1
      exact lv_pop X.1 X.2.1 hd (by rw [pz_v_cat]; exact hc) (hw bs D kA ad ad0 p l e s m args below meth c A H locs lc X0 hag hP hD hS hl)
    · cases hf
  · cases hf
theorem v_so_dup2 {M : pz_M} {pc : Nat} (hd : decode M.2.1 pc = .ok (.dup2, 1)) : v_pz_S sL sX M pc 1 pz_o_dup2 := by
  intro d mc ms n0 Post ls st h k n cs ls' st' h' k' n' hd1 hf hcs hk hn hw
  unfold pz_o_dup2 at hf
  split at hf
  · split at hf
    · rename_i hc
      cases hf
      intro bs D kA ad ad0 p l e s m args below meth c A H locs lc X0 hag hP hD hS hl
      have X := X0.1
      exact lv_dup2_11 X.1 X.2.1 hd (by rw [pz_v_cat]; exact hc.1) (by rw [pz_v_cat]; exact hc.2) (hw bs D kA ad ad0 p l e s m args below meth c A H locs lc X0 hag hP hD hS hl)
    · cases hf
  · cases hf

theorem v_so_get {M : pz_M} {pc ci f idx : Nat} {q : vw_C} (hc : vwCl[ci]? = some q) (hf0 : f < q.2.2) (hlk : Cond.fieldLink M.1.cls idx (q.2.1 f).1 (q.2.1 f).2.1 (q.2.1 f).2.2.1 ∈ pz_gw) (hd : decode M.2.1 pc = .ok (.getfield idx, 3)) : v_pz_S sL sX M pc 3 (pz_o_get ci f) := by
  intro d mc ms n0 Post ls st h k n cs ls' st' h' k' n' hd1 hf hcs hk hn hw
  unfold pz_o_get at hf
  split at hf
  · rename_i a r
    split at hf
    · rename_i c1 fs hat
      split at hf
      · rename_i hci
        subst hci
        split at hf
        · rename_i v hv
          cases hf
          intro bs D kA ad ad0 p l e s m args below meth c A H locs lc X0 hag hP hD hS hl
          have X := X0.1
          rw [pz_at_eq] at hv
          refine va_get (D := D) (ci := c1) (v := pz_v ad v) (C := q.1) (T := q.2.1) (N := q.2.2) X.1 X.2.1 X.2.2.2.2.2.1 (pz_cin _ _ hc) X.2.2.2.2.1 X.2.2.2.2.2.2.2.2.1 hP a (pz_w_get hat) hc f hf0 (X.2.2.2.2.2.1 _ hlk) (fun _ h9 => h9) ?_ hd (hw bs D kA ad ad0 p l e s m args below meth c A H locs lc X0 hag hP hD hS hl)
          show (fs.map (pz_v ad))[f]? = _
          rw [List.getElem?_map, hv]
          rfl
        · cases hf
      · cases hf
    · cases hf
  · cases hf
theorem v_so_getX {M : pz_M} {pc len ci f : Nat} (hc : vwCl[ci]? = none) : v_pz_S sL sX M pc len (pz_o_get ci f) := by
  intro d mc ms n0 Post ls st h k n cs ls' st' h' k' n' hd1 hf hcs hk hn hw
  unfold pz_o_get at hf
  split at hf
  · rename_i a r
    split at hf
    · rename_i c1 fs hat
      split at hf
      · rename_i hci
        subst hci
        intro bs D kA ad ad0 p l e s m args below meth c A H locs lc X0 hag hP hD hS hl
        have X := X0.1
        obtain ⟨r1, h1, -⟩ := hP a _ (pz_w_get hat)
        rw [hc] at h1
        cases h1
      · cases hf
    · cases hf
  · cases hf
theorem v_so_put {M : pz_M} {pc ci f idx t : Nat} {q : vw_C} {ty : FieldType} (hc : vwCl[ci]? = some q) (hf0 : f < q.2.2) (hlk : Cond.fieldLink M.1.cls idx (q.2.1 f).1 (q.2.1 f).2.1 (q.2.1 f).2.2.1 ∈ pz_gw) (hpd : parseFieldDescriptor (q.2.1 f).2.2.1 = some ty) (ht : pz_tc ty = t)
    (hfin : (q.2.1 f).2.2.2 = false ∨ ((q.2.1 f).2.2.2 = true ∧ M.1.name = "<init>" ∧ (q.2.1 f).1 = M.1.cls)) (hd : decode M.2.1 pc = .ok (.putfield idx, 3)) : v_pz_S sL sX M pc 3 (pz_o_put ci f t) := by
  intro d mc ms n0 Post ls st h k n cs ls' st' h' k' n' hd1 hf hcs hk hn hw
  subst ht
  unfold pz_o_put at hf
  split at hf
  · rename_i v a r
    split at hf
    · rename_i c1 fs hat
      split at hf
      · rename_i hci
        obtain ⟨hci, hfl⟩ := hci
        subst hci
        split at hf
        · rename_i cs1 hv
          cases hf
          intro bs D kA ad ad0 p l e s m args below meth c A H locs lc X0 hag hP hD hS hl
          have X := X0.1
          obtain ⟨hn1, hf1⟩ := pz_fit_ok (ad := ad) hv hcs
          obtain ⟨ty0, hty, hnm⟩ := pz_cty _ _ hc
          have hset : ((pz_w ad kA h).set a (ad a, .inr (c1, (fs.map (pz_v ad)).set f (pz_v ad v)))) = pz_w ad kA (pz_put h a (.inr (c1, pz_put fs f v))) := by
            rw [← pz_w_set]
            congr 1
            show _ = (ad a, Sum.inr (c1, (pz_put fs f v).map (pz_v ad)))
            rw [pz_put_eq, List.map_set]
          have hfl2 : f < (fs.map (pz_v ad)).length := by rw [List.length_map]; exact hfl
          rcases hfin with hfin | ⟨hfin, hin1, hin2⟩
          · refine va_put (D := D) (ci := c1) (v := pz_v ad v) (ty := ty) (C := q.1) (T := q.2.1) (N := q.2.2) X.1 X.2.1 X.2.2.2.2.2.1 (pz_cin _ _ hc) ty0 hty hnm X.2.2.2.2.1 X.2.2.2.2.2.2.2.2.1 hP hD hS a (pz_w_get hat) hc f hf0 (X.2.2.2.2.2.1 _ hlk) (fun _ h9 => h9) hfin hpd hn1 hf1 hfl2 hd (fun H1 locs1 hP1 hD1 hS1 => ?_)
            rw [hset] at hP1 hD1
            exact hw bs D kA ad ad0 p l e s m args below meth c A H1 locs1 lc X0 (pz_ag_put hag) hP1 hD1 hS1 hl
          · refine va_putF (D := D) (ci := c1) (v := pz_v ad v) (ty := ty) (C := q.1) (T := q.2.1) (N := q.2.2) X.1 X.2.1 X.2.2.2.2.2.1 (pz_cin _ _ hc) ty0 hty hnm X.2.2.2.2.1 X.2.2.2.2.2.2.2.2.1 hP hD hS a (pz_w_get hat) hc f hf0 (X.2.2.2.2.2.1 _ hlk) (fun _ h9 => h9) hfin (X.2.2.2.2.2.2.2.1.1.trans hin1) hin2 hpd hn1 hf1 hfl2 hd (fun H1 locs1 hP1 hD1 hS1 => ?_)
            rw [hset] at hP1 hD1
            exact hw bs D kA ad ad0 p l e s m args below meth c A H1 locs1 lc X0 (pz_ag_put hag) hP1 hD1 hS1 hl
        · cases hf
      · cases hf
    · cases hf
  · cases hf
theorem v_so_gets {M : pz_M} {pc j idx : Nat} (hj : j < 5) (hlk : Cond.fieldLink M.1.cls idx (pz_sn j).1 (pz_sn j).2.1 (pz_sn j).2.2 ∈ pz_gw) (hd : decode M.2.1 pc = .ok (.getstatic idx, 3)) : v_pz_S sL sX M pc 3 (pz_o_gets j) := by
  intro d mc ms n0 Post ls st h k n cs ls' st' h' k' n' hd1 hf hcs hk hn hw
  cases hf
  intro bs D kA ad ad0 p l e s m args below meth c A H locs lc X0 hag hP hD hS hl
  have X := X0.1
  exact va_gets X.1 X.2.1 ((X.2.2.2.2.2.2.2.2.2.2.2.2.2.1 j hj).narrow X.2.2.2.2.2.2.2.2.2.2.1) hS X.2.2.2.2.1 (X.2.2.2.2.2.1 _ hlk) (fun _ h9 => h9) hd (hw bs D kA ad ad0 p l e s m args below meth c A H locs lc X0 hag hP hD hS hl)
theorem v_so_getsN {M : pz_M} {pc j idx : Nat} {host : String} (hj : j < 5) (hlk : Cond.fieldLinkNest M.1.cls idx (pz_sn j).1 (pz_sn j).2.1 (pz_sn j).2.2 host ∈ pz_nw) (hd : decode M.2.1 pc = .ok (.getstatic idx, 3)) : v_pz_S sL sX M pc 3 (pz_o_gets j) := by
  intro d mc ms n0 Post ls st h k n cs ls' st' h' k' n' hd1 hf hcs hk hn hw
  cases hf
  intro bs D kA ad ad0 p l e s m args below meth c A H locs lc X0 hag hP hD hS hl
  have X := X0.1
  exact va_getsN X.1 X.2.1 ((X.2.2.2.2.2.2.2.2.2.2.2.2.2.1 j hj).narrow X.2.2.2.2.2.2.2.2.2.2.1) hS X.2.2.2.2.1 (va_Nw.use rfl (X.2.2.2.2.2.2.2.2.2.2.2.2.1 _ hlk)) (fun _ h9 => h9) hd (hw bs D kA ad ad0 p l e s m args below meth c A H locs lc X0 hag hP hD hS hl)
theorem v_so_iald {M : pz_M} {pc : Nat} (hd : decode M.2.1 pc = .ok (.iaload, 1)) : v_pz_S sL sX M pc 1 pz_o_iald := by
  intro d mc ms n0 Post ls st h k n cs ls' st' h' k' n' hd1 hf hcs hk hn hw
  unfold pz_o_iald at hf
  split at hf
  · rename_i i a r
    split at hf
    · rename_i ha
      split at hf
      · rename_i N f hr
        cases hf
        intro bs D kA ad ad0 p l e s m args below meth c A H locs lc X0 hag hP hD hS hl
        have X := X0.1
        have hT := X.2.2.2.2.2.2.2.2.2.2.2.2.2.2.1 _ _ _ hr
        rw [Nat.add_sub_of_le ha] at hT
        exact va_ti X.1 X.2.1 (hT.narrow X.2.2.2.2.2.2.2.2.2.2.1) hS hcs rfl hd (hw bs D kA ad ad0 p l e s m args below meth c A H locs lc X0 hag hP hD hS hl)
      · cases hf
    · split at hf
      · rename_i N f hat
        cases hf
        intro bs D kA ad ad0 p l e s m args below meth c A H locs lc X0 hag hP hD hS hl
        have X := X0.1
        exact va_iald X.1 X.2.1 X.2.2.2.2.2.2.2.2.1 hP a 0 (pz_w_get hat) rfl hcs hd (hw bs D kA ad ad0 p l e s m args below meth c A H locs lc X0 hag hP hD hS hl)
      · cases hf
  · cases hf
theorem v_so_lald {M : pz_M} {pc : Nat} (hd : decode M.2.1 pc = .ok (.laload, 1)) : v_pz_S sL sX M pc 1 pz_o_lald := by
  intro d mc ms n0 Post ls st h k n cs ls' st' h' k' n' hd1 hf hcs hk hn hw
  unfold pz_o_lald at hf
  split at hf
  · rename_i i a r
    split at hf
    · rename_i ha
      split at hf
      · rename_i N f hr
        cases hf
        intro bs D kA ad ad0 p l e s m args below meth c A H locs lc X0 hag hP hD hS hl
        have X := X0.1
        have hT := X.2.2.2.2.2.2.2.2.2.2.2.2.2.2.2.1 _ _ _ hr
        rw [Nat.add_sub_of_le ha] at hT
        exact va_tl X.1 X.2.1 (hT.narrow X.2.2.2.2.2.2.2.2.2.2.1) hS hcs rfl hd (hw bs D kA ad ad0 p l e s m args below meth c A H locs lc X0 hag hP hD hS hl)
      · cases hf
    · split at hf
      · rename_i N f hat
        cases hf
        intro bs D kA ad ad0 p l e s m args below meth c A H locs lc X0 hag hP hD hS hl
        have X := X0.1
        exact va_lald X.1 X.2.1 X.2.2.2.2.2.2.2.2.1 hP a 1 (pz_w_get hat) rfl hcs hd (hw bs D kA ad ad0 p l e s m args below meth c A H locs lc X0 hag hP hD hS hl)
      · cases hf
  · cases hf
theorem v_so_bald {M : pz_M} {pc : Nat} (hd : decode M.2.1 pc = .ok (.baload, 1)) : v_pz_S sL sX M pc 1 pz_o_bald := by
  intro d mc ms n0 Post ls st h k n cs ls' st' h' k' n' hd1 hf hcs hk hn hw
  unfold pz_o_bald at hf
  split at hf
  · rename_i i a r
    split at hf
    · rename_i N f hat
      cases hf
      intro bs D kA ad ad0 p l e s m args below meth c A H locs lc X0 hag hP hD hS hl
      have X := X0.1
      exact va_bald X.1 X.2.1 X.2.2.2.2.2.2.2.2.1 hP a 2 (pz_w_get hat) rfl hcs hd (hw bs D kA ad ad0 p l e s m args below meth c A H locs lc X0 hag hP hD hS hl)
    · rename_i N f hat
      cases hf
      intro bs D kA ad ad0 p l e s m args below meth c A H locs lc X0 hag hP hD hS hl
      have X := X0.1
      exact va_zald X.1 X.2.1 X.2.2.2.2.2.2.2.2.1 hP a 3 (pz_w_get hat) rfl hcs hd (hw bs D kA ad ad0 p l e s m args below meth c A H locs lc X0 hag hP hD hS hl)
    · cases hf
  · cases hf
theorem v_so_alen {M : pz_M} {pc : Nat} (hd : decode M.2.1 pc = .ok (.arraylength, 1)) : v_pz_S sL sX M pc 1 pz_o_alen := by
  intro d mc ms n0 Post ls st h k n cs ls' st' h' k' n' hd1 hf hcs hk hn hw
  unfold pz_o_alen at hf
  split at hf
  · rename_i a r
    split at hf
    · rename_i t N f hat
      split at hf
      · rename_i ht
        cases hf
        intro bs D kA ad ad0 p l e s m args below meth c A H locs lc X0 hag hP hD hS hl
        have X := X0.1
        have e1 : ∃ ty, (pz_tys kA)[t]? = some (kA t, ty) := by
          match t, ht with
          | 0, _ => exact ⟨_, rfl⟩
          | 1, _ => exact ⟨_, rfl⟩
          | 2, _ => exact ⟨_, rfl⟩
          | 3, _ => exact ⟨_, rfl⟩
        obtain ⟨ty, e1⟩ := e1
        exact va_alen X.1 X.2.1 X.2.2.2.2.2.2.2.2.1 hP a t (pz_w_get hat) e1 rfl hd (hw bs D kA ad ad0 p l e s m args below meth c A H locs lc X0 hag hP hD hS hl)
      · cases hf
    · cases hf
  · cases hf
theorem v_so_iast {M : pz_M} {pc : Nat} (hd : decode M.2.1 pc = .ok (.iastore, 1)) : v_pz_S sL sX M pc 1 pz_o_iast := by
  intro d mc ms n0 Post ls st h k n cs ls' st' h' k' n' hd1 hf hcs hk hn hw
  unfold pz_o_iast at hf
  split at hf
  · rename_i x i a r
    split at hf
    · rename_i N f hat
      cases hf
      intro bs D kA ad ad0 p l e s m args below meth c A H locs lc X0 hag hP hD hS hl
      have X := X0.1
      refine va_iast X.1 X.2.1 X.2.2.2.2.2.2.2.2.1 hP hD hS a 0 (pz_w_get hat) rfl hcs hd (fun H1 locs1 hP1 hD1 hS1 => ?_)
      have hset := pz_w_set (ad := ad) (kA := kA) (h := h) (i := a) (c := .inl (0, N, .inl (upd f i.toNatClampNeg x)))
      exact hw bs D kA ad ad0 p l e s m args below meth c A H1 locs1 lc X0 (pz_ag_put hag) (by rw [← hset]; exact hP1) (by rw [← hset]; exact hD1) hS1 hl
    · cases hf
  · cases hf
theorem v_so_last {M : pz_M} {pc : Nat} (hd : decode M.2.1 pc = .ok (.lastore, 1)) : v_pz_S sL sX M pc 1 pz_o_last := by
  intro d mc ms n0 Post ls st h k n cs ls' st' h' k' n' hd1 hf hcs hk hn hw
  unfold pz_o_last at hf
  split at hf
  · rename_i x i a r
    split at hf
    · rename_i N f hat
      cases hf
      intro bs D kA ad ad0 p l e s m args below meth c A H locs lc X0 hag hP hD hS hl
      have X := X0.1
      refine va_last X.1 X.2.1 X.2.2.2.2.2.2.2.2.1 hP hD hS a 1 (pz_w_get hat) rfl hcs hd (fun H1 locs1 hP1 hD1 hS1 => ?_)
      have hset := pz_w_set (ad := ad) (kA := kA) (h := h) (i := a) (c := .inl (1, N, .inr (.inl (vp_updL f i.toNatClampNeg x))))
      exact hw bs D kA ad ad0 p l e s m args below meth c A H1 locs1 lc X0 (pz_ag_put hag) (by rw [← hset]; exact hP1) (by rw [← hset]; exact hD1) hS1 hl
    · cases hf
  · cases hf
theorem v_so_bast {M : pz_M} {pc : Nat} (hd : decode M.2.1 pc = .ok (.bastore, 1)) : v_pz_S sL sX M pc 1 pz_o_bast := by
  intro d mc ms n0 Post ls st h k n cs ls' st' h' k' n' hd1 hf hcs hk hn hw
  unfold pz_o_bast at hf
  split at hf
  · rename_i x i a r
    split at hf
    · rename_i N f hat
      cases hf
      intro bs D kA ad ad0 p l e s m args below meth c A H locs lc X0 hag hP hD hS hl
      have X := X0.1
      refine va_bast X.1 X.2.1 X.2.2.2.2.2.2.2.2.1 hP hD hS a 2 (pz_w_get hat) rfl hcs hd (fun H1 locs1 hP1 hD1 hS1 => ?_)
      have hset := pz_w_set (ad := ad) (kA := kA) (h := h) (i := a) (c := .inl (2, N, .inl (upd f i.toNatClampNeg (vp_nar .byte x))))
      exact hw bs D kA ad ad0 p l e s m args below meth c A H1 locs1 lc X0 (pz_ag_put hag) (by rw [← hset]; exact hP1) (by rw [← hset]; exact hD1) hS1 hl
    · rename_i N f hat
      cases hf
      intro bs D kA ad ad0 p l e s m args below meth c A H locs lc X0 hag hP hD hS hl
      have X := X0.1
      refine va_zast X.1 X.2.1 X.2.2.2.2.2.2.2.2.1 hP hD hS a 3 (pz_w_get hat) rfl hcs hd (fun H1 locs1 hP1 hD1 hS1 => ?_)
      have hset := pz_w_set (ad := ad) (kA := kA) (h := h) (i := a) (c := .inl (3, N, .inl (upd f i.toNatClampNeg (vp_nar .boolean x))))
      exact hw bs D kA ad ad0 p l e s m args below meth c A H1 locs1 lc X0 (pz_ag_put hag) (by rw [← hset]; exact hP1) (by rw [← hset]; exact hD1) hS1 hl
    · cases hf
  · cases hf

theorem v_so_new {M : pz_M} {pc ci N idx : Nat} {q : vw_C} {fs : List Value} (hc : vwCl[ci]? = some q) (hN : q.2.2 = N) (hl1 : Cond.classLink M.1.cls idx q.1 ∈ pz_gw) (hl2 : Cond.instantiable q.1 N ∈ pz_gw) (hl3 : Cond.initialized q.1 ∈ pz_gw)
    (hfs : ∀ ty : Nat → FieldType, (∀ k, k < q.2.2 → parseFieldDescriptor (q.2.1 k).2.2.1 = some (ty k)) → ∀ j, j < N → defaultValue (ty j) = vp_V fs j) (hnr : ∀ ad, fs.map (pz_v ad) = fs) (hd : decode M.2.1 pc = .ok (.new idx, 3)) : v_pz_S sL sX M pc 3 (pz_o_new ci N fs) := by
  intro d mc ms n0 Post ls st h k n cs ls' st' h' k' n' hd1 hf hcs hk hn hw
  unfold pz_o_new at hf
  split at hf
  · rename_i hfr
    cases hf
    intro bs D kA ad ad0 p l e s m args below meth c A H locs lc X0 hag hP hD hS hl
    have X := X0.1
    simp only [pz_fresh, Bool.and_eq_true] at hfr
    obtain ⟨f1, f2, f3, f4⟩ := hfr
    have f1 : h.length < 500 := Nat.blt_eq.mp f1
    obtain ⟨ty0, hty, hnm⟩ := pz_cty _ _ hc
    subst hN
    refine va_new (ci := ci) (fs := fs) (C := q.1) (T := q.2.1) (N := q.2.2) X.1 X.2.1 X.2.2.2.2.2.1 (pz_cin _ _ hc) ty0 hty X.2.2.2.2.1 (X.2.2.2.2.2.1 _ hl1) (X.2.2.2.2.2.1 _ hl2) (X.2.2.2.2.2.1 _ hl3) X.2.2.2.2.2.2.2.2.1 hP hD hS X.2.2.2.2.2.2.2.2.2.1 hc (hfs ty0 hty) hk hn hd (fun z H1 hP1 hD1 hS1 => ?_)
    have hlk := pz_like_up (q := z) (ad := ad) f1
    have hww : pz_w ad kA h ++ [(z, .inr (ci, fs))] = pz_w (va_up ad h.length z) kA (h ++ [.inr (ci, fs)]) := by
      rw [← pz_w_push, pz_fw_eq hlk (Nat.le_refl _) f2]
      show _ = _ ++ [(va_up ad h.length z h.length, Sum.inr (ci, fs.map (pz_v _)))]
      rw [hnr]
      simp [va_up]
    rw [hww] at hP1 hD1
    have := hw bs D kA (va_up ad h.length z) ad0 p l e s m args below meth c A H1 locs lc (v_pz_X_like hlk X0) ⟨by have := hag.1; simp; omega, fun i hi => by have g := hag.1; rw [List.length_append, List.length_singleton] at hi; rw [show va_up ad h.length z i = ad i by simp [va_up]; omega]; exact hag.2 i (by omega)⟩ hP1 hD1 hS1 (by rw [pz_fls_eq hlk f3]; exact hl)
    rw [List.map_cons, pz_fvs_eq hlk f4] at this
    have e1 : pz_v (va_up ad h.length z) (.ref h.length) = .ref z := by simp [pz_v, va_up]
    rw [e1] at this
    exact this
  · cases hf
theorem v_so_newa {M : pz_M} {pc t N : Nat} {at0 : ArrayType} (ht : t < 4) (hat : newarray.typeOf at0 = pz_ty t) (hl1 : Cond.arrayClass (newarray.typeOf at0) ∈ pz_gw) (hd : decode M.2.1 pc = .ok (.newarray at0, 2)) : v_pz_S sL sX M pc 2 (pz_o_newa t N) := by
  intro d mc ms n0 Post ls st h k n cs ls' st' h' k' n' hd1 hf hcs hk hn hw
  unfold pz_o_newa at hf
  split at hf
  · rename_i x r
    split at hf
    · rename_i hfr
      obtain ⟨hfr, hNb⟩ := hfr
      have hNb : N ≤ 1000000 := Nat.le_of_ble_eq_true hNb
      cases hf
      intro bs D kA ad ad0 p l e s m args below meth c A H locs lc X0 hag hP hD hS hl
      have X := X0.1
      simp only [pz_fresh, Bool.and_eq_true] at hfr
      obtain ⟨f1, f2, f3, f4⟩ := hfr
      have f1 : h.length < 500 := Nat.blt_eq.mp f1
      have hcell : ∀ cA : ClassId, vp_cell cA (N, pz_dfa t) = arrV cA N (fun _ => defaultValue (pz_ty t)) := by
        match t, ht with
        | 0, _ => intro cA; rfl
        | 1, _ => intro cA; rfl
        | 2, _ => intro cA; rfl
        | 3, _ => intro cA; rfl
      have hby : N * componentBytes (pz_ty t) ≤ 536870912 := by
        have : componentBytes (pz_ty t) ≤ 8 := by
          match t, ht with
          | 0, _ => decide
          | 1, _ => decide
          | 2, _ => decide
          | 3, _ => decide
        calc N * componentBytes (pz_ty t) ≤ 1000000 * 8 := Nat.mul_le_mul hNb this
          _ ≤ 536870912 := by decide
      refine va_newa (a0 := (N, pz_dfa t)) X.1 X.2.1 (X.2.2.2.2.2.1 _ hl1) hat X.2.2.2.2.2.2.2.2.1 hP hD hS X.2.2.2.2.2.2.2.2.2.1 hcell hcs.2 hcs.1 hby hk hn hd (fun z cA H1 hK1 hP1 hD1 hS1 => ?_)
      have hcA : cA = kA t := by
        have g1 := (hK1.2 4 (cA, pz_ty t) rfl).2
        match t, ht with
        | 0, _ =>
          have g2 := (X.2.2.2.2.2.2.2.2.1.2 0 (kA 0, .int) rfl).2
          exact Option.some.inj (Eq.trans (Eq.symm g1) g2)
        | 1, _ =>
          have g2 := (X.2.2.2.2.2.2.2.2.1.2 1 (kA 1, .long) rfl).2
          exact Option.some.inj (Eq.trans (Eq.symm g1) g2)
        | 2, _ =>
          have g2 := (X.2.2.2.2.2.2.2.2.1.2 2 (kA 2, .byte) rfl).2
          exact Option.some.inj (Eq.trans (Eq.symm g1) g2)
        | 3, _ =>
          have g2 := (X.2.2.2.2.2.2.2.2.1.2 3 (kA 3, .boolean) rfl).2
          exact Option.some.inj (Eq.trans (Eq.symm g1) g2)
      subst hcA
      have hlk := pz_like_up (q := z) (ad := ad) f1
      have hww : pz_w ad kA h ++ [(z, .inl (kA t, N, pz_dfa t))] = pz_w (va_up ad h.length z) kA (h ++ [.inl (t, N, pz_dfa t)]) := by
        rw [← pz_w_push, pz_fw_eq hlk (Nat.le_refl _) f2]
        show _ = _ ++ [(va_up ad h.length z h.length, Sum.inl (kA t, N, pz_dfa t))]
        simp [va_up]
      rw [hww] at hP1 hD1
      have := hw bs D kA (va_up ad h.length z) ad0 p l e s m args below meth c A H1 locs lc (v_pz_X_like hlk X0) ⟨by have := hag.1; simp; omega, fun i hi => by have g := hag.1; rw [List.length_append, List.length_singleton] at hi; rw [show va_up ad h.length z i = ad i by simp [va_up]; omega]; exact hag.2 i (by omega)⟩ hP1 hD1 hS1 (by rw [pz_fls_eq hlk f3]; exact hl)
      rw [List.map_cons, pz_fvs_eq hlk f4] at this
      have e1 : pz_v (va_up ad h.length z) (.ref h.length) = .ref z := by simp [pz_v, va_up]
      rw [e1] at this
      exact this
    · cases hf
  · cases hf
theorem v_so_oi {M : pz_M} {pc idx : Nat} (hl1 : Cond.methodLink M.1.cls idx Lib.objectInit ∈ pz_gw) (hl2 : Cond.instanceMethod Lib.objectInit ∈ pz_gw) (hl3 : Cond.code Lib.objectInit ⟨#[0xb1]⟩ 1 none ∈ pz_gw) (hd : decode M.2.1 pc = .ok (.invokespecial idx, 3)) : v_pz_S sL sX M pc 3 pz_o_oi := by
  intro d mc ms n0 Post ls st h k n cs ls' st' h' k' n' hd1 hf hcs hk hn hw
  unfold pz_o_oi at hf
  split at hf
  · rename_i a r
    split at hf
    · rename_i hr
      have hr := Nat.le_of_ble_eq_true hr
      cases hf
      intro bs D kA ad ad0 p l e s m args below meth c A H locs lc X0 hag hP hD hS hl
      have X := X0.1
      refine W.objInit (a := ad a) (rest := st'.map (pz_v ad)) X.1 X.2.1 X.2.2.2.2.1 (X.2.2.2.2.2.1 _ hl1) (X.2.2.2.2.2.1 _ hl2) (X.2.2.2.2.2.1 _ hl3) rfl (hl.1.trans X.2.2.1.symm) rfl hd hd1 ?_ (hw bs D kA ad ad0 p l e s m args below meth c A H locs lc X0 hag hP hD hS hl)
      rw [pz_cats]
      show 2 * 0 + _ + 12 ≤ 64 * d
      omega
    · cases hf
  · cases hf
theorem v_so_cpy {M : pz_M} {pc idx : Nat} (hl1 : Cond.methodLink M.1.cls idx arraycopyName ∈ pz_gw) (hl2 : Cond.native arraycopyName ∈ pz_gw) (hl3 : Cond.static arraycopyName ∈ pz_gw) (hl4 : Cond.initialized "java/lang/System" ∈ pz_gw) (hd : decode M.2.1 pc = .ok (.invokestatic idx, 3)) : v_pz_S sL sX M pc 3 pz_o_cpy := by
  intro d mc ms n0 Post ls st h k n cs ls' st' h' k' n' hd1 hf hcs hk hn hw
  unfold pz_o_cpy at hf
  split at hf
  · rename_i c0 dp b sp a r
    split at hf
    · rename_i N f N1 g hat hbt
      split at hf
      · rename_i hr
        have hr := Nat.le_of_ble_eq_true hr
        cases hf
        obtain ⟨q1, q2, q3, q4, q5⟩ := hcs
        intro bs D kA ad ad0 p l e s m args below meth c A H locs lc X0 hag hP hD hS hl
        have X := X0.1
        refine va_copyi (ty := .int) X.1 X.2.1 (X.2.2.1.trans hl.1.symm) X.2.2.2.2.1 (X.2.2.2.2.2.1 _ hl1) (X.2.2.2.2.2.1 _ hl2) (X.2.2.2.2.2.1 _ hl3) (X.2.2.2.2.2.1 _ hl4) X.2.2.2.2.2.2.2.2.1 hP hD hS a b 0 0 (pz_w_get hat) (pz_w_get hbt) rfl rfl rfl q1 q2 q3 q4 q5 (fun _ _ => rfl) hd1 ?_ hd (fun H1 locs1 hP1 hD1 hS1 => ?_)
        · rw [pz_cats]
          have e1 : nativeFrameWords "java/lang/System" "arraycopy" 5 = 7 := by decide
          rw [e1]
          show _ ≤ 64 * d
          omega
        · have hset := pz_w_set (ad := ad) (kA := kA) (h := h) (i := b) (c := .inl (0, N1, .inl (va_cpy f g sp.toNatClampNeg dp.toNatClampNeg c0.toNatClampNeg)))
          exact hw bs D kA ad ad0 p l e s m args below meth c A H1 locs1 lc X0 (pz_ag_put hag) (by rw [← hset]; exact hP1) (by rw [← hset]; exact hD1) hS1 hl
      · cases hf
    · cases hf
  · cases hf

def v_pz_SB (sL : Nat) (sX : Nat → Int32) (M : pz_M) (pc : Nat) (f : pz_B) : Prop := ∀ (d mc ms n0 : Nat) (Post : Option Value → pz_H → Prop) (ls : pz_L) (st : List Value) (h : pz_H) (k n : Nat) (r : List Value) (L : List (Prop × Nat)),
  f st = some (r, L) → pz_sel (fun t => v_pz_W sL sX M d mc ms n0 Post t ls r h k n) L → v_pz_W sL sX M d mc ms n0 Post pc ls st h k n
theorem v_sb_none {M : pz_M} {pc : Nat} : v_pz_SB sL sX M pc pz_bn := by
  intro d mc ms n0 Post ls st h k n r L hf hw
  cases hf
theorem v_sb_if {M : pz_M} {pc t : Nat} {cd : Jvm.ClassFile.Cond} {off : Int} (hd : decode M.2.1 pc = .ok (.ifCond cd off, 3)) (ht : (pc : Int) + off = (t : Int)) : v_pz_SB sL sX M pc (pz_b_if cd t (pc + 3)) := by
  intro d mc ms n0 Post ls st h k n r L hf hw
  unfold pz_b_if at hf
  split at hf
  · rename_i x r
    cases hf
    obtain ⟨hw1, hw2⟩ := hw
    have hw2 : ¬ pz_c0 cd x → v_pz_W sL sX M d mc ms n0 Post (pc + 3) ls r h k n := hw2
    intro bs D kA ad ad0 p l e s m args below meth c A H locs lc X0 hag hP hD hS hl
    have X := X0.1
    cases cd with
    | eq => exact lv_if_eq X.1 X.2.1 hd ht (fun q => hw1 q bs D kA ad ad0 p l e s m args below meth c A H locs lc X0 hag hP hD hS hl) (fun q => hw2 q bs D kA ad ad0 p l e s m args below meth c A H locs lc X0 hag hP hD hS hl)
    | ne => exact lv_if_ne X.1 X.2.1 hd ht (fun q => hw1 q bs D kA ad ad0 p l e s m args below meth c A H locs lc X0 hag hP hD hS hl) (fun q => hw2 (fun z => z q) bs D kA ad ad0 p l e s m args below meth c A H locs lc X0 hag hP hD hS hl)
    | lt => exact lv_if_lt X.1 X.2.1 hd ht (fun q => hw1 q bs D kA ad ad0 p l e s m args below meth c A H locs lc X0 hag hP hD hS hl) (fun q => hw2 q bs D kA ad ad0 p l e s m args below meth c A H locs lc X0 hag hP hD hS hl)
    | ge => exact lv_if_ge X.1 X.2.1 hd ht (fun q => hw1 q bs D kA ad ad0 p l e s m args below meth c A H locs lc X0 hag hP hD hS hl) (fun q => hw2 q bs D kA ad ad0 p l e s m args below meth c A H locs lc X0 hag hP hD hS hl)
    | gt => exact lv_if_gt X.1 X.2.1 hd ht (fun q => hw1 q bs D kA ad ad0 p l e s m args below meth c A H locs lc X0 hag hP hD hS hl) (fun q => hw2 q bs D kA ad ad0 p l e s m args below meth c A H locs lc X0 hag hP hD hS hl)
    | le => exact lv_if_le X.1 X.2.1 hd ht (fun q => hw1 q bs D kA ad ad0 p l e s m args below meth c A H locs lc X0 hag hP hD hS hl) (fun q => hw2 q bs D kA ad ad0 p l e s m args below meth c A H locs lc X0 hag hP hD hS hl)
  · cases hf
theorem v_sb_ic {M : pz_M} {pc t : Nat} {cd : Jvm.ClassFile.Cond} {off : Int} (hd : decode M.2.1 pc = .ok (.if_icmp cd off, 3)) (ht : (pc : Int) + off = (t : Int)) : v_pz_SB sL sX M pc (pz_b_ic cd t (pc + 3)) := by
  intro d mc ms n0 Post ls st h k n r L hf hw
  unfold pz_b_ic at hf
  split at hf
  · rename_i y x r
    cases hf
    obtain ⟨hw1, hw2⟩ := hw
    have hw2 : ¬ pz_c1 cd x y → v_pz_W sL sX M d mc ms n0 Post (pc + 3) ls r h k n := hw2
    intro bs D kA ad ad0 p l e s m args below meth c A H locs lc X0 hag hP hD hS hl
    have X := X0.1
    cases cd with
    | eq => exact lv_icmp_eq X.1 X.2.1 hd ht (fun q => hw1 q bs D kA ad ad0 p l e s m args below meth c A H locs lc X0 hag hP hD hS hl) (fun q => hw2 q bs D kA ad ad0 p l e s m args below meth c A H locs lc X0 hag hP hD hS hl)
    | ne => exact lv_icmp_ne X.1 X.2.1 hd ht (fun q => hw1 q bs D kA ad ad0 p l e s m args below meth c A H locs lc X0 hag hP hD hS hl) (fun q => hw2 (fun z => z q) bs D kA ad ad0 p l e s m args below meth c A H locs lc X0 hag hP hD hS hl)
    | lt => exact lv_icmp_lt X.1 X.2.1 hd ht (fun q => hw1 q bs D kA ad ad0 p l e s m args below meth c A H locs lc X0 hag hP hD hS hl) (fun q => hw2 q bs D kA ad ad0 p l e s m args below meth c A H locs lc X0 hag hP hD hS hl)
    | ge => exact lv_icmp_ge X.1 X.2.1 hd ht (fun q => hw1 q bs D kA ad ad0 p l e s m args below meth c A H locs lc X0 hag hP hD hS hl) (fun q => hw2 q bs D kA ad ad0 p l e s m args below meth c A H locs lc X0 hag hP hD hS hl)
    | gt => exact lv_icmp_gt X.1 X.2.1 hd ht (fun q => hw1 q bs D kA ad ad0 p l e s m args below meth c A H locs lc X0 hag hP hD hS hl) (fun q => hw2 q bs D kA ad ad0 p l e s m args below meth c A H locs lc X0 hag hP hD hS hl)
    | le => exact lv_icmp_le X.1 X.2.1 hd ht (fun q => hw1 q bs D kA ad ad0 p l e s m args below meth c A H locs lc X0 hag hP hD hS hl) (fun q => hw2 q bs D kA ad ad0 p l e s m args below meth c A H locs lc X0 hag hP hD hS hl)
  · cases hf
theorem v_sb_go {M : pz_M} {pc t : Nat} {off : Int} (hd : decode M.2.1 pc = .ok (.goto off, 3)) (ht : (pc : Int) + off = (t : Int)) : v_pz_SB sL sX M pc (pz_b_go t) := by
  intro d mc ms n0 Post ls st h k n r L hf hw
  cases hf
  intro bs D kA ad ad0 p l e s m args below meth c A H locs lc X0 hag hP hD hS hl
  have X := X0.1
  exact lv_goto X.1 X.2.1 hd ht (hw bs D kA ad ad0 p l e s m args below meth c A H locs lc X0 hag hP hD hS hl)
theorem v_pz_lsw {M : pz_M} {d mc ms n0 : Nat} {Post : Option Value → pz_H → Prop} {pc len : Nat} {ls : pz_L} {r : List Value} {h : pz_H} {k n : Nat} {x : Int32} {dd : Int} {ps : Array (Int × Int)} (hd : decode M.2.1 pc = .ok (.lookupswitch dd ps, len)) (kts : List (Int32 × Nat)) (dft : Nat) (hp : (ps.toList.zip (ps.toList.drop 1)).all (fun (a, next) => a.1 < next.1) = true) (hck : pz_lck pc kts ps.toList = true) (hdd : (pc : Int) + dd = (dft : Int))
    (hw : pz_sel (fun t => v_pz_W sL sX M d mc ms n0 Post t ls r h k n) (pz_ch x kts dft)) : v_pz_W sL sX M d mc ms n0 Post pc ls (.int x :: r) h k n := by
  obtain ⟨t, off, g1, g2, g3⟩ := pz_lsw_aux hdd kts ps.toList hck hw
  intro bs D kA ad ad0 p l e s m args below meth c A H locs lc X0 hag hP hD hS hl
  have X := X0.1
  exact lv_lookup X.1 X.2.1 hd hp g1 g2 (g3 bs D kA ad ad0 p l e s m args below meth c A H locs lc X0 hag hP hD hS hl)
theorem v_pz_tsw {M : pz_M} {d mc ms n0 : Nat} {Post : Option Value → pz_H → Prop} {pc len : Nat} {ls : pz_L} {r : List Value} {h : pz_H} {k n : Nat} {x : Int32} {dd lo hi : Int} {os : Array Int} (hd : decode M.2.1 pc = .ok (.tableswitch dd lo hi os, len)) (kts : List (Int32 × Nat)) (dft : Nat) (hhi : hi = lo + os.toList.length - 1) (hck : pz_tck pc lo kts os.toList = true) (hdd : (pc : Int) + dd = (dft : Int))
    (hw : pz_sel (fun t => v_pz_W sL sX M d mc ms n0 Post t ls r h k n) (pz_ch x kts dft)) : v_pz_W sL sX M d mc ms n0 Post pc ls (.int x :: r) h k n := by
  obtain ⟨g1, g2⟩ := pz_tsw_aux kts os.toList lo hck hw
  intro bs D kA ad ad0 p l e s m args below meth c A H locs lc X0 hag hP hD hS hl
  have X := X0.1
  by_cases hx : x.toInt < lo ∨ hi < x.toInt
  · exact lv_tableOut X.1 X.2.1 hd hx hdd (g1 (by omega) bs D kA ad ad0 p l e s m args below meth c A H locs lc X0 hag hP hD hS hl)
  · obtain ⟨t, off, q1, q2, q3⟩ := g2 (x.toInt - lo).toNat (by omega) (by omega)
    rw [Array.getElem?_toList] at q1
    exact lv_tableIn X.1 X.2.1 hd (fun z => hx (Or.inl z)) (fun z => hx (Or.inr z)) q1 q2 (q3 bs D kA ad ad0 p l e s m args below meth c A H locs lc X0 hag hP hD hS hl)
section
variable {M : pz_M} {d mc ms n0 pc k n : Nat} {Post : Option Value → pz_H → Prop} {ls : pz_L} {h : pz_H}
theorem v_pz_iret {v : Int32} {ty : FieldType} (hd : decode M.2.1 pc = .ok (.ireturn, 1)) (hr : M.2.2.2.1 = some ty) (hv : narrow ty (.int v) = .int v) (hk : k ≤ mc) (hn : n ≤ ms) (hp : Post (some (.int v)) h) : v_pz_W sL sX M d mc ms n0 Post pc ls [.int v] h k n := by
  intro bs D kA ad ad0 p l e s m args below meth c A H locs lc X0 hag hP hD hS hl
  have X := X0.1
  refine W.widen hk hn ?_
  have hlocks := X.2.2.2.2.2.2.1
  exact vx_ret (W.zret X.1 X.2.1 (X.2.2.2.1.trans hr) hv (fun t ht hW => ⟨⟨some (.int v), h, ad, ⟨hp, fun _ h9 => by cases h9⟩, hag, rfl, by rw [ht]; exact hP, va_K.moved hW.alike X.2.2.2.2.2.2.2.2.1, hD⟩, hS.F ht⟩) hS.2.2 hd)
theorem v_pz_lret {v : Int64} (hd : decode M.2.1 pc = .ok (.lreturn, 1)) (hr : M.2.2.2.1 = some .long) (hk : k ≤ mc) (hn : n ≤ ms) (hp : Post (some (.long v)) h) : v_pz_W sL sX M d mc ms n0 Post pc ls [.long v] h k n := by
  intro bs D kA ad ad0 p l e s m args below meth c A H locs lc X0 hag hP hD hS hl
  have X := X0.1
  refine W.widen hk hn ?_
  have hlocks := X.2.2.2.2.2.2.1
  exact vx_ret (W.lret X.1 X.2.1 (X.2.2.2.1.trans hr) (fun t ht hW => ⟨⟨some (.long v), h, ad, ⟨hp, fun _ h9 => by cases h9⟩, hag, rfl, by rw [ht]; exact hP, va_K.moved hW.alike X.2.2.2.2.2.2.2.2.1, hD⟩, hS.F ht⟩) hS.2.2 hd)
theorem v_pz_vret (hd : decode M.2.1 pc = .ok (.return_, 1)) (hr : M.2.2.2.1 = none) (hk : k ≤ mc) (hn : n ≤ ms) (hp : Post none h) : v_pz_W sL sX M d mc ms n0 Post pc ls [] h k n := by
  intro bs D kA ad ad0 p l e s m args below meth c A H locs lc X0 hag hP hD hS hl
  have X := X0.1
  refine W.widen hk hn ?_
  have hlocks := X.2.2.2.2.2.2.1
  exact vx_ret (W.vret X.1 X.2.1 (X.2.2.2.1.trans hr) (fun t ht hW => ⟨⟨none, h, ad, ⟨hp, fun _ h9 => by cases h9⟩, hag, rfl, by rw [ht]; exact hP, va_K.moved hW.alike X.2.2.2.2.2.2.2.2.1, hD⟩, hS.F ht⟩) hS.2.2 hd)
theorem v_pz_aret {a : Nat} {C : String} (hd : decode M.2.1 pc = .ok (.areturn, 1)) (hr : M.2.2.2.1 = some (.object C)) (hk : k ≤ mc) (hn : n ≤ ms) (hp : Post (some (.ref a)) h) : v_pz_W sL sX M d mc ms n0 Post pc ls [.ref a] h k n := by
  intro bs D kA ad ad0 p l e s m args below meth c A H locs lc X0 hag hP hD hS hl
  have X := X0.1
  refine W.widen hk hn ?_
  have hlocks := X.2.2.2.2.2.2.1
  exact vx_ret (W.aret X.1 X.2.1 (X.2.2.2.1.trans hr) (Or.inl ⟨C, rfl⟩) (Or.inr ⟨ad a, rfl⟩) (fun t ht hW => ⟨⟨some (.ref a), h, ad, ⟨hp, fun _ h9 => by cases h9⟩, hag, rfl, by rw [ht]; exact hP, va_K.moved hW.alike X.2.2.2.2.2.2.2.2.1, hD⟩, hS.F ht⟩) hS.2.2 hd)
end
section
variable {M : pz_M} {d mc ms n0 mc' ms' pc k n bs : Nat} {Post Post' : Option Value → pz_H → Prop} {ls : pz_L} {h hs : pz_H} {σ δ : List Nat} {rest0 : List Value}
variable {D : va_G} {kA : Nat → ClassId} {ad ad0 : Nat → Nat} {p : Program} {l : pz_Ln} {e : Env} {s : State} {m : MethodId} {args : Array Value} {below : List Frame} {meth : Method} {c : Code} {A : Nat → Prop} {H : Heap} {locs : List Loc} {lc : Array Slot} {st0 : List Value} {aa : Array Value}
theorem v_pz_after0 (X0 : v_pz_X sL sX M bs D kA ad p s m args meth c A) (hag : pz_ag n0 h ad ad0) (hP : va_P D vwCl (pz_w ad kA h) H) (hD : va_D A (pz_w ad kA h)) (hS : va_S A s.heap H locs) (hl : lv_has lc M.2.2.1 (pz_l ad ls)) (hc : pz_Cut h hs σ δ)
    (hr : va_Run p l e (pz_R d mc ms) s m args below meth c H locs k n mc' ms' (F0 m pc lc st0) (rest0.map (pz_v ad)) (pz_Q D kA (fun k => ad (pz_rn σ δ h.length k)) hs.length Post' (va_A (pz_w (fun k => ad (pz_rn σ δ h.length k)) kA hs) H.size) aa) (va_A (pz_w (fun k => ad (pz_rn σ δ h.length k)) kA hs) H.size))
    (hw : ∀ r hs', Post' r hs' → hs'.length = hs.length ∧ v_pz_W sL sX M d mc ms n0 Post (pc + 3) ls ((r.map (pz_v (pz_rn σ δ h.length))).toList ++ rest0) (pz_back h σ (hs'.map (pz_rc (pz_rn σ δ h.length)))) (k + mc') (n + ms')) :
    W p l.1 e (pz_R d mc ms) s m args below meth c H locs k n (vx_MQ below (pz_Q D kA ad0 n0 Post A) (pz_XC M D kA ad0 n0 Post A) args s mc ms A) (F0 m pc lc st0) := by
  have X := X0.1
  have hFc := pz_free X hD hS hc
  intro T hT XX
  obtain ⟨v, st₀, t, T', L, h0, X', hL, e1, e2, ⟨⟨r, hs', adc', hp, hagc, hv, hP1, hK1, hD1⟩, hz, hk⟩, st⟩ := hr T hT XX
  cases hv
  rw [h0] at hz hk
  obtain ⟨hlen, hw⟩ := hw r hs' hp.1
  have hadc : adc' = fun k => ad (pz_rn σ δ h.length k) := by
    funext i
    exact hagc.2 i (by omega)
  subst hadc
  rw [← e1] at hP1 hz hk
  have hσ := hc.len
  have hbl : (pz_back h σ (hs'.map (pz_rc (pz_rn σ δ h.length)))).length = h.length := by
    rw [pz_back_len σ h _ (by rw [List.length_map]; omega), List.length_map]
    omega
  have hlt : ∀ i, i < h.length → ∃ c, pz_at h i = some c := fun i hi => ⟨h[i], by rw [pz_at_eq]; exact List.getElem?_eq_getElem hi⟩
  have hP2 : va_P D vwCl (pz_w ad kA (pz_back h σ (hs'.map (pz_rc (pz_rn σ δ h.length))))) T'.heap := by
    intro i q hq
    obtain ⟨c2, hc2, rfl⟩ := pz_w_inv hq
    rw [pz_at_eq] at hc2
    have hi : i < h.length := by rw [← hbl]; exact (List.getElem?_eq_some_iff.mp hc2).1
    by_cases hin : i ∈ σ
    · obtain ⟨j, hj⟩ := List.getElem?_of_mem hin
      have hjl : j < hs'.length := by rw [hlen, ← hσ]; exact (List.getElem?_eq_some_iff.mp hj).1
      have hcj : hs'[j]? = some hs'[j] := List.getElem?_eq_getElem hjl
      have hb := pz_back_in σ h (hs'.map (pz_rc (pz_rn σ δ h.length))) j i (pz_rc (pz_rn σ δ h.length) hs'[j]) hc.2.1 hj (by rw [List.getElem?_map, hcj]; rfl) hi
      rw [hb] at hc2
      cases hc2
      have := hP1 j _ (pz_w_get (by rw [pz_at_eq]; exact hcj))
      rw [pz_e_rc]
      rw [hc.rn hj] at this
      exact this
    · rw [pz_back_out σ h _ i hin hi] at hc2
      have h1 := hP i _ (pz_w_get (by rw [pz_at_eq]; exact hc2))
      refine h1.kept (hk _ h1.lt ?_)
      rintro (⟨j, x, hq⟩ | hq)
      · obtain ⟨c3, g1, g2⟩ := pz_w_inv hq
        have hjl : j < σ.length := by rw [hσ]; rw [pz_at_eq] at g1; exact (List.getElem?_eq_some_iff.mp g1).1
        have hj : σ[j]? = some σ[j] := List.getElem?_eq_getElem hjl
        obtain ⟨c4, -, g4⟩ := hc.at hj
        have e5 : ad i = ad σ[j] := by
          have := (Prod.ext_iff.mp g2).1
          simp only at this
          rw [hc.rn hj] at this
          exact this
        have := hD.1 i σ[j] _ _ (pz_w_get (by rw [pz_at_eq]; exact hc2)) (pz_w_get (by rw [pz_at_eq]; exact g4)) e5
        exact hin (this ▸ List.getElem_mem hjl)
      · have := h1.lt
        simp only at this
        omega
  have hD2 : va_D A (pz_w ad kA (pz_back h σ (hs'.map (pz_rc (pz_rn σ δ h.length))))) := by
    refine ⟨fun i j x y hx hy hxy => ?_, fun i x hx => ?_⟩
    · obtain ⟨c1, a1, rfl⟩ := pz_w_inv hx
      obtain ⟨c2, a2, rfl⟩ := pz_w_inv hy
      rw [pz_at_eq] at a1 a2
      obtain ⟨c3, a3⟩ := hlt i (by rw [← hbl]; exact (List.getElem?_eq_some_iff.mp a1).1)
      obtain ⟨c4, a4⟩ := hlt j (by rw [← hbl]; exact (List.getElem?_eq_some_iff.mp a2).1)
      exact hD.1 i j _ _ (pz_w_get a3) (pz_w_get a4) hxy
    · obtain ⟨c1, a1, rfl⟩ := pz_w_inv hx
      rw [pz_at_eq] at a1
      obtain ⟨c3, a3⟩ := hlt i (by rw [← hbl]; exact (List.getElem?_eq_some_iff.mp a1).1)
      have g9 := hD.2 i _ (pz_w_get a3)
      exact g9
  have hS2 : va_S A s.heap T'.heap (locs ++ L) := by
    refine ⟨Nat.le_trans hS.1 hz, fun q h1 h2 => ?_, fun q hq => ?_⟩
    · rw [hk q (Nat.lt_of_lt_of_le h1 hS.1) (fun z => h2 (hFc q z))]
      exact hS.2.1 q h1 h2
    · rcases List.mem_append.mp hq with hq | hq
      · exact hS.2.2 q hq
      · exact hFc _ (hL q hq)
  have hag2 : pz_ag n0 (pz_back h σ (hs'.map (pz_rc (pz_rn σ δ h.length)))) ad ad0 := by
    unfold pz_ag
    rw [hbl]
    exact hag
  have := hw bs D kA ad ad0 p l e s m args below meth c A T'.heap (locs ++ L) lc X0 hag2 hP2 hD2 hS2 hl T' rfl X'
  obtain ⟨t2, a1, b1⟩ := this
  refine ⟨t2, st t2 ?_, b1⟩
  have est : (((r.map (pz_v (pz_rn σ δ h.length))).toList ++ rest0).map (pz_v ad)) = (r.map (pz_v (fun k => ad (pz_rn σ δ h.length k)))).toList ++ rest0.map (pz_v ad) := by
    cases r with
    | none => rfl
    | some x => simp [pz_v_v]
  rw [est] at a1
  exact a1
theorem v_pz_after1 (X0 : v_pz_X sL sX M bs D kA ad p s m args meth c A) (hag : pz_ag n0 h ad ad0) (hP : va_P D vwCl (pz_w ad kA h) H) (hD : va_D A (pz_w ad kA h)) (hS : va_S A s.heap H locs) (hl : lv_has lc M.2.2.1 (pz_l ad ls)) (hc : pz_Cut h hs σ []) (hfr : pz_fresh h.length ls rest0 h = true)
    (hr : va_Run p l e (pz_R d mc ms) s m args below meth c H locs k n mc' ms' (F0 m pc lc st0) (rest0.map (pz_v ad)) (pz_Q D kA (fun k => ad (pz_rn σ [] h.length k)) hs.length Post' (va_A (pz_w (fun k => ad (pz_rn σ [] h.length k)) kA hs) H.size) aa) (va_A (pz_w (fun k => ad (pz_rn σ [] h.length k)) kA hs) H.size))
    (hw : ∀ r hs', Post' r hs' → (hs'.length ≤ 500 ∧ h.length + (hs'.length - hs.length) ≤ 500) ∧ v_pz_W sL sX M d mc ms n0 Post (pc + 3) ls ((r.map (pz_v (pz_rn σ [] h.length))).toList ++ rest0) (pz_back h σ (hs'.map (pz_rc (pz_rn σ [] h.length)))) (k + mc') (n + ms')) :
    W p l.1 e (pz_R d mc ms) s m args below meth c H locs k n (vx_MQ below (pz_Q D kA ad0 n0 Post A) (pz_XC M D kA ad0 n0 Post A) args s mc ms A) (F0 m pc lc st0) := by
  have X := X0.1
  have hFc := pz_free X hD hS hc
  intro T hT XX
  obtain ⟨v, st₀, t, T', L, h0, X', hL, e1, e2, ⟨⟨r, hs', adc', hp, hagc, hv, hP1, hK1, hD1⟩, hz, hk⟩, st⟩ := hr T hT XX
  cases hv
  rw [h0] at hz hk
  obtain ⟨⟨hb1, hb2⟩, hw⟩ := hw r hs' hp.1
  obtain ⟨hle, hagc⟩ := hagc
  rw [← e1] at hP1 hz hk
  have hσ := hc.len
  simp only [pz_fresh, Bool.and_eq_true] at hfr
  obtain ⟨f1, f2, f3, f4⟩ := hfr
  have f1 : h.length < 500 := Nat.blt_eq.mp f1
  obtain ⟨ad2, had2⟩ : ∃ ad2 : Nat → Nat, ad2 = fun i => if h.length ≤ i ∧ i < h.length + (hs'.length - hs.length) then adc' (hs.length + (i - h.length)) else ad i := ⟨_, rfl⟩
  have hold : ∀ i, (i < h.length ∨ h.length + (hs'.length - hs.length) ≤ i) → ad2 i = ad i := by
    intro i hi
    rw [had2]
    simp only
    rw [if_neg (by omega)]
  have hnew : ∀ i, h.length ≤ i → i < h.length + (hs'.length - hs.length) → ad2 i = adc' (hs.length + (i - h.length)) := by
    intro i h1 h2
    rw [had2]
    simp only
    rw [if_pos ⟨h1, h2⟩]
  have hlk : pz_like h.length ad ad2 := fun i hi => hold i (by omega)
  have hin0 : ∀ (j i : Nat), σ[j]? = some i → i < h.length := by
    intro j i hj
    obtain ⟨c4, -, g4⟩ := hc.at hj
    exact (List.getElem?_eq_some_iff.mp g4).1
  have hkey : ∀ i, ad2 (pz_rn σ [] h.length i) = adc' i := by
    intro i
    by_cases hi : i < σ.length
    · have hj : σ[i]? = some σ[i] := List.getElem?_eq_getElem hi
      rw [hc.rn hj, hold _ (Or.inl (hin0 i _ hj))]
      have := hagc i (Or.inl (by omega))
      simp only [hc.rn hj] at this
      exact this.symm
    · have en : pz_at σ i = none := by rw [pz_at_eq]; exact List.getElem?_eq_none_iff.mpr (by omega)
      by_cases h5 : i < 500
      · have er : pz_rn σ [] h.length i = h.length + (i - σ.length) := by
          unfold pz_rn
          rw [en]
          simp only
          rw [if_pos h5]
        rw [er]
        by_cases h6 : i < hs'.length
        · rw [hnew _ (by omega) (by omega)]
          congr 1
          omega
        · rw [hold _ (Or.inr (by omega))]
          have := hagc i (Or.inr (by omega))
          simp only [er] at this
          exact this.symm
      · have er : pz_rn σ [] h.length i = i := by
          unfold pz_rn
          rw [en]
          simp only
          rw [if_neg h5]
          rfl
        rw [er, hold _ (Or.inr (by omega))]
        have := hagc i (Or.inr (by omega))
        simp only [er] at this
        exact this.symm
  have hkey2 : (fun k => ad2 (pz_rn σ [] h.length k)) = adc' := funext hkey
  have hbl : (pz_back h σ (hs'.map (pz_rc (pz_rn σ [] h.length)))).length = h.length + (hs'.length - hs.length) := by
    rw [pz_back_len σ h _ (by rw [List.length_map]; omega), List.length_map]
    omega
  have hlt : ∀ i, i < h.length → ∃ c, pz_at h i = some c := fun i hi => ⟨h[i], by rw [pz_at_eq]; exact List.getElem?_eq_getElem hi⟩
  have hlt2 : ∀ i, i < hs'.length → ∃ c, pz_at hs' i = some c := fun i hi => ⟨hs'[i], by rw [pz_at_eq]; exact List.getElem?_eq_getElem hi⟩
  have hP2 : va_P D vwCl (pz_w ad2 kA (pz_back h σ (hs'.map (pz_rc (pz_rn σ [] h.length))))) T'.heap := by
    intro i q hq
    obtain ⟨c2, hc2, rfl⟩ := pz_w_inv hq
    rw [pz_at_eq] at hc2
    have hi2 : i < h.length + (hs'.length - hs.length) := by rw [← hbl]; exact (List.getElem?_eq_some_iff.mp hc2).1
    by_cases hi : i < h.length
    · by_cases hin : i ∈ σ
      · obtain ⟨j, hj⟩ := List.getElem?_of_mem hin
        have hjl : j < hs'.length := Nat.lt_of_lt_of_le (by rw [← hσ]; exact (List.getElem?_eq_some_iff.mp hj).1) hle
        have hcj : hs'[j]? = some hs'[j] := List.getElem?_eq_getElem hjl
        have hb := pz_back_in σ h (hs'.map (pz_rc (pz_rn σ [] h.length))) j i (pz_rc (pz_rn σ [] h.length) hs'[j]) hc.2.1 hj (by rw [List.getElem?_map, hcj]; rfl) hi
        rw [hb] at hc2
        cases hc2
        have := hP1 j _ (pz_w_get (by rw [pz_at_eq]; exact hcj))
        rw [pz_e_rc, hkey2]
        have e5 : ad2 i = adc' j := by rw [← hkey j, hc.rn hj]
        rw [e5]
        exact this
      · rw [pz_back_out σ h _ i hin hi] at hc2
        have h1 := hP i _ (pz_w_get (by rw [pz_at_eq]; exact hc2))
        rw [hold i (Or.inl hi), pz_fc_eq hlk (List.all_eq_true.mp f2 c2 (List.mem_of_getElem? hc2))]
        refine h1.kept (hk _ h1.lt ?_)
        rintro (⟨j, x, hq⟩ | hq)
        · obtain ⟨c3, g1, g2⟩ := pz_w_inv hq
          have hjl : j < σ.length := by rw [hσ]; rw [pz_at_eq] at g1; exact (List.getElem?_eq_some_iff.mp g1).1
          have hj : σ[j]? = some σ[j] := List.getElem?_eq_getElem hjl
          obtain ⟨c4, -, g4⟩ := hc.at hj
          have e5 : ad i = ad σ[j] := by
            have := (Prod.ext_iff.mp g2).1
            simp only at this
            rw [hc.rn hj] at this
            exact this
          have := hD.1 i σ[j] _ _ (pz_w_get (by rw [pz_at_eq]; exact hc2)) (pz_w_get (by rw [pz_at_eq]; exact g4)) e5
          exact hin (this ▸ List.getElem_mem hjl)
        · have := h1.lt
          simp only at this
          omega
    · obtain ⟨j, rfl⟩ : ∃ j, i = h.length + j := ⟨i - h.length, by omega⟩
      rw [pz_back_new σ h _ j (by rw [List.length_map]; omega), List.getElem?_map] at hc2
      have hjl : σ.length + j < hs'.length := by omega
      have hcj : hs'[σ.length + j]? = some hs'[σ.length + j] := List.getElem?_eq_getElem hjl
      rw [hcj] at hc2
      cases hc2
      have := hP1 _ _ (pz_w_get (by rw [pz_at_eq]; exact hcj))
      rw [pz_e_rc, hkey2, hnew _ (by omega) hi2]
      have e5 : hs.length + (h.length + j - h.length) = σ.length + j := by omega
      rw [e5]
      exact this
  have hfar : ∀ i, hs.length ≤ i → i < hs'.length → H.size ≤ adc' i := by
    intro i h1 h2
    obtain ⟨c3, a3⟩ := hlt2 i h2
    have hin := hD1.2 i _ (pz_w_get a3)
    rcases hin with ⟨j, x, hq⟩ | hq
    · obtain ⟨c4, g1, g2⟩ := pz_w_inv hq
      rw [pz_at_eq] at g1
      have hj : j < hs.length := (List.getElem?_eq_some_iff.mp g1).1
      obtain ⟨c5, a5⟩ := hlt2 j (by omega)
      have e5 : adc' i = adc' j := by
        have := (Prod.ext_iff.mp g2).1
        simp only at this
        rw [this]
        exact (hagc j (Or.inl hj)).symm
      have := hD1.1 i j _ _ (pz_w_get a3) (pz_w_get a5) e5
      omega
    · exact hq
  have hD2 : va_D A (pz_w ad2 kA (pz_back h σ (hs'.map (pz_rc (pz_rn σ [] h.length))))) := by
    have hnear : ∀ i, i < h.length → ad i < H.size := by
      intro i hi
      obtain ⟨c3, a3⟩ := hlt i hi
      exact (hP i _ (pz_w_get a3)).lt
    refine ⟨fun i j x y hx hy hxy => ?_, fun i x hx => ?_⟩
    · obtain ⟨c1, a1, rfl⟩ := pz_w_inv hx
      obtain ⟨c2, a2, rfl⟩ := pz_w_inv hy
      rw [pz_at_eq] at a1 a2
      have hi2 : i < h.length + (hs'.length - hs.length) := by rw [← hbl]; exact (List.getElem?_eq_some_iff.mp a1).1
      have hj2 : j < h.length + (hs'.length - hs.length) := by rw [← hbl]; exact (List.getElem?_eq_some_iff.mp a2).1
      simp only at hxy
      by_cases hi : i < h.length
      · by_cases hj : j < h.length
        · obtain ⟨c3, a3⟩ := hlt i hi
          obtain ⟨c4, a4⟩ := hlt j hj
          rw [hold i (Or.inl hi), hold j (Or.inl hj)] at hxy
          exact hD.1 i j _ _ (pz_w_get a3) (pz_w_get a4) hxy
        · rw [hold i (Or.inl hi), hnew j (by omega) hj2] at hxy
          have g1 := hnear i hi
          have g2 := hfar (hs.length + (j - h.length)) (by omega) (by omega)
          omega
      · by_cases hj : j < h.length
        · rw [hold j (Or.inl hj), hnew i (by omega) hi2] at hxy
          have g1 := hnear j hj
          have g2 := hfar (hs.length + (i - h.length)) (by omega) (by omega)
          omega
        · rw [hnew i (by omega) hi2, hnew j (by omega) hj2] at hxy
          obtain ⟨c3, a3⟩ := hlt2 (hs.length + (i - h.length)) (by omega)
          obtain ⟨c4, a4⟩ := hlt2 (hs.length + (j - h.length)) (by omega)
          have := hD1.1 _ _ _ _ (pz_w_get a3) (pz_w_get a4) hxy
          omega
    · obtain ⟨c1, a1, rfl⟩ := pz_w_inv hx
      rw [pz_at_eq] at a1
      have hi2 : i < h.length + (hs'.length - hs.length) := by rw [← hbl]; exact (List.getElem?_eq_some_iff.mp a1).1
      by_cases hi : i < h.length
      · obtain ⟨c3, a3⟩ := hlt i hi
        simp only
        rw [hold i (Or.inl hi)]
        have g9 := hD.2 i _ (pz_w_get a3)
        exact g9
      · simp only
        rw [hnew i (by omega) hi2]
        obtain ⟨c3, a3⟩ := hlt2 (hs.length + (i - h.length)) (by omega)
        have g9 := hFc _ (hD1.2 _ _ (pz_w_get a3))
        exact g9
  have hS2 : va_S A s.heap T'.heap (locs ++ L) := by
    refine ⟨Nat.le_trans hS.1 hz, fun q h1 h2 => ?_, fun q hq => ?_⟩
    · rw [hk q (Nat.lt_of_lt_of_le h1 hS.1) (fun z => h2 (hFc q z))]
      exact hS.2.1 q h1 h2
    · rcases List.mem_append.mp hq with hq | hq
      · exact hS.2.2 q hq
      · exact hFc _ (hL q hq)
  have hag2 : pz_ag n0 (pz_back h σ (hs'.map (pz_rc (pz_rn σ [] h.length)))) ad2 ad0 := by
    refine ⟨by rw [hbl]; have := hag.1; omega, fun i hi => ?_⟩
    rw [hbl] at hi
    have g := hag.1
    rw [hold i (by omega)]
    exact hag.2 i (by omega)
  have := hw bs D kA ad2 ad0 p l e s m args below meth c A T'.heap (locs ++ L) lc (v_pz_X_like hlk X0) hag2 hP2 hD2 hS2 (by rw [pz_fls_eq hlk f3]; exact hl) T' rfl X'
  obtain ⟨t2, a1, b1⟩ := this
  refine ⟨t2, st t2 ?_, b1⟩
  have est : (((r.map (pz_v (pz_rn σ [] h.length))).toList ++ rest0).map (pz_v ad2)) = (r.map (pz_v adc')).toList ++ rest0.map (pz_v ad) := by
    rw [List.map_append, pz_fvs_eq hlk f4]
    congr 1
    cases r with
    | none => rfl
    | some x =>
      simp only [Option.map_some, Option.toList_some, List.map_cons, List.map_nil]
      rw [pz_v_v, hkey2]
  rw [est] at a1
  exact a1
end
section
variable {M M' : pz_M} {d d' mc ms n0 pc k n np idx : Nat} {Post Post' : Option Value → pz_H → Prop} {ls : pz_L} {h hs : pz_H} {rest0 : List Value} {asc : List Value}
theorem v_pz_callV {b0 ci : Nat} {fs : List Value} {q : vw_C} (hlk : Cond.methodLink M.1.cls idx M'.1 ∈ pz_gw) (hcv : pz_CV M' np) (hd : decode M.2.1 pc = .ok (.invokevirtual idx, 3)) (hT : pz_T M' d' 0 0 (.ref b0 :: asc) hs Post') (σ δ : List Nat) (hdd : d' + 1 ≤ d) (hnp : asc.length = np) (hcl : vwCl[ci]? = some q) (hcq : q.1 = M'.1.cls) (hb : pz_at hs b0 = some (.inr (ci, fs)))
    (hc : pz_Cut h hs σ δ) (hrs : (rest0.map fun v => v.category).sum ≤ 8)
    (hw : ∀ r hs', Post' r hs' → hs'.length = hs.length ∧ v_pz_W sL sX M d mc ms n0 Post (pc + 3) ls ((r.map (pz_v (pz_rn σ δ h.length))).toList ++ rest0) (pz_back h σ (hs'.map (pz_rc (pz_rn σ δ h.length)))) k n) :
    k ≤ mc → n ≤ ms → v_pz_W sL sX M d mc ms n0 Post pc ls (((.ref b0 :: asc).map (pz_v (pz_rn σ δ h.length))).reverse ++ rest0) h k n := by
  intro hk hn bs D kA ad ad0 p l e s m args below meth c A H locs lc X0 hag hP hD hS hl
  have X := X0.1
  obtain ⟨c1, c2, c3, c4, c5, c6⟩ := hcv
  have hts := X.2.2.2.2.2.1
  have hPc : va_P D vwCl (pz_w (fun k => ad (pz_rn σ δ h.length k)) kA hs) H := hP.sub σ (pz_filter_sub hc.ws)
  have hrec := va_recv X.2.2.2.2.2.2.2.2.1 hPc hcl (pz_w_get hb)
  rw [hcq] at hrec
  refine v_pz_after0 (mc' := 0) (ms' := 0) (aa := ((Value.ref b0 :: asc).map (pz_v (fun k => ad (pz_rn σ δ h.length k)))).toArray) (rest0 := rest0) X0 hag hP hD hS hl hc ?_ hw
  have hst : ((((Value.ref b0 :: asc).map (pz_v (pz_rn σ δ h.length))).reverse ++ rest0).map (pz_v ad)) = (asc.map (pz_v (fun k => ad (pz_rn σ δ h.length k)))).reverse ++ Value.ref (ad (pz_rn σ δ h.length b0)) :: rest0.map (pz_v ad) := by
    rw [List.map_append, List.map_reverse, pz_vs_vs]
    simp [pz_v]
  rw [hst]
  exact va_runV (b := ad (pz_rn σ δ h.length b0)) (As := asc.map (pz_v (fun k => ad (pz_rn σ δ h.length k)))) (rest := rest0.map (pz_v ad)) (ret := M'.2.2.2.1) (n := np) ⟨X.1, X.2.1, X.2.2.1, X.2.2.2.2.1, hts⟩ (hT l bs D kA (fun k => ad (pz_rn σ δ h.length k)) H.size)
    ⟨callB_of np hts (pz_good M' c4) rfl rfl rfl (hts _ c3) (hts _ hlk) c5 ⟨hdd, pz_room hdd c6⟩, hts _ c1, hts _ c2⟩ ⟨pz_blind, hrec, fun U hU hW => ⟨rfl, pz_pre X hP hD hS hc hU hW⟩⟩ rfl (by rw [List.length_map]; exact hnp) hl.1 rfl (by rw [pz_cats]; show 2 * 0 + _ ≤ 8; omega) hd ⟨hk, hn⟩
theorem v_pz_callS (hlk : Cond.methodLink M.1.cls idx M'.1 ∈ pz_gw) (hcv : pz_CS M' np) (hd : decode M.2.1 pc = .ok (.invokestatic idx, 3)) (hT : pz_T M' d' 0 0 asc hs Post') (σ δ : List Nat) (hdd : d' + 1 ≤ d) (hnp : asc.length = np)
    (hc : pz_Cut h hs σ δ) (hrs : (rest0.map fun v => v.category).sum ≤ 8)
    (hw : ∀ r hs', Post' r hs' → hs'.length = hs.length ∧ v_pz_W sL sX M d mc ms n0 Post (pc + 3) ls ((r.map (pz_v (pz_rn σ δ h.length))).toList ++ rest0) (pz_back h σ (hs'.map (pz_rc (pz_rn σ δ h.length)))) k n) :
    k ≤ mc → n ≤ ms → v_pz_W sL sX M d mc ms n0 Post pc ls ((asc.map (pz_v (pz_rn σ δ h.length))).reverse ++ rest0) h k n := by
  intro hk hn bs D kA ad ad0 p l e s m args below meth c A H locs lc X0 hag hP hD hS hl
  have X := X0.1
  obtain ⟨c1, c3, c4, c5, c6⟩ := hcv
  have hts := X.2.2.2.2.2.1
  refine v_pz_after0 (mc' := 0) (ms' := 0) (aa := (asc.map (pz_v (fun k => ad (pz_rn σ δ h.length k)))).toArray) (rest0 := rest0) X0 hag hP hD hS hl hc ?_ hw
  have hst : (((asc.map (pz_v (pz_rn σ δ h.length))).reverse ++ rest0).map (pz_v ad)) = (asc.map (pz_v (fun k => ad (pz_rn σ δ h.length k)))).reverse ++ rest0.map (pz_v ad) := by
    rw [List.map_append, List.map_reverse, pz_vs_vs]
  rw [hst]
  exact va_runS (As := asc.map (pz_v (fun k => ad (pz_rn σ δ h.length k)))) (rest := rest0.map (pz_v ad)) (ret := M'.2.2.2.1) (n := np) ⟨X.1, X.2.1, X.2.2.1, X.2.2.2.2.1, hts⟩ (hT l bs D kA (fun k => ad (pz_rn σ δ h.length k)) H.size)
    ⟨callB_of np hts (pz_good M' c4) rfl rfl rfl (hts _ c3) (hts _ hlk) c5 ⟨hdd, pz_room hdd c6⟩, hts _ c1⟩ ⟨pz_blind, fun U hU hW => ⟨rfl, pz_pre X hP hD hS hc hU hW⟩⟩ rfl (by rw [List.length_map]; exact hnp) hl.1 rfl (by rw [pz_cats]; show 2 * 0 + _ ≤ 8; omega) hd ⟨hk, hn⟩
theorem v_pz_callI {b0 mc' ms' : Nat} {host : String} (hlk : Cond.methodLink M.1.cls idx M'.1 ∈ pz_gw ∨ Cond.methodLinkNest M.1.cls idx M'.1 host ∈ pz_nw) (hcv : pz_CI M' np) (hd : decode M.2.1 pc = .ok (.invokespecial idx, 3)) (hT : pz_T M' d' mc' ms' (.ref b0 :: asc) hs Post') (σ : List Nat) (hdd : d' + 1 ≤ d) (hnp : asc.length = np)
    (hc : pz_Cut h hs σ []) (hfr : pz_fresh h.length ls rest0 h = true) (hrs : (rest0.map fun v => v.category).sum ≤ 8)
    (hw : ∀ r hs', Post' r hs' → (hs'.length ≤ 500 ∧ h.length + (hs'.length - hs.length) ≤ 500) ∧ v_pz_W sL sX M d mc ms n0 Post (pc + 3) ls ((r.map (pz_v (pz_rn σ [] h.length))).toList ++ rest0) (pz_back h σ (hs'.map (pz_rc (pz_rn σ [] h.length)))) (k + mc') (n + ms')) :
    k + mc' ≤ mc → n + ms' ≤ ms → v_pz_W sL sX M d mc ms n0 Post pc ls (((.ref b0 :: asc).map (pz_v (pz_rn σ [] h.length))).reverse ++ rest0) h k n := by
  intro hk hn bs D kA ad ad0 p l e s m args below meth c A H locs lc X0 hag hP hD hS hl
  have X := X0.1
  obtain ⟨c1, c3, c4, c5, c6, c7, c8⟩ := hcv
  have hts := X.2.2.2.2.2.1
  refine v_pz_after1 (aa := ((Value.ref b0 :: asc).map (pz_v (fun k => ad (pz_rn σ [] h.length k)))).toArray) (rest0 := rest0) X0 hag hP hD hS hl hc hfr ?_ hw
  have hst : ((((Value.ref b0 :: asc).map (pz_v (pz_rn σ [] h.length))).reverse ++ rest0).map (pz_v ad)) = (asc.map (pz_v (fun k => ad (pz_rn σ [] h.length k)))).reverse ++ Value.ref (ad (pz_rn σ [] h.length b0)) :: rest0.map (pz_v ad) := by
    rw [List.map_append, List.map_reverse, pz_vs_vs]
    simp [pz_v]
  rw [hst]
  have hT2 := hT l bs D kA (fun k => ad (pz_rn σ [] h.length k)) H.size
  have c4' : Cond.code M'.1 M'.2.1 M'.2.2.1 M'.2.2.2.1 ∈ pz_gw := by rw [c8]; exact c4
  have hws : pz_ws M' = Cond.code M'.1 M'.2.1 M'.2.2.1 none :: pz_gw := by unfold pz_ws; rw [c8]
  rcases hlk with hlk | hlk
  · exact va_runI (b := ad (pz_rn σ [] h.length b0)) (As := asc.map (pz_v (fun k => ad (pz_rn σ [] h.length k)))) (rest := rest0.map (pz_v ad)) (n := np) ⟨X.1, X.2.1, X.2.2.1, X.2.2.2.2.1, hts⟩ hT2
      ⟨callB_of np hts (pz_good M' c4') hws rfl rfl (hts _ c3) (hts _ hlk) c5 ⟨hdd, pz_room hdd c6⟩, c7, hts _ c1⟩ ⟨pz_blind, fun U hU hW => ⟨rfl, pz_pre X hP hD hS hc hU hW⟩⟩ rfl (by rw [List.length_map]; exact hnp) hl.1 rfl (by rw [pz_cats]; show 2 * 0 + _ ≤ 8; omega) hd ⟨hk, hn⟩
  · exact va_runIN (b := ad (pz_rn σ [] h.length b0)) (As := asc.map (pz_v (fun k => ad (pz_rn σ [] h.length k)))) (rest := rest0.map (pz_v ad)) (n := np) (host := host) ⟨X.1, X.2.1, X.2.2.1, X.2.2.2.2.1, hts⟩ hT2
      ⟨va_cnB np hts (pz_good M' c4') hws rfl rfl (X.2.2.2.2.2.2.2.2.2.2.2.2.1 _ hlk) (hts _ c3) c5 ⟨hdd, pz_room hdd c6⟩, c7, hts _ c1⟩ ⟨pz_blind, fun U hU hW => ⟨rfl, pz_pre X hP hD hS hc hU hW⟩⟩ rfl (by rw [List.length_map]; exact hnp) hl.1 rfl (by rw [pz_cats]; show 2 * 0 + _ ≤ 8; omega) hd ⟨hk, hn⟩
end

theorem v_pz_sound1 {M : pz_M} {pc len : Nat} {ins : Instr} {inf : List Nat} {cv : Value} (h1 : decode M.2.1 pc = .ok (ins, len)) (h2 : pz_okx M ins len inf cv = true) : v_pz_S sL sX M pc len (pz_opi M.2.2.1 ins inf cv) := by
  cases ins with
  | iadd  => exact (have hl := of_decide_eq_true h2; by subst hl; exact v_so_iadd h1)
  | isub  => exact (have hl := of_decide_eq_true h2; by subst hl; exact v_so_isub h1)
  | imul  => exact (have hl := of_decide_eq_true h2; by subst hl; exact v_so_imul h1)
  | iand  => exact (have hl := of_decide_eq_true h2; by subst hl; exact v_so_iand h1)
  | ior  => exact (have hl := of_decide_eq_true h2; by subst hl; exact v_so_ior h1)
  | ixor  => exact (have hl := of_decide_eq_true h2; by subst hl; exact v_so_ixor h1)
  | ishl  => exact (have hl := of_decide_eq_true h2; by subst hl; exact v_so_ishl h1)
  | ishr  => exact (have hl := of_decide_eq_true h2; by subst hl; exact v_so_ishr h1)
  | iushr  => exact (have hl := of_decide_eq_true h2; by subst hl; exact v_so_iushr h1)
  | ladd  => exact (have hl := of_decide_eq_true h2; by subst hl; exact v_so_ladd h1)
  | lsub  => exact (have hl := of_decide_eq_true h2; by subst hl; exact v_so_lsub h1)
  | lmul  => exact (have hl := of_decide_eq_true h2; by subst hl; exact v_so_lmul h1)
  | land  => exact (have hl := of_decide_eq_true h2; by subst hl; exact v_so_land h1)
  | lor  => exact (have hl := of_decide_eq_true h2; by subst hl; exact v_so_lor h1)
  | lxor  => exact (have hl := of_decide_eq_true h2; by subst hl; exact v_so_lxor h1)
  | idiv  => exact (have hl := of_decide_eq_true h2; by subst hl; exact v_so_idiv h1)
  | irem  => exact (have hl := of_decide_eq_true h2; by subst hl; exact v_so_irem h1)
  | ldiv  => exact (have hl := of_decide_eq_true h2; by subst hl; exact v_so_ldiv h1)
  | ineg  => exact (have hl := of_decide_eq_true h2; by subst hl; exact v_so_ineg h1)
  | lneg  => exact (have hl := of_decide_eq_true h2; by subst hl; exact v_so_lneg h1)
  | i2l  => exact (have hl := of_decide_eq_true h2; by subst hl; exact v_so_i2l h1)
  | l2i  => exact (have hl := of_decide_eq_true h2; by subst hl; exact v_so_l2i h1)
  | i2b  => exact (have hl := of_decide_eq_true h2; by subst hl; exact v_so_i2b h1)
  | i2c  => exact (have hl := of_decide_eq_true h2; by subst hl; exact v_so_i2c h1)
  | lshl  => exact (have hl := of_decide_eq_true h2; by subst hl; exact v_so_lshl h1)
  | lshr  => exact (have hl := of_decide_eq_true h2; by subst hl; exact v_so_lshr h1)
  | lushr  => exact (have hl := of_decide_eq_true h2; by subst hl; exact v_so_lushr h1)
  | lcmp  => exact (have hl := of_decide_eq_true h2; by subst hl; exact v_so_lcmp h1)
  | dup  => exact (have hl := of_decide_eq_true h2; by subst hl; exact v_so_dup h1)
  | pop  => exact (have hl := of_decide_eq_true h2; by subst hl; exact v_so_pop h1)
  | dup2  => exact (have hl := of_decide_eq_true h2; by subst hl; exact v_so_dup2 h1)
  | iaload  => exact (have hl := of_decide_eq_true h2; by subst hl; exact v_so_iald h1)
  | laload  => exact (have hl := of_decide_eq_true h2; by subst hl; exact v_so_lald h1)
  | baload  => exact (have hl := of_decide_eq_true h2; by subst hl; exact v_so_bald h1)
  | arraylength  => exact (have hl := of_decide_eq_true h2; by subst hl; exact v_so_alen h1)
  | iastore  => exact (have hl := of_decide_eq_true h2; by subst hl; exact v_so_iast h1)
  | lastore  => exact (have hl := of_decide_eq_true h2; by subst hl; exact v_so_last h1)
  | bastore  => exact (have hl := of_decide_eq_true h2; by subst hl; exact v_so_bast h1)
  | iconst i =>
    have h2 : (decide (len = 1) && pz_vint cv (fun v => decide (Int32.ofInt i = v))) = true := h2
    rw [Bool.and_eq_true] at h2
    obtain ⟨hl, h3⟩ := h2
    have hl := of_decide_eq_true hl
    subst hl
    cases cv with
    | int v => exact v_so_iconst h1 (of_decide_eq_true h3)
    | null => exact v_so_none
    | _ => cases h3
  | bipush i =>
    have h2 : (decide (len = 2) && pz_vint cv (fun v => decide ((Int8.ofInt i).toInt32 = v))) = true := h2
    rw [Bool.and_eq_true] at h2
    obtain ⟨hl, h3⟩ := h2
    have hl := of_decide_eq_true hl
    subst hl
    cases cv with
    | int v => exact v_so_bipush h1 (of_decide_eq_true h3)
    | null => exact v_so_none
    | _ => cases h3
  | sipush i =>
    have h2 : (decide (len = 3) && pz_vint cv (fun v => decide ((Int16.ofInt i).toInt32 = v))) = true := h2
    rw [Bool.and_eq_true] at h2
    obtain ⟨hl, h3⟩ := h2
    have hl := of_decide_eq_true hl
    subst hl
    cases cv with
    | int v => exact v_so_sipush h1 (of_decide_eq_true h3)
    | null => exact v_so_none
    | _ => cases h3
  | lconst i =>
    have h2 : (decide (len = 1) && pz_vlong cv (fun v => decide (Int64.ofNat (i : Nat) = v))) = true := h2
    rw [Bool.and_eq_true] at h2
    obtain ⟨hl, h3⟩ := h2
    have hl := of_decide_eq_true hl
    subst hl
    cases cv with
    | long v => exact v_so_lconst h1 (of_decide_eq_true h3)
    | null => exact v_so_none
    | _ => cases h3
  | ldc i =>
    have h2 : (decide (len = 2) && pz_vint cv (fun v => pz_gwi (pz_l0 inf) (.constant M.1.cls i v))) = true := h2
    rw [Bool.and_eq_true] at h2
    obtain ⟨hl, h3⟩ := h2
    have hl := of_decide_eq_true hl
    subst hl
    cases cv with
    | int v => exact v_so_ldc (pz_gwi_mem h3) h1
    | null => exact v_so_none
    | _ => cases h3
  | ldc_w i =>
    have h2 : (decide (len = 3) && pz_vint cv (fun v => pz_gwi (pz_l0 inf) (.constant M.1.cls i v))) = true := h2
    rw [Bool.and_eq_true] at h2
    obtain ⟨hl, h3⟩ := h2
    have hl := of_decide_eq_true hl
    subst hl
    cases cv with
    | int v => exact v_so_ldcw (pz_gwi_mem h3) h1
    | null => exact v_so_none
    | _ => cases h3
  | ldc2_w i =>
    have h2 : (decide (len = 3) && pz_vlong cv (fun v => pz_gwi (pz_l0 inf) (.constantLong M.1.cls i v))) = true := h2
    rw [Bool.and_eq_true] at h2
    obtain ⟨hl, h3⟩ := h2
    have hl := of_decide_eq_true hl
    subst hl
    cases cv with
    | long v => exact v_so_ldc2 (pz_gwi_mem h3) h1
    | null => exact v_so_none
    | _ => cases h3
  | iload_n j => exact (have hl := of_decide_eq_true h2; by subst hl; exact v_so_iload_n h1 rfl)
  | iload j => exact (have hl := of_decide_eq_true h2; by subst hl; exact v_so_iload h1)
  | istore_n j => exact (have hl := of_decide_eq_true h2; by subst hl; exact v_so_istore_n h1 rfl)
  | istore j => exact (have hl := of_decide_eq_true h2; by subst hl; exact v_so_istore h1)
  | lload_n j => exact (have hl := of_decide_eq_true h2; by subst hl; exact v_so_lload_n h1 rfl)
  | lload j => exact (have hl := of_decide_eq_true h2; by subst hl; exact v_so_lload h1)
  | lstore_n j => exact (have hl := of_decide_eq_true h2; by subst hl; exact v_so_lstore_n h1 rfl)
  | lstore j => exact (have hl := of_decide_eq_true h2; by subst hl; exact v_so_lstore h1)
  | aload_n j => exact (have hl := of_decide_eq_true h2; by subst hl; exact v_so_aload_n h1 rfl)
  | aload j => exact (have hl := of_decide_eq_true h2; by subst hl; exact v_so_aload h1)
  | astore_n j => exact (have hl := of_decide_eq_true h2; by subst hl; exact v_so_astore_n h1 rfl)
  | astore j => exact (have hl := of_decide_eq_true h2; by subst hl; exact v_so_astore h1)
  | iinc i c0 =>
    have h2 : (decide (len = 3) && pz_vint cv (fun v => decide (Int32.ofInt c0 = v))) = true := h2
    rw [Bool.and_eq_true] at h2
    obtain ⟨hl, h3⟩ := h2
    have hl := of_decide_eq_true hl
    subst hl
    cases cv with
    | int v => exact v_so_iinc h1 (of_decide_eq_true h3)
    | null => exact v_so_none
    | _ => cases h3
  | getfield idx =>
    have h2 : (decide (len = 3) && (match vwCl[pz_l0 inf]? with | some q => decide (pz_l1 inf < q.2.2) && pz_gwi (pz_l2 inf) (.fieldLink M.1.cls idx (q.2.1 (pz_l1 inf)).1 (q.2.1 (pz_l1 inf)).2.1 (q.2.1 (pz_l1 inf)).2.2.1) | none => true)) = true := h2
    rw [Bool.and_eq_true] at h2
    obtain ⟨hl, h3⟩ := h2
    have hl := of_decide_eq_true hl
    subst hl
    cases hq : vwCl[pz_l0 inf]? with
    | none => exact v_so_getX hq
    | some q =>
      rw [hq] at h3
      have h3 := Bool.and_eq_true_iff.mp h3
      exact v_so_get hq (of_decide_eq_true h3.1) (pz_gwi_mem h3.2) h1
  | putfield idx =>
    have h2 : (decide (len = 3) && (match vwCl[pz_l0 inf]? with | some q => decide (pz_l1 inf < q.2.2) && (pz_gwi (pz_l2 inf) (.fieldLink M.1.cls idx (q.2.1 (pz_l1 inf)).1 (q.2.1 (pz_l1 inf)).2.1 (q.2.1 (pz_l1 inf)).2.2.1) && ((match parseFieldDescriptor (q.2.1 (pz_l1 inf)).2.2.1 with | some ty => decide (pz_tc ty = pz_l3 inf) | none => false) && (decide ((q.2.1 (pz_l1 inf)).2.2.2 = false) || decide ((q.2.1 (pz_l1 inf)).2.2.2 = true ∧ M.1.name = "<init>" ∧ (q.2.1 (pz_l1 inf)).1 = M.1.cls)))) | none => false)) = true := h2
    rw [Bool.and_eq_true] at h2
    obtain ⟨hl, h3⟩ := h2
    have hl := of_decide_eq_true hl
    subst hl
    cases hq : vwCl[pz_l0 inf]? with
    | none => rw [hq] at h3; cases h3
    | some q =>
      rw [hq] at h3
      simp only [Bool.and_eq_true] at h3
      obtain ⟨g1, g2, g3, g4⟩ := h3
      cases hp : parseFieldDescriptor (q.2.1 (pz_l1 inf)).2.2.1 with
      | none => rw [hp] at g3; cases g3
      | some ty =>
        rw [hp] at g3
        exact v_so_put hq (of_decide_eq_true g1) (pz_gwi_mem g2) hp (of_decide_eq_true g3) ((Bool.or_eq_true_iff.mp g4).elim (fun z => Or.inl (of_decide_eq_true z)) (fun z => Or.inr (of_decide_eq_true z))) h1
  | getstatic idx =>
    have h2 : (if pz_l0 inf = 9 then true else decide (len = 3) && (decide (pz_l0 inf < 5) && (pz_gwi (pz_l1 inf) (.fieldLink M.1.cls idx (pz_sn (pz_l0 inf)).1 (pz_sn (pz_l0 inf)).2.1 (pz_sn (pz_l0 inf)).2.2) || pz_nwi (pz_l1 inf) (.fieldLinkNest M.1.cls idx (pz_sn (pz_l0 inf)).1 (pz_sn (pz_l0 inf)).2.1 (pz_sn (pz_l0 inf)).2.2 "HuntingRudder")))) = true := h2
    show v_pz_S sL sX M pc len (if pz_l0 inf = 9 then pz_on else pz_o_gets (pz_l0 inf))
    by_cases h9 : pz_l0 inf = 9
    · rw [if_pos h9]; exact v_so_none
    rw [if_neg h9] at h2 ⊢
    simp only [Bool.and_eq_true] at h2
    obtain ⟨hl, h3, h4⟩ := h2
    have hl := of_decide_eq_true hl
    subst hl
    exact (Bool.or_eq_true_iff.mp h4).elim (fun z => v_so_gets (of_decide_eq_true h3) (pz_gwi_mem z) h1) (fun z => v_so_getsN (of_decide_eq_true h3) (pz_nwi_mem z) h1)
  | new idx =>
    have h2 : (if pz_l0 inf = 99 then true else decide (len = 3) && (match vwCl[pz_l0 inf]? with | some q => decide (q.2.2 = pz_l1 inf) && (pz_gwi (pz_l2 inf) (.classLink M.1.cls idx q.1) && (pz_gwi (pz_l3 inf) (.instantiable q.1 (pz_l1 inf)) && (pz_gwi (pz_l4 inf) (.initialized q.1) && (pz_dfc q (pz_df (pz_l0 inf)) && (pz_df (pz_l0 inf)).all pz_nr)))) | none => false)) = true := h2
    show v_pz_S sL sX M pc len (if pz_l0 inf = 99 then pz_on else pz_o_new (pz_l0 inf) (pz_l1 inf) (pz_df (pz_l0 inf)))
    by_cases h99 : pz_l0 inf = 99
    · rw [if_pos h99]; exact v_so_none
    rw [if_neg h99] at h2 ⊢
    rw [Bool.and_eq_true] at h2
    obtain ⟨hl, h3⟩ := h2
    have hl := of_decide_eq_true hl
    subst hl
    cases hq : vwCl[pz_l0 inf]? with
    | none => rw [hq] at h3; cases h3
    | some q =>
      rw [hq] at h3
      simp only [Bool.and_eq_true] at h3
      obtain ⟨g1, g2, g3, g4, g5, g6⟩ := h3
      have g1 := of_decide_eq_true g1
      exact v_so_new hq g1 (pz_gwi_mem g2) (pz_gwi_mem g3) (pz_gwi_mem g4) (fun ty hty => g1 ▸ pz_dfc_ok g5 ty hty) (pz_nr_ok g6) h1
  | newarray at0 =>
    have h2 : (decide (len = 2) && (decide (pz_l0 inf < 4) && (decide (newarray.typeOf at0 = pz_ty (pz_l0 inf)) && pz_gwi (pz_l2 inf) (.arrayClass (newarray.typeOf at0))))) = true := h2
    simp only [Bool.and_eq_true] at h2
    obtain ⟨hl, h3, h4, h5⟩ := h2
    have hl := of_decide_eq_true hl
    subst hl
    exact v_so_newa (of_decide_eq_true h3) (of_decide_eq_true h4) (pz_gwi_mem h5) h1
  | invokespecial idx =>
    have h2 : (if pz_l0 inf = 1 then decide (len = 3) && (pz_gwi (pz_l1 inf) (.methodLink M.1.cls idx Lib.objectInit) && (pz_gwi (pz_l2 inf) (.instanceMethod Lib.objectInit) && pz_gwi (pz_l3 inf) (.code Lib.objectInit ⟨#[0xb1]⟩ 1 none))) else true) = true := h2
    by_cases hi : pz_l0 inf = 1
    · rw [if_pos hi] at h2
      show v_pz_S sL sX M pc len (if pz_l0 inf = 1 then pz_o_oi else pz_on)
      rw [if_pos hi]
      simp only [Bool.and_eq_true] at h2
      obtain ⟨hl, h3, h4, h5⟩ := h2
      have hl := of_decide_eq_true hl
      subst hl
      exact v_so_oi (pz_gwi_mem h3) (pz_gwi_mem h4) (pz_gwi_mem h5) h1
    · show v_pz_S sL sX M pc len (if pz_l0 inf = 1 then pz_o_oi else pz_on)
      rw [if_neg hi]
      exact v_so_none
  | invokestatic idx =>
    have h2 : (if pz_l0 inf = 1 then decide (len = 3) && (pz_gwi (pz_l1 inf) (.methodLink M.1.cls idx arraycopyName) && (pz_gwi (pz_l2 inf) (.native arraycopyName) && (pz_gwi (pz_l3 inf) (.static arraycopyName) && pz_gwi (pz_l4 inf) (.initialized "java/lang/System")))) else true) = true := h2
    by_cases hi : pz_l0 inf = 1
    · rw [if_pos hi] at h2
      show v_pz_S sL sX M pc len (if pz_l0 inf = 1 then pz_o_cpy else pz_on)
      rw [if_pos hi]
      simp only [Bool.and_eq_true] at h2
      obtain ⟨hl, h3, h4, h5, h6⟩ := h2
      have hl := of_decide_eq_true hl
      subst hl
      exact v_so_cpy (pz_gwi_mem h3) (pz_gwi_mem h4) (pz_gwi_mem h5) (pz_gwi_mem h6) h1
    · show v_pz_S sL sX M pc len (if pz_l0 inf = 1 then pz_o_cpy else pz_on)
      rw [if_neg hi]
      exact v_so_none
  | _ => exact v_so_none
theorem v_pz_sound2 {M : pz_M} {pc len : Nat} {ins : Instr} {inf : List Nat} (h1 : decode M.2.1 pc = .ok (ins, len)) (h2 : pz_okb pc ins len inf = true) : v_pz_SB sL sX M pc (pz_bri pc ins inf) := by
  cases ins with
  | ifCond cd off =>
    have h2 := Bool.and_eq_true_iff.mp h2
    have hl := of_decide_eq_true h2.1
    subst hl
    exact v_sb_if h1 (of_decide_eq_true h2.2)
  | if_icmp cd off =>
    have h2 := Bool.and_eq_true_iff.mp h2
    have hl := of_decide_eq_true h2.1
    subst hl
    exact v_sb_ic h1 (of_decide_eq_true h2.2)
  | goto off =>
    have h2 := Bool.and_eq_true_iff.mp h2
    have hl := of_decide_eq_true h2.1
    subst hl
    exact v_sb_go h1 (of_decide_eq_true h2.2)
  | _ => exact v_sb_none
theorem v_pz_okM_at {M : pz_M} (hM : pz_okM M = true) {r : pz_I} (hr : r ∈ M.2.2.2.2) : decode M.2.1 r.1 = .ok (r.2.1, r.2.2.1) ∧ v_pz_S sL sX M r.1 r.2.2.1 (pz_opi M.2.2.1 r.2.1 r.2.2.2.1 r.2.2.2.2) ∧ v_pz_SB sL sX M r.1 (pz_bri r.1 r.2.1 r.2.2.2.1) := by
  have h := List.all_eq_true.mp hM r hr
  simp only [pz_ok, Bool.and_eq_true] at h
  have h1 := of_decide_eq_true h.1
  exact ⟨h1, v_pz_sound1 h1 h.2.1, v_pz_sound2 h1 h.2.2⟩
theorem v_pz_go1 {M : pz_M} {d mc ms n0 : Nat} {Post : Option Value → pz_H → Prop} (hd1 : 1 ≤ d) : ∀ {rs : List pz_I}, (∀ r ∈ rs, v_pz_S sL sX M r.1 r.2.2.1 (pz_opi M.2.2.1 r.2.1 r.2.2.2.1 r.2.2.2.2)) → ∀ {pc : Nat} {ls : pz_L} {st : List Value} {h : pz_H} {k n : Nat} {cs : List Prop} {pc' : Nat} {ls' : pz_L} {st' : List Value} {h' : pz_H} {k' n' : Nat}, pz_run M.2.2.1 rs pc ls st h k n = some (cs, pc', ls', st', h', k', n') → pz_all cs → k' ≤ mc → n' ≤ ms → v_pz_W sL sX M d mc ms n0 Post pc' ls' st' h' k' n' → v_pz_W sL sX M d mc ms n0 Post pc ls st h k n
  | [], _, pc, ls, st, h, k, n, cs, pc', ls', st', h', k', n', hr, hcs, hk, hn, hw => by
    cases hr
    exact hw
  | r :: rs, hS, pc, ls, st, h, k, n, cs, pc', ls', st', h', k', n', hr, hcs, hk, hn, hw => by
    unfold pz_run at hr
    split at hr
    · rename_i hpc
      subst hpc
      split at hr
      · rename_i ho
        split at hr
        · rename_i hr2
          cases hr
          have g := pz_run_grow hr2
          have hcs := pz_all_app hcs
          exact hS r List.mem_cons_self d mc ms n0 Post _ _ _ _ _ _ _ _ _ _ _ hd1 ho hcs.1 (by omega) (by omega) (v_pz_go1 hd1 (fun r hr => hS r (List.mem_cons_of_mem _ hr)) hr2 hcs.2 hk hn hw)
        · cases hr
      · cases hr
    · cases hr
theorem v_pz_go {M : pz_M} (hM : pz_okM M = true) {d mc ms n0 : Nat} {Post : Option Value → pz_H → Prop} (i j : Nat) {pc : Nat} {ls : pz_L} {st : List Value} {h : pz_H} {k n : Nat} {cs : List Prop} {pc' : Nat} {ls' : pz_L} {st' : List Value} {h' : pz_H} {k' n' : Nat} (hd1 : 1 ≤ d) (hr : pz_run M.2.2.1 (pz_take j (pz_drop i M.2.2.2.2)) pc ls st h k n = some (cs, pc', ls', st', h', k', n')) (hcs : pz_all cs) (hk : k' ≤ mc) (hn : n' ≤ ms) (hw : v_pz_W sL sX M d mc ms n0 Post pc' ls' st' h' k' n') : v_pz_W sL sX M d mc ms n0 Post pc ls st h k n :=
  v_pz_go1 hd1 (fun _ hr => (v_pz_okM_at hM (pz_drop_mem _ _ (pz_take_mem _ _ hr))).2.1) hr hcs hk hn hw
theorem v_pz_br {M : pz_M} (hM : pz_okM M = true) {d mc ms n0 : Nat} {Post : Option Value → pz_H → Prop} (i : Nat) {pc : Nat} {ins : Instr} {len : Nat} {inf : List Nat} {cv : Value} {ls : pz_L} {st : List Value} {h : pz_H} {k n : Nat} {r : List Value} {L : List (Prop × Nat)} (hi : pz_at M.2.2.2.2 i = some (pc, ins, len, inf, cv)) (hb : pz_bri pc ins inf st = some (r, L)) (hw : pz_sel (fun t => v_pz_W sL sX M d mc ms n0 Post t ls r h k n) L) : v_pz_W sL sX M d mc ms n0 Post pc ls st h k n := by
  rw [pz_at_eq] at hi
  exact (v_pz_okM_at hM (List.mem_of_getElem? hi)).2.2 d mc ms n0 Post ls st h k n r L hb hw
theorem v_pz_loc {M : pz_M} {d mc ms n0 : Nat} {Post : Option Value → pz_H → Prop} {pc : Nat} {ls ls' : pz_L} {st : List Value} {h : pz_H} {k n : Nat} (hs : ∀ q ∈ ls', q ∈ ls) (hw : v_pz_W sL sX M d mc ms n0 Post pc ls' st h k n) : v_pz_W sL sX M d mc ms n0 Post pc ls st h k n := by
  intro bs D kA ad ad0 p l e s m args below meth c A H locs lc X0 hag hP hD hS hl
  have X := X0.1
  refine hw bs D kA ad ad0 p l e s m args below meth c A H locs lc X0 hag hP hD hS (pz_has_sub hl (fun q hq => ?_))
  obtain ⟨r, hr, rfl⟩ := List.mem_map.mp hq
  exact pz_l_mem (hs r hr)
theorem v_pz_keep {M : pz_M} {d mc ms n0 : Nat} {Post : Option Value → pz_H → Prop} {pc : Nat} {ls : pz_L} {st : List Value} {h : pz_H} {k n : Nat} (is : List Nat) {ls' : pz_L} (hs : pz_sub ls is = ls') (hw : v_pz_W sL sX M d mc ms n0 Post pc ls' st h k n) : v_pz_W sL sX M d mc ms n0 Post pc ls st h k n :=
  v_pz_loc (fun q hq => pz_sub_mem (is := is) (by rw [hs]; exact hq)) hw
theorem v_pz_W_mono {M : pz_M} {d mc ms n0 : Nat} {Post Post2 : Option Value → pz_H → Prop} {pc : Nat} {ls : pz_L} {st : List Value} {h : pz_H} {k n : Nat} (hp : ∀ r h', Post r h' → Post2 r h') (hw : v_pz_W sL sX M d mc ms n0 Post pc ls st h k n) : v_pz_W sL sX M d mc ms n0 Post2 pc ls st h k n := by
  intro bs D kA ad ad0 p l e s m args below meth c A H locs lc X0 hag hP hD hS hl T hT XX
  have X := X0.1
  obtain ⟨t, a1, o, b1, b2, b3⟩ := hw bs D kA ad ad0 p l e s m args below meth c A H locs lc X0 hag hP hD hS hl T hT XX
  rcases b3 with ⟨⟨⟨r, h', ad', q1, q2⟩, q3⟩, b4⟩ | ⟨q, b3, E, ce, L, ⟨x1, ⟨i, h', ad', x2, x3, x4⟩, x5⟩, b4⟩
  · exact ⟨t, a1, o, b1, b2, Or.inl ⟨⟨⟨r, h', ad', ⟨hp _ _ q1.1, q1.2⟩, q2⟩, q3⟩, b4⟩⟩
  · exact ⟨t, a1, o, b1, b2, Or.inr ⟨q, b3, E, ce, L, ⟨x1, ⟨i, h', ad', x2, hp _ _ x3, x4⟩, x5⟩, b4⟩⟩

section
variable {M M' : pz_M} {d n0 : Nat} {Post Post' : Option Value → pz_H → Prop} {pc : Nat} {ls : pz_L} {st : List Value} {h : pz_H}
theorem v_pz_g (hM : pz_okM M = true) (i j : Nat) {cs : List Prop} {pc' : Nat} {ls' : pz_L} {st' : List Value} {h' : pz_H} (hd1 : 1 ≤ d) (hr : pz_run M.2.2.1 (pz_take j (pz_drop i M.2.2.2.2)) pc ls st h 0 0 = some (cs, pc', ls', st', h', 0, 0)) (hcs : pz_all cs) (hw : v_pz_W sL sX M d 0 0 n0 Post pc' ls' st' h' 0 0) : v_pz_W sL sX M d 0 0 n0 Post pc ls st h 0 0 :=
  v_pz_go hM i j hd1 hr hcs (Nat.le_refl 0) (Nat.le_refl 0) hw
theorem v_pz_if (hM : pz_okM M = true) (i : Nat) {ins : Instr} {len : Nat} {inf : List Nat} {cv : Value} {r : List Value} {c : Prop} {t f : Nat} (hi : pz_at M.2.2.2.2 i = some (pc, ins, len, inf, cv)) (hb : pz_bri pc ins inf st = some (r, [(c, t), (True, f)])) (ht : c → v_pz_W sL sX M d 0 0 n0 Post t ls r h 0 0) (hf : ¬ c → v_pz_W sL sX M d 0 0 n0 Post f ls r h 0 0) : v_pz_W sL sX M d 0 0 n0 Post pc ls st h 0 0 :=
  v_pz_br hM i hi hb ⟨ht, hf⟩
theorem v_pz_j (hM : pz_okM M = true) (i : Nat) {ins : Instr} {len : Nat} {inf : List Nat} {cv : Value} {t : Nat} (hi : pz_at M.2.2.2.2 i = some (pc, ins, len, inf, cv)) (hb : pz_bri pc ins inf st = some (st, [(True, t)])) (ht : v_pz_W sL sX M d 0 0 n0 Post t ls st h 0 0) : v_pz_W sL sX M d 0 0 n0 Post pc ls st h 0 0 :=
  v_pz_br hM i hi hb ht
theorem v_pz_ri_ (hM : pz_okM M = true) (i : Nat) {v : Int32} {ty : FieldType} {inf : List Nat} {cv : Value} (hi : pz_at M.2.2.2.2 i = some (pc, .ireturn, 1, inf, cv)) (hr : M.2.2.2.1 = some ty) (hv : narrow ty (.int v) = .int v) (hp : Post (some (.int v)) h) : v_pz_W sL sX M d 0 0 n0 Post pc ls [.int v] h 0 0 :=
  v_pz_iret (pz_dec hM i hi) hr hv (Nat.le_refl 0) (Nat.le_refl 0) hp
theorem v_pz_rl_ (hM : pz_okM M = true) (i : Nat) {v : Int64} {inf : List Nat} {cv : Value} (hi : pz_at M.2.2.2.2 i = some (pc, .lreturn, 1, inf, cv)) (hr : M.2.2.2.1 = some .long) (hp : Post (some (.long v)) h) : v_pz_W sL sX M d 0 0 n0 Post pc ls [.long v] h 0 0 :=
  v_pz_lret (pz_dec hM i hi) hr (Nat.le_refl 0) (Nat.le_refl 0) hp
theorem v_pz_rv_ (hM : pz_okM M = true) (i : Nat) {inf : List Nat} {cv : Value} (hi : pz_at M.2.2.2.2 i = some (pc, .return_, 1, inf, cv)) (hr : M.2.2.2.1 = none) (hp : Post none h) : v_pz_W sL sX M d 0 0 n0 Post pc ls [] h 0 0 :=
  v_pz_vret (pz_dec hM i hi) hr (Nat.le_refl 0) (Nat.le_refl 0) hp
theorem v_pz_ra_ (hM : pz_okM M = true) (i : Nat) {a : Nat} {C : String} {inf : List Nat} {cv : Value} (hi : pz_at M.2.2.2.2 i = some (pc, .areturn, 1, inf, cv)) (hr : M.2.2.2.1 = some (.object C)) (hp : Post (some (.ref a)) h) : v_pz_W sL sX M d 0 0 n0 Post pc ls [.ref a] h 0 0 :=
  v_pz_aret (pz_dec hM i hi) hr (Nat.le_refl 0) (Nat.le_refl 0) hp
theorem v_pz_as {st' : List Value} {h' : pz_H} (hs : st = st') (hh : h = h') (hw : v_pz_W sL sX M d 0 0 n0 Post pc ls st' h' 0 0) : v_pz_W sL sX M d 0 0 n0 Post pc ls st h 0 0 := by
  subst hs; subst hh; exact hw
theorem v_pz_cv {d' np idx : Nat} {hs : pz_H} {rest0 asc : List Value} {b0 ci : Nat} {fs : List Value} {q : vw_C} {inf : List Nat} {cv : Value} (hM : pz_okM M = true) (i : Nat) (hi : pz_at M.2.2.2.2 i = some (pc, .invokevirtual idx, 3, inf, cv)) (hlk : Cond.methodLink M.1.cls idx M'.1 ∈ pz_gw) (hcv : pz_CV M' np) (σ δ : List Nat) (hT : pz_T M' d' 0 0 (.ref b0 :: asc) hs Post') (hdd : d' + 1 ≤ d) (hnp : asc.length = np) (hcl : vwCl[ci]? = some q) (hcq : q.1 = M'.1.cls) (hb : pz_at hs b0 = some (.inr (ci, fs)))
    (hpk : pz_pick h σ = some (hs.map (pz_rc (pz_rn σ δ h.length)))) (hnd : va_nd σ = true) (hl1 : σ.length ≤ 500) (hl2 : δ.length ≤ 500) (hrs : (rest0.map fun v => v.category).sum ≤ 8) (hst : ((.ref b0 :: asc).map (pz_v (pz_rn σ δ h.length))).reverse ++ rest0 = st)
    (hw : ∀ r hs', Post' r hs' → hs'.length = hs.length ∧ v_pz_W sL sX M d 0 0 n0 Post (pc + 3) ls ((r.map (pz_v (pz_rn σ δ h.length))).toList ++ rest0) (pz_back h σ (hs'.map (pz_rc (pz_rn σ δ h.length)))) 0 0) : v_pz_W sL sX M d 0 0 n0 Post pc ls st h 0 0 := by
  subst hst
  exact v_pz_callV hlk hcv (pz_dec hM i hi) hT σ δ hdd hnp hcl hcq hb ⟨hpk, hnd, hl1, hl2⟩ hrs hw (Nat.le_refl 0) (Nat.le_refl 0)
theorem v_pz_cs {d' np idx : Nat} {hs : pz_H} {rest0 asc : List Value} {inf : List Nat} {cv : Value} (hM : pz_okM M = true) (i : Nat) (hi : pz_at M.2.2.2.2 i = some (pc, .invokestatic idx, 3, inf, cv)) (hlk : Cond.methodLink M.1.cls idx M'.1 ∈ pz_gw) (hcv : pz_CS M' np) (σ δ : List Nat) (hT : pz_T M' d' 0 0 asc hs Post') (hdd : d' + 1 ≤ d) (hnp : asc.length = np)
    (hpk : pz_pick h σ = some (hs.map (pz_rc (pz_rn σ δ h.length)))) (hnd : va_nd σ = true) (hl1 : σ.length ≤ 500) (hl2 : δ.length ≤ 500) (hrs : (rest0.map fun v => v.category).sum ≤ 8) (hst : (asc.map (pz_v (pz_rn σ δ h.length))).reverse ++ rest0 = st)
    (hw : ∀ r hs', Post' r hs' → hs'.length = hs.length ∧ v_pz_W sL sX M d 0 0 n0 Post (pc + 3) ls ((r.map (pz_v (pz_rn σ δ h.length))).toList ++ rest0) (pz_back h σ (hs'.map (pz_rc (pz_rn σ δ h.length)))) 0 0) : v_pz_W sL sX M d 0 0 n0 Post pc ls st h 0 0 := by
  subst hst
  exact v_pz_callS hlk hcv (pz_dec hM i hi) hT σ δ hdd hnp ⟨hpk, hnd, hl1, hl2⟩ hrs hw (Nat.le_refl 0) (Nat.le_refl 0)
theorem v_pz_one {hs hs2 : pz_H} {rv : Option Value} {ρ : Nat → Nat} {σ : List Nat} {rest0 st2 : List Value} {h2 : pz_H} {pc2 : Nat} (hl : hs2.length = hs.length) (hst : (rv.map (pz_v ρ)).toList ++ rest0 = st2) (hh : pz_back h σ (hs2.map (pz_rc ρ)) = h2) (hw : v_pz_W sL sX M d 0 0 n0 Post pc2 ls st2 h2 0 0) : ∀ r hs', (r = rv ∧ hs' = hs2) → hs'.length = hs.length ∧ v_pz_W sL sX M d 0 0 n0 Post pc2 ls ((r.map (pz_v ρ)).toList ++ rest0) (pz_back h σ (hs'.map (pz_rc ρ))) 0 0 := by
  rintro r hs' ⟨rfl, rfl⟩
  refine ⟨hl, ?_⟩
  rw [hst, hh]
  exact hw
end
section
variable {P : Nat → Prop} {x k : Int32} {t dft : Nat} {r : List (Int32 × Nat)}
end
theorem v_pz_ral {M : pz_M} {d n0 : Nat} {Post : Option Value → pz_H → Prop} {pc : Nat} {ls : pz_L} {st : List Value} {h : pz_H} (hM : pz_okM M = true) (i : Nat) {inf : List Nat} {cv : Value} (j : Nat) {N : Nat} {f : Nat → Int64} (hj : pz_rl j = some (N, f)) (hi : pz_at M.2.2.2.2 i = some (pc, .arraylength, 1, inf, cv)) (hw : v_pz_W sL sX M d 0 0 n0 Post (pc + 1) ls (.int (Int32.ofNat N) :: st) h 0 0) : v_pz_W sL sX M d 0 0 n0 Post pc ls (.ref (1000 + j) :: st) h 0 0 := by
  intro bs D kA ad ad0 p l e s m args below meth c A H locs lc X0 hag hP hD hS hl
  have X := X0.1
  have hT := X.2.2.2.2.2.2.2.2.2.2.2.2.2.2.2.1 _ _ _ hj
  exact va_tlen X.1 X.2.1 (hT.narrow X.2.2.2.2.2.2.2.2.2.2.1) hS rfl (pz_dec hM i hi) (hw bs D kA ad ad0 p l e s m args below meth c A H locs lc X0 hag hP hD hS hl)
section
variable {M : pz_M} {d n0 : Nat} {Post : Option Value → pz_H → Prop} {pc : Nat} {ls : pz_L} {st : List Value} {h : pz_H} {inf : List Nat} {cv : Value}
theorem v_pz_sldc (hM : pz_okM M = true) (i : Nat) (hi : pz_at M.2.2.2.2 i = some (pc, .ldc 151, 2, inf, cv)) (hc : M.1.cls = "HuntingRudderModel") (hw : v_pz_W sL sX M d 0 0 n0 Post (pc + 2) ls (.ref 1005 :: st) h 0 0) : v_pz_W sL sX M d 0 0 n0 Post pc ls st h 0 0 := by
  intro bs D kA ad ad0 p l e s m args below meth c A H locs lc X0 hag hP hD hS hl
  have X := X0.1
  exact va_ldcS X.1 X.2.1 (hc ▸ X.2.2.2.2.1) (pz_X_str X).1 (pz_dec hM i hi) (hw bs D kA ad ad0 p l e s m args below meth c A H locs lc X0 hag hP hD hS hl)
theorem v_pz_sval (hM : pz_okM M = true) (i : Nat) {idx : Nat} (hi : pz_at M.2.2.2.2 i = some (pc, .getfield idx, 3, inf, cv)) (hlk : Cond.fieldLink M.1.cls idx "java/lang/String" "value" "[B" ∈ pz_gw) (hw : v_pz_W sL sX M d 0 0 n0 Post (pc + 3) ls (.ref 1006 :: st) h 0 0) : v_pz_W sL sX M d 0 0 n0 Post pc ls (.ref 1005 :: st) h 0 0 := by
  intro bs D kA ad ad0 p l e s m args below meth c A H locs lc X0 hag hP hD hS hl
  have X := X0.1
  exact vk_getf X.1 X.2.1 ((pz_X_str X).2.2.1.narrow X.2.2.2.2.2.2.2.2.2.2.1) hS X.2.2.2.2.1 (X.2.2.2.2.2.1 _ hlk) (fun _ h9 => h9) (pz_dec hM i hi) (hw bs D kA ad ad0 p l e s m args below meth c A H locs lc X0 hag hP hD hS hl)
theorem v_pz_scod (hM : pz_okM M = true) (i : Nat) {idx : Nat} (hi : pz_at M.2.2.2.2 i = some (pc, .getfield idx, 3, inf, cv)) (hlk : Cond.fieldLink M.1.cls idx "java/lang/String" "coder" "B" ∈ pz_gw) (hw : v_pz_W sL sX M d 0 0 n0 Post (pc + 3) ls (.int 0 :: st) h 0 0) : v_pz_W sL sX M d 0 0 n0 Post pc ls (.ref 1005 :: st) h 0 0 := by
  intro bs D kA ad ad0 p l e s m args below meth c A H locs lc X0 hag hP hD hS hl
  have X := X0.1
  exact vk_getf X.1 X.2.1 ((pz_X_str X).2.2.2.1.narrow X.2.2.2.2.2.2.2.2.2.2.1) hS X.2.2.2.2.1 (X.2.2.2.2.2.1 _ hlk) (fun _ h9 => h9) (pz_dec hM i hi) (hw bs D kA ad ad0 p l e s m args below meth c A H locs lc X0 hag hP hD hS hl)
theorem v_pz_sbyt (hM : pz_okM M = true) (i : Nat) {k : Int32} (hi : pz_at M.2.2.2.2 i = some (pc, .baload, 1, inf, cv)) (hk : vp_in k 54) (hw : v_pz_W sL sX M d 0 0 n0 Post (pc + 1) ls (.int (pz_wb.getD k.toNatClampNeg 0) :: st) h 0 0) : v_pz_W sL sX M d 0 0 n0 Post pc ls (.int k :: .ref 1006 :: st) h 0 0 := by
  intro bs D kA ad ad0 p l e s m args below meth c A H locs lc X0 hag hP hD hS hl
  have X := X0.1
  exact va_tb X.1 X.2.1 ((pz_X_str X).2.2.2.2.1.narrow X.2.2.2.2.2.2.2.2.2.2.1) hS hk rfl (pz_dec hM i hi) (hw bs D kA ad ad0 p l e s m args below meth c A H locs lc X0 hag hP hD hS hl)
theorem v_pz_slen (hM : pz_okM M = true) (i : Nat) (hi : pz_at M.2.2.2.2 i = some (pc, .arraylength, 1, inf, cv)) (hw : v_pz_W sL sX M d 0 0 n0 Post (pc + 1) ls (.int 54 :: st) h 0 0) : v_pz_W sL sX M d 0 0 n0 Post pc ls (.ref 1006 :: st) h 0 0 := by
  intro bs D kA ad ad0 p l e s m args below meth c A H locs lc X0 hag hP hD hS hl
  have X := X0.1
  exact va_tlen X.1 X.2.1 ((pz_X_str X).2.2.2.2.1.narrow X.2.2.2.2.2.2.2.2.2.2.1) hS (by decide) (pz_dec hM i hi) (hw bs D kA ad ad0 p l e s m args below meth c A H locs lc X0 hag hP hD hS hl)
theorem v_pz_scom (hM : pz_okM M = true) (i : Nat) {idx : Nat} (hi : pz_at M.2.2.2.2 i = some (pc, .getstatic idx, 3, inf, cv)) (hlk : Cond.fieldLink M.1.cls idx "java/lang/String" "COMPACT_STRINGS" "Z" ∈ pz_gw) (hw : v_pz_W sL sX M d 0 0 n0 Post (pc + 3) ls (.int 1 :: st) h 0 0) : v_pz_W sL sX M d 0 0 n0 Post pc ls st h 0 0 := by
  intro bs D kA ad ad0 p l e s m args below meth c A H locs lc X0 hag hP hD hS hl
  have X := X0.1
  exact va_gets X.1 X.2.1 ((pz_X_str X).2.2.2.2.2.1.narrow X.2.2.2.2.2.2.2.2.2.2.1) hS X.2.2.2.2.1 (X.2.2.2.2.2.1 _ hlk) (fun _ h9 => h9) (pz_dec hM i hi) (hw bs D kA ad ad0 p l e s m args below meth c A H locs lc X0 hag hP hD hS hl)
theorem v_pz_sfmt (hM : pz_okM M = true) (i : Nat) {idx : Nat} (hi : pz_at M.2.2.2.2 i = some (pc, .getstatic idx, 3, inf, cv)) (hlk : Cond.fieldLink M.1.cls idx "jdk/internal/util/Preconditions" "SIOOBE_FORMATTER" "Ljava/util/function/BiFunction;" ∈ pz_gw) (hw0 : v_pz_W sL sX M d 0 0 n0 Post (pc + 3) ls (.null :: st) h 0 0) (hw1 : v_pz_W sL sX M d 0 0 n0 Post (pc + 3) ls (.ref 1007 :: st) h 0 0) : v_pz_W sL sX M d 0 0 n0 Post pc ls st h 0 0 := by
  intro bs D kA ad ad0 p l e s m args below meth c A H locs lc X0 hag hP hD hS hl
  have X := X0.1
  rcases (pz_X_str X).2.2.2.2.2.2.1 with hz | hz
  · exact va_gets X.1 X.2.1 (hz.narrow X.2.2.2.2.2.2.2.2.2.2.1) hS X.2.2.2.2.1 (X.2.2.2.2.2.1 _ hlk) (fun _ h9 => h9) (pz_dec hM i hi) (hw0 bs D kA ad ad0 p l e s m args below meth c A H locs lc X0 hag hP hD hS hl)
  · exact va_gets X.1 X.2.1 (hz.narrow X.2.2.2.2.2.2.2.2.2.2.1) hS X.2.2.2.2.1 (X.2.2.2.2.2.1 _ hlk) (fun _ h9 => h9) (pz_dec hM i hi) (hw1 bs D kA ad ad0 p l e s m args below meth c A H locs lc X0 hag hP hD hS hl)
end
theorem v_pz_cvs {M M' : pz_M} {d d' n0 pc np idx : Nat} {Post Post' : Option Value → pz_H → Prop} {ls : pz_L} {st : List Value} {h : pz_H} {rest0 asc : List Value} {inf : List Nat} {cv : Value} (hM : pz_okM M = true) (i : Nat) (hi : pz_at M.2.2.2.2 i = some (pc, .invokevirtual idx, 3, inf, cv)) (hlk : Cond.methodLink M.1.cls idx M'.1 ∈ pz_gw) (hcv : pz_CV M' np) (hT : pz_T M' d' 0 0 (.ref 1005 :: asc) [] Post') (hdd : d' + 1 ≤ d) (hnp : asc.length = np) (hcq : "java/lang/String" = M'.1.cls) (hrs : (rest0.map fun v => v.category).sum ≤ 8) (hst : ((.ref 1005 :: asc).map (pz_v (pz_rn [] [] h.length))).reverse ++ rest0 = st)
    (hw : ∀ r hs', Post' r hs' → hs'.length = 0 ∧ v_pz_W sL sX M d 0 0 n0 Post (pc + 3) ls ((r.map (pz_v (pz_rn [] [] h.length))).toList ++ rest0) (pz_back h [] (hs'.map (pz_rc (pz_rn [] [] h.length)))) 0 0) : v_pz_W sL sX M d 0 0 n0 Post pc ls st h 0 0 := by
  subst hst
  intro bs D kA ad ad0 p l e s m args below meth c A H locs lc X0 hag hP hD hS hl
  have X := X0.1
  obtain ⟨c1, c2, c3, c4, c5, c6⟩ := hcv
  have hts := X.2.2.2.2.2.1
  have hc : pz_Cut h [] [] [] := ⟨rfl, rfl, by decide, by decide⟩
  have hrec : ∃ cell : Cell, H[ad 1005]? = some cell ∧ cell.vm.isStatics = false ∧ s.vm.findClass M'.1.cls = some cell.cls := by
    obtain ⟨cell, h1, h2, h3, -⟩ := ((pz_X_str X).2.1.narrow X.2.2.2.2.2.2.2.2.2.2.1).kept hS.2.1
    exact ⟨cell, h1, h2, hcq ▸ h3⟩
  refine v_pz_after0 (hs := []) (σ := []) (δ := []) (mc' := 0) (ms' := 0) (aa := ((Value.ref 1005 :: asc).map (pz_v (fun k => ad (pz_rn [] [] h.length k)))).toArray) (rest0 := rest0) X0 hag hP hD hS hl hc ?_ hw
  have hst : ((((Value.ref 1005 :: asc).map (pz_v (pz_rn [] [] h.length))).reverse ++ rest0).map (pz_v ad)) = (asc.map (pz_v (fun k => ad (pz_rn [] [] h.length k)))).reverse ++ Value.ref (ad 1005) :: rest0.map (pz_v ad) := by
    rw [List.map_append, List.map_reverse, pz_vs_vs]
    have e1 : pz_rn [] [] h.length 1005 = 1005 := rfl
    simp [pz_v, e1]
  rw [hst]
  exact va_runV (b := ad 1005) (As := asc.map (pz_v (fun k => ad (pz_rn [] [] h.length k)))) (rest := rest0.map (pz_v ad)) (ret := M'.2.2.2.1) (n := np) ⟨X.1, X.2.1, X.2.2.1, X.2.2.2.2.1, hts⟩ (hT l bs D kA (fun k => ad (pz_rn [] [] h.length k)) H.size)
    ⟨callB_of np hts (pz_good M' c4) rfl rfl rfl (hts _ c3) (hts _ hlk) c5 ⟨hdd, pz_room hdd c6⟩, hts _ c1, hts _ c2⟩ ⟨pz_blind, hrec, fun U hU hW => ⟨rfl, pz_pre X hP hD hS hc hU hW⟩⟩ rfl (by rw [List.length_map]; exact hnp) hl.1 rfl (by rw [pz_cats]; show 2 * 0 + _ ≤ 8; omega) (pz_dec hM i hi) ⟨Nat.le_refl 0, Nat.le_refl 0⟩

section
variable {M M' : pz_M} {d mc ms n0 : Nat} {Post : Option Value → pz_H → Prop} {pc : Nat} {ls : pz_L} {st : List Value} {h : pz_H} {k n : Nat}
theorem v_pz_rv2 (hM : pz_okM M = true) (i : Nat) {inf : List Nat} {cv : Value} (hi : pz_at M.2.2.2.2 i = some (pc, .return_, 1, inf, cv)) (hr : M.2.2.2.1 = none) (hk : k ≤ mc) (hn : n ≤ ms) (hp : Post none h) : v_pz_W sL sX M d mc ms n0 Post pc ls [] h k n :=
  v_pz_vret (pz_dec hM i hi) hr hk hn hp
theorem v_pz_ci {d' mc' ms' np idx b0 : Nat} {host : String} {hs hs2 : pz_H} {rest0 asc : List Value} {inf : List Nat} {cv : Value} (hM : pz_okM M = true) (i : Nat) (hi : pz_at M.2.2.2.2 i = some (pc, .invokespecial idx, 3, inf, cv)) (hlk : Cond.methodLink M.1.cls idx M'.1 ∈ pz_gw ∨ Cond.methodLinkNest M.1.cls idx M'.1 host ∈ pz_nw) (hcv : pz_CI M' np) (σ : List Nat) (hT : pz_T M' d' mc' ms' (.ref b0 :: asc) hs (fun r h => r = none ∧ h = hs2)) (hdd : d' + 1 ≤ d) (hnp : asc.length = np)
    (hpk : pz_pick h σ = some (hs.map (pz_rc (pz_rn σ [] h.length)))) (hnd : va_nd σ = true) (hl1 : σ.length ≤ 500) (hfr : pz_fresh h.length ls rest0 h = true) (hrs : (rest0.map fun v => v.category).sum ≤ 8) (hst : ((.ref b0 :: asc).map (pz_v (pz_rn σ [] h.length))).reverse ++ rest0 = st)
    (hlen : hs2.length ≤ 500 ∧ h.length + (hs2.length - hs.length) ≤ 500) {k2 n2 : Nat} (hk : k + mc' = k2) (hn : n + ms' = n2) (hk2 : k2 ≤ mc) (hn2 : n2 ≤ ms) {h2 : pz_H} (hh : pz_back h σ (hs2.map (pz_rc (pz_rn σ [] h.length))) = h2) (hw : v_pz_W sL sX M d mc ms n0 Post (pc + 3) ls rest0 h2 k2 n2) : v_pz_W sL sX M d mc ms n0 Post pc ls st h k n := by
  subst hst hk hn hh
  refine v_pz_callI hlk hcv (pz_dec hM i hi) hT σ hdd hnp ⟨hpk, hnd, hl1, by decide⟩ hfr hrs ?_ hk2 hn2
  rintro r hs' ⟨rfl, rfl⟩
  exact ⟨hlen, hw⟩
end
theorem v_pz_cvn {M M' : pz_M} {d n0 : Nat} {Post Post' : Option Value → pz_H → Prop} {pc : Nat} {ls : pz_L} {st : List Value} {h : pz_H} {d' np idx : Nat} {hs : pz_H} {rest0 asc : List Value} {b0 ci : Nat} {fs : List Value} {q : vw_C} {inf : List Nat} {cv : Value} (hM : pz_okM M = true) (i : Nat) (hi : pz_at M.2.2.2.2 i = some (pc, .invokevirtual idx, 3, inf, cv)) (hlk : Cond.methodLink M.1.cls idx M'.1 ∈ pz_gw) (hcv : pz_CV M' np) (n : Nat) (hn : h.length = n) (σ δ : List Nat) (hT : pz_T M' d' 0 0 (.ref b0 :: asc) hs Post') (hdd : d' + 1 ≤ d) (hnp : asc.length = np) (hcl : vwCl[ci]? = some q) (hcq : q.1 = M'.1.cls) (hb : pz_at hs b0 = some (.inr (ci, fs)))
    (hpk : pz_pick h σ = some (hs.map (pz_rc (pz_rn σ δ n)))) (hnd : va_nd σ = true) (hl1 : σ.length ≤ 500) (hl2 : δ.length ≤ 500) (hrs : (rest0.map fun v => v.category).sum ≤ 8) (hst : ((.ref b0 :: asc).map (pz_v (pz_rn σ δ n))).reverse ++ rest0 = st)
    (hw : ∀ r hs', Post' r hs' → hs'.length = hs.length ∧ v_pz_W sL sX M d 0 0 n0 Post (pc + 3) ls ((r.map (pz_v (pz_rn σ δ n))).toList ++ rest0) (pz_back h σ (hs'.map (pz_rc (pz_rn σ δ n)))) 0 0) : v_pz_W sL sX M d 0 0 n0 Post pc ls st h 0 0 := by
  subst hn
  exact v_pz_cv hM i hi hlk hcv σ δ hT hdd hnp hcl hcq hb hpk hnd hl1 hl2 hrs hst hw
theorem v_pz_onb {M : pz_M} {d n0 : Nat} {Post : Option Value → pz_H → Prop} {ls : pz_L} {h hs hs2 : pz_H} {rv : Option Value} {ρ : Nat → Nat} {σ : List Nat} {rest0 st2 : List Value} {h2 : pz_H} {pc2 : Nat} (hnd : va_nd σ = true) (hsl : hs2.length = σ.length) (hl : hs2.length = hs.length) (hst : (rv.map (pz_v ρ)).toList ++ rest0 = st2) (hh : pz_bk σ (hs2.map (pz_rc ρ)) 0 h = h2) (hw : v_pz_W sL sX M d 0 0 n0 Post pc2 ls st2 h2 0 0) : ∀ r hs', (r = rv ∧ hs' = hs2) → hs'.length = hs.length ∧ v_pz_W sL sX M d 0 0 n0 Post pc2 ls ((r.map (pz_v ρ)).toList ++ rest0) (pz_back h σ (hs'.map (pz_rc ρ))) 0 0 := by
  rintro r hs' ⟨rfl, rfl⟩
  refine ⟨hl, ?_⟩
  rw [hst, pz_bk_eq hnd (by rw [List.length_map]; exact hsl), hh]
  exact hw

theorem v_pz_perm {M : pz_M} {d mc ms n0 : Nat} {Post : Option Value → pz_H → Prop} {pc : Nat} {ls : pz_L} {st : List Value} {h : pz_H} {k n : Nat} (g : Nat → Nat) (h' : pz_H) (hg : ∀ i, g (g i) = i) (hfix : ∀ i, (i < n0 ∨ h.length ≤ i) → g i = i) (h5 : h.length ≤ 500) (hlen : h'.length = h.length) (hh : ∀ i c, pz_at h i = some c → pz_at h' (g i) = some (pz_rnc g c)) (hW : v_pz_W sL sX M d mc ms n0 Post pc (pz_l g ls) (st.map (pz_v g)) h' k n) : v_pz_W sL sX M d mc ms n0 Post pc ls st h k n := by
  intro bs D kA ad ad0 p l e s m args below meth c A H locs lc hX hag hP hD hS hl
  have hlt : ∀ i, i < h.length → g i < h.length := by
    intro i hi
    refine Classical.byContradiction (fun z => ?_)
    have z2 := hfix (g i) (Or.inr (by omega))
    rw [hg] at z2
    omega
  have hw : ∀ i q, (pz_w (fun i => ad (g i)) kA h')[i]? = some q → (pz_w ad kA h)[g i]? = some q := by
    intro i q hq
    obtain ⟨c', hc', e1⟩ := pz_w_inv hq
    have hi : i < h.length := by
      rw [pz_at_eq] at hc'
      have := (List.getElem?_eq_some_iff.mp hc').1
      omega
    have hc2 : pz_at h (g i) = some (h[g i]'(hlt i hi)) := by
      rw [pz_at_eq]
      exact List.getElem?_eq_getElem _
    have hc3 := hh _ _ hc2
    rw [hg, hc'] at hc3
    have e2 := Option.some.inj hc3
    rw [pz_w_get hc2, e1, e2, pz_e_twice hg]
  have hag' : pz_ag n0 h' (fun i => ad (g i)) ad0 := by
    refine ⟨by rw [hlen]; exact hag.1, ?_⟩
    intro i hi
    rw [hlen] at hi
    show ad (g i) = ad0 i
    rw [hfix i hi]
    exact hag.2 i hi
  have hX' : v_pz_X sL sX M bs D kA (fun i => ad (g i)) p s m args meth c A := by
    refine v_pz_X_like (j := n0) ?_ hX
    intro i hi
    show ad (g i) = ad i
    rw [hfix i (by omega)]
  have hP' : va_P D vwCl (pz_w (fun i => ad (g i)) kA h') H := fun i q hq => hP (g i) q (hw i q hq)
  have hD' : va_D A (pz_w (fun i => ad (g i)) kA h') := by
    refine ⟨?_, fun i q hq => hD.2 (g i) q (hw i q hq)⟩
    intro i j q r hq hr e1
    have e2 := hD.1 (g i) (g j) q r (hw i q hq) (hw j r hr) e1
    rw [← hg i, e2, hg]
  have hl' : lv_has lc M.2.2.1 (pz_l (fun i => ad (g i)) (pz_l g ls)) := by
    rw [pz_l_twice hg]
    exact hl
  have z := hW bs D kA (fun i => ad (g i)) ad0 p l e s m args below meth c A H locs lc hX' hag' hP' hD' hS hl'
  rw [pz_vs_twice hg] at z
  exact z

/-! ===== the rules, with cells made ===== -/
section
variable {M M' : pz_M} {d mc ms n0 k n : Nat} {Post Post' : Option Value → pz_H → Prop} {pc : Nat} {ls : pz_L} {st : List Value} {h : pz_H}
theorem v_pz_gk (hM : pz_okM M = true) (i j : Nat) {cs : List Prop} {pc' : Nat} {ls' : pz_L} {st' : List Value} {h' : pz_H} (hd1 : 1 ≤ d) (hk : k ≤ mc) (hn : n ≤ ms) (hr : pz_run M.2.2.1 (pz_take j (pz_drop i M.2.2.2.2)) pc ls st h k n = some (cs, pc', ls', st', h', k, n)) (hcs : pz_all cs) (hw : v_pz_W sL sX M d mc ms n0 Post pc' ls' st' h' k n) : v_pz_W sL sX M d mc ms n0 Post pc ls st h k n :=
  v_pz_go hM i j hd1 hr hcs hk hn hw
theorem v_pz_ifk (hM : pz_okM M = true) (i : Nat) {ins : Instr} {len : Nat} {inf : List Nat} {cv : Value} {r : List Value} {c : Prop} {t f : Nat} (hi : pz_at M.2.2.2.2 i = some (pc, ins, len, inf, cv)) (hb : pz_bri pc ins inf st = some (r, [(c, t), (True, f)])) (ht : c → v_pz_W sL sX M d mc ms n0 Post t ls r h k n) (hf : ¬ c → v_pz_W sL sX M d mc ms n0 Post f ls r h k n) : v_pz_W sL sX M d mc ms n0 Post pc ls st h k n :=
  v_pz_br hM i hi hb ⟨ht, hf⟩
theorem v_pz_jk (hM : pz_okM M = true) (i : Nat) {ins : Instr} {len : Nat} {inf : List Nat} {cv : Value} {t : Nat} (hi : pz_at M.2.2.2.2 i = some (pc, ins, len, inf, cv)) (hb : pz_bri pc ins inf st = some (st, [(True, t)])) (ht : v_pz_W sL sX M d mc ms n0 Post t ls st h k n) : v_pz_W sL sX M d mc ms n0 Post pc ls st h k n :=
  v_pz_br hM i hi hb ht
theorem v_pz_rik (hM : pz_okM M = true) (i : Nat) {v : Int32} {ty : FieldType} {inf : List Nat} {cv : Value} (hi : pz_at M.2.2.2.2 i = some (pc, .ireturn, 1, inf, cv)) (hk : k ≤ mc) (hn : n ≤ ms) (hr : M.2.2.2.1 = some ty) (hv : narrow ty (.int v) = .int v) (hp : Post (some (.int v)) h) : v_pz_W sL sX M d mc ms n0 Post pc ls [.int v] h k n :=
  v_pz_iret (pz_dec hM i hi) hr hv hk hn hp
/-- a call of an instance's method, one end -/
theorem v_pz_cvk {d' np idx : Nat} {hs hs2 : pz_H} {rest0 asc : List Value} {b0 ci : Nat} {fs : List Value} {q : vw_C} {inf : List Nat} {cv : Value} (hM : pz_okM M = true) (i : Nat) (hi : pz_at M.2.2.2.2 i = some (pc, .invokevirtual idx, 3, inf, cv)) (hlk : Cond.methodLink M.1.cls idx M'.1 ∈ pz_gw) (hcv : pz_CV M' np) (σ δ : List Nat) {rv : Option Value} (hT : pz_T M' d' 0 0 (.ref b0 :: asc) hs (fun r h => r = rv ∧ h = hs2)) (hk : k ≤ mc) (hn : n ≤ ms) (hdd : d' + 1 ≤ d) (hnp : asc.length = np) (hcl : vwCl[ci]? = some q) (hcq : q.1 = M'.1.cls) (hb : pz_at hs b0 = some (.inr (ci, fs)))
    (nh : Nat) (hnh : h.length = nh) (hpk : pz_pick h σ = some (hs.map (pz_rc (pz_rn σ δ nh)))) (hnd : va_nd σ = true) (hl1 : σ.length ≤ 500) (hl2 : δ.length ≤ 500) (hrs : (rest0.map fun v => v.category).sum ≤ 8) (hst : ((.ref b0 :: asc).map (pz_v (pz_rn σ δ nh))).reverse ++ rest0 = st)
    {st2 : List Value} {h2 : pz_H} (hl : hs2.length = hs.length) (hst2 : (rv.map (pz_v (pz_rn σ δ nh))).toList ++ rest0 = st2) (hh : pz_bk σ (hs2.map (pz_rc (pz_rn σ δ nh))) 0 h = h2) (hw : v_pz_W sL sX M d mc ms n0 Post (pc + 3) ls st2 h2 k n) : v_pz_W sL sX M d mc ms n0 Post pc ls st h k n := by
  subst hst hnh
  have hcut : pz_Cut h hs σ δ := ⟨hpk, hnd, hl1, hl2⟩
  refine v_pz_callV hlk hcv (pz_dec hM i hi) hT σ δ hdd hnp hcl hcq hb hcut hrs ?_ hk hn
  rintro r hs' ⟨rfl, rfl⟩
  refine ⟨hl, ?_⟩
  rw [hst2, pz_bk_eq hnd (by rw [List.length_map, hl]; exact hcut.len.symm), hh]
  exact hw
end
/-- a static call of a method with an exception table, one end -/
theorem v_pz_csW {M M' : pz_M} {d mc ms n0 k n : Nat} {Post : Option Value → pz_H → Prop} {pc : Nat} {ls : pz_L} {st : List Value} {h : pz_H} {d' mc' ms' np idx : Nat} {hh : List (Nat × Nat × Nat × Nat)} {hs hs2 : pz_H} {rest0 asc : List Value} {inf : List Nat} {cv : Value} (hM : pz_okM M = true) (i : Nat) (hi : pz_at M.2.2.2.2 i = some (pc, .invokestatic idx, 3, inf, cv)) (hlk : Cond.methodLink M.1.cls idx M'.1 ∈ pz_gw) (h1 : Cond.static M'.1 ∈ pz_gw) (h2 : Cond.initialized M'.1.cls ∈ pz_gw) (hcw : Cond.codeWith M'.1 M'.2.1 M'.2.2.1 M'.2.2.2.1 hh ∈ pz_tw)
    (hds : M'.1.cls ≠ "java/lang/invoke/MethodHandle" ∧ M'.1.cls ≠ "java/lang/invoke/VarHandle" ∧ (parseMethodDescriptor M'.1.desc).map (fun d => d.parameters.length) = some np) (h40 : M'.2.2.1 ≤ 40) (σ δ : List Nat) {rv : Option Value} (hT : pz_TW M' hh d' mc' ms' asc hs (fun r h => r = rv ∧ h = hs2)) (hk : k + mc' ≤ mc) (hn : n + ms' ≤ ms) (hdd : d' + 1 ≤ d) (hnp : asc.length = np)
    (nh : Nat) (hnh : h.length = nh) (hpk : pz_pick h σ = some (hs.map (pz_rc (pz_rn σ δ nh)))) (hnd : va_nd σ = true) (hl1 : σ.length ≤ 500) (hl2 : δ.length ≤ 500) (hrs : (rest0.map fun v => v.category).sum ≤ 8) (hst : (asc.map (pz_v (pz_rn σ δ nh))).reverse ++ rest0 = st)
    {st2 : List Value} {h2' : pz_H} (hl : hs2.length = hs.length) (hst2 : (rv.map (pz_v (pz_rn σ δ nh))).toList ++ rest0 = st2) (hh2 : pz_bk σ (hs2.map (pz_rc (pz_rn σ δ nh))) 0 h = h2') (hw : v_pz_W sL sX M d mc ms n0 Post (pc + 3) ls st2 h2' (k + mc') (n + ms')) : v_pz_W sL sX M d mc ms n0 Post pc ls st h k n := by
  subst hst hnh
  have hc : pz_Cut h hs σ δ := ⟨hpk, hnd, hl1, hl2⟩
  intro bs D kA ad ad0 p l e s m args below meth c A H locs lc X0 hag hP hD hS hl9
  have X := X0.1
  have hts := X.2.2.2.2.2.1
  have hcb : (Cond.codeWith M'.1 M'.2.1 M'.2.2.1 M'.2.2.2.1 hh).before args s = true := pz_tw_at (pz_X_thr X).2.2.2.2.1 _ hcw
  have hts2 : ∀ w ∈ Cond.codeWith M'.1 M'.2.1 M'.2.2.1 M'.2.2.2.1 hh :: pz_gw, w.before args s = true := fun w hw => by
    rcases List.mem_cons.mp hw with hw | hw
    · rw [hw]; exact hcb
    · exact hts w hw
  have hgd : ∀ w ∈ pz_gw, w ∈ Cond.codeWith M'.1 M'.2.1 M'.2.2.1 M'.2.2.2.1 hh :: pz_gw ∧ ((w.onTables && w.keeps) = true ∨ ∃ ty, w = .arrayClass ty) := fun w hw => ⟨List.mem_cons_of_mem _ hw, good_of_word (List.all_eq_true.mp pz_gw_good w hw)⟩
  have hG : GoodIn (Cond.codeWith M'.1 M'.2.1 M'.2.2.1 M'.2.2.2.1 hh :: pz_gw) (va_wsS M.1.cls idx M'.1 (Cond.codeWith M'.1 M'.2.1 M'.2.2.1 M'.2.2.2.1 hh :: pz_gw)) := by
    intro w hw
    unfold va_wsS at hw
    rcases List.mem_append.mp hw with hw | hw
    · simp only [List.mem_cons, List.not_mem_nil, or_false] at hw
      rcases hw with hw | hw | hw
      · rw [hw]; exact hgd _ hlk
      · rw [hw]; exact hgd _ h1
      · rw [hw]; exact hgd _ h2
    · rcases List.mem_cons.mp hw with hw | hw
      · rw [hw]; exact ⟨List.mem_cons_self, Or.inl rfl⟩
      · exact hgd _ hw
  refine v_pz_after0 (mc' := mc') (ms' := ms') (aa := (asc.map (pz_v (fun k => ad (pz_rn σ δ h.length k)))).toArray) (rest0 := rest0) X0 hag hP hD hS hl9 hc ?_ ?_ (Post' := fun r h => r = rv ∧ h = hs2)
  · have hst : (((asc.map (pz_v (pz_rn σ δ h.length))).reverse ++ rest0).map (pz_v ad)) = (asc.map (pz_v (fun k => ad (pz_rn σ δ h.length k)))).reverse ++ rest0.map (pz_v ad) := by
      rw [List.map_append, List.map_reverse, pz_vs_vs]
    rw [hst]
    exact vx_runSW (As := asc.map (pz_v (fun k => ad (pz_rn σ δ h.length k)))) (rest := rest0.map (pz_v ad)) (ret := M'.2.2.2.1) (n := np) (hh := hh) ⟨X.1, X.2.1, X.2.2.1, X.2.2.2.2.1, hts⟩ (hT l bs D kA (fun k => ad (pz_rn σ δ h.length k)) H.size)
      (vx_cwSW np hts2 hG rfl rfl rfl hds ⟨hdd, pz_room hdd h40⟩) ⟨pz_blind, fun U hU hW => ⟨rfl, pz_pre X hP hD hS hc hU hW⟩⟩ rfl (by rw [List.length_map]; exact hnp) hl9.1 rfl (by rw [pz_cats]; show 2 * 0 + _ ≤ 8; omega) (pz_dec hM i hi) ⟨hk, hn⟩
  · rintro r hs' ⟨rfl, rfl⟩
    refine ⟨hl, ?_⟩
    rw [hst2, pz_bk_eq hnd (by rw [List.length_map, hl]; exact hc.len.symm), hh2]
    exact hw
/-- places numbered anew, checked by one list -/
theorem v_pz_permL {M : pz_M} {d mc ms n0 : Nat} {Post : Option Value → pz_H → Prop} {pc : Nat} {ls : pz_L} {st : List Value} {h : pz_H} {k n : Nat} (g : Nat → Nat) (h' : pz_H) (nh : Nat) (hnh : h.length = nh) (hg : ∀ i, g (g i) = i) (hfix : ∀ i, (i < n0 ∨ nh ≤ i) → g i = i) (h5 : nh ≤ 500) (hlen : h'.length = nh) (is : List Nat) (his : List.range nh = is) (hE : is.map (fun i => pz_at h' (g i)) = h.map (fun c => some (pz_rnc g c))) (hW : v_pz_W sL sX M d mc ms n0 Post pc (pz_l g ls) (st.map (pz_v g)) h' k n) : v_pz_W sL sX M d mc ms n0 Post pc ls st h k n := by
  subst hnh his
  refine v_pz_perm g h' hg hfix h5 hlen (fun i c hc => ?_) hW
  rw [pz_at_eq] at hc
  have hi : i < h.length := (List.getElem?_eq_some_iff.mp hc).1
  have := congrArg (fun l => l[i]?) hE
  simp only [List.getElem?_map, hc, Option.map_some, List.getElem?_range hi] at this
  exact Option.some.inj this
/-- the script: its length, one of its ints -/
theorem v_sal {M : pz_M} {d mc ms n0 k n : Nat} {Post : Option Value → pz_H → Prop} {pc : Nat} {ls : pz_L} {st : List Value} {h : pz_H} {inf : List Nat} {cv : Value} {j : Int32} (hM : pz_okM M = true) (i : Nat) (hi : pz_at M.2.2.2.2 i = some (pc, .iaload, 1, inf, cv)) (hin : pz_inb j sL = true) (hw : v_pz_W sL sX M d mc ms n0 Post (pc + 1) ls (.int (sX j.toNatClampNeg) :: st) h k n) : v_pz_W sL sX M d mc ms n0 Post pc ls (.int j :: .ref 1010 :: st) h k n := by
  intro bs D kA ad ad0 p l e s m args below meth c A H locs lc X0 hag hP hD hS hl
  have X := X0.1
  exact va_sld X.1 X.2.1 X0.2.2.2 X0.2.2.1 X0.2.1 hS (pz_inb_ok hin) (pz_dec hM i hi) (hw bs D kA ad ad0 p l e s m args below meth c A H locs lc X0 hag hP hD hS hl)
theorem v_sle {M : pz_M} {d mc ms n0 k n : Nat} {Post : Option Value → pz_H → Prop} {pc : Nat} {ls : pz_L} {st : List Value} {h : pz_H} {inf : List Nat} {cv : Value} (hM : pz_okM M = true) (i : Nat) (hi : pz_at M.2.2.2.2 i = some (pc, .arraylength, 1, inf, cv)) (hw : v_pz_W sL sX M d mc ms n0 Post (pc + 1) ls (.int (Int32.ofNat sL) :: st) h k n) : v_pz_W sL sX M d mc ms n0 Post pc ls (.ref 1010 :: st) h k n := by
  intro bs D kA ad ad0 p l e s m args below meth c A H locs lc X0 hag hP hD hS hl
  have X := X0.1
  exact va_slen X.1 X.2.1 X0.2.2.2 X0.2.2.1 X0.2.1 hS (pz_dec hM i hi) (hw bs D kA ad ad0 p l e s m args below meth c A H locs lc X0 hag hP hD hS hl)
end
