/-! ===== String's own methods, on the reference's text of words ===== -/
theorem tJ0_coder : pz_T mJ0_coder_7d493 1 0 0 [.ref 1005] [] (fun r h => r = some (.int 0) ∧ h = []) := by
  refine pz_en2 (by decide +kernel) (Nat.le_of_ble_eq_true rfl) (fun P hP => ?_)
  show pz_W mJ0_coder_7d493 1 0 0 0 P 0 [(0, .ref 1005)] [] [] 0 0
  refine pz_scom okJ0_coder_7d493 0 rfl (pz_gwi_mem (i := 1192) (by decide +kernel)) ?_
  refine pz_if okJ0_coder_7d493 1 (r := []) (c := (1 : Int32) = 0) (t := 13) (f := 6) rfl rfl (fun c1 => absurd c1 (by decide)) (fun _ => ?_)
  refine pz_g okJ0_coder_7d493 2 1 (cs := []) (pc' := 7) (ls' := [(0, .ref 1005)]) (st' := [.ref 1005]) (h' := []) (by decide) rfl trivial ?_
  refine pz_scod okJ0_coder_7d493 3 rfl (pz_gwi_mem (i := 1509) (by decide +kernel)) ?_
  refine pz_j okJ0_coder_7d493 4 (t := 14) rfl rfl ?_
  exact pz_ri_ okJ0_coder_7d493 6 rfl rfl (by decide) hP
theorem tJ0_isLatin1 : pz_T mJ0_isLatin1_aae02 1 0 0 [.ref 1005] [] (fun r h => r = some (.int 1) ∧ h = []) := by
  refine pz_en2 (by decide +kernel) (Nat.le_of_ble_eq_true rfl) (fun P hP => ?_)
  show pz_W mJ0_isLatin1_aae02 1 0 0 0 P 0 [(0, .ref 1005)] [] [] 0 0
  refine pz_scom okJ0_isLatin1_aae02 0 rfl (pz_gwi_mem (i := 1192) (by decide +kernel)) ?_
  refine pz_if okJ0_isLatin1_aae02 1 (r := []) (c := (1 : Int32) = 0) (t := 17) (f := 6) rfl rfl (fun c1 => absurd c1 (by decide)) (fun _ => ?_)
  refine pz_g okJ0_isLatin1_aae02 2 1 (cs := []) (pc' := 7) (ls' := [(0, .ref 1005)]) (st' := [.ref 1005]) (h' := []) (by decide) rfl trivial ?_
  refine pz_scod okJ0_isLatin1_aae02 3 rfl (pz_gwi_mem (i := 1509) (by decide +kernel)) ?_
  refine pz_if okJ0_isLatin1_aae02 4 (r := []) (c := ¬ (0 : Int32) = 0) (t := 17) (f := 13) rfl rfl (fun c1 => absurd rfl c1) (fun _ => ?_)
  refine pz_g okJ0_isLatin1_aae02 5 1 (cs := []) (pc' := 14) (ls' := [(0, .ref 1005)]) (st' := [.int 1]) (h' := []) (by decide) rfl trivial ?_
  refine pz_j okJ0_isLatin1_aae02 6 (t := 18) rfl rfl ?_
  exact pz_ri_ okJ0_isLatin1_aae02 8 rfl rfl (by decide) hP
theorem tJ0_length : pz_T mJ0_length_8abf5 2 0 0 [.ref 1005] [] (fun r h => r = some (.int 54) ∧ h = []) := by
  refine pz_en2 (by decide +kernel) (Nat.le_of_ble_eq_true rfl) (fun P hP => ?_)
  show pz_W mJ0_length_8abf5 2 0 0 0 P 0 [(0, .ref 1005)] [] [] 0 0
  refine pz_g okJ0_length_8abf5 0 1 (cs := []) (pc' := 1) (ls' := [(0, .ref 1005)]) (st' := [.ref 1005]) (h' := []) (by decide) rfl trivial ?_
  refine pz_sval okJ0_length_8abf5 1 rfl (pz_gwi_mem (i := 1508) (by decide +kernel)) ?_
  refine pz_slen okJ0_length_8abf5 2 rfl ?_
  refine pz_g okJ0_length_8abf5 3 1 (cs := []) (pc' := 6) (ls' := [(0, .ref 1005)]) (st' := [.ref 1005, .int 54]) (h' := []) (by decide) rfl trivial ?_
  refine pz_cvs (M' := mJ0_coder_7d493) (rest0 := [.int 54]) okJ0_length_8abf5 4 rfl lkJ0_335 cvJ0_coder_7d493 tJ0_coder (by decide) rfl rfl (by decide) rfl (pz_one (hs := []) (st2 := [.int 0, .int 54]) (h2 := []) rfl rfl rfl ?_)
  refine pz_g okJ0_length_8abf5 5 1 (cs := []) (pc' := 10) (ls' := [(0, .ref 1005)]) (st' := [.int ((54 : Int32) >>> ((0 : Int32) &&& 31))]) (h' := []) (by decide) rfl trivial ?_
  exact pz_ri_ okJ0_length_8abf5 6 rfl rfl rfl (by have e : (54 : Int32) >>> ((0 : Int32) &&& 31) = 54 := by decide
                                                   rw [e]; exact hP)
theorem tJ3_checkIndex (i n : Int32) (v : Value) (hv : v = .null ∨ v = .ref 1007) (h1 : ¬ i < 0) (h2 : i < n) : pz_T mJ3_checkIndex_8e157 1 0 0 [.int i, .int n, v] [] (fun r h => r = some (.int i) ∧ h = []) := by
  rcases hv with rfl | rfl
  · refine pz_en2 (by decide +kernel) (Nat.le_of_ble_eq_true rfl) (fun P hP => ?_)
    show pz_W mJ3_checkIndex_8e157 1 0 0 0 P 0 [(0, .int i), (1, .int n), (2, .null)] [] [] 0 0
    refine pz_g okJ3_checkIndex_8e157 0 1 (cs := []) (pc' := 1) (ls' := [(0, .int i), (1, .int n), (2, .null)]) (st' := [.int i]) (h' := []) (by decide) rfl trivial ?_
    refine pz_if okJ3_checkIndex_8e157 1 (r := []) (c := i < 0) (t := 9) (f := 4) rfl rfl (fun c1 => absurd c1 h1) (fun _ => ?_)
    refine pz_g okJ3_checkIndex_8e157 2 2 (cs := []) (pc' := 6) (ls' := [(0, .int i), (1, .int n), (2, .null)]) (st' := [.int n, .int i]) (h' := []) (by decide) rfl trivial ?_
    refine pz_if okJ3_checkIndex_8e157 4 (r := []) (c := i < n) (t := 16) (f := 9) rfl rfl (fun _ => ?_) (fun c1 => absurd h2 c1)
    refine pz_g okJ3_checkIndex_8e157 10 1 (cs := []) (pc' := 17) (ls' := [(0, .int i), (1, .int n), (2, .null)]) (st' := [.int i]) (h' := []) (by decide) rfl trivial ?_
    exact pz_ri_ okJ3_checkIndex_8e157 11 rfl rfl rfl hP
  · refine pz_en2 (by decide +kernel) (Nat.le_of_ble_eq_true rfl) (fun P hP => ?_)
    show pz_W mJ3_checkIndex_8e157 1 0 0 0 P 0 [(0, .int i), (1, .int n), (2, .ref 1007)] [] [] 0 0
    refine pz_g okJ3_checkIndex_8e157 0 1 (cs := []) (pc' := 1) (ls' := [(0, .int i), (1, .int n), (2, .ref 1007)]) (st' := [.int i]) (h' := []) (by decide) rfl trivial ?_
    refine pz_if okJ3_checkIndex_8e157 1 (r := []) (c := i < 0) (t := 9) (f := 4) rfl rfl (fun c1 => absurd c1 h1) (fun _ => ?_)
    refine pz_g okJ3_checkIndex_8e157 2 2 (cs := []) (pc' := 6) (ls' := [(0, .int i), (1, .int n), (2, .ref 1007)]) (st' := [.int n, .int i]) (h' := []) (by decide) rfl trivial ?_
    refine pz_if okJ3_checkIndex_8e157 4 (r := []) (c := i < n) (t := 16) (f := 9) rfl rfl (fun _ => ?_) (fun c1 => absurd h2 c1)
    refine pz_g okJ3_checkIndex_8e157 10 1 (cs := []) (pc' := 17) (ls' := [(0, .int i), (1, .int n), (2, .ref 1007)]) (st' := [.int i]) (h' := []) (by decide) rfl trivial ?_
    exact pz_ri_ okJ3_checkIndex_8e157 11 rfl rfl rfl hP
theorem tJ0_checkIndex (i n : Int32) (h1 : ¬ i < 0) (h2 : i < n) : pz_T mJ0_checkIndex_df160 2 0 0 [.int i, .int n] [] (fun r h => r = none ∧ h = []) := by
  refine pz_en2 (by decide +kernel) (Nat.le_of_ble_eq_true rfl) (fun P hP => ?_)
  show pz_W mJ0_checkIndex_df160 2 0 0 0 P 0 [(0, .int i), (1, .int n)] [] [] 0 0
  refine pz_g okJ0_checkIndex_df160 0 2 (cs := []) (pc' := 2) (ls' := [(0, .int i), (1, .int n)]) (st' := [.int n, .int i]) (h' := []) (by decide) rfl trivial ?_
  have key : ∀ v : Value, (v = .null ∨ v = .ref 1007) → (pz_v (pz_rn [] [] 0) v = v) → pz_W mJ0_checkIndex_df160 2 0 0 0 P 5 [(0, .int i), (1, .int n)] [v, .int n, .int i] [] 0 0 := by
    intro v hv hr
    refine pz_cs (M' := mJ3_checkIndex_8e157) (rest0 := []) okJ0_checkIndex_df160 3 rfl lkJ0_1059 csJ3_checkIndex_8e157 [] [] (tJ3_checkIndex i n v hv h1 h2) (by decide) rfl rfl (by decide) (by decide) (by decide) (by decide) ?_ (pz_one (hs := []) (st2 := [.int i]) (h2 := []) rfl rfl rfl ?_)
    · show [pz_v (pz_rn [] [] 0) v, .int n, .int i] = _
      rw [hr]
    · refine pz_g okJ0_checkIndex_df160 4 1 (cs := []) (pc' := 9) (ls' := [(0, .int i), (1, .int n)]) (st' := []) (h' := []) (by decide) rfl trivial ?_
      exact pz_rv_ okJ0_checkIndex_df160 5 rfl rfl hP
  exact pz_sfmt okJ0_checkIndex_df160 2 rfl (pz_gwi_mem (i := 1207) (by decide +kernel)) (key .null (Or.inl rfl) rfl) (key (.ref 1007) (Or.inr rfl) rfl)
theorem pz_in54 {k : Int32} (h : vp_in k 54) : ¬ k < 0 ∧ k < 54 := by
  rw [vp_in_iff] at h
  refine ⟨fun q => ?_, ?_⟩
  · rw [Int32.lt_iff_toInt_lt] at q
    have : (0 : Int32).toInt = 0 := by decide
    omega
  · rw [Int32.lt_iff_toInt_lt]
    have : (54 : Int32).toInt = 54 := by decide
    omega
theorem tJ1_charAt (k : Int32) (hk : vp_in k 54) : pz_T mJ1_charAt_3b067 3 0 0 [.ref 1006, .int k] [] (fun r h => r = some (.int (fWords k)) ∧ h = []) := by
  refine pz_en2 (by decide +kernel) (Nat.le_of_ble_eq_true rfl) (fun P hP => ?_)
  show pz_W mJ1_charAt_3b067 3 0 0 0 P 0 [(0, .ref 1006), (1, .int k)] [] [] 0 0
  refine pz_g okJ1_charAt_3b067 0 2 (cs := []) (pc' := 2) (ls' := [(0, .ref 1006), (1, .int k)]) (st' := [.ref 1006, .int k]) (h' := []) (by decide) rfl trivial ?_
  refine pz_slen okJ1_charAt_3b067 2 rfl ?_
  refine pz_cs (M' := mJ0_checkIndex_df160) (rest0 := []) okJ1_charAt_3b067 3 rfl lkJ1_9 csJ0_checkIndex_df160 [] [] (tJ0_checkIndex k 54 (pz_in54 hk).1 (pz_in54 hk).2) (by decide) rfl rfl (by decide) (by decide) (by decide) (by decide) rfl (pz_one (hs := []) (st2 := []) (h2 := []) rfl rfl rfl ?_)
  refine pz_g okJ1_charAt_3b067 4 2 (cs := []) (pc' := 8) (ls' := [(0, .ref 1006), (1, .int k)]) (st' := [.int k, .ref 1006]) (h' := []) (by decide) rfl trivial ?_
  refine pz_sbyt okJ1_charAt_3b067 6 rfl hk ?_
  refine pz_g okJ1_charAt_3b067 7 3 (cs := []) (pc' := 14) (ls' := [(0, .ref 1006), (1, .int k)]) (st' := [.int ((pz_wb.getD k.toNatClampNeg 0 &&& 255).toUInt32 % 65536).toInt32]) (h' := []) (by decide) rfl trivial ?_
  exact pz_ri_ okJ1_charAt_3b067 10 rfl rfl (pk_nc _) hP
theorem tJ0_charAt (k : Int32) (hk : vp_in k 54) : pz_T mJ0_charAt_5068e 4 0 0 [.ref 1005, .int k] [] (fun r h => r = some (.int (fWords k)) ∧ h = []) := by
  refine pz_en2 (by decide +kernel) (Nat.le_of_ble_eq_true rfl) (fun P hP => ?_)
  show pz_W mJ0_charAt_5068e 4 0 0 0 P 0 [(0, .ref 1005), (1, .int k)] [] [] 0 0
  refine pz_g okJ0_charAt_5068e 0 1 (cs := []) (pc' := 1) (ls' := [(0, .ref 1005), (1, .int k)]) (st' := [.ref 1005]) (h' := []) (by decide) rfl trivial ?_
  refine pz_cvs (M' := mJ0_isLatin1_aae02) (rest0 := []) okJ0_charAt_5068e 1 rfl lkJ0_492 cvJ0_isLatin1_aae02 tJ0_isLatin1 (by decide) rfl rfl (by decide) rfl (pz_one (hs := []) (st2 := [.int 1]) (h2 := []) rfl rfl rfl ?_)
  refine pz_if okJ0_charAt_5068e 2 (r := []) (c := (1 : Int32) = 0) (t := 16) (f := 7) rfl rfl (fun c1 => absurd c1 (by decide)) (fun _ => ?_)
  refine pz_g okJ0_charAt_5068e 3 1 (cs := []) (pc' := 8) (ls' := [(0, .ref 1005), (1, .int k)]) (st' := [.ref 1005]) (h' := []) (by decide) rfl trivial ?_
  refine pz_sval okJ0_charAt_5068e 4 rfl (pz_gwi_mem (i := 1508) (by decide +kernel)) ?_
  refine pz_g okJ0_charAt_5068e 5 1 (cs := []) (pc' := 12) (ls' := [(0, .ref 1005), (1, .int k)]) (st' := [.int k, .ref 1006]) (h' := []) (by decide) rfl trivial ?_
  refine pz_cs (M' := mJ1_charAt_3b067) (rest0 := []) okJ0_charAt_5068e 6 rfl lkJ0_495 csJ1_charAt_3b067 [] [] (tJ1_charAt k hk) (by decide) rfl rfl (by decide) (by decide) (by decide) (by decide) rfl (pz_one (hs := []) (st2 := [.int (fWords k)]) (h2 := []) rfl rfl rfl ?_)
  exact pz_ri_ okJ0_charAt_5068e 7 rfl rfl (pk_nc _) hP
