/-! ===== printed by wip/whole/g2.py ===== -/
set_option maxRecDepth 100000 in
set_option maxHeartbeats 4000000 in
theorem uFX5_advance_L (fu : Nat) (held0 : Int32) (length0 : Int32) (bytes0 : Nat → Int32) : ∀ n : Nat, (∀ (next0 : Int32) (kind0 : Int32) (value0 : Int32) (place0 : Int32) (R : Int32 × Int32 × Int32 × Int32) (P : Option Value → pz_H → Prop), P (none) [.inr (5, [.ref 1, .int held0, .int length0, .int R.1, .int R.2.1, .int R.2.2.1, .int R.2.2.2]), .inl (2, 600, .inl bytes0)] → FX5_advance_L fu length0 bytes0 n next0 kind0 value0 place0 = some R → pz_W mX5_advance 3 0 0 2 P 0 [(0, .ref 0)] [] [.inr (5, [.ref 1, .int held0, .int length0, .int next0, .int kind0, .int value0, .int place0]), .inl (2, 600, .inl bytes0)] 0 0) := by
  intro n
  induction n with
  | zero => exact (fun next0 kind0 value0 place0 R P hP hF => by cases hF)
  | succ n ih =>
    intro next0 kind0 value0 place0 R P hP hF
    rw [FX5_advance_L] at hF
    refine pz_g okX5_advance 0 4 (cs := []) (pc' := 8) (ls' := [(0, .ref 0)]) (st' := [.int length0, .int next0]) (h' := [.inr (5, [.ref 1, .int held0, .int length0, .int next0, .int kind0, .int value0, .int place0]), .inl (2, 600, .inl bytes0)]) (by decide) rfl trivial ?_
    refine pz_if okX5_advance 4 (r := []) (c := length0 ≤ next0) (t := 52) (f := 11) rfl rfl (fun c1 => ?_) (fun c1 => ?_)
    · replace hF := pz_ip c1 hF
      refine pz_g okX5_advance 26 11 (cs := []) (pc' := 73) (ls' := [(0, .ref 0)]) (st' := [.int length0, .int next0]) (h' := [.inr (5, [.ref 1, .int held0, .int length0, .int next0, .int kind0, .int 0, .int next0]), .inl (2, 600, .inl bytes0)]) (by decide) rfl trivial ?_
      refine pz_if okX5_advance 37 (r := []) (c := next0 < length0) (t := 84) (f := 76) rfl rfl (fun c2 => ?_) (fun c2 => ?_)
      · replace hF := pz_ip c2 hF
        obtain ⟨g3, hF⟩ := pz_gd hF
        refine pz_g okX5_advance 42 6 (cs := [vp_in next0 600]) (pc' := 95) (ls' := [(0, .ref 0)]) (st' := [.int 97, .int (bytes0 next0.toNatClampNeg)]) (h' := [.inr (5, [.ref 1, .int held0, .int length0, .int next0, .int kind0, .int 0, .int next0]), .inl (2, 600, .inl bytes0)]) (by decide) rfl (pz_ac (pz_inb_ok g3) trivial) ?_
        refine pz_if okX5_advance 48 (r := []) (c := (bytes0 next0.toNatClampNeg) < 97) (t := 119) (f := 98) rfl rfl (fun c4 => ?_) (fun c4 => ?_)
        · replace hF := pz_ip c4 hF
          obtain ⟨g5, hF⟩ := pz_gd hF
          refine pz_g okX5_advance 59 6 (cs := [vp_in next0 600]) (pc' := 130) (ls' := [(0, .ref 0)]) (st' := [.int 48, .int (bytes0 next0.toNatClampNeg)]) (h' := [.inr (5, [.ref 1, .int held0, .int length0, .int next0, .int kind0, .int 0, .int next0]), .inl (2, 600, .inl bytes0)]) (by decide) rfl (pz_ac (pz_inb_ok g5) trivial) ?_
          refine pz_if okX5_advance 65 (r := []) (c := (bytes0 next0.toNatClampNeg) < 48) (t := 154) (f := 133) rfl rfl (fun c6 => ?_) (fun c6 => ?_)
          · replace hF := pz_ip c6 hF
            obtain ⟨g7, hF⟩ := pz_gd hF
            refine pz_g okX5_advance 76 6 (cs := [vp_in next0 600]) (pc' := 164) (ls' := [(0, .ref 0)]) (st' := [.int (bytes0 next0.toNatClampNeg), .ref 0]) (h' := [.inr (5, [.ref 1, .int held0, .int length0, .int next0, .int kind0, .int 0, .int next0]), .inl (2, 600, .inl bytes0)]) (by decide) rfl (pz_ac (pz_inb_ok g7) trivial) ?_
            obtain ⟨y8z, hy8z, hF⟩ := pz_bd hF
            refine pz_cv (M' := mX5_readSign) (rest0 := []) (ci := 5) (q := (RX5, TX5, 7)) okX5_advance 82 rfl lkX5_47 cvX5_readSign [0, 1] [] (tFX5_readSign fu (bytes0 next0.toNatClampNeg) held0 length0 next0 kind0 (0 : Int32) next0 bytes0 y8z hy8z) (by decide) rfl rfl rfl rfl rfl (by decide) (by decide) (by decide) (Nat.le_of_ble_eq_true rfl) rfl (pz_one (st2 := []) (h2 := [.inr (5, [.ref 1, .int held0, .int length0, .int y8z.1, .int y8z.2.1, .int y8z.2.2, .int next0]), .inl (2, 600, .inl bytes0)]) rfl rfl rfl ?_)
            cases hF
            exact pz_rv_ okX5_advance 83 rfl rfl hP
          · replace hF := pz_ne c6 hF
            obtain ⟨g9, hF⟩ := pz_gd hF
            refine pz_g okX5_advance 66 6 (cs := [vp_in next0 600]) (pc' := 144) (ls' := [(0, .ref 0)]) (st' := [.int 57, .int (bytes0 next0.toNatClampNeg)]) (h' := [.inr (5, [.ref 1, .int held0, .int length0, .int next0, .int kind0, .int 0, .int next0]), .inl (2, 600, .inl bytes0)]) (by decide) rfl (pz_ac (pz_inb_ok g9) trivial) ?_
            refine pz_if okX5_advance 72 (r := []) (c := 57 < (bytes0 next0.toNatClampNeg)) (t := 154) (f := 147) rfl rfl (fun c10 => ?_) (fun c10 => ?_)
            · replace hF := pz_ip c10 hF
              obtain ⟨g11, hF⟩ := pz_gd hF
              refine pz_g okX5_advance 76 6 (cs := [vp_in next0 600]) (pc' := 164) (ls' := [(0, .ref 0)]) (st' := [.int (bytes0 next0.toNatClampNeg), .ref 0]) (h' := [.inr (5, [.ref 1, .int held0, .int length0, .int next0, .int kind0, .int 0, .int next0]), .inl (2, 600, .inl bytes0)]) (by decide) rfl (pz_ac (pz_inb_ok g11) trivial) ?_
              obtain ⟨y12z, hy12z, hF⟩ := pz_bd hF
              refine pz_cv (M' := mX5_readSign) (rest0 := []) (ci := 5) (q := (RX5, TX5, 7)) okX5_advance 82 rfl lkX5_47 cvX5_readSign [0, 1] [] (tFX5_readSign fu (bytes0 next0.toNatClampNeg) held0 length0 next0 kind0 (0 : Int32) next0 bytes0 y12z hy12z) (by decide) rfl rfl rfl rfl rfl (by decide) (by decide) (by decide) (Nat.le_of_ble_eq_true rfl) rfl (pz_one (st2 := []) (h2 := [.inr (5, [.ref 1, .int held0, .int length0, .int y12z.1, .int y12z.2.1, .int y12z.2.2, .int next0]), .inl (2, 600, .inl bytes0)]) rfl rfl rfl ?_)
              cases hF
              exact pz_rv_ okX5_advance 83 rfl rfl hP
            · replace hF := pz_ne c10 hF
              refine pz_g okX5_advance 73 1 (cs := []) (pc' := 148) (ls' := [(0, .ref 0)]) (st' := [.ref 0]) (h' := [.inr (5, [.ref 1, .int held0, .int length0, .int next0, .int kind0, .int 0, .int next0]), .inl (2, 600, .inl bytes0)]) (by decide) rfl trivial ?_
              obtain ⟨y13z, hy13z, hF⟩ := pz_bd hF
              refine pz_cv (M' := mX5_readNumber) (rest0 := []) (ci := 5) (q := (RX5, TX5, 7)) okX5_advance 74 rfl lkX5_44 cvX5_readNumber [0, 1] [] (tFX5_readNumber fu held0 length0 next0 kind0 (0 : Int32) next0 bytes0 y13z hy13z) (by decide) rfl rfl rfl rfl rfl (by decide) (by decide) (by decide) (Nat.le_of_ble_eq_true rfl) rfl (pz_one (st2 := []) (h2 := [.inr (5, [.ref 1, .int held0, .int length0, .int y13z.1, .int y13z.2.1, .int y13z.2.2, .int next0]), .inl (2, 600, .inl bytes0)]) rfl rfl rfl ?_)
              refine pz_j okX5_advance 75 (t := 167) rfl rfl ?_
              cases hF
              exact pz_rv_ okX5_advance 83 rfl rfl hP
        · replace hF := pz_ne c4 hF
          obtain ⟨g14, hF⟩ := pz_gd hF
          refine pz_g okX5_advance 49 6 (cs := [vp_in next0 600]) (pc' := 109) (ls' := [(0, .ref 0)]) (st' := [.int 122, .int (bytes0 next0.toNatClampNeg)]) (h' := [.inr (5, [.ref 1, .int held0, .int length0, .int next0, .int kind0, .int 0, .int next0]), .inl (2, 600, .inl bytes0)]) (by decide) rfl (pz_ac (pz_inb_ok g14) trivial) ?_
          refine pz_if okX5_advance 55 (r := []) (c := 122 < (bytes0 next0.toNatClampNeg)) (t := 119) (f := 112) rfl rfl (fun c15 => ?_) (fun c15 => ?_)
          · replace hF := pz_ip c15 hF
            obtain ⟨g16, hF⟩ := pz_gd hF
            refine pz_g okX5_advance 59 6 (cs := [vp_in next0 600]) (pc' := 130) (ls' := [(0, .ref 0)]) (st' := [.int 48, .int (bytes0 next0.toNatClampNeg)]) (h' := [.inr (5, [.ref 1, .int held0, .int length0, .int next0, .int kind0, .int 0, .int next0]), .inl (2, 600, .inl bytes0)]) (by decide) rfl (pz_ac (pz_inb_ok g16) trivial) ?_
            refine pz_if okX5_advance 65 (r := []) (c := (bytes0 next0.toNatClampNeg) < 48) (t := 154) (f := 133) rfl rfl (fun c17 => ?_) (fun c17 => ?_)
            · replace hF := pz_ip c17 hF
              obtain ⟨g18, hF⟩ := pz_gd hF
              refine pz_g okX5_advance 76 6 (cs := [vp_in next0 600]) (pc' := 164) (ls' := [(0, .ref 0)]) (st' := [.int (bytes0 next0.toNatClampNeg), .ref 0]) (h' := [.inr (5, [.ref 1, .int held0, .int length0, .int next0, .int kind0, .int 0, .int next0]), .inl (2, 600, .inl bytes0)]) (by decide) rfl (pz_ac (pz_inb_ok g18) trivial) ?_
              obtain ⟨y19z, hy19z, hF⟩ := pz_bd hF
              refine pz_cv (M' := mX5_readSign) (rest0 := []) (ci := 5) (q := (RX5, TX5, 7)) okX5_advance 82 rfl lkX5_47 cvX5_readSign [0, 1] [] (tFX5_readSign fu (bytes0 next0.toNatClampNeg) held0 length0 next0 kind0 (0 : Int32) next0 bytes0 y19z hy19z) (by decide) rfl rfl rfl rfl rfl (by decide) (by decide) (by decide) (Nat.le_of_ble_eq_true rfl) rfl (pz_one (st2 := []) (h2 := [.inr (5, [.ref 1, .int held0, .int length0, .int y19z.1, .int y19z.2.1, .int y19z.2.2, .int next0]), .inl (2, 600, .inl bytes0)]) rfl rfl rfl ?_)
              cases hF
              exact pz_rv_ okX5_advance 83 rfl rfl hP
            · replace hF := pz_ne c17 hF
              obtain ⟨g20, hF⟩ := pz_gd hF
              refine pz_g okX5_advance 66 6 (cs := [vp_in next0 600]) (pc' := 144) (ls' := [(0, .ref 0)]) (st' := [.int 57, .int (bytes0 next0.toNatClampNeg)]) (h' := [.inr (5, [.ref 1, .int held0, .int length0, .int next0, .int kind0, .int 0, .int next0]), .inl (2, 600, .inl bytes0)]) (by decide) rfl (pz_ac (pz_inb_ok g20) trivial) ?_
              refine pz_if okX5_advance 72 (r := []) (c := 57 < (bytes0 next0.toNatClampNeg)) (t := 154) (f := 147) rfl rfl (fun c21 => ?_) (fun c21 => ?_)
              · replace hF := pz_ip c21 hF
                obtain ⟨g22, hF⟩ := pz_gd hF
                refine pz_g okX5_advance 76 6 (cs := [vp_in next0 600]) (pc' := 164) (ls' := [(0, .ref 0)]) (st' := [.int (bytes0 next0.toNatClampNeg), .ref 0]) (h' := [.inr (5, [.ref 1, .int held0, .int length0, .int next0, .int kind0, .int 0, .int next0]), .inl (2, 600, .inl bytes0)]) (by decide) rfl (pz_ac (pz_inb_ok g22) trivial) ?_
                obtain ⟨y23z, hy23z, hF⟩ := pz_bd hF
                refine pz_cv (M' := mX5_readSign) (rest0 := []) (ci := 5) (q := (RX5, TX5, 7)) okX5_advance 82 rfl lkX5_47 cvX5_readSign [0, 1] [] (tFX5_readSign fu (bytes0 next0.toNatClampNeg) held0 length0 next0 kind0 (0 : Int32) next0 bytes0 y23z hy23z) (by decide) rfl rfl rfl rfl rfl (by decide) (by decide) (by decide) (Nat.le_of_ble_eq_true rfl) rfl (pz_one (st2 := []) (h2 := [.inr (5, [.ref 1, .int held0, .int length0, .int y23z.1, .int y23z.2.1, .int y23z.2.2, .int next0]), .inl (2, 600, .inl bytes0)]) rfl rfl rfl ?_)
                cases hF
                exact pz_rv_ okX5_advance 83 rfl rfl hP
              · replace hF := pz_ne c21 hF
                refine pz_g okX5_advance 73 1 (cs := []) (pc' := 148) (ls' := [(0, .ref 0)]) (st' := [.ref 0]) (h' := [.inr (5, [.ref 1, .int held0, .int length0, .int next0, .int kind0, .int 0, .int next0]), .inl (2, 600, .inl bytes0)]) (by decide) rfl trivial ?_
                obtain ⟨y24z, hy24z, hF⟩ := pz_bd hF
                refine pz_cv (M' := mX5_readNumber) (rest0 := []) (ci := 5) (q := (RX5, TX5, 7)) okX5_advance 74 rfl lkX5_44 cvX5_readNumber [0, 1] [] (tFX5_readNumber fu held0 length0 next0 kind0 (0 : Int32) next0 bytes0 y24z hy24z) (by decide) rfl rfl rfl rfl rfl (by decide) (by decide) (by decide) (Nat.le_of_ble_eq_true rfl) rfl (pz_one (st2 := []) (h2 := [.inr (5, [.ref 1, .int held0, .int length0, .int y24z.1, .int y24z.2.1, .int y24z.2.2, .int next0]), .inl (2, 600, .inl bytes0)]) rfl rfl rfl ?_)
                refine pz_j okX5_advance 75 (t := 167) rfl rfl ?_
                cases hF
                exact pz_rv_ okX5_advance 83 rfl rfl hP
          · replace hF := pz_ne c15 hF
            refine pz_g okX5_advance 56 1 (cs := []) (pc' := 113) (ls' := [(0, .ref 0)]) (st' := [.ref 0]) (h' := [.inr (5, [.ref 1, .int held0, .int length0, .int next0, .int kind0, .int 0, .int next0]), .inl (2, 600, .inl bytes0)]) (by decide) rfl trivial ?_
            obtain ⟨y25z, hy25z, hF⟩ := pz_bd hF
            refine pz_cv (M' := mX5_readWord) (rest0 := []) (ci := 5) (q := (RX5, TX5, 7)) okX5_advance 57 rfl lkX5_41 cvX5_readWord [0, 1] [] (tFX5_readWord fu held0 length0 next0 kind0 (0 : Int32) next0 bytes0 y25z hy25z) (by decide) rfl rfl rfl rfl rfl (by decide) (by decide) (by decide) (Nat.le_of_ble_eq_true rfl) rfl (pz_one (st2 := []) (h2 := [.inr (5, [.ref 1, .int held0, .int length0, .int y25z.1, .int y25z.2.1, .int y25z.2.2, .int next0]), .inl (2, 600, .inl bytes0)]) rfl rfl rfl ?_)
            refine pz_j okX5_advance 58 (t := 167) rfl rfl ?_
            cases hF
            exact pz_rv_ okX5_advance 83 rfl rfl hP
      · replace hF := pz_ne c2 hF
        refine pz_g okX5_advance 38 3 (cs := []) (pc' := 81) (ls' := [(0, .ref 0)]) (st' := []) (h' := [.inr (5, [.ref 1, .int held0, .int length0, .int next0, .int 0, .int 0, .int next0]), .inl (2, 600, .inl bytes0)]) (by decide) rfl trivial ?_
        refine pz_j okX5_advance 41 (t := 167) rfl rfl ?_
        cases hF
        exact pz_rv_ okX5_advance 83 rfl rfl hP
    · replace hF := pz_ne c1 hF
      obtain ⟨g26, hF⟩ := pz_gd hF
      refine pz_g okX5_advance 5 6 (cs := [vp_in next0 600]) (pc' := 22) (ls' := [(0, .ref 0)]) (st' := [.int 32, .int (bytes0 next0.toNatClampNeg)]) (h' := [.inr (5, [.ref 1, .int held0, .int length0, .int next0, .int kind0, .int value0, .int place0]), .inl (2, 600, .inl bytes0)]) (by decide) rfl (pz_ac (pz_inb_ok g26) trivial) ?_
      refine pz_if okX5_advance 11 (r := []) (c := (bytes0 next0.toNatClampNeg) = 32) (t := 39) (f := 25) rfl rfl (fun c27 => ?_) (fun c27 => ?_)
      · replace hF := pz_ip c27 hF
        refine pz_g okX5_advance 19 6 (cs := []) (pc' := 49) (ls' := [(0, .ref 0)]) (st' := []) (h' := [.inr (5, [.ref 1, .int held0, .int length0, .int (next0 + 1), .int kind0, .int value0, .int place0]), .inl (2, 600, .inl bytes0)]) (by decide) rfl trivial ?_
        refine pz_j okX5_advance 25 (t := 0) rfl rfl ?_
        exact ih (next0 + 1) kind0 value0 place0 R P hP hF
      · replace hF := pz_ne c27 hF
        obtain ⟨g28, hF⟩ := pz_gd hF
        refine pz_g okX5_advance 12 6 (cs := [vp_in next0 600]) (pc' := 36) (ls' := [(0, .ref 0)]) (st' := [.int 10, .int (bytes0 next0.toNatClampNeg)]) (h' := [.inr (5, [.ref 1, .int held0, .int length0, .int next0, .int kind0, .int value0, .int place0]), .inl (2, 600, .inl bytes0)]) (by decide) rfl (pz_ac (pz_inb_ok g28) trivial) ?_
        refine pz_if okX5_advance 18 (r := []) (c := ¬ (bytes0 next0.toNatClampNeg) = 10) (t := 52) (f := 39) rfl rfl (fun c29 => ?_) (fun c29 => ?_)
        · replace hF := pz_ip c29 hF
          refine pz_g okX5_advance 26 11 (cs := []) (pc' := 73) (ls' := [(0, .ref 0)]) (st' := [.int length0, .int next0]) (h' := [.inr (5, [.ref 1, .int held0, .int length0, .int next0, .int kind0, .int 0, .int next0]), .inl (2, 600, .inl bytes0)]) (by decide) rfl trivial ?_
          refine pz_if okX5_advance 37 (r := []) (c := next0 < length0) (t := 84) (f := 76) rfl rfl (fun c30 => ?_) (fun c30 => ?_)
          · replace hF := pz_ip c30 hF
            obtain ⟨g31, hF⟩ := pz_gd hF
            refine pz_g okX5_advance 42 6 (cs := [vp_in next0 600]) (pc' := 95) (ls' := [(0, .ref 0)]) (st' := [.int 97, .int (bytes0 next0.toNatClampNeg)]) (h' := [.inr (5, [.ref 1, .int held0, .int length0, .int next0, .int kind0, .int 0, .int next0]), .inl (2, 600, .inl bytes0)]) (by decide) rfl (pz_ac (pz_inb_ok g31) trivial) ?_
            refine pz_if okX5_advance 48 (r := []) (c := (bytes0 next0.toNatClampNeg) < 97) (t := 119) (f := 98) rfl rfl (fun c32 => ?_) (fun c32 => ?_)
            · replace hF := pz_ip c32 hF
              obtain ⟨g33, hF⟩ := pz_gd hF
              refine pz_g okX5_advance 59 6 (cs := [vp_in next0 600]) (pc' := 130) (ls' := [(0, .ref 0)]) (st' := [.int 48, .int (bytes0 next0.toNatClampNeg)]) (h' := [.inr (5, [.ref 1, .int held0, .int length0, .int next0, .int kind0, .int 0, .int next0]), .inl (2, 600, .inl bytes0)]) (by decide) rfl (pz_ac (pz_inb_ok g33) trivial) ?_
              refine pz_if okX5_advance 65 (r := []) (c := (bytes0 next0.toNatClampNeg) < 48) (t := 154) (f := 133) rfl rfl (fun c34 => ?_) (fun c34 => ?_)
              · replace hF := pz_ip c34 hF
                obtain ⟨g35, hF⟩ := pz_gd hF
                refine pz_g okX5_advance 76 6 (cs := [vp_in next0 600]) (pc' := 164) (ls' := [(0, .ref 0)]) (st' := [.int (bytes0 next0.toNatClampNeg), .ref 0]) (h' := [.inr (5, [.ref 1, .int held0, .int length0, .int next0, .int kind0, .int 0, .int next0]), .inl (2, 600, .inl bytes0)]) (by decide) rfl (pz_ac (pz_inb_ok g35) trivial) ?_
                obtain ⟨y36z, hy36z, hF⟩ := pz_bd hF
                refine pz_cv (M' := mX5_readSign) (rest0 := []) (ci := 5) (q := (RX5, TX5, 7)) okX5_advance 82 rfl lkX5_47 cvX5_readSign [0, 1] [] (tFX5_readSign fu (bytes0 next0.toNatClampNeg) held0 length0 next0 kind0 (0 : Int32) next0 bytes0 y36z hy36z) (by decide) rfl rfl rfl rfl rfl (by decide) (by decide) (by decide) (Nat.le_of_ble_eq_true rfl) rfl (pz_one (st2 := []) (h2 := [.inr (5, [.ref 1, .int held0, .int length0, .int y36z.1, .int y36z.2.1, .int y36z.2.2, .int next0]), .inl (2, 600, .inl bytes0)]) rfl rfl rfl ?_)
                cases hF
                exact pz_rv_ okX5_advance 83 rfl rfl hP
              · replace hF := pz_ne c34 hF
                obtain ⟨g37, hF⟩ := pz_gd hF
                refine pz_g okX5_advance 66 6 (cs := [vp_in next0 600]) (pc' := 144) (ls' := [(0, .ref 0)]) (st' := [.int 57, .int (bytes0 next0.toNatClampNeg)]) (h' := [.inr (5, [.ref 1, .int held0, .int length0, .int next0, .int kind0, .int 0, .int next0]), .inl (2, 600, .inl bytes0)]) (by decide) rfl (pz_ac (pz_inb_ok g37) trivial) ?_
                refine pz_if okX5_advance 72 (r := []) (c := 57 < (bytes0 next0.toNatClampNeg)) (t := 154) (f := 147) rfl rfl (fun c38 => ?_) (fun c38 => ?_)
                · replace hF := pz_ip c38 hF
                  obtain ⟨g39, hF⟩ := pz_gd hF
                  refine pz_g okX5_advance 76 6 (cs := [vp_in next0 600]) (pc' := 164) (ls' := [(0, .ref 0)]) (st' := [.int (bytes0 next0.toNatClampNeg), .ref 0]) (h' := [.inr (5, [.ref 1, .int held0, .int length0, .int next0, .int kind0, .int 0, .int next0]), .inl (2, 600, .inl bytes0)]) (by decide) rfl (pz_ac (pz_inb_ok g39) trivial) ?_
                  obtain ⟨y40z, hy40z, hF⟩ := pz_bd hF
                  refine pz_cv (M' := mX5_readSign) (rest0 := []) (ci := 5) (q := (RX5, TX5, 7)) okX5_advance 82 rfl lkX5_47 cvX5_readSign [0, 1] [] (tFX5_readSign fu (bytes0 next0.toNatClampNeg) held0 length0 next0 kind0 (0 : Int32) next0 bytes0 y40z hy40z) (by decide) rfl rfl rfl rfl rfl (by decide) (by decide) (by decide) (Nat.le_of_ble_eq_true rfl) rfl (pz_one (st2 := []) (h2 := [.inr (5, [.ref 1, .int held0, .int length0, .int y40z.1, .int y40z.2.1, .int y40z.2.2, .int next0]), .inl (2, 600, .inl bytes0)]) rfl rfl rfl ?_)
                  cases hF
                  exact pz_rv_ okX5_advance 83 rfl rfl hP
                · replace hF := pz_ne c38 hF
                  refine pz_g okX5_advance 73 1 (cs := []) (pc' := 148) (ls' := [(0, .ref 0)]) (st' := [.ref 0]) (h' := [.inr (5, [.ref 1, .int held0, .int length0, .int next0, .int kind0, .int 0, .int next0]), .inl (2, 600, .inl bytes0)]) (by decide) rfl trivial ?_
                  obtain ⟨y41z, hy41z, hF⟩ := pz_bd hF
                  refine pz_cv (M' := mX5_readNumber) (rest0 := []) (ci := 5) (q := (RX5, TX5, 7)) okX5_advance 74 rfl lkX5_44 cvX5_readNumber [0, 1] [] (tFX5_readNumber fu held0 length0 next0 kind0 (0 : Int32) next0 bytes0 y41z hy41z) (by decide) rfl rfl rfl rfl rfl (by decide) (by decide) (by decide) (Nat.le_of_ble_eq_true rfl) rfl (pz_one (st2 := []) (h2 := [.inr (5, [.ref 1, .int held0, .int length0, .int y41z.1, .int y41z.2.1, .int y41z.2.2, .int next0]), .inl (2, 600, .inl bytes0)]) rfl rfl rfl ?_)
                  refine pz_j okX5_advance 75 (t := 167) rfl rfl ?_
                  cases hF
                  exact pz_rv_ okX5_advance 83 rfl rfl hP
            · replace hF := pz_ne c32 hF
              obtain ⟨g42, hF⟩ := pz_gd hF
              refine pz_g okX5_advance 49 6 (cs := [vp_in next0 600]) (pc' := 109) (ls' := [(0, .ref 0)]) (st' := [.int 122, .int (bytes0 next0.toNatClampNeg)]) (h' := [.inr (5, [.ref 1, .int held0, .int length0, .int next0, .int kind0, .int 0, .int next0]), .inl (2, 600, .inl bytes0)]) (by decide) rfl (pz_ac (pz_inb_ok g42) trivial) ?_
              refine pz_if okX5_advance 55 (r := []) (c := 122 < (bytes0 next0.toNatClampNeg)) (t := 119) (f := 112) rfl rfl (fun c43 => ?_) (fun c43 => ?_)
              · replace hF := pz_ip c43 hF
                obtain ⟨g44, hF⟩ := pz_gd hF
                refine pz_g okX5_advance 59 6 (cs := [vp_in next0 600]) (pc' := 130) (ls' := [(0, .ref 0)]) (st' := [.int 48, .int (bytes0 next0.toNatClampNeg)]) (h' := [.inr (5, [.ref 1, .int held0, .int length0, .int next0, .int kind0, .int 0, .int next0]), .inl (2, 600, .inl bytes0)]) (by decide) rfl (pz_ac (pz_inb_ok g44) trivial) ?_
                refine pz_if okX5_advance 65 (r := []) (c := (bytes0 next0.toNatClampNeg) < 48) (t := 154) (f := 133) rfl rfl (fun c45 => ?_) (fun c45 => ?_)
                · replace hF := pz_ip c45 hF
                  obtain ⟨g46, hF⟩ := pz_gd hF
                  refine pz_g okX5_advance 76 6 (cs := [vp_in next0 600]) (pc' := 164) (ls' := [(0, .ref 0)]) (st' := [.int (bytes0 next0.toNatClampNeg), .ref 0]) (h' := [.inr (5, [.ref 1, .int held0, .int length0, .int next0, .int kind0, .int 0, .int next0]), .inl (2, 600, .inl bytes0)]) (by decide) rfl (pz_ac (pz_inb_ok g46) trivial) ?_
                  obtain ⟨y47z, hy47z, hF⟩ := pz_bd hF
                  refine pz_cv (M' := mX5_readSign) (rest0 := []) (ci := 5) (q := (RX5, TX5, 7)) okX5_advance 82 rfl lkX5_47 cvX5_readSign [0, 1] [] (tFX5_readSign fu (bytes0 next0.toNatClampNeg) held0 length0 next0 kind0 (0 : Int32) next0 bytes0 y47z hy47z) (by decide) rfl rfl rfl rfl rfl (by decide) (by decide) (by decide) (Nat.le_of_ble_eq_true rfl) rfl (pz_one (st2 := []) (h2 := [.inr (5, [.ref 1, .int held0, .int length0, .int y47z.1, .int y47z.2.1, .int y47z.2.2, .int next0]), .inl (2, 600, .inl bytes0)]) rfl rfl rfl ?_)
                  cases hF
                  exact pz_rv_ okX5_advance 83 rfl rfl hP
                · replace hF := pz_ne c45 hF
                  obtain ⟨g48, hF⟩ := pz_gd hF
                  refine pz_g okX5_advance 66 6 (cs := [vp_in next0 600]) (pc' := 144) (ls' := [(0, .ref 0)]) (st' := [.int 57, .int (bytes0 next0.toNatClampNeg)]) (h' := [.inr (5, [.ref 1, .int held0, .int length0, .int next0, .int kind0, .int 0, .int next0]), .inl (2, 600, .inl bytes0)]) (by decide) rfl (pz_ac (pz_inb_ok g48) trivial) ?_
                  refine pz_if okX5_advance 72 (r := []) (c := 57 < (bytes0 next0.toNatClampNeg)) (t := 154) (f := 147) rfl rfl (fun c49 => ?_) (fun c49 => ?_)
                  · replace hF := pz_ip c49 hF
                    obtain ⟨g50, hF⟩ := pz_gd hF
                    refine pz_g okX5_advance 76 6 (cs := [vp_in next0 600]) (pc' := 164) (ls' := [(0, .ref 0)]) (st' := [.int (bytes0 next0.toNatClampNeg), .ref 0]) (h' := [.inr (5, [.ref 1, .int held0, .int length0, .int next0, .int kind0, .int 0, .int next0]), .inl (2, 600, .inl bytes0)]) (by decide) rfl (pz_ac (pz_inb_ok g50) trivial) ?_
                    obtain ⟨y51z, hy51z, hF⟩ := pz_bd hF
                    refine pz_cv (M' := mX5_readSign) (rest0 := []) (ci := 5) (q := (RX5, TX5, 7)) okX5_advance 82 rfl lkX5_47 cvX5_readSign [0, 1] [] (tFX5_readSign fu (bytes0 next0.toNatClampNeg) held0 length0 next0 kind0 (0 : Int32) next0 bytes0 y51z hy51z) (by decide) rfl rfl rfl rfl rfl (by decide) (by decide) (by decide) (Nat.le_of_ble_eq_true rfl) rfl (pz_one (st2 := []) (h2 := [.inr (5, [.ref 1, .int held0, .int length0, .int y51z.1, .int y51z.2.1, .int y51z.2.2, .int next0]), .inl (2, 600, .inl bytes0)]) rfl rfl rfl ?_)
                    cases hF
                    exact pz_rv_ okX5_advance 83 rfl rfl hP
                  · replace hF := pz_ne c49 hF
                    refine pz_g okX5_advance 73 1 (cs := []) (pc' := 148) (ls' := [(0, .ref 0)]) (st' := [.ref 0]) (h' := [.inr (5, [.ref 1, .int held0, .int length0, .int next0, .int kind0, .int 0, .int next0]), .inl (2, 600, .inl bytes0)]) (by decide) rfl trivial ?_
                    obtain ⟨y52z, hy52z, hF⟩ := pz_bd hF
                    refine pz_cv (M' := mX5_readNumber) (rest0 := []) (ci := 5) (q := (RX5, TX5, 7)) okX5_advance 74 rfl lkX5_44 cvX5_readNumber [0, 1] [] (tFX5_readNumber fu held0 length0 next0 kind0 (0 : Int32) next0 bytes0 y52z hy52z) (by decide) rfl rfl rfl rfl rfl (by decide) (by decide) (by decide) (Nat.le_of_ble_eq_true rfl) rfl (pz_one (st2 := []) (h2 := [.inr (5, [.ref 1, .int held0, .int length0, .int y52z.1, .int y52z.2.1, .int y52z.2.2, .int next0]), .inl (2, 600, .inl bytes0)]) rfl rfl rfl ?_)
                    refine pz_j okX5_advance 75 (t := 167) rfl rfl ?_
                    cases hF
                    exact pz_rv_ okX5_advance 83 rfl rfl hP
              · replace hF := pz_ne c43 hF
                refine pz_g okX5_advance 56 1 (cs := []) (pc' := 113) (ls' := [(0, .ref 0)]) (st' := [.ref 0]) (h' := [.inr (5, [.ref 1, .int held0, .int length0, .int next0, .int kind0, .int 0, .int next0]), .inl (2, 600, .inl bytes0)]) (by decide) rfl trivial ?_
                obtain ⟨y53z, hy53z, hF⟩ := pz_bd hF
                refine pz_cv (M' := mX5_readWord) (rest0 := []) (ci := 5) (q := (RX5, TX5, 7)) okX5_advance 57 rfl lkX5_41 cvX5_readWord [0, 1] [] (tFX5_readWord fu held0 length0 next0 kind0 (0 : Int32) next0 bytes0 y53z hy53z) (by decide) rfl rfl rfl rfl rfl (by decide) (by decide) (by decide) (Nat.le_of_ble_eq_true rfl) rfl (pz_one (st2 := []) (h2 := [.inr (5, [.ref 1, .int held0, .int length0, .int y53z.1, .int y53z.2.1, .int y53z.2.2, .int next0]), .inl (2, 600, .inl bytes0)]) rfl rfl rfl ?_)
                refine pz_j okX5_advance 58 (t := 167) rfl rfl ?_
                cases hF
                exact pz_rv_ okX5_advance 83 rfl rfl hP
          · replace hF := pz_ne c30 hF
            refine pz_g okX5_advance 38 3 (cs := []) (pc' := 81) (ls' := [(0, .ref 0)]) (st' := []) (h' := [.inr (5, [.ref 1, .int held0, .int length0, .int next0, .int 0, .int 0, .int next0]), .inl (2, 600, .inl bytes0)]) (by decide) rfl trivial ?_
            refine pz_j okX5_advance 41 (t := 167) rfl rfl ?_
            cases hF
            exact pz_rv_ okX5_advance 83 rfl rfl hP
        · replace hF := pz_ne c29 hF
          refine pz_g okX5_advance 19 6 (cs := []) (pc' := 49) (ls' := [(0, .ref 0)]) (st' := []) (h' := [.inr (5, [.ref 1, .int held0, .int length0, .int (next0 + 1), .int kind0, .int value0, .int place0]), .inl (2, 600, .inl bytes0)]) (by decide) rfl trivial ?_
          refine pz_j okX5_advance 25 (t := 0) rfl rfl ?_
          exact ih (next0 + 1) kind0 value0 place0 R P hP hF
set_option maxRecDepth 100000 in
set_option maxHeartbeats 4000000 in
theorem tFX5_advance (fu : Nat) (held0 : Int32) (length0 : Int32) (next0 : Int32) (kind0 : Int32) (value0 : Int32) (place0 : Int32) (bytes0 : Nat → Int32) (R : Int32 × Int32 × Int32 × Int32) (hF : FX5_advance fu length0 next0 kind0 value0 place0 bytes0 = some R) : pz_T mX5_advance 3 0 0 [.ref 0] [.inr (5, [.ref 1, .int held0, .int length0, .int next0, .int kind0, .int value0, .int place0]), .inl (2, 600, .inl bytes0)] (fun r h => r = none ∧ h = [.inr (5, [.ref 1, .int held0, .int length0, .int R.1, .int R.2.1, .int R.2.2.1, .int R.2.2.2]), .inl (2, 600, .inl bytes0)]) := by
  refine pz_en2 (by decide +kernel) (Nat.le_of_ble_eq_true rfl) (fun P hP => ?_)
  show pz_W mX5_advance 3 0 0 2 P 0 [(0, .ref 0)] [] _ 0 0
  rw [FX5_advance] at hF
  exact (uFX5_advance_L fu held0 length0 bytes0 fu) next0 kind0 value0 place0 R P hP hF
set_option maxRecDepth 100000 in
set_option maxHeartbeats 4000000 in
theorem tFX5_open (fu : Nat) (p1z : Int32) (held0 : Int32) (length0 : Int32) (next0 : Int32) (kind0 : Int32) (value0 : Int32) (place0 : Int32) (bytes0 : Nat → Int32) (R : Int32 × Int32 × Int32 × Int32 × Int32 × Int32) (hF : FX5_open fu p1z kind0 value0 place0 bytes0 = some R) : pz_T mX5_open 4 0 0 [.ref 0, .int p1z] [.inr (5, [.ref 1, .int held0, .int length0, .int next0, .int kind0, .int value0, .int place0]), .inl (2, 600, .inl bytes0)] (fun r h => r = none ∧ h = [.inr (5, [.ref 1, .int R.1, .int R.2.1, .int R.2.2.1, .int R.2.2.2.1, .int R.2.2.2.2.1, .int R.2.2.2.2.2]), .inl (2, 600, .inl bytes0)]) := by
  refine pz_en2 (by decide +kernel) (Nat.le_of_ble_eq_true rfl) (fun P hP => ?_)
  show pz_W mX5_open 4 0 0 2 P 0 [(0, .ref 0), (1, .int p1z)] [] _ 0 0
  rw [FX5_open] at hF
  refine pz_g okX5_open 0 3 (cs := []) (pc' := 5) (ls' := [(0, .ref 0), (1, .int p1z)]) (st' := [.int 600, .int p1z, .ref 0]) (h' := [.inr (5, [.ref 1, .int held0, .int length0, .int next0, .int kind0, .int value0, .int place0]), .inl (2, 600, .inl bytes0)]) (by decide) rfl trivial ?_
  refine pz_cs (M' := mJ9_min_7cf53) (rest0 := [.ref 0]) okX5_open 3 rfl lkX5_17 csJ9_min_7cf53 [] [] (tJ9_min_7cf53 p1z (600 : Int32)) (by decide) rfl rfl (by decide) (by decide) (by decide) (Nat.le_of_ble_eq_true rfl) rfl (pz_one (st2 := [.int (fJ9_min_7cf53_r p1z 600), .ref 0]) (h2 := [.inr (5, [.ref 1, .int held0, .int length0, .int next0, .int kind0, .int value0, .int place0]), .inl (2, 600, .inl bytes0)]) rfl rfl rfl ?_)
  refine pz_g okX5_open 4 8 (cs := []) (pc' := 22) (ls' := [(0, .ref 0), (1, .int p1z)]) (st' := [.ref 0]) (h' := [.inr (5, [.ref 1, .int 0, .int (fJ9_min_7cf53_r p1z 600), .int 0, .int kind0, .int value0, .int place0]), .inl (2, 600, .inl bytes0)]) (by decide) rfl trivial ?_
  obtain ⟨y1z, hy1z, hF⟩ := pz_bd hF
  refine pz_cv (M' := mX5_advance) (rest0 := []) (ci := 5) (q := (RX5, TX5, 7)) okX5_open 12 rfl lkX5_29 cvX5_advance [0, 1] [] (tFX5_advance fu (0 : Int32) (fJ9_min_7cf53_r p1z 600) (0 : Int32) kind0 value0 place0 bytes0 y1z hy1z) (by decide) rfl rfl rfl rfl rfl (by decide) (by decide) (by decide) (Nat.le_of_ble_eq_true rfl) rfl (pz_one (st2 := []) (h2 := [.inr (5, [.ref 1, .int 0, .int (fJ9_min_7cf53_r p1z 600), .int y1z.1, .int y1z.2.1, .int y1z.2.2.1, .int y1z.2.2.2]), .inl (2, 600, .inl bytes0)]) rfl rfl rfl ?_)
  cases hF
  exact pz_rv_ okX5_open 13 rfl rfl hP
set_option maxRecDepth 100000 in
set_option maxHeartbeats 4000000 in
theorem tX5_bytesInAll (held0 : Int32) (length0 : Int32) (next0 : Int32) (kind0 : Int32) (value0 : Int32) (place0 : Int32) : pz_T mX5_bytesInAll 1 0 0 [.ref 0] [.inr (5, [.ref 500, .int held0, .int length0, .int next0, .int kind0, .int value0, .int place0])] (fun r h => r = some (.int length0) ∧ h = [.inr (5, [.ref 500, .int held0, .int length0, .int next0, .int kind0, .int value0, .int place0])]) := by
  refine pz_en2 (by decide +kernel) (Nat.le_of_ble_eq_true rfl) (fun P hP => ?_)
  show pz_W mX5_bytesInAll 1 0 0 1 P 0 [(0, .ref 0)] [] _ 0 0
  refine pz_g okX5_bytesInAll 0 2 (cs := []) (pc' := 4) (ls' := [(0, .ref 0)]) (st' := [.int length0]) (h' := [.inr (5, [.ref 500, .int held0, .int length0, .int next0, .int kind0, .int value0, .int place0])]) (by decide) rfl trivial ?_
  exact pz_ri_ okX5_bytesInAll 2 rfl rfl rfl hP
set_option maxRecDepth 100000 in
set_option maxHeartbeats 4000000 in
theorem tX6_clear (safeTable0 : Int64) (lines0 : Int32) (wheelLines0 : Int32) (gears0 : Int32) (rows0 : Int32) (counted1 : Int32) (written1 : Int32) (counted5 : Int32) (written5 : Int32) : pz_T mX6_clear 2 0 0 [.ref 0] [.inr (6, [.ref 1, .ref 2, .ref 500, .ref 501, .ref 502, .ref 503, .ref 504, .ref 505, .ref 506, .long safeTable0, .int lines0, .int wheelLines0, .int gears0, .int rows0]), .inr (2, [.ref 507, .ref 508, .ref 509, .int counted1, .int written1]), .inr (2, [.ref 510, .ref 511, .ref 512, .int counted5, .int written5])] (fun r h => r = none ∧ h = [.inr (6, [.ref 1, .ref 2, .ref 500, .ref 501, .ref 502, .ref 503, .ref 504, .ref 505, .ref 506, .long (-1), .int 0, .int 0, .int 0, .int 0]), .inr (2, [.ref 507, .ref 508, .ref 509, .int 0, .int 0]), .inr (2, [.ref 510, .ref 511, .ref 512, .int 0, .int 0])]) := by
  refine pz_en2 (by decide +kernel) (Nat.le_of_ble_eq_true rfl) (fun P hP => ?_)
  show pz_W mX6_clear 2 0 0 3 P 0 [(0, .ref 0)] [] _ 0 0
  refine pz_g okX6_clear 0 2 (cs := []) (pc' := 4) (ls' := [(0, .ref 0)]) (st' := [.ref 1]) (h' := [.inr (6, [.ref 1, .ref 2, .ref 500, .ref 501, .ref 502, .ref 503, .ref 504, .ref 505, .ref 506, .long safeTable0, .int lines0, .int wheelLines0, .int gears0, .int rows0]), .inr (2, [.ref 507, .ref 508, .ref 509, .int counted1, .int written1]), .inr (2, [.ref 510, .ref 511, .ref 512, .int counted5, .int written5])]) (by decide) rfl trivial ?_
  refine pz_cv (M' := mX2_clear) (rest0 := []) (ci := 2) (q := (RX2, TX2, 5)) okX6_clear 2 rfl lkX6_50 cvX2_clear [1] [507, 508, 509] (tX2_clear counted1 written1 ) (by decide) rfl rfl rfl rfl rfl (by decide) (by decide) (by decide) (Nat.le_of_ble_eq_true rfl) rfl (pz_one (st2 := []) (h2 := [.inr (6, [.ref 1, .ref 2, .ref 500, .ref 501, .ref 502, .ref 503, .ref 504, .ref 505, .ref 506, .long safeTable0, .int lines0, .int wheelLines0, .int gears0, .int rows0]), .inr (2, [.ref 507, .ref 508, .ref 509, .int 0, .int 0]), .inr (2, [.ref 510, .ref 511, .ref 512, .int counted5, .int written5])]) rfl rfl rfl ?_)
  refine pz_g okX6_clear 3 2 (cs := []) (pc' := 11) (ls' := [(0, .ref 0)]) (st' := [.ref 2]) (h' := [.inr (6, [.ref 1, .ref 2, .ref 500, .ref 501, .ref 502, .ref 503, .ref 504, .ref 505, .ref 506, .long safeTable0, .int lines0, .int wheelLines0, .int gears0, .int rows0]), .inr (2, [.ref 507, .ref 508, .ref 509, .int 0, .int 0]), .inr (2, [.ref 510, .ref 511, .ref 512, .int counted5, .int written5])]) (by decide) rfl trivial ?_
  refine pz_cv (M' := mX2_clear) (rest0 := []) (ci := 2) (q := (RX2, TX2, 5)) okX6_clear 5 rfl lkX6_50 cvX2_clear [2] [510, 511, 512] (tX2_clear counted5 written5 ) (by decide) rfl rfl rfl rfl rfl (by decide) (by decide) (by decide) (Nat.le_of_ble_eq_true rfl) rfl (pz_one (st2 := []) (h2 := [.inr (6, [.ref 1, .ref 2, .ref 500, .ref 501, .ref 502, .ref 503, .ref 504, .ref 505, .ref 506, .long safeTable0, .int lines0, .int wheelLines0, .int gears0, .int rows0]), .inr (2, [.ref 507, .ref 508, .ref 509, .int 0, .int 0]), .inr (2, [.ref 510, .ref 511, .ref 512, .int 0, .int 0])]) rfl rfl rfl ?_)
  refine pz_g okX6_clear 6 15 (cs := []) (pc' := 41) (ls' := [(0, .ref 0)]) (st' := []) (h' := [.inr (6, [.ref 1, .ref 2, .ref 500, .ref 501, .ref 502, .ref 503, .ref 504, .ref 505, .ref 506, .long (-1), .int 0, .int 0, .int 0, .int 0]), .inr (2, [.ref 507, .ref 508, .ref 509, .int 0, .int 0]), .inr (2, [.ref 510, .ref 511, .ref 512, .int 0, .int 0])]) (by decide) rfl trivial ?_
  exact pz_rv_ okX6_clear 21 rfl rfl hP
set_option maxRecDepth 100000 in
set_option maxHeartbeats 4000000 in
theorem tFX6_startWheelLine (fu : Nat) (safeTable0 : Int64) (lines0 : Int32) (wheelLines0 : Int32) (gears0 : Int32) (rows0 : Int32) (counted1 : Int32) (written1 : Int32) (starts0 : Nat → Int32) (middles0 : Nat → Int32) (R : (Nat → Int32) × (Nat → Int32)) (hF : FX6_startWheelLine fu wheelLines0 written1 starts0 middles0 = some R) : pz_T mX6_startWheelLine 1 0 0 [.ref 0] [.inr (6, [.ref 1, .ref 500, .ref 2, .ref 3, .ref 501, .ref 502, .ref 503, .ref 504, .ref 505, .long safeTable0, .int lines0, .int wheelLines0, .int gears0, .int rows0]), .inr (2, [.ref 506, .ref 507, .ref 508, .int counted1, .int written1]), .inl (0, 13, .inl starts0), .inl (0, 12, .inl middles0)] (fun r h => r = none ∧ h = [.inr (6, [.ref 1, .ref 500, .ref 2, .ref 3, .ref 501, .ref 502, .ref 503, .ref 504, .ref 505, .long safeTable0, .int lines0, .int wheelLines0, .int gears0, .int rows0]), .inr (2, [.ref 506, .ref 507, .ref 508, .int counted1, .int written1]), .inl (0, 13, .inl R.1), .inl (0, 12, .inl R.2)]) := by
  refine pz_en2 (by decide +kernel) (Nat.le_of_ble_eq_true rfl) (fun P hP => ?_)
  show pz_W mX6_startWheelLine 1 0 0 4 P 0 [(0, .ref 0)] [] _ 0 0
  rw [FX6_startWheelLine] at hF
  refine pz_g okX6_startWheelLine 0 3 (cs := []) (pc' := 6) (ls' := [(0, .ref 0)]) (st' := [.int 12, .int wheelLines0]) (h' := [.inr (6, [.ref 1, .ref 500, .ref 2, .ref 3, .ref 501, .ref 502, .ref 503, .ref 504, .ref 505, .long safeTable0, .int lines0, .int wheelLines0, .int gears0, .int rows0]), .inr (2, [.ref 506, .ref 507, .ref 508, .int counted1, .int written1]), .inl (0, 13, .inl starts0), .inl (0, 12, .inl middles0)]) (by decide) rfl trivial ?_
  refine pz_if okX6_startWheelLine 3 (r := []) (c := 12 ≤ wheelLines0) (t := 41) (f := 9) rfl rfl (fun c1 => ?_) (fun c1 => ?_)
  · replace hF := pz_ip c1 hF
    cases hF
    exact pz_rv_ okX6_startWheelLine 20 rfl rfl hP
  · replace hF := pz_ne c1 hF
    obtain ⟨g2, hF⟩ := pz_gd hF
    obtain ⟨g3, hF⟩ := pz_gd hF
    refine pz_g okX6_startWheelLine 4 16 (cs := [vp_in wheelLines0 13, vp_in wheelLines0 12]) (pc' := 41) (ls' := [(0, .ref 0)]) (st' := []) (h' := [.inr (6, [.ref 1, .ref 500, .ref 2, .ref 3, .ref 501, .ref 502, .ref 503, .ref 504, .ref 505, .long safeTable0, .int lines0, .int wheelLines0, .int gears0, .int rows0]), .inr (2, [.ref 506, .ref 507, .ref 508, .int counted1, .int written1]), .inl (0, 13, .inl (upd starts0 wheelLines0.toNatClampNeg written1)), .inl (0, 12, .inl (upd middles0 wheelLines0.toNatClampNeg written1))]) (by decide) rfl (pz_ac (pz_inb_ok g2) (pz_ac (pz_inb_ok g3) trivial)) ?_
    cases hF
    exact pz_rv_ okX6_startWheelLine 20 rfl rfl hP
set_option maxRecDepth 100000 in
set_option maxHeartbeats 4000000 in
theorem tFX6_endIf (fu : Nat) (safeTable0 : Int64) (lines0 : Int32) (wheelLines0 : Int32) (gears0 : Int32) (rows0 : Int32) (counted1 : Int32) (written1 : Int32) (middles0 : Nat → Int32) (R : (Nat → Int32)) (hF : FX6_endIf fu wheelLines0 written1 middles0 = some R) : pz_T mX6_endIf 1 0 0 [.ref 0] [.inr (6, [.ref 1, .ref 500, .ref 501, .ref 2, .ref 502, .ref 503, .ref 504, .ref 505, .ref 506, .long safeTable0, .int lines0, .int wheelLines0, .int gears0, .int rows0]), .inr (2, [.ref 507, .ref 508, .ref 509, .int counted1, .int written1]), .inl (0, 12, .inl middles0)] (fun r h => r = none ∧ h = [.inr (6, [.ref 1, .ref 500, .ref 501, .ref 2, .ref 502, .ref 503, .ref 504, .ref 505, .ref 506, .long safeTable0, .int lines0, .int wheelLines0, .int gears0, .int rows0]), .inr (2, [.ref 507, .ref 508, .ref 509, .int counted1, .int written1]), .inl (0, 12, .inl R)]) := by
  refine pz_en2 (by decide +kernel) (Nat.le_of_ble_eq_true rfl) (fun P hP => ?_)
  show pz_W mX6_endIf 1 0 0 3 P 0 [(0, .ref 0)] [] _ 0 0
  rw [FX6_endIf] at hF
  refine pz_g okX6_endIf 0 3 (cs := []) (pc' := 6) (ls' := [(0, .ref 0)]) (st' := [.int 12, .int wheelLines0]) (h' := [.inr (6, [.ref 1, .ref 500, .ref 501, .ref 2, .ref 502, .ref 503, .ref 504, .ref 505, .ref 506, .long safeTable0, .int lines0, .int wheelLines0, .int gears0, .int rows0]), .inr (2, [.ref 507, .ref 508, .ref 509, .int counted1, .int written1]), .inl (0, 12, .inl middles0)]) (by decide) rfl trivial ?_
  refine pz_if okX6_endIf 3 (r := []) (c := 12 ≤ wheelLines0) (t := 25) (f := 9) rfl rfl (fun c1 => ?_) (fun c1 => ?_)
  · replace hF := pz_ip c1 hF
    cases hF
    exact pz_rv_ okX6_endIf 12 rfl rfl hP
  · replace hF := pz_ne c1 hF
    obtain ⟨g2, hF⟩ := pz_gd hF
    refine pz_g okX6_endIf 4 8 (cs := [vp_in wheelLines0 12]) (pc' := 25) (ls' := [(0, .ref 0)]) (st' := []) (h' := [.inr (6, [.ref 1, .ref 500, .ref 501, .ref 2, .ref 502, .ref 503, .ref 504, .ref 505, .ref 506, .long safeTable0, .int lines0, .int wheelLines0, .int gears0, .int rows0]), .inr (2, [.ref 507, .ref 508, .ref 509, .int counted1, .int written1]), .inl (0, 12, .inl (upd middles0 wheelLines0.toNatClampNeg written1))]) (by decide) rfl (pz_ac (pz_inb_ok g2) trivial) ?_
    cases hF
    exact pz_rv_ okX6_endIf 12 rfl rfl hP
set_option maxRecDepth 100000 in
set_option maxHeartbeats 4000000 in
theorem tFX6_endWheelLine (fu : Nat) (safeTable0 : Int64) (lines0 : Int32) (wheelLines0 : Int32) (gears0 : Int32) (rows0 : Int32) (counted1 : Int32) (written1 : Int32) (starts0 : Nat → Int32) (R : Int32 × (Nat → Int32)) (hF : FX6_endWheelLine fu wheelLines0 written1 starts0 = some R) : pz_T mX6_endWheelLine 1 0 0 [.ref 0] [.inr (6, [.ref 1, .ref 500, .ref 2, .ref 501, .ref 502, .ref 503, .ref 504, .ref 505, .ref 506, .long safeTable0, .int lines0, .int wheelLines0, .int gears0, .int rows0]), .inr (2, [.ref 507, .ref 508, .ref 509, .int counted1, .int written1]), .inl (0, 13, .inl starts0)] (fun r h => r = none ∧ h = [.inr (6, [.ref 1, .ref 500, .ref 2, .ref 501, .ref 502, .ref 503, .ref 504, .ref 505, .ref 506, .long safeTable0, .int lines0, .int R.1, .int gears0, .int rows0]), .inr (2, [.ref 507, .ref 508, .ref 509, .int counted1, .int written1]), .inl (0, 13, .inl R.2)]) := by
  refine pz_en2 (by decide +kernel) (Nat.le_of_ble_eq_true rfl) (fun P hP => ?_)
  show pz_W mX6_endWheelLine 1 0 0 3 P 0 [(0, .ref 0)] [] _ 0 0
  rw [FX6_endWheelLine] at hF
  refine pz_g okX6_endWheelLine 0 3 (cs := []) (pc' := 6) (ls' := [(0, .ref 0)]) (st' := [.int 12, .int wheelLines0]) (h' := [.inr (6, [.ref 1, .ref 500, .ref 2, .ref 501, .ref 502, .ref 503, .ref 504, .ref 505, .ref 506, .long safeTable0, .int lines0, .int wheelLines0, .int gears0, .int rows0]), .inr (2, [.ref 507, .ref 508, .ref 509, .int counted1, .int written1]), .inl (0, 13, .inl starts0)]) (by decide) rfl trivial ?_
  refine pz_if okX6_endWheelLine 3 (r := []) (c := 12 ≤ wheelLines0) (t := 35) (f := 9) rfl rfl (fun c1 => ?_) (fun c1 => ?_)
  · replace hF := pz_ip c1 hF
    cases hF
    exact pz_rv_ okX6_endWheelLine 18 rfl rfl hP
  · replace hF := pz_ne c1 hF
    obtain ⟨g2, hF⟩ := pz_gd hF
    refine pz_g okX6_endWheelLine 4 14 (cs := [vp_in (wheelLines0 + 1) 13]) (pc' := 35) (ls' := [(0, .ref 0)]) (st' := []) (h' := [.inr (6, [.ref 1, .ref 500, .ref 2, .ref 501, .ref 502, .ref 503, .ref 504, .ref 505, .ref 506, .long safeTable0, .int lines0, .int (wheelLines0 + 1), .int gears0, .int rows0]), .inr (2, [.ref 507, .ref 508, .ref 509, .int counted1, .int written1]), .inl (0, 13, .inl (upd starts0 (wheelLines0 + 1).toNatClampNeg written1))]) (by decide) rfl (pz_ac (pz_inb_ok g2) trivial) ?_
    cases hF
    exact pz_rv_ okX6_endWheelLine 18 rfl rfl hP
set_option maxRecDepth 100000 in
set_option maxHeartbeats 4000000 in
theorem tFX6_addGear (fu : Nat) (p1z : Int32) (safeTable0 : Int64) (lines0 : Int32) (wheelLines0 : Int32) (gears0 : Int32) (rows0 : Int32) (names0 : Nat → Int32) (mayTables0 : Nat → Int64) (R : Int32 × (Nat → Int32) × (Nat → Int64)) (hF : FX6_addGear fu p1z gears0 names0 mayTables0 = some R) : pz_T mX6_addGear 1 0 0 [.ref 0, .int p1z] [.inr (6, [.ref 500, .ref 501, .ref 502, .ref 503, .ref 1, .ref 2, .ref 504, .ref 505, .ref 506, .long safeTable0, .int lines0, .int wheelLines0, .int gears0, .int rows0]), .inl (0, 6, .inl names0), .inl (1, 6, .inr (.inl mayTables0))] (fun r h => r = none ∧ h = [.inr (6, [.ref 500, .ref 501, .ref 502, .ref 503, .ref 1, .ref 2, .ref 504, .ref 505, .ref 506, .long safeTable0, .int lines0, .int wheelLines0, .int R.1, .int rows0]), .inl (0, 6, .inl R.2.1), .inl (1, 6, .inr (.inl R.2.2))]) := by
  refine pz_en2 (by decide +kernel) (Nat.le_of_ble_eq_true rfl) (fun P hP => ?_)
  show pz_W mX6_addGear 1 0 0 3 P 0 [(0, .ref 0), (1, .int p1z)] [] _ 0 0
  rw [FX6_addGear] at hF
  refine pz_g okX6_addGear 0 3 (cs := []) (pc' := 6) (ls' := [(0, .ref 0), (1, .int p1z)]) (st' := [.int 6, .int gears0]) (h' := [.inr (6, [.ref 500, .ref 501, .ref 502, .ref 503, .ref 1, .ref 2, .ref 504, .ref 505, .ref 506, .long safeTable0, .int lines0, .int wheelLines0, .int gears0, .int rows0]), .inl (0, 6, .inl names0), .inl (1, 6, .inr (.inl mayTables0))]) (by decide) rfl trivial ?_
  refine pz_if okX6_addGear 3 (r := []) (c := 6 ≤ gears0) (t := 41) (f := 9) rfl rfl (fun c1 => ?_) (fun c1 => ?_)
  · replace hF := pz_ip c1 hF
    cases hF
    exact pz_rv_ okX6_addGear 22 rfl rfl hP
  · replace hF := pz_ne c1 hF
    obtain ⟨g2, hF⟩ := pz_gd hF
    obtain ⟨g3, hF⟩ := pz_gd hF
    refine pz_g okX6_addGear 4 18 (cs := [vp_in gears0 6, vp_in gears0 6]) (pc' := 41) (ls' := [(0, .ref 0), (1, .int p1z)]) (st' := []) (h' := [.inr (6, [.ref 500, .ref 501, .ref 502, .ref 503, .ref 1, .ref 2, .ref 504, .ref 505, .ref 506, .long safeTable0, .int lines0, .int wheelLines0, .int (gears0 + 1), .int rows0]), .inl (0, 6, .inl (upd names0 gears0.toNatClampNeg p1z)), .inl (1, 6, .inr (.inl (vp_updL mayTables0 gears0.toNatClampNeg (-1))))]) (by decide) rfl (pz_ac (pz_inb_ok g2) (pz_ac (pz_inb_ok g3) trivial)) ?_
    cases hF
    exact pz_rv_ okX6_addGear 22 rfl rfl hP
set_option maxRecDepth 100000 in
set_option maxHeartbeats 4000000 in
theorem tFX6_addRow (fu : Nat) (p1z : Int32) (safeTable0 : Int64) (lines0 : Int32) (wheelLines0 : Int32) (gears0 : Int32) (rows0 : Int32) (rowSteps0 : Nat → Int32) (rowLengths0 : Nat → Int32) (R : Int32 × (Nat → Int32) × (Nat → Int32)) (hF : FX6_addRow fu p1z rows0 rowSteps0 rowLengths0 = some R) : pz_T mX6_addRow 1 0 0 [.ref 0, .int p1z] [.inr (6, [.ref 500, .ref 501, .ref 502, .ref 503, .ref 504, .ref 505, .ref 1, .ref 2, .ref 506, .long safeTable0, .int lines0, .int wheelLines0, .int gears0, .int rows0]), .inl (0, 6, .inl rowSteps0), .inl (0, 6, .inl rowLengths0)] (fun r h => r = none ∧ h = [.inr (6, [.ref 500, .ref 501, .ref 502, .ref 503, .ref 504, .ref 505, .ref 1, .ref 2, .ref 506, .long safeTable0, .int lines0, .int wheelLines0, .int gears0, .int R.1]), .inl (0, 6, .inl R.2.1), .inl (0, 6, .inl R.2.2)]) := by
  refine pz_en2 (by decide +kernel) (Nat.le_of_ble_eq_true rfl) (fun P hP => ?_)
  show pz_W mX6_addRow 1 0 0 3 P 0 [(0, .ref 0), (1, .int p1z)] [] _ 0 0
  rw [FX6_addRow] at hF
  refine pz_g okX6_addRow 0 3 (cs := []) (pc' := 6) (ls' := [(0, .ref 0), (1, .int p1z)]) (st' := [.int 6, .int rows0]) (h' := [.inr (6, [.ref 500, .ref 501, .ref 502, .ref 503, .ref 504, .ref 505, .ref 1, .ref 2, .ref 506, .long safeTable0, .int lines0, .int wheelLines0, .int gears0, .int rows0]), .inl (0, 6, .inl rowSteps0), .inl (0, 6, .inl rowLengths0)]) (by decide) rfl trivial ?_
  refine pz_if okX6_addRow 3 (r := []) (c := 6 ≤ rows0) (t := 39) (f := 9) rfl rfl (fun c1 => ?_) (fun c1 => ?_)
  · replace hF := pz_ip c1 hF
    cases hF
    exact pz_rv_ okX6_addRow 22 rfl rfl hP
  · replace hF := pz_ne c1 hF
    obtain ⟨g2, hF⟩ := pz_gd hF
    obtain ⟨g3, hF⟩ := pz_gd hF
    refine pz_g okX6_addRow 4 18 (cs := [vp_in rows0 6, vp_in rows0 6]) (pc' := 39) (ls' := [(0, .ref 0), (1, .int p1z)]) (st' := []) (h' := [.inr (6, [.ref 500, .ref 501, .ref 502, .ref 503, .ref 504, .ref 505, .ref 1, .ref 2, .ref 506, .long safeTable0, .int lines0, .int wheelLines0, .int gears0, .int (rows0 + 1)]), .inl (0, 6, .inl (upd rowSteps0 rows0.toNatClampNeg p1z)), .inl (0, 6, .inl (upd rowLengths0 rows0.toNatClampNeg 0))]) (by decide) rfl (pz_ac (pz_inb_ok g2) (pz_ac (pz_inb_ok g3) trivial)) ?_
    cases hF
    exact pz_rv_ okX6_addRow 22 rfl rfl hP
set_option maxRecDepth 100000 in
set_option maxHeartbeats 4000000 in
theorem tFX6_latestLength (fu : Nat) (safeTable0 : Int64) (lines0 : Int32) (wheelLines0 : Int32) (gears0 : Int32) (rows0 : Int32) (rowLengths0 : Nat → Int32) (R : Int32) (hF : FX6_latestLength fu rows0 rowLengths0 = some R) : pz_T mX6_latestLength 1 0 0 [.ref 0] [.inr (6, [.ref 500, .ref 501, .ref 502, .ref 503, .ref 504, .ref 505, .ref 506, .ref 1, .ref 507, .long safeTable0, .int lines0, .int wheelLines0, .int gears0, .int rows0]), .inl (0, 6, .inl rowLengths0)] (fun r h => r = some (.int R) ∧ h = [.inr (6, [.ref 500, .ref 501, .ref 502, .ref 503, .ref 504, .ref 505, .ref 506, .ref 1, .ref 507, .long safeTable0, .int lines0, .int wheelLines0, .int gears0, .int rows0]), .inl (0, 6, .inl rowLengths0)]) := by
  refine pz_en2 (by decide +kernel) (Nat.le_of_ble_eq_true rfl) (fun P hP => ?_)
  show pz_W mX6_latestLength 1 0 0 2 P 0 [(0, .ref 0)] [] _ 0 0
  rw [FX6_latestLength] at hF
  refine pz_g okX6_latestLength 0 2 (cs := []) (pc' := 4) (ls' := [(0, .ref 0)]) (st' := [.int rows0]) (h' := [.inr (6, [.ref 500, .ref 501, .ref 502, .ref 503, .ref 504, .ref 505, .ref 506, .ref 1, .ref 507, .long safeTable0, .int lines0, .int wheelLines0, .int gears0, .int rows0]), .inl (0, 6, .inl rowLengths0)]) (by decide) rfl trivial ?_
  refine pz_if okX6_latestLength 2 (r := []) (c := rows0 ≤ 0) (t := 21) (f := 7) rfl rfl (fun c1 => ?_) (fun c1 => ?_)
  · replace hF := pz_ip c1 hF
    refine pz_g okX6_latestLength 11 1 (cs := []) (pc' := 22) (ls' := [(0, .ref 0)]) (st' := [.int 0]) (h' := [.inr (6, [.ref 500, .ref 501, .ref 502, .ref 503, .ref 504, .ref 505, .ref 506, .ref 1, .ref 507, .long safeTable0, .int lines0, .int wheelLines0, .int gears0, .int rows0]), .inl (0, 6, .inl rowLengths0)]) (by decide) rfl trivial ?_
    cases hF
    exact pz_ri_ okX6_latestLength 12 rfl rfl rfl hP
  · replace hF := pz_ne c1 hF
    obtain ⟨g2, hF⟩ := pz_gd hF
    refine pz_g okX6_latestLength 3 7 (cs := [vp_in (rows0 - 1) 6]) (pc' := 18) (ls' := [(0, .ref 0)]) (st' := [.int (rowLengths0 (rows0 - 1).toNatClampNeg)]) (h' := [.inr (6, [.ref 500, .ref 501, .ref 502, .ref 503, .ref 504, .ref 505, .ref 506, .ref 1, .ref 507, .long safeTable0, .int lines0, .int wheelLines0, .int gears0, .int rows0]), .inl (0, 6, .inl rowLengths0)]) (by decide) rfl (pz_ac (pz_inb_ok g2) trivial) ?_
    refine pz_j okX6_latestLength 10 (t := 22) rfl rfl ?_
    cases hF
    exact pz_ri_ okX6_latestLength 12 rfl rfl rfl hP
set_option maxRecDepth 100000 in
set_option maxHeartbeats 4000000 in
theorem tFX6_addRowOrder (fu : Nat) (p1z : Int32) (safeTable0 : Int64) (lines0 : Int32) (wheelLines0 : Int32) (gears0 : Int32) (rows0 : Int32) (rowLengths0 : Nat → Int32) (rowOrders0 : Nat → Int32) (R : (Nat → Int32) × (Nat → Int32)) (hF : FX6_addRowOrder fu p1z rows0 rowLengths0 rowOrders0 = some R) : pz_T mX6_addRowOrder 1 0 0 [.ref 0, .int p1z] [.inr (6, [.ref 500, .ref 501, .ref 502, .ref 503, .ref 504, .ref 505, .ref 506, .ref 1, .ref 2, .long safeTable0, .int lines0, .int wheelLines0, .int gears0, .int rows0]), .inl (0, 6, .inl rowLengths0), .inl (0, 72, .inl rowOrders0)] (fun r h => r = none ∧ h = [.inr (6, [.ref 500, .ref 501, .ref 502, .ref 503, .ref 504, .ref 505, .ref 506, .ref 1, .ref 2, .long safeTable0, .int lines0, .int wheelLines0, .int gears0, .int rows0]), .inl (0, 6, .inl R.1), .inl (0, 72, .inl R.2)]) := by
  refine pz_en2 (by decide +kernel) (Nat.le_of_ble_eq_true rfl) (fun P hP => ?_)
  show pz_W mX6_addRowOrder 1 0 0 3 P 0 [(0, .ref 0), (1, .int p1z)] [] _ 0 0
  rw [FX6_addRowOrder] at hF
  refine pz_g okX6_addRowOrder 0 6 (cs := []) (pc' := 8) (ls' := [(0, .ref 0), (1, .int p1z), (2, .int (rows0 - 1))]) (st' := [.int (rows0 - 1)]) (h' := [.inr (6, [.ref 500, .ref 501, .ref 502, .ref 503, .ref 504, .ref 505, .ref 506, .ref 1, .ref 2, .long safeTable0, .int lines0, .int wheelLines0, .int gears0, .int rows0]), .inl (0, 6, .inl rowLengths0), .inl (0, 72, .inl rowOrders0)]) (by decide) rfl trivial ?_
  refine pz_if okX6_addRowOrder 6 (r := []) (c := (rows0 - 1) < 0) (t := 49) (f := 11) rfl rfl (fun c1 => ?_) (fun c1 => ?_)
  · replace hF := pz_ip c1 hF
    cases hF
    exact pz_rv_ okX6_addRowOrder 33 rfl rfl hP
  · replace hF := pz_ne c1 hF
    obtain ⟨g2, hF⟩ := pz_gd hF
    refine pz_g okX6_addRowOrder 7 5 (cs := [vp_in (rows0 - 1) 6]) (pc' := 19) (ls' := [(0, .ref 0), (1, .int p1z), (2, .int (rows0 - 1))]) (st' := [.int 12, .int (rowLengths0 (rows0 - 1).toNatClampNeg)]) (h' := [.inr (6, [.ref 500, .ref 501, .ref 502, .ref 503, .ref 504, .ref 505, .ref 506, .ref 1, .ref 2, .long safeTable0, .int lines0, .int wheelLines0, .int gears0, .int rows0]), .inl (0, 6, .inl rowLengths0), .inl (0, 72, .inl rowOrders0)]) (by decide) rfl (pz_ac (pz_inb_ok g2) trivial) ?_
    refine pz_if okX6_addRowOrder 12 (r := []) (c := 12 ≤ (rowLengths0 (rows0 - 1).toNatClampNeg)) (t := 49) (f := 22) rfl rfl (fun c3 => ?_) (fun c3 => ?_)
    · replace hF := pz_ip c3 hF
      cases hF
      exact pz_rv_ okX6_addRowOrder 33 rfl rfl hP
    · replace hF := pz_ne c3 hF
      obtain ⟨g4, hF⟩ := pz_gd hF
      obtain ⟨g5, hF⟩ := pz_gd hF
      obtain ⟨g6, hF⟩ := pz_gd hF
      obtain ⟨g7, hF⟩ := pz_gd hF
      refine pz_g okX6_addRowOrder 13 20 (cs := [vp_in (rows0 - 1) 6, vp_in (((rows0 - 1) * 12) + (rowLengths0 (rows0 - 1).toNatClampNeg)) 72, vp_in (rows0 - 1) 6, vp_in (rows0 - 1) 6]) (pc' := 49) (ls' := [(0, .ref 0), (1, .int p1z), (2, .int (rows0 - 1))]) (st' := []) (h' := [.inr (6, [.ref 500, .ref 501, .ref 502, .ref 503, .ref 504, .ref 505, .ref 506, .ref 1, .ref 2, .long safeTable0, .int lines0, .int wheelLines0, .int gears0, .int rows0]), .inl (0, 6, .inl (upd rowLengths0 (rows0 - 1).toNatClampNeg ((rowLengths0 (rows0 - 1).toNatClampNeg) + 1))), .inl (0, 72, .inl (upd rowOrders0 (((rows0 - 1) * 12) + (rowLengths0 (rows0 - 1).toNatClampNeg)).toNatClampNeg p1z))]) (by decide) rfl (pz_ac (pz_inb_ok g4) (pz_ac (pz_inb_ok g5) (pz_ac (pz_inb_ok g6) (pz_ac (pz_inb_ok g7) trivial)))) ?_
      cases hF
      exact pz_rv_ okX6_addRowOrder 33 rfl rfl hP
set_option maxRecDepth 100000 in
set_option maxHeartbeats 4000000 in
theorem tFX7_open (fu : Nat) (p1z : Int32) (ofGears0 : Int32) (waitings0 : Int32) (opened0 : Int32) (phase0 : Int32) (hasSafe0 : Int32) (fault0 : Int32) (faultPlace0 : Int32) (held1 : Int32) (length1 : Int32) (next1 : Int32) (kind1 : Int32) (value1 : Int32) (place1 : Int32) (bytes1 : Nat → Int32) (safeTable6 : Int64) (lines6 : Int32) (wheelLines6 : Int32) (gears6 : Int32) (rows6 : Int32) (counted7 : Int32) (written7 : Int32) (counted11 : Int32) (written11 : Int32) (R : Int32 × Int32 × Int32 × Int32 × Int32 × Int32 × Int32 × Int32 × Int32 × Int64 × Int32 × Int32 × Int32 × Int32 × Int32 × Int32 × Int32 × Int32) (hF : FX7_open fu p1z kind1 value1 place1 bytes1 = some R) : pz_T mX7_open 5 0 0 [.ref 0, .int p1z] [.inr (7, [.ref 1, .ref 500, .ref 501, .ref 502, .ref 3, .ref 503, .int ofGears0, .int waitings0, .int opened0, .int phase0, .int hasSafe0, .int fault0, .int faultPlace0]), .inr (5, [.ref 2, .int held1, .int length1, .int next1, .int kind1, .int value1, .int place1]), .inl (2, 600, .inl bytes1), .inr (6, [.ref 4, .ref 5, .ref 504, .ref 505, .ref 506, .ref 507, .ref 508, .ref 509, .ref 510, .long safeTable6, .int lines6, .int wheelLines6, .int gears6, .int rows6]), .inr (2, [.ref 511, .ref 512, .ref 513, .int counted7, .int written7]), .inr (2, [.ref 514, .ref 515, .ref 516, .int counted11, .int written11])] (fun r h => r = none ∧ h = [.inr (7, [.ref 1, .ref 500, .ref 501, .ref 502, .ref 3, .ref 503, .int ofGears0, .int waitings0, .int opened0, .int phase0, .int R.1, .int R.2.1, .int R.2.2.1]), .inr (5, [.ref 2, .int R.2.2.2.1, .int R.2.2.2.2.1, .int R.2.2.2.2.2.1, .int R.2.2.2.2.2.2.1, .int R.2.2.2.2.2.2.2.1, .int R.2.2.2.2.2.2.2.2.1]), .inl (2, 600, .inl bytes1), .inr (6, [.ref 4, .ref 5, .ref 504, .ref 505, .ref 506, .ref 507, .ref 508, .ref 509, .ref 510, .long R.2.2.2.2.2.2.2.2.2.1, .int R.2.2.2.2.2.2.2.2.2.2.1, .int R.2.2.2.2.2.2.2.2.2.2.2.1, .int R.2.2.2.2.2.2.2.2.2.2.2.2.1, .int R.2.2.2.2.2.2.2.2.2.2.2.2.2.1]), .inr (2, [.ref 511, .ref 512, .ref 513, .int R.2.2.2.2.2.2.2.2.2.2.2.2.2.2.1, .int R.2.2.2.2.2.2.2.2.2.2.2.2.2.2.2.1]), .inr (2, [.ref 514, .ref 515, .ref 516, .int R.2.2.2.2.2.2.2.2.2.2.2.2.2.2.2.2.1, .int R.2.2.2.2.2.2.2.2.2.2.2.2.2.2.2.2.2])]) := by
  refine pz_en2 (by decide +kernel) (Nat.le_of_ble_eq_true rfl) (fun P hP => ?_)
  show pz_W mX7_open 5 0 0 6 P 0 [(0, .ref 0), (1, .int p1z)] [] _ 0 0
  rw [FX7_open] at hF
  refine pz_g okX7_open 0 2 (cs := []) (pc' := 4) (ls' := [(0, .ref 0), (1, .int p1z)]) (st' := [.ref 3]) (h' := [.inr (7, [.ref 1, .ref 500, .ref 501, .ref 502, .ref 3, .ref 503, .int ofGears0, .int waitings0, .int opened0, .int phase0, .int hasSafe0, .int fault0, .int faultPlace0]), .inr (5, [.ref 2, .int held1, .int length1, .int next1, .int kind1, .int value1, .int place1]), .inl (2, 600, .inl bytes1), .inr (6, [.ref 4, .ref 5, .ref 504, .ref 505, .ref 506, .ref 507, .ref 508, .ref 509, .ref 510, .long safeTable6, .int lines6, .int wheelLines6, .int gears6, .int rows6]), .inr (2, [.ref 511, .ref 512, .ref 513, .int counted7, .int written7]), .inr (2, [.ref 514, .ref 515, .ref 516, .int counted11, .int written11])]) (by decide) rfl trivial ?_
  refine pz_cv (M' := mX6_clear) (rest0 := []) (ci := 6) (q := (RX6, TX6, 14)) okX7_open 2 rfl lkX7_48 cvX6_clear [3, 4, 5] [504, 505, 506, 507, 508, 509, 510, 511, 512, 513, 514, 515, 516] (tX6_clear safeTable6 lines6 wheelLines6 gears6 rows6 counted7 written7 counted11 written11) (by decide) rfl rfl rfl rfl rfl (by decide) (by decide) (by decide) (Nat.le_of_ble_eq_true rfl) rfl (pz_one (st2 := []) (h2 := [.inr (7, [.ref 1, .ref 500, .ref 501, .ref 502, .ref 3, .ref 503, .int ofGears0, .int waitings0, .int opened0, .int phase0, .int hasSafe0, .int fault0, .int faultPlace0]), .inr (5, [.ref 2, .int held1, .int length1, .int next1, .int kind1, .int value1, .int place1]), .inl (2, 600, .inl bytes1), .inr (6, [.ref 4, .ref 5, .ref 504, .ref 505, .ref 506, .ref 507, .ref 508, .ref 509, .ref 510, .long (-1), .int 0, .int 0, .int 0, .int 0]), .inr (2, [.ref 511, .ref 512, .ref 513, .int 0, .int 0]), .inr (2, [.ref 514, .ref 515, .ref 516, .int 0, .int 0])]) rfl rfl rfl ?_)
  refine pz_g okX7_open 3 12 (cs := [0 = 0 ∨ 0 = 1]) (pc' := 27) (ls' := [(0, .ref 0), (1, .int p1z)]) (st' := [.int p1z, .ref 1]) (h' := [.inr (7, [.ref 1, .ref 500, .ref 501, .ref 502, .ref 3, .ref 503, .int ofGears0, .int waitings0, .int opened0, .int phase0, .int 0, .int 0, .int (-1)]), .inr (5, [.ref 2, .int held1, .int length1, .int next1, .int kind1, .int value1, .int place1]), .inl (2, 600, .inl bytes1), .inr (6, [.ref 4, .ref 5, .ref 504, .ref 505, .ref 506, .ref 507, .ref 508, .ref 509, .ref 510, .long (-1), .int 0, .int 0, .int 0, .int 0]), .inr (2, [.ref 511, .ref 512, .ref 513, .int 0, .int 0]), .inr (2, [.ref 514, .ref 515, .ref 516, .int 0, .int 0])]) (by decide) rfl (pz_ac (by first | (unfold vp_in; decide) | decide) trivial) ?_
  obtain ⟨⟨y1zq0, y1zq1, y1zq2, y1zq3, y1zq4, y1zq5⟩, hy1z, hF⟩ := pz_bd hF
  try dsimp only at hF
  refine pz_cv (M' := mX5_open) (rest0 := []) (ci := 5) (q := (RX5, TX5, 7)) okX7_open 15 rfl lkX7_58 cvX5_open [1, 2] [] (tFX5_open fu p1z held1 length1 next1 kind1 value1 place1 bytes1 (y1zq0, y1zq1, y1zq2, y1zq3, y1zq4, y1zq5) hy1z) (by decide) rfl rfl rfl rfl rfl (by decide) (by decide) (by decide) (Nat.le_of_ble_eq_true rfl) rfl (pz_one (st2 := []) (h2 := [.inr (7, [.ref 1, .ref 500, .ref 501, .ref 502, .ref 3, .ref 503, .int ofGears0, .int waitings0, .int opened0, .int phase0, .int 0, .int 0, .int (-1)]), .inr (5, [.ref 2, .int y1zq0, .int y1zq1, .int y1zq2, .int y1zq3, .int y1zq4, .int y1zq5]), .inl (2, 600, .inl bytes1), .inr (6, [.ref 4, .ref 5, .ref 504, .ref 505, .ref 506, .ref 507, .ref 508, .ref 509, .ref 510, .long (-1), .int 0, .int 0, .int 0, .int 0]), .inr (2, [.ref 511, .ref 512, .ref 513, .int 0, .int 0]), .inr (2, [.ref 514, .ref 515, .ref 516, .int 0, .int 0])]) rfl rfl rfl ?_)
  cases hF
  exact pz_rv_ okX7_open 16 rfl rfl hP
set_option maxRecDepth 100000 in
set_option maxHeartbeats 4000000 in
theorem tX7_atEnd (ofGears0 : Int32) (waitings0 : Int32) (opened0 : Int32) (phase0 : Int32) (hasSafe0 : Int32) (fault0 : Int32) (faultPlace0 : Int32) (held1 : Int32) (length1 : Int32) (next1 : Int32) (kind1 : Int32) (value1 : Int32) (place1 : Int32) : pz_T mX7_atEnd 1 0 0 [.ref 0] [.inr (7, [.ref 1, .ref 500, .ref 501, .ref 502, .ref 503, .ref 504, .int ofGears0, .int waitings0, .int opened0, .int phase0, .int hasSafe0, .int fault0, .int faultPlace0]), .inr (5, [.ref 505, .int held1, .int length1, .int next1, .int kind1, .int value1, .int place1])] (fun r h => r = some (.int (fX7_atEnd_r kind1)) ∧ h = [.inr (7, [.ref 1, .ref 500, .ref 501, .ref 502, .ref 503, .ref 504, .int ofGears0, .int waitings0, .int opened0, .int phase0, .int hasSafe0, .int fault0, .int faultPlace0]), .inr (5, [.ref 505, .int held1, .int length1, .int next1, .int kind1, .int value1, .int place1])]) := by
  refine pz_en2 (by decide +kernel) (Nat.le_of_ble_eq_true rfl) (fun P hP => ?_)
  show pz_W mX7_atEnd 1 0 0 2 P 0 [(0, .ref 0)] [] _ 0 0
  refine pz_g okX7_atEnd 0 3 (cs := []) (pc' := 7) (ls' := [(0, .ref 0)]) (st' := [.int kind1]) (h' := [.inr (7, [.ref 1, .ref 500, .ref 501, .ref 502, .ref 503, .ref 504, .int ofGears0, .int waitings0, .int opened0, .int phase0, .int hasSafe0, .int fault0, .int faultPlace0]), .inr (5, [.ref 505, .int held1, .int length1, .int next1, .int kind1, .int value1, .int place1])]) (by decide) rfl trivial ?_
  refine pz_if okX7_atEnd 3 (r := []) (c := ¬ kind1 = 0) (t := 14) (f := 10) rfl rfl (fun c1 => ?_) (fun c1 => ?_)
  · refine pz_g okX7_atEnd 6 1 (cs := []) (pc' := 15) (ls' := [(0, .ref 0)]) (st' := [.int 0]) (h' := [.inr (7, [.ref 1, .ref 500, .ref 501, .ref 502, .ref 503, .ref 504, .int ofGears0, .int waitings0, .int opened0, .int phase0, .int hasSafe0, .int fault0, .int faultPlace0]), .inr (5, [.ref 505, .int held1, .int length1, .int next1, .int kind1, .int value1, .int place1])]) (by decide) rfl trivial ?_
    exact pz_ri_ okX7_atEnd 7 rfl rfl (by decide) (by first | exact hP | simpa only [fX7_atEnd_r, if_pos c1] using hP)
  · refine pz_g okX7_atEnd 4 1 (cs := []) (pc' := 11) (ls' := [(0, .ref 0)]) (st' := [.int 1]) (h' := [.inr (7, [.ref 1, .ref 500, .ref 501, .ref 502, .ref 503, .ref 504, .int ofGears0, .int waitings0, .int opened0, .int phase0, .int hasSafe0, .int fault0, .int faultPlace0]), .inr (5, [.ref 505, .int held1, .int length1, .int next1, .int kind1, .int value1, .int place1])]) (by decide) rfl trivial ?_
    refine pz_j okX7_atEnd 5 (t := 15) rfl rfl ?_
    exact pz_ri_ okX7_atEnd 7 rfl rfl (by decide) (by first | exact hP | simpa only [fX7_atEnd_r, if_neg c1] using hP)
set_option maxRecDepth 100000 in
set_option maxHeartbeats 4000000 in
theorem uFX7_close_L (fu : Nat) (ofGears0 : Int32) (waitings0 : Int32) (opened0 : Int32) (phase0 : Int32) (hasSafe0 : Int32) (froms0 : Nat → Int32) (tos0 : Nat → Int32) (lines6 : Int32) (wheelLines6 : Int32) (gears6 : Int32) (rows6 : Int32) (counted11 : Int32) (written11 : Int32) (places11 : Nat → Int32) (names6 : Nat → Int32) : ∀ n : Nat, (∀ (v2z : Int32) (fault0 : Int32) (faultPlace0 : Int32) (safeTable6 : Int64) (knots11 : Nat → Int32) (values11 : Nat → Int64) (mayTables6 : Nat → Int64) (R : Int32 × Int32 × Int32 × Int64 × (Nat → Int32) × (Nat → Int64) × (Nat → Int64)) (P : Option Value → pz_H → Prop), P (some (.int R.1)) [.inr (7, [.ref 500, .ref 501, .ref 1, .ref 2, .ref 3, .ref 502, .int ofGears0, .int waitings0, .int opened0, .int phase0, .int hasSafe0, .int R.2.1, .int R.2.2.1]), .inl (0, 7, .inl froms0), .inl (0, 7, .inl tos0), .inr (6, [.ref 503, .ref 4, .ref 504, .ref 505, .ref 8, .ref 9, .ref 506, .ref 507, .ref 508, .long R.2.2.2.1, .int lines6, .int wheelLines6, .int gears6, .int rows6]), .inr (2, [.ref 5, .ref 6, .ref 7, .int counted11, .int written11]), .inl (0, 64, .inl R.2.2.2.2.1), .inl (0, 64, .inl places11), .inl (1, 64, .inr (.inl R.2.2.2.2.2.1)), .inl (0, 6, .inl names6), .inl (1, 6, .inr (.inl R.2.2.2.2.2.2))] → FX7_close_L fu hasSafe0 froms0 tos0 gears6 written11 n v2z fault0 faultPlace0 safeTable6 knots11 values11 mayTables6 = some R → pz_W mX7_close 3 0 0 10 P 34 [(0, .ref 0), (2, .int v2z)] [] [.inr (7, [.ref 500, .ref 501, .ref 1, .ref 2, .ref 3, .ref 502, .int ofGears0, .int waitings0, .int opened0, .int phase0, .int hasSafe0, .int fault0, .int faultPlace0]), .inl (0, 7, .inl froms0), .inl (0, 7, .inl tos0), .inr (6, [.ref 503, .ref 4, .ref 504, .ref 505, .ref 8, .ref 9, .ref 506, .ref 507, .ref 508, .long safeTable6, .int lines6, .int wheelLines6, .int gears6, .int rows6]), .inr (2, [.ref 5, .ref 6, .ref 7, .int counted11, .int written11]), .inl (0, 64, .inl knots11), .inl (0, 64, .inl places11), .inl (1, 64, .inr (.inl values11)), .inl (0, 6, .inl names6), .inl (1, 6, .inr (.inl mayTables6))] 0 0) := by
  intro n
  induction n with
  | zero => exact (fun v2z fault0 faultPlace0 safeTable6 knots11 values11 mayTables6 R P hP hF => by cases hF)
  | succ n ih =>
    intro v2z fault0 faultPlace0 safeTable6 knots11 values11 mayTables6 R P hP hF
    rw [FX7_close_L] at hF
    refine pz_g okX7_close 20 4 (cs := []) (pc' := 42) (ls' := [(0, .ref 0), (2, .int v2z)]) (st' := [.int gears6, .int v2z]) (h' := [.inr (7, [.ref 500, .ref 501, .ref 1, .ref 2, .ref 3, .ref 502, .int ofGears0, .int waitings0, .int opened0, .int phase0, .int hasSafe0, .int fault0, .int faultPlace0]), .inl (0, 7, .inl froms0), .inl (0, 7, .inl tos0), .inr (6, [.ref 503, .ref 4, .ref 504, .ref 505, .ref 8, .ref 9, .ref 506, .ref 507, .ref 508, .long safeTable6, .int lines6, .int wheelLines6, .int gears6, .int rows6]), .inr (2, [.ref 5, .ref 6, .ref 7, .int counted11, .int written11]), .inl (0, 64, .inl knots11), .inl (0, 64, .inl places11), .inl (1, 64, .inr (.inl values11)), .inl (0, 6, .inl names6), .inl (1, 6, .inr (.inl mayTables6))]) (by decide) rfl trivial ?_
    refine pz_if okX7_close 24 (r := []) (c := gears6 ≤ v2z) (t := 82) (f := 45) rfl rfl (fun c3 => ?_) (fun c3 => ?_)
    · replace hF := pz_ip c3 hF
      refine pz_g okX7_close 44 2 (cs := []) (pc' := 86) (ls' := [(0, .ref 0), (2, .int v2z)]) (st' := [.int hasSafe0]) (h' := [.inr (7, [.ref 500, .ref 501, .ref 1, .ref 2, .ref 3, .ref 502, .int ofGears0, .int waitings0, .int opened0, .int phase0, .int hasSafe0, .int fault0, .int faultPlace0]), .inl (0, 7, .inl froms0), .inl (0, 7, .inl tos0), .inr (6, [.ref 503, .ref 4, .ref 504, .ref 505, .ref 8, .ref 9, .ref 506, .ref 507, .ref 508, .long safeTable6, .int lines6, .int wheelLines6, .int gears6, .int rows6]), .inr (2, [.ref 5, .ref 6, .ref 7, .int counted11, .int written11]), .inl (0, 64, .inl knots11), .inl (0, 64, .inl places11), .inl (1, 64, .inr (.inl values11)), .inl (0, 6, .inl names6), .inl (1, 6, .inr (.inl mayTables6))]) (by decide) rfl trivial ?_
      refine pz_if okX7_close 46 (r := []) (c := hasSafe0 = 0) (t := 120) (f := 89) rfl rfl (fun c4 => ?_) (fun c4 => ?_)
      · replace hF := pz_ip c4 hF
        refine pz_g okX7_close 62 1 (cs := []) (pc' := 121) (ls' := [(0, .ref 0), (2, .int v2z)]) (st' := [.int 1]) (h' := [.inr (7, [.ref 500, .ref 501, .ref 1, .ref 2, .ref 3, .ref 502, .int ofGears0, .int waitings0, .int opened0, .int phase0, .int hasSafe0, .int fault0, .int faultPlace0]), .inl (0, 7, .inl froms0), .inl (0, 7, .inl tos0), .inr (6, [.ref 503, .ref 4, .ref 504, .ref 505, .ref 8, .ref 9, .ref 506, .ref 507, .ref 508, .long safeTable6, .int lines6, .int wheelLines6, .int gears6, .int rows6]), .inr (2, [.ref 5, .ref 6, .ref 7, .int counted11, .int written11]), .inl (0, 64, .inl knots11), .inl (0, 64, .inl places11), .inl (1, 64, .inr (.inl values11)), .inl (0, 6, .inl names6), .inl (1, 6, .inr (.inl mayTables6))]) (by decide) rfl trivial ?_
        cases hF
        exact pz_ri_ okX7_close 63 rfl rfl (by decide) hP
      · replace hF := pz_ne c4 hF
        refine pz_g okX7_close 47 13 (cs := [vp_in 6 7, vp_in 6 7]) (pc' := 114) (ls' := [(0, .ref 0), (2, .int v2z)]) (st' := [.int (tos0 6), .int (froms0 6), .ref 4, .ref 3]) (h' := [.inr (7, [.ref 500, .ref 501, .ref 1, .ref 2, .ref 3, .ref 502, .int ofGears0, .int waitings0, .int opened0, .int phase0, .int hasSafe0, .int fault0, .int faultPlace0]), .inl (0, 7, .inl froms0), .inl (0, 7, .inl tos0), .inr (6, [.ref 503, .ref 4, .ref 504, .ref 505, .ref 8, .ref 9, .ref 506, .ref 507, .ref 508, .long safeTable6, .int lines6, .int wheelLines6, .int gears6, .int rows6]), .inr (2, [.ref 5, .ref 6, .ref 7, .int counted11, .int written11]), .inl (0, 64, .inl knots11), .inl (0, 64, .inl places11), .inl (1, 64, .inr (.inl values11)), .inl (0, 6, .inl names6), .inl (1, 6, .inr (.inl mayTables6))]) (by decide) rfl (pz_ac (by first | (unfold vp_in; decide) | decide) (pz_ac (by first | (unfold vp_in; decide) | decide) trivial)) ?_
        obtain ⟨y5z, hy5z, hF⟩ := pz_bd hF
        refine pz_cv (M' := mX2_tableOf) (rest0 := [.ref 3]) (ci := 2) (q := (RX2, TX2, 5)) okX7_close 60 rfl lkX7_79 cvX2_tableOf [4, 5, 7] [6] (tFX2_tableOf fu (froms0 6) (tos0 6) counted11 written11 knots11 values11 y5z hy5z) (by decide) rfl rfl rfl rfl rfl (by decide) (by decide) (by decide) (Nat.le_of_ble_eq_true rfl) rfl (pz_one (st2 := [.long y5z.1, .ref 3]) (h2 := [.inr (7, [.ref 500, .ref 501, .ref 1, .ref 2, .ref 3, .ref 502, .int ofGears0, .int waitings0, .int opened0, .int phase0, .int hasSafe0, .int fault0, .int faultPlace0]), .inl (0, 7, .inl froms0), .inl (0, 7, .inl tos0), .inr (6, [.ref 503, .ref 4, .ref 504, .ref 505, .ref 8, .ref 9, .ref 506, .ref 507, .ref 508, .long safeTable6, .int lines6, .int wheelLines6, .int gears6, .int rows6]), .inr (2, [.ref 5, .ref 6, .ref 7, .int counted11, .int written11]), .inl (0, 64, .inl knots11), .inl (0, 64, .inl places11), .inl (1, 64, .inr (.inl y5z.2)), .inl (0, 6, .inl names6), .inl (1, 6, .inr (.inl mayTables6))]) rfl rfl rfl ?_)
        refine pz_g okX7_close 61 2 (cs := []) (pc' := 121) (ls' := [(0, .ref 0), (2, .int v2z)]) (st' := [.int 1]) (h' := [.inr (7, [.ref 500, .ref 501, .ref 1, .ref 2, .ref 3, .ref 502, .int ofGears0, .int waitings0, .int opened0, .int phase0, .int hasSafe0, .int fault0, .int faultPlace0]), .inl (0, 7, .inl froms0), .inl (0, 7, .inl tos0), .inr (6, [.ref 503, .ref 4, .ref 504, .ref 505, .ref 8, .ref 9, .ref 506, .ref 507, .ref 508, .long y5z.1, .int lines6, .int wheelLines6, .int gears6, .int rows6]), .inr (2, [.ref 5, .ref 6, .ref 7, .int counted11, .int written11]), .inl (0, 64, .inl knots11), .inl (0, 64, .inl places11), .inl (1, 64, .inr (.inl y5z.2)), .inl (0, 6, .inl names6), .inl (1, 6, .inr (.inl mayTables6))]) (by decide) rfl trivial ?_
        cases hF
        exact pz_ri_ okX7_close 63 rfl rfl (by decide) hP
    · replace hF := pz_ne c3 hF
      obtain ⟨g6, hF⟩ := pz_gd hF
      obtain ⟨g7, hF⟩ := pz_gd hF
      refine pz_g okX7_close 25 15 (cs := [vp_in v2z 7, vp_in v2z 7]) (pc' := 72) (ls' := [(0, .ref 0), (2, .int v2z)]) (st' := [.int (tos0 v2z.toNatClampNeg), .int (froms0 v2z.toNatClampNeg), .ref 4, .int v2z, .ref 9]) (h' := [.inr (7, [.ref 500, .ref 501, .ref 1, .ref 2, .ref 3, .ref 502, .int ofGears0, .int waitings0, .int opened0, .int phase0, .int hasSafe0, .int fault0, .int faultPlace0]), .inl (0, 7, .inl froms0), .inl (0, 7, .inl tos0), .inr (6, [.ref 503, .ref 4, .ref 504, .ref 505, .ref 8, .ref 9, .ref 506, .ref 507, .ref 508, .long safeTable6, .int lines6, .int wheelLines6, .int gears6, .int rows6]), .inr (2, [.ref 5, .ref 6, .ref 7, .int counted11, .int written11]), .inl (0, 64, .inl knots11), .inl (0, 64, .inl places11), .inl (1, 64, .inr (.inl values11)), .inl (0, 6, .inl names6), .inl (1, 6, .inr (.inl mayTables6))]) (by decide) rfl (pz_ac (pz_inb_ok g6) (pz_ac (pz_inb_ok g7) trivial)) ?_
      obtain ⟨y8z, hy8z, hF⟩ := pz_bd hF
      refine pz_cv (M' := mX2_tableOf) (rest0 := [.int v2z, .ref 9]) (ci := 2) (q := (RX2, TX2, 5)) okX7_close 40 rfl lkX7_79 cvX2_tableOf [4, 5, 7] [6] (tFX2_tableOf fu (froms0 v2z.toNatClampNeg) (tos0 v2z.toNatClampNeg) counted11 written11 knots11 values11 y8z hy8z) (by decide) rfl rfl rfl rfl rfl (by decide) (by decide) (by decide) (Nat.le_of_ble_eq_true rfl) rfl (pz_one (st2 := [.long y8z.1, .int v2z, .ref 9]) (h2 := [.inr (7, [.ref 500, .ref 501, .ref 1, .ref 2, .ref 3, .ref 502, .int ofGears0, .int waitings0, .int opened0, .int phase0, .int hasSafe0, .int fault0, .int faultPlace0]), .inl (0, 7, .inl froms0), .inl (0, 7, .inl tos0), .inr (6, [.ref 503, .ref 4, .ref 504, .ref 505, .ref 8, .ref 9, .ref 506, .ref 507, .ref 508, .long safeTable6, .int lines6, .int wheelLines6, .int gears6, .int rows6]), .inr (2, [.ref 5, .ref 6, .ref 7, .int counted11, .int written11]), .inl (0, 64, .inl knots11), .inl (0, 64, .inl places11), .inl (1, 64, .inr (.inl y8z.2)), .inl (0, 6, .inl names6), .inl (1, 6, .inr (.inl mayTables6))]) rfl rfl rfl ?_)
      obtain ⟨g9, hF⟩ := pz_gd hF
      refine pz_g okX7_close 41 2 (cs := [vp_in v2z 6]) (pc' := 79) (ls' := [(0, .ref 0), (2, .int (v2z + 1))]) (st' := []) (h' := [.inr (7, [.ref 500, .ref 501, .ref 1, .ref 2, .ref 3, .ref 502, .int ofGears0, .int waitings0, .int opened0, .int phase0, .int hasSafe0, .int fault0, .int faultPlace0]), .inl (0, 7, .inl froms0), .inl (0, 7, .inl tos0), .inr (6, [.ref 503, .ref 4, .ref 504, .ref 505, .ref 8, .ref 9, .ref 506, .ref 507, .ref 508, .long safeTable6, .int lines6, .int wheelLines6, .int gears6, .int rows6]), .inr (2, [.ref 5, .ref 6, .ref 7, .int counted11, .int written11]), .inl (0, 64, .inl knots11), .inl (0, 64, .inl places11), .inl (1, 64, .inr (.inl y8z.2)), .inl (0, 6, .inl names6), .inl (1, 6, .inr (.inl (vp_updL mayTables6 v2z.toNatClampNeg y8z.1)))]) (by decide) rfl (pz_ac (pz_inb_ok g9) trivial) ?_
      refine pz_j okX7_close 43 (t := 34) rfl rfl ?_
      exact ih (v2z + 1) fault0 faultPlace0 safeTable6 knots11 y8z.2 (vp_updL mayTables6 v2z.toNatClampNeg y8z.1) R P hP hF
set_option maxRecDepth 100000 in
set_option maxHeartbeats 4000000 in
theorem tFX7_close (fu : Nat) (ofGears0 : Int32) (waitings0 : Int32) (opened0 : Int32) (phase0 : Int32) (hasSafe0 : Int32) (fault0 : Int32) (faultPlace0 : Int32) (froms0 : Nat → Int32) (tos0 : Nat → Int32) (safeTable6 : Int64) (lines6 : Int32) (wheelLines6 : Int32) (gears6 : Int32) (rows6 : Int32) (counted11 : Int32) (written11 : Int32) (knots11 : Nat → Int32) (places11 : Nat → Int32) (values11 : Nat → Int64) (names6 : Nat → Int32) (mayTables6 : Nat → Int64) (R : Int32 × Int32 × Int32 × Int64 × (Nat → Int32) × (Nat → Int64) × (Nat → Int64)) (hF : FX7_close fu hasSafe0 fault0 faultPlace0 froms0 tos0 safeTable6 gears6 written11 knots11 places11 values11 names6 mayTables6 = some R) : pz_T mX7_close 3 0 0 [.ref 0] [.inr (7, [.ref 500, .ref 501, .ref 1, .ref 2, .ref 3, .ref 502, .int ofGears0, .int waitings0, .int opened0, .int phase0, .int hasSafe0, .int fault0, .int faultPlace0]), .inl (0, 7, .inl froms0), .inl (0, 7, .inl tos0), .inr (6, [.ref 503, .ref 4, .ref 504, .ref 505, .ref 8, .ref 9, .ref 506, .ref 507, .ref 508, .long safeTable6, .int lines6, .int wheelLines6, .int gears6, .int rows6]), .inr (2, [.ref 5, .ref 6, .ref 7, .int counted11, .int written11]), .inl (0, 64, .inl knots11), .inl (0, 64, .inl places11), .inl (1, 64, .inr (.inl values11)), .inl (0, 6, .inl names6), .inl (1, 6, .inr (.inl mayTables6))] (fun r h => r = some (.int R.1) ∧ h = [.inr (7, [.ref 500, .ref 501, .ref 1, .ref 2, .ref 3, .ref 502, .int ofGears0, .int waitings0, .int opened0, .int phase0, .int hasSafe0, .int R.2.1, .int R.2.2.1]), .inl (0, 7, .inl froms0), .inl (0, 7, .inl tos0), .inr (6, [.ref 503, .ref 4, .ref 504, .ref 505, .ref 8, .ref 9, .ref 506, .ref 507, .ref 508, .long R.2.2.2.1, .int lines6, .int wheelLines6, .int gears6, .int rows6]), .inr (2, [.ref 5, .ref 6, .ref 7, .int counted11, .int written11]), .inl (0, 64, .inl R.2.2.2.2.1), .inl (0, 64, .inl places11), .inl (1, 64, .inr (.inl R.2.2.2.2.2.1)), .inl (0, 6, .inl names6), .inl (1, 6, .inr (.inl R.2.2.2.2.2.2))]) := by
  refine pz_en2 (by decide +kernel) (Nat.le_of_ble_eq_true rfl) (fun P hP => ?_)
  show pz_W mX7_close 3 0 0 10 P 0 [(0, .ref 0)] [] _ 0 0
  rw [FX7_close] at hF
  refine pz_g okX7_close 0 5 (cs := []) (pc' := 11) (ls' := [(0, .ref 0)]) (st' := [.ref 3, .ref 4]) (h' := [.inr (7, [.ref 500, .ref 501, .ref 1, .ref 2, .ref 3, .ref 502, .int ofGears0, .int waitings0, .int opened0, .int phase0, .int hasSafe0, .int fault0, .int faultPlace0]), .inl (0, 7, .inl froms0), .inl (0, 7, .inl tos0), .inr (6, [.ref 503, .ref 4, .ref 504, .ref 505, .ref 8, .ref 9, .ref 506, .ref 507, .ref 508, .long safeTable6, .int lines6, .int wheelLines6, .int gears6, .int rows6]), .inr (2, [.ref 5, .ref 6, .ref 7, .int counted11, .int written11]), .inl (0, 64, .inl knots11), .inl (0, 64, .inl places11), .inl (1, 64, .inr (.inl values11)), .inl (0, 6, .inl names6), .inl (1, 6, .inr (.inl mayTables6))]) (by decide) rfl trivial ?_
  obtain ⟨y1z, hy1z, hF⟩ := pz_bd hF
  refine pz_cv (M' := mX2_settleGears) (rest0 := []) (ci := 2) (q := (RX2, TX2, 5)) okX7_close 5 rfl lkX7_68 cvX2_settleGears [4, 5, 6, 3, 8] [7, 503, 4, 504, 505, 9, 506, 507, 508] (tFX2_settleGears fu counted11 written11 knots11 places11 safeTable6 lines6 wheelLines6 gears6 rows6 names6 y1z hy1z) (by decide) rfl rfl rfl rfl rfl (by decide) (by decide) (by decide) (Nat.le_of_ble_eq_true rfl) rfl (pz_onb (st2 := [.int y1z.1]) (h2 := [.inr (7, [.ref 500, .ref 501, .ref 1, .ref 2, .ref 3, .ref 502, .int ofGears0, .int waitings0, .int opened0, .int phase0, .int hasSafe0, .int fault0, .int faultPlace0]), .inl (0, 7, .inl froms0), .inl (0, 7, .inl tos0), .inr (6, [.ref 503, .ref 4, .ref 504, .ref 505, .ref 8, .ref 9, .ref 506, .ref 507, .ref 508, .long safeTable6, .int lines6, .int wheelLines6, .int gears6, .int rows6]), .inr (2, [.ref 5, .ref 6, .ref 7, .int counted11, .int written11]), .inl (0, 64, .inl y1z.2), .inl (0, 64, .inl places11), .inl (1, 64, .inr (.inl values11)), .inl (0, 6, .inl names6), .inl (1, 6, .inr (.inl mayTables6))]) (by decide) rfl rfl rfl rfl ?_)
  refine pz_g okX7_close 6 3 (cs := []) (pc' := 17) (ls' := [(0, .ref 0), (1, .int y1z.1)]) (st' := [.int (-1), .int y1z.1]) (h' := [.inr (7, [.ref 500, .ref 501, .ref 1, .ref 2, .ref 3, .ref 502, .int ofGears0, .int waitings0, .int opened0, .int phase0, .int hasSafe0, .int fault0, .int faultPlace0]), .inl (0, 7, .inl froms0), .inl (0, 7, .inl tos0), .inr (6, [.ref 503, .ref 4, .ref 504, .ref 505, .ref 8, .ref 9, .ref 506, .ref 507, .ref 508, .long safeTable6, .int lines6, .int wheelLines6, .int gears6, .int rows6]), .inr (2, [.ref 5, .ref 6, .ref 7, .int counted11, .int written11]), .inl (0, 64, .inl y1z.2), .inl (0, 64, .inl places11), .inl (1, 64, .inr (.inl values11)), .inl (0, 6, .inl names6), .inl (1, 6, .inr (.inl mayTables6))]) (by decide) rfl trivial ?_
  refine pz_if okX7_close 9 (r := []) (c := y1z.1 = (-1)) (t := 32) (f := 20) rfl rfl (fun c2 => ?_) (fun c2 => ?_)
  · replace hF := pz_ip c2 hF
    refine pz_g okX7_close 18 2 (cs := []) (pc' := 34) (ls' := [(0, .ref 0), (1, .int y1z.1), (2, .int 0)]) (st' := []) (h' := [.inr (7, [.ref 500, .ref 501, .ref 1, .ref 2, .ref 3, .ref 502, .int ofGears0, .int waitings0, .int opened0, .int phase0, .int hasSafe0, .int fault0, .int faultPlace0]), .inl (0, 7, .inl froms0), .inl (0, 7, .inl tos0), .inr (6, [.ref 503, .ref 4, .ref 504, .ref 505, .ref 8, .ref 9, .ref 506, .ref 507, .ref 508, .long safeTable6, .int lines6, .int wheelLines6, .int gears6, .int rows6]), .inr (2, [.ref 5, .ref 6, .ref 7, .int counted11, .int written11]), .inl (0, 64, .inl y1z.2), .inl (0, 64, .inl places11), .inl (1, 64, .inr (.inl values11)), .inl (0, 6, .inl names6), .inl (1, 6, .inr (.inl mayTables6))]) (by decide) rfl trivial ?_
    refine pz_keep [0, 2] (ls' := [(0, .ref 0), (2, .int 0)]) rfl ?_
    exact (uFX7_close_L fu ofGears0 waitings0 opened0 phase0 hasSafe0 froms0 tos0 lines6 wheelLines6 gears6 rows6 counted11 written11 places11 names6 fu) (0 : Int32) fault0 faultPlace0 safeTable6 y1z.2 values11 mayTables6 R P hP hF
  · replace hF := pz_ne c2 hF
    refine pz_g okX7_close 10 7 (cs := []) (pc' := 31) (ls' := [(0, .ref 0), (1, .int y1z.1)]) (st' := [.int 0]) (h' := [.inr (7, [.ref 500, .ref 501, .ref 1, .ref 2, .ref 3, .ref 502, .int ofGears0, .int waitings0, .int opened0, .int phase0, .int hasSafe0, .int 4, .int y1z.1]), .inl (0, 7, .inl froms0), .inl (0, 7, .inl tos0), .inr (6, [.ref 503, .ref 4, .ref 504, .ref 505, .ref 8, .ref 9, .ref 506, .ref 507, .ref 508, .long safeTable6, .int lines6, .int wheelLines6, .int gears6, .int rows6]), .inr (2, [.ref 5, .ref 6, .ref 7, .int counted11, .int written11]), .inl (0, 64, .inl y1z.2), .inl (0, 64, .inl places11), .inl (1, 64, .inr (.inl values11)), .inl (0, 6, .inl names6), .inl (1, 6, .inr (.inl mayTables6))]) (by decide) rfl trivial ?_
    cases hF
    exact pz_ri_ okX7_close 17 rfl rfl (by decide) hP
set_option maxRecDepth 100000 in
set_option maxHeartbeats 4000000 in
theorem tX7_exchange (into0 : Nat) (ofGears0 : Int32) (waitings0 : Int32) (opened0 : Int32) (phase0 : Int32) (hasSafe0 : Int32) (fault0 : Int32) (faultPlace0 : Int32) : pz_T mX7_exchange 1 0 0 [.ref 0, .ref 500] [.inr (7, [.ref 501, .ref 502, .ref 503, .ref 504, .ref into0, .ref 505, .int ofGears0, .int waitings0, .int opened0, .int phase0, .int hasSafe0, .int fault0, .int faultPlace0])] (fun r h => r = some (.ref into0) ∧ h = [.inr (7, [.ref 501, .ref 502, .ref 503, .ref 504, .ref 500, .ref 505, .int ofGears0, .int waitings0, .int opened0, .int phase0, .int hasSafe0, .int fault0, .int faultPlace0])]) := by
  refine pz_en2 (by decide +kernel) (Nat.le_of_ble_eq_true rfl) (fun P hP => ?_)
  show pz_W mX7_exchange 1 0 0 1 P 0 [(0, .ref 0), (1, .ref 500)] [] _ 0 0
  refine pz_g okX7_exchange 0 7 (cs := []) (pc' := 11) (ls' := [(0, .ref 0), (1, .ref 500), (2, .ref into0)]) (st' := [.ref into0]) (h' := [.inr (7, [.ref 501, .ref 502, .ref 503, .ref 504, .ref 500, .ref 505, .int ofGears0, .int waitings0, .int opened0, .int phase0, .int hasSafe0, .int fault0, .int faultPlace0])]) (by decide) rfl trivial ?_
  exact pz_ra_ okX7_exchange 7 rfl rfl hP
set_option maxRecDepth 100000 in
set_option maxHeartbeats 4000000 in
theorem tX7_refuse (p1z : Int32) (ofGears0 : Int32) (waitings0 : Int32) (opened0 : Int32) (phase0 : Int32) (hasSafe0 : Int32) (fault0 : Int32) (faultPlace0 : Int32) (held1 : Int32) (length1 : Int32) (next1 : Int32) (kind1 : Int32) (value1 : Int32) (place1 : Int32) : pz_T mX7_refuse 1 0 0 [.ref 0, .int p1z] [.inr (7, [.ref 1, .ref 500, .ref 501, .ref 502, .ref 503, .ref 504, .int ofGears0, .int waitings0, .int opened0, .int phase0, .int hasSafe0, .int fault0, .int faultPlace0]), .inr (5, [.ref 505, .int held1, .int length1, .int next1, .int kind1, .int value1, .int place1])] (fun r h => r = some (.int 0) ∧ h = [.inr (7, [.ref 1, .ref 500, .ref 501, .ref 502, .ref 503, .ref 504, .int ofGears0, .int waitings0, .int opened0, .int phase0, .int hasSafe0, .int p1z, .int place1]), .inr (5, [.ref 505, .int held1, .int length1, .int next1, .int kind1, .int value1, .int place1])]) := by
  refine pz_en2 (by decide +kernel) (Nat.le_of_ble_eq_true rfl) (fun P hP => ?_)
  show pz_W mX7_refuse 1 0 0 2 P 0 [(0, .ref 0), (1, .int p1z)] [] _ 0 0
  refine pz_g okX7_refuse 0 9 (cs := []) (pc' := 17) (ls' := [(0, .ref 0), (1, .int p1z)]) (st' := [.int 0]) (h' := [.inr (7, [.ref 1, .ref 500, .ref 501, .ref 502, .ref 503, .ref 504, .int ofGears0, .int waitings0, .int opened0, .int phase0, .int hasSafe0, .int p1z, .int place1]), .inr (5, [.ref 505, .int held1, .int length1, .int next1, .int kind1, .int value1, .int place1])]) (by decide) rfl trivial ?_
  exact pz_ri_ okX7_refuse 9 rfl rfl (by decide) hP
set_option maxRecDepth 100000 in
set_option maxHeartbeats 4000000 in
theorem tX7_atSign (p1z : Int32) (ofGears0 : Int32) (waitings0 : Int32) (opened0 : Int32) (phase0 : Int32) (hasSafe0 : Int32) (fault0 : Int32) (faultPlace0 : Int32) (held1 : Int32) (length1 : Int32) (next1 : Int32) (kind1 : Int32) (value1 : Int32) (place1 : Int32) : pz_T mX7_atSign 1 0 0 [.ref 0, .int p1z] [.inr (7, [.ref 1, .ref 500, .ref 501, .ref 502, .ref 503, .ref 504, .int ofGears0, .int waitings0, .int opened0, .int phase0, .int hasSafe0, .int fault0, .int faultPlace0]), .inr (5, [.ref 505, .int held1, .int length1, .int next1, .int kind1, .int value1, .int place1])] (fun r h => r = some (.int (fX7_atSign_r p1z kind1 value1)) ∧ h = [.inr (7, [.ref 1, .ref 500, .ref 501, .ref 502, .ref 503, .ref 504, .int ofGears0, .int waitings0, .int opened0, .int phase0, .int hasSafe0, .int fault0, .int faultPlace0]), .inr (5, [.ref 505, .int held1, .int length1, .int next1, .int kind1, .int value1, .int place1])]) := by
  refine pz_en2 (by decide +kernel) (Nat.le_of_ble_eq_true rfl) (fun P hP => ?_)
  show pz_W mX7_atSign 1 0 0 2 P 0 [(0, .ref 0), (1, .int p1z)] [] _ 0 0
  refine pz_g okX7_atSign 0 4 (cs := []) (pc' := 8) (ls' := [(0, .ref 0), (1, .int p1z)]) (st' := [.int 4, .int kind1]) (h' := [.inr (7, [.ref 1, .ref 500, .ref 501, .ref 502, .ref 503, .ref 504, .int ofGears0, .int waitings0, .int opened0, .int phase0, .int hasSafe0, .int fault0, .int faultPlace0]), .inr (5, [.ref 505, .int held1, .int length1, .int next1, .int kind1, .int value1, .int place1])]) (by decide) rfl trivial ?_
  refine pz_if okX7_atSign 4 (r := []) (c := ¬ kind1 = 4) (t := 26) (f := 11) rfl rfl (fun c1 => ?_) (fun c1 => ?_)
  · refine pz_g okX7_atSign 12 1 (cs := []) (pc' := 27) (ls' := [(0, .ref 0), (1, .int p1z)]) (st' := [.int 0]) (h' := [.inr (7, [.ref 1, .ref 500, .ref 501, .ref 502, .ref 503, .ref 504, .int ofGears0, .int waitings0, .int opened0, .int phase0, .int hasSafe0, .int fault0, .int faultPlace0]), .inr (5, [.ref 505, .int held1, .int length1, .int next1, .int kind1, .int value1, .int place1])]) (by decide) rfl trivial ?_
    exact pz_ri_ okX7_atSign 13 rfl rfl (by decide) (by first | exact hP | simpa only [fX7_atSign_r, if_pos c1] using hP)
  · refine pz_g okX7_atSign 5 4 (cs := []) (pc' := 19) (ls' := [(0, .ref 0), (1, .int p1z)]) (st' := [.int p1z, .int value1]) (h' := [.inr (7, [.ref 1, .ref 500, .ref 501, .ref 502, .ref 503, .ref 504, .int ofGears0, .int waitings0, .int opened0, .int phase0, .int hasSafe0, .int fault0, .int faultPlace0]), .inr (5, [.ref 505, .int held1, .int length1, .int next1, .int kind1, .int value1, .int place1])]) (by decide) rfl trivial ?_
    refine pz_if okX7_atSign 9 (r := []) (c := ¬ value1 = p1z) (t := 26) (f := 22) rfl rfl (fun c2 => ?_) (fun c2 => ?_)
    · refine pz_g okX7_atSign 12 1 (cs := []) (pc' := 27) (ls' := [(0, .ref 0), (1, .int p1z)]) (st' := [.int 0]) (h' := [.inr (7, [.ref 1, .ref 500, .ref 501, .ref 502, .ref 503, .ref 504, .int ofGears0, .int waitings0, .int opened0, .int phase0, .int hasSafe0, .int fault0, .int faultPlace0]), .inr (5, [.ref 505, .int held1, .int length1, .int next1, .int kind1, .int value1, .int place1])]) (by decide) rfl trivial ?_
      exact pz_ri_ okX7_atSign 13 rfl rfl (by decide) (by first | exact hP | simpa only [fX7_atSign_r, if_neg c1, if_pos c2] using hP)
    · refine pz_g okX7_atSign 10 1 (cs := []) (pc' := 23) (ls' := [(0, .ref 0), (1, .int p1z)]) (st' := [.int 1]) (h' := [.inr (7, [.ref 1, .ref 500, .ref 501, .ref 502, .ref 503, .ref 504, .int ofGears0, .int waitings0, .int opened0, .int phase0, .int hasSafe0, .int fault0, .int faultPlace0]), .inr (5, [.ref 505, .int held1, .int length1, .int next1, .int kind1, .int value1, .int place1])]) (by decide) rfl trivial ?_
      refine pz_j okX7_atSign 11 (t := 27) rfl rfl ?_
      exact pz_ri_ okX7_atSign 13 rfl rfl (by decide) (by first | exact hP | simpa only [fX7_atSign_r, if_neg c1, if_neg c2] using hP)
set_option maxRecDepth 100000 in
set_option maxHeartbeats 4000000 in
theorem tX7_atWord (p1z : Int32) (ofGears0 : Int32) (waitings0 : Int32) (opened0 : Int32) (phase0 : Int32) (hasSafe0 : Int32) (fault0 : Int32) (faultPlace0 : Int32) (held1 : Int32) (length1 : Int32) (next1 : Int32) (kind1 : Int32) (value1 : Int32) (place1 : Int32) : pz_T mX7_atWord 1 0 0 [.ref 0, .int p1z] [.inr (7, [.ref 1, .ref 500, .ref 501, .ref 502, .ref 503, .ref 504, .int ofGears0, .int waitings0, .int opened0, .int phase0, .int hasSafe0, .int fault0, .int faultPlace0]), .inr (5, [.ref 505, .int held1, .int length1, .int next1, .int kind1, .int value1, .int place1])] (fun r h => r = some (.int (fX7_atWord_r p1z kind1 value1)) ∧ h = [.inr (7, [.ref 1, .ref 500, .ref 501, .ref 502, .ref 503, .ref 504, .int ofGears0, .int waitings0, .int opened0, .int phase0, .int hasSafe0, .int fault0, .int faultPlace0]), .inr (5, [.ref 505, .int held1, .int length1, .int next1, .int kind1, .int value1, .int place1])]) := by
  refine pz_en2 (by decide +kernel) (Nat.le_of_ble_eq_true rfl) (fun P hP => ?_)
  show pz_W mX7_atWord 1 0 0 2 P 0 [(0, .ref 0), (1, .int p1z)] [] _ 0 0
  refine pz_g okX7_atWord 0 4 (cs := []) (pc' := 8) (ls' := [(0, .ref 0), (1, .int p1z)]) (st' := [.int 1, .int kind1]) (h' := [.inr (7, [.ref 1, .ref 500, .ref 501, .ref 502, .ref 503, .ref 504, .int ofGears0, .int waitings0, .int opened0, .int phase0, .int hasSafe0, .int fault0, .int faultPlace0]), .inr (5, [.ref 505, .int held1, .int length1, .int next1, .int kind1, .int value1, .int place1])]) (by decide) rfl trivial ?_
  refine pz_if okX7_atWord 4 (r := []) (c := ¬ kind1 = 1) (t := 26) (f := 11) rfl rfl (fun c1 => ?_) (fun c1 => ?_)
  · refine pz_g okX7_atWord 12 1 (cs := []) (pc' := 27) (ls' := [(0, .ref 0), (1, .int p1z)]) (st' := [.int 0]) (h' := [.inr (7, [.ref 1, .ref 500, .ref 501, .ref 502, .ref 503, .ref 504, .int ofGears0, .int waitings0, .int opened0, .int phase0, .int hasSafe0, .int fault0, .int faultPlace0]), .inr (5, [.ref 505, .int held1, .int length1, .int next1, .int kind1, .int value1, .int place1])]) (by decide) rfl trivial ?_
    exact pz_ri_ okX7_atWord 13 rfl rfl (by decide) (by first | exact hP | simpa only [fX7_atWord_r, if_pos c1] using hP)
  · refine pz_g okX7_atWord 5 4 (cs := []) (pc' := 19) (ls' := [(0, .ref 0), (1, .int p1z)]) (st' := [.int p1z, .int value1]) (h' := [.inr (7, [.ref 1, .ref 500, .ref 501, .ref 502, .ref 503, .ref 504, .int ofGears0, .int waitings0, .int opened0, .int phase0, .int hasSafe0, .int fault0, .int faultPlace0]), .inr (5, [.ref 505, .int held1, .int length1, .int next1, .int kind1, .int value1, .int place1])]) (by decide) rfl trivial ?_
    refine pz_if okX7_atWord 9 (r := []) (c := ¬ value1 = p1z) (t := 26) (f := 22) rfl rfl (fun c2 => ?_) (fun c2 => ?_)
    · refine pz_g okX7_atWord 12 1 (cs := []) (pc' := 27) (ls' := [(0, .ref 0), (1, .int p1z)]) (st' := [.int 0]) (h' := [.inr (7, [.ref 1, .ref 500, .ref 501, .ref 502, .ref 503, .ref 504, .int ofGears0, .int waitings0, .int opened0, .int phase0, .int hasSafe0, .int fault0, .int faultPlace0]), .inr (5, [.ref 505, .int held1, .int length1, .int next1, .int kind1, .int value1, .int place1])]) (by decide) rfl trivial ?_
      exact pz_ri_ okX7_atWord 13 rfl rfl (by decide) (by first | exact hP | simpa only [fX7_atWord_r, if_neg c1, if_pos c2] using hP)
    · refine pz_g okX7_atWord 10 1 (cs := []) (pc' := 23) (ls' := [(0, .ref 0), (1, .int p1z)]) (st' := [.int 1]) (h' := [.inr (7, [.ref 1, .ref 500, .ref 501, .ref 502, .ref 503, .ref 504, .int ofGears0, .int waitings0, .int opened0, .int phase0, .int hasSafe0, .int fault0, .int faultPlace0]), .inr (5, [.ref 505, .int held1, .int length1, .int next1, .int kind1, .int value1, .int place1])]) (by decide) rfl trivial ?_
      refine pz_j okX7_atWord 11 (t := 27) rfl rfl ?_
      exact pz_ri_ okX7_atWord 13 rfl rfl (by decide) (by first | exact hP | simpa only [fX7_atWord_r, if_neg c1, if_neg c2] using hP)
