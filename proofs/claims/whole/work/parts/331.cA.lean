/-! ===== printed by wip/whole/g2.py ===== -/
set_option maxRecDepth 100000 in
set_option maxHeartbeats 4000000 in
theorem uFJ7_fill_53178_L (fu : Nat) (p2z : Int32) (Nz : Nat) : ∀ n : Nat, (∀ (v2z : Int32) (v3z : Int32) (q1z : Nat → Int32) (R : (Nat → Int32)) (P : Option Value → pz_H → Prop), P (none) [.inl (0, Nz, .inl R)] → FJ7_fill_53178_L fu p2z Nz n v2z v3z q1z = some R → pz_W mJ7_fill_53178 1 0 0 1 P 5 [(0, .ref 0), (1, .int p2z), (2, .int v2z), (3, .int v3z)] [] [.inl (0, Nz, .inl q1z)] 0 0) := by
  intro n
  induction n with
  | zero => exact (fun v2z v3z q1z R P hP hF => by cases hF)
  | succ n ih =>
    intro v2z v3z q1z R P hP hF
    rw [FJ7_fill_53178_L] at hF
    refine pz_g okJ7_fill_53178 5 2 (cs := []) (pc' := 7) (ls' := [(0, .ref 0), (1, .int p2z), (2, .int v2z), (3, .int v3z)]) (st' := [.int v3z, .int v2z]) (h' := [.inl (0, Nz, .inl q1z)]) (by decide) rfl trivial ?_
    refine pz_if okJ7_fill_53178 7 (r := []) (c := v3z ≤ v2z) (t := 20) (f := 10) rfl rfl (fun c1 => ?_) (fun c1 => ?_)
    · replace hF := pz_ip c1 hF
      cases hF
      exact pz_rv_ okJ7_fill_53178 14 rfl rfl hP
    · replace hF := pz_ne c1 hF
      obtain ⟨g2, hF⟩ := pz_gd hF
      refine pz_g okJ7_fill_53178 8 5 (cs := [vp_in v2z Nz]) (pc' := 17) (ls' := [(0, .ref 0), (1, .int p2z), (2, .int (v2z + 1)), (3, .int v3z)]) (st' := []) (h' := [.inl (0, Nz, .inl (upd q1z v2z.toNatClampNeg p2z))]) (by decide) rfl (pz_ac (pz_inb_ok g2) trivial) ?_
      refine pz_j okJ7_fill_53178 13 (t := 5) rfl rfl ?_
      exact ih (v2z + 1) v3z (upd q1z v2z.toNatClampNeg p2z) R P hP hF
set_option maxRecDepth 100000 in
set_option maxHeartbeats 4000000 in
theorem tFJ7_fill_53178 (fu : Nat) (p2z : Int32) (Nz : Nat) (q1z : Nat → Int32) (R : (Nat → Int32)) (hF : FJ7_fill_53178 fu p2z Nz q1z = some R) : pz_T mJ7_fill_53178 1 0 0 [.ref 0, .int p2z] [.inl (0, Nz, .inl q1z)] (fun r h => r = none ∧ h = [.inl (0, Nz, .inl R)]) := by
  refine pz_en2 (by decide +kernel) (Nat.le_of_ble_eq_true rfl) (fun P hP => ?_)
  show pz_W mJ7_fill_53178 1 0 0 1 P 0 [(0, .ref 0), (1, .int p2z)] [] _ 0 0
  rw [FJ7_fill_53178] at hF
  refine pz_g okJ7_fill_53178 0 5 (cs := []) (pc' := 5) (ls' := [(0, .ref 0), (1, .int p2z), (2, .int 0), (3, .int (Int32.ofNat Nz))]) (st' := []) (h' := [.inl (0, Nz, .inl q1z)]) (by decide) rfl trivial ?_
  exact (uFJ7_fill_53178_L fu p2z Nz fu) (0 : Int32) (Int32.ofNat Nz) q1z R P hP hF
set_option maxRecDepth 100000 in
set_option maxHeartbeats 4000000 in
theorem uFJ7_fill_d0a16_L (fu : Nat) (p2z : Int64) (Nz : Nat) : ∀ n : Nat, (∀ (v3z : Int32) (v4z : Int32) (q1z : Nat → Int64) (R : (Nat → Int64)) (P : Option Value → pz_H → Prop), P (none) [.inl (1, Nz, .inr (.inl R))] → FJ7_fill_d0a16_L fu p2z Nz n v3z v4z q1z = some R → pz_W mJ7_fill_d0a16 1 0 0 1 P 6 [(0, .ref 0), (1, .long p2z), (3, .int v3z), (4, .int v4z)] [] [.inl (1, Nz, .inr (.inl q1z))] 0 0) := by
  intro n
  induction n with
  | zero => exact (fun v3z v4z q1z R P hP hF => by cases hF)
  | succ n ih =>
    intro v3z v4z q1z R P hP hF
    rw [FJ7_fill_d0a16_L] at hF
    refine pz_g okJ7_fill_d0a16 5 2 (cs := []) (pc' := 9) (ls' := [(0, .ref 0), (1, .long p2z), (3, .int v3z), (4, .int v4z)]) (st' := [.int v4z, .int v3z]) (h' := [.inl (1, Nz, .inr (.inl q1z))]) (by decide) rfl trivial ?_
    refine pz_if okJ7_fill_d0a16 7 (r := []) (c := v4z ≤ v3z) (t := 22) (f := 12) rfl rfl (fun c1 => ?_) (fun c1 => ?_)
    · replace hF := pz_ip c1 hF
      cases hF
      exact pz_rv_ okJ7_fill_d0a16 14 rfl rfl hP
    · replace hF := pz_ne c1 hF
      obtain ⟨g2, hF⟩ := pz_gd hF
      refine pz_g okJ7_fill_d0a16 8 5 (cs := [vp_in v3z Nz]) (pc' := 19) (ls' := [(0, .ref 0), (1, .long p2z), (3, .int (v3z + 1)), (4, .int v4z)]) (st' := []) (h' := [.inl (1, Nz, .inr (.inl (vp_updL q1z v3z.toNatClampNeg p2z)))]) (by decide) rfl (pz_ac (pz_inb_ok g2) trivial) ?_
      refine pz_j okJ7_fill_d0a16 13 (t := 6) rfl rfl ?_
      exact ih (v3z + 1) v4z (vp_updL q1z v3z.toNatClampNeg p2z) R P hP hF
set_option maxRecDepth 100000 in
set_option maxHeartbeats 4000000 in
theorem tFJ7_fill_d0a16 (fu : Nat) (p2z : Int64) (Nz : Nat) (q1z : Nat → Int64) (R : (Nat → Int64)) (hF : FJ7_fill_d0a16 fu p2z Nz q1z = some R) : pz_T mJ7_fill_d0a16 1 0 0 [.ref 0, .long p2z] [.inl (1, Nz, .inr (.inl q1z))] (fun r h => r = none ∧ h = [.inl (1, Nz, .inr (.inl R))]) := by
  refine pz_en2 (by decide +kernel) (Nat.le_of_ble_eq_true rfl) (fun P hP => ?_)
  show pz_W mJ7_fill_d0a16 1 0 0 1 P 0 [(0, .ref 0), (1, .long p2z)] [] _ 0 0
  rw [FJ7_fill_d0a16] at hF
  refine pz_g okJ7_fill_d0a16 0 5 (cs := []) (pc' := 6) (ls' := [(0, .ref 0), (1, .long p2z), (3, .int 0), (4, .int (Int32.ofNat Nz))]) (st' := []) (h' := [.inl (1, Nz, .inr (.inl q1z))]) (by decide) rfl trivial ?_
  exact (uFJ7_fill_d0a16_L fu p2z Nz fu) (0 : Int32) (Int32.ofNat Nz) q1z R P hP hF
set_option maxRecDepth 100000 in
set_option maxHeartbeats 4000000 in
theorem uFX6_gearOf_L (fu : Nat) (p1z : Int32) (safeTable0 : Int64) (lines0 : Int32) (wheelLines0 : Int32) (gears0 : Int32) (rows0 : Int32) (names0 : Nat → Int32) : ∀ n : Nat, (∀ (v2z : Int32) (R : Int32) (P : Option Value → pz_H → Prop), P (some (.int R)) [.inr (6, [.ref 500, .ref 501, .ref 502, .ref 503, .ref 1, .ref 504, .ref 505, .ref 506, .ref 507, .long safeTable0, .int lines0, .int wheelLines0, .int gears0, .int rows0]), .inl (0, 6, .inl names0)] → FX6_gearOf_L fu p1z gears0 names0 n v2z = some R → pz_W mX6_gearOf 1 0 0 2 P 2 [(0, .ref 0), (1, .int p1z), (2, .int v2z)] [] [.inr (6, [.ref 500, .ref 501, .ref 502, .ref 503, .ref 1, .ref 504, .ref 505, .ref 506, .ref 507, .long safeTable0, .int lines0, .int wheelLines0, .int gears0, .int rows0]), .inl (0, 6, .inl names0)] 0 0) := by
  intro n
  induction n with
  | zero => exact (fun v2z R P hP hF => by cases hF)
  | succ n ih =>
    intro v2z R P hP hF
    rw [FX6_gearOf_L] at hF
    refine pz_g okX6_gearOf 2 3 (cs := []) (pc' := 7) (ls' := [(0, .ref 0), (1, .int p1z), (2, .int v2z)]) (st' := [.int gears0, .int v2z]) (h' := [.inr (6, [.ref 500, .ref 501, .ref 502, .ref 503, .ref 1, .ref 504, .ref 505, .ref 506, .ref 507, .long safeTable0, .int lines0, .int wheelLines0, .int gears0, .int rows0]), .inl (0, 6, .inl names0)]) (by decide) rfl trivial ?_
    refine pz_if okX6_gearOf 5 (r := []) (c := gears0 ≤ v2z) (t := 28) (f := 10) rfl rfl (fun c1 => ?_) (fun c1 => ?_)
    · replace hF := pz_ip c1 hF
      refine pz_g okX6_gearOf 16 1 (cs := []) (pc' := 29) (ls' := [(0, .ref 0), (1, .int p1z), (2, .int v2z)]) (st' := [.int (-1)]) (h' := [.inr (6, [.ref 500, .ref 501, .ref 502, .ref 503, .ref 1, .ref 504, .ref 505, .ref 506, .ref 507, .long safeTable0, .int lines0, .int wheelLines0, .int gears0, .int rows0]), .inl (0, 6, .inl names0)]) (by decide) rfl trivial ?_
      cases hF
      exact pz_ri_ okX6_gearOf 17 rfl rfl rfl hP
    · replace hF := pz_ne c1 hF
      obtain ⟨g2, hF⟩ := pz_gd hF
      refine pz_g okX6_gearOf 6 5 (cs := [vp_in v2z 6]) (pc' := 17) (ls' := [(0, .ref 0), (1, .int p1z), (2, .int v2z)]) (st' := [.int p1z, .int (names0 v2z.toNatClampNeg)]) (h' := [.inr (6, [.ref 500, .ref 501, .ref 502, .ref 503, .ref 1, .ref 504, .ref 505, .ref 506, .ref 507, .long safeTable0, .int lines0, .int wheelLines0, .int gears0, .int rows0]), .inl (0, 6, .inl names0)]) (by decide) rfl (pz_ac (pz_inb_ok g2) trivial) ?_
      refine pz_if okX6_gearOf 11 (r := []) (c := ¬ (names0 v2z.toNatClampNeg) = p1z) (t := 22) (f := 20) rfl rfl (fun c3 => ?_) (fun c3 => ?_)
      · replace hF := pz_ip c3 hF
        refine pz_g okX6_gearOf 14 1 (cs := []) (pc' := 25) (ls' := [(0, .ref 0), (1, .int p1z), (2, .int (v2z + 1))]) (st' := []) (h' := [.inr (6, [.ref 500, .ref 501, .ref 502, .ref 503, .ref 1, .ref 504, .ref 505, .ref 506, .ref 507, .long safeTable0, .int lines0, .int wheelLines0, .int gears0, .int rows0]), .inl (0, 6, .inl names0)]) (by decide) rfl trivial ?_
        refine pz_j okX6_gearOf 15 (t := 2) rfl rfl ?_
        exact ih (v2z + 1) R P hP hF
      · replace hF := pz_ne c3 hF
        refine pz_g okX6_gearOf 12 1 (cs := []) (pc' := 21) (ls' := [(0, .ref 0), (1, .int p1z), (2, .int v2z)]) (st' := [.int v2z]) (h' := [.inr (6, [.ref 500, .ref 501, .ref 502, .ref 503, .ref 1, .ref 504, .ref 505, .ref 506, .ref 507, .long safeTable0, .int lines0, .int wheelLines0, .int gears0, .int rows0]), .inl (0, 6, .inl names0)]) (by decide) rfl trivial ?_
        cases hF
        exact pz_ri_ okX6_gearOf 13 rfl rfl rfl hP
set_option maxRecDepth 100000 in
set_option maxHeartbeats 4000000 in
theorem tFX6_gearOf (fu : Nat) (p1z : Int32) (safeTable0 : Int64) (lines0 : Int32) (wheelLines0 : Int32) (gears0 : Int32) (rows0 : Int32) (names0 : Nat → Int32) (R : Int32) (hF : FX6_gearOf fu p1z gears0 names0 = some R) : pz_T mX6_gearOf 1 0 0 [.ref 0, .int p1z] [.inr (6, [.ref 500, .ref 501, .ref 502, .ref 503, .ref 1, .ref 504, .ref 505, .ref 506, .ref 507, .long safeTable0, .int lines0, .int wheelLines0, .int gears0, .int rows0]), .inl (0, 6, .inl names0)] (fun r h => r = some (.int R) ∧ h = [.inr (6, [.ref 500, .ref 501, .ref 502, .ref 503, .ref 1, .ref 504, .ref 505, .ref 506, .ref 507, .long safeTable0, .int lines0, .int wheelLines0, .int gears0, .int rows0]), .inl (0, 6, .inl names0)]) := by
  refine pz_en2 (by decide +kernel) (Nat.le_of_ble_eq_true rfl) (fun P hP => ?_)
  show pz_W mX6_gearOf 1 0 0 2 P 0 [(0, .ref 0), (1, .int p1z)] [] _ 0 0
  rw [FX6_gearOf] at hF
  refine pz_g okX6_gearOf 0 2 (cs := []) (pc' := 2) (ls' := [(0, .ref 0), (1, .int p1z), (2, .int 0)]) (st' := []) (h' := [.inr (6, [.ref 500, .ref 501, .ref 502, .ref 503, .ref 1, .ref 504, .ref 505, .ref 506, .ref 507, .long safeTable0, .int lines0, .int wheelLines0, .int gears0, .int rows0]), .inl (0, 6, .inl names0)]) (by decide) rfl trivial ?_
  exact (uFX6_gearOf_L fu p1z safeTable0 lines0 wheelLines0 gears0 rows0 names0 fu) (0 : Int32) R P hP hF
set_option maxRecDepth 100000 in
set_option maxHeartbeats 4000000 in
theorem tX6_hasRow (p1z : Int32) (safeTable0 : Int64) (lines0 : Int32) (wheelLines0 : Int32) (gears0 : Int32) (rows0 : Int32) : pz_T mX6_hasRow 1 0 0 [.ref 0, .int p1z] [.inr (6, [.ref 500, .ref 501, .ref 502, .ref 503, .ref 504, .ref 505, .ref 506, .ref 507, .ref 508, .long safeTable0, .int lines0, .int wheelLines0, .int gears0, .int rows0])] (fun r h => r = some (.int (fX6_hasRow_r p1z rows0)) ∧ h = [.inr (6, [.ref 500, .ref 501, .ref 502, .ref 503, .ref 504, .ref 505, .ref 506, .ref 507, .ref 508, .long safeTable0, .int lines0, .int wheelLines0, .int gears0, .int rows0])]) := by
  refine pz_en2 (by decide +kernel) (Nat.le_of_ble_eq_true rfl) (fun P hP => ?_)
  show pz_W mX6_hasRow 1 0 0 1 P 0 [(0, .ref 0), (1, .int p1z)] [] _ 0 0
  refine pz_g okX6_hasRow 0 1 (cs := []) (pc' := 1) (ls' := [(0, .ref 0), (1, .int p1z)]) (st' := [.int p1z]) (h' := [.inr (6, [.ref 500, .ref 501, .ref 502, .ref 503, .ref 504, .ref 505, .ref 506, .ref 507, .ref 508, .long safeTable0, .int lines0, .int wheelLines0, .int gears0, .int rows0])]) (by decide) rfl trivial ?_
  refine pz_if okX6_hasRow 1 (r := []) (c := p1z < 0) (t := 16) (f := 4) rfl rfl (fun c1 => ?_) (fun c1 => ?_)
  · refine pz_g okX6_hasRow 8 1 (cs := []) (pc' := 17) (ls' := [(0, .ref 0), (1, .int p1z)]) (st' := [.int 0]) (h' := [.inr (6, [.ref 500, .ref 501, .ref 502, .ref 503, .ref 504, .ref 505, .ref 506, .ref 507, .ref 508, .long safeTable0, .int lines0, .int wheelLines0, .int gears0, .int rows0])]) (by decide) rfl trivial ?_
    exact pz_ri_ okX6_hasRow 9 rfl rfl (by decide) (by first | exact hP | simpa only [fX6_hasRow_r, if_pos c1] using hP)
  · refine pz_g okX6_hasRow 2 3 (cs := []) (pc' := 9) (ls' := [(0, .ref 0), (1, .int p1z)]) (st' := [.int rows0, .int p1z]) (h' := [.inr (6, [.ref 500, .ref 501, .ref 502, .ref 503, .ref 504, .ref 505, .ref 506, .ref 507, .ref 508, .long safeTable0, .int lines0, .int wheelLines0, .int gears0, .int rows0])]) (by decide) rfl trivial ?_
    refine pz_if okX6_hasRow 5 (r := []) (c := rows0 ≤ p1z) (t := 16) (f := 12) rfl rfl (fun c2 => ?_) (fun c2 => ?_)
    · refine pz_g okX6_hasRow 8 1 (cs := []) (pc' := 17) (ls' := [(0, .ref 0), (1, .int p1z)]) (st' := [.int 0]) (h' := [.inr (6, [.ref 500, .ref 501, .ref 502, .ref 503, .ref 504, .ref 505, .ref 506, .ref 507, .ref 508, .long safeTable0, .int lines0, .int wheelLines0, .int gears0, .int rows0])]) (by decide) rfl trivial ?_
      exact pz_ri_ okX6_hasRow 9 rfl rfl (by decide) (by first | exact hP | simpa only [fX6_hasRow_r, if_neg c1, if_pos c2] using hP)
    · refine pz_g okX6_hasRow 6 1 (cs := []) (pc' := 13) (ls' := [(0, .ref 0), (1, .int p1z)]) (st' := [.int 1]) (h' := [.inr (6, [.ref 500, .ref 501, .ref 502, .ref 503, .ref 504, .ref 505, .ref 506, .ref 507, .ref 508, .long safeTable0, .int lines0, .int wheelLines0, .int gears0, .int rows0])]) (by decide) rfl trivial ?_
      refine pz_j okX6_hasRow 7 (t := 17) rfl rfl ?_
      exact pz_ri_ okX6_hasRow 9 rfl rfl (by decide) (by first | exact hP | simpa only [fX6_hasRow_r, if_neg c1, if_neg c2] using hP)
set_option maxRecDepth 100000 in
set_option maxHeartbeats 4000000 in
theorem tX6_hasGears (p1z : Int32) (safeTable0 : Int64) (lines0 : Int32) (wheelLines0 : Int32) (gears0 : Int32) (rows0 : Int32) : pz_T mX6_hasGears 1 0 0 [.ref 0, .int p1z] [.inr (6, [.ref 500, .ref 501, .ref 502, .ref 503, .ref 504, .ref 505, .ref 506, .ref 507, .ref 508, .long safeTable0, .int lines0, .int wheelLines0, .int gears0, .int rows0])] (fun r h => r = some (.int (fX6_hasGears_r p1z gears0)) ∧ h = [.inr (6, [.ref 500, .ref 501, .ref 502, .ref 503, .ref 504, .ref 505, .ref 506, .ref 507, .ref 508, .long safeTable0, .int lines0, .int wheelLines0, .int gears0, .int rows0])]) := by
  refine pz_en2 (by decide +kernel) (Nat.le_of_ble_eq_true rfl) (fun P hP => ?_)
  show pz_W mX6_hasGears 1 0 0 1 P 0 [(0, .ref 0), (1, .int p1z)] [] _ 0 0
  refine pz_g okX6_hasGears 0 1 (cs := []) (pc' := 1) (ls' := [(0, .ref 0), (1, .int p1z)]) (st' := [.int p1z]) (h' := [.inr (6, [.ref 500, .ref 501, .ref 502, .ref 503, .ref 504, .ref 505, .ref 506, .ref 507, .ref 508, .long safeTable0, .int lines0, .int wheelLines0, .int gears0, .int rows0])]) (by decide) rfl trivial ?_
  refine pz_if okX6_hasGears 1 (r := []) (c := p1z < 0) (t := 18) (f := 4) rfl rfl (fun c1 => ?_) (fun c1 => ?_)
  · refine pz_g okX6_hasGears 10 1 (cs := []) (pc' := 19) (ls' := [(0, .ref 0), (1, .int p1z)]) (st' := [.int 0]) (h' := [.inr (6, [.ref 500, .ref 501, .ref 502, .ref 503, .ref 504, .ref 505, .ref 506, .ref 507, .ref 508, .long safeTable0, .int lines0, .int wheelLines0, .int gears0, .int rows0])]) (by decide) rfl trivial ?_
    exact pz_ri_ okX6_hasGears 11 rfl rfl (by decide) (by first | exact hP | simpa only [fX6_hasGears_r, if_pos c1] using hP)
  · refine pz_g okX6_hasGears 2 5 (cs := []) (pc' := 11) (ls' := [(0, .ref 0), (1, .int p1z)]) (st' := [.int (1 <<< (gears0 &&& 31)), .int p1z]) (h' := [.inr (6, [.ref 500, .ref 501, .ref 502, .ref 503, .ref 504, .ref 505, .ref 506, .ref 507, .ref 508, .long safeTable0, .int lines0, .int wheelLines0, .int gears0, .int rows0])]) (by decide) rfl trivial ?_
    refine pz_if okX6_hasGears 7 (r := []) (c := (1 <<< (gears0 &&& 31)) ≤ p1z) (t := 18) (f := 14) rfl rfl (fun c2 => ?_) (fun c2 => ?_)
    · refine pz_g okX6_hasGears 10 1 (cs := []) (pc' := 19) (ls' := [(0, .ref 0), (1, .int p1z)]) (st' := [.int 0]) (h' := [.inr (6, [.ref 500, .ref 501, .ref 502, .ref 503, .ref 504, .ref 505, .ref 506, .ref 507, .ref 508, .long safeTable0, .int lines0, .int wheelLines0, .int gears0, .int rows0])]) (by decide) rfl trivial ?_
      exact pz_ri_ okX6_hasGears 11 rfl rfl (by decide) (by first | exact hP | simpa only [fX6_hasGears_r, if_neg c1, if_pos c2] using hP)
    · refine pz_g okX6_hasGears 8 1 (cs := []) (pc' := 15) (ls' := [(0, .ref 0), (1, .int p1z)]) (st' := [.int 1]) (h' := [.inr (6, [.ref 500, .ref 501, .ref 502, .ref 503, .ref 504, .ref 505, .ref 506, .ref 507, .ref 508, .long safeTable0, .int lines0, .int wheelLines0, .int gears0, .int rows0])]) (by decide) rfl trivial ?_
      refine pz_j okX6_hasGears 9 (t := 19) rfl rfl ?_
      exact pz_ri_ okX6_hasGears 11 rfl rfl (by decide) (by first | exact hP | simpa only [fX6_hasGears_r, if_neg c1, if_neg c2] using hP)
set_option maxRecDepth 100000 in
set_option maxHeartbeats 4000000 in
theorem tFX6_rowOrder (fu : Nat) (p1z : Int32) (p2z : Int32) (safeTable0 : Int64) (lines0 : Int32) (wheelLines0 : Int32) (gears0 : Int32) (rows0 : Int32) (rowOrders0 : Nat → Int32) (R : Int32) (hF : FX6_rowOrder fu p1z p2z rows0 rowOrders0 = some R) : pz_T mX6_rowOrder 2 0 0 [.ref 0, .int p1z, .int p2z] [.inr (6, [.ref 500, .ref 501, .ref 502, .ref 503, .ref 504, .ref 505, .ref 506, .ref 507, .ref 1, .long safeTable0, .int lines0, .int wheelLines0, .int gears0, .int rows0]), .inl (0, 72, .inl rowOrders0)] (fun r h => r = some (.int R) ∧ h = [.inr (6, [.ref 500, .ref 501, .ref 502, .ref 503, .ref 504, .ref 505, .ref 506, .ref 507, .ref 1, .long safeTable0, .int lines0, .int wheelLines0, .int gears0, .int rows0]), .inl (0, 72, .inl rowOrders0)]) := by
  refine pz_en2 (by decide +kernel) (Nat.le_of_ble_eq_true rfl) (fun P hP => ?_)
  show pz_W mX6_rowOrder 2 0 0 2 P 0 [(0, .ref 0), (1, .int p1z), (2, .int p2z)] [] _ 0 0
  rw [FX6_rowOrder] at hF
  refine pz_g okX6_rowOrder 0 2 (cs := []) (pc' := 2) (ls' := [(0, .ref 0), (1, .int p1z), (2, .int p2z)]) (st' := [.int p1z, .ref 0]) (h' := [.inr (6, [.ref 500, .ref 501, .ref 502, .ref 503, .ref 504, .ref 505, .ref 506, .ref 507, .ref 1, .long safeTable0, .int lines0, .int wheelLines0, .int gears0, .int rows0]), .inl (0, 72, .inl rowOrders0)]) (by decide) rfl trivial ?_
  refine pz_cv (M' := mX6_hasRow) (rest0 := []) (ci := 6) (q := (RX6, TX6, 14)) okX6_rowOrder 2 rfl lkX6_69 cvX6_hasRow [0] [500, 501, 502, 503, 504, 505, 506, 507, 1] (tX6_hasRow p1z safeTable0 lines0 wheelLines0 gears0 rows0) (by decide) rfl rfl rfl rfl rfl (by decide) (by decide) (by decide) (Nat.le_of_ble_eq_true rfl) rfl (pz_one (st2 := [.int (fX6_hasRow_r p1z rows0)]) (h2 := [.inr (6, [.ref 500, .ref 501, .ref 502, .ref 503, .ref 504, .ref 505, .ref 506, .ref 507, .ref 1, .long safeTable0, .int lines0, .int wheelLines0, .int gears0, .int rows0]), .inl (0, 72, .inl rowOrders0)]) rfl rfl rfl ?_)
  refine pz_if okX6_rowOrder 3 (r := []) (c := (fX6_hasRow_r p1z rows0) = 0) (t := 32) (f := 8) rfl rfl (fun c1 => ?_) (fun c1 => ?_)
  · replace hF := pz_ip c1 hF
    refine pz_g okX6_rowOrder 18 1 (cs := []) (pc' := 33) (ls' := [(0, .ref 0), (1, .int p1z), (2, .int p2z)]) (st' := [.int 0]) (h' := [.inr (6, [.ref 500, .ref 501, .ref 502, .ref 503, .ref 504, .ref 505, .ref 506, .ref 507, .ref 1, .long safeTable0, .int lines0, .int wheelLines0, .int gears0, .int rows0]), .inl (0, 72, .inl rowOrders0)]) (by decide) rfl trivial ?_
    cases hF
    exact pz_ri_ okX6_rowOrder 19 rfl rfl rfl hP
  · replace hF := pz_ne c1 hF
    refine pz_g okX6_rowOrder 4 1 (cs := []) (pc' := 9) (ls' := [(0, .ref 0), (1, .int p1z), (2, .int p2z)]) (st' := [.int p2z]) (h' := [.inr (6, [.ref 500, .ref 501, .ref 502, .ref 503, .ref 504, .ref 505, .ref 506, .ref 507, .ref 1, .long safeTable0, .int lines0, .int wheelLines0, .int gears0, .int rows0]), .inl (0, 72, .inl rowOrders0)]) (by decide) rfl trivial ?_
    refine pz_if okX6_rowOrder 5 (r := []) (c := p2z < 0) (t := 32) (f := 12) rfl rfl (fun c2 => ?_) (fun c2 => ?_)
    · replace hF := pz_ip c2 hF
      refine pz_g okX6_rowOrder 18 1 (cs := []) (pc' := 33) (ls' := [(0, .ref 0), (1, .int p1z), (2, .int p2z)]) (st' := [.int 0]) (h' := [.inr (6, [.ref 500, .ref 501, .ref 502, .ref 503, .ref 504, .ref 505, .ref 506, .ref 507, .ref 1, .long safeTable0, .int lines0, .int wheelLines0, .int gears0, .int rows0]), .inl (0, 72, .inl rowOrders0)]) (by decide) rfl trivial ?_
      cases hF
      exact pz_ri_ okX6_rowOrder 19 rfl rfl rfl hP
    · replace hF := pz_ne c2 hF
      refine pz_g okX6_rowOrder 6 2 (cs := []) (pc' := 15) (ls' := [(0, .ref 0), (1, .int p1z), (2, .int p2z)]) (st' := [.int 12, .int p2z]) (h' := [.inr (6, [.ref 500, .ref 501, .ref 502, .ref 503, .ref 504, .ref 505, .ref 506, .ref 507, .ref 1, .long safeTable0, .int lines0, .int wheelLines0, .int gears0, .int rows0]), .inl (0, 72, .inl rowOrders0)]) (by decide) rfl trivial ?_
      refine pz_if okX6_rowOrder 8 (r := []) (c := 12 ≤ p2z) (t := 32) (f := 18) rfl rfl (fun c3 => ?_) (fun c3 => ?_)
      · replace hF := pz_ip c3 hF
        refine pz_g okX6_rowOrder 18 1 (cs := []) (pc' := 33) (ls' := [(0, .ref 0), (1, .int p1z), (2, .int p2z)]) (st' := [.int 0]) (h' := [.inr (6, [.ref 500, .ref 501, .ref 502, .ref 503, .ref 504, .ref 505, .ref 506, .ref 507, .ref 1, .long safeTable0, .int lines0, .int wheelLines0, .int gears0, .int rows0]), .inl (0, 72, .inl rowOrders0)]) (by decide) rfl trivial ?_
        cases hF
        exact pz_ri_ okX6_rowOrder 19 rfl rfl rfl hP
      · replace hF := pz_ne c3 hF
        obtain ⟨g4, hF⟩ := pz_gd hF
        refine pz_g okX6_rowOrder 9 8 (cs := [vp_in ((p1z * 12) + p2z) 72]) (pc' := 29) (ls' := [(0, .ref 0), (1, .int p1z), (2, .int p2z)]) (st' := [.int (rowOrders0 ((p1z * 12) + p2z).toNatClampNeg)]) (h' := [.inr (6, [.ref 500, .ref 501, .ref 502, .ref 503, .ref 504, .ref 505, .ref 506, .ref 507, .ref 1, .long safeTable0, .int lines0, .int wheelLines0, .int gears0, .int rows0]), .inl (0, 72, .inl rowOrders0)]) (by decide) rfl (pz_ac (pz_inb_ok g4) trivial) ?_
        refine pz_j okX6_rowOrder 17 (t := 33) rfl rfl ?_
        cases hF
        exact pz_ri_ okX6_rowOrder 19 rfl rfl rfl hP
set_option maxRecDepth 100000 in
set_option maxHeartbeats 4000000 in
theorem tFX6_orderOfRow (fu : Nat) (p1z : Int32) (p2z : Int32) (safeTable0 : Int64) (lines0 : Int32) (wheelLines0 : Int32) (gears0 : Int32) (rows0 : Int32) (rowSteps0 : Nat → Int32) (rowLengths0 : Nat → Int32) (rowOrders0 : Nat → Int32) (R : Int32) (hF : FX6_orderOfRow fu p1z p2z rows0 rowSteps0 rowLengths0 rowOrders0 = some R) : pz_T mX6_orderOfRow 3 0 0 [.ref 0, .int p1z, .int p2z] [.inr (6, [.ref 500, .ref 501, .ref 502, .ref 503, .ref 504, .ref 505, .ref 1, .ref 2, .ref 3, .long safeTable0, .int lines0, .int wheelLines0, .int gears0, .int rows0]), .inl (0, 6, .inl rowSteps0), .inl (0, 6, .inl rowLengths0), .inl (0, 72, .inl rowOrders0)] (fun r h => r = some (.int R) ∧ h = [.inr (6, [.ref 500, .ref 501, .ref 502, .ref 503, .ref 504, .ref 505, .ref 1, .ref 2, .ref 3, .long safeTable0, .int lines0, .int wheelLines0, .int gears0, .int rows0]), .inl (0, 6, .inl rowSteps0), .inl (0, 6, .inl rowLengths0), .inl (0, 72, .inl rowOrders0)]) := by
  refine pz_en2 (by decide +kernel) (Nat.le_of_ble_eq_true rfl) (fun P hP => ?_)
  show pz_W mX6_orderOfRow 3 0 0 4 P 0 [(0, .ref 0), (1, .int p1z), (2, .int p2z)] [] _ 0 0
  rw [FX6_orderOfRow] at hF
  refine pz_g okX6_orderOfRow 0 2 (cs := []) (pc' := 2) (ls' := [(0, .ref 0), (1, .int p1z), (2, .int p2z)]) (st' := [.int p1z, .ref 0]) (h' := [.inr (6, [.ref 500, .ref 501, .ref 502, .ref 503, .ref 504, .ref 505, .ref 1, .ref 2, .ref 3, .long safeTable0, .int lines0, .int wheelLines0, .int gears0, .int rows0]), .inl (0, 6, .inl rowSteps0), .inl (0, 6, .inl rowLengths0), .inl (0, 72, .inl rowOrders0)]) (by decide) rfl trivial ?_
  refine pz_cv (M' := mX6_hasRow) (rest0 := []) (ci := 6) (q := (RX6, TX6, 14)) okX6_orderOfRow 2 rfl lkX6_69 cvX6_hasRow [0] [500, 501, 502, 503, 504, 505, 1, 2, 3] (tX6_hasRow p1z safeTable0 lines0 wheelLines0 gears0 rows0) (by decide) rfl rfl rfl rfl rfl (by decide) (by decide) (by decide) (Nat.le_of_ble_eq_true rfl) rfl (pz_one (st2 := [.int (fX6_hasRow_r p1z rows0)]) (h2 := [.inr (6, [.ref 500, .ref 501, .ref 502, .ref 503, .ref 504, .ref 505, .ref 1, .ref 2, .ref 3, .long safeTable0, .int lines0, .int wheelLines0, .int gears0, .int rows0]), .inl (0, 6, .inl rowSteps0), .inl (0, 6, .inl rowLengths0), .inl (0, 72, .inl rowOrders0)]) rfl rfl rfl ?_)
  refine pz_if okX6_orderOfRow 3 (r := []) (c := (fX6_hasRow_r p1z rows0) = 0) (t := 18) (f := 8) rfl rfl (fun c1 => ?_) (fun c1 => ?_)
  · replace hF := pz_ip c1 hF
    refine pz_g okX6_orderOfRow 10 1 (cs := []) (pc' := 19) (ls' := [(0, .ref 0), (1, .int p1z), (2, .int p2z)]) (st' := [.int 0]) (h' := [.inr (6, [.ref 500, .ref 501, .ref 502, .ref 503, .ref 504, .ref 505, .ref 1, .ref 2, .ref 3, .long safeTable0, .int lines0, .int wheelLines0, .int gears0, .int rows0]), .inl (0, 6, .inl rowSteps0), .inl (0, 6, .inl rowLengths0), .inl (0, 72, .inl rowOrders0)]) (by decide) rfl trivial ?_
    cases hF
    exact pz_ri_ okX6_orderOfRow 11 rfl rfl rfl hP
  · replace hF := pz_ne c1 hF
    obtain ⟨g2, hF⟩ := pz_gd hF
    refine pz_g okX6_orderOfRow 4 5 (cs := [vp_in p1z 6]) (pc' := 15) (ls' := [(0, .ref 0), (1, .int p1z), (2, .int p2z)]) (st' := [.int 1, .int (rowSteps0 p1z.toNatClampNeg)]) (h' := [.inr (6, [.ref 500, .ref 501, .ref 502, .ref 503, .ref 504, .ref 505, .ref 1, .ref 2, .ref 3, .long safeTable0, .int lines0, .int wheelLines0, .int gears0, .int rows0]), .inl (0, 6, .inl rowSteps0), .inl (0, 6, .inl rowLengths0), .inl (0, 72, .inl rowOrders0)]) (by decide) rfl (pz_ac (pz_inb_ok g2) trivial) ?_
    refine pz_if okX6_orderOfRow 9 (r := []) (c := 1 ≤ (rowSteps0 p1z.toNatClampNeg)) (t := 20) (f := 18) rfl rfl (fun c3 => ?_) (fun c3 => ?_)
    · replace hF := pz_ip c3 hF
      obtain ⟨g4, hF⟩ := pz_gd hF
      obtain ⟨g5, hF⟩ := pz_gd hF
      obtain ⟨g6, hF⟩ := pz_gd hF
      refine pz_g okX6_orderOfRow 12 16 (cs := [vp_in p1z 6, ¬ (rowSteps0 p1z.toNatClampNeg) = 0, vp_in p1z 6]) (pc' := 40) (ls' := [(0, .ref 0), (1, .int p1z), (2, .int p2z)]) (st' := [.int ((rowLengths0 p1z.toNatClampNeg) - 1), .int ((p2z - 1) / (rowSteps0 p1z.toNatClampNeg)), .int p1z, .ref 0]) (h' := [.inr (6, [.ref 500, .ref 501, .ref 502, .ref 503, .ref 504, .ref 505, .ref 1, .ref 2, .ref 3, .long safeTable0, .int lines0, .int wheelLines0, .int gears0, .int rows0]), .inl (0, 6, .inl rowSteps0), .inl (0, 6, .inl rowLengths0), .inl (0, 72, .inl rowOrders0)]) (by decide) rfl (pz_ac (pz_inb_ok g4) (pz_ac g5 (pz_ac (pz_inb_ok g6) trivial))) ?_
      refine pz_cs (M' := mJ9_min_7cf53) (rest0 := [.int p1z, .ref 0]) okX6_orderOfRow 28 rfl lkX6_73 csJ9_min_7cf53 [] [] (tJ9_min_7cf53 ((p2z - 1) / (rowSteps0 p1z.toNatClampNeg)) ((rowLengths0 p1z.toNatClampNeg) - 1)) (by decide) rfl rfl (by decide) (by decide) (by decide) (Nat.le_of_ble_eq_true rfl) rfl (pz_one (st2 := [.int (fJ9_min_7cf53_r ((p2z - 1) / (rowSteps0 p1z.toNatClampNeg)) ((rowLengths0 p1z.toNatClampNeg) - 1)), .int p1z, .ref 0]) (h2 := [.inr (6, [.ref 500, .ref 501, .ref 502, .ref 503, .ref 504, .ref 505, .ref 1, .ref 2, .ref 3, .long safeTable0, .int lines0, .int wheelLines0, .int gears0, .int rows0]), .inl (0, 6, .inl rowSteps0), .inl (0, 6, .inl rowLengths0), .inl (0, 72, .inl rowOrders0)]) rfl rfl rfl ?_)
      obtain ⟨y7z, hy7z, hF⟩ := pz_bd hF
      refine pz_cv (M' := mX6_rowOrder) (rest0 := []) (ci := 6) (q := (RX6, TX6, 14)) okX6_orderOfRow 29 rfl lkX6_79 cvX6_rowOrder [0, 3] [500, 501, 502, 503, 504, 505, 1, 2] (tFX6_rowOrder fu p1z (fJ9_min_7cf53_r ((p2z - 1) / (rowSteps0 p1z.toNatClampNeg)) ((rowLengths0 p1z.toNatClampNeg) - 1)) safeTable0 lines0 wheelLines0 gears0 rows0 rowOrders0 y7z hy7z) (by decide) rfl rfl rfl rfl rfl (by decide) (by decide) (by decide) (Nat.le_of_ble_eq_true rfl) rfl (pz_one (st2 := [.int y7z]) (h2 := [.inr (6, [.ref 500, .ref 501, .ref 502, .ref 503, .ref 504, .ref 505, .ref 1, .ref 2, .ref 3, .long safeTable0, .int lines0, .int wheelLines0, .int gears0, .int rows0]), .inl (0, 6, .inl rowSteps0), .inl (0, 6, .inl rowLengths0), .inl (0, 72, .inl rowOrders0)]) rfl rfl rfl ?_)
      cases hF
      exact pz_ri_ okX6_orderOfRow 30 rfl rfl rfl hP
    · replace hF := pz_ne c3 hF
      refine pz_g okX6_orderOfRow 10 1 (cs := []) (pc' := 19) (ls' := [(0, .ref 0), (1, .int p1z), (2, .int p2z)]) (st' := [.int 0]) (h' := [.inr (6, [.ref 500, .ref 501, .ref 502, .ref 503, .ref 504, .ref 505, .ref 1, .ref 2, .ref 3, .long safeTable0, .int lines0, .int wheelLines0, .int gears0, .int rows0]), .inl (0, 6, .inl rowSteps0), .inl (0, 6, .inl rowLengths0), .inl (0, 72, .inl rowOrders0)]) (by decide) rfl trivial ?_
      cases hF
      exact pz_ri_ okX6_orderOfRow 11 rfl rfl rfl hP
set_option maxRecDepth 100000 in
set_option maxHeartbeats 4000000 in
theorem tX2_clear (counted0 : Int32) (written0 : Int32) : pz_T mX2_clear 1 0 0 [.ref 0] [.inr (2, [.ref 500, .ref 501, .ref 502, .int counted0, .int written0])] (fun r h => r = none ∧ h = [.inr (2, [.ref 500, .ref 501, .ref 502, .int 0, .int 0])]) := by
  refine pz_en2 (by decide +kernel) (Nat.le_of_ble_eq_true rfl) (fun P hP => ?_)
  show pz_W mX2_clear 1 0 0 1 P 0 [(0, .ref 0)] [] _ 0 0
  refine pz_g okX2_clear 0 6 (cs := []) (pc' := 10) (ls' := [(0, .ref 0)]) (st' := []) (h' := [.inr (2, [.ref 500, .ref 501, .ref 502, .int 0, .int 0])]) (by decide) rfl trivial ?_
  exact pz_rv_ okX2_clear 6 rfl rfl hP
set_option maxRecDepth 100000 in
set_option maxHeartbeats 4000000 in
theorem tX2_addOne (counted0 : Int32) (written0 : Int32) : pz_T mX2_addOne 1 0 0 [.ref 0] [.inr (2, [.ref 500, .ref 501, .ref 502, .int counted0, .int written0])] (fun r h => r = some (.int (fX2_addOne_r counted0)) ∧ h = [.inr (2, [.ref 500, .ref 501, .ref 502, .int (fX2_addOne_f0_3 counted0), .int written0])]) := by
  refine pz_en2 (by decide +kernel) (Nat.le_of_ble_eq_true rfl) (fun P hP => ?_)
  show pz_W mX2_addOne 1 0 0 1 P 0 [(0, .ref 0)] [] _ 0 0
  refine pz_g okX2_addOne 0 3 (cs := []) (pc' := 6) (ls' := [(0, .ref 0)]) (st' := [.int 64, .int counted0]) (h' := [.inr (2, [.ref 500, .ref 501, .ref 502, .int counted0, .int written0])]) (by decide) rfl trivial ?_
  refine pz_if okX2_addOne 3 (r := []) (c := counted0 < 64) (t := 11) (f := 9) rfl rfl (fun c1 => ?_) (fun c1 => ?_)
  · refine pz_g okX2_addOne 6 7 (cs := []) (pc' := 22) (ls' := [(0, .ref 0)]) (st' := [.int 1]) (h' := [.inr (2, [.ref 500, .ref 501, .ref 502, .int (counted0 + 1), .int written0])]) (by decide) rfl trivial ?_
    exact pz_ri_ okX2_addOne 13 rfl rfl (by decide) (by first | exact hP | simpa only [fX2_addOne_r, fX2_addOne_f0_3, if_pos c1] using hP)
  · refine pz_g okX2_addOne 4 1 (cs := []) (pc' := 10) (ls' := [(0, .ref 0)]) (st' := [.int 0]) (h' := [.inr (2, [.ref 500, .ref 501, .ref 502, .int counted0, .int written0])]) (by decide) rfl trivial ?_
    exact pz_ri_ okX2_addOne 5 rfl rfl (by decide) (by first | exact hP | simpa only [fX2_addOne_r, fX2_addOne_f0_3, if_neg c1] using hP)
set_option maxRecDepth 100000 in
set_option maxHeartbeats 4000000 in
theorem tFX2_write (fu : Nat) (p1z : Int32) (p2z : Int32) (counted0 : Int32) (written0 : Int32) (knots0 : Nat → Int32) (places0 : Nat → Int32) (R : Int32 × (Nat → Int32) × (Nat → Int32)) (hF : FX2_write fu p1z p2z written0 knots0 places0 = some R) : pz_T mX2_write 1 0 0 [.ref 0, .int p1z, .int p2z] [.inr (2, [.ref 1, .ref 2, .ref 500, .int counted0, .int written0]), .inl (0, 64, .inl knots0), .inl (0, 64, .inl places0)] (fun r h => r = none ∧ h = [.inr (2, [.ref 1, .ref 2, .ref 500, .int counted0, .int R.1]), .inl (0, 64, .inl R.2.1), .inl (0, 64, .inl R.2.2)]) := by
  refine pz_en2 (by decide +kernel) (Nat.le_of_ble_eq_true rfl) (fun P hP => ?_)
  show pz_W mX2_write 1 0 0 3 P 0 [(0, .ref 0), (1, .int p1z), (2, .int p2z)] [] _ 0 0
  rw [FX2_write] at hF
  refine pz_g okX2_write 0 3 (cs := []) (pc' := 6) (ls' := [(0, .ref 0), (1, .int p1z), (2, .int p2z)]) (st' := [.int 64, .int written0]) (h' := [.inr (2, [.ref 1, .ref 2, .ref 500, .int counted0, .int written0]), .inl (0, 64, .inl knots0), .inl (0, 64, .inl places0)]) (by decide) rfl trivial ?_
  refine pz_if okX2_write 3 (r := []) (c := 64 ≤ written0) (t := 39) (f := 9) rfl rfl (fun c1 => ?_) (fun c1 => ?_)
  · replace hF := pz_ip c1 hF
    cases hF
    exact pz_rv_ okX2_write 22 rfl rfl hP
  · replace hF := pz_ne c1 hF
    obtain ⟨g2, hF⟩ := pz_gd hF
    obtain ⟨g3, hF⟩ := pz_gd hF
    refine pz_g okX2_write 4 18 (cs := [vp_in written0 64, vp_in written0 64]) (pc' := 39) (ls' := [(0, .ref 0), (1, .int p1z), (2, .int p2z)]) (st' := []) (h' := [.inr (2, [.ref 1, .ref 2, .ref 500, .int counted0, .int (written0 + 1)]), .inl (0, 64, .inl (upd knots0 written0.toNatClampNeg p1z)), .inl (0, 64, .inl (upd places0 written0.toNatClampNeg p2z))]) (by decide) rfl (pz_ac (pz_inb_ok g2) (pz_ac (pz_inb_ok g3) trivial)) ?_
    cases hF
    exact pz_rv_ okX2_write 22 rfl rfl hP
set_option maxRecDepth 100000 in
set_option maxHeartbeats 4000000 in
theorem uFX2_settleGears_L (fu : Nat) (counted0 : Int32) (written0 : Int32) (places0 : Nat → Int32) (safeTable4 : Int64) (lines4 : Int32) (wheelLines4 : Int32) (gears4 : Int32) (rows4 : Int32) (names4 : Nat → Int32) : ∀ n : Nat, (∀ (v2z : Int32) (knots0 : Nat → Int32) (R : Int32 × (Nat → Int32)) (P : Option Value → pz_H → Prop), P (some (.int R.1)) [.inr (2, [.ref 1, .ref 2, .ref 500, .int counted0, .int written0]), .inl (0, 64, .inl R.2), .inl (0, 64, .inl places0), .inr (6, [.ref 501, .ref 502, .ref 503, .ref 504, .ref 4, .ref 505, .ref 506, .ref 507, .ref 508, .long safeTable4, .int lines4, .int wheelLines4, .int gears4, .int rows4]), .inl (0, 6, .inl names4)] → FX2_settleGears_L fu written0 places0 gears4 names4 n v2z knots0 = some R → pz_W mX2_settleGears 2 0 0 5 P 2 [(0, .ref 0), (1, .ref 3), (2, .int v2z)] [] [.inr (2, [.ref 1, .ref 2, .ref 500, .int counted0, .int written0]), .inl (0, 64, .inl knots0), .inl (0, 64, .inl places0), .inr (6, [.ref 501, .ref 502, .ref 503, .ref 504, .ref 4, .ref 505, .ref 506, .ref 507, .ref 508, .long safeTable4, .int lines4, .int wheelLines4, .int gears4, .int rows4]), .inl (0, 6, .inl names4)] 0 0) := by
  intro n
  induction n with
  | zero => exact (fun v2z knots0 R P hP hF => by cases hF)
  | succ n ih =>
    intro v2z knots0 R P hP hF
    rw [FX2_settleGears_L] at hF
    refine pz_g okX2_settleGears 2 3 (cs := []) (pc' := 7) (ls' := [(0, .ref 0), (1, .ref 3), (2, .int v2z)]) (st' := [.int written0, .int v2z]) (h' := [.inr (2, [.ref 1, .ref 2, .ref 500, .int counted0, .int written0]), .inl (0, 64, .inl knots0), .inl (0, 64, .inl places0), .inr (6, [.ref 501, .ref 502, .ref 503, .ref 504, .ref 4, .ref 505, .ref 506, .ref 507, .ref 508, .long safeTable4, .int lines4, .int wheelLines4, .int gears4, .int rows4]), .inl (0, 6, .inl names4)]) (by decide) rfl trivial ?_
    refine pz_if okX2_settleGears 5 (r := []) (c := written0 ≤ v2z) (t := 55) (f := 10) rfl rfl (fun c1 => ?_) (fun c1 => ?_)
    · replace hF := pz_ip c1 hF
      refine pz_g okX2_settleGears 33 1 (cs := []) (pc' := 56) (ls' := [(0, .ref 0), (1, .ref 3), (2, .int v2z)]) (st' := [.int (-1)]) (h' := [.inr (2, [.ref 1, .ref 2, .ref 500, .int counted0, .int written0]), .inl (0, 64, .inl knots0), .inl (0, 64, .inl places0), .inr (6, [.ref 501, .ref 502, .ref 503, .ref 504, .ref 4, .ref 505, .ref 506, .ref 507, .ref 508, .long safeTable4, .int lines4, .int wheelLines4, .int gears4, .int rows4]), .inl (0, 6, .inl names4)]) (by decide) rfl trivial ?_
      cases hF
      exact pz_ri_ okX2_settleGears 34 rfl rfl rfl hP
    · replace hF := pz_ne c1 hF
      obtain ⟨g2, hF⟩ := pz_gd hF
      refine pz_g okX2_settleGears 6 4 (cs := [vp_in v2z 64]) (pc' := 16) (ls' := [(0, .ref 0), (1, .ref 3), (2, .int v2z)]) (st' := [.int (knots0 v2z.toNatClampNeg)]) (h' := [.inr (2, [.ref 1, .ref 2, .ref 500, .int counted0, .int written0]), .inl (0, 64, .inl knots0), .inl (0, 64, .inl places0), .inr (6, [.ref 501, .ref 502, .ref 503, .ref 504, .ref 4, .ref 505, .ref 506, .ref 507, .ref 508, .long safeTable4, .int lines4, .int wheelLines4, .int gears4, .int rows4]), .inl (0, 6, .inl names4)]) (by decide) rfl (pz_ac (pz_inb_ok g2) trivial) ?_
      refine pz_if okX2_settleGears 10 (r := []) (c := (knots0 v2z.toNatClampNeg) < 0) (t := 49) (f := 19) rfl rfl (fun c3 => ?_) (fun c3 => ?_)
      · replace hF := pz_ip c3 hF
        refine pz_g okX2_settleGears 31 1 (cs := []) (pc' := 52) (ls' := [(0, .ref 0), (1, .ref 3), (2, .int (v2z + 1))]) (st' := []) (h' := [.inr (2, [.ref 1, .ref 2, .ref 500, .int counted0, .int written0]), .inl (0, 64, .inl knots0), .inl (0, 64, .inl places0), .inr (6, [.ref 501, .ref 502, .ref 503, .ref 504, .ref 4, .ref 505, .ref 506, .ref 507, .ref 508, .long safeTable4, .int lines4, .int wheelLines4, .int gears4, .int rows4]), .inl (0, 6, .inl names4)]) (by decide) rfl trivial ?_
        refine pz_j okX2_settleGears 32 (t := 2) rfl rfl ?_
        exact ih (v2z + 1) knots0 R P hP hF
      · replace hF := pz_ne c3 hF
        obtain ⟨g4, hF⟩ := pz_gd hF
        refine pz_g okX2_settleGears 11 5 (cs := [vp_in v2z 64]) (pc' := 26) (ls' := [(0, .ref 0), (1, .ref 3), (2, .int v2z)]) (st' := [.int (knots0 v2z.toNatClampNeg), .ref 3]) (h' := [.inr (2, [.ref 1, .ref 2, .ref 500, .int counted0, .int written0]), .inl (0, 64, .inl knots0), .inl (0, 64, .inl places0), .inr (6, [.ref 501, .ref 502, .ref 503, .ref 504, .ref 4, .ref 505, .ref 506, .ref 507, .ref 508, .long safeTable4, .int lines4, .int wheelLines4, .int gears4, .int rows4]), .inl (0, 6, .inl names4)]) (by decide) rfl (pz_ac (pz_inb_ok g4) trivial) ?_
        obtain ⟨y5z, hy5z, hF⟩ := pz_bd hF
        refine pz_cv (M' := mX6_gearOf) (rest0 := []) (ci := 6) (q := (RX6, TX6, 14)) okX2_settleGears 16 rfl lkX2_35 cvX6_gearOf [3, 4] [501, 502, 503, 504, 505, 506, 507, 508] (tFX6_gearOf fu (knots0 v2z.toNatClampNeg) safeTable4 lines4 wheelLines4 gears4 rows4 names4 y5z hy5z) (by decide) rfl rfl rfl rfl rfl (by decide) (by decide) (by decide) (Nat.le_of_ble_eq_true rfl) rfl (pz_one (st2 := [.int y5z]) (h2 := [.inr (2, [.ref 1, .ref 2, .ref 500, .int counted0, .int written0]), .inl (0, 64, .inl knots0), .inl (0, 64, .inl places0), .inr (6, [.ref 501, .ref 502, .ref 503, .ref 504, .ref 4, .ref 505, .ref 506, .ref 507, .ref 508, .long safeTable4, .int lines4, .int wheelLines4, .int gears4, .int rows4]), .inl (0, 6, .inl names4)]) rfl rfl rfl ?_)
        refine pz_g okX2_settleGears 17 3 (cs := []) (pc' := 32) (ls' := [(0, .ref 0), (1, .ref 3), (2, .int v2z), (3, .int y5z)]) (st' := [.int (-1), .int y5z]) (h' := [.inr (2, [.ref 1, .ref 2, .ref 500, .int counted0, .int written0]), .inl (0, 64, .inl knots0), .inl (0, 64, .inl places0), .inr (6, [.ref 501, .ref 502, .ref 503, .ref 504, .ref 4, .ref 505, .ref 506, .ref 507, .ref 508, .long safeTable4, .int lines4, .int wheelLines4, .int gears4, .int rows4]), .inl (0, 6, .inl names4)]) (by decide) rfl trivial ?_
        refine pz_if okX2_settleGears 20 (r := []) (c := ¬ y5z = (-1)) (t := 42) (f := 35) rfl rfl (fun c6 => ?_) (fun c6 => ?_)
        · replace hF := pz_ip c6 hF
          obtain ⟨g7, hF⟩ := pz_gd hF
          refine pz_g okX2_settleGears 26 6 (cs := [vp_in v2z 64]) (pc' := 52) (ls' := [(0, .ref 0), (1, .ref 3), (2, .int (v2z + 1)), (3, .int y5z)]) (st' := []) (h' := [.inr (2, [.ref 1, .ref 2, .ref 500, .int counted0, .int written0]), .inl (0, 64, .inl (upd knots0 v2z.toNatClampNeg y5z)), .inl (0, 64, .inl places0), .inr (6, [.ref 501, .ref 502, .ref 503, .ref 504, .ref 4, .ref 505, .ref 506, .ref 507, .ref 508, .long safeTable4, .int lines4, .int wheelLines4, .int gears4, .int rows4]), .inl (0, 6, .inl names4)]) (by decide) rfl (pz_ac (pz_inb_ok g7) trivial) ?_
          refine pz_j okX2_settleGears 32 (t := 2) rfl rfl ?_
          refine pz_keep [0, 1, 2] (ls' := [(0, .ref 0), (1, .ref 3), (2, .int (v2z + 1))]) rfl ?_
          exact ih (v2z + 1) (upd knots0 v2z.toNatClampNeg y5z) R P hP hF
        · replace hF := pz_ne c6 hF
          obtain ⟨g8, hF⟩ := pz_gd hF
          refine pz_g okX2_settleGears 21 4 (cs := [vp_in v2z 64]) (pc' := 41) (ls' := [(0, .ref 0), (1, .ref 3), (2, .int v2z), (3, .int y5z)]) (st' := [.int (places0 v2z.toNatClampNeg)]) (h' := [.inr (2, [.ref 1, .ref 2, .ref 500, .int counted0, .int written0]), .inl (0, 64, .inl knots0), .inl (0, 64, .inl places0), .inr (6, [.ref 501, .ref 502, .ref 503, .ref 504, .ref 4, .ref 505, .ref 506, .ref 507, .ref 508, .long safeTable4, .int lines4, .int wheelLines4, .int gears4, .int rows4]), .inl (0, 6, .inl names4)]) (by decide) rfl (pz_ac (pz_inb_ok g8) trivial) ?_
          cases hF
          exact pz_ri_ okX2_settleGears 25 rfl rfl rfl hP
set_option maxRecDepth 100000 in
set_option maxHeartbeats 4000000 in
theorem tFX2_settleGears (fu : Nat) (counted0 : Int32) (written0 : Int32) (knots0 : Nat → Int32) (places0 : Nat → Int32) (safeTable4 : Int64) (lines4 : Int32) (wheelLines4 : Int32) (gears4 : Int32) (rows4 : Int32) (names4 : Nat → Int32) (R : Int32 × (Nat → Int32)) (hF : FX2_settleGears fu written0 knots0 places0 gears4 names4 = some R) : pz_T mX2_settleGears 2 0 0 [.ref 0, .ref 3] [.inr (2, [.ref 1, .ref 2, .ref 500, .int counted0, .int written0]), .inl (0, 64, .inl knots0), .inl (0, 64, .inl places0), .inr (6, [.ref 501, .ref 502, .ref 503, .ref 504, .ref 4, .ref 505, .ref 506, .ref 507, .ref 508, .long safeTable4, .int lines4, .int wheelLines4, .int gears4, .int rows4]), .inl (0, 6, .inl names4)] (fun r h => r = some (.int R.1) ∧ h = [.inr (2, [.ref 1, .ref 2, .ref 500, .int counted0, .int written0]), .inl (0, 64, .inl R.2), .inl (0, 64, .inl places0), .inr (6, [.ref 501, .ref 502, .ref 503, .ref 504, .ref 4, .ref 505, .ref 506, .ref 507, .ref 508, .long safeTable4, .int lines4, .int wheelLines4, .int gears4, .int rows4]), .inl (0, 6, .inl names4)]) := by
  refine pz_en2 (by decide +kernel) (Nat.le_of_ble_eq_true rfl) (fun P hP => ?_)
  show pz_W mX2_settleGears 2 0 0 5 P 0 [(0, .ref 0), (1, .ref 3)] [] _ 0 0
  rw [FX2_settleGears] at hF
  refine pz_g okX2_settleGears 0 2 (cs := []) (pc' := 2) (ls' := [(0, .ref 0), (1, .ref 3), (2, .int 0)]) (st' := []) (h' := [.inr (2, [.ref 1, .ref 2, .ref 500, .int counted0, .int written0]), .inl (0, 64, .inl knots0), .inl (0, 64, .inl places0), .inr (6, [.ref 501, .ref 502, .ref 503, .ref 504, .ref 4, .ref 505, .ref 506, .ref 507, .ref 508, .long safeTable4, .int lines4, .int wheelLines4, .int gears4, .int rows4]), .inl (0, 6, .inl names4)]) (by decide) rfl trivial ?_
  exact (uFX2_settleGears_L fu counted0 written0 places0 safeTable4 lines4 wheelLines4 gears4 rows4 names4 fu) (0 : Int32) knots0 R P hP hF
set_option maxRecDepth 100000 in
set_option maxHeartbeats 4000000 in
theorem tX10_forget (marks0 : Int32) (suspects0 : Int32) (fewest0 : Int32) (inSome0 : Int32) (inAll0 : Int32) (known0 : Int32) (distance0 : Int32) (start0 : Int32) : pz_T mX10_forget 1 0 0 [.ref 0] [.inr (10, [.ref 500, .ref 501, .ref 502, .ref 503, .int marks0, .ref 504, .int suspects0, .int fewest0, .int inSome0, .int inAll0, .int known0, .int distance0, .int start0])] (fun r h => r = none ∧ h = [.inr (10, [.ref 500, .ref 501, .ref 502, .ref 503, .int marks0, .ref 504, .int suspects0, .int fewest0, .int inSome0, .int inAll0, .int 0, .int distance0, .int start0])]) := by
  refine pz_en2 (by decide +kernel) (Nat.le_of_ble_eq_true rfl) (fun P hP => ?_)
  show pz_W mX10_forget 1 0 0 1 P 0 [(0, .ref 0)] [] _ 0 0
  refine pz_g okX10_forget 0 3 (cs := [0 = 0 ∨ 0 = 1]) (pc' := 5) (ls' := [(0, .ref 0)]) (st' := []) (h' := [.inr (10, [.ref 500, .ref 501, .ref 502, .ref 503, .int marks0, .ref 504, .int suspects0, .int fewest0, .int inSome0, .int inAll0, .int 0, .int distance0, .int start0])]) (by decide) rfl (pz_ac (by first | (unfold vp_in; decide) | decide) trivial) ?_
  exact pz_rv_ okX10_forget 3 rfl rfl hP
set_option maxRecDepth 100000 in
set_option maxHeartbeats 4000000 in
theorem tX10_look (p1z : Int32) (p2z : Int32) : pz_T mX10_look 1 0 0 [.int p1z, .int p2z] [] (fun r h => r = some (.int (fX10_look_r p1z p2z)) ∧ h = []) := by
  refine pz_en2 (by decide +kernel) (Nat.le_of_ble_eq_true rfl) (fun P hP => ?_)
  show pz_W mX10_look 1 0 0 0 P 0 [(0, .int p1z), (1, .int p2z)] [] _ 0 0
  refine pz_g okX10_look 0 10 (cs := []) (pc' := 12) (ls' := [(0, .int p1z), (1, .int p2z), (2, .int ((p1z >>> ((4 * p2z) &&& 31)) &&& 15))]) (st' := [.int 15, .int ((p1z >>> ((4 * p2z) &&& 31)) &&& 15)]) (h' := []) (by decide) rfl trivial ?_
  refine pz_if okX10_look 10 (r := []) (c := ¬ ((p1z >>> ((4 * p2z) &&& 31)) &&& 15) = 15) (t := 19) (f := 15) rfl rfl (fun c1 => ?_) (fun c1 => ?_)
  · refine pz_g okX10_look 13 1 (cs := []) (pc' := 20) (ls' := [(0, .int p1z), (1, .int p2z), (2, .int ((p1z >>> ((4 * p2z) &&& 31)) &&& 15))]) (st' := [.int ((p1z >>> ((4 * p2z) &&& 31)) &&& 15)]) (h' := []) (by decide) rfl trivial ?_
    exact pz_ri_ okX10_look 14 rfl rfl rfl (by first | exact hP | simpa only [fX10_look_r, if_pos c1] using hP)
  · refine pz_g okX10_look 11 1 (cs := []) (pc' := 16) (ls' := [(0, .int p1z), (1, .int p2z), (2, .int ((p1z >>> ((4 * p2z) &&& 31)) &&& 15))]) (st' := [.int (-1)]) (h' := []) (by decide) rfl trivial ?_
    refine pz_j okX10_look 12 (t := 20) rfl rfl ?_
    exact pz_ri_ okX10_look 14 rfl rfl rfl (by first | exact hP | simpa only [fX10_look_r, if_neg c1] using hP)
set_option maxRecDepth 100000 in
set_option maxHeartbeats 4000000 in
theorem tX10_bitOf (p1z : Int32) : pz_T mX10_bitOf 1 0 0 [.int p1z] [] (fun r h => r = some (.int (fX10_bitOf_r p1z)) ∧ h = []) := by
  refine pz_en2 (by decide +kernel) (Nat.le_of_ble_eq_true rfl) (fun P hP => ?_)
  show pz_W mX10_bitOf 1 0 0 0 P 0 [(0, .int p1z)] [] _ 0 0
  refine pz_g okX10_bitOf 0 2 (cs := []) (pc' := 2) (ls' := [(0, .int p1z)]) (st' := [.int (-1), .int p1z]) (h' := []) (by decide) rfl trivial ?_
  refine pz_if okX10_bitOf 2 (r := []) (c := ¬ p1z = (-1)) (t := 9) (f := 5) rfl rfl (fun c1 => ?_) (fun c1 => ?_)
  · refine pz_g okX10_bitOf 5 3 (cs := []) (pc' := 12) (ls' := [(0, .int p1z)]) (st' := [.int (1 <<< (p1z &&& 31))]) (h' := []) (by decide) rfl trivial ?_
    exact pz_ri_ okX10_bitOf 8 rfl rfl rfl (by first | exact hP | simpa only [fX10_bitOf_r, if_pos c1] using hP)
  · refine pz_g okX10_bitOf 3 1 (cs := []) (pc' := 6) (ls' := [(0, .int p1z)]) (st' := [.int 0]) (h' := []) (by decide) rfl trivial ?_
    refine pz_j okX10_bitOf 4 (t := 12) rfl rfl ?_
    exact pz_ri_ okX10_bitOf 8 rfl rfl rfl (by first | exact hP | simpa only [fX10_bitOf_r, if_neg c1] using hP)
set_option maxRecDepth 100000 in
set_option maxHeartbeats 4000000 in
theorem tX11_isOff (p1z : Int32) : pz_T mX11_isOff 1 0 0 [.int p1z] [] (fun r h => r = some (.int (fX11_isOff_r p1z)) ∧ h = []) := by
  refine pz_en2 (by decide +kernel) (Nat.le_of_ble_eq_true rfl) (fun P hP => ?_)
  show pz_W mX11_isOff 1 0 0 0 P 0 [(0, .int p1z)] [] _ 0 0
  refine pz_g okX11_isOff 0 2 (cs := []) (pc' := 4) (ls' := [(0, .int p1z)]) (st' := [.int (-1800), .int p1z]) (h' := []) (by decide) rfl trivial ?_
  refine pz_if okX11_isOff 2 (r := []) (c := p1z < (-1800)) (t := 18) (f := 7) rfl rfl (fun c1 => ?_) (fun c1 => ?_)
  · refine pz_g okX11_isOff 8 1 (cs := []) (pc' := 19) (ls' := [(0, .int p1z)]) (st' := [.int 0]) (h' := []) (by decide) rfl trivial ?_
    exact pz_ri_ okX11_isOff 9 rfl rfl (by decide) (by first | exact hP | simpa only [fX11_isOff_r, if_pos c1] using hP)
  · refine pz_g okX11_isOff 3 2 (cs := []) (pc' := 11) (ls' := [(0, .int p1z)]) (st' := [.int 1799, .int p1z]) (h' := []) (by decide) rfl trivial ?_
    refine pz_if okX11_isOff 5 (r := []) (c := 1799 < p1z) (t := 18) (f := 14) rfl rfl (fun c2 => ?_) (fun c2 => ?_)
    · refine pz_g okX11_isOff 8 1 (cs := []) (pc' := 19) (ls' := [(0, .int p1z)]) (st' := [.int 0]) (h' := []) (by decide) rfl trivial ?_
      exact pz_ri_ okX11_isOff 9 rfl rfl (by decide) (by first | exact hP | simpa only [fX11_isOff_r, if_neg c1, if_pos c2] using hP)
    · refine pz_g okX11_isOff 6 1 (cs := []) (pc' := 15) (ls' := [(0, .int p1z)]) (st' := [.int 1]) (h' := []) (by decide) rfl trivial ?_
      refine pz_j okX11_isOff 7 (t := 19) rfl rfl ?_
      exact pz_ri_ okX11_isOff 9 rfl rfl (by decide) (by first | exact hP | simpa only [fX11_isOff_r, if_neg c1, if_neg c2] using hP)
set_option maxRecDepth 100000 in
set_option maxHeartbeats 4000000 in
theorem tX11_isDistance (p1z : Int32) : pz_T mX11_isDistance 1 0 0 [.int p1z] [] (fun r h => r = some (.int (fX11_isDistance_r p1z)) ∧ h = []) := by
  refine pz_en2 (by decide +kernel) (Nat.le_of_ble_eq_true rfl) (fun P hP => ?_)
  show pz_W mX11_isDistance 1 0 0 0 P 0 [(0, .int p1z)] [] _ 0 0
  refine pz_g okX11_isDistance 0 1 (cs := []) (pc' := 1) (ls' := [(0, .int p1z)]) (st' := [.int p1z]) (h' := []) (by decide) rfl trivial ?_
  refine pz_if okX11_isDistance 1 (r := []) (c := p1z < 0) (t := 15) (f := 4) rfl rfl (fun c1 => ?_) (fun c1 => ?_)
  · refine pz_g okX11_isDistance 7 1 (cs := []) (pc' := 16) (ls' := [(0, .int p1z)]) (st' := [.int 0]) (h' := []) (by decide) rfl trivial ?_
    exact pz_ri_ okX11_isDistance 8 rfl rfl (by decide) (by first | exact hP | simpa only [fX11_isDistance_r, if_pos c1] using hP)
  · refine pz_g okX11_isDistance 2 2 (cs := []) (pc' := 8) (ls' := [(0, .int p1z)]) (st' := [.int 3600, .int p1z]) (h' := []) (by decide) rfl trivial ?_
    refine pz_if okX11_isDistance 4 (r := []) (c := 3600 < p1z) (t := 15) (f := 11) rfl rfl (fun c2 => ?_) (fun c2 => ?_)
    · refine pz_g okX11_isDistance 7 1 (cs := []) (pc' := 16) (ls' := [(0, .int p1z)]) (st' := [.int 0]) (h' := []) (by decide) rfl trivial ?_
      exact pz_ri_ okX11_isDistance 8 rfl rfl (by decide) (by first | exact hP | simpa only [fX11_isDistance_r, if_neg c1, if_pos c2] using hP)
    · refine pz_g okX11_isDistance 5 1 (cs := []) (pc' := 12) (ls' := [(0, .int p1z)]) (st' := [.int 1]) (h' := []) (by decide) rfl trivial ?_
      refine pz_j okX11_isDistance 6 (t := 16) rfl rfl ?_
      exact pz_ri_ okX11_isDistance 8 rfl rfl (by decide) (by first | exact hP | simpa only [fX11_isDistance_r, if_neg c1, if_neg c2] using hP)
