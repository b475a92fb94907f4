/-! ===== printed by wip/whole/g1.py: Math, State ===== -/
set_option maxRecDepth 100000 in
set_option maxHeartbeats 4000000 in
theorem tJ9_abs_0f7a4 (x : Int32) : pz_T mJ9_abs_0f7a4 1 0 0 [.int x] [] (fun r h => r = some (.int (fJ9_abs_0f7a4_r x)) ∧ h = []) := by
  refine pz_en2 (by decide +kernel) (Nat.le_of_ble_eq_true rfl) (fun P hP => ?_)
  show pz_W mJ9_abs_0f7a4 1 0 0 0 P 0 [(0, .int x)] [] _ 0 0
  refine pz_g okJ9_abs_0f7a4 0 1 (cs := []) (pc' := 1) (ls' := [(0, .int x)]) (st' := [.int x]) (h' := []) (by decide) rfl trivial ?_
  refine pz_if okJ9_abs_0f7a4 1 (r := []) (c := 0 ≤ x) (t := 9) (f := 4) rfl rfl (fun c1 => ?_) (fun c1 => ?_)
  · refine pz_g okJ9_abs_0f7a4 5 1 (cs := []) (pc' := 10) (ls' := [(0, .int x)]) (st' := [.int x]) (h' := []) (by decide) rfl trivial ?_
    exact pz_ri_ okJ9_abs_0f7a4 6 rfl rfl rfl (by first | exact hP | simpa only [fJ9_abs_0f7a4_r, if_pos c1] using hP)
  · refine pz_g okJ9_abs_0f7a4 2 2 (cs := []) (pc' := 6) (ls' := [(0, .int x)]) (st' := [.int (-x)]) (h' := []) (by decide) rfl trivial ?_
    refine pz_j okJ9_abs_0f7a4 4 (t := 10) rfl rfl ?_
    exact pz_ri_ okJ9_abs_0f7a4 6 rfl rfl rfl (by first | exact hP | simpa only [fJ9_abs_0f7a4_r, if_neg c1] using hP)
set_option maxRecDepth 100000 in
set_option maxHeartbeats 4000000 in
theorem tJ9_max_7cf53 (x : Int32) (y : Int32) : pz_T mJ9_max_7cf53 1 0 0 [.int x, .int y] [] (fun r h => r = some (.int (fJ9_max_7cf53_r x y)) ∧ h = []) := by
  refine pz_en2 (by decide +kernel) (Nat.le_of_ble_eq_true rfl) (fun P hP => ?_)
  show pz_W mJ9_max_7cf53 1 0 0 0 P 0 [(0, .int x), (1, .int y)] [] _ 0 0
  refine pz_g okJ9_max_7cf53 0 2 (cs := []) (pc' := 2) (ls' := [(0, .int x), (1, .int y)]) (st' := [.int y, .int x]) (h' := []) (by decide) rfl trivial ?_
  refine pz_if okJ9_max_7cf53 2 (r := []) (c := x < y) (t := 9) (f := 5) rfl rfl (fun c1 => ?_) (fun c1 => ?_)
  · refine pz_g okJ9_max_7cf53 5 1 (cs := []) (pc' := 10) (ls' := [(0, .int x), (1, .int y)]) (st' := [.int y]) (h' := []) (by decide) rfl trivial ?_
    exact pz_ri_ okJ9_max_7cf53 6 rfl rfl rfl (by first | exact hP | simpa only [fJ9_max_7cf53_r, if_pos c1] using hP)
  · refine pz_g okJ9_max_7cf53 3 1 (cs := []) (pc' := 6) (ls' := [(0, .int x), (1, .int y)]) (st' := [.int x]) (h' := []) (by decide) rfl trivial ?_
    refine pz_j okJ9_max_7cf53 4 (t := 10) rfl rfl ?_
    exact pz_ri_ okJ9_max_7cf53 6 rfl rfl rfl (by first | exact hP | simpa only [fJ9_max_7cf53_r, if_neg c1] using hP)
set_option maxRecDepth 100000 in
set_option maxHeartbeats 4000000 in
theorem tJ9_min_7cf53 (x : Int32) (y : Int32) : pz_T mJ9_min_7cf53 1 0 0 [.int x, .int y] [] (fun r h => r = some (.int (fJ9_min_7cf53_r x y)) ∧ h = []) := by
  refine pz_en2 (by decide +kernel) (Nat.le_of_ble_eq_true rfl) (fun P hP => ?_)
  show pz_W mJ9_min_7cf53 1 0 0 0 P 0 [(0, .int x), (1, .int y)] [] _ 0 0
  refine pz_g okJ9_min_7cf53 0 2 (cs := []) (pc' := 2) (ls' := [(0, .int x), (1, .int y)]) (st' := [.int y, .int x]) (h' := []) (by decide) rfl trivial ?_
  refine pz_if okJ9_min_7cf53 2 (r := []) (c := y < x) (t := 9) (f := 5) rfl rfl (fun c1 => ?_) (fun c1 => ?_)
  · refine pz_g okJ9_min_7cf53 5 1 (cs := []) (pc' := 10) (ls' := [(0, .int x), (1, .int y)]) (st' := [.int y]) (h' := []) (by decide) rfl trivial ?_
    exact pz_ri_ okJ9_min_7cf53 6 rfl rfl rfl (by first | exact hP | simpa only [fJ9_min_7cf53_r, if_pos c1] using hP)
  · refine pz_g okJ9_min_7cf53 3 1 (cs := []) (pc' := 6) (ls' := [(0, .int x), (1, .int y)]) (st' := [.int x]) (h' := []) (by decide) rfl trivial ?_
    refine pz_j okJ9_min_7cf53 4 (t := 10) rfl rfl ?_
    exact pz_ri_ okJ9_min_7cf53 6 rfl rfl rfl (by first | exact hP | simpa only [fJ9_min_7cf53_r, if_neg c1] using hP)
set_option maxRecDepth 100000 in
set_option maxHeartbeats 4000000 in
theorem tJ9_abs_067f4 (x : Int64) : pz_T mJ9_abs_067f4 1 0 0 [.long x] [] (fun r h => r = some (.long (fJ9_abs_067f4_r x)) ∧ h = []) := by
  refine pz_en2 (by decide +kernel) (Nat.le_of_ble_eq_true rfl) (fun P hP => ?_)
  show pz_W mJ9_abs_067f4 1 0 0 0 P 0 [(0, .long x)] [] _ 0 0
  refine pz_g okJ9_abs_067f4 0 3 (cs := []) (pc' := 3) (ls' := [(0, .long x)]) (st' := [.int (lg_cmp x 0)]) (h' := []) (by decide) rfl trivial ?_
  refine pz_if okJ9_abs_067f4 3 (r := []) (c := 0 ≤ (lg_cmp x 0)) (t := 11) (f := 6) rfl rfl (fun c1 => ?_) (fun c1 => ?_)
  · refine pz_g okJ9_abs_067f4 7 1 (cs := []) (pc' := 12) (ls' := [(0, .long x)]) (st' := [.long x]) (h' := []) (by decide) rfl trivial ?_
    exact pz_rl_ okJ9_abs_067f4 8 rfl rfl (by first | exact hP | simpa only [fJ9_abs_067f4_r, if_pos c1] using hP)
  · refine pz_g okJ9_abs_067f4 4 2 (cs := []) (pc' := 8) (ls' := [(0, .long x)]) (st' := [.long (-x)]) (h' := []) (by decide) rfl trivial ?_
    refine pz_j okJ9_abs_067f4 6 (t := 12) rfl rfl ?_
    exact pz_rl_ okJ9_abs_067f4 8 rfl rfl (by first | exact hP | simpa only [fJ9_abs_067f4_r, if_neg c1] using hP)
set_option maxRecDepth 100000 in
set_option maxHeartbeats 4000000 in
theorem tJ9_max_f86c9 (x : Int64) (y : Int64) : pz_T mJ9_max_f86c9 1 0 0 [.long x, .long y] [] (fun r h => r = some (.long (fJ9_max_f86c9_r x y)) ∧ h = []) := by
  refine pz_en2 (by decide +kernel) (Nat.le_of_ble_eq_true rfl) (fun P hP => ?_)
  show pz_W mJ9_max_f86c9 1 0 0 0 P 0 [(0, .long x), (2, .long y)] [] _ 0 0
  refine pz_g okJ9_max_f86c9 0 3 (cs := []) (pc' := 3) (ls' := [(0, .long x), (2, .long y)]) (st' := [.int (lg_cmp x y)]) (h' := []) (by decide) rfl trivial ?_
  refine pz_if okJ9_max_f86c9 3 (r := []) (c := (lg_cmp x y) < 0) (t := 10) (f := 6) rfl rfl (fun c1 => ?_) (fun c1 => ?_)
  · refine pz_g okJ9_max_f86c9 6 1 (cs := []) (pc' := 11) (ls' := [(0, .long x), (2, .long y)]) (st' := [.long y]) (h' := []) (by decide) rfl trivial ?_
    exact pz_rl_ okJ9_max_f86c9 7 rfl rfl (by first | exact hP | simpa only [fJ9_max_f86c9_r, if_pos c1] using hP)
  · refine pz_g okJ9_max_f86c9 4 1 (cs := []) (pc' := 7) (ls' := [(0, .long x), (2, .long y)]) (st' := [.long x]) (h' := []) (by decide) rfl trivial ?_
    refine pz_j okJ9_max_f86c9 5 (t := 11) rfl rfl ?_
    exact pz_rl_ okJ9_max_f86c9 7 rfl rfl (by first | exact hP | simpa only [fJ9_max_f86c9_r, if_neg c1] using hP)
set_option maxRecDepth 100000 in
set_option maxHeartbeats 4000000 in
theorem tJ9_min_f86c9 (x : Int64) (y : Int64) : pz_T mJ9_min_f86c9 1 0 0 [.long x, .long y] [] (fun r h => r = some (.long (fJ9_min_f86c9_r x y)) ∧ h = []) := by
  refine pz_en2 (by decide +kernel) (Nat.le_of_ble_eq_true rfl) (fun P hP => ?_)
  show pz_W mJ9_min_f86c9 1 0 0 0 P 0 [(0, .long x), (2, .long y)] [] _ 0 0
  refine pz_g okJ9_min_f86c9 0 3 (cs := []) (pc' := 3) (ls' := [(0, .long x), (2, .long y)]) (st' := [.int (lg_cmp x y)]) (h' := []) (by decide) rfl trivial ?_
  refine pz_if okJ9_min_f86c9 3 (r := []) (c := 0 < (lg_cmp x y)) (t := 10) (f := 6) rfl rfl (fun c1 => ?_) (fun c1 => ?_)
  · refine pz_g okJ9_min_f86c9 6 1 (cs := []) (pc' := 11) (ls' := [(0, .long x), (2, .long y)]) (st' := [.long y]) (h' := []) (by decide) rfl trivial ?_
    exact pz_rl_ okJ9_min_f86c9 7 rfl rfl (by first | exact hP | simpa only [fJ9_min_f86c9_r, if_pos c1] using hP)
  · refine pz_g okJ9_min_f86c9 4 1 (cs := []) (pc' := 7) (ls' := [(0, .long x), (2, .long y)]) (st' := [.long x]) (h' := []) (by decide) rfl trivial ?_
    refine pz_j okJ9_min_f86c9 5 (t := 11) rfl rfl ?_
    exact pz_rl_ okJ9_min_f86c9 7 rfl rfl (by first | exact hP | simpa only [fJ9_min_f86c9_r, if_neg c1] using hP)
set_option maxRecDepth 100000 in
set_option maxHeartbeats 4000000 in
theorem tX4_pull (dd : Int32) (play : Int32) (most : Int32) : pz_T mX4_pull 2 0 0 [.int dd, .int play, .int most] [] (fun r h => r = some (.int (fX4_pull_r dd play most)) ∧ h = []) := by
  refine pz_en2 (by decide +kernel) (Nat.le_of_ble_eq_true rfl) (fun P hP => ?_)
  show pz_W mX4_pull 2 0 0 0 P 0 [(0, .int dd), (1, .int play), (2, .int most)] [] _ 0 0
  refine pz_g okX4_pull 0 2 (cs := []) (pc' := 2) (ls' := [(0, .int dd), (1, .int play), (2, .int most)]) (st' := [.int play, .int dd]) (h' := []) (by decide) rfl trivial ?_
  refine pz_if okX4_pull 2 (r := []) (c := dd ≤ play) (t := 13) (f := 5) rfl rfl (fun c1 => ?_) (fun c1 => ?_)
  · refine pz_g okX4_pull 9 3 (cs := []) (pc' := 16) (ls' := [(0, .int dd), (1, .int play), (2, .int most)]) (st' := [.int play, .int (-dd)]) (h' := []) (by decide) rfl trivial ?_
    refine pz_if okX4_pull 12 (r := []) (c := (-dd) ≤ play) (t := 31) (f := 19) rfl rfl (fun c2 => ?_) (fun c2 => ?_)
    · refine pz_g okX4_pull 21 1 (cs := []) (pc' := 32) (ls' := [(0, .int dd), (1, .int play), (2, .int most)]) (st' := [.int 0]) (h' := []) (by decide) rfl trivial ?_
      exact pz_ri_ okX4_pull 22 rfl rfl rfl (by first | exact hP | simpa only [fX4_pull_r, if_pos c1, if_pos c2] using hP)
    · refine pz_g okX4_pull 13 5 (cs := []) (pc' := 24) (ls' := [(0, .int dd), (1, .int play), (2, .int most)]) (st' := [.int most, .int ((-dd) - play)]) (h' := []) (by decide) rfl trivial ?_
      refine pz_cs (M' := mJ9_min_7cf53) (rest0 := []) okX4_pull 18 rfl lkX4_67 csJ9_min_7cf53 [] [] (tJ9_min_7cf53 ((-dd) - play) most ) (by decide) rfl rfl (by decide) (by decide) (by decide) (Nat.le_of_ble_eq_true rfl) rfl (pz_one (st2 := [.int (fJ9_min_7cf53_r ((-dd) - play) most)]) (h2 := []) rfl rfl rfl ?_)
      refine pz_g okX4_pull 19 1 (cs := []) (pc' := 28) (ls' := [(0, .int dd), (1, .int play), (2, .int most)]) (st' := [.int (-(fJ9_min_7cf53_r ((-dd) - play) most))]) (h' := []) (by decide) rfl trivial ?_
      refine pz_j okX4_pull 20 (t := 32) rfl rfl ?_
      exact pz_ri_ okX4_pull 22 rfl rfl rfl (by first | exact hP | simpa only [fX4_pull_r, if_pos c1, if_neg c2] using hP)
  · refine pz_g okX4_pull 3 4 (cs := []) (pc' := 9) (ls' := [(0, .int dd), (1, .int play), (2, .int most)]) (st' := [.int most, .int (dd - play)]) (h' := []) (by decide) rfl trivial ?_
    refine pz_cs (M' := mJ9_min_7cf53) (rest0 := []) okX4_pull 7 rfl lkX4_67 csJ9_min_7cf53 [] [] (tJ9_min_7cf53 (dd - play) most ) (by decide) rfl rfl (by decide) (by decide) (by decide) (Nat.le_of_ble_eq_true rfl) rfl (pz_one (st2 := [.int (fJ9_min_7cf53_r (dd - play) most)]) (h2 := []) rfl rfl rfl ?_)
    exact pz_ri_ okX4_pull 8 rfl rfl rfl (by first | exact hP | simpa only [fX4_pull_r, if_neg c1] using hP)
set_option maxRecDepth 100000 in
set_option maxHeartbeats 4000000 in
theorem tX4_lagging (od : Int32) (lag : Int32) (w0 : Int32) (w1 : Int32) (w2 : Int32) (w3 : Int32) (w4 : Int32) (w5 : Int32) (w6 : Int32) (w7 : Int32) : pz_T mX4_lagging 1 0 0 [.ref 0, .int od, .int lag] [.inr (4, [.int w0, .int w1, .int w2, .int w3, .int w4, .int w5, .int w6, .int w7])] (fun r h => r = some (.int (fX4_lagging_r od lag w5 w6 w7)) ∧ h = [.inr (4, [.int w0, .int w1, .int w2, .int w3, .int w4, .int w5, .int w6, .int w7])]) := by
  refine pz_en2 (by decide +kernel) (Nat.le_of_ble_eq_true rfl) (fun P hP => ?_)
  show pz_W mX4_lagging 1 0 0 1 P 0 [(0, .ref 0), (1, .int od), (2, .int lag)] [] _ 0 0
  refine pz_g okX4_lagging 0 1 (cs := []) (pc' := 1) (ls' := [(0, .ref 0), (1, .int od), (2, .int lag)]) (st' := [.int lag]) (h' := [.inr (4, [.int w0, .int w1, .int w2, .int w3, .int w4, .int w5, .int w6, .int w7])]) (by decide) rfl trivial ?_
  refine pz_tsw (pz_dec okX4_lagging 1 rfl) [(1, 28), (2, 33), (3, 38)] 43 (by decide) (by decide) (by decide) ?_
  refine pz_s2 (fun c1 => ?_) (fun c1 => ?_)
  · refine pz_g okX4_lagging 2 2 (cs := []) (pc' := 32) (ls' := [(0, .ref 0), (1, .int od), (2, .int lag)]) (st' := [.int w5]) (h' := [.inr (4, [.int w0, .int w1, .int w2, .int w3, .int w4, .int w5, .int w6, .int w7])]) (by decide) rfl trivial ?_
    exact pz_ri_ okX4_lagging 4 rfl rfl rfl (by first | exact hP | simpa only [fX4_lagging_r, if_pos c1] using hP)
  refine pz_s2 (fun c2 => ?_) (fun c2 => ?_)
  · refine pz_g okX4_lagging 5 2 (cs := []) (pc' := 37) (ls' := [(0, .ref 0), (1, .int od), (2, .int lag)]) (st' := [.int w6]) (h' := [.inr (4, [.int w0, .int w1, .int w2, .int w3, .int w4, .int w5, .int w6, .int w7])]) (by decide) rfl trivial ?_
    exact pz_ri_ okX4_lagging 7 rfl rfl rfl (by first | exact hP | simpa only [fX4_lagging_r, if_neg c1, if_pos c2] using hP)
  refine pz_s2 (fun c3 => ?_) (fun c3 => ?_)
  · refine pz_g okX4_lagging 8 2 (cs := []) (pc' := 42) (ls' := [(0, .ref 0), (1, .int od), (2, .int lag)]) (st' := [.int w7]) (h' := [.inr (4, [.int w0, .int w1, .int w2, .int w3, .int w4, .int w5, .int w6, .int w7])]) (by decide) rfl trivial ?_
    exact pz_ri_ okX4_lagging 10 rfl rfl rfl (by first | exact hP | simpa only [fX4_lagging_r, if_neg c1, if_neg c2, if_pos c3] using hP)
  refine pz_s1 ?_
  refine pz_g okX4_lagging 11 1 (cs := []) (pc' := 44) (ls' := [(0, .ref 0), (1, .int od), (2, .int lag)]) (st' := [.int od]) (h' := [.inr (4, [.int w0, .int w1, .int w2, .int w3, .int w4, .int w5, .int w6, .int w7])]) (by decide) rfl trivial ?_
  exact pz_ri_ okX4_lagging 12 rfl rfl rfl (by first | exact hP | simpa only [fX4_lagging_r, if_neg c1, if_neg c2, if_neg c3] using hP)
set_option maxRecDepth 100000 in
set_option maxHeartbeats 4000000 in
theorem tX4_start (fr : Int32) (w0 : Int32) (w1 : Int32) (w2 : Int32) (w3 : Int32) (w4 : Int32) (w5 : Int32) (w6 : Int32) (w7 : Int32) : pz_T mX4_start 1 0 0 [.ref 0, .int fr] [.inr (4, [.int w0, .int w1, .int w2, .int w3, .int w4, .int w5, .int w6, .int w7])] (fun r h => r = none ∧ h = [.inr (4, [.int 0, .int 0, .int 0, .int 0, .int fr, .int 0, .int 0, .int 0])]) := by
  refine pz_en2 (by decide +kernel) (Nat.le_of_ble_eq_true rfl) (fun P hP => ?_)
  show pz_W mX4_start 1 0 0 1 P 0 [(0, .ref 0), (1, .int fr)] [] _ 0 0
  refine pz_g okX4_start 0 24 (cs := []) (pc' := 40) (ls' := [(0, .ref 0), (1, .int fr)]) (st' := []) (h' := [.inr (4, [.int 0, .int 0, .int 0, .int 0, .int fr, .int 0, .int 0, .int 0])]) (by decide) rfl trivial ?_
  exact pz_rv_ okX4_start 24 rfl rfl hP
set_option maxRecDepth 100000 in
set_option maxHeartbeats 4000000 in
theorem tX4_look (wh : Int32) (w0 : Int32) (w1 : Int32) (w2 : Int32) (w3 : Int32) (w4 : Int32) (w5 : Int32) (w6 : Int32) (w7 : Int32) : pz_T mX4_look 1 0 0 [.ref 0, .int wh] [.inr (4, [.int w0, .int w1, .int w2, .int w3, .int w4, .int w5, .int w6, .int w7])] (fun r h => r = some (.int (fX4_look_r wh w0 w1 w2 w3 w4 w5)) ∧ h = [.inr (4, [.int w0, .int w1, .int w2, .int w3, .int w4, .int w5, .int w6, .int w7])]) := by
  refine pz_en2 (by decide +kernel) (Nat.le_of_ble_eq_true rfl) (fun P hP => ?_)
  show pz_W mX4_look 1 0 0 1 P 0 [(0, .ref 0), (1, .int wh)] [] _ 0 0
  refine pz_g okX4_look 0 1 (cs := []) (pc' := 1) (ls' := [(0, .ref 0), (1, .int wh)]) (st' := [.int wh]) (h' := [.inr (4, [.int w0, .int w1, .int w2, .int w3, .int w4, .int w5, .int w6, .int w7])]) (by decide) rfl trivial ?_
  refine pz_tsw (pz_dec okX4_look 1 rfl) [(0, 36), (1, 41), (2, 46), (3, 51), (4, 56)] 61 (by decide) (by decide) (by decide) ?_
  refine pz_s2 (fun c1 => ?_) (fun c1 => ?_)
  · refine pz_g okX4_look 2 2 (cs := []) (pc' := 40) (ls' := [(0, .ref 0), (1, .int wh)]) (st' := [.int w0]) (h' := [.inr (4, [.int w0, .int w1, .int w2, .int w3, .int w4, .int w5, .int w6, .int w7])]) (by decide) rfl trivial ?_
    exact pz_ri_ okX4_look 4 rfl rfl rfl (by first | exact hP | simpa only [fX4_look_r, if_pos c1] using hP)
  refine pz_s2 (fun c2 => ?_) (fun c2 => ?_)
  · refine pz_g okX4_look 5 2 (cs := []) (pc' := 45) (ls' := [(0, .ref 0), (1, .int wh)]) (st' := [.int w1]) (h' := [.inr (4, [.int w0, .int w1, .int w2, .int w3, .int w4, .int w5, .int w6, .int w7])]) (by decide) rfl trivial ?_
    exact pz_ri_ okX4_look 7 rfl rfl rfl (by first | exact hP | simpa only [fX4_look_r, if_neg c1, if_pos c2] using hP)
  refine pz_s2 (fun c3 => ?_) (fun c3 => ?_)
  · refine pz_g okX4_look 8 2 (cs := []) (pc' := 50) (ls' := [(0, .ref 0), (1, .int wh)]) (st' := [.int w2]) (h' := [.inr (4, [.int w0, .int w1, .int w2, .int w3, .int w4, .int w5, .int w6, .int w7])]) (by decide) rfl trivial ?_
    exact pz_ri_ okX4_look 10 rfl rfl rfl (by first | exact hP | simpa only [fX4_look_r, if_neg c1, if_neg c2, if_pos c3] using hP)
  refine pz_s2 (fun c4 => ?_) (fun c4 => ?_)
  · refine pz_g okX4_look 11 2 (cs := []) (pc' := 55) (ls' := [(0, .ref 0), (1, .int wh)]) (st' := [.int w3]) (h' := [.inr (4, [.int w0, .int w1, .int w2, .int w3, .int w4, .int w5, .int w6, .int w7])]) (by decide) rfl trivial ?_
    exact pz_ri_ okX4_look 13 rfl rfl rfl (by first | exact hP | simpa only [fX4_look_r, if_neg c1, if_neg c2, if_neg c3, if_pos c4] using hP)
  refine pz_s2 (fun c5 => ?_) (fun c5 => ?_)
  · refine pz_g okX4_look 14 2 (cs := []) (pc' := 60) (ls' := [(0, .ref 0), (1, .int wh)]) (st' := [.int w4]) (h' := [.inr (4, [.int w0, .int w1, .int w2, .int w3, .int w4, .int w5, .int w6, .int w7])]) (by decide) rfl trivial ?_
    exact pz_ri_ okX4_look 16 rfl rfl rfl (by first | exact hP | simpa only [fX4_look_r, if_neg c1, if_neg c2, if_neg c3, if_neg c4, if_pos c5] using hP)
  refine pz_s1 ?_
  refine pz_g okX4_look 17 2 (cs := []) (pc' := 65) (ls' := [(0, .ref 0), (1, .int wh)]) (st' := [.int w5]) (h' := [.inr (4, [.int w0, .int w1, .int w2, .int w3, .int w4, .int w5, .int w6, .int w7])]) (by decide) rfl trivial ?_
  exact pz_ri_ okX4_look 19 rfl rfl rfl (by first | exact hP | simpa only [fX4_look_r, if_neg c1, if_neg c2, if_neg c3, if_neg c4, if_neg c5] using hP)
set_option maxRecDepth 100000 in
set_option maxHeartbeats 4000000 in
theorem tX4_offOf (pk : Int64) : pz_T mX4_offOf 1 0 0 [.long pk] [] (fun r h => r = some (.int (((pk &&& 4095).toInt32) - 2048)) ∧ h = []) := by
  refine pz_en2 (by decide +kernel) (Nat.le_of_ble_eq_true rfl) (fun P hP => ?_)
  show pz_W mX4_offOf 1 0 0 0 P 0 [(0, .long pk)] [] _ 0 0
  refine pz_g okX4_offOf 0 6 (cs := []) (pc' := 10) (ls' := [(0, .long pk)]) (st' := [.int (((pk &&& 4095).toInt32) - 2048)]) (h' := []) (by decide) rfl trivial ?_
  exact pz_ri_ okX4_offOf 6 rfl rfl rfl hP
set_option maxRecDepth 100000 in
set_option maxHeartbeats 4000000 in
theorem tX4_packed (w0 : Int32) (w1 : Int32) (w2 : Int32) (w3 : Int32) (w4 : Int32) (w5 : Int32) (w6 : Int32) (w7 : Int32) : pz_T mX4_packed 1 0 0 [.ref 0] [.inr (4, [.int w0, .int w1, .int w2, .int w3, .int w4, .int w5, .int w6, .int w7])] (fun r h => r = some (.long (fX4_packed_r w0 w1 w2 w3 w4 w5 w6 w7)) ∧ h = [.inr (4, [.int w0, .int w1, .int w2, .int w3, .int w4, .int w5, .int w6, .int w7])]) := by
  refine pz_en2 (by decide +kernel) (Nat.le_of_ble_eq_true rfl) (fun P hP => ?_)
  show pz_W mX4_packed 1 0 0 1 P 0 [(0, .ref 0)] [] _ 0 0
  refine pz_g okX4_packed 0 75 (cs := []) (pc' := 107) (ls' := [(0, .ref 0), (1, .long ((((((((((((((w0 + 32).toInt64) <<< ((6 : Int32).toInt64 &&& 63)) ||| ((w1 + 32).toInt64)) <<< ((6 : Int32).toInt64 &&& 63)) ||| ((w2 + 32).toInt64)) <<< ((6 : Int32).toInt64 &&& 63)) ||| ((w5 + 32).toInt64)) <<< ((6 : Int32).toInt64 &&& 63)) ||| ((w6 + 32).toInt64)) <<< ((6 : Int32).toInt64 &&& 63)) ||| ((w7 + 32).toInt64)) <<< ((7 : Int32).toInt64 &&& 63)) ||| ((w3 + 64).toInt64)))]) (st' := [.long ((((((((((((((((w0 + 32).toInt64) <<< ((6 : Int32).toInt64 &&& 63)) ||| ((w1 + 32).toInt64)) <<< ((6 : Int32).toInt64 &&& 63)) ||| ((w2 + 32).toInt64)) <<< ((6 : Int32).toInt64 &&& 63)) ||| ((w5 + 32).toInt64)) <<< ((6 : Int32).toInt64 &&& 63)) ||| ((w6 + 32).toInt64)) <<< ((6 : Int32).toInt64 &&& 63)) ||| ((w7 + 32).toInt64)) <<< ((7 : Int32).toInt64 &&& 63)) ||| ((w3 + 64).toInt64)) <<< ((12 : Int32).toInt64 &&& 63)) ||| ((w4 + 2048).toInt64))]) (h' := [.inr (4, [.int w0, .int w1, .int w2, .int w3, .int w4, .int w5, .int w6, .int w7])]) (by decide) rfl trivial ?_
  exact pz_rl_ okX4_packed 75 rfl rfl (by first | exact hP | simpa only [fX4_packed_r] using hP)
set_option maxRecDepth 100000 in
set_option maxHeartbeats 4000000 in
theorem tX4_unpack (pk : Int64) (w0 : Int32) (w1 : Int32) (w2 : Int32) (w3 : Int32) (w4 : Int32) (w5 : Int32) (w6 : Int32) (w7 : Int32) : pz_T mX4_unpack 2 0 0 [.ref 0, .long pk] [.inr (4, [.int w0, .int w1, .int w2, .int w3, .int w4, .int w5, .int w6, .int w7])] (fun r h => r = none ∧ h = [.inr (4, [.int (fX4_unpack_f0_0 pk), .int (fX4_unpack_f0_1 pk), .int (fX4_unpack_f0_2 pk), .int (fX4_unpack_f0_3 pk), .int (((pk &&& 4095).toInt32) - 2048), .int (fX4_unpack_f0_5 pk), .int (fX4_unpack_f0_6 pk), .int (fX4_unpack_f0_7 pk)])]) := by
  refine pz_en2 (by decide +kernel) (Nat.le_of_ble_eq_true rfl) (fun P hP => ?_)
  show pz_W mX4_unpack 2 0 0 1 P 0 [(0, .ref 0), (1, .long pk)] [] _ 0 0
  refine pz_g okX4_unpack 0 2 (cs := []) (pc' := 2) (ls' := [(0, .ref 0), (1, .long pk)]) (st' := [.long pk, .ref 0]) (h' := [.inr (4, [.int w0, .int w1, .int w2, .int w3, .int w4, .int w5, .int w6, .int w7])]) (by decide) rfl trivial ?_
  refine pz_cs (M' := mX4_offOf) (rest0 := [.ref 0]) okX4_unpack 2 rfl lkX4_74 csX4_offOf [] [] (tX4_offOf pk ) (by decide) rfl rfl (by decide) (by decide) (by decide) (Nat.le_of_ble_eq_true rfl) rfl (pz_one (st2 := [.int (((pk &&& 4095).toInt32) - 2048), .ref 0]) (h2 := [.inr (4, [.int w0, .int w1, .int w2, .int w3, .int w4, .int w5, .int w6, .int w7])]) rfl rfl rfl ?_)
  refine pz_g okX4_unpack 3 71 (cs := []) (pc' := 120) (ls' := [(0, .ref 0), (1, .long pk)]) (st' := []) (h' := [.inr (4, [.int (((((pk.toUInt64 >>> ((49 : Int32).toInt64.toUInt64 &&& Int64.toUInt64 63)).toInt64) &&& 63).toInt32) - 32), .int (((((pk.toUInt64 >>> ((43 : Int32).toInt64.toUInt64 &&& Int64.toUInt64 63)).toInt64) &&& 63).toInt32) - 32), .int (((((pk.toUInt64 >>> ((37 : Int32).toInt64.toUInt64 &&& Int64.toUInt64 63)).toInt64) &&& 63).toInt32) - 32), .int (((((pk.toUInt64 >>> ((12 : Int32).toInt64.toUInt64 &&& Int64.toUInt64 63)).toInt64) &&& 127).toInt32) - 64), .int (((pk &&& 4095).toInt32) - 2048), .int (((((pk.toUInt64 >>> ((31 : Int32).toInt64.toUInt64 &&& Int64.toUInt64 63)).toInt64) &&& 63).toInt32) - 32), .int (((((pk.toUInt64 >>> ((25 : Int32).toInt64.toUInt64 &&& Int64.toUInt64 63)).toInt64) &&& 63).toInt32) - 32), .int (((((pk.toUInt64 >>> ((19 : Int32).toInt64.toUInt64 &&& Int64.toUInt64 63)).toInt64) &&& 63).toInt32) - 32)])]) (by decide) rfl trivial ?_
  exact pz_rv_ okX4_unpack 74 rfl rfl (by first | exact hP | simpa only [fX4_unpack_f0_0, fX4_unpack_f0_1, fX4_unpack_f0_2, fX4_unpack_f0_3, fX4_unpack_f0_5, fX4_unpack_f0_6, fX4_unpack_f0_7] using hP)
set_option maxRecDepth 100000 in
set_option maxHeartbeats 4000000 in
theorem uX4_step_J172 (h0_0_172 : Int32) (h0_1_172 : Int32) (h0_2_172 : Int32) (h0_3_172 : Int32) (h0_4_172 : Int32) (h0_5_172 : Int32) (h0_6_172 : Int32) (h0_7_172 : Int32) (a2_172 : Nat → Int32) (a3_172 : Nat → Int32) (P : Option Value → pz_H → Prop) (hP : P (none) [.inr (4, [.int h0_0_172, .int h0_1_172, .int h0_2_172, .int h0_3_172, .int (fX4_step_J172_f0_4 h0_3_172 h0_4_172 a3_172), .int h0_5_172, .int h0_6_172, .int h0_7_172]), .inr (3, [.ref 2, .ref 3]), .inl (0, 5, .inl a2_172), .inl (0, 3, .inl a3_172)]) : pz_W mX4_step 3 0 0 4 P 172 [(0, .ref 0), (2, .ref 1)] [] [.inr (4, [.int h0_0_172, .int h0_1_172, .int h0_2_172, .int h0_3_172, .int h0_4_172, .int h0_5_172, .int h0_6_172, .int h0_7_172]), .inr (3, [.ref 2, .ref 3]), .inl (0, 5, .inl a2_172), .inl (0, 3, .inl a3_172)] 0 0 := by
  refine pz_g okX4_step 98 15 (cs := [vp_in 2 3]) (pc' := 199) (ls' := [(0, .ref 0), (2, .ref 1)]) (st' := [.int 1799, .int (h0_4_172 + (h0_3_172 + (a3_172 2)))]) (h' := [.inr (4, [.int h0_0_172, .int h0_1_172, .int h0_2_172, .int h0_3_172, .int (h0_4_172 + (h0_3_172 + (a3_172 2))), .int h0_5_172, .int h0_6_172, .int h0_7_172]), .inr (3, [.ref 2, .ref 3]), .inl (0, 5, .inl a2_172), .inl (0, 3, .inl a3_172)]) (by decide) rfl (pz_ac (by first | assumption | (unfold vp_in; decide) | decide) trivial) ?_
  refine pz_if okX4_step 113 (r := []) (c := (h0_4_172 + (h0_3_172 + (a3_172 2))) ≤ 1799) (t := 217) (f := 202) rfl rfl (fun c4 => ?_) (fun c4 => ?_)
  · refine pz_g okX4_step 121 3 (cs := []) (pc' := 224) (ls' := [(0, .ref 0), (2, .ref 1)]) (st' := [.int (-1800), .int (h0_4_172 + (h0_3_172 + (a3_172 2)))]) (h' := [.inr (4, [.int h0_0_172, .int h0_1_172, .int h0_2_172, .int h0_3_172, .int (h0_4_172 + (h0_3_172 + (a3_172 2))), .int h0_5_172, .int h0_6_172, .int h0_7_172]), .inr (3, [.ref 2, .ref 3]), .inl (0, 5, .inl a2_172), .inl (0, 3, .inl a3_172)]) (by decide) rfl trivial ?_
    refine pz_if okX4_step 124 (r := []) (c := (-1800) ≤ (h0_4_172 + (h0_3_172 + (a3_172 2)))) (t := 239) (f := 227) rfl rfl (fun c5 => ?_) (fun c5 => ?_)
    · exact pz_rv_ okX4_step 131 rfl rfl (by first | exact hP | simpa only [fX4_step_J172_f0_4, if_pos c4, if_pos c5] using hP)
    · refine pz_g okX4_step 125 6 (cs := []) (pc' := 239) (ls' := [(0, .ref 0), (2, .ref 1)]) (st' := []) (h' := [.inr (4, [.int h0_0_172, .int h0_1_172, .int h0_2_172, .int h0_3_172, .int ((h0_4_172 + (h0_3_172 + (a3_172 2))) + 3600), .int h0_5_172, .int h0_6_172, .int h0_7_172]), .inr (3, [.ref 2, .ref 3]), .inl (0, 5, .inl a2_172), .inl (0, 3, .inl a3_172)]) (by decide) rfl trivial ?_
      exact pz_rv_ okX4_step 131 rfl rfl (by first | exact hP | simpa only [fX4_step_J172_f0_4, if_pos c4, if_neg c5] using hP)
  · refine pz_g okX4_step 114 6 (cs := []) (pc' := 214) (ls' := [(0, .ref 0), (2, .ref 1)]) (st' := []) (h' := [.inr (4, [.int h0_0_172, .int h0_1_172, .int h0_2_172, .int h0_3_172, .int ((h0_4_172 + (h0_3_172 + (a3_172 2))) - 3600), .int h0_5_172, .int h0_6_172, .int h0_7_172]), .inr (3, [.ref 2, .ref 3]), .inl (0, 5, .inl a2_172), .inl (0, 3, .inl a3_172)]) (by decide) rfl trivial ?_
    refine pz_j okX4_step 120 (t := 239) rfl rfl ?_
    exact pz_rv_ okX4_step 131 rfl rfl (by first | exact hP | simpa only [fX4_step_J172_f0_4, if_neg c4] using hP)
set_option maxRecDepth 100000 in
set_option maxHeartbeats 4000000 in
theorem uX4_step_J128 (h0_0_128 : Int32) (h0_1_128 : Int32) (h0_2_128 : Int32) (h0_3_128 : Int32) (h0_4_128 : Int32) (h0_5_128 : Int32) (h0_6_128 : Int32) (h0_7_128 : Int32) (a2_128 : Nat → Int32) (a3_128 : Nat → Int32) (P : Option Value → pz_H → Prop) (hP : P (none) [.inr (4, [.int h0_0_128, .int h0_1_128, .int h0_2_128, .int (fX4_step_J128_f0_3 h0_2_128 h0_3_128 a3_128), .int (fX4_step_J128_f0_4 h0_2_128 h0_3_128 h0_4_128 a3_128), .int h0_5_128, .int h0_6_128, .int h0_7_128]), .inr (3, [.ref 2, .ref 3]), .inl (0, 5, .inl a2_128), .inl (0, 3, .inl a3_128)]) : pz_W mX4_step 3 0 0 4 P 128 [(0, .ref 0), (2, .ref 1)] [] [.inr (4, [.int h0_0_128, .int h0_1_128, .int h0_2_128, .int h0_3_128, .int h0_4_128, .int h0_5_128, .int h0_6_128, .int h0_7_128]), .inr (3, [.ref 2, .ref 3]), .inl (0, 5, .inl a2_128), .inl (0, 3, .inl a3_128)] 0 0 := by
  refine pz_g okX4_step 72 6 (cs := [vp_in 1 3]) (pc' := 138) (ls' := [(0, .ref 0), (2, .ref 1), (5, .int (a3_128 1))]) (st' := [.int (a3_128 1)]) (h' := [.inr (4, [.int h0_0_128, .int h0_1_128, .int h0_2_128, .int h0_3_128, .int h0_4_128, .int h0_5_128, .int h0_6_128, .int h0_7_128]), .inr (3, [.ref 2, .ref 3]), .inl (0, 5, .inl a2_128), .inl (0, 3, .inl a3_128)]) (by decide) rfl (pz_ac (by first | assumption | (unfold vp_in; decide) | decide) trivial) ?_
  refine pz_if okX4_step 78 (r := []) (c := (a3_128 1) ≤ 0) (t := 172) (f := 141) rfl rfl (fun c3 => ?_) (fun c3 => ?_)
  · refine pz_keep [0, 1] (ls' := [(0, .ref 0), (2, .ref 1)]) rfl ?_
    exact uX4_step_J172 h0_0_128 h0_1_128 h0_2_128 h0_3_128 h0_4_128 h0_5_128 h0_6_128 h0_7_128 a2_128 a3_128  P (by first | exact hP | simpa only [fX4_step_J128_f0_3, fX4_step_J128_f0_4, if_pos c3] using hP)
  · refine pz_g okX4_step 79 19 (cs := [vp_in 0 3, ¬ 10 = 0, ¬ (a3_128 1) = 0]) (pc' := 172) (ls' := [(0, .ref 0), (2, .ref 1), (5, .int (a3_128 1))]) (st' := []) (h' := [.inr (4, [.int h0_0_128, .int h0_1_128, .int h0_2_128, .int (h0_3_128 + ((((h0_2_128 * (a3_128 0)) / 10) - h0_3_128) / (a3_128 1))), .int h0_4_128, .int h0_5_128, .int h0_6_128, .int h0_7_128]), .inr (3, [.ref 2, .ref 3]), .inl (0, 5, .inl a2_128), .inl (0, 3, .inl a3_128)]) (by decide) rfl (pz_ac (by first | assumption | (unfold vp_in; decide) | decide) (pz_ac (by first | assumption | (unfold vp_in; decide) | decide) (pz_ac (fun h0 => c3 (by rw [h0]; decide)) trivial))) ?_
    refine pz_keep [0, 1] (ls' := [(0, .ref 0), (2, .ref 1)]) rfl ?_
    exact uX4_step_J172 h0_0_128 h0_1_128 h0_2_128 (h0_3_128 + ((((h0_2_128 * (a3_128 0)) / 10) - h0_3_128) / (a3_128 1))) h0_4_128 h0_5_128 h0_6_128 h0_7_128 a2_128 a3_128  P (by first | exact hP | simpa only [fX4_step_J128_f0_3, fX4_step_J128_f0_4, if_neg c3] using hP)
set_option maxRecDepth 100000 in
set_option maxHeartbeats 4000000 in
theorem tX4_step (od : Int32) (w0 : Int32) (w1 : Int32) (w2 : Int32) (w3 : Int32) (w4 : Int32) (w5 : Int32) (w6 : Int32) (w7 : Int32) (pa : Nat → Int32) (sh : Nat → Int32) : pz_T mX4_step 3 0 0 [.ref 0, .int od, .ref 1] [.inr (4, [.int w0, .int w1, .int w2, .int w3, .int w4, .int w5, .int w6, .int w7]), .inr (3, [.ref 2, .ref 3]), .inl (0, 5, .inl pa), .inl (0, 3, .inl sh)] (fun r h => r = none ∧ h = [.inr (4, [.int (fX4_lagging_r od (pa 3) w5 w6 w7), .int (fX4_step_f0_1 od w1 w5 w6 w7 pa), .int (fX4_step_f0_2 od w1 w2 w5 w6 w7 pa), .int (fX4_step_f0_3 od w1 w2 w3 w5 w6 w7 pa sh), .int (fX4_step_f0_4 od w1 w2 w3 w4 w5 w6 w7 pa sh), .int od, .int w5, .int w6]), .inr (3, [.ref 2, .ref 3]), .inl (0, 5, .inl pa), .inl (0, 3, .inl sh)]) := by
  refine pz_en2 (by decide +kernel) (Nat.le_of_ble_eq_true rfl) (fun P hP => ?_)
  show pz_W mX4_step 3 0 0 4 P 0 [(0, .ref 0), (1, .int od), (2, .ref 1)] [] _ 0 0
  refine pz_g okX4_step 0 7 (cs := [vp_in 3 5]) (pc' := 9) (ls' := [(0, .ref 0), (1, .int od), (2, .ref 1)]) (st' := [.int (pa 3), .int od, .ref 0, .ref 0]) (h' := [.inr (4, [.int w0, .int w1, .int w2, .int w3, .int w4, .int w5, .int w6, .int w7]), .inr (3, [.ref 2, .ref 3]), .inl (0, 5, .inl pa), .inl (0, 3, .inl sh)]) (by decide) rfl (pz_ac (by first | assumption | (unfold vp_in; decide) | decide) trivial) ?_
  refine pz_cv (M' := mX4_lagging) (rest0 := [.ref 0]) (ci := 4) (q := (RX4, TX4, 8)) okX4_step 7 rfl lkX4_42 cvX4_lagging [0] [] (tX4_lagging od (pa 3) w0 w1 w2 w3 w4 w5 w6 w7 ) (by decide) rfl rfl rfl rfl rfl (by decide) (by decide) (by decide) (Nat.le_of_ble_eq_true rfl) rfl (pz_one (st2 := [.int (fX4_lagging_r od (pa 3) w5 w6 w7), .ref 0]) (h2 := [.inr (4, [.int w0, .int w1, .int w2, .int w3, .int w4, .int w5, .int w6, .int w7]), .inr (3, [.ref 2, .ref 3]), .inl (0, 5, .inl pa), .inl (0, 3, .inl sh)]) rfl rfl rfl ?_)
  refine pz_g okX4_step 8 25 (cs := [vp_in 0 5]) (pc' := 58) (ls' := [(0, .ref 0), (1, .int od), (2, .ref 1)]) (st' := [.int 6, .int (pa 0), .int ((fX4_lagging_r od (pa 3) w5 w6 w7) - w1), .int w1, .ref 0]) (h' := [.inr (4, [.int (fX4_lagging_r od (pa 3) w5 w6 w7), .int w1, .int w2, .int w3, .int w4, .int od, .int w5, .int w6]), .inr (3, [.ref 2, .ref 3]), .inl (0, 5, .inl pa), .inl (0, 3, .inl sh)]) (by decide) rfl (pz_ac (by first | assumption | (unfold vp_in; decide) | decide) trivial) ?_
  refine pz_cs (M' := mX4_pull) (rest0 := [.int w1, .ref 0]) okX4_step 33 rfl lkX4_46 csX4_pull [] [] (tX4_pull ((fX4_lagging_r od (pa 3) w5 w6 w7) - w1) (pa 0) (6 : Int32) ) (by decide) rfl rfl (by decide) (by decide) (by decide) (Nat.le_of_ble_eq_true rfl) rfl (pz_one (st2 := [.int (fX4_pull_r ((fX4_lagging_r od (pa 3) w5 w6 w7) - w1) (pa 0) 6), .int w1, .ref 0]) (h2 := [.inr (4, [.int (fX4_lagging_r od (pa 3) w5 w6 w7), .int w1, .int w2, .int w3, .int w4, .int od, .int w5, .int w6]), .inr (3, [.ref 2, .ref 3]), .inl (0, 5, .inl pa), .inl (0, 3, .inl sh)]) rfl rfl rfl ?_)
  refine pz_g okX4_step 34 15 (cs := [vp_in 1 5, vp_in 2 5]) (pc' := 86) (ls' := [(0, .ref 0), (1, .int od), (2, .ref 1)]) (st' := [.int (pa 2), .int (pa 1), .int ((w1 + (fX4_pull_r ((fX4_lagging_r od (pa 3) w5 w6 w7) - w1) (pa 0) 6)) - w2)]) (h' := [.inr (4, [.int (fX4_lagging_r od (pa 3) w5 w6 w7), .int (w1 + (fX4_pull_r ((fX4_lagging_r od (pa 3) w5 w6 w7) - w1) (pa 0) 6)), .int w2, .int w3, .int w4, .int od, .int w5, .int w6]), .inr (3, [.ref 2, .ref 3]), .inl (0, 5, .inl pa), .inl (0, 3, .inl sh)]) (by decide) rfl (pz_ac (by first | assumption | (unfold vp_in; decide) | decide) (pz_ac (by first | assumption | (unfold vp_in; decide) | decide) trivial)) ?_
  refine pz_cs (M' := mX4_pull) (rest0 := []) okX4_step 49 rfl lkX4_46 csX4_pull [] [] (tX4_pull ((w1 + (fX4_pull_r ((fX4_lagging_r od (pa 3) w5 w6 w7) - w1) (pa 0) 6)) - w2) (pa 1) (pa 2) ) (by decide) rfl rfl (by decide) (by decide) (by decide) (Nat.le_of_ble_eq_true rfl) rfl (pz_one (st2 := [.int (fX4_pull_r ((w1 + (fX4_pull_r ((fX4_lagging_r od (pa 3) w5 w6 w7) - w1) (pa 0) 6)) - w2) (pa 1) (pa 2))]) (h2 := [.inr (4, [.int (fX4_lagging_r od (pa 3) w5 w6 w7), .int (w1 + (fX4_pull_r ((fX4_lagging_r od (pa 3) w5 w6 w7) - w1) (pa 0) 6)), .int w2, .int w3, .int w4, .int od, .int w5, .int w6]), .inr (3, [.ref 2, .ref 3]), .inl (0, 5, .inl pa), .inl (0, 3, .inl sh)]) rfl rfl rfl ?_)
  refine pz_g okX4_step 50 8 (cs := [vp_in 4 5]) (pc' := 101) (ls' := [(0, .ref 0), (1, .int od), (2, .ref 1), (3, .int (fX4_pull_r ((w1 + (fX4_pull_r ((fX4_lagging_r od (pa 3) w5 w6 w7) - w1) (pa 0) 6)) - w2) (pa 1) (pa 2))), (4, .int (pa 4))]) (st' := [.int 1, .int (pa 4)]) (h' := [.inr (4, [.int (fX4_lagging_r od (pa 3) w5 w6 w7), .int (w1 + (fX4_pull_r ((fX4_lagging_r od (pa 3) w5 w6 w7) - w1) (pa 0) 6)), .int w2, .int w3, .int w4, .int od, .int w5, .int w6]), .inr (3, [.ref 2, .ref 3]), .inl (0, 5, .inl pa), .inl (0, 3, .inl sh)]) (by decide) rfl (pz_ac (by first | assumption | (unfold vp_in; decide) | decide) trivial) ?_
  refine pz_if okX4_step 58 (r := []) (c := ¬ (pa 4) = 1) (t := 108) (f := 104) rfl rfl (fun c1 => ?_) (fun c1 => ?_)
  · refine pz_g okX4_step 61 2 (cs := []) (pc' := 111) (ls' := [(0, .ref 0), (1, .int od), (2, .ref 1), (3, .int (fX4_pull_r ((w1 + (fX4_pull_r ((fX4_lagging_r od (pa 3) w5 w6 w7) - w1) (pa 0) 6)) - w2) (pa 1) (pa 2))), (4, .int (pa 4))]) (st' := [.int 2, .int (pa 4)]) (h' := [.inr (4, [.int (fX4_lagging_r od (pa 3) w5 w6 w7), .int (w1 + (fX4_pull_r ((fX4_lagging_r od (pa 3) w5 w6 w7) - w1) (pa 0) 6)), .int w2, .int w3, .int w4, .int od, .int w5, .int w6]), .inr (3, [.ref 2, .ref 3]), .inl (0, 5, .inl pa), .inl (0, 3, .inl sh)]) (by decide) rfl trivial ?_
    refine pz_if okX4_step 63 (r := []) (c := ¬ (pa 4) = 2) (t := 118) (f := 114) rfl rfl (fun c2 => ?_) (fun c2 => ?_)
    · refine pz_g okX4_step 66 6 (cs := []) (pc' := 128) (ls' := [(0, .ref 0), (1, .int od), (2, .ref 1), (3, .int (fX4_pull_r ((w1 + (fX4_pull_r ((fX4_lagging_r od (pa 3) w5 w6 w7) - w1) (pa 0) 6)) - w2) (pa 1) (pa 2))), (4, .int (pa 4))]) (st' := []) (h' := [.inr (4, [.int (fX4_lagging_r od (pa 3) w5 w6 w7), .int (w1 + (fX4_pull_r ((fX4_lagging_r od (pa 3) w5 w6 w7) - w1) (pa 0) 6)), .int (w2 + (fX4_pull_r ((w1 + (fX4_pull_r ((fX4_lagging_r od (pa 3) w5 w6 w7) - w1) (pa 0) 6)) - w2) (pa 1) (pa 2))), .int w3, .int w4, .int od, .int w5, .int w6]), .inr (3, [.ref 2, .ref 3]), .inl (0, 5, .inl pa), .inl (0, 3, .inl sh)]) (by decide) rfl trivial ?_
      refine pz_keep [0, 2] (ls' := [(0, .ref 0), (2, .ref 1)]) rfl ?_
      exact uX4_step_J128 (fX4_lagging_r od (pa 3) w5 w6 w7) (w1 + (fX4_pull_r ((fX4_lagging_r od (pa 3) w5 w6 w7) - w1) (pa 0) 6)) (w2 + (fX4_pull_r ((w1 + (fX4_pull_r ((fX4_lagging_r od (pa 3) w5 w6 w7) - w1) (pa 0) 6)) - w2) (pa 1) (pa 2))) w3 w4 od w5 w6 pa sh  P (by first | exact hP | simpa only [fX4_step_f0_1, fX4_step_f0_2, fX4_step_f0_3, fX4_step_f0_4, if_pos c1, if_pos c2] using hP)
    · refine pz_g okX4_step 64 1 (cs := []) (pc' := 115) (ls' := [(0, .ref 0), (1, .int od), (2, .ref 1), (3, .int (fX4_pull_r ((w1 + (fX4_pull_r ((fX4_lagging_r od (pa 3) w5 w6 w7) - w1) (pa 0) 6)) - w2) (pa 1) (pa 2))), (4, .int (pa 4))]) (st' := [.int (fX4_pull_r ((w1 + (fX4_pull_r ((fX4_lagging_r od (pa 3) w5 w6 w7) - w1) (pa 0) 6)) - w2) (pa 1) (pa 2))]) (h' := [.inr (4, [.int (fX4_lagging_r od (pa 3) w5 w6 w7), .int (w1 + (fX4_pull_r ((fX4_lagging_r od (pa 3) w5 w6 w7) - w1) (pa 0) 6)), .int w2, .int w3, .int w4, .int od, .int w5, .int w6]), .inr (3, [.ref 2, .ref 3]), .inl (0, 5, .inl pa), .inl (0, 3, .inl sh)]) (by decide) rfl trivial ?_
      refine pz_if okX4_step 65 (r := []) (c := (fX4_pull_r ((w1 + (fX4_pull_r ((fX4_lagging_r od (pa 3) w5 w6 w7) - w1) (pa 0) 6)) - w2) (pa 1) (pa 2)) < 0) (t := 128) (f := 118) rfl rfl (fun c6 => ?_) (fun c6 => ?_)
      · refine pz_keep [0, 2] (ls' := [(0, .ref 0), (2, .ref 1)]) rfl ?_
        exact uX4_step_J128 (fX4_lagging_r od (pa 3) w5 w6 w7) (w1 + (fX4_pull_r ((fX4_lagging_r od (pa 3) w5 w6 w7) - w1) (pa 0) 6)) w2 w3 w4 od w5 w6 pa sh  P (by first | exact hP | simpa only [fX4_step_f0_1, fX4_step_f0_2, fX4_step_f0_3, fX4_step_f0_4, if_pos c1, if_neg c2, if_pos c6] using hP)
      · refine pz_g okX4_step 66 6 (cs := []) (pc' := 128) (ls' := [(0, .ref 0), (1, .int od), (2, .ref 1), (3, .int (fX4_pull_r ((w1 + (fX4_pull_r ((fX4_lagging_r od (pa 3) w5 w6 w7) - w1) (pa 0) 6)) - w2) (pa 1) (pa 2))), (4, .int (pa 4))]) (st' := []) (h' := [.inr (4, [.int (fX4_lagging_r od (pa 3) w5 w6 w7), .int (w1 + (fX4_pull_r ((fX4_lagging_r od (pa 3) w5 w6 w7) - w1) (pa 0) 6)), .int (w2 + (fX4_pull_r ((w1 + (fX4_pull_r ((fX4_lagging_r od (pa 3) w5 w6 w7) - w1) (pa 0) 6)) - w2) (pa 1) (pa 2))), .int w3, .int w4, .int od, .int w5, .int w6]), .inr (3, [.ref 2, .ref 3]), .inl (0, 5, .inl pa), .inl (0, 3, .inl sh)]) (by decide) rfl trivial ?_
        refine pz_keep [0, 2] (ls' := [(0, .ref 0), (2, .ref 1)]) rfl ?_
        exact uX4_step_J128 (fX4_lagging_r od (pa 3) w5 w6 w7) (w1 + (fX4_pull_r ((fX4_lagging_r od (pa 3) w5 w6 w7) - w1) (pa 0) 6)) (w2 + (fX4_pull_r ((w1 + (fX4_pull_r ((fX4_lagging_r od (pa 3) w5 w6 w7) - w1) (pa 0) 6)) - w2) (pa 1) (pa 2))) w3 w4 od w5 w6 pa sh  P (by first | exact hP | simpa only [fX4_step_f0_1, fX4_step_f0_2, fX4_step_f0_3, fX4_step_f0_4, if_pos c1, if_neg c2, if_neg c6] using hP)
  · refine pz_g okX4_step 59 1 (cs := []) (pc' := 105) (ls' := [(0, .ref 0), (1, .int od), (2, .ref 1), (3, .int (fX4_pull_r ((w1 + (fX4_pull_r ((fX4_lagging_r od (pa 3) w5 w6 w7) - w1) (pa 0) 6)) - w2) (pa 1) (pa 2))), (4, .int (pa 4))]) (st' := [.int (fX4_pull_r ((w1 + (fX4_pull_r ((fX4_lagging_r od (pa 3) w5 w6 w7) - w1) (pa 0) 6)) - w2) (pa 1) (pa 2))]) (h' := [.inr (4, [.int (fX4_lagging_r od (pa 3) w5 w6 w7), .int (w1 + (fX4_pull_r ((fX4_lagging_r od (pa 3) w5 w6 w7) - w1) (pa 0) 6)), .int w2, .int w3, .int w4, .int od, .int w5, .int w6]), .inr (3, [.ref 2, .ref 3]), .inl (0, 5, .inl pa), .inl (0, 3, .inl sh)]) (by decide) rfl trivial ?_
    refine pz_if okX4_step 60 (r := []) (c := 0 < (fX4_pull_r ((w1 + (fX4_pull_r ((fX4_lagging_r od (pa 3) w5 w6 w7) - w1) (pa 0) 6)) - w2) (pa 1) (pa 2))) (t := 128) (f := 108) rfl rfl (fun c7 => ?_) (fun c7 => ?_)
    · refine pz_keep [0, 2] (ls' := [(0, .ref 0), (2, .ref 1)]) rfl ?_
      exact uX4_step_J128 (fX4_lagging_r od (pa 3) w5 w6 w7) (w1 + (fX4_pull_r ((fX4_lagging_r od (pa 3) w5 w6 w7) - w1) (pa 0) 6)) w2 w3 w4 od w5 w6 pa sh  P (by first | exact hP | simpa only [fX4_step_f0_1, fX4_step_f0_2, fX4_step_f0_3, fX4_step_f0_4, if_neg c1, if_pos c7] using hP)
    · refine pz_g okX4_step 61 2 (cs := []) (pc' := 111) (ls' := [(0, .ref 0), (1, .int od), (2, .ref 1), (3, .int (fX4_pull_r ((w1 + (fX4_pull_r ((fX4_lagging_r od (pa 3) w5 w6 w7) - w1) (pa 0) 6)) - w2) (pa 1) (pa 2))), (4, .int (pa 4))]) (st' := [.int 2, .int (pa 4)]) (h' := [.inr (4, [.int (fX4_lagging_r od (pa 3) w5 w6 w7), .int (w1 + (fX4_pull_r ((fX4_lagging_r od (pa 3) w5 w6 w7) - w1) (pa 0) 6)), .int w2, .int w3, .int w4, .int od, .int w5, .int w6]), .inr (3, [.ref 2, .ref 3]), .inl (0, 5, .inl pa), .inl (0, 3, .inl sh)]) (by decide) rfl trivial ?_
      refine pz_if okX4_step 63 (r := []) (c := ¬ (pa 4) = 2) (t := 118) (f := 114) rfl rfl (fun c8 => ?_) (fun c8 => ?_)
      · refine pz_g okX4_step 66 6 (cs := []) (pc' := 128) (ls' := [(0, .ref 0), (1, .int od), (2, .ref 1), (3, .int (fX4_pull_r ((w1 + (fX4_pull_r ((fX4_lagging_r od (pa 3) w5 w6 w7) - w1) (pa 0) 6)) - w2) (pa 1) (pa 2))), (4, .int (pa 4))]) (st' := []) (h' := [.inr (4, [.int (fX4_lagging_r od (pa 3) w5 w6 w7), .int (w1 + (fX4_pull_r ((fX4_lagging_r od (pa 3) w5 w6 w7) - w1) (pa 0) 6)), .int (w2 + (fX4_pull_r ((w1 + (fX4_pull_r ((fX4_lagging_r od (pa 3) w5 w6 w7) - w1) (pa 0) 6)) - w2) (pa 1) (pa 2))), .int w3, .int w4, .int od, .int w5, .int w6]), .inr (3, [.ref 2, .ref 3]), .inl (0, 5, .inl pa), .inl (0, 3, .inl sh)]) (by decide) rfl trivial ?_
        refine pz_keep [0, 2] (ls' := [(0, .ref 0), (2, .ref 1)]) rfl ?_
        exact uX4_step_J128 (fX4_lagging_r od (pa 3) w5 w6 w7) (w1 + (fX4_pull_r ((fX4_lagging_r od (pa 3) w5 w6 w7) - w1) (pa 0) 6)) (w2 + (fX4_pull_r ((w1 + (fX4_pull_r ((fX4_lagging_r od (pa 3) w5 w6 w7) - w1) (pa 0) 6)) - w2) (pa 1) (pa 2))) w3 w4 od w5 w6 pa sh  P (by first | exact hP | simpa only [fX4_step_f0_1, fX4_step_f0_2, fX4_step_f0_3, fX4_step_f0_4, if_neg c1, if_neg c7, if_pos c8] using hP)
      · refine pz_g okX4_step 64 1 (cs := []) (pc' := 115) (ls' := [(0, .ref 0), (1, .int od), (2, .ref 1), (3, .int (fX4_pull_r ((w1 + (fX4_pull_r ((fX4_lagging_r od (pa 3) w5 w6 w7) - w1) (pa 0) 6)) - w2) (pa 1) (pa 2))), (4, .int (pa 4))]) (st' := [.int (fX4_pull_r ((w1 + (fX4_pull_r ((fX4_lagging_r od (pa 3) w5 w6 w7) - w1) (pa 0) 6)) - w2) (pa 1) (pa 2))]) (h' := [.inr (4, [.int (fX4_lagging_r od (pa 3) w5 w6 w7), .int (w1 + (fX4_pull_r ((fX4_lagging_r od (pa 3) w5 w6 w7) - w1) (pa 0) 6)), .int w2, .int w3, .int w4, .int od, .int w5, .int w6]), .inr (3, [.ref 2, .ref 3]), .inl (0, 5, .inl pa), .inl (0, 3, .inl sh)]) (by decide) rfl trivial ?_
        refine pz_if okX4_step 65 (r := []) (c := (fX4_pull_r ((w1 + (fX4_pull_r ((fX4_lagging_r od (pa 3) w5 w6 w7) - w1) (pa 0) 6)) - w2) (pa 1) (pa 2)) < 0) (t := 128) (f := 118) rfl rfl (fun c9 => ?_) (fun c9 => ?_)
        · refine pz_keep [0, 2] (ls' := [(0, .ref 0), (2, .ref 1)]) rfl ?_
          exact uX4_step_J128 (fX4_lagging_r od (pa 3) w5 w6 w7) (w1 + (fX4_pull_r ((fX4_lagging_r od (pa 3) w5 w6 w7) - w1) (pa 0) 6)) w2 w3 w4 od w5 w6 pa sh  P (by first | exact hP | simpa only [fX4_step_f0_1, fX4_step_f0_2, fX4_step_f0_3, fX4_step_f0_4, if_neg c1, if_neg c7, if_neg c8, if_pos c9] using hP)
        · refine pz_g okX4_step 66 6 (cs := []) (pc' := 128) (ls' := [(0, .ref 0), (1, .int od), (2, .ref 1), (3, .int (fX4_pull_r ((w1 + (fX4_pull_r ((fX4_lagging_r od (pa 3) w5 w6 w7) - w1) (pa 0) 6)) - w2) (pa 1) (pa 2))), (4, .int (pa 4))]) (st' := []) (h' := [.inr (4, [.int (fX4_lagging_r od (pa 3) w5 w6 w7), .int (w1 + (fX4_pull_r ((fX4_lagging_r od (pa 3) w5 w6 w7) - w1) (pa 0) 6)), .int (w2 + (fX4_pull_r ((w1 + (fX4_pull_r ((fX4_lagging_r od (pa 3) w5 w6 w7) - w1) (pa 0) 6)) - w2) (pa 1) (pa 2))), .int w3, .int w4, .int od, .int w5, .int w6]), .inr (3, [.ref 2, .ref 3]), .inl (0, 5, .inl pa), .inl (0, 3, .inl sh)]) (by decide) rfl trivial ?_
          refine pz_keep [0, 2] (ls' := [(0, .ref 0), (2, .ref 1)]) rfl ?_
          exact uX4_step_J128 (fX4_lagging_r od (pa 3) w5 w6 w7) (w1 + (fX4_pull_r ((fX4_lagging_r od (pa 3) w5 w6 w7) - w1) (pa 0) 6)) (w2 + (fX4_pull_r ((w1 + (fX4_pull_r ((fX4_lagging_r od (pa 3) w5 w6 w7) - w1) (pa 0) 6)) - w2) (pa 1) (pa 2))) w3 w4 od w5 w6 pa sh  P (by first | exact hP | simpa only [fX4_step_f0_1, fX4_step_f0_2, fX4_step_f0_3, fX4_step_f0_4, if_neg c1, if_neg c7, if_neg c8, if_neg c9] using hP)
set_option maxRecDepth 100000 in
set_option maxHeartbeats 4000000 in
theorem tX3_setPart (pt : Int32) (vl : Int32) (pa : Nat → Int32) : pz_T mX3_setPart 1 0 0 [.ref 0, .int pt, .int vl] [.inr (3, [.ref 1, .ref 500]), .inl (0, 5, .inl pa)] (fun r h => r = some (.int (fX3_setPart_r pt vl)) ∧ h = [.inr (3, [.ref 1, .ref 500]), .inl (0, 5, .inl (fX3_setPart_a1 pt vl pa))]) := by
  refine pz_en2 (by decide +kernel) (Nat.le_of_ble_eq_true rfl) (fun P hP => ?_)
  show pz_W mX3_setPart 1 0 0 2 P 0 [(0, .ref 0), (1, .int pt), (2, .int vl)] [] _ 0 0
  refine pz_g okX3_setPart 0 1 (cs := []) (pc' := 1) (ls' := [(0, .ref 0), (1, .int pt), (2, .int vl)]) (st' := [.int pt]) (h' := [.inr (3, [.ref 1, .ref 500]), .inl (0, 5, .inl pa)]) (by decide) rfl trivial ?_
  refine pz_if okX3_setPart 1 (r := []) (c := pt < 0) (t := 27) (f := 4) rfl rfl (fun c1 => ?_) (fun c1 => ?_)
  · refine pz_g okX3_setPart 15 1 (cs := []) (pc' := 28) (ls' := [(0, .ref 0), (1, .int pt), (2, .int vl)]) (st' := [.int 0]) (h' := [.inr (3, [.ref 1, .ref 500]), .inl (0, 5, .inl pa)]) (by decide) rfl trivial ?_
    exact pz_ri_ okX3_setPart 16 rfl rfl (by decide) (by first | exact hP | simpa only [fX3_setPart_r, fX3_setPart_a1, if_pos c1] using hP)
  · refine pz_g okX3_setPart 2 2 (cs := []) (pc' := 6) (ls' := [(0, .ref 0), (1, .int pt), (2, .int vl)]) (st' := [.int 5, .int pt]) (h' := [.inr (3, [.ref 1, .ref 500]), .inl (0, 5, .inl pa)]) (by decide) rfl trivial ?_
    refine pz_if okX3_setPart 4 (r := []) (c := 5 ≤ pt) (t := 27) (f := 9) rfl rfl (fun c2 => ?_) (fun c2 => ?_)
    · refine pz_g okX3_setPart 15 1 (cs := []) (pc' := 28) (ls' := [(0, .ref 0), (1, .int pt), (2, .int vl)]) (st' := [.int 0]) (h' := [.inr (3, [.ref 1, .ref 500]), .inl (0, 5, .inl pa)]) (by decide) rfl trivial ?_
      exact pz_ri_ okX3_setPart 16 rfl rfl (by decide) (by first | exact hP | simpa only [fX3_setPart_r, fX3_setPart_a1, if_neg c1, if_pos c2] using hP)
    · refine pz_g okX3_setPart 5 4 (cs := [vp_in pt 5]) (pc' := 15) (ls' := [(0, .ref 0), (1, .int pt), (2, .int vl)]) (st' := [.int (ro0 pt.toNatClampNeg), .int vl]) (h' := [.inr (3, [.ref 1, .ref 500]), .inl (0, 5, .inl pa)]) (by decide) rfl (pz_ac (pz_inA 5 (by decide) c1 c2) trivial) ?_
      refine pz_if okX3_setPart 9 (r := []) (c := vl < (ro0 pt.toNatClampNeg)) (t := 27) (f := 18) rfl rfl (fun c3 => ?_) (fun c3 => ?_)
      · refine pz_g okX3_setPart 15 1 (cs := []) (pc' := 28) (ls' := [(0, .ref 0), (1, .int pt), (2, .int vl)]) (st' := [.int 0]) (h' := [.inr (3, [.ref 1, .ref 500]), .inl (0, 5, .inl pa)]) (by decide) rfl trivial ?_
        exact pz_ri_ okX3_setPart 16 rfl rfl (by decide) (by first | exact hP | simpa only [fX3_setPart_r, fX3_setPart_a1, if_neg c1, if_neg c2, if_pos c3] using hP)
      · refine pz_g okX3_setPart 10 4 (cs := [vp_in pt 5]) (pc' := 24) (ls' := [(0, .ref 0), (1, .int pt), (2, .int vl)]) (st' := [.int (ro1 pt.toNatClampNeg), .int vl]) (h' := [.inr (3, [.ref 1, .ref 500]), .inl (0, 5, .inl pa)]) (by decide) rfl (pz_ac (pz_inA 5 (by decide) c1 c2) trivial) ?_
        refine pz_if okX3_setPart 14 (r := []) (c := vl ≤ (ro1 pt.toNatClampNeg)) (t := 29) (f := 27) rfl rfl (fun c4 => ?_) (fun c4 => ?_)
        · refine pz_g okX3_setPart 17 6 (cs := [vp_in pt 5]) (pc' := 37) (ls' := [(0, .ref 0), (1, .int pt), (2, .int vl)]) (st' := [.int 1]) (h' := [.inr (3, [.ref 1, .ref 500]), .inl (0, 5, .inl (upd pa pt.toNatClampNeg vl))]) (by decide) rfl (pz_ac (pz_inA 5 (by decide) c1 c2) trivial) ?_
          exact pz_ri_ okX3_setPart 23 rfl rfl (by decide) (by first | exact hP | simpa only [fX3_setPart_r, fX3_setPart_a1, if_neg c1, if_neg c2, if_neg c3, if_pos c4] using hP)
        · refine pz_g okX3_setPart 15 1 (cs := []) (pc' := 28) (ls' := [(0, .ref 0), (1, .int pt), (2, .int vl)]) (st' := [.int 0]) (h' := [.inr (3, [.ref 1, .ref 500]), .inl (0, 5, .inl pa)]) (by decide) rfl trivial ?_
          exact pz_ri_ okX3_setPart 16 rfl rfl (by decide) (by first | exact hP | simpa only [fX3_setPart_r, fX3_setPart_a1, if_neg c1, if_neg c2, if_neg c3, if_neg c4] using hP)
set_option maxRecDepth 100000 in
set_option maxHeartbeats 4000000 in
theorem tX3_setShip (pt : Int32) (vl : Int32) (sh : Nat → Int32) : pz_T mX3_setShip 1 0 0 [.ref 0, .int pt, .int vl] [.inr (3, [.ref 500, .ref 1]), .inl (0, 3, .inl sh)] (fun r h => r = some (.int (fX3_setShip_r pt vl)) ∧ h = [.inr (3, [.ref 500, .ref 1]), .inl (0, 3, .inl (fX3_setShip_a1 pt vl sh))]) := by
  refine pz_en2 (by decide +kernel) (Nat.le_of_ble_eq_true rfl) (fun P hP => ?_)
  show pz_W mX3_setShip 1 0 0 2 P 0 [(0, .ref 0), (1, .int pt), (2, .int vl)] [] _ 0 0
  refine pz_g okX3_setShip 0 1 (cs := []) (pc' := 1) (ls' := [(0, .ref 0), (1, .int pt), (2, .int vl)]) (st' := [.int pt]) (h' := [.inr (3, [.ref 500, .ref 1]), .inl (0, 3, .inl sh)]) (by decide) rfl trivial ?_
  refine pz_if okX3_setShip 1 (r := []) (c := pt < 0) (t := 27) (f := 4) rfl rfl (fun c1 => ?_) (fun c1 => ?_)
  · refine pz_g okX3_setShip 15 1 (cs := []) (pc' := 28) (ls' := [(0, .ref 0), (1, .int pt), (2, .int vl)]) (st' := [.int 0]) (h' := [.inr (3, [.ref 500, .ref 1]), .inl (0, 3, .inl sh)]) (by decide) rfl trivial ?_
    exact pz_ri_ okX3_setShip 16 rfl rfl (by decide) (by first | exact hP | simpa only [fX3_setShip_r, fX3_setShip_a1, if_pos c1] using hP)
  · refine pz_g okX3_setShip 2 2 (cs := []) (pc' := 6) (ls' := [(0, .ref 0), (1, .int pt), (2, .int vl)]) (st' := [.int 3, .int pt]) (h' := [.inr (3, [.ref 500, .ref 1]), .inl (0, 3, .inl sh)]) (by decide) rfl trivial ?_
    refine pz_if okX3_setShip 4 (r := []) (c := 3 ≤ pt) (t := 27) (f := 9) rfl rfl (fun c2 => ?_) (fun c2 => ?_)
    · refine pz_g okX3_setShip 15 1 (cs := []) (pc' := 28) (ls' := [(0, .ref 0), (1, .int pt), (2, .int vl)]) (st' := [.int 0]) (h' := [.inr (3, [.ref 500, .ref 1]), .inl (0, 3, .inl sh)]) (by decide) rfl trivial ?_
      exact pz_ri_ okX3_setShip 16 rfl rfl (by decide) (by first | exact hP | simpa only [fX3_setShip_r, fX3_setShip_a1, if_neg c1, if_pos c2] using hP)
    · refine pz_g okX3_setShip 5 4 (cs := [vp_in pt 3]) (pc' := 15) (ls' := [(0, .ref 0), (1, .int pt), (2, .int vl)]) (st' := [.int (ro2 pt.toNatClampNeg), .int vl]) (h' := [.inr (3, [.ref 500, .ref 1]), .inl (0, 3, .inl sh)]) (by decide) rfl (pz_ac (pz_inA 3 (by decide) c1 c2) trivial) ?_
      refine pz_if okX3_setShip 9 (r := []) (c := vl < (ro2 pt.toNatClampNeg)) (t := 27) (f := 18) rfl rfl (fun c3 => ?_) (fun c3 => ?_)
      · refine pz_g okX3_setShip 15 1 (cs := []) (pc' := 28) (ls' := [(0, .ref 0), (1, .int pt), (2, .int vl)]) (st' := [.int 0]) (h' := [.inr (3, [.ref 500, .ref 1]), .inl (0, 3, .inl sh)]) (by decide) rfl trivial ?_
        exact pz_ri_ okX3_setShip 16 rfl rfl (by decide) (by first | exact hP | simpa only [fX3_setShip_r, fX3_setShip_a1, if_neg c1, if_neg c2, if_pos c3] using hP)
      · refine pz_g okX3_setShip 10 4 (cs := [vp_in pt 3]) (pc' := 24) (ls' := [(0, .ref 0), (1, .int pt), (2, .int vl)]) (st' := [.int (ro3 pt.toNatClampNeg), .int vl]) (h' := [.inr (3, [.ref 500, .ref 1]), .inl (0, 3, .inl sh)]) (by decide) rfl (pz_ac (pz_inA 3 (by decide) c1 c2) trivial) ?_
        refine pz_if okX3_setShip 14 (r := []) (c := vl ≤ (ro3 pt.toNatClampNeg)) (t := 29) (f := 27) rfl rfl (fun c4 => ?_) (fun c4 => ?_)
        · refine pz_g okX3_setShip 17 6 (cs := [vp_in pt 3]) (pc' := 37) (ls' := [(0, .ref 0), (1, .int pt), (2, .int vl)]) (st' := [.int 1]) (h' := [.inr (3, [.ref 500, .ref 1]), .inl (0, 3, .inl (upd sh pt.toNatClampNeg vl))]) (by decide) rfl (pz_ac (pz_inA 3 (by decide) c1 c2) trivial) ?_
          exact pz_ri_ okX3_setShip 23 rfl rfl (by decide) (by first | exact hP | simpa only [fX3_setShip_r, fX3_setShip_a1, if_neg c1, if_neg c2, if_neg c3, if_pos c4] using hP)
        · refine pz_g okX3_setShip 15 1 (cs := []) (pc' := 28) (ls' := [(0, .ref 0), (1, .int pt), (2, .int vl)]) (st' := [.int 0]) (h' := [.inr (3, [.ref 500, .ref 1]), .inl (0, 3, .inl sh)]) (by decide) rfl trivial ?_
          exact pz_ri_ okX3_setShip 16 rfl rfl (by decide) (by first | exact hP | simpa only [fX3_setShip_r, fX3_setShip_a1, if_neg c1, if_neg c2, if_neg c3, if_neg c4] using hP)
set_option maxRecDepth 100000 in
set_option maxHeartbeats 4000000 in
theorem tX3_copy (pa : Nat → Int32) (sh : Nat → Int32) (pb : Nat → Int32) (sb : Nat → Int32) : pz_T mX3_copy 1 0 0 [.ref 0, .ref 3] [.inr (3, [.ref 1, .ref 2]), .inl (0, 5, .inl pa), .inl (0, 3, .inl sh), .inr (3, [.ref 4, .ref 5]), .inl (0, 5, .inl pb), .inl (0, 3, .inl sb)] (fun r h => r = none ∧ h = [.inr (3, [.ref 1, .ref 2]), .inl (0, 5, .inl (va_cpy pb pa 0 0 5)), .inl (0, 3, .inl (va_cpy sb sh 0 0 3)), .inr (3, [.ref 4, .ref 5]), .inl (0, 5, .inl pb), .inl (0, 3, .inl sb)]) := by
  refine pz_en2 (by decide +kernel) (Nat.le_of_ble_eq_true rfl) (fun P hP => ?_)
  show pz_W mX3_copy 1 0 0 6 P 0 [(0, .ref 0), (1, .ref 3)] [] _ 0 0
  refine pz_g okX3_copy 0 16 (cs := [¬ (0 : Int32) < 0 ∧ ¬ (0 : Int32) < 0 ∧ ¬ (5 : Int32) < 0 ∧ 0 + 5 ≤ 5 ∧ 0 + 5 ≤ 5, ¬ (0 : Int32) < 0 ∧ ¬ (0 : Int32) < 0 ∧ ¬ (3 : Int32) < 0 ∧ 0 + 3 ≤ 3 ∧ 0 + 3 ≤ 3]) (pc' := 28) (ls' := [(0, .ref 0), (1, .ref 3)]) (st' := []) (h' := [.inr (3, [.ref 1, .ref 2]), .inl (0, 5, .inl (va_cpy pb pa 0 0 5)), .inl (0, 3, .inl (va_cpy sb sh 0 0 3)), .inr (3, [.ref 4, .ref 5]), .inl (0, 5, .inl pb), .inl (0, 3, .inl sb)]) (by decide) rfl (pz_ac (by first | assumption | (unfold vp_in; decide) | decide) (pz_ac (by first | assumption | (unfold vp_in; decide) | decide) trivial)) ?_
  exact pz_rv_ okX3_copy 16 rfl rfl hP
