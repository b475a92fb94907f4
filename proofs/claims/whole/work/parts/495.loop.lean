/-! ===== printed by wip/whole/mk_loop.py: the loop ===== -/
section
variable {fu L : Nat} {xs : Nat → Int32} {P : Option Value → pz_H → Prop}
set_option maxRecDepth 100000 in
theorem law_next {s : zL} {i : Int32} {k n : Nat} (hk : k ≤ 601024) (hn : n ≤ 7293034) (K : v_pz_W L xs mL_law 250 601024 7293034 0 P 23 [(0, .ref 1010), (1, .ref 0), (2, .ref 73), (3, .ref 103), (4, .int (i + 6))] [] (hL s) k n) : v_pz_W L xs mL_law 250 601024 7293034 0 P 1107 [(0, .ref 1010), (1, .ref 0), (2, .ref 73), (3, .ref 103), (4, .int i)] [] (hL s) k n := by
  refine v_pz_gk okL_law 721 1 (cs := []) (pc' := 1110) (ls' := [(0, .ref 1010), (1, .ref 0), (2, .ref 73), (3, .ref 103), (4, .int (i + 6))]) (st' := []) (h' := hL s) (by decide) hk hn rfl trivial ?_
  exact v_pz_jk okL_law 722 (t := 23) rfl rfl K
theorem law_inb {i : Int32} {I L : Nat} (hi : i.toInt = I) (h : I + 6 ≤ L) (hL : L ≤ 3072) : zB i L := by
  have a1 := i_add i 1 (by rw [hi, show (1 : Int32).toInt = 1 from rfl]; omega) (by rw [hi, show (1 : Int32).toInt = 1 from rfl]; omega)
  rw [hi, show (1 : Int32).toInt = 1 from rfl] at a1
  have a2 := i_add i 2 (by rw [hi, show (2 : Int32).toInt = 2 from rfl]; omega) (by rw [hi, show (2 : Int32).toInt = 2 from rfl]; omega)
  rw [hi, show (2 : Int32).toInt = 2 from rfl] at a2
  have a3 := i_add i 3 (by rw [hi, show (3 : Int32).toInt = 3 from rfl]; omega) (by rw [hi, show (3 : Int32).toInt = 3 from rfl]; omega)
  rw [hi, show (3 : Int32).toInt = 3 from rfl] at a3
  have a4 := i_add i 4 (by rw [hi, show (4 : Int32).toInt = 4 from rfl]; omega) (by rw [hi, show (4 : Int32).toInt = 4 from rfl]; omega)
  rw [hi, show (4 : Int32).toInt = 4 from rfl] at a4
  have a5 := i_add i 5 (by rw [hi, show (5 : Int32).toInt = 5 from rfl]; omega) (by rw [hi, show (5 : Int32).toInt = 5 from rfl]; omega)
  rw [hi, show (5 : Int32).toInt = 5 from rfl] at a5
  exact ⟨i_inb.mpr ⟨by omega, by omega⟩, i_inb.mpr ⟨by omega, by omega⟩, i_inb.mpr ⟨by omega, by omega⟩, i_inb.mpr ⟨by omega, by omega⟩, i_inb.mpr ⟨by omega, by omega⟩⟩
set_option maxRecDepth 100000 in
set_option maxHeartbeats 4000000 in
/-- one turn -/
theorem law_turn {s : zL} {i : Int32} {k n : Nat} (hfu : 10000000 ≤ fu) (hk : k + 1 ≤ 601024) (hn : n + 6 ≤ 7293034) (hI : zI fu s) (hb : zB i L) (hi : pz_inb i L = true) (K0 : ∀ s', zI fu s' → v_pz_W L xs mL_law 250 601024 7293034 0 P 1107 [(0, .ref 1010), (1, .ref 0), (2, .ref 73), (3, .ref 103), (4, .int i)] [] (hL s') k n) (K1 : ∀ s', zI fu s' → v_pz_W L xs mL_law 250 601024 7293034 0 P 1107 [(0, .ref 1010), (1, .ref 0), (2, .ref 73), (3, .ref 103), (4, .int i)] [] (hL s') (k + 1) (n + 6)) : v_pz_W L xs mL_law 250 601024 7293034 0 P 33 [(0, .ref 1010), (1, .ref 0), (2, .ref 73), (3, .ref 103), (4, .int i)] [] (hL s) k n := by
  have hk0 : k ≤ 601024 := by omega
  have hn0 : n ≤ 7293034 := by omega
  refine v_pz_gk okL_law 19 2 (cs := []) (pc' := 36) (ls' := [(0, .ref 1010), (1, .ref 0), (2, .ref 73), (3, .ref 103), (4, .int i)]) (st' := [.int i, .ref 1010]) (h' := hL s) (by decide) hk0 hn0 rfl trivial ?_
  refine v_sal okL_law 21 rfl hi ?_
  refine v_pz_gk okL_law 22 2 (cs := []) (pc' := 40) (ls' := [(0, .ref 1010), (1, .ref 0), (2, .ref 73), (3, .ref 103), (4, .int i)]) (st' := [.int (xs i.toNatClampNeg &&& 31)]) (h' := hL s) (by decide) hk0 hn0 rfl trivial ?_
  refine v_pz_tsw (pz_dec okL_law 24 rfl) [(0, 152), (1, 225), (2, 250), (3, 275), (4, 312), (5, 349), (6, 417), (7, 466), (8, 527), (9, 564), (10, 637), (11, 674), (12, 711), (13, 724), (14, 773), (15, 834), (16, 895), (17, 920), (18, 945), (19, 994), (20, 1019), (21, 1044), (22, 1057), (23, 1082)] 1107 (by decide) (by decide) (by decide) ?_
  exact pz_s2 (fun _ => lawc_feed hfu hk0 hn0 hI hb K0) (fun _ => pz_s2 (fun _ => lawc_text hfu hk0 hn0 hI hb K0) (fun _ => pz_s2 (fun _ => lawc_fault hfu hk0 hn0 hI hb K0) (fun _ => pz_s2 (fun _ => lawc_part hfu hk0 hn0 hI hb K0) (fun _ => pz_s2 (fun _ => lawc_ship hfu hk0 hn0 hI hb K0) (fun _ => pz_s2 (fun _ => lawc_row hfu hk hn hI hb K1) (fun _ => pz_s2 (fun _ => lawc_led hfu hk0 hn0 hI hb K0) (fun _ => pz_s2 (fun _ => lawc_steer hfu hk0 hn0 hI hb K0) (fun _ => pz_s2 (fun _ => lawc_hunt hfu hk0 hn0 hI hb K0) (fun _ => pz_s2 (fun _ => lawc_worst hfu hk0 hn0 hI hb K0) (fun _ => pz_s2 (fun _ => lawc_holds hfu hk0 hn0 hI hb K0) (fun _ => pz_s2 (fun _ => lawc_mark hfu hk0 hn0 hI hb K0) (fun _ => pz_s2 (fun _ => lawc_wipe hfu hk0 hn0 hI hb K0) (fun _ => pz_s2 (fun _ => lawc_fits hfu hk0 hn0 hI hb K0) (fun _ => pz_s2 (fun _ => lawc_suspect hfu hk0 hn0 hI hb K0) (fun _ => pz_s2 (fun _ => lawc_parts hfu hk0 hn0 hI hb K0) (fun _ => pz_s2 (fun _ => lawc_named hfu hk0 hn0 hI hb K0) (fun _ => pz_s2 (fun _ => lawc_safe hfu hk0 hn0 hI hb K0) (fun _ => pz_s2 (fun _ => lawc_drill hfu hk0 hn0 hI hb K0) (fun _ => pz_s2 (fun _ => lawc_begin hfu hk0 hn0 hI hb K0) (fun _ => pz_s2 (fun _ => lawc_order hfu hk0 hn0 hI hb K0) (fun _ => pz_s2 (fun _ => lawc_back hfu hk0 hn0 hI hb K0) (fun _ => pz_s2 (fun _ => lawc_now hfu hk0 hn0 hI hb K0) (fun _ => pz_s2 (fun _ => lawc_count hfu hk0 hn0 hI hb K0) (fun _ => pz_s1 (K0 s hI)))))))))))))))))))))))))
set_option maxRecDepth 100000 in
/-- the head of the loop -/
theorem law_head {s : zL} {i : Int32} {k n : Nat} (hk : k ≤ 601024) (hn : n ≤ 7293034) (hP : P (some (.int 1)) (hL s)) (K : ¬ Int32.ofNat L - 6 < i → v_pz_W L xs mL_law 250 601024 7293034 0 P 33 [(0, .ref 1010), (1, .ref 0), (2, .ref 73), (3, .ref 103), (4, .int i)] [] (hL s) k n) : v_pz_W L xs mL_law 250 601024 7293034 0 P 23 [(0, .ref 1010), (1, .ref 0), (2, .ref 73), (3, .ref 103), (4, .int i)] [] (hL s) k n := by
  refine v_pz_gk okL_law 13 2 (cs := []) (pc' := 26) (ls' := [(0, .ref 1010), (1, .ref 0), (2, .ref 73), (3, .ref 103), (4, .int i)]) (st' := [.ref 1010, .int i]) (h' := hL s) (by decide) hk hn rfl trivial ?_
  refine v_sle okL_law 15 rfl ?_
  refine v_pz_gk okL_law 16 2 (cs := []) (pc' := 30) (ls' := [(0, .ref 1010), (1, .ref 0), (2, .ref 73), (3, .ref 103), (4, .int i)]) (st' := [.int (Int32.ofNat L - 6), .int i]) (h' := hL s) (by decide) hk hn rfl trivial ?_
  refine v_pz_ifk okL_law 18 (r := []) (c := Int32.ofNat L - 6 < i) (t := 1113) (f := 33) rfl rfl (fun _ => ?_) K
  refine v_pz_gk okL_law 723 1 (cs := []) (pc' := 1114) (ls' := [(0, .ref 1010), (1, .ref 0), (2, .ref 73), (3, .ref 103), (4, .int i)]) (st' := [.int 1]) (h' := hL s) (by decide) hk hn rfl trivial ?_
  exact v_pz_rik okL_law 724 rfl hk hn rfl (by decide) hP
theorem law_cmp {i : Int32} {I L : Nat} (hi : i.toInt = I) (hL : L ≤ 3072) (h : ¬ Int32.ofNat L - 6 < i) : I + 6 ≤ L := by
  have hl : (Int32.ofNat L).toInt = L := by
    rw [Int32.toInt_ofNat_of_lt (by omega)]
  have hs := i_sub (Int32.ofNat L) 6 (by rw [hl, show (6 : Int32).toInt = 6 from rfl]; omega) (by rw [hl, show (6 : Int32).toInt = 6 from rfl]; omega)
  rw [hl, show (6 : Int32).toInt = 6 from rfl] at hs
  rw [i_lt] at h
  omega
theorem law_loop (hfu : 10000000 ≤ fu) (hL3 : L ≤ 3072) (hP : ∀ s, P (some (.int 1)) (hL s)) : ∀ (r I : Nat) (i : Int32) (s : zL) (k n : Nat), i.toInt = I → L < I + 6 * r + 6 → I ≤ L → zI fu s → k + r ≤ 601024 → n + 6 * r ≤ 7293034 → v_pz_W L xs mL_law 250 601024 7293034 0 P 23 [(0, .ref 1010), (1, .ref 0), (2, .ref 73), (3, .ref 103), (4, .int i)] [] (hL s) k n := by
  intro r
  induction r with
  | zero =>
    intro I i s k n hi hr hIL hI hk hn
    refine law_head (by omega) (by omega) (hP s) (fun c9 => ?_)
    have := law_cmp hi hL3 c9
    omega
  | succ r ih =>
    intro I i s k n hi hr hIL hI hk hn
    refine law_head (by omega) (by omega) (hP s) (fun c9 => ?_)
    have h6 := law_cmp hi hL3 c9
    have a6 := i_add i 6 (by rw [hi, show (6 : Int32).toInt = 6 from rfl]; omega) (by rw [hi, show (6 : Int32).toInt = 6 from rfl]; omega)
    rw [hi, show (6 : Int32).toInt = 6 from rfl] at a6
    refine law_turn hfu (by omega) (by omega) hI (law_inb hi h6 hL3) (i_inb.mpr ⟨by omega, by omega⟩) (fun s' h' => law_next (by omega) (by omega) ?_) (fun s' h' => law_next (by omega) (by omega) ?_)
    · exact ih (I + 6) (i + 6) s' k n (by omega) (by omega) (by omega) h' (by omega) (by omega)
    · exact ih (I + 6) (i + 6) s' (k + 1) (n + 6) (by omega) (by omega) (by omega) h' (by omega) (by omega)
end
