/-! ===== row: the one method that throws ===== -/
theorem pz_X_thr {M : pz_M} {bs : Nat} {D : va_G} {kA : Nat → ClassId} {ad : Nat → Nat} {p : Program} {s : State} {m : MethodId} {args : Array Value} {meth : Method} {c : Code} {A : Nat → Prop} (X : pz_X M bs D kA ad p s m args meth c A) : pz_thr bs ad s s.heap := (pz_X_str X).2.2.2.2.2.2.2
/-- what stays behind a throw -/
theorem pz_thr_end {M : pz_M} {n0 : Nat} {Post : Option Value → pz_H → Prop} {h : pz_H} {D : va_G} {kA : Nat → ClassId} {ad ad0 : Nat → Nat} {s t : State} {A : Nat → Prop} {H : Heap} {locs : List Loc} {E : String} {i : Nat} (hx : pz_xr M = true) (hE : pz_xn E = some i) (hp : Post (some (.retAddr i)) h)
    (hag : pz_ag n0 h ad ad0) (hP : va_P D vwCl (pz_w ad kA h) H) (hK : va_K D vwCl (pz_tys kA) s) (hD : va_D A (pz_w ad kA h)) (hS : va_S A s.heap H locs) (hvm : s.vm.Alike t.vm) (g1 : H.size ≤ t.heap.size) (g2 : ∀ q : Nat, q < H.size → t.heap[q]? = H[q]?) : pz_XC M D kA ad0 n0 Post A E s t :=
  ⟨hx, ⟨i, h, ad, hE, hp, hag, hP.kept (fun k q hk => g2 _ (vx_lt hP hk)), va_K.moved hvm hK, hD⟩, Nat.le_trans hS.1 g1, fun q hq hA => (g2 q (Nat.lt_of_lt_of_le hq hS.1)).trans (hS.2.1 q hq hA)⟩
theorem pz_c13_0 : decode pz_c13 0 = .ok (.aload_n 0, 1) := by decide +kernel
theorem pz_c13_1 : decode pz_c13 1 = .ok (.aload_n 1, 1) := by decide +kernel
theorem pz_c13_2 : decode pz_c13 2 = .ok (.invokespecial 13, 3) := by decide +kernel
theorem pz_c13_5 : decode pz_c13 5 = .ok (.return_, 1) := by decide +kernel
theorem pz_xr_row : pz_xr mX11_row = true := by decide +kernel
theorem pz_fit_nm : ∀ n ∈ pz_nm, Bundle.fit n = true := List.all_eq_true.mp (by decide +kernel)
theorem pz_fit_IO : Bundle.fit pz_IO = true := by decide +kernel
theorem pz_fit_NS : Bundle.fit pz_NS = true := by decide +kernel
theorem pz_xn_IO : pz_xn pz_IO = some 0 := by decide +kernel
theorem pz_xn_NS : pz_xn pz_NS = some 1 := by decide +kernel
theorem pz_go_IO : ∀ w ∈ Cond.classLink "HuntingRudder" 134 pz_IO :: Cond.initialized pz_IO :: vx_atX "HuntingRudder" 138 pz_IO 7 Bundle.six pz_nm, vx_ot w = true := List.all_eq_true.mp (by decide +kernel)
theorem pz_go_NS : ∀ w ∈ Cond.classLink "HuntingRudder" 148 pz_NS :: Cond.initialized pz_NS :: vx_atX "HuntingRudder" 152 pz_NS 13 pz_c13 pz_nm, vx_ot w = true := List.all_eq_true.mp (by decide +kernel)
theorem pz_tw_at {args : Array Value} {s : State} (h : ∀ w ∈ pz_tw, va_Nw w s) : ∀ w ∈ pz_tw, w.before args s = true := fun w hw => va_Nw.use (pz_tok_tab (List.all_eq_true.mp pz_tw_ok w hw)) (h w hw)
section
variable {d mc ms n0 k n : Nat} {Post : Option Value → pz_H → Prop} {ls : pz_L} {h : pz_H}
theorem pz_thr0 (hd : 6 ≤ d) (hk : k + 1 ≤ mc) (hn : n + 6 ≤ ms) (hp : Post (some (.retAddr 0)) h) : pz_W mX11_row d mc ms n0 Post 11 ls [] h k n := by
  intro bs D kA ad ad0 p l e s m args below meth c A H locs lc X hag hP hD hS hl
  obtain ⟨t1, t2, t3, t4, t5, t6⟩ := pz_X_thr X
  have use := pz_tw_at (args := args) t5
  have hx1 := X.2.2.2.2.2.2.2.1.2 pz_xr_row
  exact vx_throwX (l := l.1) (cc := mX11_row.2.1) (own := "HuntingRudder") (cls := pz_IO) (text := "no such ROW") (names := pz_nm) (ik := 134) (is := 136) (ic := 138) (ix := 7) (rx := Bundle.six) (sa := ad 1008) (A := A) X.1 X.2.1 l.2 Bundle.six_0 Bundle.six_1 Bundle.six_2 Bundle.six_5 X.2.2.2.2.1 pz_fit_IO pz_fit_nm
    (use _ (List.mem_append_right _ (List.mem_append_right _ (List.mem_of_getElem? (i := 0) rfl)))) (use _ (List.mem_append_right _ (List.mem_append_right _ (List.mem_of_getElem? (i := 2) rfl)))) t3 (fun w hw => use w (List.mem_append_left _ hw)) pz_go_IO (t1.narrow X.2.2.2.2.2.2.2.2.2.2.1) (t2.narrow X.2.2.2.2.2.2.2.2.2.2.1) hS (hl.1.trans X.2.2.1.symm)
    (by decide +kernel) (by decide +kernel) (by decide +kernel) (by decide +kernel) (by decide +kernel) (fun x hx => (hx1 x hx).elim) (show 2 + 3 < d by omega) (show 0 + (13 * (2 + 1) + 43) ≤ 64 * d by omega) hk hn X.2.2.2.2.2.2.1
    (fun t hvm g1 g2 => pz_thr_end pz_xr_row pz_xn_IO hp hag hP X.2.2.2.2.2.2.2.2.1 hD hS hvm g1 g2) hS.2.2 hk hn
theorem pz_thr1 (hd : 6 ≤ d) (hk : k + 1 ≤ mc) (hn : n + 6 ≤ ms) (hp : Post (some (.retAddr 1)) h) : pz_W mX11_row d mc ms n0 Post 70 ls [] h k n := by
  intro bs D kA ad ad0 p l e s m args below meth c A H locs lc X hag hP hD hS hl
  obtain ⟨t1, t2, t3, t4, t5, t6⟩ := pz_X_thr X
  have use := pz_tw_at (args := args) t5
  have hx1 := X.2.2.2.2.2.2.2.1.2 pz_xr_row
  exact vx_throwX (l := l.1) (cc := mX11_row.2.1) (own := "HuntingRudder") (cls := pz_NS) (text := "no such what") (names := pz_nm) (ik := 148) (is := 150) (ic := 152) (ix := 13) (rx := pz_c13) (sa := ad 1009) (A := A) X.1 X.2.1 l.2 pz_c13_0 pz_c13_1 pz_c13_2 pz_c13_5 X.2.2.2.2.1 pz_fit_NS pz_fit_nm
    (use _ (List.mem_append_right _ (List.mem_append_right _ (List.mem_of_getElem? (i := 1) rfl)))) (use _ (List.mem_append_right _ (List.mem_append_right _ (List.mem_of_getElem? (i := 3) rfl)))) t4 (fun w hw => use w (List.mem_append_right _ (List.mem_append_left _ hw))) pz_go_NS (t1.narrow X.2.2.2.2.2.2.2.2.2.2.1) (t2.narrow X.2.2.2.2.2.2.2.2.2.2.1) hS (hl.1.trans X.2.2.1.symm)
    (by decide +kernel) (by decide +kernel) (by decide +kernel) (by decide +kernel) (by decide +kernel) (fun x hx => (hx1 x hx).elim) (show 2 + 3 < d by omega) (show 0 + (13 * (2 + 1) + 43) ≤ 64 * d by omega) hk hn X.2.2.2.2.2.2.1
    (fun t hvm g1 g2 => pz_thr_end pz_xr_row pz_xn_NS hp hag hP X.2.2.2.2.2.2.2.2.1 hD hS hvm g1 g2) hS.2.2 hk hn
end
/-- a contract that may throw -/
def pz_TX (M : pz_M) (d mc ms : Nat) (av : List Value) (h : pz_H) (Post : Option Value → pz_H → Prop) : Prop := ∀ (l : pz_Ln) (bs : Nat) (D : va_G) (kA : Nat → ClassId) (ad : Nat → Nat) (sz : Nat),
  vx_Met l.1 M.1 (pz_ws M) (pz_R d mc ms) (va_Pc (av.map (pz_v ad)) (pz_Pre bs D kA ad sz h)) (pz_Q D kA ad h.length Post (va_A (pz_w ad kA h) sz)) (pz_XC M D kA ad h.length Post (va_A (pz_w ad kA h) sz)) mc ms (va_A (pz_w ad kA h) sz)
theorem pz_enX {M : pz_M} {d mc ms : Nat} {av : List Value} {h : pz_H} {Post : Option Value → pz_H → Prop} (hy : plainName M.1.cls = true) (hlen : (lg_sl av).length ≤ M.2.2.1) (w : pz_W M d mc ms h.length Post 0 (lv_args 0 av) [] h 0 0) : pz_TX M d mc ms av h Post := by
  intro l bs D kA ad sz
  refine vx_ofW (cc := M.2.1) (maxL := M.2.2.1) (ret := M.2.2.2.1) hy rfl ?_
  intro p e s m args below meth c s₁ B hml hout hv
  obtain ⟨rfl, hsz, hbs, hP, hK, hD0, hamb⟩ := hv
  have hts := atoms_spec (ws := pz_ws M) B.pre
  subst hsz
  have hD := hD0.self (sz := s.heap.size)
  have hX : pz_X M bs D kA ad p s m (av.map (pz_v ad)).toArray meth c (va_A (pz_w ad kA h) s.heap.size) := by
    refine ⟨B.exec, B.bytes, hml, B.returns, findClass_of_methodNamed B.named, fun w hw => hts w (List.mem_cons_of_mem _ hw), B.notSynchronized, ⟨(name_of_methodNamed B.named B.method).1, fun _ => hout⟩, hK, fun q hq => Or.inr hq, fun q hq => ?_, hbs, hamb⟩
    rcases hq with ⟨i, x, hq⟩ | hq
    · exact hD0.2 i _ hq
    · exact Nat.le_trans hbs hq
  have hl := lv_entry (av.map (pz_v ad)) (n := M.2.2.1) (by rw [pz_lg_len]; exact hlen)
  rw [lg_entry_eq]
  rw [pz_args_l] at hl
  exact w bs D kA ad ad p l e s m _ below meth c _ s.heap [] _ hX ⟨Nat.le_refl _, fun _ _ => rfl⟩ hP hD va_S.rf hl
/-- which way row goes -/
def rowP (fu : Nat) (p1z p2z rows1 : Int32) (rs rl ro : Nat → Int32) (rv : Value) : Prop :=
  (fX6_hasRow_r p1z rows1 = 0 ∧ rv = .retAddr 0) ∨
  (fX6_hasRow_r p1z rows1 = 1 ∧ pz_inb p1z 6 = true ∧ ((p2z = 0 ∧ rv = .int (rs p1z.toNatClampNeg)) ∨ (p2z = 1 ∧ rv = .int (rl p1z.toNatClampNeg)) ∨ (¬ p2z = 0 ∧ ¬ p2z = 1 ∧ ¬ p2z < 2 ∧ ¬ rl p1z.toNatClampNeg ≤ p2z - 2 ∧ ∃ v, FX6_rowOrder fu p1z (p2z - 2) rows1 ro = some v ∧ rv = .int v) ∨ (¬ p2z = 0 ∧ ¬ p2z = 1 ∧ (p2z < 2 ∨ (¬ p2z < 2 ∧ rl p1z.toNatClampNeg ≤ p2z - 2)) ∧ rv = .retAddr 1)))
set_option maxRecDepth 100000 in
theorem tX11_row (fu : Nat) (p1z p2z : Int32) (safeTable1 : Int64) (lines1 wheelLines1 gears1 rows1 : Int32) (rs rl ro : Nat → Int32) (rv : Value) (hr : rowP fu p1z p2z rows1 rs rl ro rv) : pz_TX mX11_row 8 1 6 [.ref 0, .int p1z, .int p2z] [.inr (11, [.ref 500, .ref 501, .ref 502, .ref 503, .ref 504, .ref 505, .ref 506, .ref 507, .ref 508, .ref 1]), .inr (6, [.ref 509, .ref 510, .ref 511, .ref 512, .ref 513, .ref 514, .ref 2, .ref 3, .ref 4, .long safeTable1, .int lines1, .int wheelLines1, .int gears1, .int rows1]), .inl (0, 6, .inl rs), .inl (0, 6, .inl rl), .inl (0, 72, .inl ro)] (fun r h => r = some rv ∧ h = [.inr (11, [.ref 500, .ref 501, .ref 502, .ref 503, .ref 504, .ref 505, .ref 506, .ref 507, .ref 508, .ref 1]), .inr (6, [.ref 509, .ref 510, .ref 511, .ref 512, .ref 513, .ref 514, .ref 2, .ref 3, .ref 4, .long safeTable1, .int lines1, .int wheelLines1, .int gears1, .int rows1]), .inl (0, 6, .inl rs), .inl (0, 6, .inl rl), .inl (0, 72, .inl ro)]) := by
  refine pz_enX (by decide +kernel) (Nat.le_of_ble_eq_true rfl) ?_
  generalize hPP : (fun (r : Option Value) (h : pz_H) => r = some rv ∧ h = [.inr (11, [.ref 500, .ref 501, .ref 502, .ref 503, .ref 504, .ref 505, .ref 506, .ref 507, .ref 508, .ref 1]), .inr (6, [.ref 509, .ref 510, .ref 511, .ref 512, .ref 513, .ref 514, .ref 2, .ref 3, .ref 4, .long safeTable1, .int lines1, .int wheelLines1, .int gears1, .int rows1]), .inl (0, 6, .inl rs), .inl (0, 6, .inl rl), .inl (0, 72, .inl ro)]) = P
  have hP : P (some rv) [.inr (11, [.ref 500, .ref 501, .ref 502, .ref 503, .ref 504, .ref 505, .ref 506, .ref 507, .ref 508, .ref 1]), .inr (6, [.ref 509, .ref 510, .ref 511, .ref 512, .ref 513, .ref 514, .ref 2, .ref 3, .ref 4, .long safeTable1, .int lines1, .int wheelLines1, .int gears1, .int rows1]), .inl (0, 6, .inl rs), .inl (0, 6, .inl rl), .inl (0, 72, .inl ro)] := by rw [← hPP]; exact ⟨rfl, rfl⟩
  clear hPP
  show pz_W mX11_row 8 1 6 5 P 0 [(0, .ref 0), (1, .int p1z), (2, .int p2z)] [] _ 0 0
  refine pz_gk okX11_row 0 3 (cs := []) (pc' := 5) (ls' := [(0, .ref 0), (1, .int p1z), (2, .int p2z)]) (st' := [.int p1z, .ref 1]) (h' := [.inr (11, [.ref 500, .ref 501, .ref 502, .ref 503, .ref 504, .ref 505, .ref 506, .ref 507, .ref 508, .ref 1]), .inr (6, [.ref 509, .ref 510, .ref 511, .ref 512, .ref 513, .ref 514, .ref 2, .ref 3, .ref 4, .long safeTable1, .int lines1, .int wheelLines1, .int gears1, .int rows1]), .inl (0, 6, .inl rs), .inl (0, 6, .inl rl), .inl (0, 72, .inl ro)]) (by decide) (by decide) (by decide) rfl trivial ?_
  refine pz_cvk (M' := mX6_hasRow) (rest0 := []) okX11_row 3 rfl lkX11_130 cvX6_hasRow [1] [509, 510, 511, 512, 513, 514, 2, 3, 4] (tX6_hasRow p1z safeTable1 lines1 wheelLines1 gears1 rows1) (by decide) (by decide) (by decide) rfl rfl rfl rfl 5 rfl rfl (by decide) (by decide) (by decide) (Nat.le_of_ble_eq_true rfl) rfl (st2 := [.int (fX6_hasRow_r p1z rows1)]) (h2 := [.inr (11, [.ref 500, .ref 501, .ref 502, .ref 503, .ref 504, .ref 505, .ref 506, .ref 507, .ref 508, .ref 1]), .inr (6, [.ref 509, .ref 510, .ref 511, .ref 512, .ref 513, .ref 514, .ref 2, .ref 3, .ref 4, .long safeTable1, .int lines1, .int wheelLines1, .int gears1, .int rows1]), .inl (0, 6, .inl rs), .inl (0, 6, .inl rl), .inl (0, 72, .inl ro)]) rfl rfl rfl ?_
  refine pz_ifk okX11_row 4 (r := []) (c := ¬ fX6_hasRow_r p1z rows1 = 0) (t := 21) (f := 11) rfl rfl (fun c4 => ?_) (fun c4 => ?_)
  case refine_2 =>
    rcases hr with ⟨h1, rfl⟩ | ⟨h1, -⟩
    · exact pz_thr0 (by decide) (by decide) (by decide) hP
    · exact absurd (fun z => absurd (h1.symm.trans z) (show ¬ (1 : Int32) = 0 by decide)) c4
  rcases hr with ⟨h1, -⟩ | ⟨h1, h2, h3⟩
  · exact absurd h1 c4
  refine pz_gk okX11_row 10 1 (cs := []) (pc' := 22) (ls' := [(0, .ref 0), (1, .int p1z), (2, .int p2z)]) (st' := [.int p2z]) (h' := [.inr (11, [.ref 500, .ref 501, .ref 502, .ref 503, .ref 504, .ref 505, .ref 506, .ref 507, .ref 508, .ref 1]), .inr (6, [.ref 509, .ref 510, .ref 511, .ref 512, .ref 513, .ref 514, .ref 2, .ref 3, .ref 4, .long safeTable1, .int lines1, .int wheelLines1, .int gears1, .int rows1]), .inl (0, 6, .inl rs), .inl (0, 6, .inl rl), .inl (0, 72, .inl ro)]) (by decide) (by decide) (by decide) rfl trivial ?_
  refine pz_ifk okX11_row 11 (r := []) (c := ¬ p2z = 0) (t := 35) (f := 25) rfl rfl (fun c11 => ?_) (fun c11 => ?_)
  case refine_2 =>
    rcases h3 with ⟨q, rfl⟩ | ⟨q, -⟩ | ⟨q, -⟩ | ⟨q, -⟩
    · refine pz_gk okX11_row 12 5 (cs := [vp_in p1z 6]) (pc' := 34) (ls' := [(0, .ref 0), (1, .int p1z), (2, .int p2z)]) (st' := [.int (rs p1z.toNatClampNeg)]) (h' := [.inr (11, [.ref 500, .ref 501, .ref 502, .ref 503, .ref 504, .ref 505, .ref 506, .ref 507, .ref 508, .ref 1]), .inr (6, [.ref 509, .ref 510, .ref 511, .ref 512, .ref 513, .ref 514, .ref 2, .ref 3, .ref 4, .long safeTable1, .int lines1, .int wheelLines1, .int gears1, .int rows1]), .inl (0, 6, .inl rs), .inl (0, 6, .inl rl), .inl (0, 72, .inl ro)]) (by decide) (by decide) (by decide) rfl (pz_inb_ok h2) ?_
      exact pz_rik okX11_row 17 rfl (by decide) (by decide) rfl rfl hP
    · exact absurd (by rw [q]; decide) c11
    · exact absurd q c11
    · exact absurd q c11
  refine pz_gk okX11_row 18 2 (cs := []) (pc' := 37) (ls' := [(0, .ref 0), (1, .int p1z), (2, .int p2z)]) (st' := [.int 1, .int p2z]) (h' := [.inr (11, [.ref 500, .ref 501, .ref 502, .ref 503, .ref 504, .ref 505, .ref 506, .ref 507, .ref 508, .ref 1]), .inr (6, [.ref 509, .ref 510, .ref 511, .ref 512, .ref 513, .ref 514, .ref 2, .ref 3, .ref 4, .long safeTable1, .int lines1, .int wheelLines1, .int gears1, .int rows1]), .inl (0, 6, .inl rs), .inl (0, 6, .inl rl), .inl (0, 72, .inl ro)]) (by decide) (by decide) (by decide) rfl trivial ?_
  refine pz_ifk okX11_row 20 (r := []) (c := ¬ p2z = 1) (t := 50) (f := 40) rfl rfl (fun c20 => ?_) (fun c20 => ?_)
  case refine_2 =>
    rcases h3 with ⟨q, -⟩ | ⟨q, rfl⟩ | ⟨-, q, -⟩ | ⟨-, q, -⟩
    · exact absurd q c11
    · refine pz_gk okX11_row 21 5 (cs := [vp_in p1z 6]) (pc' := 49) (ls' := [(0, .ref 0), (1, .int p1z), (2, .int p2z)]) (st' := [.int (rl p1z.toNatClampNeg)]) (h' := [.inr (11, [.ref 500, .ref 501, .ref 502, .ref 503, .ref 504, .ref 505, .ref 506, .ref 507, .ref 508, .ref 1]), .inr (6, [.ref 509, .ref 510, .ref 511, .ref 512, .ref 513, .ref 514, .ref 2, .ref 3, .ref 4, .long safeTable1, .int lines1, .int wheelLines1, .int gears1, .int rows1]), .inl (0, 6, .inl rs), .inl (0, 6, .inl rl), .inl (0, 72, .inl ro)]) (by decide) (by decide) (by decide) rfl (pz_inb_ok h2) ?_
      exact pz_rik okX11_row 26 rfl (by decide) (by decide) rfl rfl hP
    · exact absurd q c20
    · exact absurd q c20
  rcases h3 with ⟨q, -⟩ | ⟨q, -⟩ | h3 | h3
  · exact absurd q c11
  · exact absurd q c20
  · obtain ⟨-, -, q1, q2, v, hv, rfl⟩ := h3
    refine pz_gk okX11_row 27 2 (cs := []) (pc' := 52) (ls' := [(0, .ref 0), (1, .int p1z), (2, .int p2z)]) (st' := [.int 2, .int p2z]) (h' := [.inr (11, [.ref 500, .ref 501, .ref 502, .ref 503, .ref 504, .ref 505, .ref 506, .ref 507, .ref 508, .ref 1]), .inr (6, [.ref 509, .ref 510, .ref 511, .ref 512, .ref 513, .ref 514, .ref 2, .ref 3, .ref 4, .long safeTable1, .int lines1, .int wheelLines1, .int gears1, .int rows1]), .inl (0, 6, .inl rs), .inl (0, 6, .inl rl), .inl (0, 72, .inl ro)]) (by decide) (by decide) (by decide) rfl trivial ?_
    refine pz_ifk okX11_row 29 (r := []) (c := p2z < 2) (t := 70) (f := 55) rfl rfl (fun c29 => ?_) (fun c29 => ?_)
    · exact absurd c29 q1
    refine pz_gk okX11_row 30 8 (cs := [vp_in p1z 6]) (pc' := 67) (ls' := [(0, .ref 0), (1, .int p1z), (2, .int p2z)]) (st' := [.int (rl p1z.toNatClampNeg), .int (p2z - 2)]) (h' := [.inr (11, [.ref 500, .ref 501, .ref 502, .ref 503, .ref 504, .ref 505, .ref 506, .ref 507, .ref 508, .ref 1]), .inr (6, [.ref 509, .ref 510, .ref 511, .ref 512, .ref 513, .ref 514, .ref 2, .ref 3, .ref 4, .long safeTable1, .int lines1, .int wheelLines1, .int gears1, .int rows1]), .inl (0, 6, .inl rs), .inl (0, 6, .inl rl), .inl (0, 72, .inl ro)]) (by decide) (by decide) (by decide) rfl (pz_inb_ok h2) ?_
    refine pz_ifk okX11_row 38 (r := []) (c := p2z - 2 < rl p1z.toNatClampNeg) (t := 80) (f := 70) rfl rfl (fun c38 => ?_) (fun c38 => ?_)
    case refine_2 => exact absurd (Int32.not_lt.mp c38) q2
    refine pz_gk okX11_row 44 6 (cs := []) (pc' := 88) (ls' := [(0, .ref 0), (1, .int p1z), (2, .int p2z)]) (st' := [.int (p2z - 2), .int p1z, .ref 1]) (h' := [.inr (11, [.ref 500, .ref 501, .ref 502, .ref 503, .ref 504, .ref 505, .ref 506, .ref 507, .ref 508, .ref 1]), .inr (6, [.ref 509, .ref 510, .ref 511, .ref 512, .ref 513, .ref 514, .ref 2, .ref 3, .ref 4, .long safeTable1, .int lines1, .int wheelLines1, .int gears1, .int rows1]), .inl (0, 6, .inl rs), .inl (0, 6, .inl rl), .inl (0, 72, .inl ro)]) (by decide) (by decide) (by decide) rfl trivial ?_
    refine pz_cvk (M' := mX6_rowOrder) (rest0 := []) okX11_row 50 rfl lkX11_153 cvX6_rowOrder [1, 4] [509, 510, 511, 512, 513, 514, 2, 3] (tFX6_rowOrder fu p1z (p2z - 2) safeTable1 lines1 wheelLines1 gears1 rows1 ro v hv) (by decide) (by decide) (by decide) rfl rfl rfl rfl 5 rfl rfl (by decide) (by decide) (by decide) (Nat.le_of_ble_eq_true rfl) rfl (st2 := [.int v]) (h2 := [.inr (11, [.ref 500, .ref 501, .ref 502, .ref 503, .ref 504, .ref 505, .ref 506, .ref 507, .ref 508, .ref 1]), .inr (6, [.ref 509, .ref 510, .ref 511, .ref 512, .ref 513, .ref 514, .ref 2, .ref 3, .ref 4, .long safeTable1, .int lines1, .int wheelLines1, .int gears1, .int rows1]), .inl (0, 6, .inl rs), .inl (0, 6, .inl rl), .inl (0, 72, .inl ro)]) rfl rfl rfl ?_
    exact pz_rik okX11_row 51 rfl (by decide) (by decide) rfl rfl hP
  · obtain ⟨-, -, q1, rfl⟩ := h3
    refine pz_gk okX11_row 27 2 (cs := []) (pc' := 52) (ls' := [(0, .ref 0), (1, .int p1z), (2, .int p2z)]) (st' := [.int 2, .int p2z]) (h' := [.inr (11, [.ref 500, .ref 501, .ref 502, .ref 503, .ref 504, .ref 505, .ref 506, .ref 507, .ref 508, .ref 1]), .inr (6, [.ref 509, .ref 510, .ref 511, .ref 512, .ref 513, .ref 514, .ref 2, .ref 3, .ref 4, .long safeTable1, .int lines1, .int wheelLines1, .int gears1, .int rows1]), .inl (0, 6, .inl rs), .inl (0, 6, .inl rl), .inl (0, 72, .inl ro)]) (by decide) (by decide) (by decide) rfl trivial ?_
    refine pz_ifk okX11_row 29 (r := []) (c := p2z < 2) (t := 70) (f := 55) rfl rfl (fun c29 => ?_) (fun c29 => ?_)
    · exact pz_thr1 (by decide) (by decide) (by decide) hP
    rcases q1 with q1 | ⟨-, q1⟩
    · exact absurd q1 c29
    refine pz_gk okX11_row 30 8 (cs := [vp_in p1z 6]) (pc' := 67) (ls' := [(0, .ref 0), (1, .int p1z), (2, .int p2z)]) (st' := [.int (rl p1z.toNatClampNeg), .int (p2z - 2)]) (h' := [.inr (11, [.ref 500, .ref 501, .ref 502, .ref 503, .ref 504, .ref 505, .ref 506, .ref 507, .ref 508, .ref 1]), .inr (6, [.ref 509, .ref 510, .ref 511, .ref 512, .ref 513, .ref 514, .ref 2, .ref 3, .ref 4, .long safeTable1, .int lines1, .int wheelLines1, .int gears1, .int rows1]), .inl (0, 6, .inl rs), .inl (0, 6, .inl rl), .inl (0, 72, .inl ro)]) (by decide) (by decide) (by decide) rfl (pz_inb_ok h2) ?_
    refine pz_ifk okX11_row 38 (r := []) (c := p2z - 2 < rl p1z.toNatClampNeg) (t := 80) (f := 70) rfl rfl (fun c38 => ?_) (fun c38 => ?_)
    · exact absurd q1 (Int32.not_le.mpr c38)
    · exact pz_thr1 (by decide) (by decide) (by decide) hP
