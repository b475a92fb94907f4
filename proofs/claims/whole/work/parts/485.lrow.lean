/-! ===== the law's own row: it catches ===== -/
section
variable {M : pz_M} {n0 bs : Nat} {h hs : pz_H} {σ δ : List Nat} {D : va_G} {kA : Nat → ClassId} {ad ad0 : Nat → Nat} {p : Program} {s : State} {m : MethodId} {args : Array Value} {meth : Method} {c : Code} {A : Nat → Prop} {H : Heap} {locs : List Loc}
theorem pz_join (X : pz_X M bs D kA ad p s m args meth c A) (hag : pz_ag n0 h ad ad0) (hP : va_P D vwCl (pz_w ad kA h) H) (hD : va_D A (pz_w ad kA h)) (hS : va_S A s.heap H locs) (hc : pz_Cut h hs σ δ) {hs' : pz_H} (hlen : hs'.length = hs.length) {H' : Heap} {L : List Loc}
    (hP1 : va_P D vwCl (pz_w (fun k => ad (pz_rn σ δ h.length k)) kA hs') H') (hz : H.size ≤ H'.size) (hk : ∀ q : Nat, q < H.size → ¬ va_A (pz_w (fun k => ad (pz_rn σ δ h.length k)) kA hs) H.size q → H'[q]? = H[q]?) (hL : ∀ q ∈ L, va_A (pz_w (fun k => ad (pz_rn σ δ h.length k)) kA hs) H.size q.base) :
    va_P D vwCl (pz_w ad kA (pz_back h σ (hs'.map (pz_rc (pz_rn σ δ h.length))))) H' ∧ va_D A (pz_w ad kA (pz_back h σ (hs'.map (pz_rc (pz_rn σ δ h.length))))) ∧ va_S A s.heap H' (locs ++ L) ∧ pz_ag n0 (pz_back h σ (hs'.map (pz_rc (pz_rn σ δ h.length)))) ad ad0 := by
  have hFc := pz_free X hD hS hc
  have hσ := hc.len
  have hbl : (pz_back h σ (hs'.map (pz_rc (pz_rn σ δ h.length)))).length = h.length := by
    rw [pz_back_len σ h _ (by rw [List.length_map]; omega), List.length_map]
    omega
  have hlt : ∀ i, i < h.length → ∃ c, pz_at h i = some c := fun i hi => ⟨h[i], by rw [pz_at_eq]; exact List.getElem?_eq_getElem hi⟩
  have hP2 : va_P D vwCl (pz_w ad kA (pz_back h σ (hs'.map (pz_rc (pz_rn σ δ h.length))))) H' := by
    intro i q hq
    obtain ⟨c2, hc2, rfl⟩ := pz_w_inv hq
    rw [pz_at_eq] at hc2
    have hi : i < h.length := by rw [← hbl]; exact (List.getElem?_eq_some_iff.mp hc2).1
    by_cases hin : i ∈ σ
    · obtain ⟨j, hj⟩ := List.getElem?_of_mem hin
      have hjl : j < hs'.length := by rw [hlen, ← hσ]; exact (List.getElem?_eq_some_iff.mp hj).1
      have hcj : hs'[j]? = some hs'[j] := List.getElem?_eq_getElem hjl
      have hb := pz_back_in σ h (hs'.map (pz_rc (pz_rn σ δ h.length))) j i (pz_rc (pz_rn σ δ h.length) hs'[j]) hc.2.1 hj (by rw [List.getElem?_map, hcj]; rfl) hi
      rw [hb] at hc2
      cases hc2
      have := hP1 j _ (pz_w_get (by rw [pz_at_eq]; exact hcj))
      rw [pz_e_rc]
      rw [hc.rn hj] at this
      exact this
    · rw [pz_back_out σ h _ i hin hi] at hc2
      have h1 := hP i _ (pz_w_get (by rw [pz_at_eq]; exact hc2))
      refine h1.kept (hk _ h1.lt ?_)
      rintro (⟨j, x, hq⟩ | hq)
      · obtain ⟨c3, g1, g2⟩ := pz_w_inv hq
        have hjl : j < σ.length := by rw [hσ]; rw [pz_at_eq] at g1; exact (List.getElem?_eq_some_iff.mp g1).1
        have hj : σ[j]? = some σ[j] := List.getElem?_eq_getElem hjl
        obtain ⟨c4, -, g4⟩ := hc.at hj
        have e5 : ad i = ad σ[j] := by
          have := (Prod.ext_iff.mp g2).1
          simp only at this
          rw [hc.rn hj] at this
          exact this
        have := hD.1 i σ[j] _ _ (pz_w_get (by rw [pz_at_eq]; exact hc2)) (pz_w_get (by rw [pz_at_eq]; exact g4)) e5
        exact hin (this ▸ List.getElem_mem hjl)
      · have := h1.lt
        simp only at this
        omega
  have hD2 : va_D A (pz_w ad kA (pz_back h σ (hs'.map (pz_rc (pz_rn σ δ h.length))))) := by
    refine ⟨fun i j x y hx hy hxy => ?_, fun i x hx => ?_⟩
    · obtain ⟨c1, a1, rfl⟩ := pz_w_inv hx
      obtain ⟨c2, a2, rfl⟩ := pz_w_inv hy
      rw [pz_at_eq] at a1 a2
      obtain ⟨c3, a3⟩ := hlt i (by rw [← hbl]; exact (List.getElem?_eq_some_iff.mp a1).1)
      obtain ⟨c4, a4⟩ := hlt j (by rw [← hbl]; exact (List.getElem?_eq_some_iff.mp a2).1)
      exact hD.1 i j _ _ (pz_w_get a3) (pz_w_get a4) hxy
    · obtain ⟨c1, a1, rfl⟩ := pz_w_inv hx
      rw [pz_at_eq] at a1
      obtain ⟨c3, a3⟩ := hlt i (by rw [← hbl]; exact (List.getElem?_eq_some_iff.mp a1).1)
      have g9 := hD.2 i _ (pz_w_get a3)
      exact g9
  have hS2 : va_S A s.heap H' (locs ++ L) := by
    refine ⟨Nat.le_trans hS.1 hz, fun q h1 h2 => ?_, fun q hq => ?_⟩
    · rw [hk q (Nat.lt_of_lt_of_le h1 hS.1) (fun z => h2 (hFc q z))]
      exact hS.2.1 q h1 h2
    · rcases List.mem_append.mp hq with hq | hq
      · exact hS.2.2 q hq
      · exact hFc _ (hL q hq)
  have hag2 : pz_ag n0 (pz_back h σ (hs'.map (pz_rc (pz_rn σ δ h.length)))) ad ad0 := by
    unfold pz_ag
    rw [hbl]
    exact hag
  exact ⟨hP2, hD2, hS2, hag2⟩
end
theorem pz_cast_IO : Cond.castable pz_IO pz_IO ∈ pz_tw := List.mem_of_elem_eq_true (by decide +kernel)
theorem pz_cast_NS : Cond.castable pz_NS pz_NS ∈ pz_tw := List.mem_of_elem_eq_true (by decide +kernel)
/-- a call that may throw -/
theorem pz_runX {M M' : pz_M} {d d' mc ms mc' ms' pc k n np idx bs b0 ci : Nat} {fs : List Value} {q : vw_C} {Post' : Option Value → pz_H → Prop} {ls : pz_L} {h hs : pz_H} {rest0 asc : List Value} {σ δ : List Nat} {D : va_G} {kA : Nat → ClassId} {ad : Nat → Nat} {p : Program} {l : pz_Ln} {e : Env} {s : State} {m : MethodId} {args : Array Value} {below : List Frame} {meth : Method} {c : Code} {A : Nat → Prop} {H : Heap} {locs : List Loc} {lc : Array Slot}
    (X : pz_X M bs D kA ad p s m args meth c A) (hP : va_P D vwCl (pz_w ad kA h) H) (hD : va_D A (pz_w ad kA h)) (hS : va_S A s.heap H locs) (hl : lv_has lc M.2.2.1 (pz_l ad ls)) (hlk : Cond.methodLink M.1.cls idx M'.1 ∈ pz_gw) (hcv : pz_CV M' np) (hd : decode M.2.1 pc = .ok (.invokevirtual idx, 3)) (hT : pz_TX M' d' mc' ms' (.ref b0 :: asc) hs Post') (hdd : d' + 1 ≤ d) (hnp : asc.length = np) (hcl : vwCl[ci]? = some q) (hcq : q.1 = M'.1.cls) (hb : pz_at hs b0 = some (.inr (ci, fs)))
    (hc : pz_Cut h hs σ δ) (hrs : (rest0.map fun v => v.category).sum ≤ 8) (hk : k + mc' ≤ mc) (hn : n + ms' ≤ ms) :
    vx_Run p l.1 e (pz_R d mc ms) s m args below meth c H locs k n mc' ms' (F0 m pc lc ((((.ref b0 :: asc).map (pz_v (pz_rn σ δ h.length))).reverse ++ rest0).map (pz_v ad))) (rest0.map (pz_v ad)) (pz_Q D kA (fun k => ad (pz_rn σ δ h.length k)) hs.length Post' (va_A (pz_w (fun k => ad (pz_rn σ δ h.length k)) kA hs) H.size) ((Value.ref b0 :: asc).map (pz_v (fun k => ad (pz_rn σ δ h.length k)))).toArray) (pz_XC M' D kA (fun k => ad (pz_rn σ δ h.length k)) hs.length Post' (va_A (pz_w (fun k => ad (pz_rn σ δ h.length k)) kA hs) H.size)) (va_A (pz_w (fun k => ad (pz_rn σ δ h.length k)) kA hs) H.size) := by
  obtain ⟨c1, c2, c3, c4, c5, c6⟩ := hcv
  have hts := X.2.2.2.2.2.1
  have hPc : va_P D vwCl (pz_w (fun k => ad (pz_rn σ δ h.length k)) kA hs) H := hP.sub σ (pz_filter_sub hc.ws)
  have hrec := va_recv X.2.2.2.2.2.2.2.2.1 hPc hcl (pz_w_get hb)
  rw [hcq] at hrec
  have hst : ((((Value.ref b0 :: asc).map (pz_v (pz_rn σ δ h.length))).reverse ++ rest0).map (pz_v ad)) = (asc.map (pz_v (fun k => ad (pz_rn σ δ h.length k)))).reverse ++ Value.ref (ad (pz_rn σ δ h.length b0)) :: rest0.map (pz_v ad) := by
    rw [List.map_append, List.map_reverse, pz_vs_vs]
    simp [pz_v]
  rw [hst]
  exact vx_runV (b := ad (pz_rn σ δ h.length b0)) (As := asc.map (pz_v (fun k => ad (pz_rn σ δ h.length k)))) (rest := rest0.map (pz_v ad)) (ret := M'.2.2.2.1) (n := np) ⟨X.1, X.2.1, X.2.2.1, X.2.2.2.2.1, hts⟩ (hT l bs D kA (fun k => ad (pz_rn σ δ h.length k)) H.size)
    ⟨callB_of np hts (pz_good M' c4) rfl rfl rfl (hts _ c3) (hts _ hlk) c5 ⟨hdd, pz_room hdd c6⟩, hts _ c1, hts _ c2⟩ ⟨pz_blind, hrec, fun U hU hW => ⟨rfl, pz_pre X hP hD hS hc hU hW⟩⟩ rfl (by rw [List.length_map]; exact hnp) hl.1 rfl (by rw [pz_cats]; show 2 * 0 + _ ≤ 8; omega) hd ⟨hk, hn⟩
def pz_TW (M : pz_M) (hh : List (Nat × Nat × Nat × Nat)) (d mc ms : Nat) (av : List Value) (h : pz_H) (Post : Option Value → pz_H → Prop) : Prop := ∀ (l : pz_Ln) (bs : Nat) (D : va_G) (kA : Nat → ClassId) (ad : Nat → Nat) (sz : Nat),
  Met l.1 M.1 (Cond.codeWith M.1 M.2.1 M.2.2.1 M.2.2.2.1 hh :: pz_gw) (pz_R d mc ms) (va_Pc (av.map (pz_v ad)) (pz_Pre bs D kA ad sz h)) (pz_Q D kA ad h.length Post (va_A (pz_w ad kA h) sz)) mc ms (va_A (pz_w ad kA h) sz)
theorem pz_ofWH {l : Launch} {y : MethodName} {ws ws' : List Cond} {rm : Room} {Pc : Array Value → State → Prop} {Qc : Array Value → State → Outcome → State → Prop} {mc ms : Nat} {free : Addr → Prop} {cc : ByteArray} {maxL : Nat} {ret : Option FieldType} {hh : List (Nat × Nat × Nat × Nat)}
    (hy : plainName y.cls = true) (hw : ws = Cond.codeWith y cc maxL ret hh :: ws')
    (body : ∀ p e s m args below meth c s₁, BodyLoose p l y (headSpec ws rm) cc maxL ret e s m args below meth c s₁ → c.maxLocals = maxL → Pc args s →
      W p l e (headSpec ws rm).room s m args below meth c s.heap [] 0 0 (MQ below Qc args s mc ms free) (entryFrame m args maxL)) : Met l y ws rm Pc Qc mc ms free := by
  refine MetFree.of_bodyS (code := cc) (maxLocals := maxL) (ret := ret) hy ?_ ?_
  · intro args s m h hn
    obtain ⟨m9, meth, c, hn9, h1, h2, h3, h4, -, h5, h6, -⟩ := Cond.codeWith_spec (atoms_spec (ws := ws) h _ (by rw [hw]; exact List.mem_cons_self))
    cases hn.symm.trans hn9
    exact ⟨meth, c, h1, h2, h3, h4, h5, h6⟩
  · intro p e s m args below meth c s₁ B hml hP _
    have hh0 : s₁.heap = s.heap := by rw [B.state]; rfl
    obtain ⟨t, a1, o, b1, b2, b3⟩ := body p e s m args below meth c s₁ B hml hP s₁ hh0 (Stand.of_body B)
    exact ⟨t, o, a1, b1, b2, ⟨b3.1, b3.2⟩⟩
/-- what the law's row gives back: 0, or 1 or 2 for a throw -/
def lrK (v : Value) : Int32 := match v with
  | .retAddr 0 => 1
  | .retAddr _ => 2
  | _ => 0
def lrO (v : Value) (o : Nat → Int64) : Nat → Int64 := match v with
  | .int x => vp_updL o 0 x.toInt64
  | _ => o
/-! the ends of the law's row -/
section
variable (p1z p2z : Int32) (safeTable1 : Int64) (lines1 wheelLines1 gears1 rows1 : Int32) (rs rl ro : Nat → Int32) (out : Nat → Int64) {P : Option Value → pz_H → Prop}
set_option maxRecDepth 100000 in
theorem lrow_0 (v : Int32) (hP : P (some (.int 0)) [.inr (11, [.ref 500, .ref 501, .ref 502, .ref 503, .ref 504, .ref 505, .ref 506, .ref 507, .ref 508, .ref 1]), .inr (6, [.ref 509, .ref 510, .ref 511, .ref 512, .ref 513, .ref 514, .ref 2, .ref 3, .ref 4, .long safeTable1, .int lines1, .int wheelLines1, .int gears1, .int rows1]), .inl (0, 6, .inl rs), .inl (0, 6, .inl rl), .inl (0, 72, .inl ro), .inl (1, 1, .inr (.inl (vp_updL out 0 v.toInt64)))]) : pz_W mL_row 10 1 6 6 P 8 [(0, .ref 0), (1, .int p1z), (2, .int p2z), (3, .ref 5)] [.int v, .int 0, .ref 5] [.inr (11, [.ref 500, .ref 501, .ref 502, .ref 503, .ref 504, .ref 505, .ref 506, .ref 507, .ref 508, .ref 1]), .inr (6, [.ref 509, .ref 510, .ref 511, .ref 512, .ref 513, .ref 514, .ref 2, .ref 3, .ref 4, .long safeTable1, .int lines1, .int wheelLines1, .int gears1, .int rows1]), .inl (0, 6, .inl rs), .inl (0, 6, .inl rl), .inl (0, 72, .inl ro), .inl (1, 1, .inr (.inl out))] 1 6 := by
  refine pz_gk okL_row 6 2 (cs := [vp_in 0 1]) (pc' := 10) (ls' := [(0, .ref 0), (1, .int p1z), (2, .int p2z), (3, .ref 5)]) (st' := []) (h' := [.inr (11, [.ref 500, .ref 501, .ref 502, .ref 503, .ref 504, .ref 505, .ref 506, .ref 507, .ref 508, .ref 1]), .inr (6, [.ref 509, .ref 510, .ref 511, .ref 512, .ref 513, .ref 514, .ref 2, .ref 3, .ref 4, .long safeTable1, .int lines1, .int wheelLines1, .int gears1, .int rows1]), .inl (0, 6, .inl rs), .inl (0, 6, .inl rl), .inl (0, 72, .inl ro), .inl (1, 1, .inr (.inl (vp_updL out 0 v.toInt64)))]) (by decide) (by decide) (by decide) rfl (pz_inb_ok (by decide)) ?_
  refine pz_jk okL_row 8 (t := 21) rfl rfl ?_
  refine pz_gk okL_row 15 1 (cs := []) (pc' := 22) (ls' := [(0, .ref 0), (1, .int p1z), (2, .int p2z), (3, .ref 5)]) (st' := [.int 0]) (h' := [.inr (11, [.ref 500, .ref 501, .ref 502, .ref 503, .ref 504, .ref 505, .ref 506, .ref 507, .ref 508, .ref 1]), .inr (6, [.ref 509, .ref 510, .ref 511, .ref 512, .ref 513, .ref 514, .ref 2, .ref 3, .ref 4, .long safeTable1, .int lines1, .int wheelLines1, .int gears1, .int rows1]), .inl (0, 6, .inl rs), .inl (0, 6, .inl rl), .inl (0, 72, .inl ro), .inl (1, 1, .inr (.inl (vp_updL out 0 v.toInt64)))]) (by decide) (by decide) (by decide) rfl trivial ?_
  exact pz_rik okL_row 16 rfl (by decide) (by decide) rfl rfl hP
set_option maxRecDepth 100000 in
theorem lrow_1 (hP : P (some (.int 1)) [.inr (11, [.ref 500, .ref 501, .ref 502, .ref 503, .ref 504, .ref 505, .ref 506, .ref 507, .ref 508, .ref 1]), .inr (6, [.ref 509, .ref 510, .ref 511, .ref 512, .ref 513, .ref 514, .ref 2, .ref 3, .ref 4, .long safeTable1, .int lines1, .int wheelLines1, .int gears1, .int rows1]), .inl (0, 6, .inl rs), .inl (0, 6, .inl rl), .inl (0, 72, .inl ro), .inl (1, 1, .inr (.inl out))]) : pz_W mL_row 10 1 6 6 P 15 [(0, .ref 0), (1, .int p1z), (2, .int p2z), (3, .ref 5)] [] [.inr (11, [.ref 500, .ref 501, .ref 502, .ref 503, .ref 504, .ref 505, .ref 506, .ref 507, .ref 508, .ref 1]), .inr (6, [.ref 509, .ref 510, .ref 511, .ref 512, .ref 513, .ref 514, .ref 2, .ref 3, .ref 4, .long safeTable1, .int lines1, .int wheelLines1, .int gears1, .int rows1]), .inl (0, 6, .inl rs), .inl (0, 6, .inl rl), .inl (0, 72, .inl ro), .inl (1, 1, .inr (.inl out))] 1 6 := by
  refine pz_gk okL_row 10 1 (cs := []) (pc' := 16) (ls' := [(0, .ref 0), (1, .int p1z), (2, .int p2z), (3, .ref 5)]) (st' := [.int 1]) (h' := [.inr (11, [.ref 500, .ref 501, .ref 502, .ref 503, .ref 504, .ref 505, .ref 506, .ref 507, .ref 508, .ref 1]), .inr (6, [.ref 509, .ref 510, .ref 511, .ref 512, .ref 513, .ref 514, .ref 2, .ref 3, .ref 4, .long safeTable1, .int lines1, .int wheelLines1, .int gears1, .int rows1]), .inl (0, 6, .inl rs), .inl (0, 6, .inl rl), .inl (0, 72, .inl ro), .inl (1, 1, .inr (.inl out))]) (by decide) (by decide) (by decide) rfl trivial ?_
  exact pz_rik okL_row 11 rfl (by decide) (by decide) rfl rfl hP
set_option maxRecDepth 100000 in
theorem lrow_2 (hP : P (some (.int 2)) [.inr (11, [.ref 500, .ref 501, .ref 502, .ref 503, .ref 504, .ref 505, .ref 506, .ref 507, .ref 508, .ref 1]), .inr (6, [.ref 509, .ref 510, .ref 511, .ref 512, .ref 513, .ref 514, .ref 2, .ref 3, .ref 4, .long safeTable1, .int lines1, .int wheelLines1, .int gears1, .int rows1]), .inl (0, 6, .inl rs), .inl (0, 6, .inl rl), .inl (0, 72, .inl ro), .inl (1, 1, .inr (.inl out))]) : pz_W mL_row 10 1 6 6 P 19 [(0, .ref 0), (1, .int p1z), (2, .int p2z), (3, .ref 5)] [] [.inr (11, [.ref 500, .ref 501, .ref 502, .ref 503, .ref 504, .ref 505, .ref 506, .ref 507, .ref 508, .ref 1]), .inr (6, [.ref 509, .ref 510, .ref 511, .ref 512, .ref 513, .ref 514, .ref 2, .ref 3, .ref 4, .long safeTable1, .int lines1, .int wheelLines1, .int gears1, .int rows1]), .inl (0, 6, .inl rs), .inl (0, 6, .inl rl), .inl (0, 72, .inl ro), .inl (1, 1, .inr (.inl out))] 1 6 := by
  refine pz_gk okL_row 13 1 (cs := []) (pc' := 20) (ls' := [(0, .ref 0), (1, .int p1z), (2, .int p2z), (3, .ref 5)]) (st' := [.int 2]) (h' := [.inr (11, [.ref 500, .ref 501, .ref 502, .ref 503, .ref 504, .ref 505, .ref 506, .ref 507, .ref 508, .ref 1]), .inr (6, [.ref 509, .ref 510, .ref 511, .ref 512, .ref 513, .ref 514, .ref 2, .ref 3, .ref 4, .long safeTable1, .int lines1, .int wheelLines1, .int gears1, .int rows1]), .inl (0, 6, .inl rs), .inl (0, 6, .inl rl), .inl (0, 72, .inl ro), .inl (1, 1, .inr (.inl out))]) (by decide) (by decide) (by decide) rfl trivial ?_
  exact pz_rik okL_row 14 rfl (by decide) (by decide) rfl rfl hP
end
theorem pz_xn_0 {E : String} (h : pz_xn E = some 0) : E = pz_IO := by
  unfold pz_xn at h
  split at h
  · assumption
  · split at h
    · cases h
    · cases h
theorem pz_xn_1 {E : String} {i : Nat} (h : pz_xn E = some (i + 1)) : E = pz_NS ∧ i = 0 := by
  unfold pz_xn at h
  split at h
  · cases h
  · split at h
    · rename_i q
      cases h
      exact ⟨q, rfl⟩
    · cases h
set_option maxHeartbeats 4000000 in
set_option maxRecDepth 100000 in
theorem tL_row (fu : Nat) (p1z p2z : Int32) (safeTable1 : Int64) (lines1 wheelLines1 gears1 rows1 : Int32) (rs rl ro : Nat → Int32) (out : Nat → Int64) (rv : Value) (hr : rowP fu p1z p2z rows1 rs rl ro rv) : pz_TW mL_row pz_hh 10 1 6 [.ref 0, .int p1z, .int p2z, .ref 5] [.inr (11, [.ref 500, .ref 501, .ref 502, .ref 503, .ref 504, .ref 505, .ref 506, .ref 507, .ref 508, .ref 1]), .inr (6, [.ref 509, .ref 510, .ref 511, .ref 512, .ref 513, .ref 514, .ref 2, .ref 3, .ref 4, .long safeTable1, .int lines1, .int wheelLines1, .int gears1, .int rows1]), .inl (0, 6, .inl rs), .inl (0, 6, .inl rl), .inl (0, 72, .inl ro), .inl (1, 1, .inr (.inl out))] (fun r h => r = some (.int (lrK rv)) ∧ h = [.inr (11, [.ref 500, .ref 501, .ref 502, .ref 503, .ref 504, .ref 505, .ref 506, .ref 507, .ref 508, .ref 1]), .inr (6, [.ref 509, .ref 510, .ref 511, .ref 512, .ref 513, .ref 514, .ref 2, .ref 3, .ref 4, .long safeTable1, .int lines1, .int wheelLines1, .int gears1, .int rows1]), .inl (0, 6, .inl rs), .inl (0, 6, .inl rl), .inl (0, 72, .inl ro), .inl (1, 1, .inr (.inl (lrO rv out)))]) := by
  intro l bs D kA ad sz
  refine pz_ofWH (cc := cL_row) (maxL := 5) (ret := some .int) (hh := pz_hh) (by decide +kernel) rfl ?_
  intro p e s m args below meth c s₁ B hml hv
  obtain ⟨rfl, hsz, hbs, hP, hK, hD0, hamb⟩ := hv
  have hts0 := atoms_spec (ws := Cond.codeWith yL_row cL_row 5 (some .int) pz_hh :: pz_gw) B.pre
  have htab : c.exceptionTable.toList = tableOf pz_hh := vx_table (x := yL_row) B (hts0 _ List.mem_cons_self)
  have hts : ∀ w ∈ pz_gw, w.before _ s = true := fun w hw => hts0 w (List.mem_cons_of_mem _ hw)
  subst hsz
  have hD := hD0.self (sz := s.heap.size)
  have X : pz_X mL_row bs D kA ad p s m (([.ref 0, .int p1z, .int p2z, .ref 5] : List Value).map (pz_v ad)).toArray meth c (va_A (pz_w ad kA [.inr (11, [.ref 500, .ref 501, .ref 502, .ref 503, .ref 504, .ref 505, .ref 506, .ref 507, .ref 508, .ref 1]), .inr (6, [.ref 509, .ref 510, .ref 511, .ref 512, .ref 513, .ref 514, .ref 2, .ref 3, .ref 4, .long safeTable1, .int lines1, .int wheelLines1, .int gears1, .int rows1]), .inl (0, 6, .inl rs), .inl (0, 6, .inl rl), .inl (0, 72, .inl ro), .inl (1, 1, .inr (.inl out))]) s.heap.size) := by
    refine ⟨B.exec, B.bytes, hml, B.returns, findClass_of_methodNamed B.named, hts, B.notSynchronized, ⟨(name_of_methodNamed B.named B.method).1, fun h9 => absurd h9 (by decide +kernel)⟩, hK, fun q hq => Or.inr hq, fun q hq => ?_, hbs, hamb⟩
    rcases hq with ⟨i, x, hq⟩ | hq
    · exact hD0.2 i _ hq
    · exact Nat.le_trans hbs hq
  have hl := lv_entry (([.ref 0, .int p1z, .int p2z, .ref 5] : List Value).map (pz_v ad)) (n := 5) (Nat.le_of_ble_eq_true rfl)
  rw [lg_entry_eq]
  rw [pz_args_l] at hl
  clear hts0 hK hD0 hamb hbs
  generalize hPP : (fun (r : Option Value) (h : pz_H) => r = some (.int (lrK rv)) ∧ h = [.inr (11, [.ref 500, .ref 501, .ref 502, .ref 503, .ref 504, .ref 505, .ref 506, .ref 507, .ref 508, .ref 1]), .inr (6, [.ref 509, .ref 510, .ref 511, .ref 512, .ref 513, .ref 514, .ref 2, .ref 3, .ref 4, .long safeTable1, .int lines1, .int wheelLines1, .int gears1, .int rows1]), .inl (0, 6, .inl rs), .inl (0, 6, .inl rl), .inl (0, 72, .inl ro), .inl (1, 1, .inr (.inl (lrO rv out)))]) = P
  have hPo : P (some (.int (lrK rv))) [.inr (11, [.ref 500, .ref 501, .ref 502, .ref 503, .ref 504, .ref 505, .ref 506, .ref 507, .ref 508, .ref 1]), .inr (6, [.ref 509, .ref 510, .ref 511, .ref 512, .ref 513, .ref 514, .ref 2, .ref 3, .ref 4, .long safeTable1, .int lines1, .int wheelLines1, .int gears1, .int rows1]), .inl (0, 6, .inl rs), .inl (0, 6, .inl rl), .inl (0, 72, .inl ro), .inl (1, 1, .inr (.inl (lrO rv out)))] := by rw [← hPP]; exact ⟨rfl, rfl⟩
  clear hPP
  refine pz_noX (XC := pz_XC mL_row D kA ad 6 P (va_A (pz_w ad kA [.inr (11, [.ref 500, .ref 501, .ref 502, .ref 503, .ref 504, .ref 505, .ref 506, .ref 507, .ref 508, .ref 1]), .inr (6, [.ref 509, .ref 510, .ref 511, .ref 512, .ref 513, .ref 514, .ref 2, .ref 3, .ref 4, .long safeTable1, .int lines1, .int wheelLines1, .int gears1, .int rows1]), .inl (0, 6, .inl rs), .inl (0, 6, .inl rl), .inl (0, 72, .inl ro), .inl (1, 1, .inr (.inl out))]) s.heap.size)) (fun _ _ _ h => absurd h.1 (by decide +kernel)) ?_
  revert hl
  generalize (lg_sl (([.ref 0, .int p1z, .int p2z, .ref 5] : List Value).map (pz_v ad)) ++ List.replicate (5 - (lg_sl (([.ref 0, .int p1z, .int p2z, .ref 5] : List Value).map (pz_v ad))).length) Slot.unset).toArray = lc
  intro hl
  show W p l.1 e (pz_R 10 1 6) s m _ below meth c s.heap [] 0 0 _ _
  refine lv_aload_n X.1 X.2.1 (show decode mL_row.2.1 0 = .ok (.aload_n 3, 1) by decide +kernel) (i := 3) rfl (pz_l_at (v := .ref 5) hl rfl) ?_
  refine lv_iconst X.1 X.2.1 (show decode mL_row.2.1 1 = .ok (.iconst 0, 1) by decide +kernel) (v := 0) rfl ?_
  refine lv_aload_n X.1 X.2.1 (show decode mL_row.2.1 2 = .ok (.aload_n 0, 1) by decide +kernel) (i := 0) rfl (pz_l_at (v := .ref 0) hl rfl) ?_
  refine lv_iload_n X.1 X.2.1 (show decode mL_row.2.1 3 = .ok (.iload_n 1, 1) by decide +kernel) (i := 1) rfl (pz_l_at (v := .int p1z) hl rfl) ?_
  refine lv_iload_n X.1 X.2.1 (show decode mL_row.2.1 4 = .ok (.iload_n 2, 1) by decide +kernel) (i := 2) rfl (pz_l_at (v := .int p2z) hl rfl) ?_
  have hcut : pz_Cut [.inr (11, [.ref 500, .ref 501, .ref 502, .ref 503, .ref 504, .ref 505, .ref 506, .ref 507, .ref 508, .ref 1]), .inr (6, [.ref 509, .ref 510, .ref 511, .ref 512, .ref 513, .ref 514, .ref 2, .ref 3, .ref 4, .long safeTable1, .int lines1, .int wheelLines1, .int gears1, .int rows1]), .inl (0, 6, .inl rs), .inl (0, 6, .inl rl), .inl (0, 72, .inl ro), .inl (1, 1, .inr (.inl out))] [.inr (11, [.ref 500, .ref 501, .ref 502, .ref 503, .ref 504, .ref 505, .ref 506, .ref 507, .ref 508, .ref 1]), .inr (6, [.ref 509, .ref 510, .ref 511, .ref 512, .ref 513, .ref 514, .ref 2, .ref 3, .ref 4, .long safeTable1, .int lines1, .int wheelLines1, .int gears1, .int rows1]), .inl (0, 6, .inl rs), .inl (0, 6, .inl rl), .inl (0, 72, .inl ro)] [0, 1, 2, 3, 4] [500, 501, 502, 503, 504, 505, 506, 507, 508, 509, 510, 511, 512, 513, 514] := ⟨rfl, by decide, by decide, by decide⟩
  have hag : pz_ag 6 [.inr (11, [.ref 500, .ref 501, .ref 502, .ref 503, .ref 504, .ref 505, .ref 506, .ref 507, .ref 508, .ref 1]), .inr (6, [.ref 509, .ref 510, .ref 511, .ref 512, .ref 513, .ref 514, .ref 2, .ref 3, .ref 4, .long safeTable1, .int lines1, .int wheelLines1, .int gears1, .int rows1]), .inl (0, 6, .inl rs), .inl (0, 6, .inl rl), .inl (0, 72, .inl ro), .inl (1, 1, .inr (.inl out))] ad ad := ⟨Nat.le_refl _, fun _ _ => rfl⟩
  have hrun := pz_runX (M := mL_row) (M' := mX11_row) (d := 10) (mc := 1) (ms := 6) (k := 0) (n := 0) (l := l) (e := e) (below := below) (rest0 := [.int 0, .ref 5]) X hP hD va_S.rf hl lkL_7 cvX11_row (show decode mL_row.2.1 5 = .ok (.invokevirtual 7, 3) by decide +kernel) (tX11_row fu p1z p2z safeTable1 lines1 wheelLines1 gears1 rows1 rs rl ro rv hr) (by decide) rfl rfl rfl rfl hcut (by decide) (by decide) (by decide)
  have use := pz_tw_at (args := (([.ref 0, .int p1z, .int p2z, .ref 5] : List Value).map (pz_v ad)).toArray) (pz_X_thr X).2.2.2.2.1
  have hnc := (pz_X_thr X).2.2.2.2.2
  by_cases hv : ∃ v, rv = .int v
  · obtain ⟨v, rfl⟩ := hv
    refine pz_after0 (l := l) (mc' := 1) (ms' := 6) (rest0 := [.int 0, .ref 5]) (Post := P) (Post' := fun r h => r = some (.int v) ∧ h = [.inr (11, [.ref 500, .ref 501, .ref 502, .ref 503, .ref 504, .ref 505, .ref 506, .ref 507, .ref 508, .ref 1]), .inr (6, [.ref 509, .ref 510, .ref 511, .ref 512, .ref 513, .ref 514, .ref 2, .ref 3, .ref 4, .long safeTable1, .int lines1, .int wheelLines1, .int gears1, .int rows1]), .inl (0, 6, .inl rs), .inl (0, 6, .inl rl), .inl (0, 72, .inl ro)]) (aa := (([.ref 0, .int p1z, .int p2z] : List Value).map (pz_v (fun k => ad (pz_rn [0, 1, 2, 3, 4] [500, 501, 502, 503, 504, 505, 506, 507, 508, 509, 510, 511, 512, 513, 514] ([.inr (11, [.ref 500, .ref 501, .ref 502, .ref 503, .ref 504, .ref 505, .ref 506, .ref 507, .ref 508, .ref 1]), .inr (6, [.ref 509, .ref 510, .ref 511, .ref 512, .ref 513, .ref 514, .ref 2, .ref 3, .ref 4, .long safeTable1, .int lines1, .int wheelLines1, .int gears1, .int rows1]), .inl (0, 6, .inl rs), .inl (0, 6, .inl rl), .inl (0, 72, .inl ro), .inl (1, 1, .inr (.inl out))] : pz_H).length k)))).toArray) (n0 := 6) X hag hP hD va_S.rf hl hcut (fun T hT XX => ?_) (fun r hs' hp => ?_)
    · rcases hrun T hT XX with h9 | ⟨q, st₀, t, T', L, E, ce, -, -, -, -, -, ⟨-, ⟨i, h', ad', -, ⟨h1, -⟩, -⟩, -⟩, -⟩
      · exact h9
      · cases h1
    · obtain ⟨rfl, rfl⟩ := hp
      exact ⟨rfl, lrow_0 p1z p2z safeTable1 lines1 wheelLines1 gears1 rows1 rs rl ro out v hPo⟩
  · intro T hT XX
    rcases hrun T hT XX with ⟨v, st₀, t, T', L, -, -, -, -, -, ⟨⟨r, h', ad', ⟨⟨h1, -⟩, h2⟩, -⟩, -⟩, -⟩ | ⟨q, st₀, t, T', L, E, ce, e0, X', hL, e1, e2, ⟨-, ⟨i, h', ad', hE, ⟨h1, rfl⟩, hag', hP', hK', hD'⟩, hF⟩, hce, hcv, hcl, go⟩
    · exfalso
      rcases hr with ⟨-, q⟩ | ⟨-, -, ⟨-, q⟩ | ⟨-, q⟩ | ⟨-, -, -, -, w, -, q⟩ | ⟨-, -, -, q⟩⟩
      · rw [q] at h1; exact h2 _ h1
      · exact hv ⟨_, q⟩
      · exact hv ⟨_, q⟩
      · exact hv ⟨_, q⟩
      · rw [q] at h1; exact h2 _ h1
    · have hrv : rv = .retAddr i := (Option.some.inj h1).symm
      subst hrv
      have had : ad' = fun k => ad (pz_rn [0, 1, 2, 3, 4] [500, 501, 502, 503, 504, 505, 506, 507, 508, 509, 510, 511, 512, 513, 514] 6 k) := by
        funext j
        exact hag'.2 j (by show j < 5 ∨ 5 ≤ j; omega)
      subst had
      rw [← e1] at hP' hce
      have hF1 := hF.1
      have hF2 := hF.2
      rw [e0, ← e1] at hF1 hF2
      obtain ⟨hP2, hD2, hS2, hag2⟩ := pz_join X hag hP hD va_S.rf hcut rfl hP' hF1 hF2 hL
      have hHH : pz_back [.inr (11, [.ref 500, .ref 501, .ref 502, .ref 503, .ref 504, .ref 505, .ref 506, .ref 507, .ref 508, .ref 1]), .inr (6, [.ref 509, .ref 510, .ref 511, .ref 512, .ref 513, .ref 514, .ref 2, .ref 3, .ref 4, .long safeTable1, .int lines1, .int wheelLines1, .int gears1, .int rows1]), .inl (0, 6, .inl rs), .inl (0, 6, .inl rl), .inl (0, 72, .inl ro), .inl (1, 1, .inr (.inl out))] [0, 1, 2, 3, 4] (([.inr (11, [.ref 500, .ref 501, .ref 502, .ref 503, .ref 504, .ref 505, .ref 506, .ref 507, .ref 508, .ref 1]), .inr (6, [.ref 509, .ref 510, .ref 511, .ref 512, .ref 513, .ref 514, .ref 2, .ref 3, .ref 4, .long safeTable1, .int lines1, .int wheelLines1, .int gears1, .int rows1]), .inl (0, 6, .inl rs), .inl (0, 6, .inl rl), .inl (0, 72, .inl ro)] : pz_H).map (pz_rc (pz_rn [0, 1, 2, 3, 4] [500, 501, 502, 503, 504, 505, 506, 507, 508, 509, 510, 511, 512, 513, 514] 6))) = [.inr (11, [.ref 500, .ref 501, .ref 502, .ref 503, .ref 504, .ref 505, .ref 506, .ref 507, .ref 508, .ref 1]), .inr (6, [.ref 509, .ref 510, .ref 511, .ref 512, .ref 513, .ref 514, .ref 2, .ref 3, .ref 4, .long safeTable1, .int lines1, .int wheelLines1, .int gears1, .int rows1]), .inl (0, 6, .inl rs), .inl (0, 6, .inl rl), .inl (0, 72, .inl ro), .inl (1, 1, .inr (.inl out))] := rfl
      have hHH' : pz_back [.inr (11, [.ref 500, .ref 501, .ref 502, .ref 503, .ref 504, .ref 505, .ref 506, .ref 507, .ref 508, .ref 1]), .inr (6, [.ref 509, .ref 510, .ref 511, .ref 512, .ref 513, .ref 514, .ref 2, .ref 3, .ref 4, .long safeTable1, .int lines1, .int wheelLines1, .int gears1, .int rows1]), .inl (0, 6, .inl rs), .inl (0, 6, .inl rl), .inl (0, 72, .inl ro), .inl (1, 1, .inr (.inl out))] [0, 1, 2, 3, 4] (([.inr (11, [.ref 500, .ref 501, .ref 502, .ref 503, .ref 504, .ref 505, .ref 506, .ref 507, .ref 508, .ref 1]), .inr (6, [.ref 509, .ref 510, .ref 511, .ref 512, .ref 513, .ref 514, .ref 2, .ref 3, .ref 4, .long safeTable1, .int lines1, .int wheelLines1, .int gears1, .int rows1]), .inl (0, 6, .inl rs), .inl (0, 6, .inl rl), .inl (0, 72, .inl ro)] : pz_H).map (pz_rc (pz_rn [0, 1, 2, 3, 4] [500, 501, 502, 503, 504, 505, 506, 507, 508, 509, 510, 511, 512, 513, 514] ([.inr (11, [.ref 500, .ref 501, .ref 502, .ref 503, .ref 504, .ref 505, .ref 506, .ref 507, .ref 508, .ref 1]), .inr (6, [.ref 509, .ref 510, .ref 511, .ref 512, .ref 513, .ref 514, .ref 2, .ref 3, .ref 4, .long safeTable1, .int lines1, .int wheelLines1, .int gears1, .int rows1]), .inl (0, 6, .inl rs), .inl (0, 6, .inl rl), .inl (0, 72, .inl ro), .inl (1, 1, .inr (.inl out))] : pz_H).length))) = [.inr (11, [.ref 500, .ref 501, .ref 502, .ref 503, .ref 504, .ref 505, .ref 506, .ref 507, .ref 508, .ref 1]), .inr (6, [.ref 509, .ref 510, .ref 511, .ref 512, .ref 513, .ref 514, .ref 2, .ref 3, .ref 4, .long safeTable1, .int lines1, .int wheelLines1, .int gears1, .int rows1]), .inl (0, 6, .inl rs), .inl (0, 6, .inl rl), .inl (0, 72, .inl ro), .inl (1, 1, .inr (.inl out))] := rfl
      rw [hHH'] at hP2 hD2 hag2
      cases i with
      | zero =>
        have hEE := pz_xn_0 hE
        subst hEE
        obtain ⟨t2, a1, b1⟩ := vx_catch (l := l.1) (e := e) (R := pz_R 10 1 6) (below := below) (Q := vx_MQ below (pz_Q D kA ad 6 P (va_A (pz_w ad kA [.inr (11, [.ref 500, .ref 501, .ref 502, .ref 503, .ref 504, .ref 505, .ref 506, .ref 507, .ref 508, .ref 1]), .inr (6, [.ref 509, .ref 510, .ref 511, .ref 512, .ref 513, .ref 514, .ref 2, .ref 3, .ref 4, .long safeTable1, .int lines1, .int wheelLines1, .int gears1, .int rows1]), .inl (0, 6, .inl rs), .inl (0, 6, .inl rl), .inl (0, 72, .inl ro), .inl (1, 1, .inr (.inl out))]) s.heap.size)) (pz_XC mL_row D kA ad 6 P (va_A (pz_w ad kA [.inr (11, [.ref 500, .ref 501, .ref 502, .ref 503, .ref 504, .ref 505, .ref 506, .ref 507, .ref 508, .ref 1]), .inr (6, [.ref 509, .ref 510, .ref 511, .ref 512, .ref 513, .ref 514, .ref 2, .ref 3, .ref 4, .long safeTable1, .int lines1, .int wheelLines1, .int gears1, .int rows1]), .inl (0, 6, .inl rs), .inl (0, 6, .inl rl), .inl (0, 72, .inl ro), .inl (1, 1, .inr (.inl out))]) s.heap.size)) (([.ref 0, .int p1z, .int p2z, .ref 5] : List Value).map (pz_v ad)).toArray s 1 6 (va_A (pz_w ad kA [.inr (11, [.ref 500, .ref 501, .ref 502, .ref 503, .ref 504, .ref 505, .ref 506, .ref 507, .ref 508, .ref 1]), .inr (6, [.ref 509, .ref 510, .ref 511, .ref 512, .ref 513, .ref 514, .ref 2, .ref 3, .ref 4, .long safeTable1, .int lines1, .int wheelLines1, .int gears1, .int rows1]), .inl (0, 6, .inl rs), .inl (0, 6, .inl rl), .inl (0, 72, .inl ro), .inl (1, 1, .inr (.inl out))]) s.heap.size)) (pc := 5) (ls := lc) (rest := ([.int 0, .ref 5] : List Value).map (pz_v ad)) (locs := [] ++ L) (cells := 0 + 1) (slots := 0 + 6) X.2.2.2.2.1 [] ⟨0, 10, 13, 13⟩ [⟨0, 10, 17, 15⟩] (htab.trans rfl) (fun z hz => nomatch hz) (by decide) (by decide) (name := pz_IO)
          (use _ (List.mem_append_right _ (List.mem_append_right _ (List.mem_of_getElem? (i := 4) rfl)))) (use _ pz_cast_IO) hce hcv hcl
          (lv_astore X.1 X.2.1 (show decode mL_row.2.1 13 = .ok (.astore 4, 2) by decide +kernel) hl (by decide) rfl (fun lc' hl' => lrow_1 p1z p2z safeTable1 lines1 wheelLines1 gears1 rows1 rs rl ro out hPo bs D kA ad ad p l e s m _ below meth c _ T'.heap ([] ++ L) lc' X hag2 hP2 hD2 hS2 (pz_has_sub hl' (fun q hq => List.mem_cons_of_mem _ hq)))) T' rfl X'
        exact ⟨t2, go.trans a1, b1⟩
      | succ i =>
        obtain ⟨hEE, rfl⟩ := pz_xn_1 hE
        subst hEE
        obtain ⟨t2, a1, b1⟩ := vx_catch (l := l.1) (e := e) (R := pz_R 10 1 6) (below := below) (Q := vx_MQ below (pz_Q D kA ad 6 P (va_A (pz_w ad kA [.inr (11, [.ref 500, .ref 501, .ref 502, .ref 503, .ref 504, .ref 505, .ref 506, .ref 507, .ref 508, .ref 1]), .inr (6, [.ref 509, .ref 510, .ref 511, .ref 512, .ref 513, .ref 514, .ref 2, .ref 3, .ref 4, .long safeTable1, .int lines1, .int wheelLines1, .int gears1, .int rows1]), .inl (0, 6, .inl rs), .inl (0, 6, .inl rl), .inl (0, 72, .inl ro), .inl (1, 1, .inr (.inl out))]) s.heap.size)) (pz_XC mL_row D kA ad 6 P (va_A (pz_w ad kA [.inr (11, [.ref 500, .ref 501, .ref 502, .ref 503, .ref 504, .ref 505, .ref 506, .ref 507, .ref 508, .ref 1]), .inr (6, [.ref 509, .ref 510, .ref 511, .ref 512, .ref 513, .ref 514, .ref 2, .ref 3, .ref 4, .long safeTable1, .int lines1, .int wheelLines1, .int gears1, .int rows1]), .inl (0, 6, .inl rs), .inl (0, 6, .inl rl), .inl (0, 72, .inl ro), .inl (1, 1, .inr (.inl out))]) s.heap.size)) (([.ref 0, .int p1z, .int p2z, .ref 5] : List Value).map (pz_v ad)).toArray s 1 6 (va_A (pz_w ad kA [.inr (11, [.ref 500, .ref 501, .ref 502, .ref 503, .ref 504, .ref 505, .ref 506, .ref 507, .ref 508, .ref 1]), .inr (6, [.ref 509, .ref 510, .ref 511, .ref 512, .ref 513, .ref 514, .ref 2, .ref 3, .ref 4, .long safeTable1, .int lines1, .int wheelLines1, .int gears1, .int rows1]), .inl (0, 6, .inl rs), .inl (0, 6, .inl rl), .inl (0, 72, .inl ro), .inl (1, 1, .inr (.inl out))]) s.heap.size)) (pc := 5) (ls := lc) (rest := ([.int 0, .ref 5] : List Value).map (pz_v ad)) (locs := [] ++ L) (cells := 0 + 1) (slots := 0 + 6) X.2.2.2.2.1 [⟨0, 10, 13, 13⟩] ⟨0, 10, 17, 15⟩ [] (htab.trans rfl) (fun z hz => by
            rw [List.mem_singleton] at hz
            subst hz
            exact Or.inr ⟨by decide, pz_IO, use _ (List.mem_append_right _ (List.mem_append_right _ (List.mem_of_getElem? (i := 4) rfl))), hnc⟩) (by decide) (by decide) (name := pz_NS)
          (use _ (List.mem_append_right _ (List.mem_append_right _ (List.mem_of_getElem? (i := 5) rfl)))) (use _ pz_cast_NS) hce hcv hcl
          (lv_astore X.1 X.2.1 (show decode mL_row.2.1 17 = .ok (.astore 4, 2) by decide +kernel) hl (by decide) rfl (fun lc' hl' => lrow_2 p1z p2z safeTable1 lines1 wheelLines1 gears1 rows1 rs rl ro out hPo bs D kA ad ad p l e s m _ below meth c _ T'.heap ([] ++ L) lc' X hag2 hP2 hD2 hS2 (pz_has_sub hl' (fun q hq => List.mem_cons_of_mem _ hq)))) T' rfl X'
        exact ⟨t2, go.trans a1, b1⟩
