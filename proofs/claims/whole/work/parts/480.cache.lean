/-! ===== what the class has found stays so where the helm stays ===== -/
theorem cache_old {fu : Nat} {wl wr mk : Int32} {K st mi ks kv wf wt ot ks2 kv2 wf2 wt2 ot2 pa sh sm om : Nat → Int32} {W M : Nat} (hfu : 10000 ≤ fu) (hs : setOk pa sh) (h : whAll wl wr K st mi ks kv wf wt ot W) (h2 : whAll wl wr K st mi ks2 kv2 wf2 wt2 ot2 W) (hM : markOk mk sm om M) {sus fw inS inA kn dist start : Int32} {found : Nat → Int32} (hc : cacheInv fu wl mk ks kv wf wt ot pa sh sm om sus fw inS inA kn dist start found) : cacheInv fu wl mk ks2 kv2 wf2 wt2 ot2 pa sh sm om sus fw inS inA kn dist start found := by
  refine ⟨hc.1, fun hk => ?_⟩
  obtain ⟨ho, J, a1, a2, a3, a4, a5⟩ := hc.2 hk
  refine ⟨ho, J, a1, a2, a3, a4, ?_⟩
  intro wm now w op ov tp tv
  obtain ⟨J1, sus1, fw1, k0, k1, k2, k3, k4, k5, k6, k7, pt1, tt1, found1, vals1, wm1, now1, w1, op1, ov1, tp1, tv1, b1, b2, b3, b4, b5⟩ := find_one hfu hs h dist start mk ho hM 0 0 (fun _ => 0) (fun _ => 0) (fun _ => 0) (fun _ => 0) wm now w op ov tp tv
  obtain ⟨J2, sus2, fw2, l0, l1, l2, l3, l4, l5, l6, l7, pt2, tt2, found2, vals2, wm2, now2, w2, op2, ov2, tp2, tv2, d1, d2, d3, d4, d5⟩ := find_one hfu hs h2 dist start mk ho hM 0 0 (fun _ => 0) (fun _ => 0) (fun _ => 0) (fun _ => 0) wm now w op ov tp tv
  obtain ⟨wmx, nowx, wx, opx, ovx, tpx, tvx, e1, e2⟩ := a5 wm now w op ov tp tv
  have e := e1.symm.trans b5
  simp only [Option.some.injEq, Prod.mk.injEq] at e
  obtain ⟨-, z1, z2, -, -, -, z3, z4, z5, z6⟩ := e
  have e' := b4.symm.trans d4
  simp only [Option.some.injEq, Prod.mk.injEq] at e'
  obtain ⟨y1, y2, -, -, -, -, -, -, -, -, -, -, -, -, -, -, -, y3, -⟩ := e'
  subst z1 z2 z3 z4 z5 z6 y1 y2 y3
  refine ⟨wm2, now2, w2, op2, ov2, tp2, tv2, d5, ?_⟩
  intro k hk'
  obtain ⟨x1, x2, x3, x4⟩ := e2 k hk'
  obtain ⟨u1, u2, u3, u4⟩ := b3 k (by omega)
  obtain ⟨v1, v2, v3, v4⟩ := d3 k (by omega)
  exact ⟨x1.trans (u1.symm.trans v1), x2.trans (u2.symm.trans v2), x3.trans (u3.symm.trans v3), x4.trans (u4.symm.trans v4)⟩
