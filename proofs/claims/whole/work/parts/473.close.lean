/-! ===== the text is closed ===== -/
/-- a table, and the knots that it was made of -/
def tabI (fu : Nat) (t : Int64) (a b : Int32) (ks kv : Nat → Int32) : Prop := ∃ (K : Nat → Int32) (w : Nat) (wr : Int32) (vals vals' : Nat → Int64), wr.toInt = w ∧ w ≤ 64 ∧ (∀ k, k < w → gRel (K k) (ks (64 + k)) (kv (64 + k))) ∧ segG K a b w ∧ FX2_tableOf fu a b wr K vals = some (t, vals')
def gearI (fu : Nat) (gears : Int32) (names : Nat → Int32) (mayT : Nat → Int64) (safeT : Int64) (gname gfrom gto : Nat → Int32) (sf sto : Int32) (ks kv : Nat → Int32) (G : Nat) : Prop :=
  gears.toInt = G ∧ G ≤ 6 ∧ (∀ k, k < G → gname k = names k) ∧ (∀ g, g < G → tabI fu (mayT g) (gfrom g) (gto g) ks kv) ∧ ((sf = -1 ∧ safeT = -1) ∨ (¬ sf = -1 ∧ tabI fu safeT sf sto ks kv))
theorem tabI_rel {fu : Nat} (hfu : 1000 ≤ fu) {t : Int64} {a b : Int32} {ks kv : Nat → Int32} (h : tabI fu t a b ks kv) : tabRel fu t a b ks kv := by
  obtain ⟨K, w, wr, vals, vals', hw, hw64, hk, ⟨h1, h2, h3, e, h4⟩, h5⟩ := h
  have n1 := i_nat (a := a) (by omega)
  have n2 := i_nat (a := b) (by omega)
  obtain ⟨t', v', z1, z2⟩ := table_both hfu a b wr K ks kv a.toNatClampNeg b.toNatClampNeg e (by omega) (by omega) (by omega) (by omega) (by omega) (fun k _ k2 => hk k (by omega)) h4 vals
  rw [h5] at z1
  have : t' = t := by
    have z3 := Option.some.inj z1
    exact (congrArg Prod.fst z3).symm
  rw [← this]
  exact z2
theorem tabI_ext {fu : Nat} {t : Int64} {a b : Int32} {ks kv ks' kv' : Nat → Int32} (h : tabI fu t a b ks kv) (he : ∀ q, q < 128 → ks' q = ks q ∧ kv' q = kv q) : tabI fu t a b ks' kv' := by
  obtain ⟨K, w, wr, vals, vals', hw, hw64, hk, h4, h5⟩ := h
  refine ⟨K, w, wr, vals, vals', hw, hw64, ?_, h4, h5⟩
  intro k hk'
  rw [(he (64 + k) (by omega)).1, (he (64 + k) (by omega)).2]
  exact hk k hk'
section
variable {fu : Nat}
theorem close_L (hfu : 1000 ≤ fu) {hs gs wr : Int32} {K fr to ks1 kv1 : Nat → Int32} {G w : Nat} (hg : gs.toInt = G) (hG : G ≤ 6) (hw : wr.toInt = w) (hw64 : w ≤ 64) (hk : ∀ k, k < w → gRel (K k) (ks1 (64 + k)) (kv1 (64 + k))) (hsg : ∀ g, g < G → segG K (fr g) (to g) w) (hsf : hs = 0 ∨ (hs = 1 ∧ segG K (fr 6) (to 6) w)) (fa fp : Int32) (safeT : Int64) :
    ∀ (n k f : Nat) (x : Int32) (vals mt : Nat → Int64), k + n = G → x.toInt = k → n < f → (∀ g, g < k → tabI fu (mt g) (fr g) (to g) ks1 kv1) → ∃ (safeT' : Int64) (vals' mt' : Nat → Int64), FX7_close_L fu hs fr to gs wr f x fa fp safeT K vals mt = some (1, fa, fp, safeT', K, vals', mt') ∧ (∀ g, g < G → tabI fu (mt' g) (fr g) (to g) ks1 kv1) ∧ ((hs = 0 ∧ safeT' = safeT) ∨ (hs = 1 ∧ tabI fu safeT' (fr 6) (to 6) ks1 kv1)) := by
  have q1 := t_1
  have tabs : ∀ (a b : Int32) (vals : Nat → Int64), segG K a b w → ∃ (t : Int64) (vals' : Nat → Int64), FX2_tableOf fu a b wr K vals = some (t, vals') ∧ tabI fu t a b ks1 kv1 := by
    intro a b vals h
    obtain ⟨h1, h2, h3, e, h4⟩ := h
    have n1 := i_nat (a := a) (by omega)
    have n2 := i_nat (a := b) (by omega)
    obtain ⟨t, vals', z1, z2⟩ := table_both hfu a b wr K ks1 kv1 a.toNatClampNeg b.toNatClampNeg e (by omega) (by omega) (by omega) (by omega) (by omega) (fun k _ k2 => hk k (by omega)) h4 vals
    exact ⟨t, vals', z1, K, w, wr, vals, vals', hw, hw64, hk, ⟨h1, h2, h3, e, h4⟩, z1⟩
  intro n
  induction n with
  | zero =>
    intro k f x vals mt hkn hx hf h
    obtain ⟨f, rfl⟩ : ∃ g, f = g + 1 := ⟨f - 1, by omega⟩
    have e : k = G := by omega
    subst e
    rw [FX7_close_L, if_pos (show gs ≤ x by rw [i_le]; omega)]
    rcases hsf with z | ⟨z, z2⟩
    · rw [if_pos z]
      exact ⟨safeT, vals, mt, rfl, h, Or.inl ⟨z, rfl⟩⟩
    · obtain ⟨t, vals', t1, t2⟩ := tabs (fr 6) (to 6) vals z2
      rw [if_neg (show ¬ hs = 0 by rw [z]; decide), t1, Option.bind_some]
      exact ⟨t, vals', mt, rfl, h, Or.inr ⟨z, t2⟩⟩
  | succ n ih =>
    intro k f x vals mt hkn hx hf h
    obtain ⟨f, rfl⟩ : ∃ g, f = g + 1 := ⟨f - 1, by omega⟩
    have hs' := i_add x 1 (by omega) (by omega)
    have hi7 : pz_inb x 7 = true := i_inb.mpr (by omega)
    have hi6 : pz_inb x 6 = true := i_inb.mpr (by omega)
    have hn1 : x.toNatClampNeg = k := by have := i_nat (a := x) (by omega); omega
    obtain ⟨t, vals', t1, t2⟩ := tabs (fr k) (to k) vals (hsg k (by omega))
    rw [FX7_close_L, if_neg (show ¬ gs ≤ x by rw [i_le]; omega), if_pos hi7, if_pos hi7, hn1, t1, Option.bind_some, if_pos hi6]
    refine ih (k + 1) f (x + 1) vals' (vp_updL mt k t) (by omega) (by omega) (by omega) ?_
    intro g hgk
    by_cases c : g = k
    · subst c
      rw [show vp_updL mt g t g = t from if_pos rfl]
      exact t2
    · rw [show vp_updL mt k t g = mt g from if_neg c]
      exact h g (by omega)
end
section
variable {fu : Nat} {p1 : Int32} {tape : Nat → Int32} {thrown taped wheels gears rows sums bits sf0 sto0 wN gN rN sN bN sf sto sc bc ln size ax pl so va lf lp op : Int32} {ks kp wf wt ot gn gf gt rs rm ro : Nat → Int32}
theorem close_eq (hfu : 1000 ≤ fu) {gs cnt wr hs : Int32} {K pls names fr to kv : Nat → Int32} {G w : Nat} (hN : gearN gs gN cnt wr bN hs sf sto K pls names fr to ks kv kp gn gf gt G w) (vals mt : Nat → Int64) (f : Nat) (hf : 100 ≤ f) :
    (∃ (safeT' : Int64) (K' : Nat → Int32) (vals' mt' : Nat → Int64) (kv' : Nat → Int32), FX7_close fu hs 0 (-1) fr to (-1) gs wr K pls vals names mt = some (1, 0, -1, safeT', K', vals', mt') ∧ FX12_text_L fu p1 tape f 1 0 thrown taped wheels gears rows sums bits sf0 sto0 wN gN rN sN bN sf sto sc bc ln size ax pl so va 0 (-1) lf lp op ks kv kp wf wt ot gn gf gt rs rm ro = some (ln, thrown, taped, wN, gN, rN, sN, bN, sf, sto, wN, gN, rN, sN, bN, sf, sto, sc, bc, ln, size, ax, pl, so, va, 0, -1, 0, -1, op, cpI 128 128 ks, cpI 128 128 kv', kp, cpI 12 12 wf, cpI 12 12 wt, cpI 12 12 ot, cpI 6 6 gn, cpI 6 6 gf, cpI 6 6 gt, cpI 6 6 rs, cpI 6 6 rm, cpI 72 72 ro) ∧ gearI fu gs names mt' safeT' (cpI 6 6 gn) (cpI 6 6 gf) (cpI 6 6 gt) sf sto (cpI 128 128 ks) (cpI 128 128 kv') G ∧ (∀ q, q < 192 → kv' q = kv q)) ∨
    (∃ (p : Int32) (K' kv' : Nat → Int32), FX7_close fu hs 0 (-1) fr to (-1) gs wr K pls vals names mt = some (0, 4, p, -1, K', vals, mt) ∧ FX12_text_L fu p1 tape f 1 0 thrown taped wheels gears rows sums bits sf0 sto0 wN gN rN sN bN sf sto sc bc ln size ax pl so va 0 (-1) lf lp op ks kv kp wf wt ot gn gf gt rs rm ro = some (-1, thrown, taped, wheels, gears, rows, sums, bits, sf0, sto0, wN, gN, rN, sN, bN, sf, sto, sc, bc, ln, size, ax, pl, so, va, 4, p, 4, p, op, ks, kv', kp, wf, wt, ot, gn, gf, gt, rs, rm, ro) ∧ (∀ q, q < 192 → kv' q = kv q)) := by
  obtain ⟨n1, n2, n3, n4, n5, n6, n7, n8, n9, n10⟩ := hN
  subst n3
  unfold FX7_close FX2_settleGears
  rcases settle (p1 := p1) (tape := tape) (thrown := thrown) (taped := taped) (wheels := wheels) (gears := gears) (rows := rows) (sums := sums) (bits := bits) (sf0 := sf0) (sto0 := sto0) (wN := wN) (rN := rN) (sN := sN) (sf := sf) (sto := sto) (sc := sc) (bc := bc) (ln := ln) (size := size) (ax := ax) (pl := pl) (so := so) (va := va) (lf := lf) (lp := lp) (op := op) (wf := wf) (wt := wt) (ot := ot) (gf := gf) (gt := gt) (rs := rs) (rm := rm) (ro := ro) hfu n1 n2 (fun k hk => (n9 k hk).1) n4 n6 n7 w 0 fu f 0 K kv (by omega) rfl (by omega) (by omega) (fun j hj => absurd hj (by omega)) (fun j _ hj => n8 j hj) with ⟨K', kv', g1, g2, g3, g4, g5⟩ | ⟨p, K', kv', g1, g2, g3, g4⟩
  · rw [g1, Option.bind_some]
    have sg : ∀ a b, segG K a b w → segG K' a b w := by
      intro a b h
      obtain ⟨h1, h2, h3, e, h4⟩ := h
      exact ⟨h1, h2, h3, e, by rw [run_congr2 _ _ 0 (fun i _ _ => g4 i)]; exact h4⟩
    have hk1 : ∀ k, k < w → gRel (K' k) (cpI 128 128 ks (64 + k)) (cpI 128 128 kv' (64 + k)) := by
      intro k hk
      rw [cpI_lt _ (by omega), cpI_lt _ (by omega), show 128 + (64 + k) = 192 + k from by omega]
      exact g3 k hk
    obtain ⟨safeT', vals', mt', y1, y2, y3⟩ := close_L hfu (fr := fr) (to := to) n1 n2 n4 n7 hk1 (fun g hg => sg _ _ (n9 g hg).2.2.2) (n10.elim (fun z => Or.inl z.1) (fun z => Or.inr ⟨z.1, sg _ _ z.2.2.2⟩)) 0 (-1) (-1) G 0 fu 0 vals mt (by omega) rfl (by omega) (fun g hg => absurd hg (by omega))
    refine Or.inl ⟨safeT', K', vals', mt', kv', ?_, g2, ⟨n1, n2, ?_, ?_, ?_⟩, g5⟩
    · show (if (-1 : Int32) = -1 then _ else _) = _
      rw [if_pos rfl]
      exact y1
    · intro k hk
      rw [cpI_lt _ (by omega)]
      exact (n9 k hk).1
    · intro g hg
      rw [cpI_lt _ (by omega), cpI_lt _ (by omega), (n9 g hg).2.1, (n9 g hg).2.2.1]
      exact y2 g hg
    · rcases n10 with ⟨z1, z2⟩ | ⟨z1, z2, z3, z4⟩
      · refine Or.inl ⟨z2, ?_⟩
        rcases y3 with ⟨u1, u2⟩ | ⟨u1, u2⟩
        · exact u2
        · rw [z1] at u1
          exact absurd u1 (by decide)
      · refine Or.inr ⟨?_, ?_⟩
        · intro z
          rw [← z2, z] at z4
          exact absurd z4.1 (by decide)
        · rcases y3 with ⟨u1, u2⟩ | ⟨u1, u2⟩
          · rw [z1] at u1
            exact absurd u1 (by decide)
          · rw [z2, z3]
            exact u2
  · rw [g1, Option.bind_some]
    refine Or.inr ⟨p, K', kv', ?_, g3, g4⟩
    show (if p = -1 then _ else _) = _
    rw [if_neg g2]
end
