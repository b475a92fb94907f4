/-! ===== the gears are settled ===== -/
theorem run_congr2 {K K' : Nat → Int32} : ∀ (n a d : Nat), (∀ i, a ≤ i → i < a + n → K' i = K i ∨ (0 ≤ (K i).toInt ∧ 0 ≤ (K' i).toInt)) → run_ok K' n a d = run_ok K n a d := by
  have t5 := t_m5
  intro n
  induction n with
  | zero => intro a d _; rfl
  | succ n ih =>
    intro a d h
    have ih1 := fun d => ih (a + 1) d (fun i h1 h2 => h i (by omega) (by omega))
    rcases h a (by omega) (by omega) with z | ⟨z1, z2⟩
    · rw [run_ok, run_ok, z, ih1, ih1, ih1]
    · rw [run_ok, run_ok, if_pos (show (-5 : Int32) ≤ K' a by rw [i_le]; omega), if_pos (show (-5 : Int32) ≤ K a by rw [i_le]; omega), ih1]
section
variable {fu : Nat} {p1 : Int32} {tape : Nat → Int32} {thrown taped wheels gears rows sums bits sf0 sto0 wN gN rN sN bN sf sto sc bc ln size ax pl so va lf lp op : Int32} {ks kp wf wt ot gn gf gt rs rm ro : Nat → Int32}
theorem text_bad {fa fp : Int32} (h : ¬ fa = 0) (f : Nat) (x : Int32) (kv : Nat → Int32) : FX12_text_L fu p1 tape (f + 1) 1 x thrown taped wheels gears rows sums bits sf0 sto0 wN gN rN sN bN sf sto sc bc ln size ax pl so va fa fp lf lp op ks kv kp wf wt ot gn gf gt rs rm ro = some (-1, thrown, taped, wheels, gears, rows, sums, bits, sf0, sto0, wN, gN, rN, sN, bN, sf, sto, sc, bc, ln, size, ax, pl, so, va, fa, fp, fa, fp, op, ks, kv, kp, wf, wt, ot, gn, gf, gt, rs, rm, ro) := by
  rw [FX12_text_L, if_neg (show ¬ (1 : Nat) = 0 by decide), if_pos rfl]
  by_cases c : bN ≤ x
  · rw [if_pos c, if_neg h]
  · rw [if_neg c, if_pos h, if_neg h]
theorem text_good (hfu : 1000 ≤ fu) (f : Nat) {x : Int32} (kv : Nat → Int32) (h : bN ≤ x) : FX12_text_L fu p1 tape (f + 1) 1 x thrown taped wheels gears rows sums bits sf0 sto0 wN gN rN sN bN sf sto sc bc ln size ax pl so va 0 (-1) lf lp op ks kv kp wf wt ot gn gf gt rs rm ro = some (ln, thrown, taped, wN, gN, rN, sN, bN, sf, sto, wN, gN, rN, sN, bN, sf, sto, sc, bc, ln, size, ax, pl, so, va, 0, -1, 0, -1, op, cpI 128 128 ks, cpI 128 128 kv, kp, cpI 12 12 wf, cpI 12 12 wt, cpI 12 12 ot, cpI 6 6 gn, cpI 6 6 gf, cpI 6 6 gt, cpI 6 6 rs, cpI 6 6 rm, cpI 72 72 ro) := by
  rw [FX12_text_L, if_neg (show ¬ (1 : Nat) = 0 by decide), if_pos rfl, if_pos h, if_pos rfl, laid_eq hfu, Option.bind_some]
theorem settle (hfu : 1000 ≤ fu) {wr : Int32} {names places : Nat → Int32} {G w : Nat} (hg : gN.toInt = G) (hG : G ≤ 6) (hn : ∀ k, k < G → gn (6 + k) = names k) (hw : wr.toInt = w) (hb : bN.toInt = w) (hw64 : w ≤ 64) :
    ∀ (n k f f' : Nat) (x : Int32) (K kv : Nat → Int32), k + n = w → x.toInt = k → n < f → n + 1 < f' → (∀ j, j < k → gRel (K j) (ks (192 + j)) (kv (192 + j))) → (∀ j, k ≤ j → j < w → KnB ks kv kp j (K j) (places j)) →
    (∃ (K' kv' : Nat → Int32), FX2_settleGears_L fu wr places gN names f x K = some (-1, K') ∧ FX12_text_L fu p1 tape f' 1 x thrown taped wheels gears rows sums bits sf0 sto0 wN gN rN sN bN sf sto sc bc ln size ax pl so va 0 (-1) lf lp op ks kv kp wf wt ot gn gf gt rs rm ro = some (ln, thrown, taped, wN, gN, rN, sN, bN, sf, sto, wN, gN, rN, sN, bN, sf, sto, sc, bc, ln, size, ax, pl, so, va, 0, -1, 0, -1, op, cpI 128 128 ks, cpI 128 128 kv', kp, cpI 12 12 wf, cpI 12 12 wt, cpI 12 12 ot, cpI 6 6 gn, cpI 6 6 gf, cpI 6 6 gt, cpI 6 6 rs, cpI 6 6 rm, cpI 72 72 ro) ∧ (∀ j, j < w → gRel (K' j) (ks (192 + j)) (kv' (192 + j))) ∧ (∀ j, K' j = K j ∨ (0 ≤ (K j).toInt ∧ 0 ≤ (K' j).toInt)) ∧ (∀ q, q < 192 → kv' q = kv q)) ∨
    (∃ (p : Int32) (K' kv' : Nat → Int32), FX2_settleGears_L fu wr places gN names f x K = some (p, K') ∧ ¬ p = -1 ∧ FX12_text_L fu p1 tape f' 1 x thrown taped wheels gears rows sums bits sf0 sto0 wN gN rN sN bN sf sto sc bc ln size ax pl so va 0 (-1) lf lp op ks kv kp wf wt ot gn gf gt rs rm ro = some (-1, thrown, taped, wheels, gears, rows, sums, bits, sf0, sto0, wN, gN, rN, sN, bN, sf, sto, sc, bc, ln, size, ax, pl, so, va, 4, p, 4, p, op, ks, kv', kp, wf, wt, ot, gn, gf, gt, rs, rm, ro) ∧ (∀ q, q < 192 → kv' q = kv q)) := by
  have q0 := t_0
  have q1 := t_1
  have t192 : (192 : Int32).toInt = 192 := rfl
  intro n
  induction n with
  | zero =>
    intro k f f' x K kv hk hx hf hf' h1 h2
    obtain ⟨f, rfl⟩ : ∃ g, f = g + 1 := ⟨f - 1, by omega⟩
    obtain ⟨f', rfl⟩ : ∃ g, f' = g + 1 := ⟨f' - 1, by omega⟩
    rw [FX2_settleGears_L, if_pos (show wr ≤ x by rw [i_le]; omega), text_good hfu f' kv (show bN ≤ x by rw [i_le]; omega)]
    exact Or.inl ⟨K, kv, rfl, rfl, fun j hj => h1 j (by omega), fun j => Or.inl rfl, fun _ _ => rfl⟩
  | succ n ih =>
    intro k f f' x K kv hk hx hf hf' h1 h2
    obtain ⟨f, rfl⟩ : ∃ g, f = g + 1 := ⟨f - 1, by omega⟩
    obtain ⟨f', rfl⟩ : ∃ g, f' = g + 1 := ⟨f' - 1, by omega⟩
    have hs := i_add x 1 (by omega) (by omega)
    have h0 := i_add 192 x (by rw [t192]; omega) (by rw [t192]; omega)
    rw [t192] at h0
    have hi1 : pz_inb x 64 = true := i_inb.mpr (by omega)
    have hi2 : pz_inb (192 + x) 256 = true := i_inb.mpr (by omega)
    have hn1 : x.toNatClampNeg = k := by have := i_nat (a := x) (by omega); omega
    have hn2 : (192 + x).toNatClampNeg = 192 + k := by have := i_nat (a := 192 + x) (by omega); omega
    have hb' := h2 k (Nat.le_refl _) (by omega)
    unfold KnB at hb'
    obtain ⟨hb1, hb2⟩ := hb'
    have hR : FX12_text_L fu p1 tape (f' + 1) 1 x thrown taped wheels gears rows sums bits sf0 sto0 wN gN rN sN bN sf sto sc bc ln size ax pl so va 0 (-1) lf lp op ks kv kp wf wt ot gn gf gt rs rm ro = (if (ks (192 + k)) = 3 then ((FX12_found fu (6 : Int32) gN (kv (192 + k)) (12 : Nat) gn).bind (fun y16z => if ¬ y16z = (-1) then (FX12_text_L fu p1 tape f' 1 (x + 1) thrown taped wheels gears rows sums bits sf0 sto0 wN gN rN sN bN sf sto sc bc ln size ax pl so va 0 (-1) lf lp op ks (upd kv (192 + k) y16z) kp wf wt ot gn gf gt rs rm ro) else (FX12_text_L fu p1 tape f' 1 (x + 1) thrown taped wheels gears rows sums bits sf0 sto0 wN gN rN sN bN sf sto sc bc ln size ax pl so va 4 (kp (192 + k)) lf lp op ks (upd kv (192 + k) y16z) kp wf wt ot gn gf gt rs rm ro))) else (FX12_text_L fu p1 tape f' 1 (x + 1) thrown taped wheels gears rows sums bits sf0 sto0 wN gN rN sN bN sf sto sc bc ln size ax pl so va 0 (-1) lf lp op ks kv kp wf wt ot gn gf gt rs rm ro)) := by
      rw [FX12_text_L, if_neg (show ¬ (1 : Nat) = 0 by decide), if_pos rfl, if_neg (show ¬ bN ≤ x by rw [i_le]; omega), if_neg (show ¬ ¬ (0 : Int32) = 0 by decide), if_pos hi2, hn2]
      by_cases c : ks (192 + k) = 3
      · rw [if_pos c, if_pos c, if_pos hi2]
        congr 1
        funext y
        by_cases d : y = -1
        · rw [if_neg (show ¬ ¬ y = -1 from fun z => z d), if_neg (show ¬ ¬ y = -1 from fun z => z d), if_pos hi2, if_pos hi2]
        · rw [if_pos d, if_pos d, if_pos hi2]
      · rw [if_neg c, if_neg c]
    rw [FX2_settleGears_L, if_neg (show ¬ wr ≤ x by rw [i_le]; omega), if_pos hi1, hn1, hR]
    have opk : ∀ (c : Int32), c.toInt < 0 → K k = c → ks (192 + k) = 2 → gRel (K k) (ks (192 + k)) (kv (192 + k)) → (∃ (K' kv' : Nat → Int32), (if K k < 0 then (FX2_settleGears_L fu wr places gN names f (x + 1) K) else (if pz_inb x 64 = true then ((FX6_gearOf fu (K k) gN names).bind (fun y5z => if ¬ y5z = (-1) then (if pz_inb x 64 = true then (FX2_settleGears_L fu wr places gN names f (x + 1) (upd K k y5z)) else none) else (if pz_inb x 64 = true then (some (places k, K)) else none))) else none)) = some (-1, K') ∧ (if (ks (192 + k)) = 3 then ((FX12_found fu (6 : Int32) gN (kv (192 + k)) (12 : Nat) gn).bind (fun y16z => if ¬ y16z = (-1) then (FX12_text_L fu p1 tape f' 1 (x + 1) thrown taped wheels gears rows sums bits sf0 sto0 wN gN rN sN bN sf sto sc bc ln size ax pl so va 0 (-1) lf lp op ks (upd kv (192 + k) y16z) kp wf wt ot gn gf gt rs rm ro) else (FX12_text_L fu p1 tape f' 1 (x + 1) thrown taped wheels gears rows sums bits sf0 sto0 wN gN rN sN bN sf sto sc bc ln size ax pl so va 4 (kp (192 + k)) lf lp op ks (upd kv (192 + k) y16z) kp wf wt ot gn gf gt rs rm ro))) else (FX12_text_L fu p1 tape f' 1 (x + 1) thrown taped wheels gears rows sums bits sf0 sto0 wN gN rN sN bN sf sto sc bc ln size ax pl so va 0 (-1) lf lp op ks kv kp wf wt ot gn gf gt rs rm ro)) = some (ln, thrown, taped, wN, gN, rN, sN, bN, sf, sto, wN, gN, rN, sN, bN, sf, sto, sc, bc, ln, size, ax, pl, so, va, 0, -1, 0, -1, op, cpI 128 128 ks, cpI 128 128 kv', kp, cpI 12 12 wf, cpI 12 12 wt, cpI 12 12 ot, cpI 6 6 gn, cpI 6 6 gf, cpI 6 6 gt, cpI 6 6 rs, cpI 6 6 rm, cpI 72 72 ro) ∧ (∀ j, j < w → gRel (K' j) (ks (192 + j)) (kv' (192 + j))) ∧ (∀ j, K' j = K j ∨ (0 ≤ (K j).toInt ∧ 0 ≤ (K' j).toInt)) ∧ (∀ q, q < 192 → kv' q = kv q)) ∨
    (∃ (p : Int32) (K' kv' : Nat → Int32), (if K k < 0 then (FX2_settleGears_L fu wr places gN names f (x + 1) K) else (if pz_inb x 64 = true then ((FX6_gearOf fu (K k) gN names).bind (fun y5z => if ¬ y5z = (-1) then (if pz_inb x 64 = true then (FX2_settleGears_L fu wr places gN names f (x + 1) (upd K k y5z)) else none) else (if pz_inb x 64 = true then (some (places k, K)) else none))) else none)) = some (p, K') ∧ ¬ p = -1 ∧ (if (ks (192 + k)) = 3 then ((FX12_found fu (6 : Int32) gN (kv (192 + k)) (12 : Nat) gn).bind (fun y16z => if ¬ y16z = (-1) then (FX12_text_L fu p1 tape f' 1 (x + 1) thrown taped wheels gears rows sums bits sf0 sto0 wN gN rN sN bN sf sto sc bc ln size ax pl so va 0 (-1) lf lp op ks (upd kv (192 + k) y16z) kp wf wt ot gn gf gt rs rm ro) else (FX12_text_L fu p1 tape f' 1 (x + 1) thrown taped wheels gears rows sums bits sf0 sto0 wN gN rN sN bN sf sto sc bc ln size ax pl so va 4 (kp (192 + k)) lf lp op ks (upd kv (192 + k) y16z) kp wf wt ot gn gf gt rs rm ro))) else (FX12_text_L fu p1 tape f' 1 (x + 1) thrown taped wheels gears rows sums bits sf0 sto0 wN gN rN sN bN sf sto sc bc ln size ax pl so va 0 (-1) lf lp op ks kv kp wf wt ot gn gf gt rs rm ro)) = some (-1, thrown, taped, wheels, gears, rows, sums, bits, sf0, sto0, wN, gN, rN, sN, bN, sf, sto, sc, bc, ln, size, ax, pl, so, va, 4, p, 4, p, op, ks, kv', kp, wf, wt, ot, gn, gf, gt, rs, rm, ro) ∧ (∀ q, q < 192 → kv' q = kv q)) := by
      intro c hc he hks hgr
      rw [if_pos (show K k < 0 by rw [he, i_lt]; omega), if_neg (show ¬ ks (192 + k) = 3 by rw [hks]; decide)]
      refine ih (k + 1) f f' (x + 1) K kv (by omega) (by omega) (by omega) (by omega) ?_ (fun j j1 j2 => h2 j (by omega) j2)
      intro j hj
      by_cases c : j = k
      · subst c; exact hgr
      · exact h1 j (by omega)
    rcases hb1 with ⟨e1, e2, e3⟩ | ⟨e1, e2, e3⟩ | ⟨e1, e2, e3⟩ | ⟨e1, e2, e3⟩
    · rw [if_neg (show ¬ K k < 0 by rw [i_lt]; omega), if_pos hi1, if_pos e1]
      obtain ⟨v, v1, v2, v3⟩ := gear_found6 hfu (K k) hg hG hn
      rw [← e2, v1, v2, Option.bind_some, Option.bind_some]
      by_cases c : v = -1
      · rw [if_neg (show ¬ ¬ v = -1 from fun z => z c), if_neg (show ¬ ¬ v = -1 from fun z => z c), if_pos hi1]
        obtain ⟨g, rfl⟩ : ∃ g, f' = g + 1 := ⟨f' - 1, by omega⟩
        obtain ⟨y1, y2⟩ := hb2 e3
        rw [text_bad (show ¬ (4 : Int32) = 0 by decide)]
        refine Or.inr ⟨places k, K, upd kv (192 + k) v, rfl, ?_, by rw [y1], fun q hq => up_ne kv _ (by omega)⟩
        intro z
        rw [z] at y2
        exact absurd y2 (by decide)
      · rw [if_pos c, if_pos c, if_pos hi1]
        have hv : 0 ≤ v.toInt ∧ v.toInt < G := by
          rcases v3 with z | z
          · exact absurd z c
          · exact z
        have s1 : ∀ j, j < k + 1 → gRel (upd K k v j) (ks (192 + j)) (upd kv (192 + k) v (192 + j)) := by
          intro j hj
          by_cases d : j = k
          · subst d
            rw [up_eq, up_eq]
            exact Or.inl ⟨e1, rfl, hv.1, by omega⟩
          · rw [up_ne K _ d, up_ne kv _ (by omega)]
            exact h1 j (by omega)
        have s2 : ∀ j, k + 1 ≤ j → j < w → KnB ks (upd kv (192 + k) v) kp j (upd K k v j) (places j) := by
          intro j j1 j2
          have z := h2 j (by omega) j2
          unfold KnB at z ⊢
          rw [up_ne K _ (by omega), up_ne kv _ (by omega)]
          exact z
        rcases ih (k + 1) f f' (x + 1) (upd K k v) (upd kv (192 + k) v) (by omega) (by omega) (by omega) (by omega) s1 s2 with ⟨K', kv', g1, g2, g3, g4, g5⟩ | ⟨p, K', kv', g1, g2, g3, g4⟩
        · refine Or.inl ⟨K', kv', g1, g2, g3, ?_, fun q hq => (g5 q hq).trans (up_ne kv _ (by omega))⟩
          intro j
          by_cases d : j = k
          · subst d
            have g4' := g4 j
            rw [up_eq] at g4'
            rcases g4' with z | z
            · exact Or.inr ⟨e3, by rw [z]; exact hv.1⟩
            · exact Or.inr ⟨e3, z.2⟩
          · have g4' := g4 j
            rw [up_ne K _ d] at g4'
            exact g4'
        · exact Or.inr ⟨p, K', kv', g1, g2, g3, fun q hq => (g4 q hq).trans (up_ne kv _ (by omega))⟩
    · exact opk _ (by decide) e3 e1 (Or.inr (Or.inl ⟨e1, e2, e3⟩))
    · exact opk _ (by decide) e3 e1 (Or.inr (Or.inr (Or.inl ⟨e1, e2, e3⟩)))
    · exact opk _ (by decide) e3 e1 (Or.inr (Or.inr (Or.inr ⟨e1, e2, e3⟩)))
end
