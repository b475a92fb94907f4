/-! ===== E: readExpression = expression ===== -/
def tkS (L : Nat) (nx ck cv pl rs rv : Int32) (q e : Nat) : Prop := pl.toInt = q ∧ nx.toInt = e ∧ q ≤ e ∧ e ≤ L ∧ (¬ ck = 0 → q < e) ∧ tokR ck cv rs rv
section
variable {fu : Nat} {len : Int32} {bytes tape : Nat → Int32} {L : Nat}
theorem expr_eq (hfu : 10000 ≤ fu) (hT : tapeR bytes tape) (hlen : len.toInt = L) (hL : L ≤ 600) {nx ck cv pl rs rv : Int32} {q e : Nat} (htk : tkS L nx ck cv pl rs rv q e) (W : Nat → Int32) {cnt wr sums : Int32} {w : Nat} (hcnt : cnt.toInt = w) (hwr : wr.toInt = w) (hsums : sums.toInt = w) (hw : w ≤ 64) (K pls ks kv : Nat → Int32) (hk : ∀ i, i < w → kRel (K i) (ks (128 + i)) (kv (128 + i))) :
    (∃ (wt' nx' ck' cv' pl' : Int32) (W' : Nat → Int32) (cnt' wr' : Int32) (K' pls' : Nat → Int32) (sums' rs' rv' : Int32) (ks' kv' : Nat → Int32) (q' e' w' : Nat), FX7_readExpression fu 0 0 (-1) len nx ck cv pl bytes W cnt wr K pls = some (1, 4, 0, wt', 0, 3, 0, -1, nx', ck', cv', pl', W', cnt', wr', K', pls') ∧ FX12_expressionW fu sums cnt len nx pl rs rv 0 (-1) 0 tape ks kv = some (sums', cnt', nx', pl', rs', rv', 0, -1, 0, ks', kv') ∧ tkS L nx' ck' cv' pl' rs' rv' q' e' ∧ q < q' ∧ wr'.toInt = w' ∧ cnt'.toInt = w' ∧ sums'.toInt = w' ∧ w < w' ∧ w' ≤ 64 ∧ (∀ i, i < w' → kRel (K' i) (ks' (128 + i)) (kv' (128 + i))) ∧ (∀ i, i < w → K' i = K i) ∧ frm w ks kv ks' kv' ∧ segOk K' w w') ∨
    (∃ (sums' cnt' nx' pl' rs' rv' fa fp op' : Int32) (ks' kv' : Nat → Int32), FX12_expressionW fu sums cnt len nx pl rs rv 0 (-1) 0 tape ks kv = some (sums', cnt', nx', pl', rs', rv', fa, fp, op', ks', kv') ∧ ¬ fa = 0 ∧ CFail 0 (FX7_readExpression fu 0 0 (-1) len nx ck cv pl bytes W cnt wr K pls) fa fp ∧ frm w ks kv ks' kv') ∨
    (∃ (sums' cnt' nx' pl' rs' rv' : Int32) (ks' kv' : Nat → Int32), FX12_expressionW fu sums cnt len nx pl rs rv 0 (-1) 0 tape ks kv = some (sums', cnt', nx', pl', rs', rv', 0, -1, 0, ks', kv') ∧ CFail 0 (FX7_readExpression fu 0 0 (-1) len nx ck cv pl bytes W cnt wr K pls) 1 pl' ∧ rs' = 3 ∧ ¬ rv' = 59 ∧ frm w ks kv ks' kv') := by
  have q0 := t_0
  obtain ⟨h1, h2, h3, h4, h5, h6⟩ := htk
  have hrd : FX7_readExpression fu 0 0 (-1) len nx ck cv pl bytes W cnt wr K pls = CE fu 0 len bytes fu len 0 0 0 nx ck cv pl W cnt wr K pls := by
    unfold FX7_readExpression CE
    rw [if_pos (Or.inl rfl)]
  have hex : FX12_expressionW fu sums cnt len nx pl rs rv 0 (-1) 0 tape ks kv = FX12E fu len tape 200 0 sums cnt nx pl rs rv 0 (-1) 0 ks kv := rfl
  rw [hrd, hex]
  have htok : tokS L fu len nx ck cv pl rs rv q e := ⟨h1, h2, h3, h4, h5, by omega, by omega, by omega, h6⟩
  have hpile : pileOk (KnE ks kv) W 0 0 cnt wr K pls [] [] w := ⟨rfl, by decide, hwr, by rw [List.length_nil, nsg]; omega, by omega, by rw [nop]; rfl, by rw [nop]; omega, fun c hc => absurd hc (List.not_mem_nil), hk, trivial⟩
  rcases lev_all hfu hT hlen hL 200 0 (by omega) fu len 0 0 0 nx ck cv pl W cnt wr K pls [] sums rs rv ks kv q e w htok hpile hsums trivial (Or.inl ⟨rfl, fun z => by omega⟩) (by unfold dep; omega) with ⟨sums', cnt', nx', pl', rs', rv', ks', kv', b1, b2⟩ | ⟨sums', cnt', nx', pl', rs', rv', fa, fp, op', ks', kv', b1, b2, b3, b4⟩
  · obtain ⟨f3, v43, wt3, ck3, cv3, W3, wr3, K3, pls3, P, q3, e3, w3, c1, c2, c3, c4, c5, c6, c7, c8, c9, c10, c11, c12⟩ := b2
    obtain ⟨x1, x2⟩ := tok_v4 c2
    obtain ⟨f3, rfl⟩ : ∃ g, f3 = g + 1 + 1 := ⟨f3 - 2, by omega⟩
    have ht3 := c2.2.2.2.2.2.2.2.2
    rcases c7 with z | ⟨z1, A, x, B, z2, z3, z4⟩
    · have hr0 : rk (fX7_signHere_r 0 ck3 cv3) = 0 := by
        have := (rk_rng (fX7_signHere_r 0 ck3 cv3)).1
        have z' : rk (fX7_signHere_r 0 ck3 cv3) < 1 := z
        omega
      obtain ⟨wt', wr', K', pls', g1, g2, g3, g4⟩ := (bo_end (g := 0) (pl := pl') (show 1000 ≤ fu by omega) (Or.inr rfl) hr0 c4).1 rfl trivial
      obtain ⟨p1, p2, p3, p4, p5, p6, p7, p8, p9, p10⟩ := g2
      rw [List.length_nil, nsg] at p4
      have hn := g4 w c11
      obtain ⟨n1, n2⟩ := hn
      obtain ⟨dd, n3, n4⟩ := n2 0
      have hd : dd = 1 := Option.some.inj n4
      subst hd
      have hlt : w < w3 + P.length := by
        rcases Nat.lt_or_ge w (w3 + P.length) with y | y
        · exact y
        · have ew : w3 + P.length - w = 0 := by omega
          rw [ew, run_zero] at n3
          exact absurd (Option.some.inj n3) (by omega)
      obtain ⟨t1, t2, t3, t4, t5, t6, t7, t8, t9⟩ := c2
      refine Or.inl ⟨wt', nx', ck3, cv3, pl', W3, cnt', wr', K', pls', sums', rs', rv', ks', kv', q3, e3, w3 + P.length, ?_, b1, ⟨t1, t2, t3, t4, t5, t9⟩, c3, p3, by omega, by omega, hlt, by omega, p9, fun i hi => by rw [g3 i (by omega)]; exact c9 i hi, c10, ⟨by omega, by omega, n3⟩⟩
      rw [c1]
      exact it_end x1 g1
    · have ha20 : fX7_atSign_r (-20) ck3 cv3 = 0 := by
        rcases atS ht3 (c := -20) (r := 41) (by unfold sgR; decide) with ⟨y1, y2, y3⟩ | ⟨y1, y2, y3, y4, y5, y6⟩
        · exact y1
        · rw [y3, y4, sh_sign] at z1
          exact absurd z1 (by decide)
      subst z2
      have hsp := pile_split c4
      rw [List.cons_append] at hsp
      obtain ⟨wt', wr', K', pls', hf⟩ := bo_stuck (g := 0) (pl := pl') (show 1000 ≤ fu by omega) ha20 z1 hsp z3 z4
      refine Or.inr (Or.inr ⟨sums', cnt', nx', pl', rs', rv', ks', kv', b1, by rw [c1]; exact it_bo_fail x1 hf, ?_⟩)
      rcases sh_cases ht3 with ⟨a, -⟩ | ⟨a, -⟩ | ⟨a0, a, a2, b⟩ | ⟨a, -⟩
      · rw [a, rk_m8] at z1; exact absurd z1 (by decide)
      · rw [a, rk_m7] at z1; exact absurd z1 (by decide)
      · rw [a] at z1
        refine ⟨a2, ?_, c10⟩
        intro y
        have := (sg_uni b (show sgR (-21) 59 by unfold sgR; decide)).mpr y
        rw [this] at z1
        exact absurd z1 (by decide)
      · rw [a, rk_no] at z1; exact absurd z1 (by decide)
  · exact Or.inr (Or.inl ⟨sums', cnt', nx', pl', rs', rv', fa, fp, op', ks', kv', b1, b2, b3, b4⟩)
end
