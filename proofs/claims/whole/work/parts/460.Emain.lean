/-! ===== E: all levels ===== -/
theorem nsg_app : ∀ (B s : List Int32), (∀ c, c ∈ B → 1 ≤ rk c) → nsg (B ++ s) = B.length + nsg s ∧ nop (B ++ s) = nop s := by
  intro B
  induction B with
  | nil => intro s _; exact ⟨by rw [List.nil_append, List.length_nil, Nat.zero_add], rfl⟩
  | cons c B ih =>
    intro s h
    obtain ⟨h1, h2⟩ := ih s (fun x hx => h x (List.mem_cons_of_mem _ hx))
    have hc : ¬ c = -19 := by
      intro z
      have := h c (List.mem_cons_self ..)
      rw [z] at this
      exact absurd this (by decide)
    rw [List.cons_append, nsg, nop, if_neg hc, if_neg hc, h1, h2, List.length_cons]
    omega
theorem pile_split {Kn : Nat → Int32 → Int32 → Prop} {W : Nat → Int32} {wt op cnt wr : Int32} {K pls : Nat → Int32} {s A B : List Int32} {w : Nat} (h : pileOk Kn W wt op cnt wr K pls s (A ++ B) w) : pileOk Kn W wt op cnt wr K pls (B ++ s) A w := by
  obtain ⟨h1, h2, h3, h4, h5, h6, h7, h8, h9, h10⟩ := h
  obtain ⟨n1, n2⟩ := nsg_app B s (fun c hc => h8 c (List.mem_append.mpr (Or.inr hc)))
  rw [List.length_append] at h4
  refine ⟨by rw [← List.append_assoc]; exact h1, h2, h3, by omega, h5, by rw [n2]; exact h6, by rw [n2]; exact h7, fun c hc => h8 c (List.mem_append.mpr (Or.inl hc)), h9, ((outR_app A B w).mp h10).1⟩
section
variable {fu : Nat} {len : Int32} {bytes tape : Nat → Int32} {L : Nat} {n : Nat}
theorem topLt_mono {r r' : Int} (h : r ≤ r') {s : List Int32} (hs : topLt r s) : topLt r' s := by
  cases s with
  | nil => trivial
  | cons c s =>
    have : rk c < r := hs
    show rk c < r'
    omega
/-- an E in '(' and ')' -/
theorem lev5 (hfu : 10000 ≤ fu) (hT : tapeR bytes tape) (hlen : len.toInt = L) (hL : L ≤ 600) (hLR : LR fu len bytes tape L n 0) : LR fu len bytes tape L (n + 1) 5 := by
  intro f v4 wt op ph nx ck cv pl W cnt wr K pls s sums rs rv ks kv q e w htok hpile hsums htop hph hdep
  show OutE fu len bytes L 7 7 _ _ s w q op cnt K ks kv
  rw [E_5]
  by_cases hno : fX12_isSign_r 40 rs rv 0 = 0
  · exact prim_val hfu hT hlen hL htok hpile hsums hph hno
  have q0 := t_0
  have q1 := t_1
  have t8 : (8 : Int32).toInt = 8 := rfl
  have ht := htok.2.2.2.2.2.2.2.2
  obtain ⟨v1, v2⟩ := tok_v4 htok
  obtain ⟨f, rfl⟩ : ∃ g, f = g + 1 + 1 := ⟨f - 2, by omega⟩
  rcases atS ht (c := -19) (r := 40) (by unfold sgR; decide) with ⟨a1, a2, a3⟩ | ⟨a1, a2, a3, a4, a5, a6⟩
  · exact absurd a2 hno
  have hph23 : ¬ ph = 2 ∧ ¬ ph = 3 := by
    rcases hph with ⟨z, -⟩ | ⟨z, -⟩ <;> (subst z; decide)
  have hck : ¬ ck = 0 := by rw [a3]; decide
  obtain ⟨p1, p2, p3, p4, p5, p6, p7, p8, p9, p10⟩ := id hpile
  rw [List.length_nil] at p4
  rw [List.nil_append] at p1
  have hlen' := pile_len _ _ p1
  have hnn := nsg_nop s
  obtain ⟨o1, o2⟩ := ro_open (fu := fu) (g := 0) (wt := wt) (op := op) (ph := ph) (ck := ck) (cv := cv) (pl := pl) (W := W) (cnt := cnt) (wr := wr) (K := K) (pls := pls) (by rw [a1]; decide) (n := s.length) (by omega) (fun _ => by omega)
  unfold FX12_primary
  rw [if_pos rfl, if_neg hno]
  by_cases c8 : op.toInt < 8
  · have hro := o1 c8
    rw [if_pos (show ¬ op = 8 by rw [i_eq]; omega)]
    unfold FX12_primary_J31
    rw [if_pos rfl]
    obtain ⟨nx2, ck2, cv2, pl2, rs2, rv2, q2, e2, j1, j2, j3, j4⟩ := tok_adv (f := f + 1) hfu hT hlen hL htok hck
    rw [j2, Option.bind_some]
    have hC := it_op (fu := fu) (len := len) (bytes := bytes) (f := f + 1) hph23.1 hph23.2 v1 hro (by decide) j1
    have hop1 := i_add op 1 (by omega) (by omega)
    have hwt1 := i_add wt 1 (by omega) (by omega)
    have hpile2 : pileOk (KnE ks kv) (upd W s.length (-19)) (wt + 1) (op + 1) cnt wr K pls (-19 :: s) [] w := by
      refine ⟨?_, by omega, p3, ?_, p5, ?_, ?_, p8, p9, trivial⟩
      · rw [List.nil_append, show (wt + 1).toInt.toNat = s.length + 1 by omega]
        rw [hlen'] at p1
        exact pile_push p1 (-19)
      · rw [nsg, if_pos rfl, List.length_nil]; omega
      · rw [nop, if_pos rfl]; omega
      · rw [nop, if_pos rfl]; omega
    rcases hLR (f + 1) (v4 + (-1)) (wt + 1) (op + 1) 0 nx2 ck2 cv2 pl2 (upd W s.length (-19)) cnt wr K pls (-19 :: s) sums rs2 rv2 ks kv q2 e2 w j3 hpile2 hsums (by show rk (-19) < 1; decide) (Or.inl ⟨rfl, fun z => by omega⟩) (by unfold dep at hdep ⊢; omega) with ⟨sums', cnt', nx', pl', rs', rv', ks', kv', b1, b2⟩ | ⟨sums', cnt', nx', pl', rs', rv', fa, fp, op', ks', kv', b1, b2, b3, b4⟩
    · show OutE fu len bytes L 7 7 ((FX12E fu len tape n 0 sums cnt nx2 pl2 rs2 rv2 0 (-1) (op + 1) ks kv).bind _) _ s w q op cnt K ks kv
      rw [b1, Option.bind_some]
      obtain ⟨f3, v43, wt3, ck3, cv3, W3, wr3, K3, pls3, P, q3, e3, w3, c1, c2, c3, c4, c5, c6, c7, c8', c9, c10, c11, c12⟩ := b2
      have ht3 := c2.2.2.2.2.2.2.2.2
      obtain ⟨x1, x2⟩ := tok_v4 c2
      obtain ⟨f3, rfl⟩ : ∃ g, f3 = g + 1 + 1 := ⟨f3 - 2, by omega⟩
      show OutE fu len bytes L 7 7 ((FX12_closes fu len nx' pl' rs' rv' 0 (-1) (op + 1) tape).bind _) _ s w q op cnt K ks kv
      unfold FX12_closes
      rw [if_neg (show ¬ ¬ (0 : Int32) = 0 by decide)]
      rcases atS ht3 (c := -20) (r := 41) (by unfold sgR; decide) with ⟨y1, y2, y3⟩ | ⟨y1, y2, y3, y4, y5, y6⟩
      · -- no ')'
        rw [y2, if_neg (show ¬ ¬ (0 : Int32) = 0 by decide)]
        have ew : FX12_closes_J21 fu len tape nx' pl' rs' rv' (fX12_wrong_f0_37 1 0) (fX12_wrong_f0_38 pl' 0 (-1)) (op + 1) = some (nx', pl', rs', rv', 1, pl', op + 1) := by
          unfold FX12_closes_J21 fX12_wrong_f0_37 fX12_wrong_f0_38
          rw [if_pos rfl, if_pos rfl, if_neg (show ¬ (1 : Int32) = 0 by decide)]
        rw [ew, Option.bind_some]
        refine Or.inr ⟨sums', cnt', nx', pl', rs', rv', 1, pl', op + 1, ks', kv', rfl, by decide, ?_, c10⟩
        rw [hC, c1]
        rcases c7 with z | ⟨z1, A, x, B, z2, z3, z4⟩
        · have hr0 : rk (fX7_signHere_r 0 ck3 cv3) = 0 := by
            have := (rk_rng (fX7_signHere_r 0 ck3 cv3)).1
            have z' : rk (fX7_signHere_r 0 ck3 cv3) < 1 := z
            omega
          exact it_bo_fail x1 ((bo_end (g := 0) (show 1000 ≤ fu by omega) (Or.inl y1) hr0 c4).2 (by omega))
        · subst z2
          have hsp := pile_split c4
          rw [List.cons_append] at hsp
          obtain ⟨wt', wr', K', pls', hf⟩ := bo_stuck (g := 0) (pl := pl') (show 1000 ≤ fu by omega) y1 z1 hsp z3 z4
          exact it_bo_fail x1 hf
      · -- ')'
        rw [y2, if_pos (show ¬ (1 : Int32) = 0 by decide)]
        have hck3 : ¬ ck3 = 0 := by rw [y3]; decide
        obtain ⟨nx4, ck4, cv4, pl4, rs4, rv4, q4, e4, u1, u2, u3, u4⟩ := tok_adv (f := f3 + 1) hfu hT hlen hL c2 hck3
        obtain ⟨wt', wr', K', pls', g1, g2, g3, g4⟩ := bo_close (g := 0) (pl := pl') (show 1000 ≤ fu by omega) (by rw [y1]; decide) c4
        have hopb : op + 1 - 1 = op := by
          have := i_sub (op + 1) 1 (by omega) (by omega)
          exact i_eq.mpr (by omega)
        rw [hopb] at g1 g2
        have ew : FX12_closes_J21 fu len tape nx' pl' rs' rv' 0 (-1) (op + 1) = some (nx4, pl4, rs4, rv4, 0, -1, op) := by
          unfold FX12_closes_J21
          rw [if_pos rfl, u2, Option.bind_some, hopb]
        rw [ew, Option.bind_some]
        refine Or.inl ⟨sums', cnt', nx4, pl4, rs4, rv4, ks', kv', rfl, ?_⟩
        refine ⟨f3 + 1, v43 + (-1), wt', ck4, cv4, W3, wr', K', pls', [], q4, e4, w3 + P.length, ?_, u3, by omega, g2, by rw [List.length_nil]; omega, fun c hc => absurd hc (List.not_mem_nil), Or.inl (by have := (rk_rng (fX7_signHere_r 0 ck4 cv4)).2; omega), by omega, fun i hi => by rw [g3 i (by omega)]; exact c9 i hi, c10, g4 w c11, c12⟩
        rw [hC, c1]
        exact it_bo x1 g1 (by decide) u1
    · show OutE fu len bytes L 7 7 ((FX12E fu len tape n 0 sums cnt nx2 pl2 rs2 rv2 0 (-1) (op + 1) ks kv).bind _) _ s w q op cnt K ks kv
      rw [b1, Option.bind_some]
      show OutE fu len bytes L 7 7 ((FX12_closes fu len nx' pl' rs' rv' fa fp op' tape).bind _) _ s w q op cnt K ks kv
      have ew : FX12_closes fu len nx' pl' rs' rv' fa fp op' tape = some (nx', pl', rs', rv', fa, fp, op') := by
        unfold FX12_closes FX12_closes_J21
        rw [if_pos b2, if_neg b2]
      rw [ew, Option.bind_some]
      exact Or.inr ⟨sums', cnt', nx', pl', rs', rv', fa, fp, op', ks', kv', rfl, b2, by rw [hC]; exact b3, b4⟩
  · have hop8 : op = 8 := i_eq.mpr (by omega)
    have hro := o2 (by omega)
    rw [if_neg (show ¬ ¬ op = 8 from fun z => z hop8)]
    have ew : FX12_primary_J31 fu (FX12E fu len tape n) len tape sums cnt nx pl rs rv (fX12_wrong_f0_37 2 0) (fX12_wrong_f0_38 pl 0 (-1)) op ks kv = some (sums, cnt, nx, pl, rs, rv, 2, pl, op, ks, kv) := by
      unfold FX12_primary_J31 fX12_wrong_f0_37 fX12_wrong_f0_38
      rw [if_pos rfl, if_pos rfl, if_neg (show ¬ (2 : Int32) = 0 by decide)]
    rw [ew]
    exact Or.inr ⟨_, _, _, _, _, _, 2, pl, _, _, _, rfl, by decide, it_op_fail hph23.1 hph23.2 v1 hro, frm_refl _ _ _⟩
theorem lev4 (hfu : 10000 ≤ fu) (hT : tapeR bytes tape) (hlen : len.toInt = L) (hL : L ≤ 600) (hLR : LR fu len bytes tape L n 5) : LR fu len bytes tape L (n + 1) 4 := by
  intro f v4 wt op ph nx ck cv pl W cnt wr K pls s sums rs rv ks kv q e w htok hpile hsums htop hph hdep
  show OutE fu len bytes L 6 6 _ _ s w q op cnt K ks kv
  rw [E_4]
  unfold FX12_product
  have hc0 := hpile.2.2.2.2.1
  have hc1 := hpile.2.2.2.1
  have hd : dep 5 op cnt n := by unfold dep at hdep ⊢; omega
  rcases hLR f v4 wt op ph nx ck cv pl W cnt wr K pls s sums rs rv ks kv q e w htok hpile hsums (topLt_mono (by decide) htop) (by rcases hph with ⟨z1, z2⟩ | ⟨z1, z2⟩; exact Or.inl ⟨z1, fun _ => z2 (by omega)⟩; exact Or.inr ⟨z1, by omega⟩) hd with ⟨sums', cnt', nx', pl', rs', rv', ks', kv', b1, b2⟩ | ⟨sums', cnt', nx', pl', rs', rv', fa, fp, op', ks', kv', b1, b2, b3, b4⟩
  · rw [b1, Option.bind_some]
    have h2 := (fin_tok b2).2
    exact product_loop hfu hT hlen hL hc0 (by omega) hLR htop hd (L + 1) fu sums' cnt' nx' pl' rs' rv' ks' kv' (by omega) (by omega) (fin_weak b2 (by decide) (fun P ck cv _ _ he => he))
  · rw [b1, Option.bind_some]
    obtain ⟨f0, hf0⟩ : ∃ g, fu = g + 1 := ⟨fu - 1, by omega⟩
    have hl := fun g => (L_fault (fu := fu) (len := len) (tape := tape) b2 (FX12E fu len tape n) g sums' cnt' nx' pl' rs' rv' fp op' ks' kv').2.2.2
    have hl0 := hl f0
    rw [← hf0] at hl0
    exact Or.inr ⟨sums', cnt', nx', pl', rs', rv', fa, fp, op', ks', kv', hl0, b2, b3, b4⟩
theorem lev3 (hfu : 10000 ≤ fu) (hT : tapeR bytes tape) (hlen : len.toInt = L) (hL : L ≤ 600) (hLR : LR fu len bytes tape L n 4) : LR fu len bytes tape L (n + 1) 3 := by
  intro f v4 wt op ph nx ck cv pl W cnt wr K pls s sums rs rv ks kv q e w htok hpile hsums htop hph hdep
  show OutE fu len bytes L 5 5 _ _ s w q op cnt K ks kv
  rw [E_3]
  unfold FX12_sum
  have hc0 := hpile.2.2.2.2.1
  have hc1 := hpile.2.2.2.1
  have hd : dep 4 op cnt n := by unfold dep at hdep ⊢; omega
  rcases hLR f v4 wt op ph nx ck cv pl W cnt wr K pls s sums rs rv ks kv q e w htok hpile hsums (topLt_mono (by decide) htop) (by rcases hph with ⟨z1, z2⟩ | ⟨z1, z2⟩; exact Or.inl ⟨z1, fun _ => z2 (by omega)⟩; exact Or.inr ⟨z1, by omega⟩) hd with ⟨sums', cnt', nx', pl', rs', rv', ks', kv', b1, b2⟩ | ⟨sums', cnt', nx', pl', rs', rv', fa, fp, op', ks', kv', b1, b2, b3, b4⟩
  · rw [b1, Option.bind_some]
    have h2 := (fin_tok b2).2
    exact sum_loop hfu hT hlen hL hc0 (by omega) hLR htop hd (L + 1) fu sums' cnt' nx' pl' rs' rv' ks' kv' (by omega) (by omega) (fin_weak b2 (by decide) (fun P ck cv _ _ he => he))
  · rw [b1, Option.bind_some]
    obtain ⟨f0, hf0⟩ : ∃ g, fu = g + 1 := ⟨fu - 1, by omega⟩
    have hl := fun g => (L_fault (fu := fu) (len := len) (tape := tape) b2 (FX12E fu len tape n) g sums' cnt' nx' pl' rs' rv' fp op' ks' kv').2.2.1
    have hl0 := hl f0
    rw [← hf0] at hl0
    exact Or.inr ⟨sums', cnt', nx', pl', rs', rv', fa, fp, op', ks', kv', hl0, b2, b3, b4⟩
theorem lev1 (hfu : 10000 ≤ fu) (hT : tapeR bytes tape) (hlen : len.toInt = L) (hL : L ≤ 600) (hLR : LR fu len bytes tape L n 2) : LR fu len bytes tape L (n + 1) 1 := by
  intro f v4 wt op ph nx ck cv pl W cnt wr K pls s sums rs rv ks kv q e w htok hpile hsums htop hph hdep
  show OutE fu len bytes L 2 2 _ _ s w q op cnt K ks kv
  rw [E_1]
  unfold FX12_conjunction
  have hc0 := hpile.2.2.2.2.1
  have hc1 := hpile.2.2.2.1
  have hd : dep 2 op cnt n := by unfold dep at hdep ⊢; omega
  rcases hLR f v4 wt op ph nx ck cv pl W cnt wr K pls s sums rs rv ks kv q e w htok hpile hsums (topLt_mono (by decide) htop) (by rcases hph with ⟨z1, z2⟩ | ⟨z1, z2⟩; exact Or.inl ⟨z1, fun z => by omega⟩; omega) hd with ⟨sums', cnt', nx', pl', rs', rv', ks', kv', b1, b2⟩ | ⟨sums', cnt', nx', pl', rs', rv', fa, fp, op', ks', kv', b1, b2, b3, b4⟩
  · rw [b1, Option.bind_some]
    have h2 := (fin_tok b2).2
    exact and_loop hfu hT hlen hL hc0 (by omega) hLR htop hd (L + 1) fu sums' cnt' nx' pl' rs' rv' ks' kv' (by omega) (by omega) (fin_weak b2 (by decide) (fun P ck cv _ _ he => he))
  · rw [b1, Option.bind_some]
    obtain ⟨f0, hf0⟩ : ∃ g, fu = g + 1 := ⟨fu - 1, by omega⟩
    have hl := fun g => (L_fault (fu := fu) (len := len) (tape := tape) b2 (FX12E fu len tape n) g sums' cnt' nx' pl' rs' rv' fp op' ks' kv').2.1
    have hl0 := hl f0
    rw [← hf0] at hl0
    exact Or.inr ⟨sums', cnt', nx', pl', rs', rv', fa, fp, op', ks', kv', hl0, b2, b3, b4⟩
theorem lev0 (hfu : 10000 ≤ fu) (hT : tapeR bytes tape) (hlen : len.toInt = L) (hL : L ≤ 600) (hLR : LR fu len bytes tape L n 1) : LR fu len bytes tape L (n + 1) 0 := by
  intro f v4 wt op ph nx ck cv pl W cnt wr K pls s sums rs rv ks kv q e w htok hpile hsums htop hph hdep
  show OutE fu len bytes L 1 1 _ _ s w q op cnt K ks kv
  rw [E_0]
  unfold FX12_expression
  have hc0 := hpile.2.2.2.2.1
  have hc1 := hpile.2.2.2.1
  have hd : dep 1 op cnt n := by unfold dep at hdep ⊢; omega
  rcases hLR f v4 wt op ph nx ck cv pl W cnt wr K pls s sums rs rv ks kv q e w htok hpile hsums (topLt_mono (by decide) htop) (by rcases hph with ⟨z1, z2⟩ | ⟨z1, z2⟩; exact Or.inl ⟨z1, fun z => by omega⟩; omega) hd with ⟨sums', cnt', nx', pl', rs', rv', ks', kv', b1, b2⟩ | ⟨sums', cnt', nx', pl', rs', rv', fa, fp, op', ks', kv', b1, b2, b3, b4⟩
  · rw [b1, Option.bind_some]
    have h2 := (fin_tok b2).2
    exact or_loop hfu hT hlen hL hc0 (by omega) hLR htop hd (L + 1) fu sums' cnt' nx' pl' rs' rv' ks' kv' (by omega) (by omega) (fin_weak b2 (by decide) (fun P ck cv _ _ he => he))
  · rw [b1, Option.bind_some]
    obtain ⟨f0, hf0⟩ : ∃ g, fu = g + 1 := ⟨fu - 1, by omega⟩
    have hl := fun g => (L_fault (fu := fu) (len := len) (tape := tape) b2 (FX12E fu len tape n) g sums' cnt' nx' pl' rs' rv' fp op' ks' kv').1
    have hl0 := hl f0
    rw [← hf0] at hl0
    exact Or.inr ⟨sums', cnt', nx', pl', rs', rv', fa, fp, op', ks', kv', hl0, b2, b3, b4⟩
theorem lev2 (hfu : 10000 ≤ fu) (hT : tapeR bytes tape) (hlen : len.toInt = L) (hL : L ≤ 600) (hLR2 : LR fu len bytes tape L n 2) (hLR3 : LR fu len bytes tape L n 3) : LR fu len bytes tape L (n + 1) 2 := by
  intro f v4 wt op ph nx ck cv pl W cnt wr K pls s sums rs rv ks kv q e w htok hpile hsums htop hph hdep
  show OutE fu len bytes L 3 3 _ _ s w q op cnt K ks kv
  rw [E_2]
  unfold FX12_negation
  have q1 := t_1
  have ht := htok.2.2.2.2.2.2.2.2
  obtain ⟨p1, p2, p3, p4, p5, p6, p7, p8, p9, p10⟩ := id hpile
  rw [List.length_nil] at p4
  rw [List.nil_append] at p1
  have hlen' := pile_len _ _ p1
  have hnn := nsg_nop s
  have hph0 : ph = 0 := by
    rcases hph with ⟨z, -⟩ | ⟨-, z⟩
    · exact z
    · omega
  have h486 : (486146048 : Int32) = wcode 6 := rfl
  rcases atW ht (i := 6) (by omega) with ⟨a1, a2, a3⟩ | ⟨a1, a2, a3, a4, a5, a6⟩
  · -- no not
    have a2' : fX12_isWord_r 6 rs rv 0 = 0 := a2
    rw [if_pos a2']
    have hd : dep 3 op cnt n := by unfold dep at hdep ⊢; omega
    rcases hLR3 f v4 wt op ph nx ck cv pl W cnt wr K pls s sums rs rv ks kv q e w htok hpile hsums (topLt_mono (by decide) htop) (Or.inl ⟨hph0, fun _ => by rw [h486]; exact a1⟩) hd with ⟨sums', cnt', nx', pl', rs', rv', ks', kv', b1, b2⟩ | ⟨sums', cnt', nx', pl', rs', rv', fa, fp, op', ks', kv', b1, b2, b3, b4⟩
    · rw [b1, Option.bind_some]
      show OutE fu len bytes L 3 3 (if ¬ (0 : Int32) = 0 then _ else (if ¬ rs' = 3 then _ else (if rv' = 60 then _ else (if rv' = 62 then _ else (if rv' = 61 then _ else (if 256 ≤ rv' then _ else _)))))) _ s w q op cnt K ks kv
      rw [if_neg (show ¬ ¬ (0 : Int32) = 0 by decide)]
      have hFin5 : Fin fu len bytes L 5 5 (CE fu 0 len bytes f v4 wt op ph nx ck cv pl W cnt wr K pls) s w q op cnt K ks kv sums' cnt' nx' pl' rs' rv' ks' kv' := b2
      have retn : (¬ rs' = 3 ∨ (¬ rv' = 60 ∧ ¬ rv' = 62 ∧ ¬ rv' = 61 ∧ ¬ 256 ≤ rv')) → Fin fu len bytes L 3 3 (CE fu 0 len bytes f v4 wt op ph nx ck cv pl W cnt wr K pls) s w q op cnt K ks kv sums' cnt' nx' pl' rs' rv' ks' kv' := by
        intro hz
        refine fin_weak hFin5 (by omega) (fun P ck cv ht hP he => ?_)
        left
        rcases sh_cases ht with ⟨a, -⟩ | ⟨a, -⟩ | ⟨a0, a, a2, b⟩ | ⟨a, -⟩
        · rw [a, rk_m8]; decide
        · rw [a, rk_m7]; decide
        · rw [a]
          rcases hz with z | ⟨z1, z2, z3, z4⟩
          · exact absurd a2 z
          · rcases rk_sg b with ⟨-, y, -⟩ | ⟨y, -⟩ | ⟨y, -⟩ | ⟨y, -⟩
            · rcases y with y | y | y | y
              · exact absurd y z1
              · exact absurd y z2
              · exact absurd y z3
              · exact absurd y z4
            · rcases he with z | ⟨z, -⟩
              · rw [a, y] at z; omega
              · rw [a, y] at z; omega
            · rcases he with z | ⟨z, -⟩
              · rw [a, y] at z; omega
              · rw [a, y] at z; omega
            · omega
        · rw [a, rk_no]; decide
      by_cases c3 : rs' = 3
      · rw [if_neg (show ¬ ¬ rs' = 3 from fun z => z c3)]
        have cmp : (rv' = 60 ∨ rv' = 62 ∨ rv' = 61 ∨ 256 ≤ rv') → OutE fu len bytes L 3 3 (FX12_negation_J87 fu (FX12E fu len tape n) len tape sums' cnt' nx' pl' rs' rv' 0 (-1) op ks' kv') (CE fu 0 len bytes f v4 wt op ph nx ck cv pl W cnt wr K pls) s w q op cnt K ks kv := by
          intro hz
          obtain ⟨⟨ck', cv', ht'⟩, -⟩ := fin_tok hFin5
          have hsg : ∃ c, sgR c rv' ∧ rk c = 4 ∧ kBin c rv' ∧ ck' = 4 ∧ cv' = c := by
            rcases sh_cases ht' with ⟨a, b1, b2⟩ | ⟨a, b1, b2⟩ | ⟨a0, a, a2, b⟩ | ⟨a, b1, b2, -⟩
            · rcases ht' with ⟨h1, h2, h3⟩ | ⟨h1, h2, h3⟩ | ⟨h1, h2, h3⟩ | ⟨h1, h2, h3⟩ | ⟨h1, h2, h3⟩ | ⟨h1, h2⟩
              · rw [c3] at h3; exact absurd h3 (by decide)
              · rw [c3] at h2; exact absurd h2 (by decide)
              · rw [c3] at h2; exact absurd h2 (by decide)
              · rw [c3] at h2; exact absurd h2 (by decide)
              · rw [b1] at h1; exact absurd h1 (by decide)
              · rw [c3] at h2; exact absurd h2 (by decide)
            · rcases ht' with ⟨h1, h2, h3⟩ | ⟨h1, h2, h3⟩ | ⟨h1, h2, h3⟩ | ⟨h1, h2, h3⟩ | ⟨h1, h2, h3⟩ | ⟨h1, h2⟩
              · rw [c3] at h3; exact absurd h3 (by decide)
              · rw [c3] at h2; exact absurd h2 (by decide)
              · rw [c3] at h2; exact absurd h2 (by decide)
              · rw [c3] at h2; exact absurd h2 (by decide)
              · rw [b1] at h1; exact absurd h1 (by decide)
              · rw [c3] at h2; exact absurd h2 (by decide)
            · rcases rk_sg b with ⟨y1, y2, y3⟩ | ⟨y1, y2, y3⟩ | ⟨y1, y2, y3⟩ | ⟨y1, y2, y3, y4, y5⟩
              · exact ⟨cv', b, y1, y3, a0, rfl⟩
              · exfalso
                rcases y2 with rfl | rfl <;> exact absurd hz (by decide)
              · exfalso
                rcases y2 with rfl | rfl <;> exact absurd hz (by decide)
              · exfalso
                rcases hz with z | z | z | z
                · exact y2 z
                · exact y3 z
                · exact y4 z
                · exact y5 z
            · exact absurd c3 b2
          obtain ⟨c, s1, s2, s3, s4, s5⟩ := hsg
          have hne20 : ¬ c = -20 := fun z => by rw [z] at s2; exact absurd s2 (by decide)
          have hi : ¬ fX12_isSign_r rv' rs' rv' 0 = 0 := by
            rw [isS_of s1 ht' s4 s5]; decide
          obtain ⟨-, htest⟩ := sign_test s1 hne20 hi
          have hph1 : phS c = 1 := by
            unfold phS
            rw [if_neg]
            rintro (z | z) <;> (rw [z] at s2; exact absurd s2 (by decide))
          have key := step_bin hfu hT hlen hL (t := 3) (by omega) hLR3 c rv' (Or.inr (Or.inr (Or.inr ⟨rfl, s3⟩))) 3 3 5 5 (Or.inr (Or.inr (Or.inl s2))) (by omega) ⟨by omega, fun _ => by omega⟩ (by decide) (fun P ck cv rs rv ht hP he => by
            rcases he with z | ⟨z1, z2⟩
            · have z' : rk (fX7_signHere_r 0 ck cv) < 5 := z
              by_cases g : rk (fX7_signHere_r 0 ck cv) = 4
              · exact Or.inr ⟨g, P, c, [], rfl, fun x hx => hP x hx, s2⟩
              · have := sh_ne3 ht
                exact Or.inl (by omega)
            · exact Or.inr ⟨z1, stuck_app z2 [c]⟩) hFin5 htest (by rw [s2]; exact htop) (by rw [s2]; decide) (fun ck cv => Or.inr ⟨hph1, by omega⟩) hd p5 (by omega) (fun a b c d e g fa fp i ks kv => some (a, b, c, d, e, g, fa, fp, i, ks, kv))
          have hJ : FX12_negation_J87 fu (FX12E fu len tape n) len tape sums' cnt' nx' pl' rs' rv' 0 (-1) op ks' kv' = binB fu (FX12E fu len tape n) len tape 3 rv' (fun a b c d e g fa fp i ks kv => some (a, b, c, d, e, g, fa, fp, i, ks, kv)) sums' cnt' nx' pl' rs' rv' 0 (-1) op ks' kv' := rfl
          rw [hJ]
          rcases key with ⟨a1, a2, a3, a4, a5, a6, a7, a8, z1, z2, z3⟩ | ⟨a1, a2, a3, a4, a5, a6, fa, fp, op', a7, a8, z1, z2, z3, z4⟩
          · exact Or.inl ⟨a1, a2, a3, a4, a5, a6, a7, a8, z1, z2⟩
          · exact Or.inr ⟨a1, a2, a3, a4, a5, a6, fa, fp, op', a7, a8, z1, z2, z3, z4⟩
        by_cases d1 : rv' = 60
        · rw [if_pos d1]; exact cmp (Or.inl d1)
        rw [if_neg d1]
        by_cases d2 : rv' = 62
        · rw [if_pos d2]; exact cmp (Or.inr (Or.inl d2))
        rw [if_neg d2]
        by_cases d3 : rv' = 61
        · rw [if_pos d3]; exact cmp (Or.inr (Or.inr (Or.inl d3)))
        rw [if_neg d3]
        by_cases d4 : 256 ≤ rv'
        · rw [if_pos d4]; exact cmp (Or.inr (Or.inr (Or.inr d4)))
        rw [if_neg d4]
        exact Or.inl ⟨_, _, _, _, _, _, _, _, rfl, retn (Or.inr ⟨d1, d2, d3, d4⟩)⟩
      · rw [if_pos c3]
        exact Or.inl ⟨_, _, _, _, _, _, _, _, rfl, retn (Or.inl c3)⟩
    · rw [b1, Option.bind_some]
      show OutE fu len bytes L 3 3 (if ¬ fa = 0 then _ else _) _ s w q op cnt K ks kv
      rw [if_pos b2]
      exact Or.inr ⟨sums', cnt', nx', pl', rs', rv', fa, fp, op', ks', kv', rfl, b2, b3, b4⟩
  · -- not
    have a2' : fX12_isWord_r 6 rs rv 0 = 1 := a2
    rw [a2', if_neg (show ¬ (1 : Int32) = 0 by decide)]
    have hJ : ((FX12_goOn fu len nx pl rs rv (fX12_knot_f0_37 cnt 0) tape).bind (fun y12z => (FX12E fu len tape n 2 sums (fX12_knot_f0_29 cnt 0) y12z.1 y12z.2.1 y12z.2.2.1 y12z.2.2.2 (fX12_knot_f0_37 cnt 0) (fX12_knot_f0_38 cnt pl 0 (-1)) op ks kv).bind (fun y13z => (FX12_puts fu (2 : Int32) (260 : Int32) y13z.1 y13z.2.2.2.2.2.2.1 y13z.2.2.2.2.2.2.2.2.2.1 y13z.2.2.2.2.2.2.2.2.2.2).bind (fun y14z => some (y14z.1, y13z.2.1, y13z.2.2.1, y13z.2.2.2.1, y13z.2.2.2.2.1, y13z.2.2.2.2.2.1, y13z.2.2.2.2.2.2.1, y13z.2.2.2.2.2.2.2.1, y13z.2.2.2.2.2.2.2.2.1, y14z.2.1, y14z.2.2))))) = binB fu (FX12E fu len tape n) len tape 2 260 (fun a b c d e g fa fp i ks kv => some (a, b, c, d, e, g, fa, fp, i, ks, kv)) sums cnt nx pl rs rv 0 (-1) op ks kv := rfl
    rw [hJ]
    obtain ⟨v1, v2⟩ := tok_v4 htok
    obtain ⟨f, rfl⟩ : ∃ g, f = g + 1 + 1 := ⟨f - 2, by omega⟩
    have hck : ¬ ck = 0 := by rw [a3]; decide
    have ha19 : fX7_atSign_r (-19) ck cv = 0 := by
      unfold fX7_atSign_r
      rw [if_pos (show ¬ ck = 4 by rw [a3]; decide)]
    obtain ⟨o1, o2⟩ := ro_not (fu := fu) (g := 0) (wt := wt) (op := op) (ph := ph) (ck := ck) (cv := cv) (pl := pl) (W := W) (cnt := cnt) (wr := wr) (K := K) (pls := pls) hph0 ha19 (by rw [h486, a1]; decide) (n := s.length) (by omega) (fun _ => by omega)
    have hph23 : ¬ ph = 2 ∧ ¬ ph = 3 := by rw [hph0]; decide
    have r6 : rk (-6) = 3 := by decide
    by_cases c64 : cnt.toInt < 64
    · have hro := o1 c64
      obtain ⟨nx2, ck2, cv2, pl2, rs2, rv2, q2, e2, j1, j2, j3, j4⟩ := tok_adv (f := f + 1) hfu hT hlen hL htok hck
      have hC := it_op (fu := fu) (len := len) (bytes := bytes) (f := f + 1) hph23.1 hph23.2 v1 hro (by decide) j1
      have hct := i_add cnt 1 (by omega) (by omega)
      have hwt1 := i_add wt 1 (by omega) (by omega)
      have hpile2 : pileOk (KnE ks kv) (upd W s.length (-6)) (wt + 1) op (cnt + 1) wr K pls (-6 :: s) [] w := by
        refine ⟨?_, by omega, p3, ?_, by omega, ?_, ?_, p8, p9, trivial⟩
        · rw [List.nil_append, show (wt + 1).toInt.toNat = s.length + 1 by omega]
          rw [hlen'] at p1
          exact pile_push p1 (-6)
        · rw [nsg, if_neg (by decide), List.length_nil]; omega
        · rw [nop, if_neg (by decide)]; omega
        · rw [nop, if_neg (by decide)]; omega
      have key := step_push hfu (t := 2) (by omega) hLR2 (C := CE fu 0 len bytes (f + 1 + 1) v4 wt op ph nx ck cv pl W cnt wr K pls) (s := s) (w := w) (q := q) (op := op) (cnt0 := cnt) (K0 := K) (ks := ks) (kv := kv) (sums1 := sums) (cnt1 := cnt) (nx1 := nx) (pl1 := pl) (rs1 := rs) (rv1 := rv) (ks1 := ks) (kv1 := kv) (-6) 260 (Or.inr (Or.inr (Or.inl ⟨rfl, rfl, rfl⟩))) 3 3 (by rw [r6]; omega) (by decide) (fun P ck cv rs rv ht hP he => end_up (by decide) P (-6) ck cv he) (frm_refl _ _ _) (by omega) (by omega) c64 hC j2 j3 j4 hpile2 hsums (Nat.le_refl _) (fun i hi => rfl) (by show rk (-6) < 4; rw [r6]; omega) (Or.inl ⟨rfl, fun z => by omega⟩) (by unfold dep at hdep ⊢; omega) (fun K' w' P he hn => net_not hn) (fun a b c d e g fa fp i ks kv => some (a, b, c, d, e, g, fa, fp, i, ks, kv))
      rcases key with ⟨a1, a2, a3, a4, a5, a6, a7, a8, z1, z2, z3⟩ | ⟨a1, a2, a3, a4, a5, a6, fa, fp, op', a7, a8, z1, z2, z3, z4⟩
      · exact Or.inl ⟨a1, a2, a3, a4, a5, a6, a7, a8, z1, z2⟩
      · exact Or.inr ⟨a1, a2, a3, a4, a5, a6, fa, fp, op', a7, a8, z1, z2, z3, z4⟩
    · obtain ⟨c', hro⟩ := o2 (by omega)
      have hn6 : 6 ≤ n + 2 := by unfold dep at hdep; omega
      rw [step_full hfu (by omega) hn6 260 (by omega)]
      exact Or.inr ⟨_, _, _, _, _, _, 2, pl, _, _, _, rfl, by decide, it_op_fail hph23.1 hph23.2 v1 hro, frm_refl _ _ _⟩
theorem lev_all (hfu : 10000 ≤ fu) (hT : tapeR bytes tape) (hlen : len.toInt = L) (hL : L ≤ 600) : ∀ (n τ : Nat), τ ≤ 5 → LR fu len bytes tape L n τ := by
  intro n
  induction n with
  | zero =>
    intro τ hτ f v4 wt op ph nx ck cv pl W cnt wr K pls s sums rs rv ks kv q e w htok hpile hsums htop hph hdep
    obtain ⟨p1, p2, p3, p4, p5, p6, p7, p8, p9, p10⟩ := hpile
    unfold dep at hdep
    omega
  | succ n ih =>
    intro τ hτ
    have hc : τ = 0 ∨ τ = 1 ∨ τ = 2 ∨ τ = 3 ∨ τ = 4 ∨ τ = 5 := by omega
    rcases hc with rfl | rfl | rfl | rfl | rfl | rfl
    · exact lev0 hfu hT hlen hL (ih 1 (by omega))
    · exact lev1 hfu hT hlen hL (ih 2 (by omega))
    · exact lev2 hfu hT hlen hL (ih 2 (by omega)) (ih 3 (by omega))
    · exact lev3 hfu hT hlen hL (ih 4 (by omega))
    · exact lev4 hfu hT hlen hL (ih 5 (by omega))
    · exact lev5 hfu hT hlen hL (ih 0 (by omega))
end
