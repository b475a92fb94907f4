/-! ===== sums, products, operands ===== -/
section
variable {fu : Nat} {len : Int32} {bytes tape : Nat → Int32} {L : Nat} {n : Nat} {C : Option (Int32 × Nat × Int32 × Int32 × Int32 × Int32 × Int32 × Int32 × Int32 × Int32 × Int32 × Int32 × (Nat → Int32) × Int32 × Int32 × (Nat → Int32) × (Nat → Int32))} {s : List Int32} {w q : Nat} {op cnt : Int32} {K ks kv : Nat → Int32}
theorem isS_of {c r rs rv ck cv : Int32} (hs : sgR c r) (ht : tokR ck cv rs rv) (h1 : ck = 4) (h2 : cv = c) : fX12_isSign_r r rs rv 0 = 1 := by
  rcases atS ht hs with ⟨a1, a2, a3⟩ | ⟨a1, a2, a3⟩
  · exact absurd ⟨h1, h2⟩ a3
  · exact a2
theorem sum_loop (hfu : 10000 ≤ fu) (hT : tapeR bytes tape) (hlen : len.toInt = L) (hL : L ≤ 600) (hc0 : cnt.toInt ≤ 64) (hc0' : 0 ≤ cnt.toInt) (hLR : LR fu len bytes tape L n 4) (hs : topLt 5 s) (hdep : dep 4 op cnt n) : ∀ (m f : Nat) (sums1 cnt1 nx1 pl1 rs1 rv1 : Int32) (ks1 kv1 : Nat → Int32), (L : Int) < pl1.toInt + m → m < f → Fin fu len bytes L 5 6 C s w q op cnt K ks kv sums1 cnt1 nx1 pl1 rs1 rv1 ks1 kv1 → OutE fu len bytes L 5 5 (FX12_sum_L fu (FX12E fu len tape n) len tape f sums1 cnt1 nx1 pl1 rs1 rv1 0 (-1) op ks1 kv1) C s w q op cnt K ks kv := by
  have r15 : rk (-15) = 5 := by decide
  have r16 : rk (-16) = 5 := by decide
  have s15 : sgR (-15) 43 := by unfold sgR; decide
  have s16 : sgR (-16) 45 := by unfold sgR; decide
  intro m
  induction m with
  | zero =>
    intro f sums1 cnt1 nx1 pl1 rs1 rv1 ks1 kv1 hm hf hF
    have := (fin_tok hF).2
    omega
  | succ m ih =>
    intro f sums1 cnt1 nx1 pl1 rs1 rv1 ks1 kv1 hm hf hF
    obtain ⟨f, rfl⟩ : ∃ g, f = g + 1 := ⟨f - 1, by omega⟩
    have one : ∀ (sg r : Int32), rk sg = 5 → sgR sg r → kBin sg r → ¬ sg = -20 → phS sg = 1 → ¬ fX12_isSign_r r rs1 rv1 0 = 0 → OutE fu len bytes L 5 5 (binB fu (FX12E fu len tape n) len tape 4 rv1 (fun a b c d e g fa fp i ks kv => FX12_sum_L fu (FX12E fu len tape n) len tape f a b c d e g fa fp i ks kv) sums1 cnt1 nx1 pl1 rs1 rv1 0 (-1) op ks1 kv1) C s w q op cnt K ks kv := by
      intro sg r hr hsr hkb hne hp hi
      obtain ⟨hrv, ht⟩ := sign_test hsr hne hi
      have key := step_bin hfu hT hlen hL (t := 4) (by omega) hLR sg rv1 (Or.inr (Or.inr (Or.inr ⟨rfl, by rw [hrv]; exact hkb⟩))) 5 6 5 6 (Or.inr (Or.inr (Or.inr (Or.inl hr)))) (by omega) ⟨by omega, fun z => by omega⟩ (by decide) (fun P ck cv rs rv _ _ he => end_up (by decide) P sg ck cv he) hF ht (by rw [hr]; exact hs) (by rw [hr]; decide) (fun ck cv => Or.inr ⟨hp, by omega⟩) hdep hc0 hc0' (fun a b c d e g fa fp i ks kv => FX12_sum_L fu (FX12E fu len tape n) len tape f a b c d e g fa fp i ks kv)
      rcases key with ⟨a1, a2, a3, a4, a5, a6, a7, a8, z1, z2, z3⟩ | ⟨a1, a2, a3, a4, a5, a6, fa, fp, op', a7, a8, z1, z2, z3, z4⟩
      · rw [z1]
        exact ih f a1 a2 a3 a4 a5 a6 a7 a8 (by omega) (by omega) z2
      · obtain ⟨f, rfl⟩ : ∃ g, f = g + 1 := ⟨f - 1, by omega⟩
        have hl := (L_fault (fu := fu) (len := len) (tape := tape) z2 (FX12E fu len tape n) f a1 a2 a3 a4 a5 a6 fp op' a7 a8).2.2.1
        exact Or.inr ⟨a1, a2, a3, a4, a5, a6, fa, fp, op', a7, a8, z1.trans hl, z2, z3, z4⟩
    rw [FX12_sum_L]
    by_cases c : fX12_isSign_r 43 rs1 rv1 0 = 0
    · rw [if_neg (show ¬ ¬ _ = (0 : Int32) from fun z => z c)]
      by_cases c2 : fX12_isSign_r 45 rs1 rv1 0 = 0
      · rw [if_pos c2]
        refine Or.inl ⟨_, _, _, _, _, _, _, _, rfl, fin_weak hF (by omega) (fun P ck cv ht hP he => ?_)⟩
        rcases he with z | z
        · left
          rcases sh_cases ht with ⟨a, -⟩ | ⟨a, -⟩ | ⟨a0, a, a2, b⟩ | ⟨a, -⟩
          · rw [a, rk_m8]; decide
          · rw [a, rk_m7]; decide
          · rw [a] at z ⊢
            rcases rk_sg b with ⟨y, -⟩ | ⟨y, y2, -⟩ | ⟨y, -⟩ | ⟨y, -⟩
            · omega
            · exfalso
              rcases y2 with y2 | y2
              · have e := (sg_uni b s15).mpr y2
                rw [isS_of s15 ht a0 e] at c
                exact absurd c (by decide)
              · have e := (sg_uni b s16).mpr y2
                rw [isS_of s16 ht a0 e] at c2
                exact absurd c2 (by decide)
            · omega
            · omega
          · rw [a, rk_no]; decide
        · exact Or.inr z
      · rw [if_neg c2]
        exact one (-16) 45 r16 s16 (by unfold kBin; decide) (by decide) (by decide) c2
    · rw [if_pos c]
      exact one (-15) 43 r15 s15 (by unfold kBin; decide) (by decide) (by decide) c
theorem product_loop (hfu : 10000 ≤ fu) (hT : tapeR bytes tape) (hlen : len.toInt = L) (hL : L ≤ 600) (hc0 : cnt.toInt ≤ 64) (hc0' : 0 ≤ cnt.toInt) (hLR : LR fu len bytes tape L n 5) (hs : topLt 6 s) (hdep : dep 5 op cnt n) : ∀ (m f : Nat) (sums1 cnt1 nx1 pl1 rs1 rv1 : Int32) (ks1 kv1 : Nat → Int32), (L : Int) < pl1.toInt + m → m < f → Fin fu len bytes L 6 7 C s w q op cnt K ks kv sums1 cnt1 nx1 pl1 rs1 rv1 ks1 kv1 → OutE fu len bytes L 6 6 (FX12_product_L fu (FX12E fu len tape n) len tape f sums1 cnt1 nx1 pl1 rs1 rv1 0 (-1) op ks1 kv1) C s w q op cnt K ks kv := by
  have r17 : rk (-17) = 6 := by decide
  have r18 : rk (-18) = 6 := by decide
  have s17 : sgR (-17) 42 := by unfold sgR; decide
  have s18 : sgR (-18) 47 := by unfold sgR; decide
  intro m
  induction m with
  | zero =>
    intro f sums1 cnt1 nx1 pl1 rs1 rv1 ks1 kv1 hm hf hF
    have := (fin_tok hF).2
    omega
  | succ m ih =>
    intro f sums1 cnt1 nx1 pl1 rs1 rv1 ks1 kv1 hm hf hF
    obtain ⟨f, rfl⟩ : ∃ g, f = g + 1 := ⟨f - 1, by omega⟩
    have one : ∀ (sg r : Int32), rk sg = 6 → sgR sg r → kBin sg r → ¬ sg = -20 → phS sg = 1 → ¬ fX12_isSign_r r rs1 rv1 0 = 0 → OutE fu len bytes L 6 6 (binB fu (FX12E fu len tape n) len tape 5 rv1 (fun a b c d e g fa fp i ks kv => FX12_product_L fu (FX12E fu len tape n) len tape f a b c d e g fa fp i ks kv) sums1 cnt1 nx1 pl1 rs1 rv1 0 (-1) op ks1 kv1) C s w q op cnt K ks kv := by
      intro sg r hr hsr hkb hne hp hi
      obtain ⟨hrv, ht⟩ := sign_test hsr hne hi
      have key := step_bin hfu hT hlen hL (t := 5) (by omega) hLR sg rv1 (Or.inr (Or.inr (Or.inr ⟨rfl, by rw [hrv]; exact hkb⟩))) 6 7 6 7 (Or.inr (Or.inr (Or.inr (Or.inr hr)))) (by omega) ⟨by omega, fun z => by omega⟩ (by decide) (fun P ck cv rs rv _ _ he => end_up (by decide) P sg ck cv he) hF ht (by rw [hr]; exact hs) (by rw [hr]; decide) (fun ck cv => Or.inr ⟨hp, by omega⟩) hdep hc0 hc0' (fun a b c d e g fa fp i ks kv => FX12_product_L fu (FX12E fu len tape n) len tape f a b c d e g fa fp i ks kv)
      rcases key with ⟨a1, a2, a3, a4, a5, a6, a7, a8, z1, z2, z3⟩ | ⟨a1, a2, a3, a4, a5, a6, fa, fp, op', a7, a8, z1, z2, z3, z4⟩
      · rw [z1]
        exact ih f a1 a2 a3 a4 a5 a6 a7 a8 (by omega) (by omega) z2
      · obtain ⟨f, rfl⟩ : ∃ g, f = g + 1 := ⟨f - 1, by omega⟩
        have hl := (L_fault (fu := fu) (len := len) (tape := tape) z2 (FX12E fu len tape n) f a1 a2 a3 a4 a5 a6 fp op' a7 a8).2.2.2
        exact Or.inr ⟨a1, a2, a3, a4, a5, a6, fa, fp, op', a7, a8, z1.trans hl, z2, z3, z4⟩
    rw [FX12_product_L]
    by_cases c : fX12_isSign_r 42 rs1 rv1 0 = 0
    · rw [if_neg (show ¬ ¬ _ = (0 : Int32) from fun z => z c)]
      by_cases c2 : fX12_isSign_r 47 rs1 rv1 0 = 0
      · rw [if_pos c2]
        refine Or.inl ⟨_, _, _, _, _, _, _, _, rfl, fin_weak hF (by omega) (fun P ck cv ht hP he => ?_)⟩
        rcases he with z | z
        · left
          rcases sh_cases ht with ⟨a, -⟩ | ⟨a, -⟩ | ⟨a0, a, a2, b⟩ | ⟨a, -⟩
          · rw [a, rk_m8]; decide
          · rw [a, rk_m7]; decide
          · rw [a] at z ⊢
            rcases rk_sg b with ⟨y, -⟩ | ⟨y, -⟩ | ⟨y, y2, -⟩ | ⟨y, -⟩
            · omega
            · omega
            · exfalso
              rcases y2 with y2 | y2
              · have e := (sg_uni b s17).mpr y2
                rw [isS_of s17 ht a0 e] at c
                exact absurd c (by decide)
              · have e := (sg_uni b s18).mpr y2
                rw [isS_of s18 ht a0 e] at c2
                exact absurd c2 (by decide)
            · omega
          · rw [a, rk_no]; decide
        · exact Or.inr z
      · rw [if_neg c2]
        exact one (-18) 47 r18 s18 (by unfold kBin; decide) (by decide) (by decide) c2
    · rw [if_pos c]
      exact one (-17) 42 r17 s17 (by unfold kBin; decide) (by decide) (by decide) c
theorem j123_fault {fa : Int32} (h : ¬ fa = 0) (v1 sums cnt nx pl rs rv fp op : Int32) (ks kv : Nat → Int32) : FX12_primary_J123 fu len tape v1 sums cnt nx pl rs rv fa fp op ks kv = some (sums, cnt, nx, pl, rs, rv, fa, fp, op, ks, kv) := by
  obtain ⟨k1, k2, k3⟩ := knot_fault h cnt pl fp
  unfold FX12_primary_J123 FX12_primary_J137
  rw [k1, k2, k3, puts_fault h, puts_fault h, puts_fault h, puts_fault h, go_fault h]
  by_cases c : v1 = 0
  · rw [if_pos c, if_pos c]; rfl
  · rw [if_neg c, if_neg c]; rfl
theorem j123_full {cnt : Int32} (h : cnt.toInt = 64) (v1 sums nx pl rs rv op : Int32) (ks kv : Nat → Int32) : FX12_primary_J123 fu len tape v1 sums cnt nx pl rs rv 0 (-1) op ks kv = some (sums, cnt, nx, pl, rs, rv, 2, pl, op, ks, kv) := by
  obtain ⟨k1, k2, k3⟩ := knot_full h pl (-1)
  have h2 : ¬ (2 : Int32) = 0 := by decide
  unfold FX12_primary_J123 FX12_primary_J137
  rw [k1, k2, k3, puts_fault h2, puts_fault h2, puts_fault h2, puts_fault h2, go_fault h2]
  by_cases c : v1 = 0
  · rw [if_pos c, if_pos c]; rfl
  · rw [if_neg c, if_neg c]; rfl
theorem j123_ok {cnt : Int32} (h : cnt.toInt < 64) (v1 sums nx pl rs rv op : Int32) (ks kv : Nat → Int32) {w : Nat} (hw : sums.toInt = w) (hw' : w < 64) {a b c d : Int32} (hn : FX12_next fu len nx pl rs rv tape = some (a, b, c, d)) : FX12_primary_J123 fu len tape v1 sums cnt nx pl rs rv 0 (-1) op ks kv = some (sums + 1, cnt + 1, a, b, c, d, 0, -1, op, upd ks (128 + w) (if v1 = 0 then 1 else 0), upd kv (128 + w) (if v1 = 0 then rv - 7 else rv)) := by
  obtain ⟨k1, k2, k3⟩ := knot_ok h pl (-1)
  unfold FX12_primary_J123 FX12_primary_J137
  rw [k1, k2, k3, puts_ok _ _ sums ks kv hw hw', puts_ok _ _ sums ks kv hw hw', puts_ok _ _ sums ks kv hw hw', puts_ok _ _ sums ks kv hw hw', go_ok hn]
  by_cases c : v1 = 0
  · rw [if_pos c, if_pos c, if_pos c, if_pos c]; rfl
  · rw [if_neg c, if_neg c, if_neg c, if_neg c]; rfl
/-- an operand that is no '(' -/
theorem prim_val (hfu : 10000 ≤ fu) (hT : tapeR bytes tape) (hlen : len.toInt = L) (hL : L ≤ 600) {f : Nat} {v4 wt ph nx ck cv pl : Int32} {W : Nat → Int32} {wr : Int32} {pls : Nat → Int32} {sums rs rv : Int32} {e : Nat} (htok : tokS L f v4 nx ck cv pl rs rv q e) (hpile : pileOk (KnE ks kv) W wt op cnt wr K pls s [] w) (hsums : sums.toInt = w) (hph : phOk 5 ph ck cv) (hno : fX12_isSign_r 40 rs rv 0 = 0) : OutE fu len bytes L 7 7 (FX12_primary fu (FX12E fu len tape n) sums cnt len nx pl rs rv 0 (-1) op tape ks kv) (CE fu 0 len bytes f v4 wt op ph nx ck cv pl W cnt wr K pls) s w q op cnt K ks kv := by
  have q1 := t_1
  have t9 : (9999 : Int32).toInt = 9999 := rfl
  obtain ⟨v1, v2⟩ := tok_v4 htok
  obtain ⟨f, rfl⟩ : ∃ g, f = g + 1 + 1 := ⟨f - 2, by omega⟩
  have ht := htok.2.2.2.2.2.2.2.2
  have ha19 : fX7_atSign_r (-19) ck cv = 0 := by
    rcases atS ht (c := -19) (r := 40) (by unfold sgR; decide) with ⟨a1, a2, a3⟩ | ⟨a1, a2, a3⟩
    · exact a1
    · rw [a2] at hno; exact absurd hno (by decide)
  have hph23 : ¬ ph = 2 ∧ ¬ ph = 3 := by
    rcases hph with ⟨z, -⟩ | ⟨z, -⟩ <;> (subst z; decide)
  have hnot : ¬ ph = 0 ∨ fX7_atWord_r 486146048 ck cv = 0 := by
    rcases hph with ⟨-, z⟩ | ⟨z, -⟩
    · exact Or.inr (z (by omega))
    · exact Or.inl (by rw [z]; decide)
  obtain ⟨r1, r2, r3, r4⟩ := ro_val (fu := fu) (g := 0) (wt := wt) (op := op) (ph := ph) (ck := ck) (cv := cv) (pl := pl) (W := W) (cnt := cnt) (wr := wr) (K := K) (pls := pls) ha19 hnot
  obtain ⟨p1, p2, p3, p4, p5, p6, p7, p8, p9, p10⟩ := id hpile
  rw [List.length_nil] at p4
  have failC : ∀ fa fp wt' op' ph' W' c' wr' K' pls', FX7_readOperand fu 0 wt op ph 0 (-1) ck cv pl W cnt wr K pls = some (0, wt', op', ph', fa, fp, W', c', wr', K', pls') → CFail 0 (CE fu 0 len bytes (f + 1 + 1) v4 wt op ph nx ck cv pl W cnt wr K pls) fa fp := fun fa fp wt' op' ph' W' c' wr' K' pls' h => it_op_fail hph23.1 hph23.2 v1 h
  -- the good operand
  have good : ∀ (o v : Int32), opr 0 ck cv = o → -5 ≤ o → ¬ o = -2147483648 → ¬ (ck = 3 ∧ 9999 < o) → ¬ ck = 0 → kRel o (if v = 0 then 1 else 0) (if v = 0 then rv - 7 else rv) → FX12_primary fu (FX12E fu len tape n) sums cnt len nx pl rs rv 0 (-1) op tape ks kv = FX12_primary_J123 fu len tape v sums cnt nx pl rs rv 0 (-1) op ks kv → OutE fu len bytes L 7 7 (FX12_primary fu (FX12E fu len tape n) sums cnt len nx pl rs rv 0 (-1) op tape ks kv) (CE fu 0 len bytes (f + 1 + 1) v4 wt op ph nx ck cv pl W cnt wr K pls) s w q op cnt K ks kv := by
    intro o v ho h5 hn hg hck hrel he
    rw [he]
    by_cases c64 : cnt.toInt < 64
    · have hw64 : w < 64 := by omega
      have hro := r4 (by rw [ho]; exact hn) (by rw [ho]; exact hg) c64 w p3 hw64
      rw [ho] at hro
      obtain ⟨nx', ck', cv', pl', rs', rv', q', e', j1, j2, j3, j4⟩ := tok_adv (f := f + 1) hfu hT hlen hL htok hck
      have hc1 := i_add cnt 1 (by omega) (by omega)
      have hw1 := i_add wr 1 (by omega) (by omega)
      have hs1 := i_add sums 1 (by omega) (by omega)
      rw [j123_ok c64 v sums nx pl rs rv op ks kv hsums hw64 j2]
      refine Or.inl ⟨_, _, _, _, _, _, _, _, rfl, ?_⟩
      have hupd : ∀ i, i < w → upd ks (128 + w) (if v = 0 then 1 else 0) (128 + i) = ks (128 + i) ∧ upd kv (128 + w) (if v = 0 then rv - 7 else rv) (128 + i) = kv (128 + i) := fun i hi => ⟨up_ne ks _ (by omega), up_ne kv _ (by omega)⟩
      refine ⟨f + 1, v4 + (-1), wt, ck', cv', W, wr + 1, upd K w o, upd pls w pl, [], q', e', w + 1, it_op hph23.1 hph23.2 v1 hro (by decide) j1, j3, j4, ⟨p1, p2, by omega, ?_, by omega, p6, p7, p8, ?_, trivial⟩, by rw [List.length_nil]; omega, fun c hc => absurd hc (List.not_mem_nil), Or.inl (by have := (rk_rng (fX7_signHere_r 0 ck' cv')).2; omega), by omega, fun i hi => up_ne K o (by omega), fun x hx => ⟨up_ne ks _ (by omega), up_ne kv _ (by omega)⟩, net_one K w o h5, by omega⟩
      · rw [List.length_nil]; omega
      · intro i hi
        by_cases g : i = w
        · subst g
          show kRel _ _ _
          rw [up_eq, up_eq, up_eq]
          exact hrel
        · obtain ⟨u1, u2⟩ := hupd i (by omega)
          show kRel _ _ _
          rw [u1, u2, up_ne K o g]
          exact p9 i (by omega)
    · rw [j123_full (by omega) v sums nx pl rs rv op ks kv]
      obtain ⟨c', hro⟩ := r3 (by rw [ho]; exact hn) (by rw [ho]; exact hg) (by omega)
      exact Or.inr ⟨_, _, _, _, _, _, 2, pl, _, _, _, rfl, by decide, failC _ _ _ _ _ _ _ _ _ _ hro, frm_refl _ _ _⟩
  -- no operand at all
  have bad : opr 0 ck cv = -2147483648 → FX12_primary fu (FX12E fu len tape n) sums cnt len nx pl rs rv 0 (-1) op tape ks kv = FX12_primary_J118 fu len tape 0 sums cnt nx pl rs rv 0 (-1) op ks kv → OutE fu len bytes L 7 7 (FX12_primary fu (FX12E fu len tape n) sums cnt len nx pl rs rv 0 (-1) op tape ks kv) (CE fu 0 len bytes (f + 1 + 1) v4 wt op ph nx ck cv pl W cnt wr K pls) s w q op cnt K ks kv := by
    intro ho he
    rw [he]
    have e1 : FX12_primary_J118 fu len tape 0 sums cnt nx pl rs rv 0 (-1) op ks kv = FX12_primary_J123 fu len tape 0 sums cnt nx pl rs rv 1 pl op ks kv := rfl
    rw [e1, j123_fault (show ¬ (1 : Int32) = 0 by decide)]
    exact Or.inr ⟨_, _, _, _, _, _, 1, pl, _, _, _, rfl, by decide, failC _ _ _ _ _ _ _ _ _ _ (r1 ho), frm_refl _ _ _⟩
  have hprim : FX12_primary fu (FX12E fu len tape n) sums cnt len nx pl rs rv 0 (-1) op tape ks kv = (if ¬ rs = 2 then (FX12_primary_J75 fu len tape (0 : Int32) sums cnt nx pl rs rv 0 (-1) op ks kv) else (FX12_primary_J75 fu len tape (1 : Int32) sums cnt nx pl rs rv 0 (-1) op ks kv)) := by
    unfold FX12_primary
    rw [if_pos rfl, if_pos hno]
  have h75 : FX12_primary_J75 fu len tape 0 sums cnt nx pl rs rv 0 (-1) op ks kv = (if ¬ rs = 0 then (FX12_primary_J118 fu len tape 0 sums cnt nx pl rs rv 0 (-1) op ks kv) else (if 7 ≤ rv then (FX12_primary_J123 fu len tape 0 sums cnt nx pl rs rv 0 (-1) op ks kv) else (FX12_primary_J118 fu len tape 0 sums cnt nx pl rs rv 0 (-1) op ks kv))) := by
    unfold FX12_primary_J75 FX12_primary_J98
    rw [if_pos rfl, if_neg (show ¬ ¬ (0 : Int32) = 0 by decide)]
  have hnoth : ∀ c, ¬ c = 3 → ¬ c = 1 → opr 0 c cv = -2147483648 := by
    intro c h3 h1
    unfold opr fX7_valueHere_r
    rw [if_pos rfl, if_pos h3, if_pos h1]
    decide
  rcases ht with ⟨h1, h2, h3⟩ | ⟨h1, h2, i, i1, i2, i3⟩ | ⟨h1, h2, h3⟩ | ⟨h1, h2, h3⟩ | ⟨h1, h2, h3⟩ | ⟨h1, h2⟩
  · refine bad (hnoth ck (by rw [h1]; decide) (by rw [h1]; decide)) ?_
    rw [hprim, if_pos (show ¬ rs = 2 by rw [h3]; decide), h75, if_pos (show ¬ rs = 0 by rw [h3]; decide)]
  · have hp2 : FX12_primary fu (FX12E fu len tape n) sums cnt len nx pl rs rv 0 (-1) op tape ks kv = (if 7 ≤ rv then (FX12_primary_J123 fu len tape 0 sums cnt nx pl rs rv 0 (-1) op ks kv) else (FX12_primary_J118 fu len tape 0 sums cnt nx pl rs rv 0 (-1) op ks kv)) := by
      rw [hprim, if_pos (show ¬ rs = 2 by rw [h2]; decide), h75, if_neg (show ¬ ¬ rs = 0 from fun z => z h2)]
    have hc : i = 0 ∨ i = 1 ∨ i = 2 ∨ i = 3 ∨ i = 4 ∨ i = 5 ∨ i = 6 ∨ i = 7 ∨ i = 8 ∨ i = 9 ∨ i = 10 ∨ i = 11 := by omega
    have bad' : opr 0 1 (wcode i) = -2147483648 → ¬ (7 : Int32) ≤ Int32.ofNat i → OutE fu len bytes L 7 7 (FX12_primary fu (FX12E fu len tape n) sums cnt len nx pl rs rv 0 (-1) op tape ks kv) (CE fu 0 len bytes (f + 1 + 1) v4 wt op ph nx ck cv pl W cnt wr K pls) s w q op cnt K ks kv := by
      intro z1 z2
      refine bad (by rw [h1, i2]; exact z1) ?_
      rw [hp2, i3, if_neg z2]
    have good' : ∀ o, opr 0 1 (wcode i) = o → -5 ≤ o → ¬ o = -2147483648 → (7 : Int32) ≤ Int32.ofNat i → kRel o 1 (Int32.ofNat i - 7) → OutE fu len bytes L 7 7 (FX12_primary fu (FX12E fu len tape n) sums cnt len nx pl rs rv 0 (-1) op tape ks kv) (CE fu 0 len bytes (f + 1 + 1) v4 wt op ph nx ck cv pl W cnt wr K pls) s w q op cnt K ks kv := by
      intro o z1 z2 z3 z4 z5
      refine good o 0 (by rw [h1, i2]; exact z1) z2 z3 (fun z => by rw [h1] at z; exact absurd z.1 (by decide)) (by rw [h1]; decide) (by rw [if_pos rfl, if_pos rfl, i3]; exact z5) ?_
      rw [hp2, i3, if_pos z4]
    rcases hc with rfl | rfl | rfl | rfl | rfl | rfl | rfl | rfl | rfl | rfl | rfl | rfl
    · exact bad' (by decide) (by decide)
    · exact bad' (by decide) (by decide)
    · exact bad' (by decide) (by decide)
    · exact bad' (by decide) (by decide)
    · exact bad' (by decide) (by decide)
    · exact bad' (by decide) (by decide)
    · exact bad' (by decide) (by decide)
    · exact good' (-5) (by decide) (by decide) (by decide) (by decide) (Or.inr (Or.inl ⟨rfl, Or.inl ⟨by decide, rfl⟩⟩))
    · exact good' (-4) (by decide) (by decide) (by decide) (by decide) (Or.inr (Or.inl ⟨rfl, Or.inr (Or.inl ⟨by decide, rfl⟩)⟩))
    · exact good' (-1) (by decide) (by decide) (by decide) (by decide) (Or.inr (Or.inl ⟨rfl, Or.inr (Or.inr (Or.inl ⟨by decide, rfl⟩))⟩))
    · exact good' (-2) (by decide) (by decide) (by decide) (by decide) (Or.inr (Or.inl ⟨rfl, Or.inr (Or.inr (Or.inr (Or.inl ⟨by decide, rfl⟩)))⟩))
    · exact good' (-3) (by decide) (by decide) (by decide) (by decide) (Or.inr (Or.inl ⟨rfl, Or.inr (Or.inr (Or.inr (Or.inr ⟨by decide, rfl⟩)))⟩))
  · refine bad (hnoth ck (by rw [h1]; decide) (by rw [h1]; decide)) ?_
    rw [hprim, if_pos (show ¬ rs = 2 by rw [h2]; decide), h75, if_pos (show ¬ rs = 0 by rw [h2]; decide)]
  · have ho : opr 0 ck cv = cv := by
      unfold opr fX7_valueHere_r
      rw [if_pos rfl, if_neg (show ¬ ¬ ck = 3 from fun z => z h1)]
    have hp2 : FX12_primary fu (FX12E fu len tape n) sums cnt len nx pl rs rv 0 (-1) op tape ks kv = (if rv ≤ 9999 then (FX12_primary_J123 fu len tape 1 sums cnt nx pl rs rv 0 (-1) op ks kv) else (FX12_primary_J123 fu len tape 1 sums cnt nx pl rs rv 2 pl op ks kv)) := by
      rw [hprim, if_neg (show ¬ ¬ rs = 2 from fun z => z h2)]
      unfold FX12_primary_J75 FX12_primary_J98
      rw [if_neg (show ¬ (1 : Int32) = 0 by decide), if_pos (show ¬ (1 : Int32) = 0 by decide)]
      rfl
    rcases h3 with ⟨z1, z2, z3⟩ | ⟨z1, z2, z3⟩
    · refine good cv 1 ho (by rw [i_le, t_m5]; omega) (fun z => by rw [z] at z2; exact absurd z2 (by decide)) (fun z => by have := z.2; rw [i_lt] at this; omega) (by rw [h1]; decide) ?_ ?_
      · rw [if_neg (show ¬ (1 : Int32) = 0 by decide), if_neg (show ¬ (1 : Int32) = 0 by decide)]
        exact Or.inl ⟨rfl, z1, by rw [← z1]; omega, by rw [← z1]; omega⟩
      · rw [hp2, if_pos (show rv ≤ 9999 by rw [i_le, ← z1]; omega)]
    · rw [hp2, if_neg (show ¬ rv ≤ 9999 by rw [i_le]; omega), j123_fault (show ¬ (2 : Int32) = 0 by decide)]
      have hro := r2 (by rw [ho, z1]; decide) h1 (by rw [ho, z1]; decide)
      exact Or.inr ⟨_, _, _, _, _, _, 2, pl, _, _, _, rfl, by decide, failC _ _ _ _ _ _ _ _ _ _ hro, frm_refl _ _ _⟩
  · refine bad (hnoth ck (by rw [h1]; decide) (by rw [h1]; decide)) ?_
    rw [hprim, if_pos (show ¬ rs = 2 by rw [h2]; decide), h75, if_pos (show ¬ rs = 0 by rw [h2]; decide)]
  · refine bad (hnoth ck (by rw [h1]; decide) (by rw [h1]; decide)) ?_
    rw [hprim, if_pos (show ¬ rs = 2 by rw [h2]; decide), h75, if_pos (show ¬ rs = 0 by rw [h2]; decide)]
end
