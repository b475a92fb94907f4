/-! ===== B: all levels ===== -/
section
variable {fu : Nat} {len : Int32} {bytes tape : Nat → Int32} {L : Nat} {n : Nat}
theorem finB_weak {rP rE rP' rE' : Int} {C : Option (Int32 × Nat × Int32 × Int32 × Int32 × Int32 × Int32 × Int32 × Int32 × Int32 × Int32 × Int32 × (Nat → Int32) × Int32 × Int32 × (Nat → Int32) × (Nat → Int32))} {s : List Int32} {w q : Nat} {op cnt : Int32} {K ks kv kp : Nat → Int32} {a b c d e g : Int32} {ks' kv' kp' : Nat → Int32} (h : FinB fu len bytes L rP rE C s w q op cnt K ks kv kp a b c d e g ks' kv' kp') (hP : rP' ≤ rP) (hE : ∀ ck cv, tokR ck cv e g → endB rE ck cv → endB rE' ck cv) : FinB fu len bytes L rP' rE' C s w q op cnt K ks kv kp a b c d e g ks' kv' kp' := by
  obtain ⟨f3, v43, wt3, ck3, cv3, W3, wr3, K3, pls3, P, q3, e3, w3, b1, b2, b3, b4, b5, b6, b7, b8⟩ := h
  exact ⟨f3, v43, wt3, ck3, cv3, W3, wr3, K3, pls3, P, q3, e3, w3, b1, b2, b3, b4, b5, fun c hc => by have := b6 c hc; omega, hE ck3 cv3 b2.2.2.2.2.2.2.2.2 b7, b8⟩
theorem finB_tok {rP rE : Int} {C : Option (Int32 × Nat × Int32 × Int32 × Int32 × Int32 × Int32 × Int32 × Int32 × Int32 × Int32 × Int32 × (Nat → Int32) × Int32 × Int32 × (Nat → Int32) × (Nat → Int32))} {s : List Int32} {w q : Nat} {op cnt : Int32} {K ks kv kp : Nat → Int32} {a b c d e g : Int32} {ks' kv' kp' : Nat → Int32} (h : FinB fu len bytes L rP rE C s w q op cnt K ks kv kp a b c d e g ks' kv' kp') : 0 ≤ d.toInt ∧ d.toInt ≤ L := by
  obtain ⟨f3, v43, wt3, ck3, cv3, W3, wr3, K3, pls3, P, q3, e3, w3, b1, b2, b3⟩ := h
  obtain ⟨h1, h2, h3, h4, h5, h6, h7, h8, h9⟩ := b2
  exact ⟨by omega, by omega⟩
theorem wordB_test {i : Nat} (hi : i < 12) (hi2 : i = 4 ∨ i = 5) {rs rv : Int32} (h : ¬ fX12_isWord_r (Int32.ofNat i) rs rv 0 = 0) : ∀ ck cv, tokR ck cv rs rv → fX7_signHere_r 1 ck cv = (if i = 4 then -7 else -8) ∧ fX7_atSign_r (-20) ck cv = 0 ∧ ¬ ck = 0 := by
  intro ck cv ht
  rcases atW ht hi with ⟨a1, a2, a3⟩ | ⟨a1, a2, a3, a4, a5, a6⟩
  · exact absurd a2 h
  · subst a3 a4
    rcases hi2 with rfl | rfl <;> decide
section
variable {C : Option (Int32 × Nat × Int32 × Int32 × Int32 × Int32 × Int32 × Int32 × Int32 × Int32 × Int32 × Int32 × (Nat → Int32) × Int32 × Int32 × (Nat → Int32) × (Nat → Int32))} {s : List Int32} {w q : Nat} {op cnt : Int32} {K ks kv kp : Nat → Int32}
theorem orB_loop (hfu : 10000 ≤ fu) (hT : tapeR bytes tape) (hlen : len.toInt = L) (hL : L ≤ 600) (hc0 : cnt.toInt ≤ 64) (hc0' : 0 ≤ cnt.toInt) (hLR : LB fu len bytes tape L n 1) (hs : topLt 1 s) (hdep : depB 1 op cnt n) : ∀ (m f : Nat) (sums1 cnt1 nx1 pl1 rs1 rv1 : Int32) (ks1 kv1 kp1 : Nat → Int32), (L : Int) < pl1.toInt + m → m < f → FinB fu len bytes L 1 2 C s w q op cnt K ks kv kp sums1 cnt1 nx1 pl1 rs1 rv1 ks1 kv1 kp1 → OutB fu len bytes L 1 1 (FX12_either_L fu (FX12B fu len tape n) len tape f sums1 cnt1 nx1 pl1 rs1 rv1 0 (-1) op ks1 kv1 kp1) C s w q op cnt K ks kv kp := by
  intro m
  induction m with
  | zero =>
    intro f sums1 cnt1 nx1 pl1 rs1 rv1 ks1 kv1 kp1 hm hf hF
    have := finB_tok hF
    omega
  | succ m ih =>
    intro f sums1 cnt1 nx1 pl1 rs1 rv1 ks1 kv1 kp1 hm hf hF
    obtain ⟨f, rfl⟩ : ∃ g, f = g + 1 := ⟨f - 1, by omega⟩
    rw [FX12_either_L]
    by_cases c : fX12_isWord_r 4 rs1 rv1 0 = 0
    · rw [if_pos c]
      refine Or.inl ⟨_, _, _, _, _, _, _, _, _, rfl, finB_weak hF (by omega) (fun ck cv ht he => ?_)⟩
      unfold endB at he ⊢
      rcases shB_cases ht with ⟨a, -⟩ | ⟨a, b1, b2⟩ | ⟨a, -⟩
      · rw [a, rk_m8] at he; omega
      · rcases atW ht (i := 4) (by omega) with ⟨u1, u2, u3⟩ | ⟨u1, u2, u3⟩
        · exact absurd ⟨b1, b2⟩ u3
        · have : fX12_isWord_r 4 rs1 rv1 0 = 1 := u2
          rw [this] at c; exact absurd c (by decide)
      · rw [a, rk_no]; decide
    · rw [if_neg c]
      have ht := wordB_test (i := 4) (by omega) (Or.inl rfl) c
      rw [if_pos rfl] at ht
      have key := stepB_bin hfu hT hlen hL (t := 1) (Or.inl rfl) hLR (-7) 262 (Or.inr ⟨rfl, rfl⟩) 1 2 2 rk_m7.symm (by decide) (by decide) hF ht (by rw [rk_m7]; exact hs) (by rw [rk_m7]; decide) hdep hc0 hc0' (fun a b c d e g fa fp i ks kv kp => FX12_either_L fu (FX12B fu len tape n) len tape f a b c d e g fa fp i ks kv kp)
      rcases key with ⟨a1, a2, a3, a4, a5, a6, a7, a8, a9, z1, z2, z3⟩ | ⟨a1, a2, a3, a4, a5, a6, fa, fp, op', a7, a8, a9, z1, z2, z3, z4⟩
      · have := ih f a1 a2 a3 a4 a5 a6 a7 a8 a9 (by omega) (by omega) z2
        rw [← z1] at this
        exact this
      · obtain ⟨f, rfl⟩ : ∃ g, f = g + 1 := ⟨f - 1, by omega⟩
        have hl := (LB_fault (fu := fu) (len := len) (tape := tape) z2 (FX12B fu len tape n) f a1 a2 a3 a4 a5 a6 fp op' a7 a8 a9).1
        exact Or.inr ⟨a1, a2, a3, a4, a5, a6, fa, fp, op', a7, a8, a9, z1.trans hl, z2, z3, z4⟩
theorem andB_loop (hfu : 10000 ≤ fu) (hT : tapeR bytes tape) (hlen : len.toInt = L) (hL : L ≤ 600) (hc0 : cnt.toInt ≤ 64) (hc0' : 0 ≤ cnt.toInt) (hLR : LB fu len bytes tape L n 2) (hs : topLt 2 s) (hdep : depB 2 op cnt n) : ∀ (m f : Nat) (sums1 cnt1 nx1 pl1 rs1 rv1 : Int32) (ks1 kv1 kp1 : Nat → Int32), (L : Int) < pl1.toInt + m → m < f → FinB fu len bytes L 2 3 C s w q op cnt K ks kv kp sums1 cnt1 nx1 pl1 rs1 rv1 ks1 kv1 kp1 → OutB fu len bytes L 2 2 (FX12_both_L fu (FX12B fu len tape n) len tape f sums1 cnt1 nx1 pl1 rs1 rv1 0 (-1) op ks1 kv1 kp1) C s w q op cnt K ks kv kp := by
  intro m
  induction m with
  | zero =>
    intro f sums1 cnt1 nx1 pl1 rs1 rv1 ks1 kv1 kp1 hm hf hF
    have := finB_tok hF
    omega
  | succ m ih =>
    intro f sums1 cnt1 nx1 pl1 rs1 rv1 ks1 kv1 kp1 hm hf hF
    obtain ⟨f, rfl⟩ : ∃ g, f = g + 1 := ⟨f - 1, by omega⟩
    rw [FX12_both_L]
    by_cases c : fX12_isWord_r 5 rs1 rv1 0 = 0
    · rw [if_pos c]
      refine Or.inl ⟨_, _, _, _, _, _, _, _, _, rfl, finB_weak hF (by omega) (fun ck cv ht he => ?_)⟩
      unfold endB at he ⊢
      rcases shB_cases ht with ⟨a, b1, b2⟩ | ⟨a, -⟩ | ⟨a, -⟩
      · rcases atW ht (i := 5) (by omega) with ⟨u1, u2, u3⟩ | ⟨u1, u2, u3⟩
        · exact absurd ⟨b1, b2⟩ u3
        · have : fX12_isWord_r 5 rs1 rv1 0 = 1 := u2
          rw [this] at c; exact absurd c (by decide)
      · rw [a, rk_m7]; decide
      · rw [a, rk_no]; decide
    · rw [if_neg c]
      have ht := wordB_test (i := 5) (by omega) (Or.inr rfl) c
      rw [if_neg (show ¬ (5 : Nat) = 4 by omega)] at ht
      have key := stepB_bin hfu hT hlen hL (t := 2) (Or.inr rfl) hLR (-8) 261 (Or.inl ⟨rfl, rfl⟩) 2 3 3 rk_m8.symm (by decide) (by decide) hF ht (by rw [rk_m8]; exact hs) (by rw [rk_m8]; decide) hdep hc0 hc0' (fun a b c d e g fa fp i ks kv kp => FX12_both_L fu (FX12B fu len tape n) len tape f a b c d e g fa fp i ks kv kp)
      rcases key with ⟨a1, a2, a3, a4, a5, a6, a7, a8, a9, z1, z2, z3⟩ | ⟨a1, a2, a3, a4, a5, a6, fa, fp, op', a7, a8, a9, z1, z2, z3, z4⟩
      · have := ih f a1 a2 a3 a4 a5 a6 a7 a8 a9 (by omega) (by omega) z2
        rw [← z1] at this
        exact this
      · obtain ⟨f, rfl⟩ : ∃ g, f = g + 1 := ⟨f - 1, by omega⟩
        have hl := (LB_fault (fu := fu) (len := len) (tape := tape) z2 (FX12B fu len tape n) f a1 a2 a3 a4 a5 a6 fp op' a7 a8 a9).2
        exact Or.inr ⟨a1, a2, a3, a4, a5, a6, fa, fp, op', a7, a8, a9, z1.trans hl, z2, z3, z4⟩
theorem j106_fault {fa : Int32} (h : ¬ fa = 0) (sums cnt nx pl rs rv fp op : Int32) (ks kv kp : Nat → Int32) : FX12_holding_J106 fu len tape sums cnt nx pl rs rv fa fp op ks kv kp = some (sums, cnt, nx, pl, rs, rv, fa, fp, op, ks, kv, kp) := by
  obtain ⟨k1, k2, k3⟩ := bk_fault h cnt pl fp
  unfold FX12_holding_J106
  rw [k1, k2, k3, lays_fault h, go_fault h]
  rfl
theorem j106_full {cnt : Int32} (h : cnt.toInt = 64) (sums nx pl rs rv op : Int32) (ks kv kp : Nat → Int32) : FX12_holding_J106 fu len tape sums cnt nx pl rs rv 0 (-1) op ks kv kp = some (sums, cnt, nx, pl, rs, rv, 2, pl, op, ks, kv, kp) := by
  obtain ⟨k1, k2, k3⟩ := bk_full h pl (-1)
  have h2 : ¬ (2 : Int32) = 0 := by decide
  unfold FX12_holding_J106
  rw [k1, k2, k3, lays_fault h2, go_fault h2]
  rfl
theorem j106_ok {cnt : Int32} (h : cnt.toInt < 64) (sums nx pl rs rv op : Int32) (ks kv kp : Nat → Int32) {w : Nat} (hw : sums.toInt = w) (hw' : w < 64) {a b c d : Int32} (hn : FX12_next fu len nx pl rs rv tape = some (a, b, c, d)) : FX12_holding_J106 fu len tape sums cnt nx pl rs rv 0 (-1) op ks kv kp = some (sums + 1, cnt + 1, a, b, c, d, 0, -1, op, upd ks (192 + w) 3, upd kv (192 + w) rv, upd kp (192 + w) pl) := by
  obtain ⟨k1, k2, k3⟩ := bk_ok h pl (-1)
  unfold FX12_holding_J106
  rw [k1, k2, k3, lays_ok _ _ _ sums ks kv kp hw hw', go_ok hn]
  rfl
/-- the name of a GEAR -/
theorem hold_val (hfu : 10000 ≤ fu) (hT : tapeR bytes tape) (hlen : len.toInt = L) (hL : L ≤ 600) {f : Nat} {v4 wt nx ck cv pl : Int32} {W : Nat → Int32} {wr : Int32} {pls : Nat → Int32} {sums rs rv : Int32} {e : Nat} (htok : tokS L f v4 nx ck cv pl rs rv q e) (hpile : pileOk (KnB ks kv kp) W wt op cnt wr K pls s [] w) (hsums : sums.toInt = w) (hnot : fX12_isWord_r 6 rs rv 0 = 0) (hno : fX12_isSign_r 40 rs rv 0 = 0) : OutB fu len bytes L 3 3 (FX12_holding fu (FX12B fu len tape n) sums cnt len nx pl rs rv 0 (-1) op tape ks kv kp) (CE fu 1 len bytes f v4 wt op 0 nx ck cv pl W cnt wr K pls) s w q op cnt K ks kv kp := by
  have q1 := t_1
  obtain ⟨v1, v2⟩ := tok_v4 htok
  obtain ⟨f, rfl⟩ : ∃ g, f = g + 1 + 1 := ⟨f - 2, by omega⟩
  have ht := htok.2.2.2.2.2.2.2.2
  have ha19 : fX7_atSign_r (-19) ck cv = 0 := by
    rcases atS ht (c := -19) (r := 40) (by unfold sgR; decide) with ⟨a1, a2, a3⟩ | ⟨a1, a2, a3⟩
    · exact a1
    · rw [a2] at hno; exact absurd hno (by decide)
  have haw : fX7_atWord_r 486146048 ck cv = 0 := by
    rcases atW ht (i := 6) (by omega) with ⟨a1, a2, a3⟩ | ⟨a1, a2, a3⟩
    · exact a1
    · have : fX12_isWord_r 6 rs rv 0 = 1 := a2
      rw [this] at hnot; exact absurd hnot (by decide)
  obtain ⟨r1, r2, r3, r4⟩ := ro_val (fu := fu) (g := 1) (wt := wt) (op := op) (ph := 0) (ck := ck) (cv := cv) (pl := pl) (W := W) (cnt := cnt) (wr := wr) (K := K) (pls := pls) ha19 (Or.inr haw)
  obtain ⟨p1, p2, p3, p4, p5, p6, p7, p8, p9, p10⟩ := id hpile
  rw [List.length_nil] at p4
  have hopr : ∀ c, opr 1 c cv = (if ¬ c = 2 then -2147483648 else cv) := by
    intro c
    unfold opr fX7_gearWordHere_r
    rw [if_neg (show ¬ (1 : Int32) = 0 by decide)]
  have hh : FX12_holding fu (FX12B fu len tape n) sums cnt len nx pl rs rv 0 (-1) op tape ks kv kp = (if rs = 1 then (FX12_holding_J106 fu len tape sums cnt nx pl rs rv 0 (-1) op ks kv kp) else (FX12_holding_J106 fu len tape sums cnt nx pl rs rv 1 pl op ks kv kp)) := by
    unfold FX12_holding
    rw [if_pos rfl, if_pos hnot, if_pos hno]
    rfl
  rw [hh]
  by_cases c2 : ck = 2
  · have hrs : rs = 1 ∧ cv = rv ∧ 0 ≤ cv.toInt := by
      rcases ht with ⟨h1, h2, h3⟩ | ⟨h1, h2, h3⟩ | ⟨h1, h2, h3, h4⟩ | ⟨h1, h2, h3⟩ | ⟨h1, h2, h3⟩ | ⟨h1, h2⟩
      · rw [h1] at c2; exact absurd c2 (by decide)
      · rw [h1] at c2; exact absurd c2 (by decide)
      · exact ⟨h2, h3, h4⟩
      · rw [h1] at c2; exact absurd c2 (by decide)
      · rw [h1] at c2; exact absurd c2 (by decide)
      · rw [h1] at c2; exact absurd c2 (by decide)
    obtain ⟨hr1, hr2, hr3⟩ := hrs
    have ho : opr 1 ck cv = cv := by rw [hopr, if_neg (show ¬ ¬ ck = 2 from fun z => z c2)]
    have hn : ¬ opr 1 ck cv = -2147483648 := by
      rw [ho]
      intro z
      rw [z] at hr3
      exact absurd hr3 (by decide)
    have hg : ¬ (ck = 3 ∧ 9999 < opr 1 ck cv) := fun z => by rw [c2] at z; exact absurd z.1 (by decide)
    rw [if_pos hr1]
    by_cases c64 : cnt.toInt < 64
    · have hw64 : w < 64 := by omega
      have hro := r4 hn hg c64 w p3 hw64
      rw [ho] at hro
      obtain ⟨nx', ck', cv', pl', rs', rv', q', e', j1, j2, j3, j4⟩ := tok_adv (f := f + 1) hfu hT hlen hL htok (by rw [c2]; decide)
      have hc1 := i_add cnt 1 (by omega) (by omega)
      have hw1 := i_add wr 1 (by omega) (by omega)
      have hs1 := i_add sums 1 (by omega) (by omega)
      rw [j106_ok c64 sums nx pl rs rv op ks kv kp hsums hw64 j2]
      refine Or.inl ⟨_, _, _, _, _, _, _, _, _, rfl, ?_⟩
      refine ⟨f + 1, v4 + (-1), wt, ck', cv', W, wr + 1, upd K w cv, upd pls w pl, [], q', e', w + 1, it_op (by decide) (by decide) v1 hro (by decide) j1, j3, j4, ⟨p1, p2, by omega, ?_, by omega, p6, p7, p8, ?_, trivial⟩, by rw [List.length_nil]; omega, fun c hc => absurd hc (List.not_mem_nil), shB_3 j3.2.2.2.2.2.2.2.2, by omega, fun i hi => up_ne K cv (by omega), fun x hx => ⟨up_ne ks _ (by omega), up_ne kv _ (by omega), up_ne kp _ (by omega)⟩, net_one K w cv (by rw [i_le, t_m5]; omega), by omega⟩
      · rw [List.length_nil]; omega
      · intro i hi
        unfold KnB
        by_cases g : i = w
        · subst g
          rw [up_eq, up_eq, up_eq, up_eq, up_eq]
          exact ⟨Or.inl ⟨rfl, hr2, hr3⟩, fun _ => ⟨rfl, by have := htok.1; omega⟩⟩
        · rw [up_ne ks _ (by omega), up_ne kv _ (by omega), up_ne kp _ (by omega), up_ne K cv g, up_ne pls pl g]
          exact p9 i (by omega)
    · rw [j106_full (by omega) sums nx pl rs rv op ks kv kp]
      obtain ⟨c', hro⟩ := r3 hn hg (by omega)
      exact Or.inr ⟨_, _, _, _, _, _, 2, pl, _, _, _, _, rfl, by decide, it_op_fail (by decide) (by decide) v1 hro, frmB_refl _ _ _ _⟩
  · have hrs : ¬ rs = 1 := by
      rcases ht with ⟨h1, h2, h3⟩ | ⟨h1, h2, h3⟩ | ⟨h1, h2, h3, h4⟩ | ⟨h1, h2, h3⟩ | ⟨h1, h2, h3⟩ | ⟨h1, h2⟩
      · rw [h3]; decide
      · rw [h2]; decide
      · exact absurd h1 c2
      · rw [h2]; decide
      · rw [h2]; decide
      · rw [h2]; decide
    rw [if_neg hrs, j106_fault (show ¬ (1 : Int32) = 0 by decide)]
    have hro := r1 (by rw [hopr, if_pos c2])
    exact Or.inr ⟨_, _, _, _, _, _, 1, pl, _, _, _, _, rfl, by decide, it_op_fail (by decide) (by decide) v1 hro, frmB_refl _ _ _ _⟩
end
theorem levB2 (hfu : 10000 ≤ fu) (hT : tapeR bytes tape) (hlen : len.toInt = L) (hL : L ≤ 600) (hLR2 : LB fu len bytes tape L n 2) (hLR0 : LB fu len bytes tape L n 0) : LB fu len bytes tape L (n + 1) 2 := by
  intro f v4 wt op nx ck cv pl W cnt wr K pls s sums rs rv ks kv kp q e w htok hpile hsums htop hdep
  show OutB fu len bytes L 3 3 _ _ s w q op cnt K ks kv kp
  rw [B_2]
  have q0 := t_0
  have q1 := t_1
  have t8 : (8 : Int32).toInt = 8 := rfl
  have ht := htok.2.2.2.2.2.2.2.2
  obtain ⟨p1, p2, p3, p4, p5, p6, p7, p8, p9, p10⟩ := id hpile
  rw [List.length_nil] at p4
  rw [List.nil_append] at p1
  have hlen' := pile_len _ _ p1
  have hnn := nsg_nop s
  have h486 : (486146048 : Int32) = wcode 6 := rfl
  obtain ⟨v1, v2⟩ := tok_v4 htok
  rcases atW ht (i := 6) (by omega) with ⟨a1, a2, a3⟩ | ⟨a1, a2, a3, a4, a5, a6⟩
  · have a2' : fX12_isWord_r 6 rs rv 0 = 0 := a2
    by_cases hno : fX12_isSign_r 40 rs rv 0 = 0
    · exact hold_val hfu hT hlen hL htok hpile hsums a2' hno
    obtain ⟨f, rfl⟩ : ∃ g, f = g + 1 + 1 := ⟨f - 2, by omega⟩
    rcases atS ht (c := -19) (r := 40) (by unfold sgR; decide) with ⟨b1, b2, b3⟩ | ⟨b1, b2, b3, b4, b5, b6⟩
    · exact absurd b2 hno
    have hck : ¬ ck = 0 := by rw [b3]; decide
    obtain ⟨o1, o2⟩ := ro_open (fu := fu) (g := 1) (wt := wt) (op := op) (ph := 0) (ck := ck) (cv := cv) (pl := pl) (W := W) (cnt := cnt) (wr := wr) (K := K) (pls := pls) (by rw [b1]; decide) (n := s.length) (by omega) (fun _ => by omega)
    unfold FX12_holding
    rw [if_pos rfl, if_pos a2', if_neg hno]
    by_cases c8 : op.toInt < 8
    · have hro := o1 c8
      rw [if_pos (show ¬ op = 8 by rw [i_eq]; omega)]
      unfold FX12_holding_J62
      rw [if_pos rfl]
      obtain ⟨nx2, ck2, cv2, pl2, rs2, rv2, q2, e2, j1, j2, j3, j4⟩ := tok_adv (f := f + 1) hfu hT hlen hL htok hck
      rw [j2, Option.bind_some]
      have hC := it_op (fu := fu) (len := len) (bytes := bytes) (f := f + 1) (by decide) (by decide) v1 hro (by decide) j1
      have hop1 := i_add op 1 (by omega) (by omega)
      have hwt1 := i_add wt 1 (by omega) (by omega)
      have hpile2 : pileOk (KnB ks kv kp) (upd W s.length (-19)) (wt + 1) (op + 1) cnt wr K pls (-19 :: s) [] w := by
        refine ⟨?_, by omega, p3, ?_, p5, ?_, ?_, p8, p9, trivial⟩
        · rw [List.nil_append, show (wt + 1).toInt.toNat = s.length + 1 by omega]
          rw [hlen'] at p1
          exact pile_push p1 (-19)
        · rw [nsg, if_pos rfl, List.length_nil]; omega
        · rw [nop, if_pos rfl]; omega
        · rw [nop, if_pos rfl]; omega
      rcases hLR0 (f + 1) (v4 + (-1)) (wt + 1) (op + 1) nx2 ck2 cv2 pl2 (upd W s.length (-19)) cnt wr K pls (-19 :: s) sums rs2 rv2 ks kv kp q2 e2 w j3 hpile2 hsums (by show rk (-19) < 1; decide) (by unfold depB at hdep ⊢; omega) with ⟨sums', cnt', nx', pl', rs', rv', ks', kv', kp', b1, b2⟩ | ⟨sums', cnt', nx', pl', rs', rv', fa, fp, op', ks', kv', kp', b1, b2, b3, b4⟩
      · show OutB fu len bytes L 3 3 ((FX12B fu len tape n 0 sums cnt nx2 pl2 rs2 rv2 0 (-1) (op + 1) ks kv kp).bind _) _ s w q op cnt K ks kv kp
        rw [b1, Option.bind_some]
        obtain ⟨f3, v43, wt3, ck3, cv3, W3, wr3, K3, pls3, P, q3, e3, w3, c1, c2, c3, c4, c5, c6, c7, c8', c9, c10, c11, c12⟩ := b2
        have ht3 := c2.2.2.2.2.2.2.2.2
        obtain ⟨x1, x2⟩ := tok_v4 c2
        obtain ⟨f3, rfl⟩ : ∃ g, f3 = g + 1 + 1 := ⟨f3 - 2, by omega⟩
        show OutB fu len bytes L 3 3 ((FX12_closes fu len nx' pl' rs' rv' 0 (-1) (op + 1) tape).bind _) _ s w q op cnt K ks kv kp
        unfold FX12_closes
        rw [if_neg (show ¬ ¬ (0 : Int32) = 0 by decide)]
        rcases atS ht3 (c := -20) (r := 41) (by unfold sgR; decide) with ⟨y1, y2, y3⟩ | ⟨y1, y2, y3, y4, y5, y6⟩
        · rw [y2, if_neg (show ¬ ¬ (0 : Int32) = 0 by decide)]
          have ew : FX12_closes_J21 fu len tape nx' pl' rs' rv' (fX12_wrong_f0_37 1 0) (fX12_wrong_f0_38 pl' 0 (-1)) (op + 1) = some (nx', pl', rs', rv', 1, pl', op + 1) := by
            unfold FX12_closes_J21 fX12_wrong_f0_37 fX12_wrong_f0_38
            rw [if_pos rfl, if_pos rfl, if_neg (show ¬ (1 : Int32) = 0 by decide)]
          rw [ew, Option.bind_some]
          refine Or.inr ⟨sums', cnt', nx', pl', rs', rv', 1, pl', op + 1, ks', kv', kp', rfl, by decide, ?_, c10⟩
          rw [hC, c1]
          have hr0 : rk (fX7_signHere_r 1 ck3 cv3) = 0 := by
            have := (rk_rng (fX7_signHere_r 1 ck3 cv3)).1
            have z' : rk (fX7_signHere_r 1 ck3 cv3) < 1 := c7
            omega
          exact it_bo_fail x1 ((bo_end (g := 1) (show 1000 ≤ fu by omega) (Or.inl y1) hr0 c4).2 (by omega))
        · rw [y2, if_pos (show ¬ (1 : Int32) = 0 by decide)]
          have hck3 : ¬ ck3 = 0 := by rw [y3]; decide
          obtain ⟨nx4, ck4, cv4, pl4, rs4, rv4, q4, e4, u1, u2, u3, u4⟩ := tok_adv (f := f3 + 1) hfu hT hlen hL c2 hck3
          obtain ⟨wt', wr', K', pls', g1, g2, g3, g4⟩ := bo_close (g := 1) (pl := pl') (show 1000 ≤ fu by omega) (by rw [y1]; decide) c4
          have hopb : op + 1 - 1 = op := by
            have := i_sub (op + 1) 1 (by omega) (by omega)
            exact i_eq.mpr (by omega)
          rw [hopb] at g1 g2
          have ew : FX12_closes_J21 fu len tape nx' pl' rs' rv' 0 (-1) (op + 1) = some (nx4, pl4, rs4, rv4, 0, -1, op) := by
            unfold FX12_closes_J21
            rw [if_pos rfl, u2, Option.bind_some, hopb]
          rw [ew, Option.bind_some]
          refine Or.inl ⟨sums', cnt', nx4, pl4, rs4, rv4, ks', kv', kp', rfl, ?_⟩
          refine ⟨f3 + 1, v43 + (-1), wt', ck4, cv4, W3, wr', K', pls', [], q4, e4, w3 + P.length, ?_, u3, by omega, g2, by rw [List.length_nil]; omega, fun c hc => absurd hc (List.not_mem_nil), shB_3 u3.2.2.2.2.2.2.2.2, by omega, fun i hi => by rw [g3 i (by omega)]; exact c9 i hi, c10, g4 w c11, c12⟩
          rw [hC, c1]
          exact it_bo x1 g1 (by decide) u1
      · show OutB fu len bytes L 3 3 ((FX12B fu len tape n 0 sums cnt nx2 pl2 rs2 rv2 0 (-1) (op + 1) ks kv kp).bind _) _ s w q op cnt K ks kv kp
        rw [b1, Option.bind_some]
        show OutB fu len bytes L 3 3 ((FX12_closes fu len nx' pl' rs' rv' fa fp op' tape).bind _) _ s w q op cnt K ks kv kp
        have ew : FX12_closes fu len nx' pl' rs' rv' fa fp op' tape = some (nx', pl', rs', rv', fa, fp, op') := by
          unfold FX12_closes FX12_closes_J21
          rw [if_pos b2, if_neg b2]
        rw [ew, Option.bind_some]
        exact Or.inr ⟨sums', cnt', nx', pl', rs', rv', fa, fp, op', ks', kv', kp', rfl, b2, by rw [hC]; exact b3, b4⟩
    · have hop8 : op = 8 := i_eq.mpr (by omega)
      have hro := o2 (by omega)
      rw [if_neg (show ¬ ¬ op = 8 from fun z => z hop8)]
      have ew : FX12_holding_J62 fu (FX12B fu len tape n) len tape sums cnt nx pl rs rv (fX12_wrong_f0_37 2 0) (fX12_wrong_f0_38 pl 0 (-1)) op ks kv kp = some (sums, cnt, nx, pl, rs, rv, 2, pl, op, ks, kv, kp) := by
        unfold FX12_holding_J62 fX12_wrong_f0_37 fX12_wrong_f0_38
        rw [if_pos rfl, if_pos rfl, if_neg (show ¬ (2 : Int32) = 0 by decide)]
      rw [ew]
      exact Or.inr ⟨_, _, _, _, _, _, 2, pl, _, _, _, _, rfl, by decide, it_op_fail (by decide) (by decide) v1 hro, frmB_refl _ _ _ _⟩
  · have a2' : fX12_isWord_r 6 rs rv 0 = 1 := a2
    unfold FX12_holding
    rw [if_pos rfl, a2', if_neg (show ¬ (1 : Int32) = 0 by decide)]
    have hJ : ((FX12_goOn fu len nx pl rs rv (fX12_bitKnot_f0_37 cnt 0) tape).bind (fun y12z => (FX12B fu len tape n 2 sums (fX12_bitKnot_f0_30 cnt 0) y12z.1 y12z.2.1 y12z.2.2.1 y12z.2.2.2 (fX12_bitKnot_f0_37 cnt 0) (fX12_bitKnot_f0_38 cnt pl 0 (-1)) op ks kv kp).bind (fun y13z => (FX12_lays fu (2 : Int32) (260 : Int32) (0 : Int32) y13z.1 y13z.2.2.2.2.2.2.1 y13z.2.2.2.2.2.2.2.2.2.1 y13z.2.2.2.2.2.2.2.2.2.2.1 y13z.2.2.2.2.2.2.2.2.2.2.2).bind (fun y14z => some (y14z.1, y13z.2.1, y13z.2.2.1, y13z.2.2.2.1, y13z.2.2.2.2.1, y13z.2.2.2.2.2.1, y13z.2.2.2.2.2.2.1, y13z.2.2.2.2.2.2.2.1, y13z.2.2.2.2.2.2.2.2.1, y14z.2.1, y14z.2.2.1, y14z.2.2.2))))) = binC fu (FX12B fu len tape n) len tape 2 260 (fun a b c d e g fa fp i ks kv kp => some (a, b, c, d, e, g, fa, fp, i, ks, kv, kp)) sums cnt nx pl rs rv 0 (-1) op ks kv kp := rfl
    rw [hJ]
    obtain ⟨f, rfl⟩ : ∃ g, f = g + 1 + 1 := ⟨f - 2, by omega⟩
    have hck : ¬ ck = 0 := by rw [a3]; decide
    have ha19 : fX7_atSign_r (-19) ck cv = 0 := by
      unfold fX7_atSign_r
      rw [if_pos (show ¬ ck = 4 by rw [a3]; decide)]
    obtain ⟨o1, o2⟩ := ro_not (fu := fu) (g := 1) (wt := wt) (op := op) (ph := 0) (ck := ck) (cv := cv) (pl := pl) (W := W) (cnt := cnt) (wr := wr) (K := K) (pls := pls) rfl ha19 (by rw [h486, a1]; decide) (n := s.length) (by omega) (fun _ => by omega)
    have r6 : rk (-6) = 3 := by decide
    by_cases c64 : cnt.toInt < 64
    · have hro := o1 c64
      obtain ⟨nx2, ck2, cv2, pl2, rs2, rv2, q2, e2, j1, j2, j3, j4⟩ := tok_adv (f := f + 1) hfu hT hlen hL htok hck
      have hC := it_op (fu := fu) (len := len) (bytes := bytes) (f := f + 1) (by decide) (by decide) v1 hro (by decide) j1
      have hct := i_add cnt 1 (by omega) (by omega)
      have hwt1 := i_add wt 1 (by omega) (by omega)
      have hpile2 : pileOk (KnB ks kv kp) (upd W s.length (-6)) (wt + 1) op (cnt + 1) wr K pls (-6 :: s) [] w := by
        refine ⟨?_, by omega, p3, ?_, by omega, ?_, ?_, p8, p9, trivial⟩
        · rw [List.nil_append, show (wt + 1).toInt.toNat = s.length + 1 by omega]
          rw [hlen'] at p1
          exact pile_push p1 (-6)
        · rw [nsg, if_neg (by decide), List.length_nil]; omega
        · rw [nop, if_neg (by decide)]; omega
        · rw [nop, if_neg (by decide)]; omega
      have key := stepB_push hfu (t := 2) hLR2 (C := CE fu 1 len bytes (f + 1 + 1) v4 wt op 0 nx ck cv pl W cnt wr K pls) (s := s) (w := w) (q := q) (op := op) (cnt0 := cnt) (K0 := K) (ks := ks) (kv := kv) (kp := kp) (sums1 := sums) (cnt1 := cnt) (nx1 := nx) (pl1 := pl) (rs1 := rs) (rv1 := rv) (ks1 := ks) (kv1 := kv) (kp1 := kp) (-6) 260 (Or.inl ⟨rfl, rfl⟩) 3 3 (by rw [r6]; omega) (by decide) (by decide) (frmB_refl _ _ _ _) (by omega) (by omega) c64 hC j2 j3 j4 hpile2 hsums (Nat.le_refl _) (fun i hi => rfl) (by show rk (-6) < 4; rw [r6]; omega) (by unfold depB at hdep ⊢; omega) (fun K' w' P he hn => net_not hn) (fun a b c d e g fa fp i ks kv kp => some (a, b, c, d, e, g, fa, fp, i, ks, kv, kp))
      rcases key with ⟨a1, a2, a3, a4, a5, a6, a7, a8, a9, z1, z2, z3⟩ | ⟨a1, a2, a3, a4, a5, a6, fa, fp, op', a7, a8, a9, z1, z2, z3, z4⟩
      · exact Or.inl ⟨a1, a2, a3, a4, a5, a6, a7, a8, a9, z1, z2⟩
      · exact Or.inr ⟨a1, a2, a3, a4, a5, a6, fa, fp, op', a7, a8, a9, z1, z2, z3, z4⟩
    · obtain ⟨c', hro⟩ := o2 (by omega)
      have hn6 : 3 ≤ n + 2 := by unfold depB at hdep; omega
      rw [stepB_full hfu (Or.inr rfl) hn6 260 (by omega)]
      exact Or.inr ⟨_, _, _, _, _, _, 2, pl, _, _, _, _, rfl, by decide, it_op_fail (by decide) (by decide) v1 hro, frmB_refl _ _ _ _⟩
theorem levB1 (hfu : 10000 ≤ fu) (hT : tapeR bytes tape) (hlen : len.toInt = L) (hL : L ≤ 600) (hLR : LB fu len bytes tape L n 2) : LB fu len bytes tape L (n + 1) 1 := by
  intro f v4 wt op nx ck cv pl W cnt wr K pls s sums rs rv ks kv kp q e w htok hpile hsums htop hdep
  show OutB fu len bytes L 2 2 _ _ s w q op cnt K ks kv kp
  rw [B_1]
  unfold FX12_both
  have hc0 := hpile.2.2.2.2.1
  have hc1 := hpile.2.2.2.1
  have hd : depB 2 op cnt n := by unfold depB at hdep ⊢; omega
  rcases hLR f v4 wt op nx ck cv pl W cnt wr K pls s sums rs rv ks kv kp q e w htok hpile hsums (topLt_mono (by decide) htop) hd with ⟨sums', cnt', nx', pl', rs', rv', ks', kv', kp', b1, b2⟩ | ⟨sums', cnt', nx', pl', rs', rv', fa, fp, op', ks', kv', kp', b1, b2, b3, b4⟩
  · rw [b1, Option.bind_some]
    have h2 := finB_tok b2
    exact andB_loop hfu hT hlen hL hc0 (by omega) hLR htop hd (L + 1) fu sums' cnt' nx' pl' rs' rv' ks' kv' kp' (by omega) (by omega) (finB_weak b2 (by decide) (fun ck cv _ he => he))
  · rw [b1, Option.bind_some]
    obtain ⟨f0, hf0⟩ : ∃ g, fu = g + 1 := ⟨fu - 1, by omega⟩
    have hl := fun g => (LB_fault (fu := fu) (len := len) (tape := tape) b2 (FX12B fu len tape n) g sums' cnt' nx' pl' rs' rv' fp op' ks' kv' kp').2
    have hl0 := hl f0
    rw [← hf0] at hl0
    exact Or.inr ⟨sums', cnt', nx', pl', rs', rv', fa, fp, op', ks', kv', kp', hl0, b2, b3, b4⟩
theorem levB0 (hfu : 10000 ≤ fu) (hT : tapeR bytes tape) (hlen : len.toInt = L) (hL : L ≤ 600) (hLR : LB fu len bytes tape L n 1) : LB fu len bytes tape L (n + 1) 0 := by
  intro f v4 wt op nx ck cv pl W cnt wr K pls s sums rs rv ks kv kp q e w htok hpile hsums htop hdep
  show OutB fu len bytes L 1 1 _ _ s w q op cnt K ks kv kp
  rw [B_0]
  unfold FX12_either
  have hc0 := hpile.2.2.2.2.1
  have hc1 := hpile.2.2.2.1
  have hd : depB 1 op cnt n := by unfold depB at hdep ⊢; omega
  rcases hLR f v4 wt op nx ck cv pl W cnt wr K pls s sums rs rv ks kv kp q e w htok hpile hsums (topLt_mono (by decide) htop) hd with ⟨sums', cnt', nx', pl', rs', rv', ks', kv', kp', b1, b2⟩ | ⟨sums', cnt', nx', pl', rs', rv', fa, fp, op', ks', kv', kp', b1, b2, b3, b4⟩
  · rw [b1, Option.bind_some]
    have h2 := finB_tok b2
    exact orB_loop hfu hT hlen hL hc0 (by omega) hLR htop hd (L + 1) fu sums' cnt' nx' pl' rs' rv' ks' kv' kp' (by omega) (by omega) (finB_weak b2 (by decide) (fun ck cv _ he => he))
  · rw [b1, Option.bind_some]
    obtain ⟨f0, hf0⟩ : ∃ g, fu = g + 1 := ⟨fu - 1, by omega⟩
    have hl := fun g => (LB_fault (fu := fu) (len := len) (tape := tape) b2 (FX12B fu len tape n) g sums' cnt' nx' pl' rs' rv' fp op' ks' kv' kp').1
    have hl0 := hl f0
    rw [← hf0] at hl0
    exact Or.inr ⟨sums', cnt', nx', pl', rs', rv', fa, fp, op', ks', kv', kp', hl0, b2, b3, b4⟩
theorem levB_all (hfu : 10000 ≤ fu) (hT : tapeR bytes tape) (hlen : len.toInt = L) (hL : L ≤ 600) : ∀ (n τ : Nat), τ ≤ 2 → LB fu len bytes tape L n τ := by
  intro n
  induction n with
  | zero =>
    intro τ hτ f v4 wt op nx ck cv pl W cnt wr K pls s sums rs rv ks kv kp q e w htok hpile hsums htop hdep
    obtain ⟨p1, p2, p3, p4, p5, p6, p7, p8, p9, p10⟩ := hpile
    unfold depB at hdep
    omega
  | succ n ih =>
    intro τ hτ
    have hc : τ = 0 ∨ τ = 1 ∨ τ = 2 := by omega
    rcases hc with rfl | rfl | rfl
    · exact levB0 hfu hT hlen hL (ih 1 (by omega))
    · exact levB1 hfu hT hlen hL (ih 2 (by omega))
    · exact levB2 hfu hT hlen hL (ih 2 (by omega)) (ih 0 (by omega))
theorem either_eq (hfu : 10000 ≤ fu) (hT : tapeR bytes tape) (hlen : len.toInt = L) (hL : L ≤ 600) {nx ck cv pl rs rv : Int32} {q e : Nat} (htk : tkS L nx ck cv pl rs rv q e) (W : Nat → Int32) {cnt wr sums : Int32} {w : Nat} (hcnt : cnt.toInt = w) (hwr : wr.toInt = w) (hsums : sums.toInt = w) (hw : w ≤ 64) (K pls ks kv kp : Nat → Int32) (hk : ∀ i, i < w → KnB ks kv kp i (K i) (pls i)) :
    (∃ (wt' nx' ck' cv' pl' : Int32) (W' : Nat → Int32) (cnt' wr' : Int32) (K' pls' : Nat → Int32) (sums' rs' rv' : Int32) (ks' kv' kp' : Nat → Int32) (q' e' w' : Nat), FX7_readExpression fu 1 0 (-1) len nx ck cv pl bytes W cnt wr K pls = some (1, 4, 1, wt', 0, 3, 0, -1, nx', ck', cv', pl', W', cnt', wr', K', pls') ∧ FX12_eitherW fu sums cnt len nx pl rs rv 0 (-1) 0 tape ks kv kp = some (sums', cnt', nx', pl', rs', rv', 0, -1, 0, ks', kv', kp') ∧ tkS L nx' ck' cv' pl' rs' rv' q' e' ∧ q < q' ∧ wr'.toInt = w' ∧ cnt'.toInt = w' ∧ sums'.toInt = w' ∧ w < w' ∧ w' ≤ 64 ∧ (∀ i, i < w' → KnB ks' kv' kp' i (K' i) (pls' i)) ∧ (∀ i, i < w → K' i = K i) ∧ frmB w ks kv kp ks' kv' kp' ∧ segOk K' w w') ∨
    (∃ (sums' cnt' nx' pl' rs' rv' fa fp op' : Int32) (ks' kv' kp' : Nat → Int32), FX12_eitherW fu sums cnt len nx pl rs rv 0 (-1) 0 tape ks kv kp = some (sums', cnt', nx', pl', rs', rv', fa, fp, op', ks', kv', kp') ∧ ¬ fa = 0 ∧ CFail 1 (FX7_readExpression fu 1 0 (-1) len nx ck cv pl bytes W cnt wr K pls) fa fp ∧ frmB w ks kv kp ks' kv' kp') := by
  have q0 := t_0
  obtain ⟨h1, h2, h3, h4, h5, h6⟩ := htk
  have hrd : FX7_readExpression fu 1 0 (-1) len nx ck cv pl bytes W cnt wr K pls = CE fu 1 len bytes fu len 0 0 0 nx ck cv pl W cnt wr K pls := by
    unfold FX7_readExpression CE
    rw [if_pos (Or.inr rfl)]
  have hex : FX12_eitherW fu sums cnt len nx pl rs rv 0 (-1) 0 tape ks kv kp = FX12B fu len tape 200 0 sums cnt nx pl rs rv 0 (-1) 0 ks kv kp := rfl
  rw [hrd, hex]
  have htok : tokS L fu len nx ck cv pl rs rv q e := ⟨h1, h2, h3, h4, h5, by omega, by omega, by omega, h6⟩
  have hpile : pileOk (KnB ks kv kp) W 0 0 cnt wr K pls [] [] w := ⟨rfl, by decide, hwr, by rw [List.length_nil, nsg]; omega, by omega, by rw [nop]; rfl, by rw [nop]; omega, fun c hc => absurd hc (List.not_mem_nil), hk, trivial⟩
  rcases levB_all hfu hT hlen hL 200 0 (by omega) fu len 0 0 nx ck cv pl W cnt wr K pls [] sums rs rv ks kv kp q e w htok hpile hsums trivial (by unfold depB; omega) with ⟨sums', cnt', nx', pl', rs', rv', ks', kv', kp', b1, b2⟩ | ⟨sums', cnt', nx', pl', rs', rv', fa, fp, op', ks', kv', kp', b1, b2, b3, b4⟩
  · obtain ⟨f3, v43, wt3, ck3, cv3, W3, wr3, K3, pls3, P, q3, e3, w3, c1, c2, c3, c4, c5, c6, c7, c8, c9, c10, c11, c12⟩ := b2
    obtain ⟨x1, x2⟩ := tok_v4 c2
    obtain ⟨f3, rfl⟩ : ∃ g, f3 = g + 1 + 1 := ⟨f3 - 2, by omega⟩
    have hr0 : rk (fX7_signHere_r 1 ck3 cv3) = 0 := by
      have := (rk_rng (fX7_signHere_r 1 ck3 cv3)).1
      have z' : rk (fX7_signHere_r 1 ck3 cv3) < 1 := c7
      omega
    obtain ⟨wt', wr', K', pls', g1, g2, g3, g4⟩ := (bo_end (g := 1) (pl := pl') (show 1000 ≤ fu by omega) (Or.inr rfl) hr0 c4).1 rfl trivial
    obtain ⟨p1, p2, p3, p4, p5, p6, p7, p8, p9, p10⟩ := g2
    rw [List.length_nil, nsg] at p4
    have hn := g4 w c11
    obtain ⟨n1, n2⟩ := hn
    obtain ⟨dd, n3, n4⟩ := n2 0
    have hd : dd = 1 := Option.some.inj n4
    subst hd
    have hlt : w < w3 + P.length := by
      rcases Nat.lt_or_ge w (w3 + P.length) with y | y
      · exact y
      · have ew : w3 + P.length - w = 0 := by omega
        rw [ew, run_zero] at n3
        exact absurd (Option.some.inj n3) (by omega)
    obtain ⟨t1, t2, t3, t4, t5, t6, t7, t8, t9⟩ := c2
    refine Or.inl ⟨wt', nx', ck3, cv3, pl', W3, cnt', wr', K', pls', sums', rs', rv', ks', kv', kp', q3, e3, w3 + P.length, ?_, b1, ⟨t1, t2, t3, t4, t5, t9⟩, c3, p3, by omega, by omega, hlt, by omega, p9, fun i hi => by rw [g3 i (by omega)]; exact c9 i hi, c10, ⟨by omega, by omega, n3⟩⟩
    rw [c1]
    exact it_end x1 g1
  · exact Or.inr ⟨sums', cnt', nx', pl', rs', rv', fa, fp, op', ks', kv', kp', b1, b2, b3, b4⟩
end
