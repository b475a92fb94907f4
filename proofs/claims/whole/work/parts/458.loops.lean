/-! ===== the loops of the reference's levels ===== -/
theorem sh_cases {ck cv rs rv : Int32} (h : tokR ck cv rs rv) : (fX7_signHere_r 0 ck cv = -8 ∧ ck = 1 ∧ cv = wcode 5) ∨ (fX7_signHere_r 0 ck cv = -7 ∧ ck = 1 ∧ cv = wcode 4) ∨ (ck = 4 ∧ fX7_signHere_r 0 ck cv = cv ∧ rs = 3 ∧ sgR cv rv) ∨ (fX7_signHere_r 0 ck cv = -2147483648 ∧ ¬ ck = 4 ∧ ¬ rs = 3 ∧ ¬ (ck = 1 ∧ cv = wcode 5) ∧ ¬ (ck = 1 ∧ cv = wcode 4)) := by
  have e5 : (48365568 : Int32) = wcode 5 := rfl
  have e4 : (522190848 : Int32) = wcode 4 := rfl
  unfold fX7_signHere_r
  rw [e5, e4]
  rcases atW h (i := 5) (by omega) with ⟨a1, a2, a3⟩ | ⟨a1, a2, a3, a4, a5, a6⟩
  · rw [a1, if_pos rfl]
    rcases atW h (i := 4) (by omega) with ⟨b1, b2, b3⟩ | ⟨b1, b2, b3, b4, b5, b6⟩
    · rw [b1, if_pos rfl]
      by_cases c : ck = 4
      · rw [if_neg (show ¬ ¬ ck = 4 from fun z => z c), if_neg (show ¬ ¬ (0 : Int32) = 0 by decide)]
        refine Or.inr (Or.inr (Or.inl ⟨c, rfl, ?_⟩))
        rcases h with ⟨h1, h2, h3⟩ | ⟨h1, h2, h3⟩ | ⟨h1, h2, h3⟩ | ⟨h1, h2, h3⟩ | ⟨h1, h2, h3⟩ | ⟨h1, h2⟩
        · rw [h1] at c; exact absurd c (by decide)
        · rw [h1] at c; exact absurd c (by decide)
        · rw [h1] at c; exact absurd c (by decide)
        · rw [h1] at c; exact absurd c (by decide)
        · exact ⟨h2, h3⟩
        · rw [h1] at c; exact absurd c (by decide)
      · rw [if_pos c]
        refine Or.inr (Or.inr (Or.inr ⟨rfl, c, ?_, a3, b3⟩))
        rcases h with ⟨h1, h2, h3⟩ | ⟨h1, h2, h3⟩ | ⟨h1, h2, h3⟩ | ⟨h1, h2, h3⟩ | ⟨h1, h2, h3⟩ | ⟨h1, h2⟩
        · rw [h3]; decide
        · rw [h2]; decide
        · rw [h2]; decide
        · rw [h2]; decide
        · exact absurd h1 c
        · rw [h2]; decide
    · rw [b1, if_neg (show ¬ (1 : Int32) = 0 by decide)]
      exact Or.inr (Or.inl ⟨rfl, b3, b4⟩)
  · rw [a1, if_neg (show ¬ (1 : Int32) = 0 by decide)]
    exact Or.inl ⟨rfl, a3, a4⟩
theorem rk_sg {c r : Int32} (h : sgR c r) : (rk c = 4 ∧ (r = 60 ∨ r = 62 ∨ r = 61 ∨ 256 ≤ r) ∧ kBin c r) ∨ (rk c = 5 ∧ (r = 43 ∨ r = 45) ∧ kBin c r) ∨ (rk c = 6 ∧ (r = 42 ∨ r = 47) ∧ kBin c r) ∨ (rk c = 0 ∧ ¬ r = 60 ∧ ¬ r = 62 ∧ ¬ r = 61 ∧ ¬ 256 ≤ r) := by
  rcases h with ⟨rfl, rfl⟩ | ⟨rfl, rfl⟩ | ⟨rfl, rfl⟩ | ⟨rfl, rfl⟩ | ⟨rfl, rfl⟩ | ⟨rfl, rfl⟩ | ⟨rfl, rfl⟩ | ⟨rfl, rfl⟩ | ⟨rfl, rfl⟩ | ⟨rfl, rfl⟩ | ⟨rfl, rfl⟩ | ⟨rfl, rfl⟩ | ⟨rfl, rfl⟩
  · exact Or.inl ⟨by decide, by decide, by unfold kBin; decide⟩
  · exact Or.inl ⟨by decide, by decide, by unfold kBin; decide⟩
  · exact Or.inl ⟨by decide, by decide, by unfold kBin; decide⟩
  · exact Or.inl ⟨by decide, by decide, by unfold kBin; decide⟩
  · exact Or.inl ⟨by decide, by decide, by unfold kBin; decide⟩
  · exact Or.inl ⟨by decide, by decide, by unfold kBin; decide⟩
  · exact Or.inr (Or.inl ⟨by decide, by decide, by unfold kBin; decide⟩)
  · exact Or.inr (Or.inl ⟨by decide, by decide, by unfold kBin; decide⟩)
  · exact Or.inr (Or.inr (Or.inl ⟨by decide, by decide, by unfold kBin; decide⟩))
  · exact Or.inr (Or.inr (Or.inl ⟨by decide, by decide, by unfold kBin; decide⟩))
  · exact Or.inr (Or.inr (Or.inr ⟨by decide, by decide, by decide, by decide, by decide⟩))
  · exact Or.inr (Or.inr (Or.inr ⟨by decide, by decide, by decide, by decide, by decide⟩))
  · exact Or.inr (Or.inr (Or.inr ⟨by decide, by decide, by decide, by decide, by decide⟩))
theorem rk_m7 : rk (-7) = 1 := by decide
theorem rk_m8 : rk (-8) = 2 := by decide
theorem rk_no : rk (-2147483648) = 0 := by decide
theorem sh_ne3 {ck cv rs rv : Int32} (h : tokR ck cv rs rv) : ¬ rk (fX7_signHere_r 0 ck cv) = 3 := by
  rcases sh_cases h with ⟨a, -⟩ | ⟨a, -⟩ | ⟨-, a, -, b⟩ | ⟨a, -⟩
  · rw [a, rk_m8]; decide
  · rw [a, rk_m7]; decide
  · rw [a]
    rcases rk_sg b with ⟨z, -⟩ | ⟨z, -⟩ | ⟨z, -⟩ | ⟨z, -⟩ <;> omega
  · rw [a, rk_no]; decide
theorem sh_sign (c : Int32) : fX7_signHere_r 0 4 c = c := by
  unfold fX7_signHere_r fX7_atWord_r
  rw [if_pos (show ¬ (4 : Int32) = 1 by decide), if_pos (show ¬ (4 : Int32) = 1 by decide), if_pos rfl, if_pos rfl, if_neg (show ¬ ¬ (4 : Int32) = 4 by decide), if_neg (show ¬ ¬ (0 : Int32) = 0 by decide)]
theorem end_up {r r' : Int} (hr : r ≤ r') (P : List Int32) (sg ck cv : Int32) (h : endT r P ck cv) : endT r' (P ++ [sg]) ck cv := by
  rcases h with z | ⟨z1, z2⟩
  · exact Or.inl (by omega)
  · exact Or.inr ⟨z1, stuck_app z2 [sg]⟩
section
variable {fu : Nat} {len : Int32} {bytes tape : Nat → Int32} {L : Nat}
/-- what a level gives: well, or a FAULT in both -/
def OutE (fu : Nat) (len : Int32) (bytes : Nat → Int32) (L : Nat) (rP rE : Int) (E : Option (Int32 × Int32 × Int32 × Int32 × Int32 × Int32 × Int32 × Int32 × Int32 × (Nat → Int32) × (Nat → Int32))) (C : Option (Int32 × Nat × Int32 × Int32 × Int32 × Int32 × Int32 × Int32 × Int32 × Int32 × Int32 × Int32 × (Nat → Int32) × Int32 × Int32 × (Nat → Int32) × (Nat → Int32))) (s : List Int32) (w q : Nat) (op cnt : Int32) (K ks kv : Nat → Int32) : Prop :=
  (∃ (sums' cnt' nx' pl' rs' rv' : Int32) (ks' kv' : Nat → Int32), E = some (sums', cnt', nx', pl', rs', rv', 0, -1, op, ks', kv') ∧ Fin fu len bytes L rP rE C s w q op cnt K ks kv sums' cnt' nx' pl' rs' rv' ks' kv') ∨
  (∃ (sums' cnt' nx' pl' rs' rv' fa fp op' : Int32) (ks' kv' : Nat → Int32), E = some (sums', cnt', nx', pl', rs', rv', fa, fp, op', ks', kv') ∧ ¬ fa = 0 ∧ CFail 0 C fa fp ∧ frm w ks kv ks' kv')
theorem fin_weak {rP rE rP' rE' : Int} {C : Option (Int32 × Nat × Int32 × Int32 × Int32 × Int32 × Int32 × Int32 × Int32 × Int32 × Int32 × Int32 × (Nat → Int32) × Int32 × Int32 × (Nat → Int32) × (Nat → Int32))} {s : List Int32} {w q : Nat} {op cnt : Int32} {K ks kv : Nat → Int32} {a b c d e g : Int32} {ks' kv' : Nat → Int32} (h : Fin fu len bytes L rP rE C s w q op cnt K ks kv a b c d e g ks' kv') (hP : rP' ≤ rP) (hE : ∀ P ck cv, tokR ck cv e g → (∀ c, c ∈ P → rP ≤ rk c) → endT rE P ck cv → endT rE' P ck cv) : Fin fu len bytes L rP' rE' C s w q op cnt K ks kv a b c d e g ks' kv' := by
  obtain ⟨f3, v43, wt3, ck3, cv3, W3, wr3, K3, pls3, P, q3, e3, w3, b1, b2, b3, b4, b5, b6, b7, b8⟩ := h
  exact ⟨f3, v43, wt3, ck3, cv3, W3, wr3, K3, pls3, P, q3, e3, w3, b1, b2, b3, b4, b5, fun c hc => by have := b6 c hc; omega, hE P ck3 cv3 b2.2.2.2.2.2.2.2.2 b6 b7, b8⟩
theorem fin_tok {rP rE : Int} {C : Option (Int32 × Nat × Int32 × Int32 × Int32 × Int32 × Int32 × Int32 × Int32 × Int32 × Int32 × Int32 × (Nat → Int32) × Int32 × Int32 × (Nat → Int32) × (Nat → Int32))} {s : List Int32} {w q : Nat} {op cnt : Int32} {K ks kv : Nat → Int32} {a b c d e g : Int32} {ks' kv' : Nat → Int32} (h : Fin fu len bytes L rP rE C s w q op cnt K ks kv a b c d e g ks' kv') : (∃ ck cv, tokR ck cv e g) ∧ 0 ≤ d.toInt ∧ d.toInt ≤ L := by
  obtain ⟨f3, v43, wt3, ck3, cv3, W3, wr3, K3, pls3, P, q3, e3, w3, b1, b2, b3⟩ := h
  obtain ⟨h1, h2, h3, h4, h5, h6, h7, h8, h9⟩ := b2
  exact ⟨⟨ck3, cv3, h9⟩, by omega, by omega⟩
theorem word_test {i : Nat} (hi : i < 12) (hi2 : i = 4 ∨ i = 5) {rs rv : Int32} (h : ¬ fX12_isWord_r (Int32.ofNat i) rs rv 0 = 0) : ∀ ck cv, tokR ck cv rs rv → fX7_signHere_r 0 ck cv = (if i = 4 then -7 else -8) ∧ fX7_atSign_r (-20) ck cv = 0 ∧ ¬ ck = 0 := by
  intro ck cv ht
  rcases atW ht hi with ⟨a1, a2, a3⟩ | ⟨a1, a2, a3, a4, a5, a6⟩
  · exact absurd a2 h
  · subst a3 a4
    rcases hi2 with rfl | rfl <;> decide
theorem sign_test {c r : Int32} (hs : sgR c r) (hne : ¬ c = -20) {rs rv : Int32} (h : ¬ fX12_isSign_r r rs rv 0 = 0) : rv = r ∧ ∀ ck cv, tokR ck cv rs rv → fX7_signHere_r 0 ck cv = c ∧ fX7_atSign_r (-20) ck cv = 0 ∧ ¬ ck = 0 := by
  have hrv : rv = r := by
    unfold fX12_isSign_r at h
    rw [if_neg (show ¬ ¬ (0 : Int32) = 0 by decide)] at h
    by_cases g : rs = 3
    · rw [if_neg (show ¬ ¬ rs = 3 from fun z => z g)] at h
      by_cases g2 : rv = r
      · exact g2
      · rw [if_pos g2] at h; exact absurd rfl h
    · rw [if_pos g] at h; exact absurd rfl h
  refine ⟨hrv, fun ck cv ht => ?_⟩
  rcases atS ht hs with ⟨a1, a2, a3⟩ | ⟨a1, a2, a3, a4, a5, a6⟩
  · exact absurd a2 h
  · subst a3 a4
    refine ⟨sh_sign cv, ?_, by decide⟩
    unfold fX7_atSign_r
    rw [if_neg (show ¬ ¬ (4 : Int32) = 4 by decide), if_pos hne]
section
variable (hfu : 10000 ≤ fu) (hT : tapeR bytes tape) (hlen : len.toInt = L) (hL : L ≤ 600) {n : Nat} {C : Option (Int32 × Nat × Int32 × Int32 × Int32 × Int32 × Int32 × Int32 × Int32 × Int32 × Int32 × Int32 × (Nat → Int32) × Int32 × Int32 × (Nat → Int32) × (Nat → Int32))} {s : List Int32} {w q : Nat} {op cnt : Int32} {K ks kv : Nat → Int32} (hc0 : cnt.toInt ≤ 64) (hc0' : 0 ≤ cnt.toInt)
theorem or_loop (hfu : 10000 ≤ fu) (hT : tapeR bytes tape) (hlen : len.toInt = L) (hL : L ≤ 600) (hc0 : cnt.toInt ≤ 64) (hc0' : 0 ≤ cnt.toInt) (hLR : LR fu len bytes tape L n 1) (hs : topLt 1 s) (hdep : dep 1 op cnt n) : ∀ (m f : Nat) (sums1 cnt1 nx1 pl1 rs1 rv1 : Int32) (ks1 kv1 : Nat → Int32), (L : Int) < pl1.toInt + m → m < f → Fin fu len bytes L 1 2 C s w q op cnt K ks kv sums1 cnt1 nx1 pl1 rs1 rv1 ks1 kv1 → OutE fu len bytes L 1 1 (FX12_expression_L fu (FX12E fu len tape n) len tape f sums1 cnt1 nx1 pl1 rs1 rv1 0 (-1) op ks1 kv1) C s w q op cnt K ks kv := by
  intro m
  induction m with
  | zero =>
    intro f sums1 cnt1 nx1 pl1 rs1 rv1 ks1 kv1 hm hf hF
    have := (fin_tok hF).2
    omega
  | succ m ih =>
    intro f sums1 cnt1 nx1 pl1 rs1 rv1 ks1 kv1 hm hf hF
    obtain ⟨f, rfl⟩ : ∃ g, f = g + 1 := ⟨f - 1, by omega⟩
    rw [FX12_expression_L]
    by_cases c : fX12_isWord_r 4 rs1 rv1 0 = 0
    · rw [if_pos c]
      refine Or.inl ⟨_, _, _, _, _, _, _, _, rfl, fin_weak hF (by omega) (fun P ck cv ht hP he => ?_)⟩
      rcases he with z | z
      · left
        rcases sh_cases ht with ⟨a, -⟩ | ⟨a, b1, b2⟩ | ⟨-, a, -, b⟩ | ⟨a, -⟩
        · rw [a, rk_m8] at z; omega
        · rcases atW ht (i := 4) (by omega) with ⟨u1, u2, u3⟩ | ⟨u1, u2, u3⟩
          · exact absurd ⟨b1, b2⟩ u3
          · have : fX12_isWord_r 4 rs1 rv1 0 = 1 := u2
            rw [this] at c; exact absurd c (by decide)
        · rw [a] at z ⊢
          rcases rk_sg b with ⟨y, -⟩ | ⟨y, -⟩ | ⟨y, -⟩ | ⟨y, -⟩ <;> omega
        · rw [a, rk_no]; decide
      · exact Or.inr z
    · rw [if_neg c]
      have ht := word_test (i := 4) (by omega) (Or.inl rfl) c
      rw [if_pos rfl] at ht
      have key := step_bin hfu hT hlen hL (t := 1) (by omega) hLR (-7) 262 (Or.inr (Or.inr (Or.inr ⟨rfl, Or.inl ⟨rfl, rfl⟩⟩))) 1 2 1 2 (Or.inl rk_m7) (by rw [rk_m7]; omega) (by rw [rk_m7]; exact ⟨by omega, fun z => by omega⟩) (by decide) (fun P ck cv rs rv _ _ he => end_up (by decide) P (-7) ck cv he) hF ht (by rw [rk_m7]; exact hs) (by rw [rk_m7]; decide) (fun ck cv => Or.inl ⟨by decide, fun z => by omega⟩) hdep hc0 hc0' (fun a b c d e g fa fp i ks kv => FX12_expression_L fu (FX12E fu len tape n) len tape f a b c d e g fa fp i ks kv)
      rcases key with ⟨a1, a2, a3, a4, a5, a6, a7, a8, z1, z2, z3⟩ | ⟨a1, a2, a3, a4, a5, a6, fa, fp, op', a7, a8, z1, z2, z3, z4⟩
      · have := ih f a1 a2 a3 a4 a5 a6 a7 a8 (by omega) (by omega) z2
        rw [← z1] at this
        exact this
      · obtain ⟨f, rfl⟩ : ∃ g, f = g + 1 := ⟨f - 1, by omega⟩
        have hl := (L_fault (fu := fu) (len := len) (tape := tape) z2 (FX12E fu len tape n) f a1 a2 a3 a4 a5 a6 fp op' a7 a8).1
        exact Or.inr ⟨a1, a2, a3, a4, a5, a6, fa, fp, op', a7, a8, z1.trans hl, z2, z3, z4⟩
theorem and_loop (hfu : 10000 ≤ fu) (hT : tapeR bytes tape) (hlen : len.toInt = L) (hL : L ≤ 600) (hc0 : cnt.toInt ≤ 64) (hc0' : 0 ≤ cnt.toInt) (hLR : LR fu len bytes tape L n 2) (hs : topLt 2 s) (hdep : dep 2 op cnt n) : ∀ (m f : Nat) (sums1 cnt1 nx1 pl1 rs1 rv1 : Int32) (ks1 kv1 : Nat → Int32), (L : Int) < pl1.toInt + m → m < f → Fin fu len bytes L 2 3 C s w q op cnt K ks kv sums1 cnt1 nx1 pl1 rs1 rv1 ks1 kv1 → OutE fu len bytes L 2 2 (FX12_conjunction_L fu (FX12E fu len tape n) len tape f sums1 cnt1 nx1 pl1 rs1 rv1 0 (-1) op ks1 kv1) C s w q op cnt K ks kv := by
  intro m
  induction m with
  | zero =>
    intro f sums1 cnt1 nx1 pl1 rs1 rv1 ks1 kv1 hm hf hF
    have := (fin_tok hF).2
    omega
  | succ m ih =>
    intro f sums1 cnt1 nx1 pl1 rs1 rv1 ks1 kv1 hm hf hF
    obtain ⟨f, rfl⟩ : ∃ g, f = g + 1 := ⟨f - 1, by omega⟩
    rw [FX12_conjunction_L]
    by_cases c : fX12_isWord_r 5 rs1 rv1 0 = 0
    · rw [if_pos c]
      refine Or.inl ⟨_, _, _, _, _, _, _, _, rfl, fin_weak hF (by omega) (fun P ck cv ht hP he => ?_)⟩
      rcases he with z | z
      · left
        rcases sh_cases ht with ⟨a, b1, b2⟩ | ⟨a, -⟩ | ⟨-, a, -, b⟩ | ⟨a, -⟩
        · rcases atW ht (i := 5) (by omega) with ⟨u1, u2, u3⟩ | ⟨u1, u2, u3⟩
          · exact absurd ⟨b1, b2⟩ u3
          · have : fX12_isWord_r 5 rs1 rv1 0 = 1 := u2
            rw [this] at c; exact absurd c (by decide)
        · rw [a, rk_m7]; decide
        · rw [a] at z ⊢
          rcases rk_sg b with ⟨y, -⟩ | ⟨y, -⟩ | ⟨y, -⟩ | ⟨y, -⟩ <;> omega
        · rw [a, rk_no]; decide
      · exact Or.inr z
    · rw [if_neg c]
      have ht := word_test (i := 5) (by omega) (Or.inr rfl) c
      rw [if_neg (show ¬ (5 : Nat) = 4 by omega)] at ht
      have key := step_bin hfu hT hlen hL (t := 2) (by omega) hLR (-8) 261 (Or.inr (Or.inr (Or.inr ⟨rfl, Or.inr (Or.inl ⟨rfl, rfl⟩)⟩))) 2 3 2 3 (Or.inr (Or.inl rk_m8)) (by rw [rk_m8]; omega) (by rw [rk_m8]; exact ⟨by omega, fun z => by omega⟩) (by decide) (fun P ck cv rs rv _ _ he => end_up (by decide) P (-8) ck cv he) hF ht (by rw [rk_m8]; exact hs) (by rw [rk_m8]; decide) (fun ck cv => Or.inl ⟨by decide, fun z => by omega⟩) hdep hc0 hc0' (fun a b c d e g fa fp i ks kv => FX12_conjunction_L fu (FX12E fu len tape n) len tape f a b c d e g fa fp i ks kv)
      rcases key with ⟨a1, a2, a3, a4, a5, a6, a7, a8, z1, z2, z3⟩ | ⟨a1, a2, a3, a4, a5, a6, fa, fp, op', a7, a8, z1, z2, z3, z4⟩
      · have := ih f a1 a2 a3 a4 a5 a6 a7 a8 (by omega) (by omega) z2
        rw [← z1] at this
        exact this
      · obtain ⟨f, rfl⟩ : ∃ g, f = g + 1 := ⟨f - 1, by omega⟩
        have hl := (L_fault (fu := fu) (len := len) (tape := tape) z2 (FX12E fu len tape n) f a1 a2 a3 a4 a5 a6 fp op' a7 a8).2.1
        exact Or.inr ⟨a1, a2, a3, a4, a5, a6, fa, fp, op', a7, a8, z1.trans hl, z2, z3, z4⟩
end
end
