/-! ===== E: the class's loop and the reference's descent ===== -/
def KnE (ks kv : Nat → Int32) : Nat → Int32 → Int32 → Prop := fun i c _ => kRel c (ks (128 + i)) (kv (128 + i))
/-- a token, and how far it still is to the end -/
def tokS (L f : Nat) (v4 nx ck cv pl rs rv : Int32) (q e : Nat) : Prop := pl.toInt = q ∧ nx.toInt = e ∧ q ≤ e ∧ e ≤ L ∧ (¬ ck = 0 → q < e) ∧ L + 2 ≤ f + q ∧ (L : Int) ≤ v4.toInt + q ∧ v4.toInt ≤ 1000 ∧ tokR ck cv rs rv
theorem tok_v4 {L f : Nat} {v4 nx ck cv pl rs rv : Int32} {q e : Nat} (h : tokS L f v4 nx ck cv pl rs rv q e) : 0 ≤ v4.toInt ∧ 2 ≤ f := by
  obtain ⟨h1, h2, h3, h4, h5, h6, h7, h8, h9⟩ := h
  omega
theorem tok_adv {fu : Nat} (hfu : 10000 ≤ fu) {bytes tape : Nat → Int32} {len : Int32} {L : Nat} (hT : tapeR bytes tape) (hlen : len.toInt = L) (hL : L ≤ 600) {f : Nat} {v4 nx ck cv pl rs rv : Int32} {q e : Nat} (h : tokS L (f + 1) v4 nx ck cv pl rs rv q e) (hc : ¬ ck = 0) : ∃ (nx' ck' cv' pl' rs' rv' : Int32) (q' e' : Nat), FX5_advance fu len nx ck cv pl bytes = some (nx', ck', cv', pl') ∧ FX12_next fu len nx pl rs rv tape = some (nx', pl', rs', rv') ∧ tokS L f (v4 + (-1)) nx' ck' cv' pl' rs' rv' q' e' ∧ q < q' := by
  obtain ⟨h1, h2, h3, h4, h5, h6, h7, h8, h9⟩ := h
  have h5' := h5 hc
  obtain ⟨e', q', y, p', ck', cv', rs', rv', a1, a2, a3, a4, a5, a6, a7, a8, a9⟩ := adv_eq (fu := fu) hfu hT hlen hL ck cv pl rs pl rv e h4 nx h2
  have qm := t_m1
  generalize (-1 : Int32) = m at *
  have hs := i_add v4 m (by omega) (by omega)
  exact ⟨y, ck', cv', p', rs', rv', q', e', a8, a9, ⟨a5, a4, a2, a3, a6, by omega, by omega, by omega, a7⟩, by omega⟩
/-- a comparison lies in the pile, above it only sums and products -/
def stuck (P : List Int32) : Prop := ∃ (A : List Int32) (c : Int32) (B : List Int32), P = A ++ c :: B ∧ (∀ x, x ∈ A → 5 ≤ rk x) ∧ rk c = 4
theorem stuck_app {P : List Int32} (h : stuck P) (Q : List Int32) : stuck (P ++ Q) := by
  obtain ⟨A, c, B, h1, h2, h3⟩ := h
  exact ⟨A, c, B ++ Q, by rw [h1, List.append_assoc, List.cons_append], h2, h3⟩
def endT (r : Int) (P : List Int32) (ck cv : Int32) : Prop := rk (fX7_signHere_r 0 ck cv) < r ∨ (rk (fX7_signHere_r 0 ck cv) = 4 ∧ stuck P)
def frm (w : Nat) (ks kv ks' kv' : Nat → Int32) : Prop := ∀ q, (q < 128 + w ∨ 192 ≤ q) → ks' q = ks q ∧ kv' q = kv q
theorem frm_refl (w : Nat) (ks kv : Nat → Int32) : frm w ks kv ks kv := fun _ _ => ⟨rfl, rfl⟩
theorem frm_trans {w w' : Nat} {ks kv ks' kv' ks2 kv2 : Nat → Int32} (h : frm w ks kv ks' kv') (h' : frm w' ks' kv' ks2 kv2) (hw : w ≤ w') : frm w ks kv ks2 kv2 := by
  intro q hq
  obtain ⟨a1, a2⟩ := h q hq
  obtain ⟨b1, b2⟩ := h' q (by omega)
  exact ⟨b1.trans a1, b2.trans a2⟩
/-- behind an operand: P is still to be written; what stood before is kept -/
def Fin (fu : Nat) (len : Int32) (bytes : Nat → Int32) (L : Nat) (rP rE : Int) (C : Option (Int32 × Nat × Int32 × Int32 × Int32 × Int32 × Int32 × Int32 × Int32 × Int32 × Int32 × Int32 × (Nat → Int32) × Int32 × Int32 × (Nat → Int32) × (Nat → Int32))) (s : List Int32) (w q : Nat) (op cnt : Int32) (K ks kv : Nat → Int32) (sums' cnt' nx' pl' rs' rv' : Int32) (ks' kv' : Nat → Int32) : Prop :=
  ∃ (f' : Nat) (v4' wt' ck' cv' : Int32) (W' : Nat → Int32) (wr' : Int32) (K' pls' : Nat → Int32) (P : List Int32) (q' e' w' : Nat), C = CE fu 0 len bytes f' v4' wt' op 2 nx' ck' cv' pl' W' cnt' wr' K' pls' ∧ tokS L f' v4' nx' ck' cv' pl' rs' rv' q' e' ∧ q < q' ∧ pileOk (KnE ks' kv') W' wt' op cnt' wr' K' pls' s P w' ∧ sums'.toInt = w' + P.length ∧ (∀ c, c ∈ P → rP ≤ rk c) ∧ endT rE P ck' cv' ∧ w ≤ w' ∧ (∀ i, i < w → K' i = K i) ∧ frm w ks kv ks' kv' ∧ net K' w w' P ∧ cnt.toInt ≤ cnt'.toInt
def sbE (τ : Nat) : Int := if τ = 0 then 1 else if τ = 1 then 2 else if τ = 2 then 4 else if τ = 3 then 5 else if τ = 4 then 6 else 7
def lbE (τ : Nat) : Int := if τ = 0 then 1 else if τ = 1 then 2 else if τ = 2 then 3 else if τ = 3 then 5 else if τ = 4 then 6 else 7
def phOk (τ : Nat) (ph ck cv : Int32) : Prop := (ph = 0 ∧ (3 ≤ τ → fX7_atWord_r 486146048 ck cv = 0)) ∨ (ph = 1 ∧ 3 ≤ τ)
def dep (τ : Nat) (op cnt : Int32) (n : Nat) : Prop := 6 * (8 - op.toInt) + (64 - cnt.toInt) + (7 - (τ : Int)) ≤ n
def LR (fu : Nat) (len : Int32) (bytes tape : Nat → Int32) (L n τ : Nat) : Prop := ∀ (f : Nat) (v4 wt op ph nx ck cv pl : Int32) (W : Nat → Int32) (cnt wr : Int32) (K pls : Nat → Int32) (s : List Int32) (sums rs rv : Int32) (ks kv : Nat → Int32) (q e w : Nat), tokS L f v4 nx ck cv pl rs rv q e → pileOk (KnE ks kv) W wt op cnt wr K pls s [] w → sums.toInt = w → topLt (sbE τ) s → phOk τ ph ck cv → dep τ op cnt n →
  (∃ (sums' cnt' nx' pl' rs' rv' : Int32) (ks' kv' : Nat → Int32), FX12E fu len tape n τ sums cnt nx pl rs rv 0 (-1) op ks kv = some (sums', cnt', nx', pl', rs', rv', 0, -1, op, ks', kv') ∧ Fin fu len bytes L (lbE τ) (lbE τ) (CE fu 0 len bytes f v4 wt op ph nx ck cv pl W cnt wr K pls) s w q op cnt K ks kv sums' cnt' nx' pl' rs' rv' ks' kv') ∨
  (∃ (sums' cnt' nx' pl' rs' rv' fa fp op' : Int32) (ks' kv' : Nat → Int32), FX12E fu len tape n τ sums cnt nx pl rs rv 0 (-1) op ks kv = some (sums', cnt', nx', pl', rs', rv', fa, fp, op', ks', kv') ∧ ¬ fa = 0 ∧ CFail 0 (CE fu 0 len bytes f v4 wt op ph nx ck cv pl W cnt wr K pls) fa fp ∧ frm w ks kv ks' kv')
section
variable {fu : Nat} {len : Int32} {tape : Nat → Int32}
theorem go_fault {fa : Int32} (h : ¬ fa = 0) (at' pl rs rv : Int32) : FX12_goOn fu len at' pl rs rv fa tape = some (at', pl, rs, rv) := by
  unfold FX12_goOn
  rw [if_pos h]
theorem go_ok {at' pl rs rv a b c d : Int32} (h : FX12_next fu len at' pl rs rv tape = some (a, b, c, d)) : FX12_goOn fu len at' pl rs rv 0 tape = some (a, b, c, d) := by
  unfold FX12_goOn
  rw [if_neg (show ¬ ¬ (0 : Int32) = 0 by decide), h]
  rfl
theorem knot_fault {fa : Int32} (h : ¬ fa = 0) (cnt pl fp : Int32) : fX12_knot_f0_29 cnt fa = cnt ∧ fX12_knot_f0_37 cnt fa = fa ∧ fX12_knot_f0_38 cnt pl fa fp = fp := by
  unfold fX12_knot_f0_29 fX12_knot_f0_37 fX12_knot_f0_38
  rw [if_neg h, if_neg h, if_neg h]
  exact ⟨rfl, rfl, rfl⟩
theorem knot_ok {cnt : Int32} (h : cnt.toInt < 64) (pl fp : Int32) : fX12_knot_f0_29 cnt 0 = cnt + 1 ∧ fX12_knot_f0_37 cnt 0 = 0 ∧ fX12_knot_f0_38 cnt pl 0 fp = fp := by
  have t64 := t_64
  have c : ¬ cnt = 64 := by rw [i_eq]; omega
  unfold fX12_knot_f0_29 fX12_knot_f0_37 fX12_knot_f0_38
  rw [if_pos rfl, if_pos c, if_pos rfl, if_pos c, if_pos rfl, if_pos c]
  exact ⟨rfl, rfl, rfl⟩
theorem knot_full {cnt : Int32} (h : cnt.toInt = 64) (pl fp : Int32) : fX12_knot_f0_29 cnt 0 = cnt ∧ fX12_knot_f0_37 cnt 0 = 2 ∧ fX12_knot_f0_38 cnt pl 0 fp = pl := by
  have c : cnt = 64 := i_eq.mpr h
  have c' : ¬ ¬ cnt = 64 := fun z => z c
  unfold fX12_knot_f0_29 fX12_knot_f0_37 fX12_knot_f0_38 fX12_wrong_f0_37 fX12_wrong_f0_38
  rw [if_pos rfl, if_neg c', if_pos rfl, if_neg c', if_pos rfl, if_pos rfl, if_neg c', if_pos rfl]
  exact ⟨rfl, rfl, rfl⟩
theorem puts_fault {fa : Int32} (h : ¬ fa = 0) (a b sums : Int32) (ks kv : Nat → Int32) : FX12_puts fu a b sums fa ks kv = some (sums, ks, kv) := by
  unfold FX12_puts
  rw [if_neg h]
theorem puts_ok (a b sums : Int32) (ks kv : Nat → Int32) {w : Nat} (h : sums.toInt = w) (hw : w < 64) : FX12_puts fu a b sums 0 ks kv = some (sums + 1, upd ks (128 + w) a, upd kv (128 + w) b) := by
  have t : (128 : Int32).toInt = 128 := rfl
  have hs := i_add 128 sums (by omega) (by omega)
  have hi : pz_inb (128 + sums) 256 = true := i_inb.mpr (by omega)
  have hn : (128 + sums).toNatClampNeg = 128 + w := by have := i_nat (a := 128 + sums) (by omega); omega
  unfold FX12_puts
  rw [if_pos rfl, if_pos hi, if_pos hi, hn]
theorem isW_fault {fa : Int32} (h : ¬ fa = 0) (i rs rv : Int32) : fX12_isWord_r i rs rv fa = 0 := by
  unfold fX12_isWord_r
  rw [if_pos h]
theorem isS_fault {fa : Int32} (h : ¬ fa = 0) (i rs rv : Int32) : fX12_isSign_r i rs rv fa = 0 := by
  unfold fX12_isSign_r
  rw [if_pos h]
theorem E_0 (n : Nat) (a b c d e f g h i : Int32) (ks kv : Nat → Int32) : FX12E fu len tape (n + 1) 0 a b c d e f g h i ks kv = FX12_expression fu (FX12E fu len tape n) a b len c d e f g h i tape ks kv := rfl
theorem E_1 (n : Nat) (a b c d e f g h i : Int32) (ks kv : Nat → Int32) : FX12E fu len tape (n + 1) 1 a b c d e f g h i ks kv = FX12_conjunction fu (FX12E fu len tape n) a b len c d e f g h i tape ks kv := rfl
theorem E_2 (n : Nat) (a b c d e f g h i : Int32) (ks kv : Nat → Int32) : FX12E fu len tape (n + 1) 2 a b c d e f g h i ks kv = FX12_negation fu (FX12E fu len tape n) a b len c d e f g h i tape ks kv := rfl
theorem E_3 (n : Nat) (a b c d e f g h i : Int32) (ks kv : Nat → Int32) : FX12E fu len tape (n + 1) 3 a b c d e f g h i ks kv = FX12_sum fu (FX12E fu len tape n) a b len c d e f g h i tape ks kv := rfl
theorem E_4 (n : Nat) (a b c d e f g h i : Int32) (ks kv : Nat → Int32) : FX12E fu len tape (n + 1) 4 a b c d e f g h i ks kv = FX12_product fu (FX12E fu len tape n) a b len c d e f g h i tape ks kv := rfl
theorem E_5 (n : Nat) (a b c d e f g h i : Int32) (ks kv : Nat → Int32) : FX12E fu len tape (n + 1) 5 a b c d e f g h i ks kv = FX12_primary fu (FX12E fu len tape n) a b len c d e f g h i tape ks kv := rfl
/-- behind a FAULT nothing is done -/
theorem L_fault {fa : Int32} (h : ¬ fa = 0) (rec : Nat → Int32 → Int32 → Int32 → Int32 → Int32 → Int32 → Int32 → Int32 → Int32 → (Nat → Int32) → (Nat → Int32) → Option (Int32 × Int32 × Int32 × Int32 × Int32 × Int32 × Int32 × Int32 × Int32 × (Nat → Int32) × (Nat → Int32))) (f : Nat) (a b c d e g fp i : Int32) (ks kv : Nat → Int32) : FX12_expression_L fu rec len tape (f + 1) a b c d e g fa fp i ks kv = some (a, b, c, d, e, g, fa, fp, i, ks, kv) ∧ FX12_conjunction_L fu rec len tape (f + 1) a b c d e g fa fp i ks kv = some (a, b, c, d, e, g, fa, fp, i, ks, kv) ∧ FX12_sum_L fu rec len tape (f + 1) a b c d e g fa fp i ks kv = some (a, b, c, d, e, g, fa, fp, i, ks, kv) ∧ FX12_product_L fu rec len tape (f + 1) a b c d e g fa fp i ks kv = some (a, b, c, d, e, g, fa, fp, i, ks, kv) := by
  have z : ¬ ¬ (0 : Int32) = 0 := by decide
  refine ⟨?_, ?_, ?_, ?_⟩
  · rw [FX12_expression_L, isW_fault h, if_pos rfl]
  · rw [FX12_conjunction_L, isW_fault h, if_pos rfl]
  · rw [FX12_sum_L, isS_fault h, if_neg z, isS_fault h, if_pos rfl]
  · rw [FX12_product_L, isS_fault h, if_neg z, isS_fault h, if_pos rfl]
theorem E_fault (hfu : 10 ≤ fu) {fa : Int32} (h : ¬ fa = 0) : ∀ (τ' n : Nat), τ' ≤ 5 → τ' + 1 ≤ n → ∀ (a b c d e g fp i : Int32) (ks kv : Nat → Int32), FX12E fu len tape n (5 - τ') a b c d e g fa fp i ks kv = some (a, b, c, d, e, g, fa, fp, i, ks, kv) := by
  obtain ⟨f0, hf0⟩ : ∃ f0, fu = f0 + 1 := ⟨fu - 1, by omega⟩
  intro τ'
  induction τ' with
  | zero =>
    intro n _ hn a b c d e g fp i ks kv
    obtain ⟨n, rfl⟩ : ∃ m, n = m + 1 := ⟨n - 1, by omega⟩
    rw [show 5 - 0 = 5 from rfl, E_5]
    unfold FX12_primary
    rw [if_neg h]
  | succ τ' ih =>
    intro n hτ hn a b c d e g fp i ks kv
    obtain ⟨n, rfl⟩ : ∃ m, n = m + 1 := ⟨n - 1, by omega⟩
    have hr := ih n (by omega) (by omega) a b c d e g fp i ks kv
    have hL : ∀ f, fu = f + 1 → _ := fun f _ => L_fault (fu := fu) (len := len) (tape := tape) h (FX12E fu len tape n) f a b c d e g fp i ks kv
    obtain ⟨l1, l2, l3, l4⟩ := hL f0 hf0
    rw [← hf0] at l1 l2 l3 l4
    have hc : τ' = 0 ∨ τ' = 1 ∨ τ' = 2 ∨ τ' = 3 ∨ τ' = 4 := by omega
    rcases hc with rfl | rfl | rfl | rfl | rfl
    · rw [show 5 - (0 + 1) = 4 from rfl, E_4]
      unfold FX12_product
      rw [hr, Option.bind_some]
      exact l4
    · rw [show 5 - (1 + 1) = 3 from rfl, E_3]
      unfold FX12_sum
      rw [hr, Option.bind_some]
      exact l3
    · rw [show 5 - (2 + 1) = 2 from rfl, E_2]
      unfold FX12_negation
      rw [isW_fault h, if_pos rfl, hr, Option.bind_some]
      show (if ¬ fa = 0 then _ else _) = _
      rw [if_pos h]
    · rw [show 5 - (3 + 1) = 1 from rfl, E_1]
      unfold FX12_conjunction
      rw [hr, Option.bind_some]
      exact l2
    · rw [show 5 - (4 + 1) = 0 from rfl, E_0]
      unfold FX12_expression
      rw [hr, Option.bind_some]
      exact l1
theorem E_fault' (hfu : 10 ≤ fu) {fa : Int32} (h : ¬ fa = 0) {τ n : Nat} (hτ : τ ≤ 5) (hn : 6 ≤ n + τ) (a b c d e g fp i : Int32) (ks kv : Nat → Int32) : FX12E fu len tape n τ a b c d e g fa fp i ks kv = some (a, b, c, d, e, g, fa, fp, i, ks, kv) := by
  have := E_fault (len := len) (tape := tape) hfu h (5 - τ) n (by omega) (by omega) a b c d e g fp i ks kv
  rw [show 5 - (5 - τ) = τ by omega] at this
  exact this
end
