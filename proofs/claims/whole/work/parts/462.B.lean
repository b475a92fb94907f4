/-! ===== B: the class's loop and the reference's descent ===== -/
def bRel (c s v : Int32) : Prop := (s = 3 ∧ c = v ∧ 0 ≤ c.toInt) ∨ (s = 2 ∧ v = 260 ∧ c = -6) ∨ (s = 2 ∧ v = 261 ∧ c = -8) ∨ (s = 2 ∧ v = 262 ∧ c = -7)
def KnB (ks kv kp : Nat → Int32) : Nat → Int32 → Int32 → Prop := fun i c p => bRel c (ks (192 + i)) (kv (192 + i)) ∧ (0 ≤ c.toInt → p = kp (192 + i) ∧ 0 ≤ p.toInt)
def frmB (w : Nat) (ks kv kp ks' kv' kp' : Nat → Int32) : Prop := ∀ q, q < 192 + w → ks' q = ks q ∧ kv' q = kv q ∧ kp' q = kp q
theorem frmB_refl (w : Nat) (ks kv kp : Nat → Int32) : frmB w ks kv kp ks kv kp := fun _ _ => ⟨rfl, rfl, rfl⟩
theorem frmB_trans {w w' : Nat} {ks kv kp ks' kv' kp' ks2 kv2 kp2 : Nat → Int32} (h : frmB w ks kv kp ks' kv' kp') (h' : frmB w' ks' kv' kp' ks2 kv2 kp2) (hw : w ≤ w') : frmB w ks kv kp ks2 kv2 kp2 := by
  intro q hq
  obtain ⟨a1, a2, a3⟩ := h q hq
  obtain ⟨b1, b2, b3⟩ := h' q (by omega)
  exact ⟨b1.trans a1, b2.trans a2, b3.trans a3⟩
def endB (r : Int) (ck cv : Int32) : Prop := rk (fX7_signHere_r 1 ck cv) < r
def FinB (fu : Nat) (len : Int32) (bytes : Nat → Int32) (L : Nat) (rP rE : Int) (C : Option (Int32 × Nat × Int32 × Int32 × Int32 × Int32 × Int32 × Int32 × Int32 × Int32 × Int32 × Int32 × (Nat → Int32) × Int32 × Int32 × (Nat → Int32) × (Nat → Int32))) (s : List Int32) (w q : Nat) (op cnt : Int32) (K ks kv kp : Nat → Int32) (sums' cnt' nx' pl' rs' rv' : Int32) (ks' kv' kp' : Nat → Int32) : Prop :=
  ∃ (f' : Nat) (v4' wt' ck' cv' : Int32) (W' : Nat → Int32) (wr' : Int32) (K' pls' : Nat → Int32) (P : List Int32) (q' e' w' : Nat), C = CE fu 1 len bytes f' v4' wt' op 2 nx' ck' cv' pl' W' cnt' wr' K' pls' ∧ tokS L f' v4' nx' ck' cv' pl' rs' rv' q' e' ∧ q < q' ∧ pileOk (KnB ks' kv' kp') W' wt' op cnt' wr' K' pls' s P w' ∧ sums'.toInt = w' + P.length ∧ (∀ c, c ∈ P → rP ≤ rk c) ∧ endB rE ck' cv' ∧ w ≤ w' ∧ (∀ i, i < w → K' i = K i) ∧ frmB w ks kv kp ks' kv' kp' ∧ net K' w w' P ∧ cnt.toInt ≤ cnt'.toInt
def sbB (τ : Nat) : Int := if τ = 0 then 1 else if τ = 1 then 2 else 4
def lbB (τ : Nat) : Int := if τ = 0 then 1 else if τ = 1 then 2 else 3
def depB (τ : Nat) (op cnt : Int32) (n : Nat) : Prop := 3 * (8 - op.toInt) + (64 - cnt.toInt) + (4 - (τ : Int)) ≤ n
def OutB (fu : Nat) (len : Int32) (bytes : Nat → Int32) (L : Nat) (rP rE : Int) (E : Option (Int32 × Int32 × Int32 × Int32 × Int32 × Int32 × Int32 × Int32 × Int32 × (Nat → Int32) × (Nat → Int32) × (Nat → Int32))) (C : Option (Int32 × Nat × Int32 × Int32 × Int32 × Int32 × Int32 × Int32 × Int32 × Int32 × Int32 × Int32 × (Nat → Int32) × Int32 × Int32 × (Nat → Int32) × (Nat → Int32))) (s : List Int32) (w q : Nat) (op cnt : Int32) (K ks kv kp : Nat → Int32) : Prop :=
  (∃ (sums' cnt' nx' pl' rs' rv' : Int32) (ks' kv' kp' : Nat → Int32), E = some (sums', cnt', nx', pl', rs', rv', 0, -1, op, ks', kv', kp') ∧ FinB fu len bytes L rP rE C s w q op cnt K ks kv kp sums' cnt' nx' pl' rs' rv' ks' kv' kp') ∨
  (∃ (sums' cnt' nx' pl' rs' rv' fa fp op' : Int32) (ks' kv' kp' : Nat → Int32), E = some (sums', cnt', nx', pl', rs', rv', fa, fp, op', ks', kv', kp') ∧ ¬ fa = 0 ∧ CFail 1 C fa fp ∧ frmB w ks kv kp ks' kv' kp')
def LB (fu : Nat) (len : Int32) (bytes tape : Nat → Int32) (L n τ : Nat) : Prop := ∀ (f : Nat) (v4 wt op nx ck cv pl : Int32) (W : Nat → Int32) (cnt wr : Int32) (K pls : Nat → Int32) (s : List Int32) (sums rs rv : Int32) (ks kv kp : Nat → Int32) (q e w : Nat), tokS L f v4 nx ck cv pl rs rv q e → pileOk (KnB ks kv kp) W wt op cnt wr K pls s [] w → sums.toInt = w → topLt (sbB τ) s → depB τ op cnt n → OutB fu len bytes L (lbB τ) (lbB τ) (FX12B fu len tape n τ sums cnt nx pl rs rv 0 (-1) op ks kv kp) (CE fu 1 len bytes f v4 wt op 0 nx ck cv pl W cnt wr K pls) s w q op cnt K ks kv kp
theorem shB_cases {ck cv rs rv : Int32} (h : tokR ck cv rs rv) : (fX7_signHere_r 1 ck cv = -8 ∧ ck = 1 ∧ cv = wcode 5) ∨ (fX7_signHere_r 1 ck cv = -7 ∧ ck = 1 ∧ cv = wcode 4) ∨ (fX7_signHere_r 1 ck cv = -2147483648 ∧ ¬ (ck = 1 ∧ cv = wcode 5) ∧ ¬ (ck = 1 ∧ cv = wcode 4)) := by
  have e5 : (48365568 : Int32) = wcode 5 := rfl
  have e4 : (522190848 : Int32) = wcode 4 := rfl
  unfold fX7_signHere_r
  rw [e5, e4]
  rcases atW h (i := 5) (by omega) with ⟨a1, a2, a3⟩ | ⟨a1, a2, a3, a4, a5, a6⟩
  · rw [a1, if_pos rfl]
    rcases atW h (i := 4) (by omega) with ⟨b1, b2, b3⟩ | ⟨b1, b2, b3, b4, b5, b6⟩
    · rw [b1, if_pos rfl]
      refine Or.inr (Or.inr ⟨?_, a3, b3⟩)
      by_cases c : ck = 4
      · rw [if_neg (show ¬ ¬ ck = 4 from fun z => z c), if_pos (show ¬ (1 : Int32) = 0 by decide)]
      · rw [if_pos c]
    · rw [b1, if_neg (show ¬ (1 : Int32) = 0 by decide)]
      exact Or.inr (Or.inl ⟨rfl, b3, b4⟩)
  · rw [a1, if_neg (show ¬ (1 : Int32) = 0 by decide)]
    exact Or.inl ⟨rfl, a3, a4⟩
theorem shB_3 {ck cv rs rv : Int32} (h : tokR ck cv rs rv) : endB 3 ck cv := by
  unfold endB
  rcases shB_cases h with ⟨a, -⟩ | ⟨a, -⟩ | ⟨a, -⟩
  · rw [a, rk_m8]; decide
  · rw [a, rk_m7]; decide
  · rw [a, rk_no]; decide
section
variable {fu : Nat} {len : Int32} {tape : Nat → Int32}
theorem bk_fault {fa : Int32} (h : ¬ fa = 0) (cnt pl fp : Int32) : fX12_bitKnot_f0_30 cnt fa = cnt ∧ fX12_bitKnot_f0_37 cnt fa = fa ∧ fX12_bitKnot_f0_38 cnt pl fa fp = fp := by
  unfold fX12_bitKnot_f0_30 fX12_bitKnot_f0_37 fX12_bitKnot_f0_38
  rw [if_neg h, if_neg h, if_neg h]
  exact ⟨rfl, rfl, rfl⟩
theorem bk_ok {cnt : Int32} (h : cnt.toInt < 64) (pl fp : Int32) : fX12_bitKnot_f0_30 cnt 0 = cnt + 1 ∧ fX12_bitKnot_f0_37 cnt 0 = 0 ∧ fX12_bitKnot_f0_38 cnt pl 0 fp = fp := by
  have t64 := t_64
  have c : ¬ cnt = 64 := by rw [i_eq]; omega
  unfold fX12_bitKnot_f0_30 fX12_bitKnot_f0_37 fX12_bitKnot_f0_38
  rw [if_pos rfl, if_pos c, if_pos rfl, if_pos c, if_pos rfl, if_pos c]
  exact ⟨rfl, rfl, rfl⟩
theorem bk_full {cnt : Int32} (h : cnt.toInt = 64) (pl fp : Int32) : fX12_bitKnot_f0_30 cnt 0 = cnt ∧ fX12_bitKnot_f0_37 cnt 0 = 2 ∧ fX12_bitKnot_f0_38 cnt pl 0 fp = pl := by
  have c : cnt = 64 := i_eq.mpr h
  have c' : ¬ ¬ cnt = 64 := fun z => z c
  unfold fX12_bitKnot_f0_30 fX12_bitKnot_f0_37 fX12_bitKnot_f0_38 fX12_wrong_f0_37 fX12_wrong_f0_38
  rw [if_pos rfl, if_neg c', if_pos rfl, if_neg c', if_pos rfl, if_pos rfl, if_neg c', if_pos rfl]
  exact ⟨rfl, rfl, rfl⟩
theorem lays_fault {fa : Int32} (h : ¬ fa = 0) (a b c sums : Int32) (ks kv kp : Nat → Int32) : FX12_lays fu a b c sums fa ks kv kp = some (sums, ks, kv, kp) := by
  unfold FX12_lays
  rw [if_neg h]
theorem lays_ok (a b c sums : Int32) (ks kv kp : Nat → Int32) {w : Nat} (h : sums.toInt = w) (hw : w < 64) : FX12_lays fu a b c sums 0 ks kv kp = some (sums + 1, upd ks (192 + w) a, upd kv (192 + w) b, upd kp (192 + w) c) := by
  have t : (192 : Int32).toInt = 192 := rfl
  have hs := i_add 192 sums (by omega) (by omega)
  have hi : pz_inb (192 + sums) 256 = true := i_inb.mpr (by omega)
  have hn : (192 + sums).toNatClampNeg = 192 + w := by have := i_nat (a := 192 + sums) (by omega); omega
  unfold FX12_lays
  rw [if_pos rfl, if_pos hi, if_pos hi, if_pos hi, hn]
theorem B_0 (n : Nat) (a b c d e f g h i : Int32) (ks kv kp : Nat → Int32) : FX12B fu len tape (n + 1) 0 a b c d e f g h i ks kv kp = FX12_either fu (FX12B fu len tape n) a b len c d e f g h i tape ks kv kp := rfl
theorem B_1 (n : Nat) (a b c d e f g h i : Int32) (ks kv kp : Nat → Int32) : FX12B fu len tape (n + 1) 1 a b c d e f g h i ks kv kp = FX12_both fu (FX12B fu len tape n) a b len c d e f g h i tape ks kv kp := rfl
theorem B_2 (n : Nat) (a b c d e f g h i : Int32) (ks kv kp : Nat → Int32) : FX12B fu len tape (n + 1) 2 a b c d e f g h i ks kv kp = FX12_holding fu (FX12B fu len tape n) a b len c d e f g h i tape ks kv kp := rfl
theorem LB_fault {fa : Int32} (h : ¬ fa = 0) (rec : Nat → Int32 → Int32 → Int32 → Int32 → Int32 → Int32 → Int32 → Int32 → Int32 → (Nat → Int32) → (Nat → Int32) → (Nat → Int32) → Option (Int32 × Int32 × Int32 × Int32 × Int32 × Int32 × Int32 × Int32 × Int32 × (Nat → Int32) × (Nat → Int32) × (Nat → Int32))) (f : Nat) (a b c d e g fp i : Int32) (ks kv kp : Nat → Int32) : FX12_either_L fu rec len tape (f + 1) a b c d e g fa fp i ks kv kp = some (a, b, c, d, e, g, fa, fp, i, ks, kv, kp) ∧ FX12_both_L fu rec len tape (f + 1) a b c d e g fa fp i ks kv kp = some (a, b, c, d, e, g, fa, fp, i, ks, kv, kp) := by
  refine ⟨?_, ?_⟩
  · rw [FX12_either_L, isW_fault h, if_pos rfl]
  · rw [FX12_both_L, isW_fault h, if_pos rfl]
theorem B_fault2 {fa : Int32} (h : ¬ fa = 0) (n : Nat) (a b c d e g fp i : Int32) (ks kv kp : Nat → Int32) : FX12B fu len tape (n + 1) 2 a b c d e g fa fp i ks kv kp = some (a, b, c, d, e, g, fa, fp, i, ks, kv, kp) := by
  rw [B_2]
  unfold FX12_holding
  rw [if_neg h]
theorem B_fault1 (hfu : 10 ≤ fu) {fa : Int32} (h : ¬ fa = 0) (n : Nat) (a b c d e g fp i : Int32) (ks kv kp : Nat → Int32) : FX12B fu len tape (n + 2) 1 a b c d e g fa fp i ks kv kp = some (a, b, c, d, e, g, fa, fp, i, ks, kv, kp) := by
  obtain ⟨f0, hf0⟩ : ∃ f0, fu = f0 + 1 := ⟨fu - 1, by omega⟩
  have hl := fun f => (LB_fault (fu := fu) (len := len) (tape := tape) h (FX12B fu len tape (n + 1)) f a b c d e g fp i ks kv kp).2
  have hl0 := hl f0
  rw [← hf0] at hl0
  rw [B_1]
  unfold FX12_both
  rw [B_fault2 h, Option.bind_some]
  exact hl0
theorem B_fault (hfu : 10 ≤ fu) {fa : Int32} (h : ¬ fa = 0) {τ n : Nat} (hτ : τ = 1 ∨ τ = 2) (hn : 3 ≤ n + τ) (a b c d e g fp i : Int32) (ks kv kp : Nat → Int32) : FX12B fu len tape n τ a b c d e g fa fp i ks kv kp = some (a, b, c, d, e, g, fa, fp, i, ks, kv, kp) := by
  rcases hτ with rfl | rfl
  · obtain ⟨m, rfl⟩ : ∃ m, n = m + 2 := ⟨n - 2, by omega⟩
    exact B_fault1 hfu h m a b c d e g fp i ks kv kp
  · obtain ⟨m, rfl⟩ : ∃ m, n = m + 1 := ⟨n - 1, by omega⟩
    exact B_fault2 h m a b c d e g fp i ks kv kp
end
def binC (fu : Nat) (rec : Nat → Int32 → Int32 → Int32 → Int32 → Int32 → Int32 → Int32 → Int32 → Int32 → (Nat → Int32) → (Nat → Int32) → (Nat → Int32) → Option (Int32 × Int32 × Int32 × Int32 × Int32 × Int32 × Int32 × Int32 × Int32 × (Nat → Int32) × (Nat → Int32) × (Nat → Int32))) (size0 : Int32) (tape0 : Nat → Int32) (t : Nat) (sv : Int32) (k : Int32 → Int32 → Int32 → Int32 → Int32 → Int32 → Int32 → Int32 → Int32 → (Nat → Int32) → (Nat → Int32) → (Nat → Int32) → Option (Int32 × Int32 × Int32 × Int32 × Int32 × Int32 × Int32 × Int32 × Int32 × (Nat → Int32) × (Nat → Int32) × (Nat → Int32))) (bitsNew0 bitsCounted0 at0 place0 sort0 value0 fault0 faultPlace0 open0 : Int32) (knotSort0 knotValue0 knotPlace0 : Nat → Int32) := (FX12_goOn fu size0 at0 place0 sort0 value0 (fX12_bitKnot_f0_37 bitsCounted0 fault0) tape0).bind (fun y3z => (rec t bitsNew0 (fX12_bitKnot_f0_30 bitsCounted0 fault0) y3z.1 y3z.2.1 y3z.2.2.1 y3z.2.2.2 (fX12_bitKnot_f0_37 bitsCounted0 fault0) (fX12_bitKnot_f0_38 bitsCounted0 place0 fault0 faultPlace0) open0 knotSort0 knotValue0 knotPlace0).bind (fun y4z => (FX12_lays fu (2 : Int32) sv (0 : Int32) y4z.1 y4z.2.2.2.2.2.2.1 y4z.2.2.2.2.2.2.2.2.2.1 y4z.2.2.2.2.2.2.2.2.2.2.1 y4z.2.2.2.2.2.2.2.2.2.2.2).bind (fun y5z => k y5z.1 y4z.2.1 y4z.2.2.1 y4z.2.2.2.1 y4z.2.2.2.2.1 y4z.2.2.2.2.2.1 y4z.2.2.2.2.2.2.1 y4z.2.2.2.2.2.2.2.1 y4z.2.2.2.2.2.2.2.2.1 y5z.2.1 y5z.2.2.1 y5z.2.2.2)))
section
variable {fu : Nat} {len : Int32} {bytes tape : Nat → Int32} {L : Nat}
theorem stepB_push (hfu : 10000 ≤ fu) {n t : Nat} (hLR : LB fu len bytes tape L n t) {C : Option (Int32 × Nat × Int32 × Int32 × Int32 × Int32 × Int32 × Int32 × Int32 × Int32 × Int32 × Int32 × (Nat → Int32) × Int32 × Int32 × (Nat → Int32) × (Nat → Int32))} {s : List Int32} {w q : Nat} {op cnt0 : Int32} {K0 ks kv kp : Nat → Int32} {sums1 cnt1 nx1 pl1 rs1 rv1 : Int32} {ks1 kv1 kp1 : Nat → Int32} (sg sv : Int32) (hsv : (sg = -6 ∧ sv = 260) ∨ (sg = -8 ∧ sv = 261) ∨ (sg = -7 ∧ sv = 262)) (rP rE : Int) (hrP : rP ≤ rk sg) (hrL : rP ≤ lbB t) (hrE : lbB t ≤ rE) (hfr : frmB w ks kv kp ks1 kv1 kp1) (hc00 : 0 ≤ cnt0.toInt) (hcnt0 : cnt0.toInt ≤ cnt1.toInt) (hc64 : cnt1.toInt < 64)
    {f2 : Nat} {v42 wt2 nx2 ck2 cv2 pl2 rs2 rv2 : Int32} {W2 : Nat → Int32} {wr2 : Int32} {K2 pls2 : Nat → Int32} {q2 e2 w2 : Nat} (hC : C = CE fu 1 len bytes f2 v42 wt2 op 0 nx2 ck2 cv2 pl2 W2 (cnt1 + 1) wr2 K2 pls2) (hnx : FX12_next fu len nx1 pl1 rs1 rv1 tape = some (nx2, pl2, rs2, rv2)) (htok : tokS L f2 v42 nx2 ck2 cv2 pl2 rs2 rv2 q2 e2) (hq : q < q2) (hpile : pileOk (KnB ks1 kv1 kp1) W2 wt2 op (cnt1 + 1) wr2 K2 pls2 (sg :: s) [] w2) (hsums : sums1.toInt = w2) (hw : w ≤ w2) (hK : ∀ i, i < w → K2 i = K0 i) (htop : topLt (sbB t) (sg :: s)) (hdep : depB t op (cnt1 + 1) n)
    (hnet : ∀ (K' : Nat → Int32) (w' : Nat) (P : List Int32), (∀ i, i < w2 → K' i = K2 i) → net K' w2 w' P → net K' w w' (P ++ [sg]))
    (k : Int32 → Int32 → Int32 → Int32 → Int32 → Int32 → Int32 → Int32 → Int32 → (Nat → Int32) → (Nat → Int32) → (Nat → Int32) → Option (Int32 × Int32 × Int32 × Int32 × Int32 × Int32 × Int32 × Int32 × Int32 × (Nat → Int32) × (Nat → Int32) × (Nat → Int32))) :
    (∃ (sums' cnt' nx' pl' rs' rv' : Int32) (ks' kv' kp' : Nat → Int32), binC fu (FX12B fu len tape n) len tape t sv k sums1 cnt1 nx1 pl1 rs1 rv1 0 (-1) op ks1 kv1 kp1 = k sums' cnt' nx' pl' rs' rv' 0 (-1) op ks' kv' kp' ∧ FinB fu len bytes L rP rE C s w q op cnt0 K0 ks kv kp sums' cnt' nx' pl' rs' rv' ks' kv' kp' ∧ pl2.toInt < pl'.toInt) ∨
    (∃ (sums' cnt' nx' pl' rs' rv' fa fp op' : Int32) (ks' kv' kp' : Nat → Int32), binC fu (FX12B fu len tape n) len tape t sv k sums1 cnt1 nx1 pl1 rs1 rv1 0 (-1) op ks1 kv1 kp1 = k sums' cnt' nx' pl' rs' rv' fa fp op' ks' kv' kp' ∧ ¬ fa = 0 ∧ CFail 1 C fa fp ∧ frmB w ks kv kp ks' kv' kp') := by
  have q1 := t_1
  obtain ⟨k1, k2, k3⟩ := bk_ok hc64 pl1 (-1)
  have hc1 := i_add cnt1 1 (by omega) (by omega)
  have hsg : bRel sg 2 sv ∧ ¬ sg = -19 ∧ 1 ≤ rk sg ∧ ¬ 0 ≤ sg.toInt := by
    unfold bRel
    rcases hsv with ⟨rfl, rfl⟩ | ⟨rfl, rfl⟩ | ⟨rfl, rfl⟩
    · exact ⟨Or.inr (Or.inl ⟨rfl, rfl, rfl⟩), by decide, by decide, by decide⟩
    · exact ⟨Or.inr (Or.inr (Or.inl ⟨rfl, rfl, rfl⟩)), by decide, by decide, by decide⟩
    · exact ⟨Or.inr (Or.inr (Or.inr ⟨rfl, rfl, rfl⟩)), by decide, by decide, by decide⟩
  obtain ⟨hsr, hsg19, hrg, hneg⟩ := hsg
  unfold binC
  rw [k1, k2, k3, go_ok hnx, Option.bind_some]
  rcases hLR f2 v42 wt2 op nx2 ck2 cv2 pl2 W2 (cnt1 + 1) wr2 K2 pls2 (sg :: s) sums1 rs2 rv2 ks1 kv1 kp1 q2 e2 w2 htok hpile hsums htop hdep with ⟨sums', cnt', nx', pl', rs', rv', ks', kv', kp', a1, a2⟩ | ⟨sums', cnt', nx', pl', rs', rv', fa, fp, op', ks', kv', kp', a1, a2, a3, a4⟩
  · rw [a1, Option.bind_some]
    obtain ⟨f3, v43, wt3, ck3, cv3, W3, wr3, K3, pls3, P, q3, e3, w3, b1, b2, b3, b4, b5, b6, b7, b8, b9, b10, b11, b12⟩ := a2
    obtain ⟨p1, p2, p3, p4, p5, p6, p7, p8, p9, p10⟩ := b4
    have hns : nsg (sg :: s) = 1 + nsg s := by rw [nsg, if_neg hsg19]
    have hno : nop (sg :: s) = nop s := by rw [nop, if_neg hsg19, Nat.zero_add]
    rw [hns] at p4
    rw [hno] at p6 p7
    have hlt : w3 + P.length < 64 := by omega
    have hpt := lays_ok (fu := fu) 2 sv 0 sums' ks' kv' kp' (w := w3 + P.length) (by omega) hlt
    have hs1 := i_add sums' 1 (by omega) (by omega)
    refine Or.inl ⟨sums' + 1, cnt', nx', pl', rs', rv', upd ks' (192 + (w3 + P.length)) 2, upd kv' (192 + (w3 + P.length)) sv, upd kp' (192 + (w3 + P.length)) 0, ?_, ?_, ?_⟩
    · show (FX12_lays fu 2 sv 0 sums' 0 ks' kv' kp').bind _ = _
      rw [hpt]
      rfl
    · have hup : ∀ i, i < w3 + P.length → upd ks' (192 + (w3 + P.length)) 2 (192 + i) = ks' (192 + i) ∧ upd kv' (192 + (w3 + P.length)) sv (192 + i) = kv' (192 + i) ∧ upd kp' (192 + (w3 + P.length)) 0 (192 + i) = kp' (192 + i) := fun i hi => ⟨up_ne ks' _ (by omega), up_ne kv' _ (by omega), up_ne kp' _ (by omega)⟩
      have hkn : ∀ i, i < w3 + P.length → ∀ c p, KnB ks' kv' kp' i c p → KnB (upd ks' (192 + (w3 + P.length)) 2) (upd kv' (192 + (w3 + P.length)) sv) (upd kp' (192 + (w3 + P.length)) 0) i c p := by
        intro i hi c p hz
        obtain ⟨u1, u2, u3⟩ := hup i hi
        unfold KnB
        rw [u1, u2, u3]
        exact hz
      refine ⟨f3, v43, wt3, ck3, cv3, W3, wr3, K3, pls3, P ++ [sg], q3, e3, w3, ?_, b2, by omega, ⟨?_, p2, p3, ?_, p5, p6, p7, ?_, ?_, ?_⟩, ?_, ?_, ?_, by omega, fun i hi => by rw [b9 i (by omega)]; exact hK i hi, ?_, hnet K3 w3 P b9 b11, by omega⟩
      · rw [hC]; exact b1
      · rw [List.append_assoc]; exact p1
      · rw [List.length_append, List.length_cons, List.length_nil]; omega
      · intro c hc
        rcases List.mem_append.mp hc with z | z
        · exact p8 c z
        · rw [List.mem_singleton.mp z]; exact hrg
      · intro i hi
        exact hkn i (by omega) _ _ (p9 i hi)
      · rw [outR_app]
        refine ⟨outR_congr P w3 (fun i h1 h2 c p hz => hkn i (by omega) c p hz) p10, ?_, trivial⟩
        intro p
        unfold KnB
        rw [up_eq, up_eq]
        exact ⟨hsr, fun z => absurd z hneg⟩
      · rw [List.length_append, List.length_cons, List.length_nil]; omega
      · intro c hc
        rcases List.mem_append.mp hc with z | z
        · have := b6 c z
          omega
        · rw [List.mem_singleton.mp z]; exact hrP
      · have b7' : rk (fX7_signHere_r 1 ck3 cv3) < lbB t := b7
        show rk (fX7_signHere_r 1 ck3 cv3) < rE
        omega
      · exact frmB_trans hfr (frmB_trans b10 (fun x hx => ⟨up_ne ks' _ (by omega), up_ne kv' _ (by omega), up_ne kp' _ (by omega)⟩) (Nat.le_refl _)) hw
    · have := b2.1
      have := htok.1
      omega
  · rw [a1, Option.bind_some]
    refine Or.inr ⟨sums', cnt', nx', pl', rs', rv', fa, fp, op', ks', kv', kp', ?_, a2, by rw [hC]; exact a3, frmB_trans hfr a4 hw⟩
    show (FX12_lays fu 2 sv 0 sums' fa ks' kv' kp').bind _ = _
    rw [lays_fault a2]
    rfl
theorem stepB_full (hfu : 10000 ≤ fu) {n t : Nat} (ht : t = 1 ∨ t = 2) (hn : 3 ≤ n + t) {sums1 cnt1 nx1 pl1 rs1 rv1 : Int32} {op : Int32} {ks1 kv1 kp1 : Nat → Int32} (sv : Int32) (hc64 : cnt1.toInt = 64) (k : Int32 → Int32 → Int32 → Int32 → Int32 → Int32 → Int32 → Int32 → Int32 → (Nat → Int32) → (Nat → Int32) → (Nat → Int32) → Option (Int32 × Int32 × Int32 × Int32 × Int32 × Int32 × Int32 × Int32 × Int32 × (Nat → Int32) × (Nat → Int32) × (Nat → Int32))) : binC fu (FX12B fu len tape n) len tape t sv k sums1 cnt1 nx1 pl1 rs1 rv1 0 (-1) op ks1 kv1 kp1 = k sums1 cnt1 nx1 pl1 rs1 rv1 2 pl1 op ks1 kv1 kp1 := by
  obtain ⟨k1, k2, k3⟩ := bk_full hc64 pl1 (-1)
  have h2 : ¬ (2 : Int32) = 0 := by decide
  unfold binC
  rw [k1, k2, k3, go_fault h2, Option.bind_some, B_fault (by omega) h2 ht hn, Option.bind_some]
  show (FX12_lays fu 2 sv 0 sums1 2 ks1 kv1 kp1).bind _ = _
  rw [lays_fault h2]
  rfl
theorem stepB_bin (hfu : 10000 ≤ fu) (hT : tapeR bytes tape) (hlen : len.toInt = L) (hL : L ≤ 600) {n t : Nat} (ht : t = 1 ∨ t = 2) (hLR : LB fu len bytes tape L n t) {C : Option (Int32 × Nat × Int32 × Int32 × Int32 × Int32 × Int32 × Int32 × Int32 × Int32 × Int32 × Int32 × (Nat → Int32) × Int32 × Int32 × (Nat → Int32) × (Nat → Int32))} {s : List Int32} {w q : Nat} {op cnt0 : Int32} {K0 ks kv kp : Nat → Int32} {sums1 cnt1 nx1 pl1 rs1 rv1 : Int32} {ks1 kv1 kp1 : Nat → Int32} (sg sv : Int32) (hsv : (sg = -8 ∧ sv = 261) ∨ (sg = -7 ∧ sv = 262)) (rP rE rE0 : Int) (hrP : rP = rk sg) (hrL : rP ≤ lbB t) (hrE : lbB t ≤ rE) (hF : FinB fu len bytes L rP rE0 C s w q op cnt0 K0 ks kv kp sums1 cnt1 nx1 pl1 rs1 rv1 ks1 kv1 kp1) (htest : ∀ ck cv, tokR ck cv rs1 rv1 → fX7_signHere_r 1 ck cv = sg ∧ fX7_atSign_r (-20) ck cv = 0 ∧ ¬ ck = 0) (hs : topLt (rk sg) s) (htop : rk sg < sbB t) (hdep : depB t op cnt0 n) (hc0 : cnt0.toInt ≤ 64) (hc0' : 0 ≤ cnt0.toInt)
    (k : Int32 → Int32 → Int32 → Int32 → Int32 → Int32 → Int32 → Int32 → Int32 → (Nat → Int32) → (Nat → Int32) → (Nat → Int32) → Option (Int32 × Int32 × Int32 × Int32 × Int32 × Int32 × Int32 × Int32 × Int32 × (Nat → Int32) × (Nat → Int32) × (Nat → Int32))) :
    (∃ (sums' cnt' nx' pl' rs' rv' : Int32) (ks' kv' kp' : Nat → Int32), binC fu (FX12B fu len tape n) len tape t sv k sums1 cnt1 nx1 pl1 rs1 rv1 0 (-1) op ks1 kv1 kp1 = k sums' cnt' nx' pl' rs' rv' 0 (-1) op ks' kv' kp' ∧ FinB fu len bytes L rP rE C s w q op cnt0 K0 ks kv kp sums' cnt' nx' pl' rs' rv' ks' kv' kp' ∧ pl1.toInt < pl'.toInt) ∨
    (∃ (sums' cnt' nx' pl' rs' rv' fa fp op' : Int32) (ks' kv' kp' : Nat → Int32), binC fu (FX12B fu len tape n) len tape t sv k sums1 cnt1 nx1 pl1 rs1 rv1 0 (-1) op ks1 kv1 kp1 = k sums' cnt' nx' pl' rs' rv' fa fp op' ks' kv' kp' ∧ ¬ fa = 0 ∧ CFail 1 C fa fp ∧ frmB w ks kv kp ks' kv' kp') := by
  have q1 := t_1
  have hr : rk sg = 1 ∨ rk sg = 2 ∨ rk sg = 4 ∨ rk sg = 5 ∨ rk sg = 6 := by
    rcases hsv with ⟨rfl, -⟩ | ⟨rfl, -⟩
    · exact Or.inr (Or.inl rk_m8)
    · exact Or.inl rk_m7
  have hr4 : ¬ rk sg = 4 := by
    rcases hsv with ⟨rfl, -⟩ | ⟨rfl, -⟩
    · rw [rk_m8]; decide
    · rw [rk_m7]; decide
  have hps : phS sg = 0 := by
    rcases hsv with ⟨rfl, -⟩ | ⟨rfl, -⟩ <;> decide
  obtain ⟨f1, v41, wt1, ck1, cv1, W1, wr1, K1, pls1, P, q1', e1, w1, b1, b2, b3, b4, b5, b6, b7, b8, b9, b10, b11, b12⟩ := hF
  obtain ⟨t1, t2, t3⟩ := htest ck1 cv1 b2.2.2.2.2.2.2.2.2
  obtain ⟨v1, v2⟩ := tok_v4 b2
  obtain ⟨f2, rfl⟩ : ∃ g, f1 = g + 1 + 1 := ⟨f1 - 2, by omega⟩
  obtain ⟨g1, g2⟩ := bo_sign (g := 1) (pl := pl1) (ck := ck1) (cv := cv1) (show 1000 ≤ fu by omega) t2 (by rw [t1]; exact hr) b4 (fun c hc => by rw [t1]; have := b6 c hc; exact ⟨by omega, fun z => absurd z hr4⟩) (by rw [t1]; exact hs)
  rw [t1, hps] at g1
  have hc5 := b4.2.2.2.2.1
  by_cases c64 : cnt1.toInt < 64
  · obtain ⟨wt2, wr2, W2, K2, pls2, k1, k2, k3, k4⟩ := g1 c64
    obtain ⟨nx2, ck2, cv2, pl2, rs2, rv2, q2, e2, j1, j2, j3, j4⟩ := tok_adv (f := f2 + 1) hfu hT hlen hL b2 t3
    have hC : C = CE fu 1 len bytes (f2 + 1) (v41 + (-1)) wt2 op 0 nx2 ck2 cv2 pl2 W2 (cnt1 + 1) wr2 K2 pls2 := by
      rw [b1]
      exact it_bo v1 k1 (by decide) j1
    have hci := i_add cnt0 1 (by omega) (by omega)
    have hci1 := i_add cnt1 1 (by omega) (by omega)
    rcases stepB_push hfu hLR (C := C) (s := s) (w := w) (q := q) (op := op) (cnt0 := cnt0) (K0 := K0) (ks := ks) (kv := kv) (kp := kp) (sums1 := sums1) (cnt1 := cnt1) (nx1 := nx1) (pl1 := pl1) (rs1 := rs1) (rv1 := rv1) (ks1 := ks1) (kv1 := kv1) (kp1 := kp1) sg sv (Or.inr hsv) rP rE (by omega) hrL hrE b10 hc0' b12 c64 hC j2 j3 (by omega) k2 (by omega) (by omega) (fun i hi => by rw [k3 i (by omega)]; exact b9 i hi) htop (by unfold depB at hdep ⊢; omega) (fun K' w' Q he hn => net_bin (net_congr (k4 w b11) (fun i _ hi => (he i hi).symm)) hn hr) k with ⟨a, b, c, d, e, f, g, h, h2, z1, z2, z3⟩ | z
    · refine Or.inl ⟨a, b, c, d, e, f, g, h, h2, z1, z2, ?_⟩
      have := b2.1
      have := j3.1
      omega
    · exact Or.inr z
  · have hn6 : 3 ≤ n + t := by
      have hop := b4.2.2.2.2.2.1
      have hop2 := b4.2.2.2.2.2.2.1
      unfold depB at hdep
      omega
    rw [stepB_full hfu ht hn6 sv (by omega) k]
    obtain ⟨wt', op', c', wr', K', pls', k1⟩ := g2 (by omega)
    refine Or.inr ⟨sums1, cnt1, nx1, pl1, rs1, rv1, 2, pl1, op, ks1, kv1, kp1, rfl, by decide, ?_, b10⟩
    rw [b1]
    exact it_bo_fail v1 k1
end
