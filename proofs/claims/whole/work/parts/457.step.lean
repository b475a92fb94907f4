/-! ===== a sign and what stands behind it ===== -/
/-- the reference: counts the sign, goes on, reads what is behind it, puts the sign, then k -/
def binB (fu : Nat) (rec : Nat → Int32 → Int32 → Int32 → Int32 → Int32 → Int32 → Int32 → Int32 → Int32 → (Nat → Int32) → (Nat → Int32) → Option (Int32 × Int32 × Int32 × Int32 × Int32 × Int32 × Int32 × Int32 × Int32 × (Nat → Int32) × (Nat → Int32))) (size0 : Int32) (tape0 : Nat → Int32) (t : Nat) (sv : Int32) (k : Int32 → Int32 → Int32 → Int32 → Int32 → Int32 → Int32 → Int32 → Int32 → (Nat → Int32) → (Nat → Int32) → Option (Int32 × Int32 × Int32 × Int32 × Int32 × Int32 × Int32 × Int32 × Int32 × (Nat → Int32) × (Nat → Int32))) (sumsNew0 sumsCounted0 at0 place0 sort0 value0 fault0 faultPlace0 open0 : Int32) (knotSort0 knotValue0 : Nat → Int32) := (FX12_goOn fu size0 at0 place0 sort0 value0 (fX12_knot_f0_37 sumsCounted0 fault0) tape0).bind (fun y3z => (rec t sumsNew0 (fX12_knot_f0_29 sumsCounted0 fault0) y3z.1 y3z.2.1 y3z.2.2.1 y3z.2.2.2 (fX12_knot_f0_37 sumsCounted0 fault0) (fX12_knot_f0_38 sumsCounted0 place0 fault0 faultPlace0) open0 knotSort0 knotValue0).bind (fun y4z => (FX12_puts fu (2 : Int32) sv y4z.1 y4z.2.2.2.2.2.2.1 y4z.2.2.2.2.2.2.2.2.2.1 y4z.2.2.2.2.2.2.2.2.2.2).bind (fun y5z => k y5z.1 y4z.2.1 y4z.2.2.1 y4z.2.2.2.1 y4z.2.2.2.2.1 y4z.2.2.2.2.2.1 y4z.2.2.2.2.2.2.1 y4z.2.2.2.2.2.2.2.1 y4z.2.2.2.2.2.2.2.2.1 y5z.2.1 y5z.2.2)))
section
variable {fu : Nat} {len : Int32} {bytes tape : Nat → Int32} {L : Nat}
/-- the sign is pushed: what the level below gives, and the sign put behind it -/
theorem step_push (hfu : 10000 ≤ fu) {n t : Nat} (ht : t ≤ 5) (hLR : LR fu len bytes tape L n t) {C : Option (Int32 × Nat × Int32 × Int32 × Int32 × Int32 × Int32 × Int32 × Int32 × Int32 × Int32 × Int32 × (Nat → Int32) × Int32 × Int32 × (Nat → Int32) × (Nat → Int32))} {s : List Int32} {w q : Nat} {op cnt0 : Int32} {K0 ks kv : Nat → Int32} {sums1 cnt1 nx1 pl1 rs1 rv1 : Int32} {ks1 kv1 : Nat → Int32} (sg sv : Int32) (hsv : kRel sg 2 sv) (rP rE : Int) (hrP : rP ≤ rk sg) (hrL : rP ≤ lbE t) (hend : ∀ (P : List Int32) (ck cv rs rv : Int32), tokR ck cv rs rv → (∀ c, c ∈ P → lbE t ≤ rk c) → endT (lbE t) P ck cv → endT rE (P ++ [sg]) ck cv) (hfr : frm w ks kv ks1 kv1) (hc00 : 0 ≤ cnt0.toInt) (hcnt0 : cnt0.toInt ≤ cnt1.toInt) (hc64 : cnt1.toInt < 64)
    {f2 : Nat} {v42 wt2 ph2 nx2 ck2 cv2 pl2 rs2 rv2 : Int32} {W2 : Nat → Int32} {wr2 : Int32} {K2 pls2 : Nat → Int32} {q2 e2 w2 : Nat} (hC : C = CE fu 0 len bytes f2 v42 wt2 op ph2 nx2 ck2 cv2 pl2 W2 (cnt1 + 1) wr2 K2 pls2) (hnx : FX12_next fu len nx1 pl1 rs1 rv1 tape = some (nx2, pl2, rs2, rv2)) (htok : tokS L f2 v42 nx2 ck2 cv2 pl2 rs2 rv2 q2 e2) (hq : q < q2) (hpile : pileOk (KnE ks1 kv1) W2 wt2 op (cnt1 + 1) wr2 K2 pls2 (sg :: s) [] w2) (hsums : sums1.toInt = w2) (hw : w ≤ w2) (hK : ∀ i, i < w → K2 i = K0 i) (htop : topLt (sbE t) (sg :: s)) (hph : phOk t ph2 ck2 cv2) (hdep : dep t op (cnt1 + 1) n)
    (hnet : ∀ (K' : Nat → Int32) (w' : Nat) (P : List Int32), (∀ i, i < w2 → K' i = K2 i) → net K' w2 w' P → net K' w w' (P ++ [sg]))
    (k : Int32 → Int32 → Int32 → Int32 → Int32 → Int32 → Int32 → Int32 → Int32 → (Nat → Int32) → (Nat → Int32) → Option (Int32 × Int32 × Int32 × Int32 × Int32 × Int32 × Int32 × Int32 × Int32 × (Nat → Int32) × (Nat → Int32))) :
    (∃ (sums' cnt' nx' pl' rs' rv' : Int32) (ks' kv' : Nat → Int32), binB fu (FX12E fu len tape n) len tape t sv k sums1 cnt1 nx1 pl1 rs1 rv1 0 (-1) op ks1 kv1 = k sums' cnt' nx' pl' rs' rv' 0 (-1) op ks' kv' ∧ Fin fu len bytes L rP rE C s w q op cnt0 K0 ks kv sums' cnt' nx' pl' rs' rv' ks' kv' ∧ pl2.toInt < pl'.toInt) ∨
    (∃ (sums' cnt' nx' pl' rs' rv' fa fp op' : Int32) (ks' kv' : Nat → Int32), binB fu (FX12E fu len tape n) len tape t sv k sums1 cnt1 nx1 pl1 rs1 rv1 0 (-1) op ks1 kv1 = k sums' cnt' nx' pl' rs' rv' fa fp op' ks' kv' ∧ ¬ fa = 0 ∧ CFail 0 C fa fp ∧ frm w ks kv ks' kv') := by
  have q1 := t_1
  obtain ⟨k1, k2, k3⟩ := knot_ok hc64 pl1 (-1)
  have hc1 := i_add cnt1 1 (by omega) (by omega)
  unfold binB
  rw [k1, k2, k3, go_ok hnx, Option.bind_some]
  rcases hLR f2 v42 wt2 op ph2 nx2 ck2 cv2 pl2 W2 (cnt1 + 1) wr2 K2 pls2 (sg :: s) sums1 rs2 rv2 ks1 kv1 q2 e2 w2 htok hpile hsums htop hph hdep with ⟨sums', cnt', nx', pl', rs', rv', ks', kv', a1, a2⟩ | ⟨sums', cnt', nx', pl', rs', rv', fa, fp, op', ks', kv', a1, a2, a3, a4⟩
  · rw [a1, Option.bind_some]
    obtain ⟨f3, v43, wt3, ck3, cv3, W3, wr3, K3, pls3, P, q3, e3, w3, b1, b2, b3, b4, b5, b6, b7, b8, b9, b10, b11, b12⟩ := a2
    obtain ⟨p1, p2, p3, p4, p5, p6, p7, p8, p9, p10⟩ := b4
    have hsg19 : ¬ sg = -19 := by
      intro z
      rw [z] at hsv
      rcases hsv with ⟨z, -⟩ | ⟨z, -⟩ | ⟨-, -, z⟩ | ⟨-, z⟩
      · exact absurd z (by decide)
      · exact absurd z (by decide)
      · exact absurd z (by decide)
      · have := kBin_low z
        rcases z with ⟨z, -⟩ | ⟨z, -⟩ | ⟨z, -⟩ | ⟨z, -⟩ | ⟨z, -⟩ | ⟨z, -⟩ | ⟨z, -⟩ | ⟨z, -⟩ | ⟨z, -⟩ | ⟨z, -⟩ | ⟨z, -⟩ | ⟨z, -⟩ <;> exact absurd z (by decide)
    have hns : nsg (sg :: s) = 1 + nsg s := by rw [nsg, if_neg hsg19]
    have hno : nop (sg :: s) = nop s := by rw [nop, if_neg hsg19, Nat.zero_add]
    rw [hns] at p4
    rw [hno] at p6 p7
    have hlt : w3 + P.length < 64 := by omega
    have hpt := puts_ok (fu := fu) 2 sv sums' ks' kv' (w := w3 + P.length) (by omega) hlt
    have hs1 := i_add sums' 1 (by omega) (by omega)
    refine Or.inl ⟨sums' + 1, cnt', nx', pl', rs', rv', upd ks' (128 + (w3 + P.length)) 2, upd kv' (128 + (w3 + P.length)) sv, ?_, ?_, ?_⟩
    · show (FX12_puts fu 2 sv sums' 0 ks' kv').bind _ = _
      rw [hpt]
      rfl
    · have hup : ∀ i, i < w3 + P.length → upd ks' (128 + (w3 + P.length)) 2 (128 + i) = ks' (128 + i) ∧ upd kv' (128 + (w3 + P.length)) sv (128 + i) = kv' (128 + i) := fun i hi => ⟨up_ne ks' _ (by omega), up_ne kv' _ (by omega)⟩
      have hrg : 1 ≤ rk sg := by
        rcases hsv with ⟨z, -⟩ | ⟨z, -⟩ | ⟨-, -, z⟩ | ⟨-, z⟩
        · exact absurd z (by decide)
        · exact absurd z (by decide)
        · rw [z]; decide
        · rcases z with ⟨z, -⟩ | ⟨z, -⟩ | ⟨z, -⟩ | ⟨z, -⟩ | ⟨z, -⟩ | ⟨z, -⟩ | ⟨z, -⟩ | ⟨z, -⟩ | ⟨z, -⟩ | ⟨z, -⟩ | ⟨z, -⟩ | ⟨z, -⟩ <;> (rw [z]; decide)
      refine ⟨f3, v43, wt3, ck3, cv3, W3, wr3, K3, pls3, P ++ [sg], q3, e3, w3, ?_, b2, by omega, ⟨?_, p2, p3, ?_, p5, p6, p7, ?_, ?_, ?_⟩, ?_, ?_, ?_, by omega, fun i hi => by rw [b9 i (by omega)]; exact hK i hi, ?_, hnet K3 w3 P b9 b11, by omega⟩
      · rw [hC]; exact b1
      · rw [List.append_assoc]; exact p1
      · rw [List.length_append, List.length_cons, List.length_nil]; omega
      · intro c hc
        rcases List.mem_append.mp hc with z | z
        · exact p8 c z
        · rw [List.mem_singleton.mp z]; exact hrg
      · intro i hi
        obtain ⟨u1, u2⟩ := hup i (by omega)
        show kRel (K3 i) _ _
        rw [u1, u2]
        exact p9 i hi
      · rw [outR_app]
        refine ⟨outR_congr P w3 (fun i h1 h2 c p hz => ?_) p10, ?_, trivial⟩
        · obtain ⟨u1, u2⟩ := hup i (by omega)
          show kRel c _ _
          rw [u1, u2]
          exact hz
        · intro p
          show kRel sg _ _
          rw [up_eq, up_eq]
          exact hsv
      · rw [List.length_append, List.length_cons, List.length_nil]; omega
      · intro c hc
        rcases List.mem_append.mp hc with z | z
        · have := b6 c z
          omega
        · rw [List.mem_singleton.mp z]; exact hrP
      · exact hend P ck3 cv3 rs' rv' b2.2.2.2.2.2.2.2.2 b6 b7
      · refine frm_trans hfr (frm_trans b10 (fun x hx => ⟨up_ne ks' _ (by omega), up_ne kv' _ (by omega)⟩) (Nat.le_refl _)) hw
    · have := b2.1
      have := htok.1
      omega
  · rw [a1, Option.bind_some]
    refine Or.inr ⟨sums', cnt', nx', pl', rs', rv', fa, fp, op', ks', kv', ?_, a2, by rw [hC]; exact a3, frm_trans hfr a4 hw⟩
    show (FX12_puts fu 2 sv sums' fa ks' kv').bind _ = _
    rw [puts_fault a2]
    rfl
/-- too many knots -/
theorem step_full (hfu : 10000 ≤ fu) {n t : Nat} (ht : t ≤ 5) (hn : 6 ≤ n + t) {sums1 cnt1 nx1 pl1 rs1 rv1 : Int32} {op : Int32} {ks1 kv1 : Nat → Int32} (sv : Int32) (hc64 : cnt1.toInt = 64) (k : Int32 → Int32 → Int32 → Int32 → Int32 → Int32 → Int32 → Int32 → Int32 → (Nat → Int32) → (Nat → Int32) → Option (Int32 × Int32 × Int32 × Int32 × Int32 × Int32 × Int32 × Int32 × Int32 × (Nat → Int32) × (Nat → Int32))) : binB fu (FX12E fu len tape n) len tape t sv k sums1 cnt1 nx1 pl1 rs1 rv1 0 (-1) op ks1 kv1 = k sums1 cnt1 nx1 pl1 rs1 rv1 2 pl1 op ks1 kv1 := by
  obtain ⟨k1, k2, k3⟩ := knot_full hc64 pl1 (-1)
  have h2 : ¬ (2 : Int32) = 0 := by decide
  unfold binB
  rw [k1, k2, k3, go_fault h2, Option.bind_some, E_fault' (by omega) h2 ht hn, Option.bind_some]
  show (FX12_puts fu 2 sv sums1 2 ks1 kv1).bind _ = _
  rw [puts_fault h2]
  rfl
/-- a sign between two operands -/
theorem step_bin (hfu : 10000 ≤ fu) (hT : tapeR bytes tape) (hlen : len.toInt = L) (hL : L ≤ 600) {n t : Nat} (ht : t ≤ 5) (hLR : LR fu len bytes tape L n t) {C : Option (Int32 × Nat × Int32 × Int32 × Int32 × Int32 × Int32 × Int32 × Int32 × Int32 × Int32 × Int32 × (Nat → Int32) × Int32 × Int32 × (Nat → Int32) × (Nat → Int32))} {s : List Int32} {w q : Nat} {op cnt0 : Int32} {K0 ks kv : Nat → Int32} {sums1 cnt1 nx1 pl1 rs1 rv1 : Int32} {ks1 kv1 : Nat → Int32} (sg sv : Int32) (hsv : kRel sg 2 sv) (rP rE rP0 rE0 : Int) (hr : rk sg = 1 ∨ rk sg = 2 ∨ rk sg = 4 ∨ rk sg = 5 ∨ rk sg = 6) (hrP : rP ≤ rk sg) (hrP0 : rk sg ≤ rP0 ∧ (rk sg = 4 → 5 ≤ rP0)) (hrL : rP ≤ lbE t) (hend : ∀ (P : List Int32) (ck cv rs rv : Int32), tokR ck cv rs rv → (∀ c, c ∈ P → lbE t ≤ rk c) → endT (lbE t) P ck cv → endT rE (P ++ [sg]) ck cv) (hF : Fin fu len bytes L rP0 rE0 C s w q op cnt0 K0 ks kv sums1 cnt1 nx1 pl1 rs1 rv1 ks1 kv1) (htest : ∀ ck cv, tokR ck cv rs1 rv1 → fX7_signHere_r 0 ck cv = sg ∧ fX7_atSign_r (-20) ck cv = 0 ∧ ¬ ck = 0) (hs : topLt (rk sg) s) (htop : rk sg < sbE t) (hph : ∀ ck cv, phOk t (phS sg) ck cv) (hdep : dep t op cnt0 n) (hc0 : cnt0.toInt ≤ 64) (hc0' : 0 ≤ cnt0.toInt)
    (k : Int32 → Int32 → Int32 → Int32 → Int32 → Int32 → Int32 → Int32 → Int32 → (Nat → Int32) → (Nat → Int32) → Option (Int32 × Int32 × Int32 × Int32 × Int32 × Int32 × Int32 × Int32 × Int32 × (Nat → Int32) × (Nat → Int32))) :
    (∃ (sums' cnt' nx' pl' rs' rv' : Int32) (ks' kv' : Nat → Int32), binB fu (FX12E fu len tape n) len tape t sv k sums1 cnt1 nx1 pl1 rs1 rv1 0 (-1) op ks1 kv1 = k sums' cnt' nx' pl' rs' rv' 0 (-1) op ks' kv' ∧ Fin fu len bytes L rP rE C s w q op cnt0 K0 ks kv sums' cnt' nx' pl' rs' rv' ks' kv' ∧ pl1.toInt < pl'.toInt) ∨
    (∃ (sums' cnt' nx' pl' rs' rv' fa fp op' : Int32) (ks' kv' : Nat → Int32), binB fu (FX12E fu len tape n) len tape t sv k sums1 cnt1 nx1 pl1 rs1 rv1 0 (-1) op ks1 kv1 = k sums' cnt' nx' pl' rs' rv' fa fp op' ks' kv' ∧ ¬ fa = 0 ∧ CFail 0 C fa fp ∧ frm w ks kv ks' kv') := by
  have q1 := t_1
  obtain ⟨f1, v41, wt1, ck1, cv1, W1, wr1, K1, pls1, P, q1', e1, w1, b1, b2, b3, b4, b5, b6, b7, b8, b9, b10, b11, b12⟩ := hF
  obtain ⟨t1, t2, t3⟩ := htest ck1 cv1 b2.2.2.2.2.2.2.2.2
  obtain ⟨v1, v2⟩ := tok_v4 b2
  obtain ⟨f2, rfl⟩ : ∃ g, f1 = g + 1 + 1 := ⟨f1 - 2, by omega⟩
  obtain ⟨g1, g2⟩ := bo_sign (g := 0) (pl := pl1) (ck := ck1) (cv := cv1) (show 1000 ≤ fu by omega) t2 (by rw [t1]; exact hr) b4 (fun c hc => by rw [t1]; have := b6 c hc; exact ⟨by omega, fun z => by have := hrP0.2 z; omega⟩) (by rw [t1]; exact hs)
  rw [t1] at g1
  have hc5 := b4.2.2.2.2.1
  by_cases c64 : cnt1.toInt < 64
  · obtain ⟨wt2, wr2, W2, K2, pls2, k1, k2, k3, k4⟩ := g1 c64
    obtain ⟨nx2, ck2, cv2, pl2, rs2, rv2, q2, e2, j1, j2, j3, j4⟩ := tok_adv (f := f2 + 1) hfu hT hlen hL b2 t3
    have hph3 : ¬ phS sg = 3 := by
      unfold phS
      by_cases c : sg = -8 ∨ sg = -7
      · rw [if_pos c]; decide
      · rw [if_neg c]; decide
    have hC : C = CE fu 0 len bytes (f2 + 1) (v41 + (-1)) wt2 op (phS sg) nx2 ck2 cv2 pl2 W2 (cnt1 + 1) wr2 K2 pls2 := by
      rw [b1]
      exact it_bo v1 k1 hph3 j1
    have hci := i_add cnt0 1 (by omega) (by omega)
    have hci1 := i_add cnt1 1 (by omega) (by omega)
    rcases step_push hfu ht hLR (C := C) (s := s) (w := w) (q := q) (op := op) (cnt0 := cnt0) (K0 := K0) (ks := ks) (kv := kv) (sums1 := sums1) (cnt1 := cnt1) (nx1 := nx1) (pl1 := pl1) (rs1 := rs1) (rv1 := rv1) (ks1 := ks1) (kv1 := kv1) sg sv hsv rP rE hrP hrL hend b10 hc0' b12 c64 hC j2 j3 (by omega) k2 (by omega) (by omega) (fun i hi => by rw [k3 i (by omega)]; exact b9 i hi) htop (hph ck2 cv2) (by unfold dep at hdep ⊢; omega) (fun K' w' Q he hn => net_bin (net_congr (k4 w b11) (fun i _ hi => (he i hi).symm)) hn hr) k with ⟨a, b, c, d, e, f, g, h, z1, z2, z3⟩ | z
    · refine Or.inl ⟨a, b, c, d, e, f, g, h, z1, z2, ?_⟩
      have := b2.1
      have := j3.1
      omega
    · exact Or.inr z
  · have hn6 : 6 ≤ n + t := by
      have hop := b4.2.2.2.2.2.1
      have hop2 := b4.2.2.2.2.2.2.1
      unfold dep at hdep
      omega
    rw [step_full hfu ht hn6 sv (by omega) k]
    obtain ⟨wt', op', c', wr', K', pls', k1⟩ := g2 (by omega)
    refine Or.inr ⟨sums1, cnt1, nx1, pl1, rs1, rv1, 2, pl1, op, ks1, kv1, rfl, by decide, ?_, b10⟩
    rw [b1]
    exact it_bo_fail v1 k1
end
