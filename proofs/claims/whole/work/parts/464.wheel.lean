/-! ===== a wheel LINE ===== -/
theorem expr_fault {fu : Nat} {len : Int32} {tape : Nat → Int32} (hfu : 10 ≤ fu) {fa : Int32} (h : ¬ fa = 0) (a b c d e g fp i : Int32) (ks kv : Nat → Int32) : FX12_expressionW fu a b len c d e g fa fp i tape ks kv = some (a, b, c, d, e, g, fa, fp, i, ks, kv) := E_fault' (len := len) (tape := tape) hfu h (τ := 0) (n := 200) (by omega) (by omega) a b c d e g fp i ks kv
/-- the wheel LINES read so far -/
def wheelN (wl wheels cnt wr sums : Int32) (K st mi ks kv wf wt ot : Nat → Int32) (W w : Nat) : Prop := wl.toInt = W ∧ W ≤ 12 ∧ wheels = wl ∧ wr.toInt = w ∧ cnt.toInt = w ∧ sums.toInt = w ∧ w ≤ 64 ∧ (∀ i, i < w → kRel (K i) (ks (128 + i)) (kv (128 + i))) ∧ (W = 0 ∨ st W = wr) ∧ ∀ l, l < W → whRel wr K st mi ks kv (fun l => wf (12 + l)) (fun l => wt (12 + l)) (fun l => ot (12 + l)) l
def frmW (wf wt ot wf' wt' ot' : Nat → Int32) : Prop := ∀ q, q < 12 → wf' q = wf q ∧ wt' q = wt q ∧ ot' q = ot q
/-- the class failed; the reference did too, or will at the next token -/
def lateR (fa fp pl' rs' rv' faR fpR : Int32) : Prop := (faR = fa ∧ fpR = fp ∧ ¬ fa = 0) ∨ (faR = 0 ∧ fpR = -1 ∧ fa = 1 ∧ fp = pl' ∧ fX12_isSign_r 59 rs' rv' 0 = 0)
section
variable {fu : Nat} {len : Int32} {bytes tape : Nat → Int32} {L : Nat}
theorem tk_adv (hfu : 10000 ≤ fu) (hT : tapeR bytes tape) (hlen : len.toInt = L) (hL : L ≤ 600) {nx ck cv pl rs rv : Int32} {q e : Nat} (h : tkS L nx ck cv pl rs rv q e) (hc : ¬ ck = 0) : ∃ (nx' ck' cv' pl' rs' rv' : Int32) (q' e' : Nat), FX5_advance fu len nx ck cv pl bytes = some (nx', ck', cv', pl') ∧ FX12_next fu len nx pl rs rv tape = some (nx', pl', rs', rv') ∧ tkS L nx' ck' cv' pl' rs' rv' q' e' ∧ q < q' := by
  obtain ⟨h1, h2, h3, h4, h5, h6⟩ := h
  have h5' := h5 hc
  obtain ⟨e', q', y, p', ck', cv', rs', rv', a1, a2, a3, a4, a5, a6, a7, a8, a9⟩ := adv_eq (fu := fu) hfu hT hlen hL ck cv pl rs pl rv e h4 nx h2
  exact ⟨y, ck', cv', p', rs', rv', q', e', a8, a9, ⟨a5, a4, a2, a3, a6, a7⟩, by omega⟩
theorem whRel_ext {wr wr' : Int32} {K K' st mi st' mi' ks kv ks' kv' wf wt ot wf' wt' ot' : Nat → Int32} {l w : Nat} (h : whRel wr K st mi ks kv wf wt ot l) (hw : wr.toInt = w) (hwr : wr.toInt ≤ wr'.toInt) (hK : ∀ i, i < w → K' i = K i) (hst : st' l = st l ∧ st' (l + 1) = st (l + 1)) (hmi : mi' l = mi l) (hf : wf' l = wf l ∧ wt' l = wt l ∧ ot' l = ot l) : whRel wr' K' st' mi' ks' kv' wf' wt' ot' l := by
  obtain ⟨h1, h2, h3, h4, h5, h6, h7, h8, h9⟩ := h
  have n1 := i_nat (a := st l) (by omega)
  have n2 := i_nat (a := mi l) (by omega)
  have n3 := i_nat (a := st (l + 1)) (by omega)
  have seg : ∀ a b, b ≤ w → segOk K a b → segOk K' a b := by
    intro a b hb ⟨s1, s2, s3⟩
    exact ⟨s1, s2, by rw [run_congr (K := K') (K' := K) (b - a) a 0 (fun i i1 i2 => hK i (by omega))]; exact s3⟩
  refine ⟨by rw [hf.1, hst.1, h1], by rw [hf.2.1, hmi, h2], by rw [hf.2.2, hst.2, h3], by rw [hst.1]; omega, by rw [hst.1, hmi]; omega, by rw [hst.2, hmi]; omega, by rw [hst.2]; omega, ?_, ?_⟩
  · rw [hst.1, hmi]
    intro z
    exact seg _ _ (by omega) (h8 z)
  · rw [hst.2, hmi]
    exact seg _ _ (by omega) h9
theorem wheel_line (hfu : 10000 ≤ fu) (hT : tapeR bytes tape) (hlen : len.toInt = L) (hL : L ≤ 600) {nx ck cv pl rs rv : Int32} {q e : Nat} (htk : tkS L nx ck cv pl rs rv q e) (hck : ck = 1) (l0 : Nat) (og wtg opn ph : Int32) (Wa : Nat → Int32) {wl wheels cnt wr sums : Int32} {K pls st mi ks kv wf wt ot : Nat → Int32} {W w : Nat} (hN : wheelN wl wheels cnt wr sums K st mi ks kv wf wt ot W w) (hW : W < 12) (p1 : Int32) (hp1 : p1.toInt = 12 + W) :
    (∃ (l' : Nat) (og' wtg' opn' ph' nx' ck' cv' pl' : Int32) (Wa' : Nat → Int32) (wl' cnt' wr' : Int32) (K' pls' st' mi' : Nat → Int32) (wheels' sums' rs' rv' : Int32) (ks' kv' wf' wt' ot' : Nat → Int32) (q' e' w' : Nat), FX7_readWheelLine fu l0 og wtg opn ph 0 (-1) len nx ck cv pl bytes Wa wl cnt wr K pls st mi = some (1, l', og', wtg', opn', ph', 0, -1, nx', ck', cv', pl', Wa', wl', cnt', wr', K', pls', st', mi') ∧ FX12_wheelLine fu p1 wheels sums cnt len nx pl rs rv 0 (-1) 0 tape ks kv wf wt ot = some (wheels', sums', cnt', nx', pl', rs', rv', 0, -1, 0, ks', kv', wf', wt', ot') ∧ tkS L nx' ck' cv' pl' rs' rv' q' e' ∧ q < q' ∧ wheelN wl' wheels' cnt' wr' sums' K' st' mi' ks' kv' wf' wt' ot' (W + 1) w' ∧ frm w ks kv ks' kv' ∧ frmW wf wt ot wf' wt' ot') ∨
    (∃ (l' : Nat) (og' wtg' opn' ph' fa fp nx' ck' cv' plc : Int32) (Wa' : Nat → Int32) (wl' cnt' wr' : Int32) (K' pls' st' mi' : Nat → Int32) (wheels' sums' cntR nxR pl' rs' rv' faR fpR opR : Int32) (ks' kv' wf' wt' ot' : Nat → Int32), FX7_readWheelLine fu l0 og wtg opn ph 0 (-1) len nx ck cv pl bytes Wa wl cnt wr K pls st mi = some (0, l', og', wtg', opn', ph', fa, fp, nx', ck', cv', plc, Wa', wl', cnt', wr', K', pls', st', mi') ∧ FX12_wheelLine fu p1 wheels sums cnt len nx pl rs rv 0 (-1) 0 tape ks kv wf wt ot = some (wheels', sums', cntR, nxR, pl', rs', rv', faR, fpR, opR, ks', kv', wf', wt', ot') ∧ lateR fa fp pl' rs' rv' faR fpR ∧ frm w ks kv ks' kv' ∧ frmW wf wt ot wf' wt' ot') := by
  have t12 : (12 : Int32).toInt = 12 := rfl
  have q1 := t_1
  obtain ⟨n1, n2, n3, n4, n5, n6, n7, n8, n10, n9⟩ := id hN
  have hi24 : pz_inb p1 24 = true := i_inb.mpr (by omega)
  have hp1n : p1.toNatClampNeg = 12 + W := by have := i_nat (a := p1) (by omega); omega
  have hwi13 : pz_inb wl 13 = true := i_inb.mpr (by omega)
  have hwi12 : pz_inb wl 12 = true := i_inb.mpr (by omega)
  have hwn : wl.toNatClampNeg = W := by have := i_nat (a := wl) (by omega); omega
  have hlt : wl < 12 := by rw [i_lt]; omega
  have hnle : ¬ 12 ≤ wl := by rw [i_le]; omega
  have hs1 := i_add wl 1 (by omega) (by omega)
  have hw1i : pz_inb (wl + 1) 13 = true := i_inb.mpr (by omega)
  have hw1n : (wl + 1).toNatClampNeg = W + 1 := by have := i_nat (a := wl + 1) (by omega); omega
  have hck0 : ¬ ck = 0 := by rw [hck]; decide
  have hstart : FX6_startWheelLine fu wl wr st mi = some (upd st W wr, upd mi W wr) := by
    unfold FX6_startWheelLine
    rw [if_neg hnle, if_pos hwi13, if_pos hwi12, hwn]
  have fW : ∀ (x y z : Int32), frmW wf wt ot (upd wf (12 + W) x) (upd wt (12 + W) y) (upd ot (12 + W) z) := fun x y z i hi => ⟨up_ne wf _ (by omega), up_ne wt _ (by omega), up_ne ot _ (by omega)⟩
  -- from wheel on
  have J65 : ∀ {nx ck cv pl rs rv : Int32} {q2 e : Nat}, tkS L nx ck cv pl rs rv q2 e → q ≤ q2 → ∀ (l0 : Nat) (og wtg opn ph : Int32) (Wa : Nat → Int32) {cnt wr2 sums : Int32} {K2 pls ks2 kv2 : Nat → Int32} {w2 : Nat}, wr2.toInt = w2 → cnt.toInt = w2 → sums.toInt = w2 → w2 ≤ 64 → w ≤ w2 → (∀ i, i < w2 → kRel (K2 i) (ks2 (128 + i)) (kv2 (128 + i))) → (∀ i, i < w → K2 i = K i) → frm w ks kv ks2 kv2 → (w < w2 → segOk K2 w w2) →
      (∃ (l' : Nat) (og' wtg' opn' ph' nx' ck' cv' pl' : Int32) (Wa' : Nat → Int32) (wl' cnt' wr' : Int32) (K' pls' st' mi' : Nat → Int32) (wheels' sums' rs' rv' : Int32) (ks' kv' wf' wt' ot' : Nat → Int32) (q' e' w' : Nat), FX7_readWheelLine_J65 fu len bytes l0 og wtg opn ph 0 (-1) nx ck cv pl Wa wl cnt wr2 K2 pls (upd st W wr) (upd mi W wr2) = some (1, l', og', wtg', opn', ph', 0, -1, nx', ck', cv', pl', Wa', wl', cnt', wr', K', pls', st', mi') ∧ FX12_wheelLine_J26 fu p1 len tape wheels sums cnt nx pl rs rv 0 (-1) 0 ks2 kv2 (upd wf (12 + W) wr) wt ot = some (wheels', sums', cnt', nx', pl', rs', rv', 0, -1, 0, ks', kv', wf', wt', ot') ∧ tkS L nx' ck' cv' pl' rs' rv' q' e' ∧ q < q' ∧ wheelN wl' wheels' cnt' wr' sums' K' st' mi' ks' kv' wf' wt' ot' (W + 1) w' ∧ frm w ks kv ks' kv' ∧ frmW wf wt ot wf' wt' ot') ∨
      (∃ (l' : Nat) (og' wtg' opn' ph' fa fp nx' ck' cv' plc : Int32) (Wa' : Nat → Int32) (wl' cnt' wr' : Int32) (K' pls' st' mi' : Nat → Int32) (wheels' sums' cntR nxR pl' rs' rv' faR fpR opR : Int32) (ks' kv' wf' wt' ot' : Nat → Int32), FX7_readWheelLine_J65 fu len bytes l0 og wtg opn ph 0 (-1) nx ck cv pl Wa wl cnt wr2 K2 pls (upd st W wr) (upd mi W wr2) = some (0, l', og', wtg', opn', ph', fa, fp, nx', ck', cv', plc, Wa', wl', cnt', wr', K', pls', st', mi') ∧ FX12_wheelLine_J26 fu p1 len tape wheels sums cnt nx pl rs rv 0 (-1) 0 ks2 kv2 (upd wf (12 + W) wr) wt ot = some (wheels', sums', cntR, nxR, pl', rs', rv', faR, fpR, opR, ks', kv', wf', wt', ot') ∧ lateR fa fp pl' rs' rv' faR fpR ∧ frm w ks kv ks' kv' ∧ frmW wf wt ot wf' wt' ot') := by
    intro nx ck cv pl rs rv q2 e htk hq l0 og wtg opn ph Wa cnt wr2 sums K2 pls ks2 kv2 w2 a1 a2 a3 a4 a5 a6 a7 a8 a9
    have ht := htk.2.2.2.2.2
    unfold FX7_readWheelLine_J65 FX12_wheelLine_J26
    rw [if_pos hi24, hp1n, if_neg (show ¬ ¬ (0 : Int32) = 0 by decide)]
    have h780 : (780309888 : Int32) = wcode 9 := rfl
    rw [h780]
    rcases atW ht (i := 9) (by omega) with ⟨b1, b2, b3⟩ | ⟨b1, b2, b3, b4, b5, b6⟩
    · have b2' : fX12_isWord_r 9 rs rv 0 = 0 := b2
      rw [b1, if_neg (show ¬ ¬ (0 : Int32) = 0 by decide), b2', if_neg (show ¬ ¬ (0 : Int32) = 0 by decide)]
      have ew : FX12_wheelLine_J57 fu p1 len tape wheels sums cnt nx pl rs rv (fX12_wrong_f0_37 1 0) (fX12_wrong_f0_38 pl 0 (-1)) 0 ks2 kv2 (upd wf (12 + W) wr) (upd wt (12 + W) sums) ot = some (wheels + 1, sums, cnt, nx, pl, rs, rv, 1, pl, 0, ks2, kv2, upd wf (12 + W) wr, upd wt (12 + W) sums, upd ot (12 + W) sums) := by
        have e1 : fX12_wrong_f0_37 1 0 = 1 := rfl
        have e2 : fX12_wrong_f0_38 pl 0 (-1) = pl := rfl
        have h1 : ¬ (1 : Int32) = 0 := by decide
        unfold FX12_wheelLine_J57
        rw [e1, e2, go_fault h1, Option.bind_some]
        show (FX12_expressionW fu sums cnt len nx pl rs rv 1 pl 0 tape ks2 kv2).bind _ = _
        rw [expr_fault (by omega) h1, Option.bind_some, if_pos hi24, hp1n]
      rw [ew]
      exact Or.inr ⟨_, _, _, _, _, _, _, _, _, _, _, _, _, _, _, _, _, _, _, _, _, _, _, _, _, _, _, _, _, _, _, _, _, _, rfl, rfl, Or.inl ⟨rfl, rfl, by decide⟩, a8, fW _ _ _⟩
    · have b2' : fX12_isWord_r 9 rs rv 0 = 1 := b2
      rw [b1, if_pos (show ¬ (1 : Int32) = 0 by decide), b2', if_pos (show ¬ (1 : Int32) = 0 by decide)]
      obtain ⟨nx3, ck3, cv3, pl3, rs3, rv3, q3, e3, c1, c2, c3, c4⟩ := tk_adv hfu hT hlen hL htk (by rw [b3]; decide)
      rw [c1, Option.bind_some]
      unfold FX12_wheelLine_J57
      rw [go_ok c2, Option.bind_some]
      rcases expr_eq hfu hT hlen hL c3 Wa a2 a1 a3 a4 K2 pls ks2 kv2 a6 with ⟨wt', nx', ck', cv', pl', W', cnt', wr', K', pls', sums', rs', rv', ks', kv', q', e', w', d1, d2, d3, d4, d5, d6, d7, d8, d9, d10, d11, d12, d13⟩ | ⟨sums', cnt', nx', pl', rs', rv', fa, fp, op', ks', kv', d1, d2, d3, d4⟩ | ⟨sums', cnt', nx', pl', rs', rv', ks', kv', d1, d2, d3, d4, d5⟩
      · have hend : FX6_endWheelLine fu wl wr' (upd st W wr) = some (wl + 1, upd (upd st W wr) (W + 1) wr') := by
          unfold FX6_endWheelLine
          rw [if_neg hnle, if_pos hw1i, hw1n]
        refine Or.inl ⟨pz_rn [0, 1, 2, 3, 5, 6, 7] [500, 501, 4, 508, l0] 10 4, 0, wt', 0, 3, nx', ck', cv', pl', W', wl + 1, cnt', wr', K', pls', upd (upd st W wr) (W + 1) wr', upd mi W wr2, wheels + 1, sums', rs', rv', ks', kv', upd wf (12 + W) wr, upd wt (12 + W) sums, upd ot (12 + W) sums', q', e', w', ?_, ?_, d3, by omega, ⟨by omega, by omega, by rw [n3], d5, d6, d7, d9, d10, Or.inr (up_eq _ _ _), ?_⟩, frm_trans a8 d12 a5, fW _ _ _⟩
        · show (FX7_readExpression fu 0 0 (-1) len nx3 ck3 cv3 pl3 bytes Wa cnt wr2 K2 pls).bind _ = _
          rw [d1, Option.bind_some]
          show (if ¬ (1 : Int32) = 0 then (FX6_endWheelLine fu wl wr' (upd st W wr)).bind _ else _) = _
          rw [if_pos (show ¬ (1 : Int32) = 0 by decide), hend]
          rfl
        · show (FX12_expressionW fu sums cnt len nx3 pl3 rs3 rv3 0 (-1) 0 tape ks2 kv2).bind _ = _
          rw [d2, Option.bind_some, if_pos hi24, hp1n]
        · intro l hl
          by_cases g : l = W
          · subst g
            have e1 : upd (upd st l wr) (l + 1) wr' l = wr := by rw [up_ne _ _ (by omega), up_eq]
            have e2 : upd (upd st l wr) (l + 1) wr' (l + 1) = wr' := up_eq _ _ _
            have e3 : upd mi l wr2 l = wr2 := up_eq _ _ _
            have m1 := i_nat (a := wr) (by omega)
            have m2 := i_nat (a := wr2) (by omega)
            have m3 := i_nat (a := wr') (by omega)
            refine ⟨?_, ?_, ?_, by rw [e1]; omega, by rw [e1, e3]; omega, by rw [e2, e3]; omega, by rw [e2]; omega, ?_, ?_⟩
            · rw [e1]; exact up_eq _ _ _
            · rw [e3]
              show upd wt (12 + l) sums (12 + l) = wr2
              rw [up_eq]
              exact i_eq.mpr (by omega)
            · rw [e2]
              show upd ot (12 + l) sums' (12 + l) = wr'
              rw [up_eq]
              exact i_eq.mpr (by omega)
            · rw [e1, e3]
              intro z
              rw [show wr.toNatClampNeg = w by omega, show wr2.toNatClampNeg = w2 by omega]
              obtain ⟨s1, s2, s3⟩ := a9 (by omega)
              exact ⟨s1, s2, by rw [run_congr (K := K') (K' := K2) (w2 - w) w 0 (fun i i1 i2 => d11 i (by omega))]; exact s3⟩
            · rw [e2, e3, show wr2.toNatClampNeg = w2 by omega, show wr'.toNatClampNeg = w' by omega]
              exact d13
          · refine whRel_ext (n9 l (by omega)) n4 (by omega) (fun i hi => by rw [d11 i (by omega)]; exact a7 i hi) ⟨by rw [up_ne _ _ (by omega), up_ne _ _ (by omega)], ?_⟩ (up_ne _ _ (by omega)) ⟨up_ne _ _ (by omega), up_ne _ _ (by omega), up_ne _ _ (by omega)⟩
            rw [up_ne _ _ (by omega)]
            by_cases g2 : l + 1 = W
            · rw [g2, up_eq]
              rcases n10 with z | z
              · omega
              · exact z.symm
            · rw [up_ne _ _ g2]
      · obtain ⟨x1, x2, x3, x4, x5, x6, x7, x8, x9, x10, x11, x12, hcf⟩ := d3
        refine Or.inr ⟨pz_rn [0, 1, 2, 3, 5, 6, 7] [500, 501, 4, 508, l0] 10 4, 0, x1, x2, x3, fa, fp, x4, x5, x6, x7, x8, wl, x9, x10, x11, x12, upd st W wr, upd mi W wr2, wheels + 1, sums', cnt', nx', pl', rs', rv', fa, fp, op', ks', kv', upd wf (12 + W) wr, upd wt (12 + W) sums, upd ot (12 + W) sums', ?_, ?_, Or.inl ⟨rfl, rfl, d2⟩, frm_trans a8 d4 a5, fW _ _ _⟩
        · show (FX7_readExpression fu 0 0 (-1) len nx3 ck3 cv3 pl3 bytes Wa cnt wr2 K2 pls).bind _ = _
          rw [hcf, Option.bind_some]
          rfl
        · show (FX12_expressionW fu sums cnt len nx3 pl3 rs3 rv3 0 (-1) 0 tape ks2 kv2).bind _ = _
          rw [d1, Option.bind_some, if_pos hi24, hp1n]
      · obtain ⟨x1, x2, x3, x4, x5, x6, x7, x8, x9, x10, x11, x12, hcf⟩ := d2
        refine Or.inr ⟨pz_rn [0, 1, 2, 3, 5, 6, 7] [500, 501, 4, 508, l0] 10 4, 0, x1, x2, x3, 1, pl', x4, x5, x6, x7, x8, wl, x9, x10, x11, x12, upd st W wr, upd mi W wr2, wheels + 1, sums', cnt', nx', pl', rs', rv', 0, -1, 0, ks', kv', upd wf (12 + W) wr, upd wt (12 + W) sums, upd ot (12 + W) sums', ?_, ?_, Or.inr ⟨rfl, rfl, rfl, rfl, by unfold fX12_isSign_r; rw [if_neg (show ¬ ¬ (0 : Int32) = 0 by decide), if_neg (show ¬ ¬ rs' = 3 from fun z => z d3), if_pos d4]⟩, frm_trans a8 d5 a5, fW _ _ _⟩
        · show (FX7_readExpression fu 0 0 (-1) len nx3 ck3 cv3 pl3 bytes Wa cnt wr2 K2 pls).bind _ = _
          rw [hcf, Option.bind_some]
          rfl
        · show (FX12_expressionW fu sums cnt len nx3 pl3 rs3 rv3 0 (-1) 0 tape ks2 kv2).bind _ = _
          rw [d1, Option.bind_some, if_pos hi24, hp1n]
  -- the whole LINE
  have ht := htk.2.2.2.2.2
  unfold FX7_readWheelLine FX12_wheelLine
  rw [if_pos hlt, hstart, Option.bind_some, if_pos hi24, hp1n]
  have h308 : (308281344 : Int32) = wcode 0 := rfl
  rw [h308]
  have hsw : upd wf (12 + W) sums = upd wf (12 + W) wr := by rw [show sums = wr from i_eq.mpr (by omega)]
  rw [hsw]
  rcases atW ht (i := 0) (by omega) with ⟨b1, b2, b3⟩ | ⟨b1, b2, b3, b4, b5, b6⟩
  · have b2' : fX12_isWord_r 0 rs rv 0 = 0 := b2
    rw [b1, if_pos rfl, b2', if_pos rfl]
    exact J65 htk (Nat.le_refl _) l0 og wtg opn ph Wa n4 n5 n6 n7 (Nat.le_refl _) n8 (fun i hi => rfl) (frm_refl _ _ _) (fun z => absurd z (by omega))
  · have b2' : fX12_isWord_r 0 rs rv 0 = 1 := b2
    rw [b1, if_neg (show ¬ (1 : Int32) = 0 by decide), b2', if_neg (show ¬ (1 : Int32) = 0 by decide)]
    obtain ⟨nx3, ck3, cv3, pl3, rs3, rv3, q3, e3, c1, c2, c3, c4⟩ := tk_adv hfu hT hlen hL htk hck0
    rw [c1, Option.bind_some, c2, Option.bind_some]
    rcases expr_eq hfu hT hlen hL c3 Wa n5 n4 n6 n7 K pls ks kv n8 with ⟨wt', nx', ck', cv', pl', W', cnt', wr', K', pls', sums', rs', rv', ks', kv', q', e', w', d1, d2, d3, d4, d5, d6, d7, d8, d9, d10, d11, d12, d13⟩ | ⟨sums', cnt', nx', pl', rs', rv', fa, fp, op', ks', kv', d1, d2, d3, d4⟩ | ⟨sums', cnt', nx', pl', rs', rv', ks', kv', d1, d2, d3, d4, d5⟩
    · have hendif : FX6_endIf fu wl wr' (upd mi W wr) = some (upd mi W wr') := by
        unfold FX6_endIf
        rw [if_neg hnle, if_pos hwi12, hwn]
        congr 1
        funext i
        unfold upd
        by_cases g : i = W
        · rw [if_pos g, if_pos g]
        · rw [if_neg g, if_neg g, if_neg g]
      have key := J65 d3 (by omega) (pz_rn [0, 1, 2, 3, 5, 6, 7] [500, 501, 4, 508, l0] 10 4) 0 wt' 0 3 W' (pls := pls') d5 d6 d7 d9 (by omega) d10 d11 d12 (fun _ => d13)
      have hcl : ((FX7_readExpression fu 0 0 (-1) len nx3 ck3 cv3 pl3 bytes Wa cnt wr K pls).bind (fun y10z => if ¬ y10z.1 = 0 then ((FX6_endIf fu wl y10z.2.2.2.2.2.2.2.2.2.2.2.2.2.2.1 (upd mi W wr)).bind (fun y12z => FX7_readWheelLine_J65 fu len bytes (pz_rn [0, 1, 2, 3, 5, 6, 7] [500, 501, 4, 508, l0] 10 y10z.2.1) y10z.2.2.1 y10z.2.2.2.1 y10z.2.2.2.2.1 y10z.2.2.2.2.2.1 y10z.2.2.2.2.2.2.1 y10z.2.2.2.2.2.2.2.1 y10z.2.2.2.2.2.2.2.2.1 y10z.2.2.2.2.2.2.2.2.2.1 y10z.2.2.2.2.2.2.2.2.2.2.1 y10z.2.2.2.2.2.2.2.2.2.2.2.1 y10z.2.2.2.2.2.2.2.2.2.2.2.2.1 wl y10z.2.2.2.2.2.2.2.2.2.2.2.2.2.1 y10z.2.2.2.2.2.2.2.2.2.2.2.2.2.2.1 y10z.2.2.2.2.2.2.2.2.2.2.2.2.2.2.2.1 y10z.2.2.2.2.2.2.2.2.2.2.2.2.2.2.2.2 (upd st W wr) y12z)) else (some ((0 : Int32), pz_rn [0, 1, 2, 3, 5, 6, 7] [500, 501, 4, 508, l0] 10 y10z.2.1, y10z.2.2.1, y10z.2.2.2.1, y10z.2.2.2.2.1, y10z.2.2.2.2.2.1, y10z.2.2.2.2.2.2.1, y10z.2.2.2.2.2.2.2.1, y10z.2.2.2.2.2.2.2.2.1, y10z.2.2.2.2.2.2.2.2.2.1, y10z.2.2.2.2.2.2.2.2.2.2.1, y10z.2.2.2.2.2.2.2.2.2.2.2.1, y10z.2.2.2.2.2.2.2.2.2.2.2.2.1, wl, y10z.2.2.2.2.2.2.2.2.2.2.2.2.2.1, y10z.2.2.2.2.2.2.2.2.2.2.2.2.2.2.1, y10z.2.2.2.2.2.2.2.2.2.2.2.2.2.2.2.1, y10z.2.2.2.2.2.2.2.2.2.2.2.2.2.2.2.2, upd st W wr, upd mi W wr)))) = FX7_readWheelLine_J65 fu len bytes (pz_rn [0, 1, 2, 3, 5, 6, 7] [500, 501, 4, 508, l0] 10 4) 0 wt' 0 3 0 (-1) nx' ck' cv' pl' W' wl cnt' wr' K' pls' (upd st W wr) (upd mi W wr') := by
        rw [d1, Option.bind_some]
        show (if ¬ (1 : Int32) = 0 then (FX6_endIf fu wl wr' (upd mi W wr)).bind _ else _) = _
        rw [if_pos (show ¬ (1 : Int32) = 0 by decide), hendif]
        rfl
      have hrl : ((FX12_expressionW fu sums cnt len nx3 pl3 rs3 rv3 0 (-1) 0 tape ks kv).bind (fun y10z => FX12_wheelLine_J26 fu p1 len tape wheels y10z.1 y10z.2.1 y10z.2.2.1 y10z.2.2.2.1 y10z.2.2.2.2.1 y10z.2.2.2.2.2.1 y10z.2.2.2.2.2.2.1 y10z.2.2.2.2.2.2.2.1 y10z.2.2.2.2.2.2.2.2.1 y10z.2.2.2.2.2.2.2.2.2.1 y10z.2.2.2.2.2.2.2.2.2.2 (upd wf (12 + W) wr) wt ot)) = FX12_wheelLine_J26 fu p1 len tape wheels sums' cnt' nx' pl' rs' rv' 0 (-1) 0 ks' kv' (upd wf (12 + W) wr) wt ot := by
        rw [d2, Option.bind_some]
      rw [← hcl, ← hrl] at key
      exact key
    · obtain ⟨x1, x2, x3, x4, x5, x6, x7, x8, x9, x10, x11, x12, hcf⟩ := d3
      have ew : FX12_wheelLine_J26 fu p1 len tape wheels sums' cnt' nx' pl' rs' rv' fa fp op' ks' kv' (upd wf (12 + W) wr) wt ot = some (wheels + 1, sums', cnt', nx', pl', rs', rv', fa, fp, op', ks', kv', upd wf (12 + W) wr, upd wt (12 + W) sums', upd ot (12 + W) sums') := by
        unfold FX12_wheelLine_J26 FX12_wheelLine_J57
        rw [if_pos hi24, if_pos d2, hp1n, go_fault d2, Option.bind_some]
        show (FX12_expressionW fu sums' cnt' len nx' pl' rs' rv' fa fp op' tape ks' kv').bind _ = _
        rw [expr_fault (by omega) d2, Option.bind_some, if_pos hi24]
      refine Or.inr ⟨pz_rn [0, 1, 2, 3, 5, 6, 7] [500, 501, 4, 508, l0] 10 4, 0, x1, x2, x3, fa, fp, x4, x5, x6, x7, x8, wl, x9, x10, x11, x12, upd st W wr, upd mi W wr, wheels + 1, sums', cnt', nx', pl', rs', rv', fa, fp, op', ks', kv', upd wf (12 + W) wr, upd wt (12 + W) sums', upd ot (12 + W) sums', ?_, ?_, Or.inl ⟨rfl, rfl, d2⟩, d4, fW _ _ _⟩
      · show (FX7_readExpression fu 0 0 (-1) len nx3 ck3 cv3 pl3 bytes Wa cnt wr K pls).bind _ = _
        rw [hcf, Option.bind_some]
        rfl
      · show (FX12_expressionW fu sums cnt len nx3 pl3 rs3 rv3 0 (-1) 0 tape ks kv).bind _ = _
        rw [d1, Option.bind_some]
        exact ew
    · obtain ⟨x1, x2, x3, x4, x5, x6, x7, x8, x9, x10, x11, x12, hcf⟩ := d2
      have h1 : ¬ (1 : Int32) = 0 := by decide
      have hw9 : fX12_isWord_r 9 rs' rv' 0 = 0 := by
        unfold fX12_isWord_r
        rw [if_neg (show ¬ ¬ (0 : Int32) = 0 by decide), if_pos (show ¬ rs' = 0 by rw [d3]; decide)]
      have ew : FX12_wheelLine_J26 fu p1 len tape wheels sums' cnt' nx' pl' rs' rv' 0 (-1) 0 ks' kv' (upd wf (12 + W) wr) wt ot = some (wheels + 1, sums', cnt', nx', pl', rs', rv', 1, pl', 0, ks', kv', upd wf (12 + W) wr, upd wt (12 + W) sums', upd ot (12 + W) sums') := by
        have e1 : fX12_wrong_f0_37 1 0 = 1 := rfl
        have e2 : fX12_wrong_f0_38 pl' 0 (-1) = pl' := rfl
        unfold FX12_wheelLine_J26 FX12_wheelLine_J57
        rw [if_pos hi24, if_neg (show ¬ ¬ (0 : Int32) = 0 by decide), hw9, if_neg (show ¬ ¬ (0 : Int32) = 0 by decide), hp1n, e1, e2, go_fault h1, Option.bind_some]
        show (FX12_expressionW fu sums' cnt' len nx' pl' rs' rv' 1 pl' 0 tape ks' kv').bind _ = _
        rw [expr_fault (by omega) h1, Option.bind_some, if_pos hi24]
      refine Or.inr ⟨pz_rn [0, 1, 2, 3, 5, 6, 7] [500, 501, 4, 508, l0] 10 4, 0, x1, x2, x3, 1, pl', x4, x5, x6, x7, x8, wl, x9, x10, x11, x12, upd st W wr, upd mi W wr, wheels + 1, sums', cnt', nx', pl', rs', rv', 1, pl', 0, ks', kv', upd wf (12 + W) wr, upd wt (12 + W) sums', upd ot (12 + W) sums', ?_, ?_, Or.inl ⟨rfl, rfl, by decide⟩, d5, fW _ _ _⟩
      · show (FX7_readExpression fu 0 0 (-1) len nx3 ck3 cv3 pl3 bytes Wa cnt wr K pls).bind _ = _
        rw [hcf, Option.bind_some]
        rfl
      · show (FX12_expressionW fu sums cnt len nx3 pl3 rs3 rv3 0 (-1) 0 tape ks kv).bind _ = _
        rw [d1, Option.bind_some]
        exact ew
end
