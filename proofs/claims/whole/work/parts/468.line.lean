/-! ===== a LINE ===== -/
def oldF (ks0 kv0 wf0 wt0 ot0 gn0 gf0 gt0 rs0 rm0 ro0 ks kv wf wt ot gn gf gt rsR rmR roR : Nat → Int32) : Prop := (∀ q, q < 128 → ks q = ks0 q ∧ kv q = kv0 q) ∧ frmW wf0 wt0 ot0 wf wt ot ∧ frmG gn0 gf0 gt0 gn gf gt ∧ frmR rs0 rm0 ro0 rsR rmR roR
def lineN (wl wN c7 w7 sN : Int32) (k7 st mi ks kv wf wt ot : Nat → Int32) (gs gN c11 w11 bN hs sf sto : Int32) (k11 p11 nm fr to kp gn gf gt : Nat → Int32) (rw rN : Int32) (rs rl ro rsR rmR roR : Nat → Int32) : Prop := ∃ W w G g R : Nat, wheelN wl wN c7 w7 sN k7 st mi ks kv wf wt ot W w ∧ gearN gs gN c11 w11 bN hs sf sto k11 p11 nm fr to ks kv kp gn gf gt G g ∧ rowN rw rN rs rl ro rsR rmR roR R
def okL (L q : Nat) (ks0 kv0 wf0 wt0 ot0 gn0 gf0 gt0 rs0 rm0 ro0 : Nat → Int32) (ln0 : Int32) : Int32 × Nat × Int32 × Int32 × Int32 × Int32 × Int32 × Int32 × Int32 × Int32 × Int32 × Int32 × Int32 × (Nat → Int32) × (Nat → Int32) × (Nat → Int32) × Int32 × Int32 × Int32 × Int32 × Int32 × Int32 × (Nat → Int32) × (Nat → Int32) × Int32 × Int32 × (Nat → Int32) × (Nat → Int32) × (Nat → Int32) × (Nat → Int32) × (Nat → Int32) × (Nat → Int64) × (Nat → Int32) × (Nat → Int32) × (Nat → Int32) → Int32 × Int32 × Int32 × Int32 × Int32 × Int32 × Int32 × Int32 × Int32 × Int32 × Int32 × Int32 × Int32 × Int32 × Int32 × Int32 × Int32 × (Nat → Int32) × (Nat → Int32) × (Nat → Int32) × (Nat → Int32) × (Nat → Int32) × (Nat → Int32) × (Nat → Int32) × (Nat → Int32) × (Nat → Int32) × (Nat → Int32) × (Nat → Int32) × (Nat → Int32) → Prop
  | (r, l, og, wtg, opn, ph, hs, fa, fp, nx, ck, cv, pl, Wa, fr, to, ln, wl, gs, rw, c7, w7, k7, p7, c11, w11, k11, p11, st, mi, nm, mt, rs, rl, ro), (wN, gN, rN, sN, bN, sf, sto, sc, bc, lnR, ax, plR, so, va, faR, fpR, opR, ks, kv, kp, wf, wt, ot, gn, gf, gt, rsR, rmR, roR) => r = 1 ∧ fa = 0 ∧ fp = -1 ∧ faR = 0 ∧ fpR = -1 ∧ opR = 0 ∧ ax = nx ∧ plR = pl ∧ ln = ln0 + 1 ∧ lnR = ln ∧ sc = c7 ∧ bc = c11 ∧ (∃ q' e', tkS L nx ck cv pl so va q' e' ∧ q < q') ∧ lineN wl wN c7 w7 sN k7 st mi ks kv wf wt ot gs gN c11 w11 bN hs sf sto k11 p11 nm fr to kp gn gf gt rw rN rs rl ro rsR rmR roR ∧ oldF ks0 kv0 wf0 wt0 ot0 gn0 gf0 gt0 rs0 rm0 ro0 ks kv wf wt ot gn gf gt rsR rmR roR
def badL (ks0 kv0 wf0 wt0 ot0 gn0 gf0 gt0 rs0 rm0 ro0 : Nat → Int32) : Int32 × Nat × Int32 × Int32 × Int32 × Int32 × Int32 × Int32 × Int32 × Int32 × Int32 × Int32 × Int32 × (Nat → Int32) × (Nat → Int32) × (Nat → Int32) × Int32 × Int32 × Int32 × Int32 × Int32 × Int32 × (Nat → Int32) × (Nat → Int32) × Int32 × Int32 × (Nat → Int32) × (Nat → Int32) × (Nat → Int32) × (Nat → Int32) × (Nat → Int32) × (Nat → Int64) × (Nat → Int32) × (Nat → Int32) × (Nat → Int32) → Int32 × Int32 × Int32 × Int32 × Int32 × Int32 × Int32 × Int32 × Int32 × Int32 × Int32 × Int32 × Int32 × Int32 × Int32 × Int32 × Int32 × (Nat → Int32) × (Nat → Int32) × (Nat → Int32) × (Nat → Int32) × (Nat → Int32) × (Nat → Int32) × (Nat → Int32) × (Nat → Int32) × (Nat → Int32) × (Nat → Int32) × (Nat → Int32) × (Nat → Int32) → Prop
  | (r, l, og, wtg, opn, ph, hs, fa, fp, nx, ck, cv, pl, Wa, fr, to, ln, wl, gs, rw, c7, w7, k7, p7, c11, w11, k11, p11, st, mi, nm, mt, rs, rl, ro), (wN, gN, rN, sN, bN, sf, sto, sc, bc, lnR, ax, plR, so, va, faR, fpR, opR, ks, kv, kp, wf, wt, ot, gn, gf, gt, rsR, rmR, roR) => r = 0 ∧ ¬ fa = 0 ∧ faR = fa ∧ fpR = fp ∧ oldF ks0 kv0 wf0 wt0 ot0 gn0 gf0 gt0 rs0 rm0 ro0 ks kv wf wt ot gn gf gt rsR rmR roR
def outL (L q : Nat) (ks0 kv0 wf0 wt0 ot0 gn0 gf0 gt0 rs0 rm0 ro0 : Nat → Int32) (ln0 : Int32) (C : Option (Int32 × Nat × Int32 × Int32 × Int32 × Int32 × Int32 × Int32 × Int32 × Int32 × Int32 × Int32 × Int32 × (Nat → Int32) × (Nat → Int32) × (Nat → Int32) × Int32 × Int32 × Int32 × Int32 × Int32 × Int32 × (Nat → Int32) × (Nat → Int32) × Int32 × Int32 × (Nat → Int32) × (Nat → Int32) × (Nat → Int32) × (Nat → Int32) × (Nat → Int32) × (Nat → Int64) × (Nat → Int32) × (Nat → Int32) × (Nat → Int32))) (R : Option (Int32 × Int32 × Int32 × Int32 × Int32 × Int32 × Int32 × Int32 × Int32 × Int32 × Int32 × Int32 × Int32 × Int32 × Int32 × Int32 × Int32 × (Nat → Int32) × (Nat → Int32) × (Nat → Int32) × (Nat → Int32) × (Nat → Int32) × (Nat → Int32) × (Nat → Int32) × (Nat → Int32) × (Nat → Int32) × (Nat → Int32) × (Nat → Int32) × (Nat → Int32))) : Prop := ∃ y z, C = some y ∧ R = some z ∧ (okL L q ks0 kv0 wf0 wt0 ot0 gn0 gf0 gt0 rs0 rm0 ro0 ln0 y z ∨ badL ks0 kv0 wf0 wt0 ot0 gn0 gf0 gt0 rs0 rm0 ro0 y z)
theorem outL_of {L q : Nat} {ks0 kv0 wf0 wt0 ot0 gn0 gf0 gt0 rs0 rm0 ro0 : Nat → Int32} {ln0 : Int32} {C C' : Option (Int32 × Nat × Int32 × Int32 × Int32 × Int32 × Int32 × Int32 × Int32 × Int32 × Int32 × Int32 × Int32 × (Nat → Int32) × (Nat → Int32) × (Nat → Int32) × Int32 × Int32 × Int32 × Int32 × Int32 × Int32 × (Nat → Int32) × (Nat → Int32) × Int32 × Int32 × (Nat → Int32) × (Nat → Int32) × (Nat → Int32) × (Nat → Int32) × (Nat → Int32) × (Nat → Int64) × (Nat → Int32) × (Nat → Int32) × (Nat → Int32))} {R R' : Option (Int32 × Int32 × Int32 × Int32 × Int32 × Int32 × Int32 × Int32 × Int32 × Int32 × Int32 × Int32 × Int32 × Int32 × Int32 × Int32 × Int32 × (Nat → Int32) × (Nat → Int32) × (Nat → Int32) × (Nat → Int32) × (Nat → Int32) × (Nat → Int32) × (Nat → Int32) × (Nat → Int32) × (Nat → Int32) × (Nat → Int32) × (Nat → Int32) × (Nat → Int32))} (hC : C = C') (hR : R = R') (h : outL L q ks0 kv0 wf0 wt0 ot0 gn0 gf0 gt0 rs0 rm0 ro0 ln0 C' R') : outL L q ks0 kv0 wf0 wt0 ot0 gn0 gf0 gt0 rs0 rm0 ro0 ln0 C R := by
  rw [hC, hR]
  exact h
section
variable {fu : Nat} {len : Int32} {bytes tape : Nat → Int32} {L : Nat}
theorem tail_bad {q : Nat} {ks0 kv0 wf0 wt0 ot0 gn0 gf0 gt0 rs0 rm0 ro0 : Nat → Int32} {ln0 : Int32} {l : Nat} {og : Int32} {wtg : Int32} {opn : Int32} {ph : Int32} {hs : Int32} {fa : Int32} {fp : Int32} {nx : Int32} {ck : Int32} {cv : Int32} {pl : Int32} {Wa : (Nat → Int32)} {fr : (Nat → Int32)} {to : (Nat → Int32)} {ln : Int32} {wl : Int32} {gs : Int32} {rw : Int32} {c7 : Int32} {w7 : Int32} {k7 : (Nat → Int32)} {p7 : (Nat → Int32)} {c11 : Int32} {w11 : Int32} {k11 : (Nat → Int32)} {p11 : (Nat → Int32)} {st : (Nat → Int32)} {mi : (Nat → Int32)} {nm : (Nat → Int32)} {mt : (Nat → Int64)} {rs : (Nat → Int32)} {rl : (Nat → Int32)} {ro : (Nat → Int32)} {wN : Int32} {gN : Int32} {rN : Int32} {sN : Int32} {bN : Int32} {sf : Int32} {sto : Int32} {sc : Int32} {bc : Int32} {ax : Int32} {plR : Int32} {so : Int32} {va : Int32} {faR : Int32} {fpR : Int32} {opR : Int32} {ks : (Nat → Int32)} {kv : (Nat → Int32)} {kp : (Nat → Int32)} {wf : (Nat → Int32)} {wt : (Nat → Int32)} {ot : (Nat → Int32)} {gn : (Nat → Int32)} {gf : (Nat → Int32)} {gt : (Nat → Int32)} {rsR : (Nat → Int32)} {rmR : (Nat → Int32)} {roR : (Nat → Int32)} (hl : lateR fa fp plR so va faR fpR) (hF : oldF ks0 kv0 wf0 wt0 ot0 gn0 gf0 gt0 rs0 rm0 ro0 ks kv wf wt ot gn gf gt rsR rmR roR) : outL L q ks0 kv0 wf0 wt0 ot0 gn0 gf0 gt0 rs0 rm0 ro0 ln0 (FX7_readLine_J110 fu len bytes 0 l og wtg opn ph hs fa fp nx ck cv pl Wa fr to ln wl gs rw c7 w7 k7 p7 c11 w11 k11 p11 st mi nm mt rs rl ro) (FX12_line_J235 fu len tape wN gN rN sN bN sf sto sc bc ln ax plR so va faR fpR opR ks kv kp wf wt ot gn gf gt rsR rmR roR) := by
  have e1 : FX7_readLine_J110 fu len bytes 0 l og wtg opn ph hs fa fp nx ck cv pl Wa fr to ln wl gs rw c7 w7 k7 p7 c11 w11 k11 p11 st mi nm mt rs rl ro = some (0, l, og, wtg, opn, ph, hs, fa, fp, nx, ck, cv, pl, Wa, fr, to, ln, wl, gs, rw, c7, w7, k7, p7, c11, w11, k11, p11, st, mi, nm, mt, rs, rl, ro) := by
    unfold FX7_readLine_J110
    rw [if_neg (show ¬ ¬ (0 : Int32) = 0 by decide)]
  rcases hl with ⟨h1, h2, h3⟩ | ⟨h1, h2, h3, h4, h5⟩
  · subst h1 h2
    refine ⟨_, (wN, gN, rN, sN, bN, sf, sto, sc, bc, ln, ax, plR, so, va, faR, fpR, opR, ks, kv, kp, wf, wt, ot, gn, gf, gt, rsR, rmR, roR), e1, ?_, Or.inr ⟨rfl, h3, rfl, rfl, hF⟩⟩
    unfold FX12_line_J235
    rw [if_neg h3]
  · subst h1 h2 h3 h4
    refine ⟨_, (wN, gN, rN, sN, bN, sf, sto, sc, bc, ln + 1, ax, fp, so, va, 1, fp, opR, ks, kv, kp, wf, wt, ot, gn, gf, gt, rsR, rmR, roR), e1, ?_, Or.inr ⟨rfl, by decide, rfl, rfl, hF⟩⟩
    unfold FX12_line_J235 FX12_line_J264
    rw [if_pos rfl, h5, if_neg (show ¬ ¬ (0 : Int32) = 0 by decide)]
    rfl
theorem tail_ok (hfu : 10000 ≤ fu) (hT : tapeR bytes tape) (hlen : len.toInt = L) (hL : L ≤ 600) {q : Nat} {ks0 kv0 wf0 wt0 ot0 gn0 gf0 gt0 rs0 rm0 ro0 : Nat → Int32} {l : Nat} {og : Int32} {wtg : Int32} {opn : Int32} {ph : Int32} {hs : Int32} {nx : Int32} {ck : Int32} {cv : Int32} {pl : Int32} {Wa : (Nat → Int32)} {fr : (Nat → Int32)} {to : (Nat → Int32)} {ln : Int32} {wl : Int32} {gs : Int32} {rw : Int32} {c7 : Int32} {w7 : Int32} {k7 : (Nat → Int32)} {p7 : (Nat → Int32)} {c11 : Int32} {w11 : Int32} {k11 : (Nat → Int32)} {p11 : (Nat → Int32)} {st : (Nat → Int32)} {mi : (Nat → Int32)} {nm : (Nat → Int32)} {mt : (Nat → Int64)} {rs : (Nat → Int32)} {rl : (Nat → Int32)} {ro : (Nat → Int32)} {wN : Int32} {gN : Int32} {rN : Int32} {sN : Int32} {bN : Int32} {sf : Int32} {sto : Int32} {so : Int32} {va : Int32} {ks : (Nat → Int32)} {kv : (Nat → Int32)} {kp : (Nat → Int32)} {wf : (Nat → Int32)} {wt : (Nat → Int32)} {ot : (Nat → Int32)} {gn : (Nat → Int32)} {gf : (Nat → Int32)} {gt : (Nat → Int32)} {rsR : (Nat → Int32)} {rmR : (Nat → Int32)} {roR : (Nat → Int32)} {q' e' : Nat} (htk : tkS L nx ck cv pl so va q' e') (hq : q < q') (hN : lineN wl wN c7 w7 sN k7 st mi ks kv wf wt ot gs gN c11 w11 bN hs sf sto k11 p11 nm fr to kp gn gf gt rw rN rs rl ro rsR rmR roR) (hF : oldF ks0 kv0 wf0 wt0 ot0 gn0 gf0 gt0 rs0 rm0 ro0 ks kv wf wt ot gn gf gt rsR rmR roR) : outL L q ks0 kv0 wf0 wt0 ot0 gn0 gf0 gt0 rs0 rm0 ro0 ln (FX7_readLine_J110 fu len bytes 1 l og wtg opn ph hs 0 (-1) nx ck cv pl Wa fr to ln wl gs rw c7 w7 k7 p7 c11 w11 k11 p11 st mi nm mt rs rl ro) (FX12_line_J235 fu len tape wN gN rN sN bN sf sto c7 c11 ln nx pl so va 0 (-1) 0 ks kv kp wf wt ot gn gf gt rsR rmR roR) := by
  unfold FX7_readLine_J110 FX12_line_J235
  rw [if_pos (show ¬ (1 : Int32) = 0 by decide), if_pos rfl]
  rcases atS htk.2.2.2.2.2 (c := -21) (r := 59) (by unfold sgR; decide) with ⟨b1, b2, b3⟩ | ⟨b1, b2, b3, b4, b5, b6⟩
  · refine ⟨(0, l, og, wtg, opn, ph, hs, 1, pl, nx, ck, cv, pl, Wa, fr, to, ln, wl, gs, rw, c7, w7, k7, p7, c11, w11, k11, p11, st, mi, nm, mt, rs, rl, ro), (wN, gN, rN, sN, bN, sf, sto, c7, c11, ln + 1, nx, pl, so, va, 1, pl, 0, ks, kv, kp, wf, wt, ot, gn, gf, gt, rsR, rmR, roR), ?_, ?_, Or.inr ⟨rfl, by decide, rfl, rfl, hF⟩⟩
    · rw [b1, if_neg (show ¬ ¬ (0 : Int32) = 0 by decide)]
    · unfold FX12_line_J264
      rw [b2, if_neg (show ¬ ¬ (0 : Int32) = 0 by decide)]
      rfl
  · obtain ⟨nx2, ck2, cv2, pl2, rs2, rv2, q2, e2, c1, c2, c3, c4⟩ := tk_adv hfu hT hlen hL htk (by rw [b3]; decide)
    refine ⟨(1, l, og, wtg, opn, ph, hs, 0, -1, nx2, ck2, cv2, pl2, Wa, fr, to, ln + 1, wl, gs, rw, c7, w7, k7, p7, c11, w11, k11, p11, st, mi, nm, mt, rs, rl, ro), (wN, gN, rN, sN, bN, sf, sto, c7, c11, ln + 1, nx2, pl2, rs2, rv2, 0, -1, 0, ks, kv, kp, wf, wt, ot, gn, gf, gt, rsR, rmR, roR), ?_, ?_, Or.inl ⟨rfl, rfl, rfl, rfl, rfl, rfl, rfl, rfl, rfl, rfl, rfl, rfl, ⟨q2, e2, c3, by omega⟩, hN, hF⟩⟩
    · rw [b1, if_pos (show ¬ (1 : Int32) = 0 by decide), c1, Option.bind_some]
    · unfold FX12_line_J264
      rw [b2, if_pos (show ¬ (1 : Int32) = 0 by decide), c2, Option.bind_some]
theorem line_now {q : Nat} {l : Nat} {og : Int32} {wtg : Int32} {opn : Int32} {ph : Int32} {hs : Int32} {nx : Int32} {ck : Int32} {cv : Int32} {pl : Int32} {Wa : (Nat → Int32)} {fr : (Nat → Int32)} {to : (Nat → Int32)} {ln : Int32} {wl : Int32} {gs : Int32} {rw : Int32} {c7 : Int32} {w7 : Int32} {k7 : (Nat → Int32)} {p7 : (Nat → Int32)} {c11 : Int32} {w11 : Int32} {k11 : (Nat → Int32)} {p11 : (Nat → Int32)} {st : (Nat → Int32)} {mi : (Nat → Int32)} {nm : (Nat → Int32)} {mt : (Nat → Int64)} {rs : (Nat → Int32)} {rl : (Nat → Int32)} {ro : (Nat → Int32)} {wN : Int32} {gN : Int32} {rN : Int32} {sN : Int32} {bN : Int32} {sf : Int32} {sto : Int32} {so : Int32} {va : Int32} {ks : (Nat → Int32)} {kv : (Nat → Int32)} {kp : (Nat → Int32)} {wf : (Nat → Int32)} {wt : (Nat → Int32)} {ot : (Nat → Int32)} {gn : (Nat → Int32)} {gf : (Nat → Int32)} {gt : (Nat → Int32)} {rsR : (Nat → Int32)} {rmR : (Nat → Int32)} {roR : (Nat → Int32)} {fx : Int32} (h : ¬ fx = 0) : outL L q ks kv wf wt ot gn gf gt rsR rmR roR ln (FX7_readLine_J110 fu len bytes 0 l og wtg opn ph hs fx pl nx ck cv pl Wa fr to ln wl gs rw c7 w7 k7 p7 c11 w11 k11 p11 st mi nm mt rs rl ro) (some (wN, gN, rN, sN, bN, sf, sto, c7, c11, ln, nx, pl, so, va, fx, pl, 0, ks, kv, kp, wf, wt, ot, gn, gf, gt, rsR, rmR, roR)) := by
  refine ⟨(0, l, og, wtg, opn, ph, hs, fx, pl, nx, ck, cv, pl, Wa, fr, to, ln, wl, gs, rw, c7, w7, k7, p7, c11, w11, k11, p11, st, mi, nm, mt, rs, rl, ro), _, ?_, rfl, Or.inr ⟨rfl, h, rfl, rfl, ⟨fun _ _ => ⟨rfl, rfl⟩, fun _ _ => ⟨rfl, rfl, rfl⟩, fun _ _ => ⟨rfl, rfl, rfl⟩, ⟨fun _ _ => ⟨rfl, rfl⟩, fun _ _ => rfl⟩⟩⟩⟩
  unfold FX7_readLine_J110
  rw [if_neg (show ¬ ¬ (0 : Int32) = 0 by decide)]
theorem line_none {q : Nat} {l : Nat} {og : Int32} {wtg : Int32} {opn : Int32} {ph : Int32} {hs : Int32} {nx : Int32} {ck : Int32} {cv : Int32} {pl : Int32} {Wa : (Nat → Int32)} {fr : (Nat → Int32)} {to : (Nat → Int32)} {ln : Int32} {wl : Int32} {gs : Int32} {rw : Int32} {c7 : Int32} {w7 : Int32} {k7 : (Nat → Int32)} {p7 : (Nat → Int32)} {c11 : Int32} {w11 : Int32} {k11 : (Nat → Int32)} {p11 : (Nat → Int32)} {st : (Nat → Int32)} {mi : (Nat → Int32)} {nm : (Nat → Int32)} {mt : (Nat → Int64)} {rs : (Nat → Int32)} {rl : (Nat → Int32)} {ro : (Nat → Int32)} {wN : Int32} {gN : Int32} {rN : Int32} {sN : Int32} {bN : Int32} {sf : Int32} {sto : Int32} {so : Int32} {va : Int32} {ks : (Nat → Int32)} {kv : (Nat → Int32)} {kp : (Nat → Int32)} {wf : (Nat → Int32)} {wt : (Nat → Int32)} {ot : (Nat → Int32)} {gn : (Nat → Int32)} {gf : (Nat → Int32)} {gt : (Nat → Int32)} {rsR : (Nat → Int32)} {rmR : (Nat → Int32)} {roR : (Nat → Int32)} (s0 : Int32) (h1 : ¬ s0 = 240175104) (h2 : ¬ s0 = 308281344) (h3 : ¬ s0 = 620462080) (h4 : ¬ s0 = 638784512) (h5 : ¬ s0 = 780309888) (w0 : fX12_isWord_r 0 so va 0 = 0) (w9 : fX12_isWord_r 9 so va 0 = 0) (w1 : fX12_isWord_r 1 so va 0 = 0) (w2 : fX12_isWord_r 2 so va 0 = 0) (w3 : fX12_isWord_r 3 so va 0 = 0) : outL L q ks kv wf wt ot gn gf gt rsR rmR roR ln (FX7_readLine_J22 fu len bytes s0 l og wtg opn ph hs 0 (-1) nx ck cv pl Wa fr to ln wl gs rw c7 w7 k7 p7 c11 w11 k11 p11 st mi nm mt rs rl ro) (FX12_line fu wN gN rN sN bN sf sto c7 c11 ln len nx pl so va 0 (-1) 0 tape ks kv kp wf wt ot gn gf gt rsR rmR roR) := by
  have hz : ¬ ¬ (0 : Int32) = 0 := by decide
  refine outL_of (C' := FX7_readLine_J110 fu len bytes 0 l og wtg opn ph hs 1 pl nx ck cv pl Wa fr to ln wl gs rw c7 w7 k7 p7 c11 w11 k11 p11 st mi nm mt rs rl ro) (R' := some (wN, gN, rN, sN, bN, sf, sto, c7, c11, ln, nx, pl, so, va, 1, pl, 0, ks, kv, kp, wf, wt, ot, gn, gf, gt, rsR, rmR, roR)) ?_ ?_ (line_now (show ¬ (1 : Int32) = 0 by decide))
  · unfold FX7_readLine_J22
    rw [if_neg h1, if_neg h2, if_neg h3, if_neg h4, if_neg h5]
  · unfold FX12_line FX12_line_J22
    rewrite [w0, if_neg hz, w9, if_pos rfl, if_neg hz, w1, if_neg hz, w2, if_neg hz, w3, if_neg hz]
    exact rfl
theorem gearN_frm {gears gearsR cnt wr bits hasSafe sf sto : Int32} {K pls names froms tos ks kv kp ks' kv' gname gfrom gto : Nat → Int32} {G w : Nat} (h : gearN gears gearsR cnt wr bits hasSafe sf sto K pls names froms tos ks kv kp gname gfrom gto G w) (hf : ∀ q, 192 ≤ q → ks' q = ks q ∧ kv' q = kv q) : gearN gears gearsR cnt wr bits hasSafe sf sto K pls names froms tos ks' kv' kp gname gfrom gto G w := by
  obtain ⟨n1, n2, n3, n4, n5, n6, n7, n8, n9, n10⟩ := h
  refine ⟨n1, n2, n3, n4, n5, n6, n7, ?_, n9, n10⟩
  intro i hi
  have z := n8 i hi
  unfold KnB at z ⊢
  rw [(hf (192 + i) (by omega)).1, (hf (192 + i) (by omega)).2]
  exact z
theorem wheelN_frm {wl wheels cnt wr sums : Int32} {K st mi ks kv ks' kv' wf wt ot : Nat → Int32} {W w : Nat} (h : wheelN wl wheels cnt wr sums K st mi ks kv wf wt ot W w) (hf : ∀ q, q < 192 → ks' q = ks q ∧ kv' q = kv q) : wheelN wl wheels cnt wr sums K st mi ks' kv' wf wt ot W w := by
  obtain ⟨n1, n2, n3, n4, n5, n6, n7, n8, n9, n10⟩ := h
  refine ⟨n1, n2, n3, n4, n5, n6, n7, ?_, n9, n10⟩
  intro i hi
  rw [(hf (128 + i) (by omega)).1, (hf (128 + i) (by omega)).2]
  exact n8 i hi
theorem line_wheel (hfu : 10000 ≤ fu) (hT : tapeR bytes tape) (hlen : len.toInt = L) (hL : L ≤ 600) {q : Nat} {l : Nat} {og : Int32} {wtg : Int32} {opn : Int32} {ph : Int32} {hs : Int32} {nx : Int32} {ck : Int32} {cv : Int32} {pl : Int32} {Wa : (Nat → Int32)} {fr : (Nat → Int32)} {to : (Nat → Int32)} {ln : Int32} {wl : Int32} {gs : Int32} {rw : Int32} {c7 : Int32} {w7 : Int32} {k7 : (Nat → Int32)} {p7 : (Nat → Int32)} {c11 : Int32} {w11 : Int32} {k11 : (Nat → Int32)} {p11 : (Nat → Int32)} {st : (Nat → Int32)} {mi : (Nat → Int32)} {nm : (Nat → Int32)} {mt : (Nat → Int64)} {rs : (Nat → Int32)} {rl : (Nat → Int32)} {ro : (Nat → Int32)} {wN : Int32} {gN : Int32} {rN : Int32} {sN : Int32} {bN : Int32} {sf : Int32} {sto : Int32} {so : Int32} {va : Int32} {ks : (Nat → Int32)} {kv : (Nat → Int32)} {kp : (Nat → Int32)} {wf : (Nat → Int32)} {wt : (Nat → Int32)} {ot : (Nat → Int32)} {gn : (Nat → Int32)} {gf : (Nat → Int32)} {gt : (Nat → Int32)} {rsR : (Nat → Int32)} {rmR : (Nat → Int32)} {roR : (Nat → Int32)} {e : Nat} (htk : tkS L nx ck cv pl so va q e) (hck : ck = 1) (hN : lineN wl wN c7 w7 sN k7 st mi ks kv wf wt ot gs gN c11 w11 bN hs sf sto k11 p11 nm fr to kp gn gf gt rw rN rs rl ro rsR rmR roR) (w1 : fX12_isWord_r 1 so va 0 = 0) (w2 : fX12_isWord_r 2 so va 0 = 0) (w3 : fX12_isWord_r 3 so va 0 = 0) : outL L q ks kv wf wt ot gn gf gt rsR rmR roR ln (FX7_readLine_J72 fu len bytes l og wtg opn ph hs 0 (-1) nx ck cv pl Wa fr to ln wl gs rw c7 w7 k7 p7 c11 w11 k11 p11 st mi nm mt rs rl ro) (FX12_line_J57 fu len tape 1 wN gN rN sN bN sf sto c7 c11 ln nx pl so va 0 (-1) 0 ks kv kp wf wt ot gn gf gt rsR rmR roR) := by
  have q0 := t_0
  have t6 : (6 : Int32).toInt = 6 := rfl
  have t12 : (12 : Int32).toInt = 12 := rfl
  have z0 : ¬ (1 : Int32) = 0 := by decide
  have hz : ¬ ¬ (0 : Int32) = 0 := by decide
  have h20 : ¬ (2 : Int32) = 0 := by decide
  have h30 : ¬ (3 : Int32) = 0 := by decide
  obtain ⟨W, w, G, g, R, nW, nG, nR⟩ := hN
  by_cases c : W = 12
  · have e1 : wN = 12 := by rw [nW.2.2.1]; exact i_eq.mpr (by have := nW.1; omega)
    apply outL_of
    · unfold FX7_readLine_J72 FX7_readWheelLine
      rewrite [if_neg (show ¬ wl < 12 by rw [i_lt]; have := nW.1; omega), Option.bind_some]
      exact rfl
    · unfold FX12_line_J57
      rewrite [if_neg z0, if_pos e1]
      exact rfl
    · exact line_now h20
  · have e1 : ¬ wN = 12 := fun z => c (by rw [nW.2.2.1] at z; have := i_eq.mp z; have := nW.1; omega)
    have hp1 := i_add 12 wN (by rw [nW.2.2.1]; have := nW.1; have := nW.2.1; omega) (by rw [nW.2.2.1]; have := nW.1; have := nW.2.1; omega)
    rw [nW.2.2.1, nW.1, t12, ← nW.2.2.1] at hp1
    have hRr : FX12_line_J57 fu len tape 1 wN gN rN sN bN sf sto c7 c11 ln nx pl so va 0 (-1) 0 ks kv kp wf wt ot gn gf gt rsR rmR roR = ((FX12_wheelLine fu (12 + wN) wN sN c7 len nx pl so va 0 (-1) 0 tape ks kv wf wt ot).bind (fun y20z => FX12_line_J235 fu len tape y20z.1 gN rN y20z.2.1 bN sf sto y20z.2.2.1 c11 ln y20z.2.2.2.1 y20z.2.2.2.2.1 y20z.2.2.2.2.2.1 y20z.2.2.2.2.2.2.1 y20z.2.2.2.2.2.2.2.1 y20z.2.2.2.2.2.2.2.2.1 y20z.2.2.2.2.2.2.2.2.2.1 y20z.2.2.2.2.2.2.2.2.2.2.1 y20z.2.2.2.2.2.2.2.2.2.2.2.1 kp y20z.2.2.2.2.2.2.2.2.2.2.2.2.1 y20z.2.2.2.2.2.2.2.2.2.2.2.2.2.1 y20z.2.2.2.2.2.2.2.2.2.2.2.2.2.2 gn gf gt rsR rmR roR)) := by
      unfold FX12_line_J57 FX12_line_J70
      rewrite [if_neg z0, if_neg e1, w1, if_pos rfl]
      unfold FX12_line_J87
      rewrite [w3, if_pos rfl]
      unfold FX12_line_J112
      rewrite [w2, if_pos rfl]
      unfold FX12_line_J133
      rewrite [if_pos rfl, if_neg z0]
      exact rfl
    rcases wheel_line hfu hT hlen hL htk hck 509 og wtg opn ph Wa (pls := p7) nW (by have := nW.2.1; omega) (12 + wN) hp1 with ⟨l', og', wtg', opn', ph', nx', ck', cv', pl', Wa', wl', cnt', wr', K', pls', st', mi', wheels', sums', rs', rv', ks', kv', wf', wt', ot', q', e', w', d1, d2, d3, d4, d5, d6, d7⟩ | ⟨l', og', wtg', opn', ph', fa, fp, nx', ck', cv', plc, Wa', wl', cnt', wr', K', pls', st', mi', wheels', sums', cntR, nxR, pl', rs', rv', faR, fpR, opR, ks', kv', wf', wt', ot', d1, d2, d3, d4, d5⟩
    · apply outL_of
      · unfold FX7_readLine_J72
        rewrite [d1, Option.bind_some]
        exact rfl
      · rewrite [hRr, d2, Option.bind_some]
        exact rfl
      · exact tail_ok hfu hT hlen hL d3 d4 ⟨W + 1, w', G, g, R, d5, gearN_frm nG (fun x hx => d6 x (Or.inr hx)), nR⟩ ⟨fun x hx => d6 x (Or.inl (by omega)), d7, fun _ _ => ⟨rfl, rfl, rfl⟩, ⟨fun _ _ => ⟨rfl, rfl⟩, fun _ _ => rfl⟩⟩
    · apply outL_of
      · unfold FX7_readLine_J72
        rewrite [d1, Option.bind_some]
        exact rfl
      · rewrite [hRr, d2, Option.bind_some]
        exact rfl
      · exact tail_bad d3 ⟨fun x hx => d4 x (Or.inl (by omega)), d5, fun _ _ => ⟨rfl, rfl, rfl⟩, ⟨fun _ _ => ⟨rfl, rfl⟩, fun _ _ => rfl⟩⟩
end
