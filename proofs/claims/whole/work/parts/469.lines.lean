/-! ===== the other LINES ===== -/
section
variable {fu : Nat} {len : Int32} {bytes tape : Nat → Int32} {L : Nat}
theorem line_gear (hfu : 10000 ≤ fu) (hT : tapeR bytes tape) (hlen : len.toInt = L) (hL : L ≤ 600) {q : Nat} {l : Nat} {og : Int32} {wtg : Int32} {opn : Int32} {ph : Int32} {hs : Int32} {nx : Int32} {ck : Int32} {cv : Int32} {pl : Int32} {Wa : (Nat → Int32)} {fr : (Nat → Int32)} {to : (Nat → Int32)} {ln : Int32} {wl : Int32} {gs : Int32} {rw : Int32} {c7 : Int32} {w7 : Int32} {k7 : (Nat → Int32)} {p7 : (Nat → Int32)} {c11 : Int32} {w11 : Int32} {k11 : (Nat → Int32)} {p11 : (Nat → Int32)} {st : (Nat → Int32)} {mi : (Nat → Int32)} {nm : (Nat → Int32)} {mt : (Nat → Int64)} {rs : (Nat → Int32)} {rl : (Nat → Int32)} {ro : (Nat → Int32)} {wN : Int32} {gN : Int32} {rN : Int32} {sN : Int32} {bN : Int32} {sf : Int32} {sto : Int32} {so : Int32} {va : Int32} {ks : (Nat → Int32)} {kv : (Nat → Int32)} {kp : (Nat → Int32)} {wf : (Nat → Int32)} {wt : (Nat → Int32)} {ot : (Nat → Int32)} {gn : (Nat → Int32)} {gf : (Nat → Int32)} {gt : (Nat → Int32)} {rsR : (Nat → Int32)} {rmR : (Nat → Int32)} {roR : (Nat → Int32)} {e : Nat} (htk : tkS L nx ck cv pl so va q e) (hck : ck = 1) (hN : lineN wl wN c7 w7 sN k7 st mi ks kv wf wt ot gs gN c11 w11 bN hs sf sto k11 p11 nm fr to kp gn gf gt rw rN rs rl ro rsR rmR roR) (hcv : cv = 240175104) (w1 : fX12_isWord_r 1 so va 0 = 1) (w2 : fX12_isWord_r 2 so va 0 = 0) (w3 : fX12_isWord_r 3 so va 0 = 0) : outL L q ks kv wf wt ot gn gf gt rsR rmR roR ln (FX7_readLine_J22 fu len bytes cv l og wtg opn ph hs 0 (-1) nx ck cv pl Wa fr to ln wl gs rw c7 w7 k7 p7 c11 w11 k11 p11 st mi nm mt rs rl ro) (FX12_line_J57 fu len tape 0 wN gN rN sN bN sf sto c7 c11 ln nx pl so va 0 (-1) 0 ks kv kp wf wt ot gn gf gt rsR rmR roR) := by
  have q0 := t_0
  have t6 : (6 : Int32).toInt = 6 := rfl
  have t12 : (12 : Int32).toInt = 12 := rfl
  have z0 : ¬ (1 : Int32) = 0 := by decide
  have hz : ¬ ¬ (0 : Int32) = 0 := by decide
  have h20 : ¬ (2 : Int32) = 0 := by decide
  have h30 : ¬ (3 : Int32) = 0 := by decide
  obtain ⟨W, w, G, g, R, nW, nG, nR⟩ := hN
  by_cases c : G = 6
  · have e1 : gN = 6 := by rw [nG.2.2.1]; exact i_eq.mpr (by have := nG.1; omega)
    apply outL_of
    · unfold FX7_readLine_J22 FX7_readGearLine
      rewrite [if_pos hcv, if_neg (show ¬ gs < 6 by rw [i_lt]; have := nG.1; omega), Option.bind_some]
      exact rfl
    · unfold FX12_line_J57
      rewrite [if_pos rfl]
      unfold FX12_line_J70
      rewrite [w1, if_neg z0, if_pos e1]
      exact rfl
    · exact line_now h20
  · have e1 : ¬ gN = 6 := fun z => c (by rw [nG.2.2.1] at z; have := i_eq.mp z; have := nG.1; omega)
    have hp1 := i_add 6 gN (by rw [nG.2.2.1]; have := nG.1; have := nG.2.1; omega) (by rw [nG.2.2.1]; have := nG.1; have := nG.2.1; omega)
    rw [nG.2.2.1, nG.1, t6, ← nG.2.2.1] at hp1
    have hRr : FX12_line_J57 fu len tape 0 wN gN rN sN bN sf sto c7 c11 ln nx pl so va 0 (-1) 0 ks kv kp wf wt ot gn gf gt rsR rmR roR = ((FX12_next fu len nx pl so va tape).bind (fun y18z => (FX12_gearLine fu (6 + gN) gN bN c11 len y18z.1 y18z.2.1 y18z.2.2.1 y18z.2.2.2 0 (-1) 0 tape ks kv kp gn gf gt).bind (fun y19z => FX12_line_J235 fu len tape wN y19z.1 rN sN y19z.2.1 sf sto c7 y19z.2.2.1 ln y19z.2.2.2.1 y19z.2.2.2.2.1 y19z.2.2.2.2.2.1 y19z.2.2.2.2.2.2.1 y19z.2.2.2.2.2.2.2.1 y19z.2.2.2.2.2.2.2.2.1 y19z.2.2.2.2.2.2.2.2.2.1 y19z.2.2.2.2.2.2.2.2.2.2.1 y19z.2.2.2.2.2.2.2.2.2.2.2.1 y19z.2.2.2.2.2.2.2.2.2.2.2.2.1 wf wt ot y19z.2.2.2.2.2.2.2.2.2.2.2.2.2.1 y19z.2.2.2.2.2.2.2.2.2.2.2.2.2.2.1 y19z.2.2.2.2.2.2.2.2.2.2.2.2.2.2.2 rsR rmR roR))) := by
      unfold FX12_line_J57
      rewrite [if_pos rfl]
      unfold FX12_line_J70
      rewrite [w1, if_neg z0, if_neg e1]
      unfold FX12_line_J87
      rewrite [w3, if_pos rfl]
      unfold FX12_line_J112
      rewrite [w2, if_pos rfl]
      unfold FX12_line_J133
      rewrite [if_pos rfl, if_pos rfl, w1, if_neg z0]
      exact rfl
    obtain ⟨nx2, pl2, rs2, rv2, hn, hg⟩ := gear_line hfu hT hlen hL htk hck 507 og wtg opn ph Wa (mayT := mt) nG (by have := nG.2.1; omega) (6 + gN) hp1
    rw [hn, Option.bind_some] at hRr
    rcases hg with ⟨l', og', wtg', opn', ph', nx', ck', cv', pl', Wa', froms', tos', gears', cnt', wr', K', pls', names', mayT', gearsR', bits', rs', rv', ks', kv', kp', gname', gfrom', gto', q', e', w', d1, d2, d3, d4, d5, d6, d7⟩ | ⟨l', og', wtg', opn', ph', fa, fp, nx', ck', cv', plc, Wa', froms', tos', gears', cnt', wr', K', pls', names', mayT', gearsR', bits', cntR, nxR, pl', rs', rv', opR, ks', kv', kp', gname', gfrom', gto', d1, d2, d3, d4, d5⟩
    · apply outL_of
      · unfold FX7_readLine_J22
        rewrite [if_pos hcv, d1, Option.bind_some]
        exact rfl
      · rewrite [hRr, d2, Option.bind_some]
        exact rfl
      · exact tail_ok hfu hT hlen hL d3 d4 ⟨W, w, G + 1, w', R, wheelN_frm nW (fun x hx => ⟨(d6 x (by omega)).1, (d6 x (by omega)).2.1⟩), d5, nR⟩ ⟨fun x hx => ⟨(d6 x (by omega)).1, (d6 x (by omega)).2.1⟩, fun _ _ => ⟨rfl, rfl, rfl⟩, d7, ⟨fun _ _ => ⟨rfl, rfl⟩, fun _ _ => rfl⟩⟩
    · apply outL_of
      · unfold FX7_readLine_J22
        rewrite [if_pos hcv, d1, Option.bind_some]
        exact rfl
      · rewrite [hRr, d2, Option.bind_some]
        exact rfl
      · exact tail_bad (Or.inl ⟨rfl, rfl, d3⟩) ⟨fun x hx => ⟨(d4 x (by omega)).1, (d4 x (by omega)).2.1⟩, fun _ _ => ⟨rfl, rfl, rfl⟩, d5, ⟨fun _ _ => ⟨rfl, rfl⟩, fun _ _ => rfl⟩⟩
theorem line_row (hfu : 10000 ≤ fu) (hT : tapeR bytes tape) (hlen : len.toInt = L) (hL : L ≤ 600) {q : Nat} {l : Nat} {og : Int32} {wtg : Int32} {opn : Int32} {ph : Int32} {hs : Int32} {nx : Int32} {ck : Int32} {cv : Int32} {pl : Int32} {Wa : (Nat → Int32)} {fr : (Nat → Int32)} {to : (Nat → Int32)} {ln : Int32} {wl : Int32} {gs : Int32} {rw : Int32} {c7 : Int32} {w7 : Int32} {k7 : (Nat → Int32)} {p7 : (Nat → Int32)} {c11 : Int32} {w11 : Int32} {k11 : (Nat → Int32)} {p11 : (Nat → Int32)} {st : (Nat → Int32)} {mi : (Nat → Int32)} {nm : (Nat → Int32)} {mt : (Nat → Int64)} {rs : (Nat → Int32)} {rl : (Nat → Int32)} {ro : (Nat → Int32)} {wN : Int32} {gN : Int32} {rN : Int32} {sN : Int32} {bN : Int32} {sf : Int32} {sto : Int32} {so : Int32} {va : Int32} {ks : (Nat → Int32)} {kv : (Nat → Int32)} {kp : (Nat → Int32)} {wf : (Nat → Int32)} {wt : (Nat → Int32)} {ot : (Nat → Int32)} {gn : (Nat → Int32)} {gf : (Nat → Int32)} {gt : (Nat → Int32)} {rsR : (Nat → Int32)} {rmR : (Nat → Int32)} {roR : (Nat → Int32)} {e : Nat} (htk : tkS L nx ck cv pl so va q e) (hck : ck = 1) (hN : lineN wl wN c7 w7 sN k7 st mi ks kv wf wt ot gs gN c11 w11 bN hs sf sto k11 p11 nm fr to kp gn gf gt rw rN rs rl ro rsR rmR roR) (hcv : cv = 620462080) (w1 : fX12_isWord_r 1 so va 0 = 0) (w2 : fX12_isWord_r 2 so va 0 = 0) (w3 : fX12_isWord_r 3 so va 0 = 1) : outL L q ks kv wf wt ot gn gf gt rsR rmR roR ln (FX7_readLine_J22 fu len bytes cv l og wtg opn ph hs 0 (-1) nx ck cv pl Wa fr to ln wl gs rw c7 w7 k7 p7 c11 w11 k11 p11 st mi nm mt rs rl ro) (FX12_line_J57 fu len tape 0 wN gN rN sN bN sf sto c7 c11 ln nx pl so va 0 (-1) 0 ks kv kp wf wt ot gn gf gt rsR rmR roR) := by
  have q0 := t_0
  have t6 : (6 : Int32).toInt = 6 := rfl
  have t12 : (12 : Int32).toInt = 12 := rfl
  have z0 : ¬ (1 : Int32) = 0 := by decide
  have hz : ¬ ¬ (0 : Int32) = 0 := by decide
  have h20 : ¬ (2 : Int32) = 0 := by decide
  have h30 : ¬ (3 : Int32) = 0 := by decide
  obtain ⟨W, w, G, g, R, nW, nG, nR⟩ := hN
  have k1 : ¬ cv = 240175104 := by rw [hcv]; decide
  have k2 : ¬ cv = 308281344 := by rw [hcv]; decide
  by_cases c : R = 6
  · have e1 : rN = 6 := by rw [nR.2.2.1]; exact i_eq.mpr (by have := nR.1; omega)
    apply outL_of
    · unfold FX7_readLine_J22 FX7_readRowLine
      rewrite [if_neg k1, if_neg k2, if_pos hcv, if_neg (show ¬ rw < 6 by rw [i_lt]; have := nR.1; omega), Option.bind_some]
      exact rfl
    · unfold FX12_line_J57
      rewrite [if_pos rfl]
      unfold FX12_line_J70
      rewrite [w1, if_pos rfl]
      unfold FX12_line_J87
      rewrite [w3, if_neg z0, if_neg (show ¬ ¬ rN = 6 from fun z => z e1)]
      exact rfl
    · exact line_now h20
  · have e1 : ¬ rN = 6 := fun z => c (by rw [nR.2.2.1] at z; have := i_eq.mp z; have := nR.1; omega)
    have hp1 := i_add 6 rN (by rw [nR.2.2.1]; have := nR.1; have := nR.2.1; omega) (by rw [nR.2.2.1]; have := nR.1; have := nR.2.1; omega)
    rw [nR.2.2.1, nR.1, t6, ← nR.2.2.1] at hp1
    have hRr : FX12_line_J57 fu len tape 0 wN gN rN sN bN sf sto c7 c11 ln nx pl so va 0 (-1) 0 ks kv kp wf wt ot gn gf gt rsR rmR roR = ((FX12_next fu len nx pl so va tape).bind (fun y11z => (FX12_rowLine fu (6 + rN) rN len y11z.1 y11z.2.1 y11z.2.2.1 y11z.2.2.2 0 (-1) tape rsR rmR roR).bind (fun y12z => FX12_line_J235 fu len tape wN gN y12z.1 sN bN sf sto c7 c11 ln y12z.2.1 y12z.2.2.1 y12z.2.2.2.1 y12z.2.2.2.2.1 y12z.2.2.2.2.2.1 y12z.2.2.2.2.2.2.1 0 ks kv kp wf wt ot gn gf gt y12z.2.2.2.2.2.2.2.1 y12z.2.2.2.2.2.2.2.2.1 y12z.2.2.2.2.2.2.2.2.2))) := by
      unfold FX12_line_J57
      rewrite [if_pos rfl]
      unfold FX12_line_J70
      rewrite [w1, if_pos rfl]
      unfold FX12_line_J87
      rewrite [w3, if_neg z0, if_pos e1]
      unfold FX12_line_J112
      rewrite [w2, if_pos rfl]
      unfold FX12_line_J133
      rewrite [if_pos rfl, if_pos rfl, w1, if_pos rfl, w2, if_pos rfl]
      exact rfl
    obtain ⟨nx2, pl2, rs2, rv2, hn, hg⟩ := row_line hfu hT hlen hL htk hck nR (by have := nR.2.1; omega) (6 + rN) hp1
    rw [hn, Option.bind_some] at hRr
    rcases hg with ⟨nx', ck', cv', pl', rows', rsC', rl', ro2, rowsR', rsT, rvT, rs2', rm2', ro2', q', e', d1, d2, d3, d4, d5, d6⟩ | ⟨fa, fp, nx', ck', cv', plc, rows', rsC', rl', ro2, rowsR', nxR, plR, rsR2, rvR, faR, fpR, rs2', rm2', ro2', d1, d2, d3, d4⟩
    · apply outL_of
      · unfold FX7_readLine_J22
        rewrite [if_neg k1, if_neg k2, if_pos hcv, d1, Option.bind_some]
        exact rfl
      · rewrite [hRr, d2, Option.bind_some]
        exact rfl
      · exact tail_ok hfu hT hlen hL d3 d4 ⟨W, w, G, g, R + 1, nW, nG, d5⟩ ⟨fun _ _ => ⟨rfl, rfl⟩, fun _ _ => ⟨rfl, rfl, rfl⟩, fun _ _ => ⟨rfl, rfl, rfl⟩, d6⟩
    · apply outL_of
      · unfold FX7_readLine_J22
        rewrite [if_neg k1, if_neg k2, if_pos hcv, d1, Option.bind_some]
        exact rfl
      · rewrite [hRr, d2, Option.bind_some]
        exact rfl
      · exact tail_bad d3 ⟨fun _ _ => ⟨rfl, rfl⟩, fun _ _ => ⟨rfl, rfl, rfl⟩, fun _ _ => ⟨rfl, rfl, rfl⟩, d4⟩
theorem line_safe (hfu : 10000 ≤ fu) (hT : tapeR bytes tape) (hlen : len.toInt = L) (hL : L ≤ 600) {q : Nat} {l : Nat} {og : Int32} {wtg : Int32} {opn : Int32} {ph : Int32} {hs : Int32} {nx : Int32} {ck : Int32} {cv : Int32} {pl : Int32} {Wa : (Nat → Int32)} {fr : (Nat → Int32)} {to : (Nat → Int32)} {ln : Int32} {wl : Int32} {gs : Int32} {rw : Int32} {c7 : Int32} {w7 : Int32} {k7 : (Nat → Int32)} {p7 : (Nat → Int32)} {c11 : Int32} {w11 : Int32} {k11 : (Nat → Int32)} {p11 : (Nat → Int32)} {st : (Nat → Int32)} {mi : (Nat → Int32)} {nm : (Nat → Int32)} {mt : (Nat → Int64)} {rs : (Nat → Int32)} {rl : (Nat → Int32)} {ro : (Nat → Int32)} {wN : Int32} {gN : Int32} {rN : Int32} {sN : Int32} {bN : Int32} {sf : Int32} {sto : Int32} {so : Int32} {va : Int32} {ks : (Nat → Int32)} {kv : (Nat → Int32)} {kp : (Nat → Int32)} {wf : (Nat → Int32)} {wt : (Nat → Int32)} {ot : (Nat → Int32)} {gn : (Nat → Int32)} {gf : (Nat → Int32)} {gt : (Nat → Int32)} {rsR : (Nat → Int32)} {rmR : (Nat → Int32)} {roR : (Nat → Int32)} {e : Nat} (htk : tkS L nx ck cv pl so va q e) (hck : ck = 1) (hN : lineN wl wN c7 w7 sN k7 st mi ks kv wf wt ot gs gN c11 w11 bN hs sf sto k11 p11 nm fr to kp gn gf gt rw rN rs rl ro rsR rmR roR) (hcv : cv = 638784512) (w1 : fX12_isWord_r 1 so va 0 = 0) (w2 : fX12_isWord_r 2 so va 0 = 1) (w3 : fX12_isWord_r 3 so va 0 = 0) : outL L q ks kv wf wt ot gn gf gt rsR rmR roR ln (FX7_readLine_J22 fu len bytes cv l og wtg opn ph hs 0 (-1) nx ck cv pl Wa fr to ln wl gs rw c7 w7 k7 p7 c11 w11 k11 p11 st mi nm mt rs rl ro) (FX12_line_J57 fu len tape 0 wN gN rN sN bN sf sto c7 c11 ln nx pl so va 0 (-1) 0 ks kv kp wf wt ot gn gf gt rsR rmR roR) := by
  have q0 := t_0
  have t6 : (6 : Int32).toInt = 6 := rfl
  have t12 : (12 : Int32).toInt = 12 := rfl
  have z0 : ¬ (1 : Int32) = 0 := by decide
  have hz : ¬ ¬ (0 : Int32) = 0 := by decide
  have h20 : ¬ (2 : Int32) = 0 := by decide
  have h30 : ¬ (3 : Int32) = 0 := by decide
  obtain ⟨W, w, G, g, R, nW, nG, nR⟩ := hN
  have k1 : ¬ cv = 240175104 := by rw [hcv]; decide
  have k2 : ¬ cv = 308281344 := by rw [hcv]; decide
  have k3 : ¬ cv = 620462080 := by rw [hcv]; decide
  obtain ⟨n1, n2, n3, n4, n5, n6, n7, n8, n9, n10⟩ := id nG
  rcases n10 with ⟨s1, s2⟩ | ⟨s1, s2, s3, s4⟩
  case inr =>
    have e1 : ¬ sf = -1 := by
      intro z
      rw [← s2, z] at s4
      have := s4.1
      exact absurd this (by decide)
    apply outL_of
    · unfold FX7_readLine_J22 FX7_readSafeLine
      rewrite [if_neg k1, if_neg k2, if_neg k3, if_pos hcv, if_neg (show ¬ hs = 0 by rw [s1]; exact z0), Option.bind_some]
      exact rfl
    · unfold FX12_line_J57
      rewrite [if_pos rfl]
      unfold FX12_line_J70
      rewrite [w1, if_pos rfl]
      unfold FX12_line_J87
      rewrite [w3, if_pos rfl]
      unfold FX12_line_J112
      rewrite [w2, if_neg z0, if_neg e1]
      exact rfl
    · exact line_now h30
  case inl =>
    have hRr : FX12_line_J57 fu len tape 0 wN gN rN sN bN sf sto c7 c11 ln nx pl so va 0 (-1) 0 ks kv kp wf wt ot gn gf gt rsR rmR roR = ((FX12_next fu len nx pl so va tape).bind (fun y16z => (FX12_eitherW fu bN c11 len y16z.1 y16z.2.1 y16z.2.2.1 y16z.2.2.2 0 (-1) 0 tape ks kv kp).bind (fun y17z => FX12_line_J235 fu len tape wN gN rN sN y17z.1 bN y17z.1 c7 y17z.2.1 ln y17z.2.2.1 y17z.2.2.2.1 y17z.2.2.2.2.1 y17z.2.2.2.2.2.1 y17z.2.2.2.2.2.2.1 y17z.2.2.2.2.2.2.2.1 y17z.2.2.2.2.2.2.2.2.1 y17z.2.2.2.2.2.2.2.2.2.1 y17z.2.2.2.2.2.2.2.2.2.2.1 y17z.2.2.2.2.2.2.2.2.2.2.2 wf wt ot gn gf gt rsR rmR roR))) := by
      unfold FX12_line_J57
      rewrite [if_pos rfl]
      unfold FX12_line_J70
      rewrite [w1, if_pos rfl]
      unfold FX12_line_J87
      rewrite [w3, if_pos rfl]
      unfold FX12_line_J112
      rewrite [w2, if_neg z0, if_pos s2]
      unfold FX12_line_J133
      rewrite [if_pos rfl, if_pos rfl, w1, if_pos rfl, w2, if_neg z0]
      exact rfl
    obtain ⟨nx2, ck2, cv2, pl2, rs2, rv2, q2, e2, c1, c2, c3, c4⟩ := tk_adv hfu hT hlen hL htk (by rw [hck]; decide)
    rw [c2, Option.bind_some] at hRr
    rcases either_eq hfu hT hlen hL c3 Wa n5 n4 n6 n7 k11 p11 ks kv kp n8 with ⟨wt', nx', ck', cv', pl', W', cnt', wr', K', pls', sums', rs', rv', ks', kv', kp', q', e', w', d1, d2, d3, d4, d5, d6, d7, d8, d9, d10, d11, d12, d13⟩ | ⟨sums', cnt', nx', pl', rs', rv', fa, fp, op', ks', kv', kp', d1, d2, d3, d4⟩
    · apply outL_of
      · unfold FX7_readLine_J22 FX7_readSafeLine
        rewrite [if_neg k1, if_neg k2, if_neg k3, if_pos hcv, if_pos s1, c1, Option.bind_some, d1, Option.bind_some, if_pos z0, Option.bind_some]
        exact rfl
      · rewrite [hRr, d2, Option.bind_some]
        exact rfl
      · refine tail_ok hfu hT hlen hL d3 (by omega) ⟨W, w, G, w', R, wheelN_frm nW (fun x hx => ⟨(d12 x (by omega)).1, (d12 x (by omega)).2.1⟩), ⟨n1, n2, n3, d5, d6, d7, d9, d10, ?_, Or.inr ⟨rfl, ?_, ?_, ?_⟩⟩, nR⟩ ⟨fun x hx => ⟨(d12 x (by omega)).1, (d12 x (by omega)).2.1⟩, fun _ _ => ⟨rfl, rfl, rfl⟩, fun _ _ => ⟨rfl, rfl, rfl⟩, ⟨fun _ _ => ⟨rfl, rfl⟩, fun _ _ => rfl⟩⟩
        · intro x hx
          obtain ⟨m1, m2, m3, m4⟩ := n9 x hx
          show gn (6 + x) = nm x ∧ gf (6 + x) = upd fr 6 w11 x ∧ gt (6 + x) = upd to 6 wr' x ∧ segG K' (upd fr 6 w11 x) (upd to 6 wr' x) w'
          rw [up_ne fr _ (show x ≠ 6 by omega), up_ne to _ (show x ≠ 6 by omega)]
          exact ⟨m1, m2, m3, segG_ext m4 (by omega) d11⟩
        · show bN = upd fr 6 w11 6
          rw [up_eq]
          exact i_eq.mpr (by omega)
        · show sums' = upd to 6 wr' 6
          rw [up_eq]
          exact i_eq.mpr (by omega)
        · show segG K' (upd fr 6 w11 6) (upd to 6 wr' 6) w'
          rw [up_eq, up_eq]
          have a1 := i_nat (a := w11) (by omega)
          have a2 := i_nat (a := wr') (by omega)
          refine ⟨by omega, by omega, by omega, 1, ?_⟩
          have a3 : w11.toNatClampNeg = g := by omega
          have a4 : wr'.toNatClampNeg = w' := by omega
          rw [a3, a4]
          exact d13.2.2
    · obtain ⟨x1, x2, x3, x4, x5, x6, x7, x8, x9, x10, x11, x12, hcf⟩ := d3
      apply outL_of
      · unfold FX7_readLine_J22 FX7_readSafeLine
        rewrite [if_neg k1, if_neg k2, if_neg k3, if_pos hcv, if_pos s1, c1, Option.bind_some, hcf, Option.bind_some, if_neg hz, Option.bind_some]
        exact rfl
      · rewrite [hRr, d1, Option.bind_some]
        exact rfl
      · exact tail_bad (Or.inl ⟨rfl, rfl, d2⟩) ⟨fun x hx => ⟨(d4 x (by omega)).1, (d4 x (by omega)).2.1⟩, fun _ _ => ⟨rfl, rfl, rfl⟩, fun _ _ => ⟨rfl, rfl, rfl⟩, ⟨fun _ _ => ⟨rfl, rfl⟩, fun _ _ => rfl⟩⟩
end
