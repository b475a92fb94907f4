/-! ===== the method text ===== -/
theorem text_no (fu : Nat) (p1 : Int32) (bytes tape : Nat → Int32) {helm0 l : Nat} {kn0 og wtg opn ph hs fa fp held len nx ck cv pl : Int32} {Wa fr to : Nat → Int32} {sT : Int64} {ln wl gs rw c7 w7 : Int32} {k7 p7 : Nat → Int32} {c11 w11 : Int32} {k11 p11 : Nat → Int32} {vals : Nat → Int64} {st mi nm : Nat → Int32} {mt : Nat → Int64} {rs rl ro : Nat → Int32} {taped uw ug ur us ub usf ust wN gN rN sN bN sf sto sc bc lnR size ax plR so va faR fpR lf lp opR : Int32} {ks kv kp wf wt ot gn gf gt rsR rmR roR : Nat → Int32} (h : p1.toInt < 0 ∨ held.toInt < p1.toInt) (ht : taped = held) : FX11_text fu p1 helm0 kn0 l og wtg opn ph hs fa fp held len nx ck cv pl bytes Wa fr to sT ln wl gs rw c7 w7 k7 p7 c11 w11 k11 p11 vals st mi nm mt rs rl ro = some (-2, helm0, kn0, 8, l, og, wtg, opn, ph, hs, fa, fp, held, len, nx, ck, cv, pl, Wa, fr, to, sT, ln, wl, gs, rw, c7, w7, k7, p7, c11, w11, k11, p11, vals, st, mi, nm, mt, rs, rl, ro) ∧ FX12_text fu p1 taped uw ug ur us ub usf ust wN gN rN sN bN sf sto sc bc lnR size ax plR so va faR fpR lf lp opR tape ks kv kp wf wt ot gn gf gt rsR rmR roR = some (-2, 0, taped, uw, ug, ur, us, ub, usf, ust, wN, gN, rN, sN, bN, sf, sto, sc, bc, lnR, size, ax, plR, so, va, faR, fpR, lf, lp, opR, ks, kv, kp, wf, wt, ot, gn, gf, gt, rsR, rmR, roR) := by
  subst ht
  have q0 := t_0
  unfold FX11_text FX12_text
  by_cases c : p1 < 0
  · rw [if_pos c, if_pos c]
    exact ⟨rfl, rfl⟩
  · have c' := c
    rw [i_lt] at c'
    have d : ¬ p1 ≤ taped := by rw [i_le]; omega
    rw [if_neg c, if_neg c, if_neg d, if_neg d]
    exact ⟨rfl, rfl⟩
theorem text_eq {fu : Nat} {p1 : Int32} {bytes tape : Nat → Int32} {helm0 l : Nat} {kn0 og wtg opn ph hs fa fp held len nx ck cv pl : Int32} {Wa fr to : Nat → Int32} {sT : Int64} {ln wl gs rw c7 w7 : Int32} {k7 p7 : Nat → Int32} {c11 w11 : Int32} {k11 p11 : Nat → Int32} {vals : Nat → Int64} {st mi nm : Nat → Int32} {mt : Nat → Int64} {rs rl ro : Nat → Int32} {taped uw ug ur us ub usf ust wN gN rN sN bN sf sto sc bc lnR size ax plR so va faR fpR lf lp opR : Int32} {ks kv kp wf wt ot gn gf gt rsR rmR roR : Nat → Int32} (hfu : 10000 ≤ fu) (hT : tapeR bytes tape) (h0 : 0 ≤ p1.toInt) (h1 : p1.toInt ≤ held.toInt) (hh : held.toInt ≤ 600) (ht : taped = held) : outT fu helm0 kn0 uw ug ur us ub usf ust ks kv wf wt ot gn gf gt rsR rmR roR (FX11_text fu p1 helm0 kn0 l og wtg opn ph hs fa fp held len nx ck cv pl bytes Wa fr to sT ln wl gs rw c7 w7 k7 p7 c11 w11 k11 p11 vals st mi nm mt rs rl ro) (FX12_text fu p1 taped uw ug ur us ub usf ust wN gN rN sN bN sf sto sc bc lnR size ax plR so va faR fpR lf lp opR tape ks kv kp wf wt ot gn gf gt rsR rmR roR) := by
  subst ht
  have q0 := t_0
  have t600 : (600 : Int32).toInt = 600 := rfl
  have c : ¬ p1 < 0 := by rw [i_lt]; omega
  have d : p1 ≤ taped := by rw [i_le]; omega
  have hm : fJ9_min_7cf53_r p1 600 = p1 := by
    unfold fJ9_min_7cf53_r
    rw [if_neg (show ¬ (600 : Int32) < p1 by rw [i_lt]; omega)]
  obtain ⟨L, hL⟩ : ∃ L : Nat, p1.toInt = L := ⟨p1.toInt.toNat, by omega⟩
  obtain ⟨e', q', y, p', ck', cv', rs', rv', a1, a2, a3, a4, a5, a6, a7, a8, a9⟩ := adv_eq (fu := fu) hfu hT hL (by omega) ck cv pl so plR va 0 (by omega) 0 rfl
  have hO : FX7_open fu p1 ck cv pl bytes = some (0, 0, -1, 0, p1, y, ck', cv', p', -1, 0, 0, 0, 0, 0, 0, 0, 0) := by
    unfold FX7_open FX5_open
    rw [hm, a8, Option.bind_some, Option.bind_some]
  apply outT_of
  case hC =>
    unfold FX11_text
    rewrite [if_neg c, if_pos d, hO, Option.bind_some]
    exact rfl
  case hR =>
    unfold FX12_text
    rewrite [if_neg c, if_pos d, a9, Option.bind_some]
    exact rfl
  case h =>
    refine text_loop hfu hT hL (by omega) helm0 kn0 uw ug ur us ub usf ust lf lp ks kv wf wt ot gn gf gt rsR rmR roR vals L fu fu p1 _ _ _ _ _ _ _ _ _ _ _ _ _ _ _ _ _ _ _ _ _ _ _ _ _ _ _ _ _ _ _ _ _ _ _ _ _ _ _ _ _ _ _ _ _ _ _ _ _ _ _ _ _ q' e' hL (by omega) (by omega) (by omega) (by omega) ⟨a5, a4, a2, a3, a6, a7⟩ ⟨0, 0, 0, 0, 0, ?_, ?_, ?_⟩ ⟨fun _ _ => ⟨rfl, rfl⟩, fun _ _ => ⟨rfl, rfl, rfl⟩, fun _ _ => ⟨rfl, rfl, rfl⟩, ⟨fun _ _ => ⟨rfl, rfl⟩, fun _ _ => rfl⟩⟩
    · exact ⟨rfl, by omega, rfl, rfl, rfl, rfl, by omega, fun i hi => absurd hi (by omega), Or.inl rfl, fun i hi => absurd hi (by omega)⟩
    · exact ⟨rfl, by omega, rfl, rfl, rfl, rfl, by omega, fun i hi => absurd hi (by omega), fun i hi => absurd hi (by omega), Or.inl ⟨rfl, rfl⟩⟩
    · exact ⟨rfl, by omega, rfl, fun i hi => absurd hi (by omega)⟩
