/-! ===== the text, all its LINES ===== -/
section
variable {fu : Nat} {p1 len : Int32} {bytes tape : Nat → Int32} {L : Nat}
theorem outT_of {helm0 : Nat} {kn0 uw ug ur us ub usf ust : Int32} {ks0 kv0 wf0 wt0 ot0 gn0 gf0 gt0 rs0 rm0 ro0 : Nat → Int32} {C C' : Option (Int32 × Nat × Int32 × Nat × Nat × Int32 × Int32 × Int32 × Int32 × Int32 × Int32 × Int32 × Int32 × Int32 × Int32 × Int32 × Int32 × Int32 × (Nat → Int32) × (Nat → Int32) × (Nat → Int32) × Int64 × Int32 × Int32 × Int32 × Int32 × Int32 × Int32 × (Nat → Int32) × (Nat → Int32) × Int32 × Int32 × (Nat → Int32) × (Nat → Int32) × (Nat → Int64) × (Nat → Int32) × (Nat → Int32) × (Nat → Int32) × (Nat → Int64) × (Nat → Int32) × (Nat → Int32) × (Nat → Int32))} {R R' : Option (Int32 × Int32 × Int32 × Int32 × Int32 × Int32 × Int32 × Int32 × Int32 × Int32 × Int32 × Int32 × Int32 × Int32 × Int32 × Int32 × Int32 × Int32 × Int32 × Int32 × Int32 × Int32 × Int32 × Int32 × Int32 × Int32 × Int32 × Int32 × Int32 × Int32 × (Nat → Int32) × (Nat → Int32) × (Nat → Int32) × (Nat → Int32) × (Nat → Int32) × (Nat → Int32) × (Nat → Int32) × (Nat → Int32) × (Nat → Int32) × (Nat → Int32) × (Nat → Int32) × (Nat → Int32))} (hC : C = C') (hR : R = R') (h : outT fu helm0 kn0 uw ug ur us ub usf ust ks0 kv0 wf0 wt0 ot0 gn0 gf0 gt0 rs0 rm0 ro0 C' R') : outT fu helm0 kn0 uw ug ur us ub usf ust ks0 kv0 wf0 wt0 ot0 gn0 gf0 gt0 rs0 rm0 ro0 C R := by
  rw [hC, hR]
  exact h
theorem text_stop {helm0 : Nat} {kn0 uw ug ur us ub usf ust lf lp v3 fa fp sc bc lnR ax plR op : Int32} {ks0 kv0 wf0 wt0 ot0 gn0 gf0 gt0 rs0 rm0 ro0 : Nat → Int32} {l : Nat} {og wtg opn ph hs nx ck cv pl : Int32} {Wa fr to : Nat → Int32} {ln wl gs rw c7 w7 : Int32} {k7 p7 : Nat → Int32} {c11 w11 : Int32} {k11 p11 : Nat → Int32} {vals : Nat → Int64} {st mi nm : Nat → Int32} {mt : Nat → Int64} {rs rl ro : Nat → Int32} {wN gN rN sN bN sf sto so va : Int32} {ks kv kp wf wt ot gn gf gt rsR rmR roR : Nat → Int32} {f f' : Nat} (h : ¬ fa = 0) (hF : oldF ks0 kv0 wf0 wt0 ot0 gn0 gf0 gt0 rs0 rm0 ro0 ks kv wf wt ot gn gf gt rsR rmR roR) : outT fu helm0 kn0 uw ug ur us ub usf ust ks0 kv0 wf0 wt0 ot0 gn0 gf0 gt0 rs0 rm0 ro0 (FX11_text_L fu p1 bytes (f + 1) 0 v3 helm0 kn0 l og wtg opn ph hs fa fp 0 len nx ck cv pl Wa fr to (-1) ln wl gs rw c7 w7 k7 p7 c11 w11 k11 p11 vals st mi nm mt rs rl ro) (FX12_text_L fu p1 tape (f' + 1 + 1) 0 0 0 0 uw ug ur us ub usf ust wN gN rN sN bN sf sto sc bc lnR len ax plR so va fa fp lf lp op ks kv kp wf wt ot gn gf gt rsR rmR roR) := by
  refine ⟨(-1, helm0, kn0, 8, l, og, wtg, opn, ph, hs, fa, fp, 0, len, nx, ck, cv, pl, Wa, fr, to, -1, ln, wl, gs, rw, c7, w7, k7, p7, c11, w11, k11, p11, vals, st, mi, nm, mt, rs, rl, ro), (-1, 0, 0, uw, ug, ur, us, ub, usf, ust, wN, gN, rN, sN, bN, sf, sto, sc, bc, lnR, len, ax, plR, so, va, fa, fp, fa, fp, op, ks, kv, kp, wf, wt, ot, gn, gf, gt, rsR, rmR, roR), ?_, ?_, Or.inr ⟨rfl, rfl, rfl, rfl, rfl, rfl, rfl, rfl, rfl, rfl, rfl, rfl, rfl, rfl, rfl, rfl, hF⟩⟩
  · rw [FX11_text_L]
    by_cases c : v3 ≤ 0
    · rw [if_pos c, if_pos rfl]
    · rw [if_neg c, if_pos rfl]
  · rw [FX12_text_L, if_pos rfl, if_pos h, text_bad h]
theorem text_loop (hfu : 10000 ≤ fu) (hT : tapeR bytes tape) (hlen : len.toInt = L) (hL : L ≤ 600) (helm0 : Nat) (kn0 uw ug ur us ub usf ust lf lp : Int32) (ks0 kv0 wf0 wt0 ot0 gn0 gf0 gt0 rs0 rm0 ro0 : Nat → Int32) (vals : Nat → Int64) :
    ∀ (d f f' : Nat) (v3 : Int32) (l : Nat) (og wtg opn ph hs nx ck cv pl : Int32) (Wa fr to : Nat → Int32) (ln wl gs rw c7 w7 : Int32) (k7 p7 : Nat → Int32) (c11 w11 : Int32) (k11 p11 : Nat → Int32) (st mi nm : Nat → Int32) (mt : Nat → Int64) (rs rl ro : Nat → Int32) (wN gN rN sN bN sf sto so va : Int32) (ks kv kp wf wt ot gn gf gt rsR rmR roR : Nat → Int32) (q e : Nat), v3.toInt = d → d ≤ 1000 → d + 1 < f → d + 200 < f' → L ≤ q + d → tkS L nx ck cv pl so va q e → lineN wl wN c7 w7 sN k7 st mi ks kv wf wt ot gs gN c11 w11 bN hs sf sto k11 p11 nm fr to kp gn gf gt rw rN rs rl ro rsR rmR roR → oldF ks0 kv0 wf0 wt0 ot0 gn0 gf0 gt0 rs0 rm0 ro0 ks kv wf wt ot gn gf gt rsR rmR roR → outT fu helm0 kn0 uw ug ur us ub usf ust ks0 kv0 wf0 wt0 ot0 gn0 gf0 gt0 rs0 rm0 ro0 (FX11_text_L fu p1 bytes f 1 v3 helm0 kn0 l og wtg opn ph hs 0 (-1) 0 len nx ck cv pl Wa fr to (-1) ln wl gs rw c7 w7 k7 p7 c11 w11 k11 p11 vals st mi nm mt rs rl ro) (FX12_text_L fu p1 tape f' 0 0 0 0 uw ug ur us ub usf ust wN gN rN sN bN sf sto c7 c11 ln len nx pl so va 0 (-1) lf lp 0 ks kv kp wf wt ot gn gf gt rsR rmR roR) := by
  have q0 := t_0
  have z0 : ¬ (1 : Int32) = 0 := by decide
  have hz : ¬ ¬ (0 : Int32) = 0 := by decide
  intro d
  induction d using Nat.strongRecOn with
  | _ d ih =>
    intro f f' v3 l og wtg opn ph hs nx ck cv pl Wa fr to ln wl gs rw c7 w7 k7 p7 c11 w11 k11 p11  st mi nm mt rs rl ro wN gN rN sN bN sf sto so va ks kv kp wf wt ot gn gf gt rsR rmR roR q e hv3 hd hf hf' hq htk hN hF
    obtain ⟨f, rfl⟩ : ∃ g, f = g + 2 := ⟨f - 2, by omega⟩
    obtain ⟨f', rfl⟩ : ∃ g, f' = g + 2 := ⟨f' - 2, by omega⟩
    have ht := htk.2.2.2.2.2
    by_cases hck : ck = 0
    · have hso : so = 4 := by
        rcases ht with ⟨h1, h2, h3⟩ | ⟨h1, h2, h3⟩ | ⟨h1, h2, h3⟩ | ⟨h1, h2, h3⟩ | ⟨h1, h2, h3⟩ | ⟨h1, h2⟩
        · exact h3
        · rw [h1] at hck; exact absurd hck (by decide)
        · rw [h1] at hck; exact absurd hck (by decide)
        · rw [h1] at hck; exact absurd hck (by decide)
        · rw [h1] at hck; exact absurd hck (by decide)
        · rw [h1] at hck; exact absurd hck (by decide)
      apply outT_of
      case hR =>
        rewrite [FX12_text_L, if_pos rfl, if_neg hz, if_pos hso]
        exact rfl
      case hC =>
        rewrite [FX11_text_L]
        have e1 : ¬ fX7_atEnd_r ck = 0 := by rw [hck]; decide
        by_cases c : v3 ≤ 0
        · rewrite [if_pos c, if_neg z0]
          exact rfl
        · rewrite [if_neg c, if_neg z0, if_pos e1]
          exact rfl
      case h => exact text_end hfu helm0 kn0 uw ug ur us ub usf ust lf lp ks0 kv0 wf0 wt0 ot0 gn0 gf0 gt0 rs0 rm0 ro0 l og wtg opn ph hs nx ck cv pl Wa fr to ln wl gs rw c7 w7 k7 p7 c11 w11 k11 p11 vals st mi nm mt rs rl ro wN gN rN sN bN sf sto so va ks kv kp wf wt ot gn gf gt rsR rmR roR hN hF (f' + 1) (by omega)
    · have hqe := htk.2.2.2.2.1 hck
      have hqe2 := htk.2.2.2.1
      have hso : ¬ so = 4 := by
        rcases ht with ⟨h1, h2, h3⟩ | ⟨h1, h2, h3⟩ | ⟨h1, h2, h3⟩ | ⟨h1, h2, h3⟩ | ⟨h1, h2, h3⟩ | ⟨h1, h2⟩
        · exact absurd h1 hck
        · rw [h2]; decide
        · rw [h2]; decide
        · rw [h2]; decide
        · rw [h2]; decide
        · rw [h2]; decide
      obtain ⟨d', rfl⟩ : ∃ g, d = g + 1 := ⟨d - 1, by omega⟩
      obtain ⟨v3', hv3', hv3''⟩ := dec_1 (x := v3) (k := d') (by omega) (by omega)
      have e1 : ¬ ¬ fX7_atEnd_r ck = 0 := by
        unfold fX7_atEnd_r
        rw [if_pos hck]
        exact hz
      obtain ⟨⟨r', l', og', wtg', opn', ph', hs', fa', fp', nx', ck', cv', pl', Wa', fr', to', ln', wl', gs', rw', c7', w7', k7', p7', c11', w11', k11', p11', st', mi', nm', mt', rs', rl', ro'⟩, ⟨wN', gN', rN', sN', bN', sf', sto', sc', bc', lnR', ax', plR', so', va', faR', fpR', opR', ks', kv', kp', wf', wt', ot', gn', gf', gt', rsR', rmR', roR'⟩, hC, hR, h⟩ := line_eq hfu hT hlen hL (l := 502) (og := og) (wtg := wtg) (opn := opn) (ph := ph) (Wa := Wa) (p7 := p7) (mt := mt) (ln := ln) htk hN
      rw [FX11_text_L, FX12_text_L, if_neg (show ¬ v3 ≤ 0 by rw [i_le]; omega), if_neg z0, if_neg e1, hC, Option.bind_some, if_pos rfl, if_neg hz, if_neg hso, hR, Option.bind_some, hv3']
      rcases h with h | h
      · obtain ⟨rfl, rfl, rfl, rfl, rfl, rfl, rfl, rfl, rfl, rfl, rfl, rfl, ⟨q', e', t1, t2⟩, hN', hF'⟩ := h
        exact ih d' (by omega) (f + 1) (f' + 1) v3' _ _ _ _ _ _ _ _ _ _ _ _ _ _ _ _ _ _ _ _ _ _ _ _ _ _ _ _ _ _ _ _ _ _ _ _ _ _ _ _ _ _ _ _ _ _ _ _ _ _ _ _ _ q' e' hv3'' (by omega) (by omega) (by omega) (by omega) t1 hN' (oldF_trans hF hF')
      · obtain ⟨rfl, h2, rfl, rfl, hF'⟩ := h
        obtain ⟨g, rfl⟩ : ∃ g, f' = g + 1 := ⟨f' - 1, by omega⟩
        exact text_stop h2 (oldF_trans hF hF')
end
