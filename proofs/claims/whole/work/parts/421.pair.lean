-- deps: 100 110 111 112 113 114 115 116 117 118 119 120 121 130 131 132 133 134 135 136 137 138 139 140 141 142 143 144 145 146 200 201 202 203 204 205 206 207 208 209 210 211 212 213 214 215 216 217 218 219 220
section
variable {fu : Nat} {wl wr : Int32} {pa sh K st mi ks kv wf wt ot : Nat → Int32} {W : Nat}
theorem pair_in (hfu : 10000 ≤ fu) (hs : setOk pa sh) (h : whAll wl wr K st mi ks kv wf wt ot W) (d off mk : Int32) (ho : isOffP off) {sm om : Nat → Int32} {M : Nat} (hM : markOk mk sm om M) (p q : Int32) (a b : Nat) (hp : p.toInt = a) (ha : a < 5) (hq : q.toInt = b) (hb : b < 5) (hab : ¬ a = b) (R : Nat) (v : Int32) (hv0 : (ro0 a).toInt ≤ v.toInt) (hv1 : v.toInt ≤ (ro1 a).toInt) : ∀ (n fc fr : Nat) (u sus c0 c1 c2 c3 c4 c5 c6 c7 : Int32) (J : Nat) (pt tt found : Nat → Int32) (vals : Nat → Int64) (wm : Int32) (partR now : Nat → Int32) (w : Nat → Int64) (op ov tp tv : Nat → Int32), u.toInt + n = (ro1 b).toInt + 1 → (ro0 b).toInt ≤ u.toInt → sus.toInt = J → J + (if v = pa a then 0 else restv (ro1 b).toInt (pa b).toInt u.toInt) + R ≤ 318 → foundRel J found op ov tp tv → (∀ i, ¬ i = a → ¬ i = b → partR i = pa i) →
    ∃ (J' : Nat) (sus' c0' c1' c2' c3' c4' c5' c6' c7' : Int32) (pt' tt' found' : Nat → Int32) (vals' : Nat → Int64) (wm' : Int32) (partR' now' : Nat → Int32) (w' : Nat → Int64) (op' ov' tp' tv' : Nat → Int32), sus'.toInt = J' ∧ J ≤ J' ∧ J' + R ≤ 318 ∧ foundRel J' found' op' ov' tp' tv' ∧ (∀ i, ¬ i = a → ¬ i = b → partR' i = pa i) ∧
      FX10_tryPair_L fu p q mk d off sm om wl wr K st mi pa sh (fc + n + 1) 1 v u sus c0 c1 c2 c3 c4 c5 c6 c7 pt tt found vals = FX10_tryPair_L fu p q mk d off sm om wl wr K st mi pa sh fc 0 (v + 1) 0 sus' c0' c1' c2' c3' c4' c5' c6' c7' pt' tt' found' vals' ∧
      FX12_pairs_L fu d off p q wl mk ks kv wf wt ot sh sm om (fr + n + 1) 1 (pa a) (pa b) v u wm sus partR now w op ov tp tv = FX12_pairs_L fu d off p q wl mk ks kv wf wt ot sh sm om fr 0 (pa a) (pa b) (v + 1) 0 wm' sus' partR' now' w' op' ov' tp' tv' := by
  have q1 := t_1
  obtain ⟨r1, r2, r3, r4, r5, r6, r7⟩ := rng_eq hp ha
  obtain ⟨s1, s2, s3, s4, s5, s6, s7⟩ := rng_eq hq hb
  obtain ⟨w3, w4⟩ := own_in hs hb
  intro n
  induction n with
  | zero =>
    intro fc fr u sus c0 c1 c2 c3 c4 c5 c6 c7 J pt tt found vals wm partR now w op ov tp tv hu hu0 hJ hcnt hf hR
    have gx : ro1 b < u := by rw [i_lt]; omega
    refine ⟨J, sus, c0, c1, c2, c3, c4, c5, c6, c7, pt, tt, found, vals, wm, partR, now, w, op, ov, tp, tv, hJ, Nat.le_refl _, by omega, hf, hR, ?_, ?_⟩
    · rw [FX10_tryPair_L, if_neg (show ¬ (1 : Nat) = 0 by omega), if_pos rfl, if_pos s4, s3, if_pos gx]
    · rw [FX12_pairs_L, if_neg (show ¬ (1 : Nat) = 0 by omega), if_pos rfl, s2, if_pos gx]
  | succ n ih =>
    intro fc fr u sus c0 c1 c2 c3 c4 c5 c6 c7 J pt tt found vals wm partR now w op ov tp tv hu hu0 hJ hcnt hf hR
    have gx : ¬ ro1 b < u := by rw [i_lt]; omega
    have hsu1 := i_add u 1 (by omega) (by omega)
    have hu1 : (u + 1).toInt = u.toInt + 1 := by omega
    have hup : ∀ i, ¬ i = a → ¬ i = b → upd (upd partR a v) b u i = pa i := by
      intro i h1 h2
      unfold upd
      rw [if_neg h2, if_neg h1]
      exact hR i h1 h2
    have hstep := restv_step (most := (ro1 b).toInt) (own := (pa b).toInt) (v := u.toInt) (by omega) w4
    by_cases g : v = pa a
    · rw [if_pos g] at hcnt
      obtain ⟨J', sus', c0', c1', c2', c3', c4', c5', c6', c7', pt', tt', found', vals', wm', partR', now', w', op', ov', tp', tv', b1, b2, b3, b4, b7, b5, b6⟩ := ih fc fr (u + 1) sus c0 c1 c2 c3 c4 c5 c6 c7 J pt tt found vals wm (upd (upd partR a v) b u) now w op ov tp tv (by rw [hu1]; omega) (by rw [hu1]; omega) hJ (by rw [if_pos g]; exact hcnt) hf hup
      refine ⟨J', sus', c0', c1', c2', c3', c4', c5', c6', c7', pt', tt', found', vals', wm', partR', now', w', op', ov', tp', tv', b1, b2, b3, b4, b7, ?_, ?_⟩
      · rw [show fc + (n + 1) + 1 = (fc + n + 1) + 1 by omega, FX10_tryPair_L, if_neg (show ¬ (1 : Nat) = 0 by omega), if_pos rfl, if_pos s4, s3, if_neg gx, if_pos r4, r3, if_pos g]
        exact b5
      · rw [show fr + (n + 1) + 1 = (fr + n + 1) + 1 by omega, FX12_pairs_L, if_neg (show ¬ (1 : Nat) = 0 by omega), if_pos rfl, s2, if_neg gx, if_pos r4, if_pos s4, r3, s3, if_pos g]
        exact b6
    · rw [if_neg g] at hcnt
      by_cases g2 : u = pa b
      · have gi : u.toInt = (pa b).toInt := by rw [g2]
        rw [if_pos gi] at hstep
        obtain ⟨J', sus', c0', c1', c2', c3', c4', c5', c6', c7', pt', tt', found', vals', wm', partR', now', w', op', ov', tp', tv', b1, b2, b3, b4, b7, b5, b6⟩ := ih fc fr (u + 1) sus c0 c1 c2 c3 c4 c5 c6 c7 J pt tt found vals wm (upd (upd partR a v) b u) now w op ov tp tv (by rw [hu1]; omega) (by rw [hu1]; omega) hJ (by rw [if_neg g, hu1]; omega) hf hup
        refine ⟨J', sus', c0', c1', c2', c3', c4', c5', c6', c7', pt', tt', found', vals', wm', partR', now', w', op', ov', tp', tv', b1, b2, b3, b4, b7, ?_, ?_⟩
        · rw [show fc + (n + 1) + 1 = (fc + n + 1) + 1 by omega, FX10_tryPair_L, if_neg (show ¬ (1 : Nat) = 0 by omega), if_pos rfl, if_pos s4, s3, if_neg gx, if_pos r4, r3, if_neg g, if_pos s4, if_pos g2]
          exact b5
        · rw [show fr + (n + 1) + 1 = (fr + n + 1) + 1 by omega, FX12_pairs_L, if_neg (show ¬ (1 : Nat) = 0 by omega), if_pos rfl, s2, if_neg gx, if_pos r4, if_pos s4, r3, s3, if_neg g, if_pos g2]
          exact b6
      · have gi : ¬ u.toInt = (pa b).toInt := fun z => g2 (i_eq.mpr z)
        rw [if_neg gi] at hstep
        have hsu := sus_two (p := p) (v := v) (q := q) (w := u) (by omega) (by omega) (by omega) (by omega) (by omega) (by omega) (by omega) (by omega)
        have hok : setOk (upd (upd partR a v) b u) sh := by
          have e : upd (upd partR a v) b u = upd (upd pa a v) b u := by
            funext i
            unfold upd
            by_cases e1 : i = b
            · rw [if_pos e1, if_pos e1]
            · rw [if_neg e1, if_neg e1]
              by_cases e2 : i = a
              · rw [if_pos e2, if_pos e2]
              · rw [if_neg e2, if_neg e2]; exact hR i e2 e1
          rw [e]
          exact setOk_part (setOk_part hs ha hv0 hv1) hb hu0 (by omega)
        have hrel : setRel (fX10_fail_a1 (((p ||| (v <<< (4 &&& 31))) ||| (q <<< (8 &&& 31))) ||| (u <<< (12 &&& 31))) (va_cpy pa pt 0 0 5)) (va_cpy sh tt 0 0 3) (upd (upd partR a v) b u) sh := by
          rw [fail_two hsu hp ha hv0 hv1 hq hb hu0 (by omega)]
          refine ⟨fun i hi => ?_, cpy3 sh tt⟩
          unfold upd
          by_cases e1 : i = b
          · rw [if_pos e1, if_pos e1]
          · rw [if_neg e1, if_neg e1]
            by_cases e2 : i = a
            · rw [if_pos e2, if_pos e2]
            · rw [if_neg e2, if_neg e2, cpy5 pa pt i hi, hR i e2 e1]
        obtain ⟨T, vals1, wm1, T1, w1', J1, sus1, found1, op1, ov1, tp1, tv1, d1, d2, d3, d4, d5, d6⟩ := try_both hfu hok h d off mk ho hM _ p v q u sus hsu J hJ (by omega) _ _ found hrel vals wm now w op ov tp tv hf
        obtain ⟨J', sus', c0', c1', c2', c3', c4', c5', c6', c7', pt', tt', found', vals', wm', partR', now', w', op', ov', tp', tv', b1, b2, b3, b4, b7, b5, b6⟩ := ih fc fr (u + 1) sus1 (T 0) (T 1) (T 2) (T 3) (T 4) (T 5) (T 6) (T 7) J1 (fX10_fail_a1 (((p ||| (v <<< (4 &&& 31))) ||| (q <<< (8 &&& 31))) ||| (u <<< (12 &&& 31))) (va_cpy pa pt 0 0 5)) (va_cpy sh tt 0 0 3) found1 vals1 wm1 (upd (upd partR a v) b u) T1 w1' op1 ov1 tp1 tv1 (by rw [hu1]; omega) (by rw [hu1]; omega) d1 (by rw [if_neg g, hu1]; omega) d4 hup
        refine ⟨J', sus', c0', c1', c2', c3', c4', c5', c6', c7', pt', tt', found', vals', wm', partR', now', w', op', ov', tp', tv', b1, by omega, b3, b4, b7, ?_, ?_⟩
        · rw [show fc + (n + 1) + 1 = (fc + n + 1) + 1 by omega, FX10_tryPair_L, if_neg (show ¬ (1 : Nat) = 0 by omega), if_pos rfl, if_pos s4, s3, if_neg gx, if_pos r4, r3, if_neg g, if_pos s4, if_neg g2, d5, Option.bind_some]
          exact b5
        · rw [show fr + (n + 1) + 1 = (fr + n + 1) + 1 by omega, FX12_pairs_L, if_neg (show ¬ (1 : Nat) = 0 by omega), if_pos rfl, s2, if_neg gx, if_pos r4, if_pos s4, r3, s3, if_neg g, if_neg g2]
          rcases d6 with ⟨-, e1, e2⟩ | ⟨e0, e1, e2, e3, e4, e5⟩
          · rw [e1, Option.bind_some, if_neg (show ¬ (1 : Int32) = 0 by decide), e2, Option.bind_some]
            exact b6
          · rw [e5, Option.bind_some, if_pos rfl]
            subst e0 e1 e2 e3 e4
            exact b6
theorem pair_L (hfu : 10000 ≤ fu) (hs : setOk pa sh) (h : whAll wl wr K st mi ks kv wf wt ot W) (d off mk : Int32) (ho : isOffP off) {sm om : Nat → Int32} {M : Nat} (hM : markOk mk sm om M) (p q : Int32) (a b : Nat) (hp : p.toInt = a) (ha : a < 5) (hq : q.toInt = b) (hb : b < 5) (hab : ¬ a = b) (R : Nat) : ∀ (n fc fr : Nat) (v sus c0 c1 c2 c3 c4 c5 c6 c7 x0 x1 : Int32) (J : Nat) (pt tt found : Nat → Int32) (vals : Nat → Int64) (wm : Int32) (partR now : Nat → Int32) (w : Nat → Int64) (op ov tp tv : Nat → Int32), v.toInt + n = (ro1 a).toInt + 1 → (ro0 a).toInt ≤ v.toInt → 20 * n + 1 ≤ fc → 20 * n + 1 ≤ fr → sus.toInt = J → J + restv (ro1 a).toInt (pa a).toInt v.toInt * restv (ro1 b).toInt (pa b).toInt (ro0 b).toInt + R ≤ 318 → foundRel J found op ov tp tv → (∀ i, ¬ i = a → ¬ i = b → partR i = pa i) →
    ∃ (J' : Nat) (sus' c0' c1' c2' c3' c4' c5' c6' c7' : Int32) (pt' tt' found' : Nat → Int32) (vals' : Nat → Int64) (wm' : Int32) (now' : Nat → Int32) (w' : Nat → Int64) (op' ov' tp' tv' : Nat → Int32), sus'.toInt = J' ∧ J ≤ J' ∧ J' + R ≤ 318 ∧ foundRel J' found' op' ov' tp' tv' ∧
      FX10_tryPair_L fu p q mk d off sm om wl wr K st mi pa sh fc 0 v x0 sus c0 c1 c2 c3 c4 c5 c6 c7 pt tt found vals = some (sus', c0', c1', c2', c3', c4', c5', c6', c7', pt', tt', found', vals') ∧
      FX12_pairs_L fu d off p q wl mk ks kv wf wt ot sh sm om fr 0 (pa a) (pa b) v x1 wm sus partR now w op ov tp tv = some (wm', sus', pa, now', w', op', ov', tp', tv') := by
  have q1 := t_1
  obtain ⟨r1, r2, r3, r4, r5, r6, r7⟩ := rng_eq hp ha
  obtain ⟨s1, s2, s3, s4, s5, s6, s7⟩ := rng_eq hq hb
  obtain ⟨w1, w2⟩ := own_in hs ha
  intro n
  induction n with
  | zero =>
    intro fc fr v sus c0 c1 c2 c3 c4 c5 c6 c7 x0 x1 J pt tt found vals wm partR now w op ov tp tv hv hv0 hfc hfr hJ hcnt hf hR
    obtain ⟨fc, rfl⟩ : ∃ g, fc = g + 1 := ⟨fc - 1, by omega⟩
    obtain ⟨fr, rfl⟩ : ∃ g, fr = g + 1 := ⟨fr - 1, by omega⟩
    have gx : ro1 a < v := by rw [i_lt]; omega
    have hpa : upd (upd partR a (pa a)) b (pa b) = pa := by
      funext i
      unfold upd
      by_cases e1 : i = b
      · rw [if_pos e1, e1]
      · rw [if_neg e1]
        by_cases e2 : i = a
        · rw [if_pos e2, e2]
        · rw [if_neg e2]; exact hR i e2 e1
    refine ⟨J, sus, c0, c1, c2, c3, c4, c5, c6, c7, pt, tt, found, vals, wm, now, w, op, ov, tp, tv, hJ, Nat.le_refl _, by omega, hf, ?_, ?_⟩
    · rw [FX10_tryPair_L, if_pos rfl, if_pos r4, r3, if_pos gx]
    · rw [FX12_pairs_L, if_pos rfl, r2, if_pos gx, if_pos r4, if_pos s4, r3, s3, hpa]
  | succ n ih =>
    intro fc fr v sus c0 c1 c2 c3 c4 c5 c6 c7 x0 x1 J pt tt found vals wm partR now w op ov tp tv hv hv0 hfc hfr hJ hcnt hf hR
    have gx : ¬ ro1 a < v := by rw [i_lt]; omega
    have hsv := i_add v 1 (by omega) (by omega)
    have hv1 : (v + 1).toInt = v.toInt + 1 := by omega
    have hstep := restv_step (most := (ro1 a).toInt) (own := (pa a).toInt) (v := v.toInt) (by omega) w2
    rw [hstep, Nat.add_mul] at hcnt
    generalize hnq : restv (ro1 b).toInt (pa b).toInt (ro0 b).toInt = nq at *
    generalize hrest : restv (ro1 a).toInt (pa a).toInt (v.toInt + 1) * nq = rest at *
    have hcnt2 : J + (if v = pa a then 0 else nq) + (rest + R) ≤ 318 := by
      by_cases g : v = pa a
      · rw [if_pos g]
        have gi : v.toInt = (pa a).toInt := by rw [g]
        rw [if_pos gi] at hcnt
        omega
      · rw [if_neg g]
        have gi : ¬ v.toInt = (pa a).toInt := fun z => g (i_eq.mpr z)
        rw [if_neg gi] at hcnt
        omega
    obtain ⟨gc, hgc⟩ : ∃ g, fc = (g + ((ro1 b).toInt + 1 - (ro0 b).toInt).toNat + 1) + 1 := ⟨fc - ((ro1 b).toInt + 1 - (ro0 b).toInt).toNat - 2, by omega⟩
    obtain ⟨gr, hgr⟩ : ∃ g, fr = (g + ((ro1 b).toInt + 1 - (ro0 b).toInt).toNat + 1) + 1 := ⟨fr - ((ro1 b).toInt + 1 - (ro0 b).toInt).toNat - 2, by omega⟩
    obtain ⟨J1, sus1, e0, e1, e2, e3, e4, e5, e6, e7, pt1, tt1, found1, vals1, wm1, partR1, now1, w1', op1, ov1, tp1, tv1, b1, b2, b3, b4, b7, b5, b6⟩ := pair_in hfu hs h d off mk ho hM p q a b hp ha hq hb hab (rest + R) v hv0 (by omega) ((ro1 b).toInt + 1 - (ro0 b).toInt).toNat gc gr (ro0 b) sus c0 c1 c2 c3 c4 c5 c6 c7 J pt tt found vals wm partR now w op ov tp tv (by omega) (Int.le_refl _) hJ (by rw [hnq]; exact hcnt2) hf hR
    obtain ⟨J', sus', c0', c1', c2', c3', c4', c5', c6', c7', pt', tt', found', vals', wm', now', w', op', ov', tp', tv', d1, d2, d3, d4, d5, d6⟩ := ih gc gr (v + 1) sus1 e0 e1 e2 e3 e4 e5 e6 e7 0 0 J1 pt1 tt1 found1 vals1 wm1 partR1 now1 w1' op1 ov1 tp1 tv1 (by rw [hv1]; omega) (by rw [hv1]; omega) (by omega) (by omega) b1 (by rw [hv1, hrest]; omega) b4 b7
    refine ⟨J', sus', c0', c1', c2', c3', c4', c5', c6', c7', pt', tt', found', vals', wm', now', w', op', ov', tp', tv', d1, by omega, d3, d4, ?_, ?_⟩
    · rw [hgc, FX10_tryPair_L, if_pos rfl, if_pos r4, r3, if_neg gx, if_pos s4, s3, b5]
      exact d5
    · rw [hgr, FX12_pairs_L, if_pos rfl, r2, if_neg gx, s1, b6]
      exact d6
end
