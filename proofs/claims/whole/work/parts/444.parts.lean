/-! ===== parts: class = reference ===== -/
section
variable {fu : Nat} {pa sh rs rl ro rs' rm' ro' : Nat → Int32} {rows : Int32} {R J N : Nat} {found op ov tp tv : Nat → Int32}
theorem parts_L (hfu : 10000000 ≤ fu) (hs : setOk pa sh) (hrow : rowRel rows rs rl ro rs' rm' ro' R) (hR : 0 < R) (p3 p4 : Int32) (h3 : p3.toInt = N) (hN : N ≤ 200) (sus : Int32) (hsus : sus.toInt = J) (hJ : J ≤ 318) (hf : foundRel J found op ov tp tv) (hok : ∀ k, k < J → susOk (op k) (ov k) (tp k) (tv k)) (fw inS inA kn dist start c0 c1 c2 c3 c4 c5 c6 c7 : Int32) (pt tt : Nat → Int32) (vals : Nat → Int64) (th wm fwR : Int32) (w : Nat → Int64) : ∀ (n q f f' : Nat) (b lc lr x mb e0 e1 e2 e3 e4 e5 e6 e7 : Int32) (pg tg : Nat → Int32) (states : Nat → Int64) (ld la sz now wakes grp : Nat → Int32), q + n = R → x.toInt = q → n < f → n < f' → ((b = -1 ∧ q = 0) ∨ (¬ b = -1 ∧ lc = lr)) →
    ∃ (v mb' e0' e1' e2' e3' e4' e5' e6' e7' : Int32) (pg' tg' : Nat → Int32) (states' : Nat → Int64) (ld' la' sz' now' wakes' grp' : Nat → Int32), FX11_parts_L fu p3 p4 pa sh rows rs rl ro f b lc x sus fw inS inA kn dist start c0 c1 c2 c3 c4 c5 c6 c7 pt tt found mb e0 e1 e2 e3 e4 e5 e6 e7 pg tg states ld la sz vals = some (v, sus, fw, inS, inA, kn, dist, start, c0, c1, c2, c3, c4, c5, c6, c7, pt, tt, found, mb', e0', e1', e2', e3', e4', e5', e6', e7', pg', tg', states', ld', la', sz', vals) ∧ FX12_parts_L fu p3 p4 rows rs' rm' ro' sh f' b lr x th wm sus fwR pa now w op ov tp tv wakes grp = some (v, th, wm, sus, fwR, pa, now', w, op, ov, tp, tv, wakes', grp') := by
  have q1 := t_1
  have qm := t_m1
  obtain ⟨hrows, hR6, -⟩ := id hrow
  intro n
  induction n with
  | zero =>
    intro q f f' b lc lr x mb e0 e1 e2 e3 e4 e5 e6 e7 pg tg states ld la sz now wakes grp hq hx hfl hfl' hb
    obtain ⟨f, rfl⟩ : ∃ g, f = g + 1 := ⟨f - 1, by omega⟩
    obtain ⟨f', rfl⟩ : ∃ g, f' = g + 1 := ⟨f' - 1, by omega⟩
    have hl : lc = lr := by
      rcases hb with ⟨-, z⟩ | ⟨-, z⟩
      · omega
      · exact z
    subst hl
    have hle : rows ≤ x := by rw [i_le]; omega
    rw [FX11_parts_L, FX12_parts_L, if_pos hle, if_pos hle]
    by_cases c : p4 = 0
    · rw [if_neg (show ¬ ¬ p4 = 0 from fun z => z c), if_neg (show ¬ ¬ p4 = 0 from fun z => z c)]
      exact ⟨_, _, _, _, _, _, _, _, _, _, _, _, _, _, _, _, _, _, _, rfl, rfl⟩
    · rw [if_pos c, if_pos c]
      exact ⟨_, _, _, _, _, _, _, _, _, _, _, _, _, _, _, _, _, _, _, rfl, rfl⟩
  | succ n ih =>
    intro q f f' b lc lr x mb e0 e1 e2 e3 e4 e5 e6 e7 pg tg states ld la sz now wakes grp hq hx hfl hfl' hb
    obtain ⟨f, rfl⟩ : ∃ g, f = g + 1 := ⟨f - 1, by omega⟩
    obtain ⟨f', rfl⟩ : ∃ g, f' = g + 1 := ⟨f' - 1, by omega⟩
    have hs1 := i_add x 1 (by omega) (by omega)
    have hle : ¬ rows ≤ x := by rw [i_le]; omega
    obtain ⟨lN, mb1, d0, d1, d2, d3, d4, d5, d6, d7, pg1, tg1, states1, ld1, la1, sz1, k1, k2⟩ := grt_eq (fu := fu) (by omega) hs hrow x p3 hx (by omega) N h3 hN sus hsus hJ hf hok pg tg states ld la sz
    obtain ⟨now1, wakes1, grp1, k3⟩ := ggrp_eq hfu hs hrow x p3 hx (show q < R by omega) h3 hN sus hsus hJ hok lN k1 now wakes grp
    rw [FX11_parts_L, FX12_parts_L, if_neg hle, if_neg hle, k2, k3, Option.bind_some, Option.bind_some]
    have hxn : ¬ x = -1 := by rw [i_eq]; omega
    have take := ih (q + 1) f f' x (szN lN J 0 (fun _ => 0) 0) (szN lN J 0 (fun _ => 0) 0) (x + 1) mb1 d0 d1 d2 d3 d4 d5 d6 d7 pg1 tg1 states1 ld1 la1 sz1 now1 wakes1 grp1 (by omega) (by omega) (by omega) (by omega) (Or.inr ⟨hxn, rfl⟩)
    by_cases c1 : b = -1
    · rw [if_pos c1, if_pos c1]
      exact take
    · rw [if_neg c1, if_neg c1]
      have hl : lc = lr := by
        rcases hb with ⟨z, -⟩ | ⟨-, z⟩
        · exact absurd z c1
        · exact z
      subst hl
      by_cases c2 : lc ≤ szN lN J 0 (fun _ => 0) 0
      · have c3 : ¬ szN lN J 0 (fun _ => 0) 0 < lc := by
          rw [i_le] at c2
          rw [i_lt]
          omega
        have keep := ih (q + 1) f f' b lc lc (x + 1) mb1 d0 d1 d2 d3 d4 d5 d6 d7 pg1 tg1 states1 ld1 la1 sz1 now1 wakes1 grp1 (by omega) (by omega) (by omega) (by omega) (Or.inr ⟨c1, rfl⟩)
        rw [if_pos c2, if_neg c3]
        exact keep
      · have c3 : szN lN J 0 (fun _ => 0) 0 < lc := by
          rw [i_le] at c2
          rw [i_lt]
          omega
        rw [if_neg c2, if_pos c3]
        exact take
end
section
variable {fu : Nat} {wl wr : Int32} {pa sh K st mi ks kv wf wt ot rs rl ro rs' rm' ro' : Nat → Int32} {W R : Nat} {rows : Int32}
theorem parts_eq (hfu : 10000000 ≤ fu) (hs : setOk pa sh) (h : whAll wl wr K st mi ks kv wf wt ot W) (hrow : rowRel rows rs rl ro rs' rm' ro' R) (p1 p2 p3 p4 mk : Int32) {sm om : Nat → Int32} {M : Nat} (hM : markOk mk sm om M) (sus fw inS inA kn dist start c0 c1 c2 c3 c4 c5 c6 c7 : Int32) (pt tt found : Nat → Int32) (vals : Nat → Int64) (hc : cacheInv fu wl mk ks kv wf wt ot pa sh sm om sus fw inS inA kn dist start found) (mb e0 e1 e2 e3 e4 e5 e6 e7 : Int32) (pg tg : Nat → Int32) (states : Nat → Int64) (ld la sz : Nat → Int32) (wm susR fwR : Int32) (now : Nat → Int32) (w : Nat → Int64) (op ov tp tv wakes grp : Nat → Int32) :
    ∃ (v sus' fw' inS' inA' kn' dist' start' c0' c1' c2' c3' c4' c5' c6' c7' : Int32) (pt' tt' found' : Nat → Int32) (mb' e0' e1' e2' e3' e4' e5' e6' e7' : Int32) (pg' tg' : Nat → Int32) (states' : Nat → Int64) (ld' la' sz' : Nat → Int32) (vals' : Nat → Int64) (wm' susR' fwR' : Int32) (now' : Nat → Int32) (w' : Nat → Int64) (op' ov' tp' tv' wakes' grp' : Nat → Int32), FX11_parts fu p1 p2 p3 p4 pa sh mk sus fw inS inA kn dist start c0 c1 c2 c3 c4 c5 c6 c7 pt tt sm om found mb e0 e1 e2 e3 e4 e5 e6 e7 pg tg states ld la sz wl rows wr K vals st mi rs rl ro = some (v, sus', fw', inS', inA', kn', dist', start', c0', c1', c2', c3', c4', c5', c6', c7', pt', tt', found', mb', e0', e1', e2', e3', e4', e5', e6', e7', pg', tg', states', ld', la', sz', vals') ∧ cacheInv fu wl mk ks kv wf wt ot pa sh sm om sus' fw' inS' inA' kn' dist' start' found' ∧ FX12_parts fu p1 p2 p3 p4 wl rows wm mk susR fwR ks kv wf wt ot rs' rm' ro' pa sh now w sm om op ov tp tv wakes grp = some (v, 0, wm', susR', fwR', pa, now', w', op', ov', tp', tv', wakes', grp') := by
  have q0 := t_0
  have q1 := t_1
  have t2 : (2 : Int32).toInt = 2 := rfl
  have t200 : (200 : Int32).toInt = 200 := rfl
  obtain ⟨hrows, hR6, -⟩ := id hrow
  unfold FX11_parts FX12_parts
  rw [doubt_eq]
  by_cases a1 : fX11_isDistance_r p1 = 0
  · rw [if_pos a1, if_pos a1]; exact ⟨_, _, _, _, _, _, _, _, _, _, _, _, _, _, _, _, _, _, _, _, _, _, _, _, _, _, _, _, _, _, _, _, _, _, _, _, _, _, _, _, _, _, _, _, _, _, rfl, hc, rfl⟩
  rw [if_neg a1, if_neg a1]
  by_cases a2 : isOffP p2
  case neg => rw [if_pos ((isOff_iff p2).1.mpr a2), if_pos ((isOff_iff p2).2.mpr a2)]; exact ⟨_, _, _, _, _, _, _, _, _, _, _, _, _, _, _, _, _, _, _, _, _, _, _, _, _, _, _, _, _, _, _, _, _, _, _, _, _, _, _, _, _, _, _, _, _, _, rfl, hc, rfl⟩
  rw [if_neg (fun z => (isOff_iff p2).1.mp z a2), if_neg (fun z => (isOff_iff p2).2.mp z a2)]
  by_cases a3 : p3 < 1
  · rw [if_pos a3, if_pos a3]; exact ⟨_, _, _, _, _, _, _, _, _, _, _, _, _, _, _, _, _, _, _, _, _, _, _, _, _, _, _, _, _, _, _, _, _, _, _, _, _, _, _, _, _, _, _, _, _, _, rfl, hc, rfl⟩
  rw [if_neg a3, if_neg a3]
  by_cases a4 : 200 < p3
  · rw [if_pos a4, if_pos a4]; exact ⟨_, _, _, _, _, _, _, _, _, _, _, _, _, _, _, _, _, _, _, _, _, _, _, _, _, _, _, _, _, _, _, _, _, _, _, _, _, _, _, _, _, _, _, _, _, _, rfl, hc, rfl⟩
  rw [if_neg a4, if_neg a4]
  by_cases a5 : p4 < 0
  · rw [if_pos a5, if_pos a5]; exact ⟨_, _, _, _, _, _, _, _, _, _, _, _, _, _, _, _, _, _, _, _, _, _, _, _, _, _, _, _, _, _, _, _, _, _, _, _, _, _, _, _, _, _, _, _, _, _, rfl, hc, rfl⟩
  rw [if_neg a5, if_neg a5]
  rw [i_lt] at a3 a4 a5
  by_cases a6 : p4 ≤ 1
  case neg =>
    have a6' : 1 < p4 := by
      rw [i_le] at a6
      rw [i_lt]
      omega
    rw [if_neg a6, if_pos a6']; exact ⟨_, _, _, _, _, _, _, _, _, _, _, _, _, _, _, _, _, _, _, _, _, _, _, _, _, _, _, _, _, _, _, _, _, _, _, _, _, _, _, _, _, _, _, _, _, _, rfl, hc, rfl⟩
  have a6' : ¬ 1 < p4 := by
    rw [i_le] at a6
    rw [i_lt]
    omega
  rw [if_pos a6, if_neg a6']
  obtain ⟨J, sus', fw', k0, k1, k2, k3, k4, k5, k6, k7, pt', tt', found', vals', b1, b2, b3, b4⟩ := find_eq (fu := fu) (by omega) hs h p1 p2 mk a2 hM sus fw inS inA kn dist start c0 c1 c2 c3 c4 c5 c6 c7 pt tt found vals hc
  obtain ⟨wm', now', w', op', ov', tp', tv', d1, d2⟩ := b4 wm now w op ov tp tv
  rw [b1] at d2
  rw [b3, Option.bind_some, d1, Option.bind_some]
  have hcn := cache_new (fu := fu) (wl := wl) (ks := ks) (kv := kv) (wf := wf) (wt := wt) (ot := ot) (pa := pa) (sh := sh) mk sm om p1 p2 sus' fw' a2 found' J b1 b2 b4
  have hrg := seeks_rng wm pa now w op ov tp tv _ d1
  have hok : ∀ k, k < J → susOk (op' k) (ov' k) (tp' k) (tv' k) := fun k hk => hrg.2.2 k (by show (k : Int) < sus'.toInt; omega)
  by_cases c0 : rows = 0
  · have z := i_eq.mp c0
    rw [if_neg (show ¬ ¬ rows = 0 from fun z => z c0)]
    by_cases c1 : (2 : Int32) ≤ sus'
    · refine ⟨-1, sus', fw', sumS found' J, sumA found' J, 1, p1, p2, k0, k1, k2, k3, k4, k5, k6, k7, pt', tt', found', mb, e0, e1, e2, e3, e4, e5, e6, e7, pg, tg, states, ld, la, sz, vals', wm, susR, fwR, now, w, op, ov, tp, tv, wakes, grp, ?_, hcn, rfl⟩
      show (if (2 : Int32) ≤ sus' then FX11_parts_L fu p3 p4 pa sh rows rs rl ro fu (-1) (-1) 0 sus' fw' (sumS found' J) (sumA found' J) 1 p1 p2 k0 k1 k2 k3 k4 k5 k6 k7 pt' tt' found' mb e0 e1 e2 e3 e4 e5 e6 e7 pg tg states ld la sz vals' else _) = _
      rw [if_pos c1]
      obtain ⟨f, hf⟩ : ∃ g, fu = g + 1 := ⟨fu - 1, by omega⟩
      have unf : ∀ f, FX11_parts_L fu p3 p4 pa sh rows rs rl ro (f + 1) (-1) (-1) 0 sus' fw' (sumS found' J) (sumA found' J) 1 p1 p2 k0 k1 k2 k3 k4 k5 k6 k7 pt' tt' found' mb e0 e1 e2 e3 e4 e5 e6 e7 pg tg states ld la sz vals' = some (-1, sus', fw', sumS found' J, sumA found' J, 1, p1, p2, k0, k1, k2, k3, k4, k5, k6, k7, pt', tt', found', mb, e0, e1, e2, e3, e4, e5, e6, e7, pg, tg, states, ld, la, sz, vals') := by
        intro f
        rw [FX11_parts_L, if_pos (show rows ≤ 0 by rw [i_le]; omega)]
        by_cases c2 : p4 = 0
        · rw [if_neg (show ¬ ¬ p4 = 0 from fun z => z c2)]
        · rw [if_pos c2]
      have := unf f
      rw [← hf] at this
      exact this
    · refine ⟨-1, sus', fw', sumS found' J, sumA found' J, 1, p1, p2, k0, k1, k2, k3, k4, k5, k6, k7, pt', tt', found', mb, e0, e1, e2, e3, e4, e5, e6, e7, pg, tg, states, ld, la, sz, vals', wm, susR, fwR, now, w, op, ov, tp, tv, wakes, grp, ?_, hcn, rfl⟩
      show (if (2 : Int32) ≤ sus' then _ else _) = _
      rw [if_neg c1]
  · have z : ¬ rows.toInt = 0 := fun z => c0 (i_eq.mpr z)
    rw [if_pos c0]
    by_cases c1 : (2 : Int32) ≤ sus'
    · have hn3 := i_nat (a := p3) (by omega)
      obtain ⟨v, mb', e0', e1', e2', e3', e4', e5', e6', e7', pg', tg', states', ld', la', sz', now2, wakes', grp', g1, g2⟩ := parts_L hfu hs hrow (show 0 < R by omega) p3 p4 (N := p3.toNatClampNeg) (by omega) (by omega) sus' b1 b2 d2 hok fw' (sumS found' J) (sumA found' J) 1 p1 p2 k0 k1 k2 k3 k4 k5 k6 k7 pt' tt' vals' 0 wm' fw' w' R 0 fu fu (-1) (-1) 0 0 mb e0 e1 e2 e3 e4 e5 e6 e7 pg tg states ld la sz now' wakes grp (by omega) rfl (by omega) (by omega) (Or.inl ⟨rfl, rfl⟩)
      refine ⟨v, sus', fw', sumS found' J, sumA found' J, 1, p1, p2, k0, k1, k2, k3, k4, k5, k6, k7, pt', tt', found', mb', e0', e1', e2', e3', e4', e5', e6', e7', pg', tg', states', ld', la', sz', vals', wm', sus', fw', now2, w', op', ov', tp', tv', wakes', grp', ?_, hcn, ?_⟩
      · show (if (2 : Int32) ≤ sus' then _ else _) = _
        rw [if_pos c1]
        exact g1
      · show (if (2 : Int32) ≤ sus' then _ else _) = _
        rw [if_pos c1]
        exact g2
    · refine ⟨-1, sus', fw', sumS found' J, sumA found' J, 1, p1, p2, k0, k1, k2, k3, k4, k5, k6, k7, pt', tt', found', mb, e0, e1, e2, e3, e4, e5, e6, e7, pg, tg, states, ld, la, sz, vals', wm', sus', fw', now', w', op', ov', tp', tv', wakes, grp, ?_, hcn, ?_⟩
      · show (if (2 : Int32) ≤ sus' then _ else _) = _
        rw [if_neg c1]
      · show (if (2 : Int32) ≤ sus' then _ else _) = _
        rw [if_neg c1]
end
