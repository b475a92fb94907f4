-- deps: 100 110 111 112 113 114 115 116 117 118 119 120 121 130 131 132 133 134 135 136 137 138 139 140 141 142 143 144 145 146 200 201 202 203 204 205 206 207 208 209 210 211 212 213 214 215 216 217 218 219 220 221 222 223 224 225
section
variable {fu : Nat} {wl wr : Int32} {pa sh K st mi ks kv wf wt ot : Nat → Int32} {W : Nat}
theorem suspect_eq (hfu : 10000000 ≤ fu) (hs : setOk pa sh) (h : whAll wl wr K st mi ks kv wf wt ot W) (p1 p2 p3 p4 mk : Int32) {sm om : Nat → Int32} {M : Nat} (hM : markOk mk sm om M) (sus fw inS inA kn dist start c0 c1 c2 c3 c4 c5 c6 c7 : Int32) (pt tt found : Nat → Int32) (vals : Nat → Int64) (hc : cacheInv fu wl mk ks kv wf wt ot pa sh sm om sus fw inS inA kn dist start found) (wm susR fwR : Int32) (now : Nat → Int32) (w : Nat → Int64) (op ov tp tv : Nat → Int32) :
    ∃ (v sus' fw' inS' inA' kn' dist' start' c0' c1' c2' c3' c4' c5' c6' c7' : Int32) (pt' tt' found' : Nat → Int32) (vals' : Nat → Int64) (wm' susR' fwR' : Int32) (now' : Nat → Int32) (w' : Nat → Int64) (op' ov' tp' tv' : Nat → Int32), FX11_suspect fu p1 p2 p3 p4 pa sh mk sus fw inS inA kn dist start c0 c1 c2 c3 c4 c5 c6 c7 pt tt sm om found wl wr K vals st mi = some (v, sus', fw', inS', inA', kn', dist', start', c0', c1', c2', c3', c4', c5', c6', c7', pt', tt', found', vals') ∧ cacheInv fu wl mk ks kv wf wt ot pa sh sm om sus' fw' inS' inA' kn' dist' start' found' ∧ FX12_suspect fu p1 p2 p3 p4 wl wm mk susR fwR ks kv wf wt ot pa sh now w sm om op ov tp tv = some (v, 0, wm', susR', fwR', pa, now', w', op', ov', tp', tv') := by
  have q0 := t_0
  have t3 : (3 : Int32).toInt = 3 := rfl
  unfold FX11_suspect FX12_suspect
  rw [doubt_eq]
  by_cases a1 : fX11_isDistance_r p1 = 0
  · rw [if_pos a1, if_pos a1]; exact ⟨_, _, _, _, _, _, _, _, _, _, _, _, _, _, _, _, _, _, _, _, _, _, _, _, _, _, _, _, _, rfl, hc, rfl⟩
  rw [if_neg a1, if_neg a1]
  by_cases a2 : isOffP p2
  case neg => rw [if_pos ((isOff_iff p2).1.mpr a2), if_pos ((isOff_iff p2).2.mpr a2)]; exact ⟨_, _, _, _, _, _, _, _, _, _, _, _, _, _, _, _, _, _, _, _, _, _, _, _, _, _, _, _, _, rfl, hc, rfl⟩
  rw [if_neg (fun z => (isOff_iff p2).1.mp z a2), if_neg (fun z => (isOff_iff p2).2.mp z a2)]
  by_cases a3 : p3 < 0
  · rw [if_pos a3, if_pos a3]; exact ⟨_, _, _, _, _, _, _, _, _, _, _, _, _, _, _, _, _, _, _, _, _, _, _, _, _, _, _, _, _, rfl, hc, rfl⟩
  rw [if_neg a3, if_neg a3]
  by_cases a4 : p4 < 0
  · rw [if_pos a4, if_pos a4]; exact ⟨_, _, _, _, _, _, _, _, _, _, _, _, _, _, _, _, _, _, _, _, _, _, _, _, _, _, _, _, _, rfl, hc, rfl⟩
  rw [if_neg a4, if_neg a4]
  by_cases a5 : p4 ≤ 3
  case neg => rw [if_neg a5, if_neg a5]; exact ⟨_, _, _, _, _, _, _, _, _, _, _, _, _, _, _, _, _, _, _, _, _, _, _, _, _, _, _, _, _, rfl, hc, rfl⟩
  rw [if_pos a5, if_pos a5]
  obtain ⟨J, sus', fw', k0, k1, k2, k3, k4, k5, k6, k7, pt', tt', found', vals', b1, b2, b3, b4⟩ := find_eq (fu := fu) (by omega) hs h p1 p2 mk a2 hM sus fw inS inA kn dist start c0 c1 c2 c3 c4 c5 c6 c7 pt tt found vals hc
  obtain ⟨wm', now', w', op', ov', tp', tv', d1, d2⟩ := b4 wm now w op ov tp tv
  rw [b1] at d2
  rw [b3, Option.bind_some, d1, Option.bind_some]
  have hcn := cache_new (fu := fu) (wl := wl) (ks := ks) (kv := kv) (wf := wf) (wt := wt) (ot := ot) (pa := pa) (sh := sh) mk sm om p1 p2 sus' fw' a2 found' J b1 b2 b4
  rw [i_lt] at a3 a4
  rw [i_le] at a5
  by_cases g : sus' ≤ p3
  · have g' := g
    rw [i_le] at g'
    refine ⟨-1, sus', fw', _, _, _, _, _, k0, k1, k2, k3, k4, k5, k6, k7, pt', tt', found', vals', wm', sus', fw', now', w', op', ov', tp', tv', ?_, hcn, ?_⟩
    · show (if sus' ≤ p3 then _ else _) = _
      rw [if_pos g]
    · show (if p3 < sus' then _ else _) = _
      rw [if_neg (show ¬ p3 < sus' by rw [i_lt]; omega)]
  · have g' := g
    rw [i_le] at g'
    have hi : pz_inb p3 318 = true := i_inb.mpr (by omega)
    have hi4 : pz_inb p3 400 = true := i_inb.mpr (by omega)
    have hn := i_nat (a := p3) (by omega)
    obtain ⟨s0, s1, s2, s3⟩ := d2 p3.toNatClampNeg (by omega)
    have hat : FX10_suspectAt fu p3 sus' found' = some (found' p3.toNatClampNeg) := by
      unfold FX10_suspectAt
      rw [if_neg (show ¬ p3 < 0 by rw [i_lt]; omega), if_neg g, if_pos hi]
    refine ⟨fX10_look_r (found' p3.toNatClampNeg) p4, sus', fw', _, _, _, _, _, k0, k1, k2, k3, k4, k5, k6, k7, pt', tt', found', vals', wm', sus', fw', now', w', op', ov', tp', tv', ?_, hcn, ?_⟩
    · show (if sus' ≤ p3 then _ else (FX10_suspectAt fu p3 sus' found').bind _) = _
      rw [if_neg g, hat]
      rfl
    · show (if p3 < sus' then _ else _) = _
      rw [if_pos (show p3 < sus' by rw [i_lt]; omega)]
      have hc4 : p4.toInt = 0 ∨ p4.toInt = 1 ∨ p4.toInt = 2 ∨ p4.toInt = 3 := by omega
      rcases hc4 with z | z | z | z
      · have e := i_of (b := 0) _ z rfl
        subst e
        rw [if_neg (show ¬ ¬ (0 : Int32) = 0 from fun z => z rfl), if_pos hi4, s0]
      · have e := i_of (b := 1) _ z rfl
        subst e
        rw [if_pos (show ¬ (1 : Int32) = 0 by decide), if_neg (show ¬ ¬ (1 : Int32) = 1 from fun z => z rfl), if_pos hi4, s1]
      · have e := i_of (b := 2) _ z rfl
        subst e
        rw [if_pos (show ¬ (2 : Int32) = 0 by decide), if_pos (show ¬ (2 : Int32) = 1 by decide), if_neg (show ¬ ¬ (2 : Int32) = 2 from fun z => z rfl), if_pos hi4, s2]
      · have e := i_of (b := 3) _ z rfl
        subst e
        rw [if_pos (show ¬ (3 : Int32) = 0 by decide), if_pos (show ¬ (3 : Int32) = 1 by decide), if_pos (show ¬ (3 : Int32) = 2 by decide), if_pos hi4, s3]
end
