-- deps: 100 110 111 112 113 114 115 116 117 118 119 120 121 130 131 132 133 134 135 136 137 138 139 140 141 142 143 144 145 146 200 201 202 203 204 205 206 207 208 209 210 211 212 213 214 215 216 217 218 219 220 221 222 223 224
/-! ===== fits and suspect ===== -/
/-- what the reference finds is this, whatever lay about -/
def seekRel (fu : Nat) (wl mk : Int32) (ks kv wf wt ot pa sh sm om : Nat → Int32) (d off sus fw : Int32) (found : Nat → Int32) : Prop := ∀ (wm : Int32) (now : Nat → Int32) (w : Nat → Int64) (op ov tp tv : Nat → Int32), ∃ (wm' : Int32) (now' : Nat → Int32) (w' : Nat → Int64) (op' ov' tp' tv' : Nat → Int32), FX12_seeks fu d off wl wm mk ks kv wf wt ot pa sh now w sm om op ov tp tv = some (wm', sus, fw, pa, now', w', op', ov', tp', tv') ∧ foundRel sus.toInt found op' ov' tp' tv'
/-- what the class has found is still so -/
def cacheInv (fu : Nat) (wl mk : Int32) (ks kv wf wt ot pa sh sm om : Nat → Int32) (sus fw inS inA kn dist start : Int32) (found : Nat → Int32) : Prop := (kn = 0 ∨ kn = 1) ∧ (kn = 1 → isOffP start ∧ ∃ J : Nat, sus.toInt = J ∧ J ≤ 318 ∧ inS = sumS found J ∧ inA = sumA found J ∧ seekRel fu wl mk ks kv wf wt ot pa sh sm om dist start sus fw found)
section
variable {fu : Nat} {wl wr : Int32} {pa sh K st mi ks kv wf wt ot : Nat → Int32} {W : Nat}
theorem find_eq (hfu : 10000 ≤ fu) (hs : setOk pa sh) (h : whAll wl wr K st mi ks kv wf wt ot W) (d off mk : Int32) (ho : isOffP off) {sm om : Nat → Int32} {M : Nat} (hM : markOk mk sm om M) (sus fw inS inA kn dist start c0 c1 c2 c3 c4 c5 c6 c7 : Int32) (pt tt found : Nat → Int32) (vals : Nat → Int64) (hc : cacheInv fu wl mk ks kv wf wt ot pa sh sm om sus fw inS inA kn dist start found) :
    ∃ (J : Nat) (sus' fw' c0' c1' c2' c3' c4' c5' c6' c7' : Int32) (pt' tt' found' : Nat → Int32) (vals' : Nat → Int64), sus'.toInt = J ∧ J ≤ 318 ∧ FX10_find fu d off mk sus fw inS inA kn dist start c0 c1 c2 c3 c4 c5 c6 c7 pt tt sm om found wl wr K vals st mi pa sh = some (sus', fw', sumS found' J, sumA found' J, 1, d, off, c0', c1', c2', c3', c4', c5', c6', c7', pt', tt', found', vals') ∧ seekRel fu wl mk ks kv wf wt ot pa sh sm om d off sus' fw' found' := by
  obtain ⟨f1, f2⟩ := find_cases (fu := fu) (wl := wl) (wr := wr) (pa := pa) (sh := sh) (K := K) (st := st) (mi := mi) d off mk sus fw inS inA kn dist start c0 c1 c2 c3 c4 c5 c6 c7 pt tt sm om found vals
  by_cases g : ¬ kn = 0 ∧ dist = d ∧ start = off
  · rw [f2 g]
    obtain ⟨g1, g2, g3⟩ := g
    have hk : kn = 1 := by
      rcases hc.1 with z | z
      · exact absurd z g1
      · exact z
    obtain ⟨_, J, a1, a2, a3, a4, a5⟩ := hc.2 hk
    subst g2 g3 hk a3 a4
    exact ⟨J, sus, fw, c0, c1, c2, c3, c4, c5, c6, c7, pt, tt, found, vals, a1, a2, rfl, a5⟩
  · rw [f1 g]
    obtain ⟨J, sus', fw', e0, e1, e2, e3, e4, e5, e6, e7, pt', tt', found', vals', wm', now', w', op', ov', tp', tv', b1, b2, b3, b4, b5⟩ := find_one hfu hs h d off mk ho hM inS inA pt tt found vals 0 (fun _ => 0) (fun _ => 0) (fun _ => 0) (fun _ => 0) (fun _ => 0) (fun _ => 0)
    refine ⟨J, sus', fw', e0, e1, e2, e3, e4, e5, e6, e7, pt', tt', found', vals', b1, b2, b4, ?_⟩
    intro wm now w op ov tp tv
    obtain ⟨J2, sus2, fw2, k0, k1, k2, k3, k4, k5, k6, k7, pt2, tt2, found2, vals2, wm2, now2, w2, op2, ov2, tp2, tv2, d1, d2, d3, d4, d5⟩ := find_one hfu hs h d off mk ho hM inS inA pt tt found vals wm now w op ov tp tv
    have e := b4.symm.trans d4
    simp only [Option.some.injEq, Prod.mk.injEq] at e
    obtain ⟨z1, z2, -, -, -, -, -, -, -, -, -, -, -, -, -, -, -, z3, -⟩ := e
    subst z1 z2 z3
    exact ⟨wm2, now2, w2, op2, ov2, tp2, tv2, d5, by rw [d1]; exact d3⟩
theorem fits_bits {found op ov tp tv : Nat → Int32} {J : Int} (h : foundRel J found op ov tp tv) {k : Nat} (hk : (k : Int) < J) : susBits found k = fX10_bitOf_r (op k) ||| fX10_bitOf_r (tp k) := by
  obtain ⟨h0, -, h2, -⟩ := h k hk
  unfold susBits
  rw [h0, h2]
theorem fits_L (fu : Nat) (p3 th wm sus fw : Int32) (part now : Nat → Int32) (w : Nat → Int64) {found op ov tp tv : Nat → Int32} (J : Nat) (hJ : sus.toInt = J) (hJ' : J ≤ 318) (h : foundRel J found op ov tp tv) : ∀ (n k f : Nat) (s a x : Int32), k + n = J → x.toInt = k → n < f → FX12_fits_L fu p3 f s a x th wm sus fw part now w op ov tp tv = some (if p3 = 2 then orN (susBits found) n k s else andN (susBits found) n k a, th, wm, sus, fw, part, now, w, op, ov, tp, tv) := by
  have q1 := t_1
  intro n
  induction n with
  | zero =>
    intro k f s a x hk hx hf
    obtain ⟨f, rfl⟩ : ∃ g, f = g + 1 := ⟨f - 1, by omega⟩
    rw [FX12_fits_L, if_pos (by rw [i_le]; omega)]
    by_cases g : p3 = 2
    · rw [if_neg (show ¬ ¬ p3 = 2 from fun z => z g), if_pos g]; rfl
    · rw [if_pos g, if_neg g]; rfl
  | succ n ih =>
    intro k f s a x hk hx hf
    obtain ⟨f, rfl⟩ : ∃ g, f = g + 1 := ⟨f - 1, by omega⟩
    have hi : pz_inb x 400 = true := i_inb.mpr (by omega)
    have hn : x.toNatClampNeg = k := by have := i_nat (a := x) (by omega); omega
    have hs := i_add x 1 (by omega) (by omega)
    have hb := fits_bits h (k := k) (by omega)
    rw [FX12_fits_L, if_neg (by rw [i_le]; omega), if_pos hi, hn]
    rw [orN, andN]
    have ih' := fun s a => ih (k + 1) f s a (x + 1) (by omega) (by omega) (by omega)
    unfold fX10_bitOf_r at hb
    by_cases g1 : op k = -1
    · rw [if_neg (show ¬ ¬ op k = -1 from fun z => z g1)] at hb ⊢
      by_cases g2 : tp k = -1
      · rw [if_neg (show ¬ ¬ tp k = -1 from fun z => z g2)] at hb ⊢
        rw [if_pos hi, hb]
        exact ih' _ _
      · rw [if_pos g2] at hb ⊢
        rw [if_pos hi, if_pos hi, hb]
        exact ih' _ _
    · rw [if_pos g1] at hb ⊢
      by_cases g2 : tp k = -1
      · rw [if_neg (show ¬ ¬ tp k = -1 from fun z => z g2)] at hb ⊢
        rw [if_pos hi, if_pos hi, hb]
        exact ih' _ _
      · rw [if_pos g2] at hb ⊢
        rw [if_pos hi, if_pos hi, if_pos hi, hb]
        exact ih' _ _
theorem doubt_eq (x : Int32) : fX12_isDoubt_r x = fX11_isDistance_r x := rfl
theorem cache_new (mk : Int32) (sm om : Nat → Int32) (d off sus fw : Int32) (ho : isOffP off) (found : Nat → Int32) (J : Nat) (h1 : sus.toInt = J) (h2 : J ≤ 318) (h : seekRel fu wl mk ks kv wf wt ot pa sh sm om d off sus fw found) : cacheInv fu wl mk ks kv wf wt ot pa sh sm om sus fw (sumS found J) (sumA found J) 1 d off found := ⟨Or.inr rfl, fun _ => ⟨ho, J, h1, h2, rfl, rfl, h⟩⟩
theorem fits_eq (hfu : 10000000 ≤ fu) (hs : setOk pa sh) (h : whAll wl wr K st mi ks kv wf wt ot W) (p1 p2 p3 mk : Int32) {sm om : Nat → Int32} {M : Nat} (hM : markOk mk sm om M) (sus fw inS inA kn dist start c0 c1 c2 c3 c4 c5 c6 c7 : Int32) (pt tt found : Nat → Int32) (vals : Nat → Int64) (hc : cacheInv fu wl mk ks kv wf wt ot pa sh sm om sus fw inS inA kn dist start found) (wm susR fwR : Int32) (now : Nat → Int32) (w : Nat → Int64) (op ov tp tv : Nat → Int32) :
    ∃ (v sus' fw' inS' inA' kn' dist' start' c0' c1' c2' c3' c4' c5' c6' c7' : Int32) (pt' tt' found' : Nat → Int32) (vals' : Nat → Int64) (wm' susR' fwR' : Int32) (now' : Nat → Int32) (w' : Nat → Int64) (op' ov' tp' tv' : Nat → Int32), FX11_fits fu p1 p2 p3 pa sh mk sus fw inS inA kn dist start c0 c1 c2 c3 c4 c5 c6 c7 pt tt sm om found wl wr K vals st mi = some (v, sus', fw', inS', inA', kn', dist', start', c0', c1', c2', c3', c4', c5', c6', c7', pt', tt', found', vals') ∧ cacheInv fu wl mk ks kv wf wt ot pa sh sm om sus' fw' inS' inA' kn' dist' start' found' ∧ FX12_fits fu p1 p2 p3 wl wm mk susR fwR ks kv wf wt ot pa sh now w sm om op ov tp tv = some (v, 0, wm', susR', fwR', pa, now', w', op', ov', tp', tv') := by
  have q0 := t_0
  have t2 : (2 : Int32).toInt = 2 := rfl
  have t3 : (3 : Int32).toInt = 3 := rfl
  unfold FX11_fits FX12_fits
  rw [doubt_eq]
  by_cases a1 : fX11_isDistance_r p1 = 0
  · rw [if_pos a1, if_pos a1]; exact ⟨_, _, _, _, _, _, _, _, _, _, _, _, _, _, _, _, _, _, _, _, _, _, _, _, _, _, _, _, _, rfl, hc, rfl⟩
  rw [if_neg a1, if_neg a1]
  by_cases a2 : isOffP p2
  case neg => rw [if_pos ((isOff_iff p2).1.mpr a2), if_pos ((isOff_iff p2).2.mpr a2)]; exact ⟨_, _, _, _, _, _, _, _, _, _, _, _, _, _, _, _, _, _, _, _, _, _, _, _, _, _, _, _, _, rfl, hc, rfl⟩
  rw [if_neg (fun z => (isOff_iff p2).1.mp z a2), if_neg (fun z => (isOff_iff p2).2.mp z a2)]
  by_cases a3 : p3 < 0
  · rw [if_pos a3, if_pos a3]; exact ⟨_, _, _, _, _, _, _, _, _, _, _, _, _, _, _, _, _, _, _, _, _, _, _, _, _, _, _, _, _, rfl, hc, rfl⟩
  rw [if_neg a3, if_neg a3]
  by_cases a4 : p3 ≤ 3
  case neg => rw [if_neg a4, if_neg a4]; exact ⟨_, _, _, _, _, _, _, _, _, _, _, _, _, _, _, _, _, _, _, _, _, _, _, _, _, _, _, _, _, rfl, hc, rfl⟩
  rw [if_pos a4, if_pos a4]
  obtain ⟨J, sus', fw', k0, k1, k2, k3, k4, k5, k6, k7, pt', tt', found', vals', b1, b2, b3, b4⟩ := find_eq (fu := fu) (by omega) hs h p1 p2 mk a2 hM sus fw inS inA kn dist start c0 c1 c2 c3 c4 c5 c6 c7 pt tt found vals hc
  obtain ⟨wm', now', w', op', ov', tp', tv', d1, d2⟩ := b4 wm now w op ov tp tv
  rw [b1] at d2
  rw [b3, Option.bind_some, d1, Option.bind_some]
  have hcn := cache_new (fu := fu) (wl := wl) (ks := ks) (kv := kv) (wf := wf) (wt := wt) (ot := ot) (pa := pa) (sh := sh) mk sm om p1 p2 sus' fw' a2 found' J b1 b2 b4
  rw [i_lt] at a3
  rw [i_le] at a4
  by_cases g0 : p3 = 0
  · subst g0
    rw [if_pos rfl, if_neg (show ¬ (2 : Int32) ≤ 0 by decide), if_neg (show ¬ ¬ (0 : Int32) = 0 from fun z => z rfl)]
    exact ⟨_, _, _, _, _, _, _, _, _, _, _, _, _, _, _, _, _, _, _, _, _, _, _, _, _, _, _, _, _, rfl, hcn, rfl⟩
  rw [if_neg g0]
  by_cases g1 : p3 = 1
  · subst g1
    rw [if_pos rfl, if_neg (show ¬ (2 : Int32) ≤ 1 by decide), if_pos (show ¬ (1 : Int32) = 0 by decide)]
    exact ⟨_, _, _, _, _, _, _, _, _, _, _, _, _, _, _, _, _, _, _, _, _, _, _, _, _, _, _, _, _, rfl, hcn, rfl⟩
  rw [if_neg g1]
  have t1 := t_1
  have g2' : 2 ≤ p3 := by
    rw [i_le]
    have : ¬ p3.toInt = 0 := fun z => g0 (i_eq.mpr (by omega))
    have : ¬ p3.toInt = 1 := fun z => g1 (i_eq.mpr (by omega))
    omega
  rw [if_pos g2']
  have hfin : ∀ a0, a0 = (if J = 0 then (0 : Int32) else 31) → FX12_fits_L fu p3 fu 0 a0 0 0 wm' sus' fw' pa now' w' op' ov' tp' tv' = some (if p3 = 2 then sumS found' J else sumA found' J, 0, wm', sus', fw', pa, now', w', op', ov', tp', tv') := by
    intro a0 ha0
    rw [fits_L fu p3 0 wm' sus' fw' pa now' w' J b1 b2 d2 J 0 fu 0 a0 0 (by omega) rfl (by omega), ha0]
    rfl
  have hz : (¬ sus' = 0) ↔ ¬ J = 0 := by
    rw [i_eq]
    constructor
    · intro z z2; exact z (by omega)
    · intro z z2; exact z (by omega)
  by_cases gs : sus' = 0
  · have gj : J = 0 := Classical.byContradiction (fun z => hz.mpr z gs)
    have e := hfin 0 (by rw [if_pos gj])
    by_cases g2 : p3 = 2
    · rw [if_pos g2] at e ⊢
      refine ⟨_, _, _, _, _, _, _, _, _, _, _, _, _, _, _, _, _, _, _, _, wm', sus', fw', now', w', op', ov', tp', tv', rfl, hcn, ?_⟩
      show (if ¬ sus' = 0 then _ else _) = _
      rw [if_neg (show ¬ ¬ sus' = 0 from fun z => z gs)]
      exact e
    · rw [if_neg g2] at e ⊢
      refine ⟨_, _, _, _, _, _, _, _, _, _, _, _, _, _, _, _, _, _, _, _, wm', sus', fw', now', w', op', ov', tp', tv', rfl, hcn, ?_⟩
      show (if ¬ sus' = 0 then _ else _) = _
      rw [if_neg (show ¬ ¬ sus' = 0 from fun z => z gs)]
      exact e
  · have gj : ¬ J = 0 := hz.mp gs
    have e := hfin 31 (by rw [if_neg gj])
    by_cases g2 : p3 = 2
    · rw [if_pos g2] at e ⊢
      refine ⟨_, _, _, _, _, _, _, _, _, _, _, _, _, _, _, _, _, _, _, _, wm', sus', fw', now', w', op', ov', tp', tv', rfl, hcn, ?_⟩
      show (if ¬ sus' = 0 then _ else _) = _
      rw [if_pos gs]
      exact e
    · rw [if_neg g2] at e ⊢
      refine ⟨_, _, _, _, _, _, _, _, _, _, _, _, _, _, _, _, _, _, _, _, wm', sus', fw', now', w', op', ov', tp', tv', rfl, hcn, ?_⟩
      show (if ¬ sus' = 0 then _ else _) = _
      rw [if_pos gs]
      exact e
end
