-- deps: 100 110 111 112 113 114 115 116 117 118 119 120 121 130 131 132 133 134 135 136 137 138 139 140 141 142 143 144 145 146 200 201 202 203 204 205 206 207 208 209 210 211 212 213 214 215 216 217 218 219 220 221 222 223
/-! ===== find = seeks ===== -/
def susBits (found : Nat → Int32) (k : Nat) : Int32 := (fX10_bitOf_r (fX10_look_r (found k) 0)) ||| (fX10_bitOf_r (fX10_look_r (found k) 2))
def orN (b : Nat → Int32) : Nat → Nat → Int32 → Int32
  | 0, _, s => s
  | n + 1, k, s => orN b n (k + 1) (s ||| b k)
def andN (b : Nat → Int32) : Nat → Nat → Int32 → Int32
  | 0, _, s => s
  | n + 1, k, s => andN b n (k + 1) (s &&& b k)
theorem sumUp_L (fu : Nat) (sus : Int32) (found : Nat → Int32) (J : Nat) (hJ : sus.toInt = J) (hJ' : J ≤ 318) : ∀ (n k f : Nat) (x s a : Int32), k + n = J → x.toInt = k → n < f → FX10_sumUp_L fu sus found f x s a = some (orN (susBits found) n k s, andN (susBits found) n k a) := by
  have q1 := t_1
  intro n
  induction n with
  | zero =>
    intro k f x s a hk hx hf
    obtain ⟨f, rfl⟩ : ∃ g, f = g + 1 := ⟨f - 1, by omega⟩
    rw [FX10_sumUp_L, if_pos (by rw [i_le]; omega)]
    rfl
  | succ n ih =>
    intro k f x s a hk hx hf
    obtain ⟨f, rfl⟩ : ∃ g, f = g + 1 := ⟨f - 1, by omega⟩
    have hi : pz_inb x 318 = true := i_inb.mpr (by omega)
    have hn : x.toNatClampNeg = k := by have := i_nat (a := x) (by omega); omega
    have hs := i_add x 1 (by omega) (by omega)
    rw [FX10_sumUp_L, if_neg (by rw [i_le]; omega), if_pos hi, if_pos hi, hn]
    exact ih (k + 1) f (x + 1) _ _ (by omega) (by omega) (by omega)
def sumS (found : Nat → Int32) (J : Nat) : Int32 := orN (susBits found) J 0 0
def sumA (found : Nat → Int32) (J : Nat) : Int32 := andN (susBits found) J 0 (if J = 0 then 0 else 31)
theorem sumUp_eq {fu : Nat} (hfu : 10000 ≤ fu) (sus : Int32) (found : Nat → Int32) (J : Nat) (hJ : sus.toInt = J) (hJ' : J ≤ 318) : FX10_sumUp fu sus found = some (sumS found J, sumA found J) := by
  have q0 := t_0
  unfold FX10_sumUp sumS sumA
  by_cases g : sus ≤ 0
  · rw [if_pos g]
    rw [i_le] at g
    rw [if_pos (show J = 0 by omega)]
    exact sumUp_L fu sus found J hJ hJ' J 0 fu 0 0 0 (by omega) rfl (by omega)
  · rw [if_neg g]
    rw [i_le] at g
    rw [if_neg (show ¬ J = 0 by omega)]
    exact sumUp_L fu sus found J hJ hJ' J 0 fu 0 0 31 (by omega) rfl (by omega)
section
variable {fu : Nat} {wl wr : Int32} {pa sh K st mi ks kv wf wt ot : Nat → Int32} {W : Nat}
/-- the class's search, when it is not known -/
def freshC (fu : Nat) (p1z p2z marks0 inSome0 inAll0 : Int32) (parts2 ship2 steps0 offs0 found0 : Nat → Int32) (wheelLines8 written9 : Int32) (knots9 : Nat → Int32) (values9 : Nat → Int64) (starts8 middles8 parts24 ship24 : Nat → Int32) := (FX10_addIfFits fu (65535 : Int32) marks0 (0 : Int32) p1z p2z (va_cpy parts24 parts2 0 0 5) (va_cpy ship24 ship2 0 0 3) steps0 offs0 found0 wheelLines8 written9 knots9 values9 starts8 middles8).bind (fun y2z => if ¬ y2z.1 = 0 then ((FX10_sumUp fu y2z.1 y2z.2.2.2.2.2.2.2.2.2.2.1).bind (fun y6z => some (y2z.1, (0 : Int32), y6z.1, y6z.2, (1 : Int32), p1z, p2z, y2z.2.1, y2z.2.2.1, y2z.2.2.2.1, y2z.2.2.2.2.1, y2z.2.2.2.2.2.1, y2z.2.2.2.2.2.2.1, y2z.2.2.2.2.2.2.2.1, y2z.2.2.2.2.2.2.2.2.1, y2z.2.2.2.2.2.2.2.2.2.1, va_cpy ship24 ship2 0 0 3, y2z.2.2.2.2.2.2.2.2.2.2.1, y2z.2.2.2.2.2.2.2.2.2.2.2))) else (FX10_find_L fu p1z p2z marks0 steps0 offs0 wheelLines8 written9 knots9 starts8 middles8 parts24 ship24 fu 0 (0 : Int32) y2z.1 (1 : Int32) inSome0 inAll0 (1 : Int32) p1z p2z y2z.2.1 y2z.2.2.1 y2z.2.2.2.1 y2z.2.2.2.2.1 y2z.2.2.2.2.2.1 y2z.2.2.2.2.2.2.1 y2z.2.2.2.2.2.2.2.1 y2z.2.2.2.2.2.2.2.2.1 y2z.2.2.2.2.2.2.2.2.2.1 (va_cpy ship24 ship2 0 0 3) y2z.2.2.2.2.2.2.2.2.2.2.1 y2z.2.2.2.2.2.2.2.2.2.2.2))
theorem find_cases (p1 p2 mk sus fw inS inA kn dist start c0 c1 c2 c3 c4 c5 c6 c7 : Int32) (pt tt sm om found : Nat → Int32) (vals : Nat → Int64) : (¬ (¬ kn = 0 ∧ dist = p1 ∧ start = p2) → FX10_find fu p1 p2 mk sus fw inS inA kn dist start c0 c1 c2 c3 c4 c5 c6 c7 pt tt sm om found wl wr K vals st mi pa sh = freshC fu p1 p2 mk inS inA pt tt sm om found wl wr K vals st mi pa sh) ∧ ((¬ kn = 0 ∧ dist = p1 ∧ start = p2) → FX10_find fu p1 p2 mk sus fw inS inA kn dist start c0 c1 c2 c3 c4 c5 c6 c7 pt tt sm om found wl wr K vals st mi pa sh = some (sus, fw, inS, inA, kn, dist, start, c0, c1, c2, c3, c4, c5, c6, c7, pt, tt, found, vals)) := by
  unfold FX10_find
  constructor
  · intro hn
    by_cases g1 : kn = 0
    · rw [if_pos g1]; rfl
    · rw [if_neg g1]
      by_cases g2 : dist = p1
      · rw [if_neg (show ¬ ¬ dist = p1 from fun z => z g2)]
        by_cases g3 : start = p2
        · exact absurd ⟨g1, g2, g3⟩ hn
        · rw [if_pos g3]; rfl
      · rw [if_pos g2]; rfl
  · rintro ⟨g1, g2, g3⟩
    rw [if_neg g1, if_neg (show ¬ ¬ dist = p1 from fun z => z g2), if_neg (show ¬ ¬ start = p2 from fun z => z g3)]
theorem find_0e {d off mk : Int32} {sm om : Nat → Int32} (f : Nat) (dd oo sus fw inS inA kn c0 c1 c2 c3 c4 c5 c6 c7 : Int32) (pt tt found : Nat → Int32) (vals : Nat → Int64) : (¬ sus = 0 → FX10_find_L fu d off mk sm om wl wr K st mi pa sh (f + 1) 0 5 sus fw inS inA kn dd oo c0 c1 c2 c3 c4 c5 c6 c7 pt tt found vals = (FX10_sumUp fu sus found).bind (fun y22z => some (sus, fw, y22z.1, y22z.2, kn, dd, oo, c0, c1, c2, c3, c4, c5, c6, c7, pt, tt, found, vals))) ∧ (sus = 0 → FX10_find_L fu d off mk sm om wl wr K st mi pa sh (f + 1) 0 5 sus fw inS inA kn dd oo c0 c1 c2 c3 c4 c5 c6 c7 pt tt found vals = FX10_find_L fu d off mk sm om wl wr K st mi pa sh f 1 0 sus 2 inS inA kn dd oo c0 c1 c2 c3 c4 c5 c6 c7 pt tt found vals) := by
  constructor
  · intro g
    rw [FX10_find_L, if_pos rfl, if_pos (by decide), if_pos g]
  · intro g
    rw [FX10_find_L, if_pos rfl, if_pos (by decide), if_neg (show ¬ ¬ sus = 0 from fun z => z g)]
theorem find_1e {d off mk : Int32} {sm om : Nat → Int32} (f : Nat) (dd oo sus fw inS inA kn c0 c1 c2 c3 c4 c5 c6 c7 : Int32) (pt tt found : Nat → Int32) (vals : Nat → Int64) : FX10_find_L fu d off mk sm om wl wr K st mi pa sh (f + 1) 1 25 sus fw inS inA kn dd oo c0 c1 c2 c3 c4 c5 c6 c7 pt tt found vals = (FX10_sumUp fu sus found).bind (fun y22z => some (sus, (if sus = 0 then -2 else fw), y22z.1, y22z.2, kn, dd, oo, c0, c1, c2, c3, c4, c5, c6, c7, pt, tt, found, vals)) := by
  rw [FX10_find_L, if_neg (show ¬ (1 : Nat) = 0 by omega), if_pos rfl, if_pos (by decide)]
  by_cases g : sus = 0
  · rw [if_neg (show ¬ ¬ sus = 0 from fun z => z g)]
    simp only [if_pos g]
  · rw [if_pos g]
    simp only [if_neg g]
theorem seeks_0e {d off mk : Int32} {sm om : Nat → Int32} (f : Nat) (y z wm sus : Int32) (part now op ov tp tv : Nat → Int32) (w : Nat → Int64) : FX12_seeks_L fu d off wl mk ks kv wf wt ot sh sm om (f + 1) 0 5 y z wm sus (-2) part now w op ov tp tv = FX12_seeks_L fu d off wl mk ks kv wf wt ot sh sm om f 2 0 0 0 wm sus (if sus ≤ 0 then -2 else 1) part now w op ov tp tv := by
  rw [FX12_seeks_L, if_pos rfl, if_pos (by decide)]
  by_cases g : sus ≤ 0
  · rw [if_pos g, if_pos g]
  · rw [if_neg g, if_neg g]
theorem seeks_2f {d off mk : Int32} {sm om : Nat → Int32} (f : Nat) (p y z wm sus : Int32) (part now op ov tp tv : Nat → Int32) (w : Nat → Int64) : FX12_seeks_L fu d off wl mk ks kv wf wt ot sh sm om (f + 1) 2 p y z wm sus 1 part now w op ov tp tv = some (wm, sus, 1, part, now, w, op, ov, tp, tv) := by
  rw [FX12_seeks_L, if_neg (show ¬ (2 : Nat) = 0 by omega), if_neg (show ¬ (2 : Nat) = 1 by omega), if_pos rfl]
  by_cases g : 5 ≤ p
  · rw [if_pos g, if_pos rfl]
  · rw [if_neg g, if_pos rfl]
theorem seeks_2e {d off mk : Int32} {sm om : Nat → Int32} (f : Nat) (y z wm sus : Int32) (part now op ov tp tv : Nat → Int32) (w : Nat → Int64) : FX12_seeks_L fu d off wl mk ks kv wf wt ot sh sm om (f + 1) 2 5 y z wm sus (-2) part now w op ov tp tv = some (wm, sus, (if sus ≤ 0 then -2 else 2), part, now, w, op, ov, tp, tv) := by
  rw [FX12_seeks_L, if_neg (show ¬ (2 : Nat) = 0 by omega), if_neg (show ¬ (2 : Nat) = 1 by omega), if_pos rfl, if_pos (by decide), if_neg (by decide)]
  by_cases g : sus ≤ 0
  · rw [if_pos g, if_pos g]
  · rw [if_neg g, if_neg g]
theorem find_one (hfu : 10000 ≤ fu) (hs : setOk pa sh) (h : whAll wl wr K st mi ks kv wf wt ot W) (d off mk : Int32) (ho : isOffP off) {sm om : Nat → Int32} {M : Nat} (hM : markOk mk sm om M) (inS inA : Int32) (pt tt found : Nat → Int32) (vals : Nat → Int64) (wm : Int32) (now : Nat → Int32) (w : Nat → Int64) (op ov tp tv : Nat → Int32) :
    ∃ (J : Nat) (sus fw c0 c1 c2 c3 c4 c5 c6 c7 : Int32) (pt' tt' found' : Nat → Int32) (vals' : Nat → Int64) (wm' : Int32) (now' : Nat → Int32) (w' : Nat → Int64) (op' ov' tp' tv' : Nat → Int32), sus.toInt = J ∧ J ≤ 318 ∧ foundRel J found' op' ov' tp' tv' ∧ freshC fu d off mk inS inA pt tt sm om found wl wr K vals st mi pa sh = some (sus, fw, sumS found' J, sumA found' J, 1, d, off, c0, c1, c2, c3, c4, c5, c6, c7, pt', tt', found', vals') ∧ FX12_seeks fu d off wl wm mk ks kv wf wt ot pa sh now w sm om op ov tp tv = some (wm', sus, fw, pa, now', w', op', ov', tp', tv') := by
  have q0 := t_0
  have hrel : setRel (fX10_fail_a1 65535 (va_cpy pa pt 0 0 5)) (va_cpy sh tt 0 0 3) pa sh := by
    rw [fail_none sus_none]
    exact ⟨cpy5 pa pt, cpy3 sh tt⟩
  obtain ⟨T, vals1, wm1, T1, w1, J1, sus1, found1, op1, ov1, tp1, tv1, d1, d2, d3, d4, d5, d6⟩ := try_both hfu hs h d off mk ho hM 65535 (-1) (-1) (-1) (-1) 0 sus_none 0 rfl (by omega) _ _ found hrel vals wm now w op ov tp tv (fun k hk => absurd hk (by omega))
  unfold freshC FX12_seeks
  rw [d5, Option.bind_some]
  rcases d6 with ⟨e0, e1, e2⟩ | ⟨e0, e1, e2, e3, e4, e5⟩
  · have hne : ¬ sus1 = 0 := by rw [i_eq]; omega
    rw [e1, Option.bind_some, if_neg (show ¬ (1 : Int32) = 0 by decide), e2, Option.bind_some]
    refine ⟨J1, sus1, 0, T 0, T 1, T 2, T 3, T 4, T 5, T 6, T 7, fX10_fail_a1 65535 (va_cpy pa pt 0 0 5), va_cpy sh tt 0 0 3, found1, vals1, wm1, T1, w1, op1, ov1, tp1, tv1, d1, by omega, d4, ?_, rfl⟩
    show (if ¬ sus1 = 0 then _ else _) = _
    rw [if_pos hne]
    show (FX10_sumUp fu sus1 found1).bind _ = _
    rw [sumUp_eq hfu sus1 found1 J1 d1 (by omega)]
    rfl
  · subst e0 e1 e2 e3 e4
    rw [e5, Option.bind_some, if_pos rfl]
    have hJ10 : J1 = 0 := by omega
    subst hJ10
    show ∃ (J : Nat) (sus fw c0 c1 c2 c3 c4 c5 c6 c7 : Int32) (pt' tt' found' : Nat → Int32) (vals' : Nat → Int64) (wm' : Int32) (now' : Nat → Int32) (w' : Nat → Int64) (op' ov' tp' tv' : Nat → Int32), sus.toInt = J ∧ J ≤ 318 ∧ foundRel J found' op' ov' tp' tv' ∧ (if ¬ (0 : Int32) = 0 then _ else FX10_find_L fu d off mk sm om wl wr K st mi pa sh fu 0 0 0 1 inS inA 1 d off (T 0) (T 1) (T 2) (T 3) (T 4) (T 5) (T 6) (T 7) (fX10_fail_a1 65535 (va_cpy pa pt 0 0 5)) (va_cpy sh tt 0 0 3) found1 vals1) = _ ∧ FX12_seeks_L fu d off wl mk ks kv wf wt ot sh sm om fu 0 0 0 0 wm1 0 (-2) pa T1 w1 op1 ov1 tp1 tv1 = _
    rw [if_neg (show ¬ ¬ (0 : Int32) = 0 from fun z => z rfl)]
    obtain ⟨gc, hgc⟩ : ∃ g, fu = (g + 24 + 1 + 1 + 1) + 5 := ⟨fu - 32, by omega⟩
    obtain ⟨gr, hgr⟩ : ∃ g, fu = (g + 30) + 20 * 5 := ⟨fu - 130, by omega⟩
    obtain ⟨gr2, J2, y2, z2, sus2, k0, k1, k2, k3, k4, k5, k6, k7, pt2, tt2, found2, vals2, wm2, now2, w2, op2, ov2, tp2, tv2, f0, f1, f2, f3, f4, f5⟩ := singles hfu hs h d off mk ho hM inS inA 5 0 (gc + 24 + 1 + 1 + 1) (gr + 30) 0 0 0 0 (T 0) (T 1) (T 2) (T 3) (T 4) (T 5) (T 6) (T 7) 0 (fX10_fail_a1 65535 (va_cpy pa pt 0 0 5)) (va_cpy sh tt 0 0 3) found1 vals1 wm1 T1 w1 op1 ov1 tp1 tv1 (by omega) rfl rfl (by omega) d4
    have fc : FX10_find_L fu d off mk sm om wl wr K st mi pa sh fu 0 0 0 1 inS inA 1 d off (T 0) (T 1) (T 2) (T 3) (T 4) (T 5) (T 6) (T 7) (fX10_fail_a1 65535 (va_cpy pa pt 0 0 5)) (va_cpy sh tt 0 0 3) found1 vals1 = FX10_find_L fu d off mk sm om wl wr K st mi pa sh (gc + 24 + 1 + 1 + 1) 0 5 sus2 1 inS inA 1 d off k0 k1 k2 k3 k4 k5 k6 k7 pt2 tt2 found2 vals2 := by
      rw [← f4, ← hgc]
    have fr : FX12_seeks_L fu d off wl mk ks kv wf wt ot sh sm om fu 0 0 0 0 wm1 0 (-2) pa T1 w1 op1 ov1 tp1 tv1 = FX12_seeks_L fu d off wl mk ks kv wf wt ot sh sm om gr2 0 5 y2 z2 wm2 sus2 (-2) pa now2 w2 op2 ov2 tp2 tv2 := by
      rw [← f5, ← hgr]
    rw [fc, fr]
    by_cases g : sus2 = 0
    · have gi : sus2 ≤ 0 := by rw [i_le, g]; exact Int.le_refl _
      obtain ⟨gr3, hgr3⟩ : ∃ g, gr2 = ((g + 1) + 19 + 1) + 1 := ⟨gr2 - 22, by omega⟩
      have hJ2 : J2 = 0 := by rw [g] at f1; omega
      subst hJ2
      obtain ⟨J3, sus3, m0, m1, m2, m3, m4, m5, m6, m7, pt3, tt3, found3, vals3, wm3, now3, w3, op3, ov3, tp3, tv3, a1, a2, a3, a4, a5⟩ := pos_01 hfu hs h d off mk ho hM inS inA (gc + 1) (gr3 + 1) sus2 k0 k1 k2 k3 k4 k5 k6 k7 0 pt2 tt2 found2 vals2 wm2 now2 w2 op2 ov2 tp2 tv2 f1 (by omega) f3
      refine ⟨J3, sus3, (if sus3 = 0 then -2 else 2), m0, m1, m2, m3, m4, m5, m6, m7, pt3, tt3, found3, vals3, wm3, now3, w3, op3, ov3, tp3, tv3, a1, a2, a3, ?_, ?_⟩
      · rw [show gc + 24 + 1 + 1 + 1 = ((gc + 1 + 24) + 1) + 1 by omega, (find_0e _ _ _ _ _ _ _ _ _ _ _ _ _ _ _ _ _ _ _ _).2 g]
        refine (find_step (gc + 1 + 24) 0 1 0 0 _ _ _ _ _ _ _ _ _ _ _ _ _ _ _ _ _ _ _ _ _ _ _ _ _ _ _ _ _ _ _ _ (by decide) rfl rfl rfl (pair_skip _ _ _ _ _ _ _ _ _ _ _ _ _ _ _ _ _ _ _ _ (by decide))).trans ?_
        refine a4.trans ?_
        rw [find_1e, sumUp_eq hfu sus3 found3 J3 a1 a2]
        rfl
      · rw [hgr3, seeks_0e, if_pos gi]
        refine (seeks_2 _ 0 1 _ _ _ _ _ _ _ _ _ _ _ _ (by decide) (by decide) rfl).trans ?_
        refine a5.trans ?_
        rw [seeks_2e]
        have : (if sus3 ≤ 0 then (-2 : Int32) else 2) = (if sus3 = 0 then -2 else 2) := by
          by_cases q : sus3 = 0
          · rw [if_pos q, if_pos (by rw [q]; decide)]
          · have : ¬ sus3.toInt = 0 := fun z => q (i_eq.mpr (by omega))
            rw [if_neg q, if_neg (by rw [i_le]; omega)]
        rw [this]
    · have gi : ¬ sus2 ≤ 0 := by
        have : ¬ sus2.toInt = 0 := fun z => g (i_eq.mpr (by omega))
        rw [i_le]; omega
      obtain ⟨gr3, hgr3⟩ : ∃ g, gr2 = (g + 1) + 1 := ⟨gr2 - 2, by omega⟩
      refine ⟨J2, sus2, 1, k0, k1, k2, k3, k4, k5, k6, k7, pt2, tt2, found2, vals2, wm2, now2, w2, op2, ov2, tp2, tv2, f1, by omega, f3, ?_, ?_⟩
      · rw [(find_0e _ _ _ _ _ _ _ _ _ _ _ _ _ _ _ _ _ _ _ _).1 g, sumUp_eq hfu sus2 found2 J2 f1 (by omega)]
        rfl
      · rw [hgr3, seeks_0e, if_neg gi, seeks_2f]
end
