-- deps: 100 110 111 112 113 114 115 116 117 118 119 120 121 130 131 132 133 134 135 136 137 138 139 140 141 142 143 144 145 146 200 201 202 203 204 205 206 207 208 209 210 211 212 213 214 215 216 217 218 219 220 221
/-! ===== all suspects ===== -/
section
variable {fu : Nat} {wl wr : Int32} {pa sh K st mi ks kv wf wt ot : Nat → Int32} {W : Nat}
theorem restv_all {pa sh : Nat → Int32} (hs : setOk pa sh) {a : Nat} (ha : a < 5) : restv (ro1 a).toInt (pa a).toInt (ro0 a).toInt = ((ro1 a).toInt - (ro0 a).toInt).toNat := by
  obtain ⟨h1, h2⟩ := own_in hs ha
  unfold restv
  rw [if_pos h1]
  omega
theorem pair_skip (mk sus d off c0 c1 c2 c3 c4 c5 c6 c7 p q : Int32) (pt tt sm om found : Nat → Int32) (vals : Nat → Int64) (h : ¬ p < q) : FX10_tryPair fu p q mk sus d off c0 c1 c2 c3 c4 c5 c6 c7 pt tt sm om found wl wr K vals st mi pa sh = some (sus, c0, c1, c2, c3, c4, c5, c6, c7, pt, tt, found, vals) := by
  unfold FX10_tryPair
  rw [if_neg h]
theorem pair_do (hfu : 10000 ≤ fu) (hs : setOk pa sh) (h : whAll wl wr K st mi ks kv wf wt ot W) (d off mk : Int32) (ho : isOffP off) {sm om : Nat → Int32} {M : Nat} (hM : markOk mk sm om M) (p q : Int32) (a b : Nat) (hp : p.toInt = a) (hq : q.toInt = b) (hb : b < 5) (hab : a < b) (R N : Nat) (hN : ((ro1 a).toInt - (ro0 a).toInt).toNat * ((ro1 b).toInt - (ro0 b).toInt).toNat = N) (sus c0 c1 c2 c3 c4 c5 c6 c7 : Int32) (J : Nat) (pt tt found : Nat → Int32) (vals : Nat → Int64) (wm : Int32) (now : Nat → Int32) (w : Nat → Int64) (op ov tp tv : Nat → Int32) (hJ : sus.toInt = J) (hcnt : J + N + R ≤ 318) (hf : foundRel J found op ov tp tv) :
    ∃ (J' : Nat) (sus' c0' c1' c2' c3' c4' c5' c6' c7' : Int32) (pt' tt' found' : Nat → Int32) (vals' : Nat → Int64) (wm' : Int32) (now' : Nat → Int32) (w' : Nat → Int64) (op' ov' tp' tv' : Nat → Int32), sus'.toInt = J' ∧ J' + R ≤ 318 ∧ foundRel J' found' op' ov' tp' tv' ∧
      FX10_tryPair fu p q mk sus d off c0 c1 c2 c3 c4 c5 c6 c7 pt tt sm om found wl wr K vals st mi pa sh = some (sus', c0', c1', c2', c3', c4', c5', c6', c7', pt', tt', found', vals') ∧
      FX12_pairs fu d off p q wl wm mk sus ks kv wf wt ot pa sh now w sm om op ov tp tv = some (wm', sus', pa, now', w', op', ov', tp', tv') := by
  obtain ⟨r1, r2, r3, r4, r5, r6, r7⟩ := rng_eq hp (by omega)
  obtain ⟨s1, s2, s3, s4, s5, s6, s7⟩ := rng_eq hq hb
  have e1 := restv_all hs (a := a) (by omega)
  have e2 := restv_all hs (a := b) hb
  obtain ⟨J', sus', c0', c1', c2', c3', c4', c5', c6', c7', pt', tt', found', vals', wm', now', w', op', ov', tp', tv', d1, d2, d3, d4, d5, d6⟩ := pair_L hfu hs h d off mk ho hM p q a b hp (by omega) hq hb (by omega) R ((ro1 a).toInt + 1 - (ro0 a).toInt).toNat fu fu (ro0 a) sus c0 c1 c2 c3 c4 c5 c6 c7 0 0 J pt tt found vals wm pa now w op ov tp tv (by omega) (Int.le_refl _) (by omega) (by omega) hJ (by rw [e1, e2, hN]; exact hcnt) hf (fun _ _ _ => rfl)
  refine ⟨J', sus', c0', c1', c2', c3', c4', c5', c6', c7', pt', tt', found', vals', wm', now', w', op', ov', tp', tv', d1, d3, d4, ?_, ?_⟩
  · unfold FX10_tryPair
    rw [if_pos (by rw [i_lt]; omega), if_pos r4, r3]
    exact d5
  · unfold FX12_pairs
    rw [if_pos r4, if_pos s4, r3, s3, r1]
    exact d6
theorem find_step {d off mk : Int32} {sm om : Nat → Int32} (f : Nat) (x x' p q : Int32) (dd oo sus fw inS inA kn c0 c1 c2 c3 c4 c5 c6 c7 sus' c0' c1' c2' c3' c4' c5' c6' c7' : Int32) (pt tt found pt' tt' found' : Nat → Int32) (vals vals' : Nat → Int64) (hx : ¬ 25 ≤ x) (h1 : x / 5 = p) (h2 : x - p * 5 = q) (h3 : x + 1 = x') (h : FX10_tryPair fu p q mk sus dd oo c0 c1 c2 c3 c4 c5 c6 c7 pt tt sm om found wl wr K vals st mi pa sh = some (sus', c0', c1', c2', c3', c4', c5', c6', c7', pt', tt', found', vals')) : FX10_find_L fu d off mk sm om wl wr K st mi pa sh (f + 1) 1 x sus fw inS inA kn dd oo c0 c1 c2 c3 c4 c5 c6 c7 pt tt found vals = FX10_find_L fu d off mk sm om wl wr K st mi pa sh f 1 x' sus' fw inS inA kn dd oo c0' c1' c2' c3' c4' c5' c6' c7' pt' tt' found' vals' := by
  subst h1 h2 h3
  rw [FX10_find_L, if_neg (show ¬ (1 : Nat) = 0 by omega), if_pos rfl, if_neg hx, h]
  rfl
theorem seeks_3 {d off mk : Int32} {sm om : Nat → Int32} (f : Nat) (p q q' z wm sus fw wm' sus' : Int32) (part part' now now' op ov tp tv op' ov' tp' tv' : Nat → Int32) (w w' : Nat → Int64) (hq : ¬ 5 ≤ q) (h1 : q + 1 = q') (h : FX12_pairs fu d off p q wl wm mk sus ks kv wf wt ot part sh now w sm om op ov tp tv = some (wm', sus', part', now', w', op', ov', tp', tv')) : FX12_seeks_L fu d off wl mk ks kv wf wt ot sh sm om (f + 1) 3 p q z wm sus fw part now w op ov tp tv = FX12_seeks_L fu d off wl mk ks kv wf wt ot sh sm om f 3 p q' 0 wm' sus' fw part' now' w' op' ov' tp' tv' := by
  subst h1
  rw [FX12_seeks_L, if_neg (show ¬ (3 : Nat) = 0 by omega), if_neg (show ¬ (3 : Nat) = 1 by omega), if_neg (show ¬ (3 : Nat) = 2 by omega), if_pos rfl, if_neg hq, h]
  rfl
theorem seeks_3e {d off mk : Int32} {sm om : Nat → Int32} (f : Nat) (p p' q z wm sus fw : Int32) (part now op ov tp tv : Nat → Int32) (w : Nat → Int64) (hq : 5 ≤ q) (h1 : p + 1 = p') : FX12_seeks_L fu d off wl mk ks kv wf wt ot sh sm om (f + 1) 3 p q z wm sus fw part now w op ov tp tv = FX12_seeks_L fu d off wl mk ks kv wf wt ot sh sm om f 2 p' 0 0 wm sus fw part now w op ov tp tv := by
  subst h1
  rw [FX12_seeks_L, if_neg (show ¬ (3 : Nat) = 0 by omega), if_neg (show ¬ (3 : Nat) = 1 by omega), if_neg (show ¬ (3 : Nat) = 2 by omega), if_pos rfl, if_pos hq]
theorem seeks_2 {d off mk : Int32} {sm om : Nat → Int32} (f : Nat) (p p' y z wm sus fw : Int32) (part now op ov tp tv : Nat → Int32) (w : Nat → Int64) (hp : ¬ 5 ≤ p) (hf : ¬ fw = 1) (h1 : p + 1 = p') : FX12_seeks_L fu d off wl mk ks kv wf wt ot sh sm om (f + 1) 2 p y z wm sus fw part now w op ov tp tv = FX12_seeks_L fu d off wl mk ks kv wf wt ot sh sm om f 3 p p' 0 wm sus fw part now w op ov tp tv := by
  subst h1
  rw [FX12_seeks_L, if_neg (show ¬ (2 : Nat) = 0 by omega), if_neg (show ¬ (2 : Nat) = 1 by omega), if_pos rfl, if_neg hp, if_neg hf]
theorem pos_34 (hfu : 10000 ≤ fu) (hs : setOk pa sh) (h : whAll wl wr K st mi ks kv wf wt ot W) (d off mk : Int32) (ho : isOffP off) {sm om : Nat → Int32} {M : Nat} (hM : markOk mk sm om M) (inS inA : Int32) : ∀ (gc gr : Nat) (sus c0 c1 c2 c3 c4 c5 c6 c7 : Int32) (J : Nat) (pt tt found : Nat → Int32) (vals : Nat → Int64) (wm : Int32) (now : Nat → Int32) (w : Nat → Int64) (op ov tp tv : Nat → Int32), sus.toInt = J → J + 6 ≤ 318 → foundRel J found op ov tp tv →
    ∃ (J' : Nat) (sus' c0' c1' c2' c3' c4' c5' c6' c7' : Int32) (pt' tt' found' : Nat → Int32) (vals' : Nat → Int64) (wm' : Int32) (now' : Nat → Int32) (w' : Nat → Int64) (op' ov' tp' tv' : Nat → Int32), sus'.toInt = J' ∧ J' ≤ 318 ∧ foundRel J' found' op' ov' tp' tv' ∧
      FX10_find_L fu d off mk sm om wl wr K st mi pa sh (gc + 6) 1 19 sus 2 inS inA 1 d off c0 c1 c2 c3 c4 c5 c6 c7 pt tt found vals = FX10_find_L fu d off mk sm om wl wr K st mi pa sh gc 1 25 sus' 2 inS inA 1 d off c0' c1' c2' c3' c4' c5' c6' c7' pt' tt' found' vals' ∧
      FX12_seeks_L fu d off wl mk ks kv wf wt ot sh sm om (gr + 4) 3 3 4 0 wm sus (-2) pa now w op ov tp tv = FX12_seeks_L fu d off wl mk ks kv wf wt ot sh sm om gr 2 5 0 0 wm' sus' (-2) pa now' w' op' ov' tp' tv' := by
  intro gc gr sus c0 c1 c2 c3 c4 c5 c6 c7 J pt tt found vals wm now w op ov tp tv hJ hcnt hf
  obtain ⟨J1, sus1, e0, e1, e2, e3, e4, e5, e6, e7, pt1, tt1, found1, vals1, wm1, now1, w1, op1, ov1, tp1, tv1, b1, b2, b3, b4, b5⟩ := pair_do hfu hs h d off mk ho hM 3 4 3 4 rfl rfl (by omega) (by omega) 0 6 rfl sus c0 c1 c2 c3 c4 c5 c6 c7 J pt tt found vals wm now w op ov tp tv hJ (by omega) hf
  refine ⟨J1, sus1, e0, e1, e2, e3, e4, e5, e6, e7, pt1, tt1, found1, vals1, wm1, now1, w1, op1, ov1, tp1, tv1, b1, by omega, b3, ?_, ?_⟩
  · refine (find_step (gc + 5) 19 20 3 4 _ _ _ _ _ _ _ _ _ _ _ _ _ _ _ _ _ _ _ _ _ _ _ _ _ _ _ _ _ _ _ _ (by decide) rfl rfl rfl b4).trans ?_
    refine (find_step (gc + 4) 20 21 4 0 _ _ _ _ _ _ _ _ _ _ _ _ _ _ _ _ _ _ _ _ _ _ _ _ _ _ _ _ _ _ _ _ (by decide) rfl rfl rfl (pair_skip _ _ _ _ _ _ _ _ _ _ _ _ _ _ _ _ _ _ _ _ (by decide))).trans ?_
    refine (find_step (gc + 3) 21 22 4 1 _ _ _ _ _ _ _ _ _ _ _ _ _ _ _ _ _ _ _ _ _ _ _ _ _ _ _ _ _ _ _ _ (by decide) rfl rfl rfl (pair_skip _ _ _ _ _ _ _ _ _ _ _ _ _ _ _ _ _ _ _ _ (by decide))).trans ?_
    refine (find_step (gc + 2) 22 23 4 2 _ _ _ _ _ _ _ _ _ _ _ _ _ _ _ _ _ _ _ _ _ _ _ _ _ _ _ _ _ _ _ _ (by decide) rfl rfl rfl (pair_skip _ _ _ _ _ _ _ _ _ _ _ _ _ _ _ _ _ _ _ _ (by decide))).trans ?_
    refine (find_step (gc + 1) 23 24 4 3 _ _ _ _ _ _ _ _ _ _ _ _ _ _ _ _ _ _ _ _ _ _ _ _ _ _ _ _ _ _ _ _ (by decide) rfl rfl rfl (pair_skip _ _ _ _ _ _ _ _ _ _ _ _ _ _ _ _ _ _ _ _ (by decide))).trans ?_
    refine (find_step (gc + 0) 24 25 4 4 _ _ _ _ _ _ _ _ _ _ _ _ _ _ _ _ _ _ _ _ _ _ _ _ _ _ _ _ _ _ _ _ (by decide) rfl rfl rfl (pair_skip _ _ _ _ _ _ _ _ _ _ _ _ _ _ _ _ _ _ _ _ (by decide))).trans ?_
    rfl
  · refine (seeks_3 (gr + 3) 3 4 5 _ _ _ _ _ _ _ _ _ _ _ _ _ _ _ _ _ _ _ _ (by decide) rfl b5).trans ?_
    refine (seeks_3e (gr + 2) 3 4 5 _ _ _ _ _ _ _ _ _ _ _ (by decide) rfl).trans ?_
    refine (seeks_2 (gr + 1) 4 5 _ _ _ _ _ _ _ _ _ _ _ _ (by decide) (by decide) rfl).trans ?_
    refine (seeks_3e (gr + 0) 4 5 5 _ _ _ _ _ _ _ _ _ _ _ (by decide) rfl).trans ?_
    rfl
theorem pos_24 (hfu : 10000 ≤ fu) (hs : setOk pa sh) (h : whAll wl wr K st mi ks kv wf wt ot W) (d off mk : Int32) (ho : isOffP off) {sm om : Nat → Int32} {M : Nat} (hM : markOk mk sm om M) (inS inA : Int32) : ∀ (gc gr : Nat) (sus c0 c1 c2 c3 c4 c5 c6 c7 : Int32) (J : Nat) (pt tt found : Nat → Int32) (vals : Nat → Int64) (wm : Int32) (now : Nat → Int32) (w : Nat → Int64) (op ov tp tv : Nat → Int32), sus.toInt = J → J + 22 ≤ 318 → foundRel J found op ov tp tv →
    ∃ (J' : Nat) (sus' c0' c1' c2' c3' c4' c5' c6' c7' : Int32) (pt' tt' found' : Nat → Int32) (vals' : Nat → Int64) (wm' : Int32) (now' : Nat → Int32) (w' : Nat → Int64) (op' ov' tp' tv' : Nat → Int32), sus'.toInt = J' ∧ J' ≤ 318 ∧ foundRel J' found' op' ov' tp' tv' ∧
      FX10_find_L fu d off mk sm om wl wr K st mi pa sh (gc + 11) 1 14 sus 2 inS inA 1 d off c0 c1 c2 c3 c4 c5 c6 c7 pt tt found vals = FX10_find_L fu d off mk sm om wl wr K st mi pa sh gc 1 25 sus' 2 inS inA 1 d off c0' c1' c2' c3' c4' c5' c6' c7' pt' tt' found' vals' ∧
      FX12_seeks_L fu d off wl mk ks kv wf wt ot sh sm om (gr + 7) 3 2 4 0 wm sus (-2) pa now w op ov tp tv = FX12_seeks_L fu d off wl mk ks kv wf wt ot sh sm om gr 2 5 0 0 wm' sus' (-2) pa now' w' op' ov' tp' tv' := by
  intro gc gr sus c0 c1 c2 c3 c4 c5 c6 c7 J pt tt found vals wm now w op ov tp tv hJ hcnt hf
  obtain ⟨J1, sus1, e0, e1, e2, e3, e4, e5, e6, e7, pt1, tt1, found1, vals1, wm1, now1, w1, op1, ov1, tp1, tv1, b1, b2, b3, b4, b5⟩ := pair_do hfu hs h d off mk ho hM 2 4 2 4 rfl rfl (by omega) (by omega) 6 16 rfl sus c0 c1 c2 c3 c4 c5 c6 c7 J pt tt found vals wm now w op ov tp tv hJ (by omega) hf
  obtain ⟨J2, sus2, f0, f1, f2, f3, f4, f5, f6, f7, pt2, tt2, found2, vals2, wm2, now2, w2, op2, ov2, tp2, tv2, a1, a2, a3, a4, a5⟩ := pos_34 hfu hs h d off mk ho hM inS inA gc gr sus1 e0 e1 e2 e3 e4 e5 e6 e7 J1 pt1 tt1 found1 vals1 wm1 now1 w1 op1 ov1 tp1 tv1 b1 (by omega) b3
  refine ⟨J2, sus2, f0, f1, f2, f3, f4, f5, f6, f7, pt2, tt2, found2, vals2, wm2, now2, w2, op2, ov2, tp2, tv2, a1, a2, a3, ?_, ?_⟩
  · refine (find_step (gc + 10) 14 15 2 4 _ _ _ _ _ _ _ _ _ _ _ _ _ _ _ _ _ _ _ _ _ _ _ _ _ _ _ _ _ _ _ _ (by decide) rfl rfl rfl b4).trans ?_
    refine (find_step (gc + 9) 15 16 3 0 _ _ _ _ _ _ _ _ _ _ _ _ _ _ _ _ _ _ _ _ _ _ _ _ _ _ _ _ _ _ _ _ (by decide) rfl rfl rfl (pair_skip _ _ _ _ _ _ _ _ _ _ _ _ _ _ _ _ _ _ _ _ (by decide))).trans ?_
    refine (find_step (gc + 8) 16 17 3 1 _ _ _ _ _ _ _ _ _ _ _ _ _ _ _ _ _ _ _ _ _ _ _ _ _ _ _ _ _ _ _ _ (by decide) rfl rfl rfl (pair_skip _ _ _ _ _ _ _ _ _ _ _ _ _ _ _ _ _ _ _ _ (by decide))).trans ?_
    refine (find_step (gc + 7) 17 18 3 2 _ _ _ _ _ _ _ _ _ _ _ _ _ _ _ _ _ _ _ _ _ _ _ _ _ _ _ _ _ _ _ _ (by decide) rfl rfl rfl (pair_skip _ _ _ _ _ _ _ _ _ _ _ _ _ _ _ _ _ _ _ _ (by decide))).trans ?_
    refine (find_step (gc + 6) 18 19 3 3 _ _ _ _ _ _ _ _ _ _ _ _ _ _ _ _ _ _ _ _ _ _ _ _ _ _ _ _ _ _ _ _ (by decide) rfl rfl rfl (pair_skip _ _ _ _ _ _ _ _ _ _ _ _ _ _ _ _ _ _ _ _ (by decide))).trans ?_
    exact a4
  · refine (seeks_3 (gr + 6) 2 4 5 _ _ _ _ _ _ _ _ _ _ _ _ _ _ _ _ _ _ _ _ (by decide) rfl b5).trans ?_
    refine (seeks_3e (gr + 5) 2 3 5 _ _ _ _ _ _ _ _ _ _ _ (by decide) rfl).trans ?_
    refine (seeks_2 (gr + 4) 3 4 _ _ _ _ _ _ _ _ _ _ _ _ (by decide) (by decide) rfl).trans ?_
    exact a5
theorem pos_23 (hfu : 10000 ≤ fu) (hs : setOk pa sh) (h : whAll wl wr K st mi ks kv wf wt ot W) (d off mk : Int32) (ho : isOffP off) {sm om : Nat → Int32} {M : Nat} (hM : markOk mk sm om M) (inS inA : Int32) : ∀ (gc gr : Nat) (sus c0 c1 c2 c3 c4 c5 c6 c7 : Int32) (J : Nat) (pt tt found : Nat → Int32) (vals : Nat → Int64) (wm : Int32) (now : Nat → Int32) (w : Nat → Int64) (op ov tp tv : Nat → Int32), sus.toInt = J → J + 46 ≤ 318 → foundRel J found op ov tp tv →
    ∃ (J' : Nat) (sus' c0' c1' c2' c3' c4' c5' c6' c7' : Int32) (pt' tt' found' : Nat → Int32) (vals' : Nat → Int64) (wm' : Int32) (now' : Nat → Int32) (w' : Nat → Int64) (op' ov' tp' tv' : Nat → Int32), sus'.toInt = J' ∧ J' ≤ 318 ∧ foundRel J' found' op' ov' tp' tv' ∧
      FX10_find_L fu d off mk sm om wl wr K st mi pa sh (gc + 12) 1 13 sus 2 inS inA 1 d off c0 c1 c2 c3 c4 c5 c6 c7 pt tt found vals = FX10_find_L fu d off mk sm om wl wr K st mi pa sh gc 1 25 sus' 2 inS inA 1 d off c0' c1' c2' c3' c4' c5' c6' c7' pt' tt' found' vals' ∧
      FX12_seeks_L fu d off wl mk ks kv wf wt ot sh sm om (gr + 8) 3 2 3 0 wm sus (-2) pa now w op ov tp tv = FX12_seeks_L fu d off wl mk ks kv wf wt ot sh sm om gr 2 5 0 0 wm' sus' (-2) pa now' w' op' ov' tp' tv' := by
  intro gc gr sus c0 c1 c2 c3 c4 c5 c6 c7 J pt tt found vals wm now w op ov tp tv hJ hcnt hf
  obtain ⟨J1, sus1, e0, e1, e2, e3, e4, e5, e6, e7, pt1, tt1, found1, vals1, wm1, now1, w1, op1, ov1, tp1, tv1, b1, b2, b3, b4, b5⟩ := pair_do hfu hs h d off mk ho hM 2 3 2 3 rfl rfl (by omega) (by omega) 22 24 rfl sus c0 c1 c2 c3 c4 c5 c6 c7 J pt tt found vals wm now w op ov tp tv hJ (by omega) hf
  obtain ⟨J2, sus2, f0, f1, f2, f3, f4, f5, f6, f7, pt2, tt2, found2, vals2, wm2, now2, w2, op2, ov2, tp2, tv2, a1, a2, a3, a4, a5⟩ := pos_24 hfu hs h d off mk ho hM inS inA gc gr sus1 e0 e1 e2 e3 e4 e5 e6 e7 J1 pt1 tt1 found1 vals1 wm1 now1 w1 op1 ov1 tp1 tv1 b1 (by omega) b3
  refine ⟨J2, sus2, f0, f1, f2, f3, f4, f5, f6, f7, pt2, tt2, found2, vals2, wm2, now2, w2, op2, ov2, tp2, tv2, a1, a2, a3, ?_, ?_⟩
  · refine (find_step (gc + 11) 13 14 2 3 _ _ _ _ _ _ _ _ _ _ _ _ _ _ _ _ _ _ _ _ _ _ _ _ _ _ _ _ _ _ _ _ (by decide) rfl rfl rfl b4).trans ?_
    exact a4
  · refine (seeks_3 (gr + 7) 2 3 4 _ _ _ _ _ _ _ _ _ _ _ _ _ _ _ _ _ _ _ _ (by decide) rfl b5).trans ?_
    exact a5
theorem pos_14 (hfu : 10000 ≤ fu) (hs : setOk pa sh) (h : whAll wl wr K st mi ks kv wf wt ot W) (d off mk : Int32) (ho : isOffP off) {sm om : Nat → Int32} {M : Nat} (hM : markOk mk sm om M) (inS inA : Int32) : ∀ (gc gr : Nat) (sus c0 c1 c2 c3 c4 c5 c6 c7 : Int32) (J : Nat) (pt tt found : Nat → Int32) (vals : Nat → Int64) (wm : Int32) (now : Nat → Int32) (w : Nat → Int64) (op ov tp tv : Nat → Int32), sus.toInt = J → J + 62 ≤ 318 → foundRel J found op ov tp tv →
    ∃ (J' : Nat) (sus' c0' c1' c2' c3' c4' c5' c6' c7' : Int32) (pt' tt' found' : Nat → Int32) (vals' : Nat → Int64) (wm' : Int32) (now' : Nat → Int32) (w' : Nat → Int64) (op' ov' tp' tv' : Nat → Int32), sus'.toInt = J' ∧ J' ≤ 318 ∧ foundRel J' found' op' ov' tp' tv' ∧
      FX10_find_L fu d off mk sm om wl wr K st mi pa sh (gc + 16) 1 9 sus 2 inS inA 1 d off c0 c1 c2 c3 c4 c5 c6 c7 pt tt found vals = FX10_find_L fu d off mk sm om wl wr K st mi pa sh gc 1 25 sus' 2 inS inA 1 d off c0' c1' c2' c3' c4' c5' c6' c7' pt' tt' found' vals' ∧
      FX12_seeks_L fu d off wl mk ks kv wf wt ot sh sm om (gr + 11) 3 1 4 0 wm sus (-2) pa now w op ov tp tv = FX12_seeks_L fu d off wl mk ks kv wf wt ot sh sm om gr 2 5 0 0 wm' sus' (-2) pa now' w' op' ov' tp' tv' := by
  intro gc gr sus c0 c1 c2 c3 c4 c5 c6 c7 J pt tt found vals wm now w op ov tp tv hJ hcnt hf
  obtain ⟨J1, sus1, e0, e1, e2, e3, e4, e5, e6, e7, pt1, tt1, found1, vals1, wm1, now1, w1, op1, ov1, tp1, tv1, b1, b2, b3, b4, b5⟩ := pair_do hfu hs h d off mk ho hM 1 4 1 4 rfl rfl (by omega) (by omega) 46 16 rfl sus c0 c1 c2 c3 c4 c5 c6 c7 J pt tt found vals wm now w op ov tp tv hJ (by omega) hf
  obtain ⟨J2, sus2, f0, f1, f2, f3, f4, f5, f6, f7, pt2, tt2, found2, vals2, wm2, now2, w2, op2, ov2, tp2, tv2, a1, a2, a3, a4, a5⟩ := pos_23 hfu hs h d off mk ho hM inS inA gc gr sus1 e0 e1 e2 e3 e4 e5 e6 e7 J1 pt1 tt1 found1 vals1 wm1 now1 w1 op1 ov1 tp1 tv1 b1 (by omega) b3
  refine ⟨J2, sus2, f0, f1, f2, f3, f4, f5, f6, f7, pt2, tt2, found2, vals2, wm2, now2, w2, op2, ov2, tp2, tv2, a1, a2, a3, ?_, ?_⟩
  · refine (find_step (gc + 15) 9 10 1 4 _ _ _ _ _ _ _ _ _ _ _ _ _ _ _ _ _ _ _ _ _ _ _ _ _ _ _ _ _ _ _ _ (by decide) rfl rfl rfl b4).trans ?_
    refine (find_step (gc + 14) 10 11 2 0 _ _ _ _ _ _ _ _ _ _ _ _ _ _ _ _ _ _ _ _ _ _ _ _ _ _ _ _ _ _ _ _ (by decide) rfl rfl rfl (pair_skip _ _ _ _ _ _ _ _ _ _ _ _ _ _ _ _ _ _ _ _ (by decide))).trans ?_
    refine (find_step (gc + 13) 11 12 2 1 _ _ _ _ _ _ _ _ _ _ _ _ _ _ _ _ _ _ _ _ _ _ _ _ _ _ _ _ _ _ _ _ (by decide) rfl rfl rfl (pair_skip _ _ _ _ _ _ _ _ _ _ _ _ _ _ _ _ _ _ _ _ (by decide))).trans ?_
    refine (find_step (gc + 12) 12 13 2 2 _ _ _ _ _ _ _ _ _ _ _ _ _ _ _ _ _ _ _ _ _ _ _ _ _ _ _ _ _ _ _ _ (by decide) rfl rfl rfl (pair_skip _ _ _ _ _ _ _ _ _ _ _ _ _ _ _ _ _ _ _ _ (by decide))).trans ?_
    exact a4
  · refine (seeks_3 (gr + 10) 1 4 5 _ _ _ _ _ _ _ _ _ _ _ _ _ _ _ _ _ _ _ _ (by decide) rfl b5).trans ?_
    refine (seeks_3e (gr + 9) 1 2 5 _ _ _ _ _ _ _ _ _ _ _ (by decide) rfl).trans ?_
    refine (seeks_2 (gr + 8) 2 3 _ _ _ _ _ _ _ _ _ _ _ _ (by decide) (by decide) rfl).trans ?_
    exact a5
theorem pos_13 (hfu : 10000 ≤ fu) (hs : setOk pa sh) (h : whAll wl wr K st mi ks kv wf wt ot W) (d off mk : Int32) (ho : isOffP off) {sm om : Nat → Int32} {M : Nat} (hM : markOk mk sm om M) (inS inA : Int32) : ∀ (gc gr : Nat) (sus c0 c1 c2 c3 c4 c5 c6 c7 : Int32) (J : Nat) (pt tt found : Nat → Int32) (vals : Nat → Int64) (wm : Int32) (now : Nat → Int32) (w : Nat → Int64) (op ov tp tv : Nat → Int32), sus.toInt = J → J + 86 ≤ 318 → foundRel J found op ov tp tv →
    ∃ (J' : Nat) (sus' c0' c1' c2' c3' c4' c5' c6' c7' : Int32) (pt' tt' found' : Nat → Int32) (vals' : Nat → Int64) (wm' : Int32) (now' : Nat → Int32) (w' : Nat → Int64) (op' ov' tp' tv' : Nat → Int32), sus'.toInt = J' ∧ J' ≤ 318 ∧ foundRel J' found' op' ov' tp' tv' ∧
      FX10_find_L fu d off mk sm om wl wr K st mi pa sh (gc + 17) 1 8 sus 2 inS inA 1 d off c0 c1 c2 c3 c4 c5 c6 c7 pt tt found vals = FX10_find_L fu d off mk sm om wl wr K st mi pa sh gc 1 25 sus' 2 inS inA 1 d off c0' c1' c2' c3' c4' c5' c6' c7' pt' tt' found' vals' ∧
      FX12_seeks_L fu d off wl mk ks kv wf wt ot sh sm om (gr + 12) 3 1 3 0 wm sus (-2) pa now w op ov tp tv = FX12_seeks_L fu d off wl mk ks kv wf wt ot sh sm om gr 2 5 0 0 wm' sus' (-2) pa now' w' op' ov' tp' tv' := by
  intro gc gr sus c0 c1 c2 c3 c4 c5 c6 c7 J pt tt found vals wm now w op ov tp tv hJ hcnt hf
  obtain ⟨J1, sus1, e0, e1, e2, e3, e4, e5, e6, e7, pt1, tt1, found1, vals1, wm1, now1, w1, op1, ov1, tp1, tv1, b1, b2, b3, b4, b5⟩ := pair_do hfu hs h d off mk ho hM 1 3 1 3 rfl rfl (by omega) (by omega) 62 24 rfl sus c0 c1 c2 c3 c4 c5 c6 c7 J pt tt found vals wm now w op ov tp tv hJ (by omega) hf
  obtain ⟨J2, sus2, f0, f1, f2, f3, f4, f5, f6, f7, pt2, tt2, found2, vals2, wm2, now2, w2, op2, ov2, tp2, tv2, a1, a2, a3, a4, a5⟩ := pos_14 hfu hs h d off mk ho hM inS inA gc gr sus1 e0 e1 e2 e3 e4 e5 e6 e7 J1 pt1 tt1 found1 vals1 wm1 now1 w1 op1 ov1 tp1 tv1 b1 (by omega) b3
  refine ⟨J2, sus2, f0, f1, f2, f3, f4, f5, f6, f7, pt2, tt2, found2, vals2, wm2, now2, w2, op2, ov2, tp2, tv2, a1, a2, a3, ?_, ?_⟩
  · refine (find_step (gc + 16) 8 9 1 3 _ _ _ _ _ _ _ _ _ _ _ _ _ _ _ _ _ _ _ _ _ _ _ _ _ _ _ _ _ _ _ _ (by decide) rfl rfl rfl b4).trans ?_
    exact a4
  · refine (seeks_3 (gr + 11) 1 3 4 _ _ _ _ _ _ _ _ _ _ _ _ _ _ _ _ _ _ _ _ (by decide) rfl b5).trans ?_
    exact a5
theorem pos_12 (hfu : 10000 ≤ fu) (hs : setOk pa sh) (h : whAll wl wr K st mi ks kv wf wt ot W) (d off mk : Int32) (ho : isOffP off) {sm om : Nat → Int32} {M : Nat} (hM : markOk mk sm om M) (inS inA : Int32) : ∀ (gc gr : Nat) (sus c0 c1 c2 c3 c4 c5 c6 c7 : Int32) (J : Nat) (pt tt found : Nat → Int32) (vals : Nat → Int64) (wm : Int32) (now : Nat → Int32) (w : Nat → Int64) (op ov tp tv : Nat → Int32), sus.toInt = J → J + 150 ≤ 318 → foundRel J found op ov tp tv →
    ∃ (J' : Nat) (sus' c0' c1' c2' c3' c4' c5' c6' c7' : Int32) (pt' tt' found' : Nat → Int32) (vals' : Nat → Int64) (wm' : Int32) (now' : Nat → Int32) (w' : Nat → Int64) (op' ov' tp' tv' : Nat → Int32), sus'.toInt = J' ∧ J' ≤ 318 ∧ foundRel J' found' op' ov' tp' tv' ∧
      FX10_find_L fu d off mk sm om wl wr K st mi pa sh (gc + 18) 1 7 sus 2 inS inA 1 d off c0 c1 c2 c3 c4 c5 c6 c7 pt tt found vals = FX10_find_L fu d off mk sm om wl wr K st mi pa sh gc 1 25 sus' 2 inS inA 1 d off c0' c1' c2' c3' c4' c5' c6' c7' pt' tt' found' vals' ∧
      FX12_seeks_L fu d off wl mk ks kv wf wt ot sh sm om (gr + 13) 3 1 2 0 wm sus (-2) pa now w op ov tp tv = FX12_seeks_L fu d off wl mk ks kv wf wt ot sh sm om gr 2 5 0 0 wm' sus' (-2) pa now' w' op' ov' tp' tv' := by
  intro gc gr sus c0 c1 c2 c3 c4 c5 c6 c7 J pt tt found vals wm now w op ov tp tv hJ hcnt hf
  obtain ⟨J1, sus1, e0, e1, e2, e3, e4, e5, e6, e7, pt1, tt1, found1, vals1, wm1, now1, w1, op1, ov1, tp1, tv1, b1, b2, b3, b4, b5⟩ := pair_do hfu hs h d off mk ho hM 1 2 1 2 rfl rfl (by omega) (by omega) 86 64 rfl sus c0 c1 c2 c3 c4 c5 c6 c7 J pt tt found vals wm now w op ov tp tv hJ (by omega) hf
  obtain ⟨J2, sus2, f0, f1, f2, f3, f4, f5, f6, f7, pt2, tt2, found2, vals2, wm2, now2, w2, op2, ov2, tp2, tv2, a1, a2, a3, a4, a5⟩ := pos_13 hfu hs h d off mk ho hM inS inA gc gr sus1 e0 e1 e2 e3 e4 e5 e6 e7 J1 pt1 tt1 found1 vals1 wm1 now1 w1 op1 ov1 tp1 tv1 b1 (by omega) b3
  refine ⟨J2, sus2, f0, f1, f2, f3, f4, f5, f6, f7, pt2, tt2, found2, vals2, wm2, now2, w2, op2, ov2, tp2, tv2, a1, a2, a3, ?_, ?_⟩
  · refine (find_step (gc + 17) 7 8 1 2 _ _ _ _ _ _ _ _ _ _ _ _ _ _ _ _ _ _ _ _ _ _ _ _ _ _ _ _ _ _ _ _ (by decide) rfl rfl rfl b4).trans ?_
    exact a4
  · refine (seeks_3 (gr + 12) 1 2 3 _ _ _ _ _ _ _ _ _ _ _ _ _ _ _ _ _ _ _ _ (by decide) rfl b5).trans ?_
    exact a5
theorem pos_04 (hfu : 10000 ≤ fu) (hs : setOk pa sh) (h : whAll wl wr K st mi ks kv wf wt ot W) (d off mk : Int32) (ho : isOffP off) {sm om : Nat → Int32} {M : Nat} (hM : markOk mk sm om M) (inS inA : Int32) : ∀ (gc gr : Nat) (sus c0 c1 c2 c3 c4 c5 c6 c7 : Int32) (J : Nat) (pt tt found : Nat → Int32) (vals : Nat → Int64) (wm : Int32) (now : Nat → Int32) (w : Nat → Int64) (op ov tp tv : Nat → Int32), sus.toInt = J → J + 166 ≤ 318 → foundRel J found op ov tp tv →
    ∃ (J' : Nat) (sus' c0' c1' c2' c3' c4' c5' c6' c7' : Int32) (pt' tt' found' : Nat → Int32) (vals' : Nat → Int64) (wm' : Int32) (now' : Nat → Int32) (w' : Nat → Int64) (op' ov' tp' tv' : Nat → Int32), sus'.toInt = J' ∧ J' ≤ 318 ∧ foundRel J' found' op' ov' tp' tv' ∧
      FX10_find_L fu d off mk sm om wl wr K st mi pa sh (gc + 21) 1 4 sus 2 inS inA 1 d off c0 c1 c2 c3 c4 c5 c6 c7 pt tt found vals = FX10_find_L fu d off mk sm om wl wr K st mi pa sh gc 1 25 sus' 2 inS inA 1 d off c0' c1' c2' c3' c4' c5' c6' c7' pt' tt' found' vals' ∧
      FX12_seeks_L fu d off wl mk ks kv wf wt ot sh sm om (gr + 16) 3 0 4 0 wm sus (-2) pa now w op ov tp tv = FX12_seeks_L fu d off wl mk ks kv wf wt ot sh sm om gr 2 5 0 0 wm' sus' (-2) pa now' w' op' ov' tp' tv' := by
  intro gc gr sus c0 c1 c2 c3 c4 c5 c6 c7 J pt tt found vals wm now w op ov tp tv hJ hcnt hf
  obtain ⟨J1, sus1, e0, e1, e2, e3, e4, e5, e6, e7, pt1, tt1, found1, vals1, wm1, now1, w1, op1, ov1, tp1, tv1, b1, b2, b3, b4, b5⟩ := pair_do hfu hs h d off mk ho hM 0 4 0 4 rfl rfl (by omega) (by omega) 150 16 rfl sus c0 c1 c2 c3 c4 c5 c6 c7 J pt tt found vals wm now w op ov tp tv hJ (by omega) hf
  obtain ⟨J2, sus2, f0, f1, f2, f3, f4, f5, f6, f7, pt2, tt2, found2, vals2, wm2, now2, w2, op2, ov2, tp2, tv2, a1, a2, a3, a4, a5⟩ := pos_12 hfu hs h d off mk ho hM inS inA gc gr sus1 e0 e1 e2 e3 e4 e5 e6 e7 J1 pt1 tt1 found1 vals1 wm1 now1 w1 op1 ov1 tp1 tv1 b1 (by omega) b3
  refine ⟨J2, sus2, f0, f1, f2, f3, f4, f5, f6, f7, pt2, tt2, found2, vals2, wm2, now2, w2, op2, ov2, tp2, tv2, a1, a2, a3, ?_, ?_⟩
  · refine (find_step (gc + 20) 4 5 0 4 _ _ _ _ _ _ _ _ _ _ _ _ _ _ _ _ _ _ _ _ _ _ _ _ _ _ _ _ _ _ _ _ (by decide) rfl rfl rfl b4).trans ?_
    refine (find_step (gc + 19) 5 6 1 0 _ _ _ _ _ _ _ _ _ _ _ _ _ _ _ _ _ _ _ _ _ _ _ _ _ _ _ _ _ _ _ _ (by decide) rfl rfl rfl (pair_skip _ _ _ _ _ _ _ _ _ _ _ _ _ _ _ _ _ _ _ _ (by decide))).trans ?_
    refine (find_step (gc + 18) 6 7 1 1 _ _ _ _ _ _ _ _ _ _ _ _ _ _ _ _ _ _ _ _ _ _ _ _ _ _ _ _ _ _ _ _ (by decide) rfl rfl rfl (pair_skip _ _ _ _ _ _ _ _ _ _ _ _ _ _ _ _ _ _ _ _ (by decide))).trans ?_
    exact a4
  · refine (seeks_3 (gr + 15) 0 4 5 _ _ _ _ _ _ _ _ _ _ _ _ _ _ _ _ _ _ _ _ (by decide) rfl b5).trans ?_
    refine (seeks_3e (gr + 14) 0 1 5 _ _ _ _ _ _ _ _ _ _ _ (by decide) rfl).trans ?_
    refine (seeks_2 (gr + 13) 1 2 _ _ _ _ _ _ _ _ _ _ _ _ (by decide) (by decide) rfl).trans ?_
    exact a5
theorem pos_03 (hfu : 10000 ≤ fu) (hs : setOk pa sh) (h : whAll wl wr K st mi ks kv wf wt ot W) (d off mk : Int32) (ho : isOffP off) {sm om : Nat → Int32} {M : Nat} (hM : markOk mk sm om M) (inS inA : Int32) : ∀ (gc gr : Nat) (sus c0 c1 c2 c3 c4 c5 c6 c7 : Int32) (J : Nat) (pt tt found : Nat → Int32) (vals : Nat → Int64) (wm : Int32) (now : Nat → Int32) (w : Nat → Int64) (op ov tp tv : Nat → Int32), sus.toInt = J → J + 190 ≤ 318 → foundRel J found op ov tp tv →
    ∃ (J' : Nat) (sus' c0' c1' c2' c3' c4' c5' c6' c7' : Int32) (pt' tt' found' : Nat → Int32) (vals' : Nat → Int64) (wm' : Int32) (now' : Nat → Int32) (w' : Nat → Int64) (op' ov' tp' tv' : Nat → Int32), sus'.toInt = J' ∧ J' ≤ 318 ∧ foundRel J' found' op' ov' tp' tv' ∧
      FX10_find_L fu d off mk sm om wl wr K st mi pa sh (gc + 22) 1 3 sus 2 inS inA 1 d off c0 c1 c2 c3 c4 c5 c6 c7 pt tt found vals = FX10_find_L fu d off mk sm om wl wr K st mi pa sh gc 1 25 sus' 2 inS inA 1 d off c0' c1' c2' c3' c4' c5' c6' c7' pt' tt' found' vals' ∧
      FX12_seeks_L fu d off wl mk ks kv wf wt ot sh sm om (gr + 17) 3 0 3 0 wm sus (-2) pa now w op ov tp tv = FX12_seeks_L fu d off wl mk ks kv wf wt ot sh sm om gr 2 5 0 0 wm' sus' (-2) pa now' w' op' ov' tp' tv' := by
  intro gc gr sus c0 c1 c2 c3 c4 c5 c6 c7 J pt tt found vals wm now w op ov tp tv hJ hcnt hf
  obtain ⟨J1, sus1, e0, e1, e2, e3, e4, e5, e6, e7, pt1, tt1, found1, vals1, wm1, now1, w1, op1, ov1, tp1, tv1, b1, b2, b3, b4, b5⟩ := pair_do hfu hs h d off mk ho hM 0 3 0 3 rfl rfl (by omega) (by omega) 166 24 rfl sus c0 c1 c2 c3 c4 c5 c6 c7 J pt tt found vals wm now w op ov tp tv hJ (by omega) hf
  obtain ⟨J2, sus2, f0, f1, f2, f3, f4, f5, f6, f7, pt2, tt2, found2, vals2, wm2, now2, w2, op2, ov2, tp2, tv2, a1, a2, a3, a4, a5⟩ := pos_04 hfu hs h d off mk ho hM inS inA gc gr sus1 e0 e1 e2 e3 e4 e5 e6 e7 J1 pt1 tt1 found1 vals1 wm1 now1 w1 op1 ov1 tp1 tv1 b1 (by omega) b3
  refine ⟨J2, sus2, f0, f1, f2, f3, f4, f5, f6, f7, pt2, tt2, found2, vals2, wm2, now2, w2, op2, ov2, tp2, tv2, a1, a2, a3, ?_, ?_⟩
  · refine (find_step (gc + 21) 3 4 0 3 _ _ _ _ _ _ _ _ _ _ _ _ _ _ _ _ _ _ _ _ _ _ _ _ _ _ _ _ _ _ _ _ (by decide) rfl rfl rfl b4).trans ?_
    exact a4
  · refine (seeks_3 (gr + 16) 0 3 4 _ _ _ _ _ _ _ _ _ _ _ _ _ _ _ _ _ _ _ _ (by decide) rfl b5).trans ?_
    exact a5
theorem pos_02 (hfu : 10000 ≤ fu) (hs : setOk pa sh) (h : whAll wl wr K st mi ks kv wf wt ot W) (d off mk : Int32) (ho : isOffP off) {sm om : Nat → Int32} {M : Nat} (hM : markOk mk sm om M) (inS inA : Int32) : ∀ (gc gr : Nat) (sus c0 c1 c2 c3 c4 c5 c6 c7 : Int32) (J : Nat) (pt tt found : Nat → Int32) (vals : Nat → Int64) (wm : Int32) (now : Nat → Int32) (w : Nat → Int64) (op ov tp tv : Nat → Int32), sus.toInt = J → J + 254 ≤ 318 → foundRel J found op ov tp tv →
    ∃ (J' : Nat) (sus' c0' c1' c2' c3' c4' c5' c6' c7' : Int32) (pt' tt' found' : Nat → Int32) (vals' : Nat → Int64) (wm' : Int32) (now' : Nat → Int32) (w' : Nat → Int64) (op' ov' tp' tv' : Nat → Int32), sus'.toInt = J' ∧ J' ≤ 318 ∧ foundRel J' found' op' ov' tp' tv' ∧
      FX10_find_L fu d off mk sm om wl wr K st mi pa sh (gc + 23) 1 2 sus 2 inS inA 1 d off c0 c1 c2 c3 c4 c5 c6 c7 pt tt found vals = FX10_find_L fu d off mk sm om wl wr K st mi pa sh gc 1 25 sus' 2 inS inA 1 d off c0' c1' c2' c3' c4' c5' c6' c7' pt' tt' found' vals' ∧
      FX12_seeks_L fu d off wl mk ks kv wf wt ot sh sm om (gr + 18) 3 0 2 0 wm sus (-2) pa now w op ov tp tv = FX12_seeks_L fu d off wl mk ks kv wf wt ot sh sm om gr 2 5 0 0 wm' sus' (-2) pa now' w' op' ov' tp' tv' := by
  intro gc gr sus c0 c1 c2 c3 c4 c5 c6 c7 J pt tt found vals wm now w op ov tp tv hJ hcnt hf
  obtain ⟨J1, sus1, e0, e1, e2, e3, e4, e5, e6, e7, pt1, tt1, found1, vals1, wm1, now1, w1, op1, ov1, tp1, tv1, b1, b2, b3, b4, b5⟩ := pair_do hfu hs h d off mk ho hM 0 2 0 2 rfl rfl (by omega) (by omega) 190 64 rfl sus c0 c1 c2 c3 c4 c5 c6 c7 J pt tt found vals wm now w op ov tp tv hJ (by omega) hf
  obtain ⟨J2, sus2, f0, f1, f2, f3, f4, f5, f6, f7, pt2, tt2, found2, vals2, wm2, now2, w2, op2, ov2, tp2, tv2, a1, a2, a3, a4, a5⟩ := pos_03 hfu hs h d off mk ho hM inS inA gc gr sus1 e0 e1 e2 e3 e4 e5 e6 e7 J1 pt1 tt1 found1 vals1 wm1 now1 w1 op1 ov1 tp1 tv1 b1 (by omega) b3
  refine ⟨J2, sus2, f0, f1, f2, f3, f4, f5, f6, f7, pt2, tt2, found2, vals2, wm2, now2, w2, op2, ov2, tp2, tv2, a1, a2, a3, ?_, ?_⟩
  · refine (find_step (gc + 22) 2 3 0 2 _ _ _ _ _ _ _ _ _ _ _ _ _ _ _ _ _ _ _ _ _ _ _ _ _ _ _ _ _ _ _ _ (by decide) rfl rfl rfl b4).trans ?_
    exact a4
  · refine (seeks_3 (gr + 17) 0 2 3 _ _ _ _ _ _ _ _ _ _ _ _ _ _ _ _ _ _ _ _ (by decide) rfl b5).trans ?_
    exact a5
theorem pos_01 (hfu : 10000 ≤ fu) (hs : setOk pa sh) (h : whAll wl wr K st mi ks kv wf wt ot W) (d off mk : Int32) (ho : isOffP off) {sm om : Nat → Int32} {M : Nat} (hM : markOk mk sm om M) (inS inA : Int32) : ∀ (gc gr : Nat) (sus c0 c1 c2 c3 c4 c5 c6 c7 : Int32) (J : Nat) (pt tt found : Nat → Int32) (vals : Nat → Int64) (wm : Int32) (now : Nat → Int32) (w : Nat → Int64) (op ov tp tv : Nat → Int32), sus.toInt = J → J + 318 ≤ 318 → foundRel J found op ov tp tv →
    ∃ (J' : Nat) (sus' c0' c1' c2' c3' c4' c5' c6' c7' : Int32) (pt' tt' found' : Nat → Int32) (vals' : Nat → Int64) (wm' : Int32) (now' : Nat → Int32) (w' : Nat → Int64) (op' ov' tp' tv' : Nat → Int32), sus'.toInt = J' ∧ J' ≤ 318 ∧ foundRel J' found' op' ov' tp' tv' ∧
      FX10_find_L fu d off mk sm om wl wr K st mi pa sh (gc + 24) 1 1 sus 2 inS inA 1 d off c0 c1 c2 c3 c4 c5 c6 c7 pt tt found vals = FX10_find_L fu d off mk sm om wl wr K st mi pa sh gc 1 25 sus' 2 inS inA 1 d off c0' c1' c2' c3' c4' c5' c6' c7' pt' tt' found' vals' ∧
      FX12_seeks_L fu d off wl mk ks kv wf wt ot sh sm om (gr + 19) 3 0 1 0 wm sus (-2) pa now w op ov tp tv = FX12_seeks_L fu d off wl mk ks kv wf wt ot sh sm om gr 2 5 0 0 wm' sus' (-2) pa now' w' op' ov' tp' tv' := by
  intro gc gr sus c0 c1 c2 c3 c4 c5 c6 c7 J pt tt found vals wm now w op ov tp tv hJ hcnt hf
  obtain ⟨J1, sus1, e0, e1, e2, e3, e4, e5, e6, e7, pt1, tt1, found1, vals1, wm1, now1, w1, op1, ov1, tp1, tv1, b1, b2, b3, b4, b5⟩ := pair_do hfu hs h d off mk ho hM 0 1 0 1 rfl rfl (by omega) (by omega) 254 64 rfl sus c0 c1 c2 c3 c4 c5 c6 c7 J pt tt found vals wm now w op ov tp tv hJ (by omega) hf
  obtain ⟨J2, sus2, f0, f1, f2, f3, f4, f5, f6, f7, pt2, tt2, found2, vals2, wm2, now2, w2, op2, ov2, tp2, tv2, a1, a2, a3, a4, a5⟩ := pos_02 hfu hs h d off mk ho hM inS inA gc gr sus1 e0 e1 e2 e3 e4 e5 e6 e7 J1 pt1 tt1 found1 vals1 wm1 now1 w1 op1 ov1 tp1 tv1 b1 (by omega) b3
  refine ⟨J2, sus2, f0, f1, f2, f3, f4, f5, f6, f7, pt2, tt2, found2, vals2, wm2, now2, w2, op2, ov2, tp2, tv2, a1, a2, a3, ?_, ?_⟩
  · refine (find_step (gc + 23) 1 2 0 1 _ _ _ _ _ _ _ _ _ _ _ _ _ _ _ _ _ _ _ _ _ _ _ _ _ _ _ _ _ _ _ _ (by decide) rfl rfl rfl b4).trans ?_
    exact a4
  · refine (seeks_3 (gr + 18) 0 1 2 _ _ _ _ _ _ _ _ _ _ _ _ _ _ _ _ _ _ _ _ (by decide) rfl b5).trans ?_
    exact a5
end
