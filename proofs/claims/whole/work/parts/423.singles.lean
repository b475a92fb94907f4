-- deps: 100 110 111 112 113 114 115 116 117 118 119 120 121 130 131 132 133 134 135 136 137 138 139 140 141 142 143 144 145 146 200 201 202 203 204 205 206 207 208 209 210 211 212 213 214 215 216 217 218 219 220 221 222
section
variable {fu : Nat} {wl wr : Int32} {pa sh K st mi ks kv wf wt ot : Nat → Int32} {W : Nat}
theorem find_0 {d off mk : Int32} {sm om : Nat → Int32} (f : Nat) (x x' : Int32) (dd oo sus fw inS inA kn c0 c1 c2 c3 c4 c5 c6 c7 sus' c0' c1' c2' c3' c4' c5' c6' c7' : Int32) (pt tt found pt' tt' found' : Nat → Int32) (vals vals' : Nat → Int64) (hx : ¬ 5 ≤ x) (h3 : x + 1 = x') (h : FX10_tryPart fu x mk sus dd oo c0 c1 c2 c3 c4 c5 c6 c7 pt tt sm om found wl wr K vals st mi pa sh = some (sus', c0', c1', c2', c3', c4', c5', c6', c7', pt', tt', found', vals')) : FX10_find_L fu d off mk sm om wl wr K st mi pa sh (f + 1) 0 x sus fw inS inA kn dd oo c0 c1 c2 c3 c4 c5 c6 c7 pt tt found vals = FX10_find_L fu d off mk sm om wl wr K st mi pa sh f 0 x' sus' fw inS inA kn dd oo c0' c1' c2' c3' c4' c5' c6' c7' pt' tt' found' vals' := by
  subst h3
  rw [FX10_find_L, if_pos rfl, if_neg hx, h]
  rfl
theorem seeks_0 {d off mk : Int32} {sm om : Nat → Int32} (f : Nat) (p y z wm sus fw : Int32) (part now op ov tp tv : Nat → Int32) (w : Nat → Int64) (hp : ¬ 5 ≤ p) (hi : pz_inb p 5 = true) : FX12_seeks_L fu d off wl mk ks kv wf wt ot sh sm om (f + 1) 0 p y z wm sus fw part now w op ov tp tv = FX12_seeks_L fu d off wl mk ks kv wf wt ot sh sm om f 1 p (part p.toNatClampNeg) (fX12_least_r p) wm sus fw part now w op ov tp tv := by
  rw [FX12_seeks_L, if_pos rfl, if_neg hp, if_pos hi]
theorem singles (hfu : 10000 ≤ fu) (hs : setOk pa sh) (h : whAll wl wr K st mi ks kv wf wt ot W) (d off mk : Int32) (ho : isOffP off) {sm om : Nat → Int32} {M : Nat} (hM : markOk mk sm om M) (inS inA : Int32) : ∀ (n a gc gr : Nat) (x y z sus c0 c1 c2 c3 c4 c5 c6 c7 : Int32) (J : Nat) (pt tt found : Nat → Int32) (vals : Nat → Int64) (wm : Int32) (now : Nat → Int32) (w : Nat → Int64) (op ov tp tv : Nat → Int32), a + n = 5 → x.toInt = a → sus.toInt = J → J ≤ 10 * a → foundRel J found op ov tp tv →
    ∃ (gr' J' : Nat) (y' z' sus' c0' c1' c2' c3' c4' c5' c6' c7' : Int32) (pt' tt' found' : Nat → Int32) (vals' : Nat → Int64) (wm' : Int32) (now' : Nat → Int32) (w' : Nat → Int64) (op' ov' tp' tv' : Nat → Int32), gr ≤ gr' ∧ sus'.toInt = J' ∧ J' ≤ 50 ∧ foundRel J' found' op' ov' tp' tv' ∧
      FX10_find_L fu d off mk sm om wl wr K st mi pa sh (gc + n) 0 x sus 1 inS inA 1 d off c0 c1 c2 c3 c4 c5 c6 c7 pt tt found vals = FX10_find_L fu d off mk sm om wl wr K st mi pa sh gc 0 5 sus' 1 inS inA 1 d off c0' c1' c2' c3' c4' c5' c6' c7' pt' tt' found' vals' ∧
      FX12_seeks_L fu d off wl mk ks kv wf wt ot sh sm om (gr + 20 * n) 0 x y z wm sus (-2) pa now w op ov tp tv = FX12_seeks_L fu d off wl mk ks kv wf wt ot sh sm om gr' 0 5 y' z' wm' sus' (-2) pa now' w' op' ov' tp' tv' := by
  have q1 := t_1
  have q5 : (5 : Int32).toInt = 5 := rfl
  intro n
  induction n with
  | zero =>
    intro a gc gr x y z sus c0 c1 c2 c3 c4 c5 c6 c7 J pt tt found vals wm now w op ov tp tv ha hx hJ hJ2 hf
    have hx5 : x = 5 := by rw [i_eq]; omega
    subst hx5
    exact ⟨gr, J, y, z, sus, c0, c1, c2, c3, c4, c5, c6, c7, pt, tt, found, vals, wm, now, w, op, ov, tp, tv, Nat.le_refl _, hJ, by omega, hf, rfl, rfl⟩
  | succ n ih =>
    intro a gc gr x y z sus c0 c1 c2 c3 c4 c5 c6 c7 J pt tt found vals wm now w op ov tp tv ha hx hJ hJ2 hf
    obtain ⟨r1, r2, r3, r4, r5, r6, r7⟩ := rng_eq hx (by omega)
    have hx5 : ¬ 5 ≤ x := by rw [i_le]; omega
    have e1 := restv_all hs (a := a) (by omega)
    have hsx := i_add x 1 (by omega) (by omega)
    obtain ⟨m, hm⟩ : ∃ m, m = ((ro1 a).toInt + 1 - (ro0 a).toInt).toNat := ⟨_, rfl⟩
    obtain ⟨J1, sus1, k0, k1, k2, k3, k4, k5, k6, k7, pt1, tt1, found1, vals1, wm1, now1, w1, op1, ov1, tp1, tv1, b1, b2, b3, b4, b5, b6⟩ := single_L hfu hs h d off mk ho hM x (-2) a hx (by omega) (318 - (J + ((ro1 a).toInt - (ro0 a).toInt).toNat)) m fu (gr + 20 * n + (18 - m)) (ro0 a) sus c0 c1 c2 c3 c4 c5 c6 c7 J pt tt found vals wm pa now w op ov tp tv (by omega) (Int.le_refl _) (by omega) hJ (by rw [e1]; omega) hf (fun _ _ => rfl)
    obtain ⟨gr', J', y', z', sus', c0', c1', c2', c3', c4', c5', c6', c7', pt', tt', found', vals', wm', now', w', op', ov', tp', tv', d0, d1, d2, d3, d4, d5⟩ := ih (a + 1) gc (gr + (18 - m)) (x + 1) 0 0 sus1 k0 k1 k2 k3 k4 k5 k6 k7 J1 pt1 tt1 found1 vals1 wm1 now1 w1 op1 ov1 tp1 tv1 (by omega) (by omega) b1 (by omega) b4
    refine ⟨gr', J', y', z', sus', c0', c1', c2', c3', c4', c5', c6', c7', pt', tt', found', vals', wm', now', w', op', ov', tp', tv', by omega, d1, d2, d3, ?_, ?_⟩
    · refine (find_0 (gc + n) x (x + 1) _ _ _ _ _ _ _ _ _ _ _ _ _ _ _ _ _ _ _ _ _ _ _ _ _ _ _ _ _ _ _ _ hx5 rfl ?_).trans d4
      unfold FX10_tryPart
      rw [if_pos r4, r3]
      exact b5
    · rw [show gr + 20 * (n + 1) = ((gr + 20 * n + (18 - m)) + m + 1) + 1 by omega]
      refine (seeks_0 _ x _ _ _ _ _ _ _ _ _ _ _ _ hx5 r4).trans ?_
      rw [r3, r1]
      refine b6.trans ?_
      rw [show gr + 20 * n + (18 - m) = gr + (18 - m) + 20 * n by omega]
      exact d5
end
