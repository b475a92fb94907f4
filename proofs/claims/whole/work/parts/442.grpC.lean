/-! ===== the class's greatest group ===== -/
theorem fillL_L (fu : Nat) (v : Int64) (N : Nat) (hN : N ≤ 100000) (hi : Int32) (hhi : hi.toInt = N) : ∀ (n j f : Nat) (x : Int32) (q : Nat → Int64), j + n = N → x.toInt = j → n < f → (∀ i, i < j → q i = v) → ∃ q', FJ7_fill_d0a16_L fu v N f x hi q = some q' ∧ ∀ i, i < N → q' i = v := by
  have q1 := t_1
  intro n
  induction n with
  | zero =>
    intro j f x q hj hx hf h
    obtain ⟨f, rfl⟩ : ∃ g, f = g + 1 := ⟨f - 1, by omega⟩
    rw [FJ7_fill_d0a16_L, if_pos (by rw [i_le]; omega)]
    exact ⟨q, rfl, fun i hi => h i (by omega)⟩
  | succ n ih =>
    intro j f x q hj hx hf h
    obtain ⟨f, rfl⟩ : ∃ g, f = g + 1 := ⟨f - 1, by omega⟩
    have hi' : pz_inb x N = true := i_inb.mpr (by omega)
    have hn : x.toNatClampNeg = j := by have := i_nat (a := x) (by omega); omega
    have hs := i_add x 1 (by omega) (by omega)
    rw [FJ7_fill_d0a16_L, if_neg (by rw [i_le]; omega), if_pos hi', hn]
    refine ih (j + 1) f (x + 1) _ (by omega) (by omega) (by omega) (fun i hi => ?_)
    unfold vp_updL
    by_cases c : i = j
    · rw [if_pos c]
    · rw [if_neg c]; exact h i (by omega)
theorem fillL_eq {fu : Nat} (hfu : 10000 ≤ fu) (v : Int64) (N : Nat) (hN : N ≤ 9000) (q : Nat → Int64) : ∃ q', FJ7_fill_d0a16 fu v N q = some q' ∧ ∀ i, i < N → q' i = v := by
  unfold FJ7_fill_d0a16
  exact fillL_L fu v N (by omega) (Int32.ofNat N) (i_lit N (by omega)) N 0 fu 0 q (by omega) rfl (by omega) (fun i hi => absurd hi (by omega))
section
variable {fu : Nat} {pa sh rs rl ro rs' rm' ro' : Nat → Int32} {rows : Int32} {R r J : Nat} {found op ov tp tv : Nat → Int32}
/-- the state of SUSPECT k behind t steps of the row -/
def Wk (pa sh rs rl ro : Nat → Int32) (r : Nat) (op ov tp tv : Nat → Int32) (k t : Nat) : Nat → Int32 := wkS (paK pa (op k) (ov k) (tp k) (tv k)) sh rs rl ro r t
def Wo (pa sh rs rl ro : Nat → Int32) (r : Nat) (op ov tp tv : Nat → Int32) (k t : Nat) : Int32 := Wk pa sh rs rl ro r op ov tp tv k t 4
theorem cpy_set (pa sh pt tt : Nat → Int32) : (∀ i, i < 5 → va_cpy pa pt 0 0 5 i = pa i) ∧ ∀ i, i < 3 → va_cpy sh tt 0 0 3 i = sh i := ⟨cpy5 pa pt, cpy3 sh tt⟩
theorem goOn_L (hs : setOk pa sh) (hrow : rowRel rows rs rl ro rs' rm' ro' R) (hr : r < R) (sus mb : Int32) (hsus : sus.toInt = J) (hmb : mb.toInt = J) (hJ : J ≤ 318) (hf : foundRel J found op ov tp tv) (hok : ∀ k, k < J → susOk (op k) (ov k) (tp k) (tv k)) (t : Nat) (ht : t < 1000) : ∀ (n k f : Nat) (x c0 c1 c2 c3 c4 c5 c6 c7 : Int32) (pt tt : Nat → Int32) (states : Nat → Int64), k + n = J → x.toInt = k → n < f → (∀ i, i < k → states i = pkS (Wk pa sh rs rl ro r op ov tp tv i (t + 1))) → (∀ i, k ≤ i → i < J → states i = pkS (Wk pa sh rs rl ro r op ov tp tv i t)) →
    ∃ (d0 d1 d2 d3 d4 d5 d6 d7 : Int32) (pt' tt' : Nat → Int32) (states' : Nat → Int64), FX1_goOn_L fu (rowO rs rl ro r (Int32.ofNat (t + 1))) mb sus found pa sh f x c0 c1 c2 c3 c4 c5 c6 c7 pt tt states = some (d0, d1, d2, d3, d4, d5, d6, d7, pt', tt', states') ∧ ∀ i, i < J → states' i = pkS (Wk pa sh rs rl ro r op ov tp tv i (t + 1)) := by
  have q0 := t_0
  have q1 := t_1
  intro n
  induction n with
  | zero =>
    intro k f x c0 c1 c2 c3 c4 c5 c6 c7 pt tt states hk hx hfu h1 h2
    obtain ⟨f, rfl⟩ : ∃ g, f = g + 1 := ⟨f - 1, by omega⟩
    rw [FX1_goOn_L, if_pos (by rw [i_le]; omega)]
    exact ⟨_, _, _, _, _, _, _, _, _, _, _, rfl, fun i hi => h1 i (by omega)⟩
  | succ n ih =>
    intro k f x c0 c1 c2 c3 c4 c5 c6 c7 pt tt states hk hx hfu h1 h2
    obtain ⟨f, rfl⟩ : ∃ g, f = g + 1 := ⟨f - 1, by omega⟩
    have hi : pz_inb x 318 = true := i_inb.mpr (by omega)
    have hn : x.toNatClampNeg = k := by have := i_nat (a := x) (by omega); omega
    have hs1 := i_add x 1 (by omega) (by omega)
    have hat : FX10_suspectAt fu x sus found = some (found k) := by
      unfold FX10_suspectAt
      rw [if_neg (show ¬ x < 0 by rw [i_lt]; omega), if_neg (show ¬ sus ≤ x by rw [i_le]; omega), if_pos hi, hn]
    rw [FX1_goOn_L, if_neg (by rw [i_le]; omega), hat, Option.bind_some, if_pos hi, if_pos hi, hn, h2 k (Nat.le_refl _) (by omega)]
    have hso := hok k (by omega)
    have hset : setRel (fX10_fail_a1 (found k) (va_cpy pa pt 0 0 5)) (va_cpy sh tt 0 0 3) (paK pa (op k) (ov k) (tp k) (tv k)) sh := ⟨paK_cls (hf k (by omega)) hso (cpy5 pa pt), cpy3 sh tt⟩
    have hS : stOk (Wk pa sh rs rl ro r op ov tp tv k t) := wkS_ok (paK_ok hs hso) hrow hr t (by omega)
    obtain ⟨u0, u1, u2, u3, u5, u6, u7, u4⟩ := unpack_eq hS
    rw [u1, u2, u3, u4, u5, u6, u7]
    have hstep : st_step (rowO rs rl ro r (Int32.ofNat (t + 1))) (fX10_fail_a1 (found k) (va_cpy pa pt 0 0 5)) (va_cpy sh tt 0 0 3) (Wk pa sh rs rl ro r op ov tp tv k t) = Wk pa sh rs rl ro r op ov tp tv k (t + 1) := step_congr hset
    have key := ih (k + 1) f (x + 1) (Wk pa sh rs rl ro r op ov tp tv k (t + 1) 0) (Wk pa sh rs rl ro r op ov tp tv k (t + 1) 1) (Wk pa sh rs rl ro r op ov tp tv k (t + 1) 2) (Wk pa sh rs rl ro r op ov tp tv k (t + 1) 3) (Wk pa sh rs rl ro r op ov tp tv k (t + 1) 4) (Wk pa sh rs rl ro r op ov tp tv k (t + 1) 5) (Wk pa sh rs rl ro r op ov tp tv k (t + 1) 6) (Wk pa sh rs rl ro r op ov tp tv k (t + 1) 7) (fX10_fail_a1 (found k) (va_cpy pa pt 0 0 5)) (va_cpy sh tt 0 0 3) (vp_updL states k (pkS (Wk pa sh rs rl ro r op ov tp tv k (t + 1)))) (by omega) (by omega) (by omega) (fun i hi => by
      unfold vp_updL
      by_cases g : i = k
      · rw [if_pos g, g]
      · rw [if_neg g]; exact h1 i (by omega)) (fun i g1 g2 => by
      unfold vp_updL
      rw [if_neg (by omega)]
      exact h2 i (by omega) g2)
    rw [← hstep] at key
    exact key
theorem grt_L (hfu : 10000 ≤ fu) (hs : setOk pa sh) (hrow : rowRel rows rs rl ro rs' rm' ro' R) (p1 p2 : Int32) (hp1 : p1.toInt = r) (hr : r < R) (N : Nat) (hp2 : p2.toInt = N) (hN : N ≤ 200) (sus mb : Int32) (hsus : sus.toInt = J) (hmb : mb.toInt = J) (hJ : J ≤ 318) (hf : foundRel J found op ov tp tv) (hok : ∀ k, k < J → susOk (op k) (ov k) (tp k) (tv k)) : ∀ (n t f : Nat) (x c0 c1 c2 c3 c4 c5 c6 c7 : Int32) (pt tt : Nat → Int32) (states : Nat → Int64) (ld la sz : Nat → Int32), t + n = N → x.toInt = t + 1 → n < f → (∀ i, i < J → states i = pkS (Wk pa sh rs rl ro r op ov tp tv i t)) → ldOk (Wo pa sh rs rl ro r op ov tp tv) t 0 J ld →
    ∃ (lN : Nat → Nat) (d0 d1 d2 d3 d4 d5 d6 d7 : Int32) (pt' tt' : Nat → Int32) (states' : Nat → Int64) (ld' la' sz' : Nat → Int32), (∀ k, k < J → isLd (Wo pa sh rs rl ro r op ov tp tv) N k (lN k)) ∧ FX1_greatest_L fu p1 p2 sus found rows rs rl ro pa sh f x mb c0 c1 c2 c3 c4 c5 c6 c7 pt tt states ld la sz = some (szN lN J 0 (fun _ => 0) 0, mb, d0, d1, d2, d3, d4, d5, d6, d7, pt', tt', states', ld', la', sz') := by
  have q1 := t_1
  intro n
  induction n with
  | zero =>
    intro t f x c0 c1 c2 c3 c4 c5 c6 c7 pt tt states ld la sz ht hx hfl hst hld
    obtain ⟨f, rfl⟩ : ∃ g, f = g + 1 := ⟨f - 1, by omega⟩
    have : t = N := by omega
    subst this
    rw [FX1_greatest_L, if_pos (by rw [i_lt]; omega)]
    unfold FX1_greatestSize
    obtain ⟨sz1, z1, z2⟩ := fill_eq (fu := fu) hfu 0 318 (by omega) sz
    rw [z1, Option.bind_some]
    have hch : ∀ k, k < J → ((ld k).toInt = (ld k).toInt.toNat ∧ (ld k).toInt.toNat < J) ∧ isLd (Wo pa sh rs rl ro r op ov tp tv) t k (ld k).toInt.toNat := by
      intro k hk
      obtain ⟨j, j1, j2⟩ := hld k (by omega) hk
      have h1 := j2.1
      have e : (ld k).toInt.toNat = j := by omega
      rw [e]
      exact ⟨⟨j1, by omega⟩, j2⟩
    obtain ⟨sz', e⟩ := size_L fu mb J hmb hJ ld (fun k => (ld k).toInt.toNat) (fun k hk => (hch k hk).1) J 0 fu 0 0 sz1 (by omega) rfl (by omega)
    rw [e, Option.bind_some]
    rw [szN_congr (fun k => (ld k).toInt.toNat) J (fun k hk => (hch k hk).1.2) J 0 sz1 (fun _ => 0) 0 (by omega) (fun i hi => z2 i (by omega))]
    exact ⟨_, _, _, _, _, _, _, _, _, _, _, _, _, _, _, fun k hk => (hch k hk).2, rfl⟩
  | succ n ih =>
    intro t f x c0 c1 c2 c3 c4 c5 c6 c7 pt tt states ld la sz ht hx hfl hst hld
    obtain ⟨f, rfl⟩ : ∃ g, f = g + 1 := ⟨f - 1, by omega⟩
    have hs1 := i_add x 1 (by omega) (by omega)
    have hxo : x = Int32.ofNat (t + 1) := i_ofNat (by omega) (by omega)
    rw [FX1_greatest_L, if_neg (by rw [i_lt]; omega), (row_both fu hrow hp1 hr (show 1 ≤ x.toInt by omega)).1, Option.bind_some]
    unfold FX1_goOn
    obtain ⟨d0, d1, d2, d3, d4, d5, d6, d7, pt', tt', states', e1, e2⟩ := goOn_L (fu := fu) hs hrow hr sus mb hsus hmb hJ hf hok t (by omega) J 0 fu 0 c0 c1 c2 c3 c4 c5 c6 c7 pt tt states (by omega) rfl (by omega) (fun i hi => absurd hi (by omega)) (fun i h1 h2 => hst i h2)
    rw [← hxo] at e1
    rw [e1, Option.bind_some]
    have hoff : offOk (Wo pa sh rs rl ro r op ov tp tv) (t + 1) J states' := by
      intro k hk
      rw [e2 k hk]
      exact (unpack_eq (wkS_ok (paK_ok hs (hok k hk)) hrow hr (t + 1) (by omega))).2.2.2.2.2.2.2
    obtain ⟨ld', la', f1, f2⟩ := part_eq fu (by omega) mb hmb hJ hoff ld la hld
    rw [f1, Option.bind_some]
    exact ih (t + 1) f (x + 1) _ _ _ _ _ _ _ _ _ _ states' ld' la' sz (by omega) (by omega) (by omega) e2 f2
theorem grt_eq (hfu : 10000 ≤ fu) (hs : setOk pa sh) (hrow : rowRel rows rs rl ro rs' rm' ro' R) (p1 p2 : Int32) (hp1 : p1.toInt = r) (hr : r < R) (N : Nat) (hp2 : p2.toInt = N) (hN : N ≤ 200) (sus : Int32) (hsus : sus.toInt = J) (hJ : J ≤ 318) (hf : foundRel J found op ov tp tv) (hok : ∀ k, k < J → susOk (op k) (ov k) (tp k) (tv k)) (pt tt : Nat → Int32) (states : Nat → Int64) (ld la sz : Nat → Int32) :
    ∃ (lN : Nat → Nat) (mb d0 d1 d2 d3 d4 d5 d6 d7 : Int32) (pt' tt' : Nat → Int32) (states' : Nat → Int64) (ld' la' sz' : Nat → Int32), (∀ k, k < J → isLd (Wo pa sh rs rl ro r op ov tp tv) N k (lN k)) ∧ FX1_greatest fu p1 p2 pt tt states ld la sz sus found rows rs rl ro pa sh = some (szN lN J 0 (fun _ => 0) 0, mb, d0, d1, d2, d3, d4, d5, d6, d7, pt', tt', states', ld', la', sz') := by
  have t318 : (318 : Int32).toInt = 318 := rfl
  unfold FX1_greatest
  obtain ⟨st1, a1, a2⟩ := fillL_eq (fu := fu) hfu (fX4_packed_r 0 0 0 0 0 0 0 0) 318 (by omega) states
  obtain ⟨ld1, b1, b2⟩ := fill_eq (fu := fu) hfu 0 318 (by omega) ld
  rw [a1, Option.bind_some, b1, Option.bind_some]
  have hmin : fJ9_min_7cf53_r sus 318 = sus := by
    unfold fJ9_min_7cf53_r
    rw [if_neg (by rw [i_lt]; omega)]
  rw [hmin]
  obtain ⟨lN, d0, d1, d2, d3, d4, d5, d6, d7, pt', tt', states', ld', la', sz', e1, e2⟩ := grt_L hfu hs hrow p1 p2 hp1 hr N hp2 hN sus sus hsus hsus hJ hf hok N 0 fu 1 0 0 0 0 0 0 0 0 pt tt st1 ld1 la sz (by omega) rfl (by omega) (fun i hi => a2 i (by omega)) (fun k h1 h2 => ⟨0, by rw [b2 k (by omega)]; rfl, Nat.zero_le _, fun i g1 g2 => absurd g2 (by omega), fun i hi => absurd hi (by omega)⟩)
  exact ⟨lN, _, d0, d1, d2, d3, d4, d5, d6, d7, pt', tt', states', ld', la', sz', e1, e2⟩
end
