-- deps: 100 110 111 112 113 114 115 116 117 118 119 120 130 131 132 133 200 201 202
/-! ===== values of E ===== -/
def kRel (c s v : Int32) : Prop := (s = 0 ∧ c = v ∧ 0 ≤ v.toInt ∧ v.toInt ≤ 9999) ∨ (s = 1 ∧ ((v = 0 ∧ c = -5) ∨ (v = 1 ∧ c = -4) ∨ (v = 2 ∧ c = -1) ∨ (v = 3 ∧ c = -2) ∨ (v = 4 ∧ c = -3))) ∨ (s = 2 ∧ v = 260 ∧ c = -6) ∨ (s = 2 ∧ kBin c v)
/-- what stands on the pile behind n knots from a on, d stood on it; none: too little -/
def run_ok (K : Nat → Int32) : Nat → Nat → Nat → Option Nat
  | 0, _, d => some d
  | n + 1, a, d => if -5 ≤ K a then run_ok K n (a + 1) (d + 1) else if K a = -6 then (if 1 ≤ d then run_ok K n (a + 1) d else none) else (if 2 ≤ d then run_ok K n (a + 1) (d - 1) else none)
def opd (S : Nat → Int32) (k : Int32) : Int64 := if k < 0 then (fX4_look_r (-1 - k) (S 0) (S 1) (S 2) (S 3) (S 4) (S 5)).toInt64 else k.toInt64
/-- the value behind n knots; none: an ERROR -/
def ev (K S : Nat → Int32) : Nat → Nat → Nat → (Nat → Int64) → Option Int64
  | 0, _, _, st => some (st 0)
  | n + 1, a, d, st => if -5 ≤ K a then ev K S n (a + 1) (d + 1) (vp_updL st d (opd S (K a))) else if K a = -6 then ev K S n (a + 1) d (vp_updL st (d - 1) (bit (st (d - 1) = 0))) else (binv (K a) (st (d - 2)) (st (d - 1))).bind (fun u => ev K S n (a + 1) (d - 1) (vp_updL st (d - 2) u))
theorem t_m5 : (-5 : Int32).toInt = -5 := rfl
theorem t_m6 : (-6 : Int32).toInt = -6 := rfl
theorem t_0 : (0 : Int32).toInt = 0 := rfl
theorem t_1 : (1 : Int32).toInt = 1 := rfl
theorem t_m1 : (-1 : Int32).toInt = -1 := rfl
theorem t_64 : (64 : Int32).toInt = 64 := rfl
theorem kBin_low {c s : Int32} (h : kBin c s) : c.toInt ≤ -7 := by
  rcases h with ⟨rfl, -⟩ | ⟨rfl, -⟩ | ⟨rfl, -⟩ | ⟨rfl, -⟩ | ⟨rfl, -⟩ | ⟨rfl, -⟩ | ⟨rfl, -⟩ | ⟨rfl, -⟩ | ⟨rfl, -⟩ | ⟨rfl, -⟩ | ⟨rfl, -⟩ | ⟨rfl, -⟩ <;> decide
/-- three kinds of knots -/
theorem kRel_kind {c s v : Int32} (h : kRel c s v) : (-5 ≤ c.toInt ∧ c.toInt ≤ 9999 ∧ ¬ s = 2) ∨ (c = -6 ∧ s = 2 ∧ v = 260) ∨ (c.toInt ≤ -7 ∧ s = 2 ∧ kBin c v) := by
  rcases h with ⟨h1, h2, h3, h4⟩ | ⟨h1, h2⟩ | ⟨h1, h2, h3⟩ | ⟨h1, h2⟩
  · left; subst h2; refine ⟨by omega, h4, by rw [h1]; decide⟩
  · left; rcases h2 with ⟨-, rfl⟩ | ⟨-, rfl⟩ | ⟨-, rfl⟩ | ⟨-, rfl⟩ | ⟨-, rfl⟩ <;> exact ⟨by decide, by decide, by rw [h1]; decide⟩
  · right; left; exact ⟨h3, h1, h2⟩
  · right; right; exact ⟨kBin_low h2, h1, h2⟩
theorem toL_toInt (x : Int32) : x.toInt64.toInt = x.toInt := Int32.toInt_toInt64 x
theorem look_rng {S : Nat → Int32} (h : stOk S) (k : Int32) : -1800 ≤ (fX4_look_r k (S 0) (S 1) (S 2) (S 3) (S 4) (S 5)).toInt ∧ (fX4_look_r k (S 0) (S 1) (S 2) (S 3) (S 4) (S 5)).toInt ≤ 1800 := by
  obtain ⟨⟨a1, a2⟩, ⟨b1, b2⟩, ⟨c1, c2⟩, ⟨d1, d2⟩, ⟨e1, e2⟩, ⟨f1, f2⟩, -⟩ := h
  unfold fX4_look_r
  by_cases h0 : k = 0
  · rw [if_pos h0]; omega
  rw [if_neg h0]
  by_cases h1 : k = 1
  · rw [if_pos h1]; omega
  rw [if_neg h1]
  by_cases h2 : k = 2
  · rw [if_pos h2]; omega
  rw [if_neg h2]
  by_cases h3 : k = 3
  · rw [if_pos h3]; omega
  rw [if_neg h3]
  by_cases h4 : k = 4
  · rw [if_pos h4]; omega
  rw [if_neg h4]; omega
theorem opd_val {S : Nat → Int32} (h : stOk S) {k : Int32} (hk : k.toInt ≤ 9999) : isVal (opd S k) := by
  unfold opd
  by_cases h0 : k < 0
  · rw [if_pos h0]
    have := look_rng h (-1 - k)
    unfold isVal; rw [toL_toInt]; omega
  · rw [if_neg h0]
    rw [i_lt, t_0] at h0
    unfold isVal; rw [toL_toInt]; omega
theorem updL_val {st : Nat → Int64} {d e : Nat} {x : Int64} (h : ∀ i, i < d → isVal (st i)) (hx : isVal x) (he : e ≤ d + 1) (hp : d ≤ d) (j : Nat) (hj : j + 1 = e ∨ (j < e ∧ e ≤ d)) : ∀ i, i < e → isVal (vp_updL st j x i) := by
  intro i hi
  unfold vp_updL
  by_cases g : i = j
  · rw [if_pos g]; exact hx
  · rw [if_neg g]; exact h i (by omega)
theorem cls_eval (fu : Nat) (p1 p2 wr : Int32) (K S : Nat → Int32) (hS : stOk S) : ∀ (n a d e f : Nat) (x4 x5 : Int32) (vals : Nat → Int64), x5.toInt = a → x4.toInt = d → p2.toInt = a + n → p2.toInt ≤ wr.toInt → a + n ≤ 64 → d ≤ a → n < f → (∀ k, a ≤ k → k < a + n → ∃ s v, kRel (K k) s v) → run_ok K n a d = some e → 1 ≤ e → (∀ i, i < d → isVal (vals i)) →
    ∃ vals', FX2_workOut_L fu p1 p2 wr K (S 0) (S 1) (S 2) (S 3) (S 4) (S 5) f x4 x5 vals = some ((ev K S n a d vals).getD (-9223372036854775808), vals') := by
  intro n
  induction n with
  | zero =>
    intro a d e f x4 x5 vals h5 h4 hp hw ha hd hf hk hr he hv
    obtain ⟨f, rfl⟩ : ∃ g, f = g + 1 := ⟨f - 1, by omega⟩
    cases hr
    rw [FX2_workOut_L, if_pos (by rw [i_le]; omega), if_neg (by rw [i_le, t_0]; omega)]
    exact ⟨_, rfl⟩
  | succ n ih =>
    intro a d e f x4 x5 vals h5 h4 hp hw ha hd hf hk hr he hv
    obtain ⟨f, rfl⟩ : ∃ g, f = g + 1 := ⟨f - 1, by omega⟩
    have hn5 : x5.toNatClampNeg = a := by have := i_nat (a := x5) (by omega); omega
    have hn4 : x4.toNatClampNeg = d := by have := i_nat (a := x4) (by omega); omega
    have hi5 : pz_inb x5 64 = true := i_inb.mpr (by omega)
    have hs5 := i_add x5 1 (by rw [t_1]; omega) (by rw [t_1]; omega)
    rw [t_1] at hs5
    obtain ⟨s, v, hrel⟩ := hk a (by omega) (by omega)
    have hk2 : ∀ k, a + 1 ≤ k → k < a + 1 + n → ∃ s v, kRel (K k) s v := fun k h1 h2 => hk k (by omega) (by omega)
    rw [FX2_workOut_L, if_neg (show ¬ p2 ≤ x5 by rw [i_le]; omega), if_neg (show ¬ wr ≤ x5 by rw [i_le]; omega), if_pos hi5]
    rw [hn5]
    rw [run_ok] at hr
    rw [ev]
    rcases kRel_kind hrel with ⟨g1, g2, -⟩ | ⟨g1, -, -⟩ | ⟨g1, -, hb⟩
    · have c1 : -5 ≤ K a := by rw [i_le, t_m5]; exact g1
      have c2 : ¬ K a < -5 := by rw [i_lt, t_m5]; omega
      rw [if_pos c1] at hr
      have hs4 := i_add x4 1 (by rw [t_1]; omega) (by rw [t_1]; omega)
      rw [t_1] at hs4
      have hi4 : pz_inb x4 64 = true := i_inb.mpr (by omega)
      rw [if_neg c2, if_neg (show ¬ 64 ≤ x4 by rw [i_le, t_64]; omega), if_pos c1]
      have go := ih (a + 1) (d + 1) e f (x4 + 1) (x5 + 1) (vp_updL vals d (opd S (K a))) (by omega) (by omega) (by omega) hw (by omega) (by omega) (by omega) hk2 hr he (updL_val hv (opd_val hS g2) (by omega) (by omega) d (Or.inl rfl))
      unfold opd at go ⊢
      by_cases c3 : K a < 0
      · rw [if_pos c3, if_pos hi4, hn4]
        rw [if_pos c3] at go ⊢
        exact go
      · rw [if_neg c3, if_pos hi4, hn4]
        rw [if_neg c3] at go ⊢
        exact go
    · have c1 : ¬ -5 ≤ K a := by rw [g1]; decide
      have c2 : K a < -5 := by rw [g1]; decide
      rw [if_neg c1, if_pos g1] at hr
      by_cases hd1 : 1 ≤ d
      · rw [if_pos hd1] at hr
        have hs4 := i_sub x4 1 (by rw [t_1]; omega) (by rw [t_1]; omega)
        rw [t_1] at hs4
        have hi4 : pz_inb (x4 - 1) 64 = true := i_inb.mpr (by omega)
        have hn4' : (x4 - 1).toNatClampNeg = d - 1 := by have := i_nat (a := x4 - 1) (by omega); omega
        rw [if_pos c2, if_neg (show ¬ ¬ K a = -6 from fun z => z g1), if_neg (show ¬ x4 ≤ 0 by rw [i_le, t_0]; omega), if_pos hi4, if_pos hi4, if_pos hi4, hn4', if_neg c1, if_pos g1]
        have go := fun b => ih (a + 1) d e f x4 (x5 + 1) (vp_updL vals (d - 1) (bit b)) (by omega) (by omega) (by omega) hw (by omega) (by omega) (by omega) hk2 hr he (updL_val hv (bit_val b) (by omega) (by omega) (d - 1) (Or.inr ⟨by omega, by omega⟩))
        simp only [lg_cmp_eq]
        by_cases hz : vals (d - 1) = 0
        · rw [if_neg (show ¬ ¬ vals (d - 1) = 0 from fun z => z hz), show decide (vals (d - 1) = 0) = true from decide_eq_true hz]
          exact go true
        · rw [if_pos hz, show decide (vals (d - 1) = 0) = false from decide_eq_false hz]
          exact go false
      · rw [if_neg hd1] at hr; cases hr
    · have c1 : ¬ -5 ≤ K a := by rw [i_le, t_m5]; omega
      have c2 : K a < -5 := by rw [i_lt, t_m5]; omega
      have c3 : ¬ K a = -6 := by rw [i_eq, t_m6]; omega
      rw [if_neg c1, if_neg c3] at hr
      by_cases hd2 : 2 ≤ d
      · rw [if_pos hd2] at hr
        have q1 := t_1
        have qm := t_m1
        generalize (-1 : Int32) = mo at *
        have hs4 := i_add x4 mo (by omega) (by omega)
        generalize x4 + mo = xm at *
        have hs4' := i_sub xm 1 (by omega) (by omega)
        generalize xm - 1 = xk at *
        have hi1 : pz_inb xm 64 = true := i_inb.mpr (by omega)
        have hi2 : pz_inb xk 64 = true := i_inb.mpr (by omega)
        have hn1 : xm.toNatClampNeg = d - 1 := by have := i_nat (a := xm) (by omega); omega
        have hn2 : xk.toNatClampNeg = d - 2 := by have := i_nat (a := xk) (by omega); omega
        rw [if_pos c2, if_pos c3, if_neg (show ¬ x4 ≤ 1 by rw [i_le]; omega), if_pos hi2, if_pos hi1, hn1, hn2, if_neg c1, if_neg c3]
        obtain ⟨w, j1, j2, j3⟩ := joined_eq fu (hv (d - 2) (by omega)) (hv (d - 1) (by omega)) hb
        rw [j1]
        simp only [Option.bind_some, lg_cmp_gt, lg_cmp_ge, l_lt, l_le, l_G, l_mG]
        cases hq : binv (K a) (vals (d - 2)) (vals (d - 1)) with
        | none =>
          rcases j3 hq with g | g
          · rw [if_pos g]; exact ⟨_, rfl⟩
          · rw [if_neg (by omega), if_neg (by omega)]; exact ⟨_, rfl⟩
        | some u =>
          have hu := binv_val (hv (d - 2) (by omega)) (hv (d - 1) (by omega)) hq
          have := j2 u hq
          subst this
          rw [if_neg (by have := hu.2; omega), if_pos hu.1, if_pos hi2]
          exact ih (a + 1) (d - 1) e f xm (x5 + 1) (vp_updL vals (d - 2) w) (by omega) (by omega) (by omega) hw (by omega) (by omega) (by omega) hk2 hr he (updL_val hv hu (by omega) (by omega) (d - 2) (Or.inl (by omega)))
      · rw [if_neg hd2] at hr; cases hr
theorem opd_rel (S : Nat → Int32) {c s v : Int32} (h : kRel c s v) (h2 : ¬ s = 2) : (¬ s = 0 → fX12_nameOf_r v S = opd S c) ∧ (s = 0 → v.toInt64 = opd S c) := by
  rcases h with ⟨h1, h3, h4, h5⟩ | ⟨h1, h3⟩ | ⟨h1, h3, h4⟩ | ⟨h1, h3⟩
  · refine ⟨fun z => absurd h1 z, fun _ => ?_⟩
    subst h3
    unfold opd
    rw [if_neg (by rw [i_lt, t_0]; omega)]
  · refine ⟨fun _ => ?_, fun z => absurd (h1.symm.trans z) (by decide)⟩
    rcases h3 with ⟨rfl, rfl⟩ | ⟨rfl, rfl⟩ | ⟨rfl, rfl⟩ | ⟨rfl, rfl⟩ | ⟨rfl, rfl⟩ <;> rfl
  · exact absurd h1 h2
  · exact absurd h1 h2
theorem ref_eval (fu : Nat) (p1 p2 : Int32) (K ks kv S : Nat → Int32) (hS : stOk S) : ∀ (n a d e f : Nat) (x3 m : Int32) (w : Nat → Int64), x3.toInt = a → m.toInt = d → p2.toInt = a + n → a + n ≤ 64 → d ≤ a → n < f → (∀ k, a ≤ k → k < a + n → kRel (K k) (ks k) (kv k)) → run_ok K n a d = some e → (∀ i, i < d → isVal (w i)) →
    ∃ m' w', FX12_goes_L fu p1 p2 ks kv S f x3 m w = some (if (ev K S n a d w).isSome then 1 else 0, m', w') ∧ ∀ v, ev K S n a d w = some v → w' 0 = v := by
  intro n
  induction n with
  | zero =>
    intro a d e f x3 m w h3 h4 hp ha hd hf hk hr hv
    obtain ⟨f, rfl⟩ : ∃ g, f = g + 1 := ⟨f - 1, by omega⟩
    rw [FX12_goes_L, if_pos (by rw [i_le]; omega)]
    exact ⟨_, _, rfl, fun v hv => Option.some.inj hv⟩
  | succ n ih =>
    intro a d e f x3 m w h3 h4 hp ha hd hf hk hr hv
    obtain ⟨f, rfl⟩ : ∃ g, f = g + 1 := ⟨f - 1, by omega⟩
    have q1 := t_1
    have hn3 : x3.toNatClampNeg = a := by have := i_nat (a := x3) (by omega); omega
    have hn4 : m.toNatClampNeg = d := by have := i_nat (a := m) (by omega); omega
    have hi3 : pz_inb x3 256 = true := i_inb.mpr (by omega)
    have hs3 := i_add x3 1 (by omega) (by omega)
    have hrel := hk a (by omega) (by omega)
    have hk2 : ∀ k, a + 1 ≤ k → k < a + 1 + n → kRel (K k) (ks k) (kv k) := fun k h1 h2 => hk k (by omega) (by omega)
    rw [FX12_goes_L, if_neg (show ¬ p2 ≤ x3 by rw [i_le]; omega), if_pos hi3]
    generalize x3 + 1 = x3' at *
    rw [hn3]
    rw [run_ok] at hr
    rw [ev]
    rcases kRel_kind hrel with ⟨g1, g2, g3⟩ | ⟨g1, g2, g3⟩ | ⟨g1, g2, hb⟩
    · have c1 : -5 ≤ K a := by rw [i_le, t_m5]; exact g1
      rw [if_pos c1] at hr
      have hs4 := i_add m 1 (by omega) (by omega)
      have hi4 : pz_inb m 64 = true := i_inb.mpr (by omega)
      rw [if_pos g3, if_pos hi3, if_pos c1]
      generalize m + 1 = m1 at *
      obtain ⟨o1, o2⟩ := opd_rel S hrel g3
      have go := ih (a + 1) (d + 1) e f x3' m1 (vp_updL w d (opd S (K a))) (by omega) (by omega) (by omega) (by omega) (by omega) (by omega) hk2 hr (updL_val hv (opd_val hS g2) (by omega) (by omega) d (Or.inl rfl))
      by_cases c3 : ks a = 0
      · rw [if_neg (show ¬ ¬ ks a = 0 from fun z => z c3), if_pos hi3, if_pos hi4, hn4, o2 c3]
        exact go
      · rw [if_pos c3, if_pos hi3, if_pos hi4, hn4, o1 c3]
        exact go
    · have c1 : ¬ -5 ≤ K a := by rw [g1]; decide
      rw [if_neg c1, if_pos g1] at hr
      by_cases hd1 : 1 ≤ d
      · rw [if_pos hd1] at hr
        rw [if_neg (show ¬ ¬ ks a = 2 from fun z => z g2), if_pos hi3, if_neg c1, if_pos g1, g3, works_not fu m w d h4 hd1 (by omega), Option.bind_some]
        rw [if_pos (show ¬ (1 : Int32) = 0 by decide)]
        exact ih (a + 1) d e f x3' m (vp_updL w (d - 1) (bit (decide (w (d - 1) = 0)))) (by omega) (by omega) (by omega) (by omega) (by omega) (by omega) hk2 hr (updL_val hv (bit_val _) (by omega) (by omega) (d - 1) (Or.inr ⟨by omega, by omega⟩))
      · rw [if_neg hd1] at hr; cases hr
    · have c1 : ¬ -5 ≤ K a := by rw [i_le, t_m5]; omega
      have c3 : ¬ K a = -6 := by rw [i_eq, t_m6]; omega
      rw [if_neg c1, if_neg c3] at hr
      by_cases hd2 : 2 ≤ d
      · rw [if_pos hd2] at hr
        rw [if_neg (show ¬ ¬ ks a = 2 from fun z => z g2), if_pos hi3, if_neg c1, if_neg c3]
        obtain ⟨j1, j2⟩ := works_bin fu m w d h4 hd2 (by omega) rfl rfl (hv (d - 2) (by omega)) (hv (d - 1) (by omega)) hb
        have hs4 := i_sub m 1 (by omega) (by omega)
        generalize m - 1 = m1 at *
        cases hq : binv (K a) (w (d - 2)) (w (d - 1)) with
        | none =>
          obtain ⟨w', e1⟩ := j2 hq
          rw [e1, Option.bind_some, if_neg (show ¬ ¬ (0 : Int32) = 0 from fun z => z rfl)]
          exact ⟨_, _, rfl, fun v hv => by cases hv⟩
        | some u =>
          have hu := binv_val (hv (d - 2) (by omega)) (hv (d - 1) (by omega)) hq
          rw [j1 u hq, Option.bind_some, if_pos (show ¬ (1 : Int32) = 0 by decide)]
          exact ih (a + 1) (d - 1) e f x3' m1 (vp_updL w (d - 2) u) (by omega) (by omega) (by omega) (by omega) (by omega) (by omega) hk2 hr (updL_val hv hu (by omega) (by omega) (d - 2) (Or.inl (by omega)))
      · rw [if_neg hd2] at hr; cases hr
/-- only what lies on the pile matters -/
theorem ev_congr (K S : Nat → Int32) : ∀ (n a d e : Nat) (st st' : Nat → Int64), run_ok K n a d = some e → 1 ≤ e → (∀ i, i < d → st i = st' i) → ev K S n a d st = ev K S n a d st' := by
  intro n
  induction n with
  | zero =>
    intro a d e st st' hr he h
    cases hr
    rw [ev, ev, h 0 (by omega)]
  | succ n ih =>
    intro a d e st st' hr he h
    rw [run_ok] at hr
    rw [ev, ev]
    have up : ∀ (j : Nat) (x : Int64) (m : Nat), m ≤ d ∨ (j = d ∧ m ≤ d + 1) → ∀ i, i < m → vp_updL st j x i = vp_updL st' j x i := by
      intro j x m hm i hi
      unfold vp_updL
      by_cases g : i = j
      · rw [if_pos g, if_pos g]
      · rw [if_neg g, if_neg g]; exact h i (by omega)
    by_cases c1 : -5 ≤ K a
    · rw [if_pos c1] at hr
      rw [if_pos c1, if_pos c1]
      exact ih _ _ e _ _ hr he (up d _ _ (Or.inr ⟨rfl, by omega⟩))
    · rw [if_neg c1] at hr
      rw [if_neg c1, if_neg c1]
      by_cases c2 : K a = -6
      · rw [if_pos c2] at hr
        rw [if_pos c2, if_pos c2]
        by_cases hd : 1 ≤ d
        · rw [if_pos hd] at hr
          rw [h (d - 1) (by omega)]
          exact ih _ _ e _ _ hr he (up (d - 1) _ _ (Or.inl (by omega)))
        · rw [if_neg hd] at hr; cases hr
      · rw [if_neg c2] at hr
        rw [if_neg c2, if_neg c2]
        by_cases hd : 2 ≤ d
        · rw [if_pos hd] at hr
          rw [h (d - 1) (by omega), h (d - 2) (by omega)]
          congr 1
          funext u
          exact ih _ _ e _ _ hr he (up (d - 2) _ _ (Or.inl (by omega)))
        · rw [if_neg hd] at hr; cases hr
