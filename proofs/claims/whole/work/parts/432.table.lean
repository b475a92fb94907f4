/-! ===== a B over the GEARS: the class's table, the reference's pile ===== -/
def updB (f : Nat → Bool) (k : Nat) (x : Bool) : Nat → Bool := fun i => if i = k then x else f i
/-- the value of n knots from a on in the GEARS s, d stand on the pile -/
def gv (K : Nat → Int32) (s : Nat) : Nat → Nat → Nat → (Nat → Bool) → Bool
  | 0, _, d, p => decide (d = 0) || p 0
  | n + 1, a, d, p => if 0 ≤ K a then gv K s n (a + 1) (d + 1) (updB p d (s.testBit (K a).toNatClampNeg)) else if K a = -6 then gv K s n (a + 1) d (updB p (d - 1) (!p (d - 1))) else gv K s n (a + 1) (d - 1) (updB p (d - 2) (if K a = -8 then p (d - 2) && p (d - 1) else p (d - 2) || p (d - 1)))
/-- a knot of a B: the class's, the reference's sort and value -/
def gRel (c s v : Int32) : Prop := (s = 3 ∧ c = v ∧ 0 ≤ v.toInt ∧ v.toInt ≤ 5) ∨ (s = 2 ∧ v = 260 ∧ c = -6) ∨ (s = 2 ∧ v = 261 ∧ c = -8) ∨ (s = 2 ∧ v = 262 ∧ c = -7)
theorem gv_congr (K : Nat → Int32) (s : Nat) : ∀ (n a d e : Nat) (p q : Nat → Bool), run_ok K n a d = some e → (∀ k, a ≤ k → k < a + n → ∃ s v, gRel (K k) s v) → (∀ i, i < d → p i = q i) → gv K s n a d p = gv K s n a d q := by
  intro n
  induction n with
  | zero =>
    intro a d e p q hr hk h
    rw [gv, gv]
    by_cases g : d = 0
    · rw [decide_eq_true g]; rfl
    · rw [h 0 (by omega)]
  | succ n ih =>
    intro a d e p q hr hk h
    have hk2 : ∀ k, a + 1 ≤ k → k < a + 1 + n → ∃ s v, gRel (K k) s v := fun k h1 h2 => hk k (by omega) (by omega)
    obtain ⟨so, v, hg⟩ := hk a (by omega) (by omega)
    rw [gv, gv]
    rw [run_ok] at hr
    by_cases c1 : 0 ≤ K a
    · rw [if_pos c1, if_pos c1]
      have c2 : -5 ≤ K a := by
        have := t_m5
        have q0 := t_0
        rw [i_le] at c1 ⊢
        omega
      rw [if_pos c2] at hr
      refine ih _ _ e _ _ hr hk2 (fun i hi => ?_)
      unfold updB
      by_cases g : i = d
      · rw [if_pos g, if_pos g]
      · rw [if_neg g, if_neg g]; exact h i (by omega)
    · rw [if_neg c1, if_neg c1]
      by_cases c2 : K a = -6
      · rw [if_pos c2, if_pos c2]
        rw [if_neg (show ¬ -5 ≤ K a by rw [c2]; decide), if_pos c2] at hr
        by_cases hd : 1 ≤ d
        · rw [if_pos hd] at hr
          refine ih _ _ e _ _ hr hk2 (fun i hi => ?_)
          unfold updB
          by_cases g : i = d - 1
          · rw [if_pos g, if_pos g, h (d - 1) (by omega)]
          · rw [if_neg g, if_neg g]; exact h i (by omega)
        · rw [if_neg hd] at hr; cases hr
      · rw [if_neg c2, if_neg c2]
        have c3 : ¬ -5 ≤ K a := by
          rcases hg with ⟨g1, g2, g3, g4⟩ | ⟨g1, g2, g3⟩ | ⟨g1, g2, g3⟩ | ⟨g1, g2, g3⟩
          · have q0 := t_0
            exfalso
            apply c1
            rw [i_le, g2]
            omega
          · exact absurd g3 c2
          · rw [g3]; decide
          · rw [g3]; decide
        rw [if_neg c3, if_neg c2] at hr
        by_cases hd : 2 ≤ d
        · rw [if_pos hd] at hr
          refine ih _ _ e _ _ hr hk2 (fun i hi => ?_)
          unfold updB
          by_cases g : i = d - 2
          · rw [if_pos g, if_pos g, h (d - 1) (by omega), h (d - 2) (by omega)]
          · rw [if_neg g, if_neg g]; exact h i (by omega)
        · rw [if_neg hd] at hr; cases hr
theorem cls_table (fu : Nat) (p1 p2 wr : Int32) (K : Nat → Int32) : ∀ (n a d e f : Nat) (x3 x4 : Int32) (vals : Nat → Int64), x4.toInt = a → x3.toInt = d → p2.toInt = a + n → p2.toInt ≤ wr.toInt → a + n ≤ 64 → d ≤ a → n < f → (∀ k, a ≤ k → k < a + n → ∃ s v, gRel (K k) s v) → run_ok K n a d = some e →
    ∃ (t : Int64) (vals' : Nat → Int64), FX2_tableOf_L fu p1 p2 wr K f x3 x4 vals = some (t, vals') ∧ ∀ s, s < 64 → tb t s = gv K s n a d (fun i => tb (vals i) s) := by
  have q0 := t_0
  have q1 := t_1
  have t6 : (Int32.ofNat 6).toInt = 6 := rfl
  have t64 := t_64
  intro n
  induction n with
  | zero =>
    intro a d e f x3 x4 vals h4 h3 hp hw ha hd hf hk hr
    obtain ⟨f, rfl⟩ : ∃ g, f = g + 1 := ⟨f - 1, by omega⟩
    rw [FX2_tableOf_L, if_pos (by rw [i_le]; omega)]
    by_cases g : d = 0
    · rw [if_pos (by rw [i_le]; omega)]
      refine ⟨_, _, rfl, fun s hs => ?_⟩
      rw [gv, decide_eq_true g, tb_m1 s hs]
      rfl
    · rw [if_neg (by rw [i_le]; omega)]
      refine ⟨_, _, rfl, fun s hs => ?_⟩
      rw [gv, decide_eq_false g]
      rfl
  | succ n ih =>
    intro a d e f x3 x4 vals h4 h3 hp hw ha hd hf hk hr
    obtain ⟨f, rfl⟩ : ∃ g, f = g + 1 := ⟨f - 1, by omega⟩
    have hn4 : x4.toNatClampNeg = a := by have := i_nat (a := x4) (by omega); omega
    have hn3 : x3.toNatClampNeg = d := by have := i_nat (a := x3) (by omega); omega
    have hi4 : pz_inb x4 64 = true := i_inb.mpr (by omega)
    have hs4 := i_add x4 1 (by omega) (by omega)
    obtain ⟨so, v, hrel⟩ := hk a (by omega) (by omega)
    have hk2 : ∀ k, a + 1 ≤ k → k < a + 1 + n → ∃ s v, gRel (K k) s v := fun k h1 h2 => hk k (by omega) (by omega)
    rw [FX2_tableOf_L, if_neg (show ¬ p2 ≤ x4 by rw [i_le]; omega), if_neg (show ¬ wr ≤ x4 by rw [i_le]; omega), if_pos hi4]
    rw [hn4]
    rw [run_ok] at hr
    rcases hrel with ⟨g1, g2, g3, g4⟩ | ⟨g1, g2, g3⟩ | hb
    · rw [← g2] at g3 g4
      have c1 : -5 ≤ K a := by rw [i_le, t_m5]; omega
      have c0 : 0 ≤ K a := by rw [i_le]; omega
      rw [if_pos c1] at hr
      have hs3 := i_add x3 1 (by omega) (by omega)
      have hi3 : pz_inb x3 64 = true := i_inb.mpr (by omega)
      have hik : pz_inb (K a) 6 = true := i_inb.mpr (by omega)
      have hkn := i_nat (a := K a) (by omega)
      rw [if_neg (show ¬ K a < 0 by rw [i_lt]; omega), if_neg (show ¬ Int32.ofNat 6 ≤ K a by rw [i_le]; omega), if_neg (show ¬ 64 ≤ x3 by rw [i_le]; omega), if_pos hik, if_pos hi3, hn3]
      obtain ⟨t, vals', e1, e2⟩ := ih (a + 1) (d + 1) e f (x3 + 1) (x4 + 1) (vp_updL vals d (ro4 (K a).toNatClampNeg)) (by omega) (by omega) (by omega) hw (by omega) (by omega) (by omega) hk2 hr
      refine ⟨t, vals', e1, fun s hs => ?_⟩
      rw [e2 s hs, gv, if_pos c0]
      refine gv_congr K s _ _ _ e _ _ hr hk2 (fun i hi => ?_)
      unfold vp_updL updB
      by_cases g : i = d
      · rw [if_pos g, if_pos g, ro4_bit _ (by omega) s hs]
      · rw [if_neg g, if_neg g]
    · have c1 : ¬ -5 ≤ K a := by rw [g3]; decide
      have c0 : ¬ 0 ≤ K a := by rw [g3]; decide
      rw [if_neg c1, if_pos g3] at hr
      by_cases hd1 : 1 ≤ d
      · rw [if_pos hd1] at hr
        have hs3 := i_sub x3 1 (by omega) (by omega)
        have hi3 : pz_inb (x3 - 1) 64 = true := i_inb.mpr (by omega)
        have hn3' : (x3 - 1).toNatClampNeg = d - 1 := by have := i_nat (a := x3 - 1) (by omega); omega
        rw [if_pos (show K a < 0 by rw [g3]; decide), if_neg (show ¬ ¬ K a = -6 from fun z => z g3), if_neg (show ¬ x3 ≤ 0 by rw [i_le]; omega), if_pos hi3, if_pos hi3, hn3']
        obtain ⟨t, vals', e1, e2⟩ := ih (a + 1) d e f x3 (x4 + 1) (vp_updL vals (d - 1) (vals (d - 1) ^^^ (-1))) (by omega) (by omega) (by omega) hw (by omega) (by omega) (by omega) hk2 hr
        refine ⟨t, vals', e1, fun s hs => ?_⟩
        rw [e2 s hs, gv, if_neg c0, if_pos g3]
        refine gv_congr K s _ _ _ e _ _ hr hk2 (fun i hi => ?_)
        unfold vp_updL updB
        by_cases g : i = d - 1
        · rw [if_pos g, if_pos g, tb_not _ s hs]
        · rw [if_neg g, if_neg g]
      · rw [if_neg hd1] at hr; cases hr
    · have hc : K a = -8 ∨ K a = -7 := by
        rcases hb with ⟨b1, b2, b3⟩ | ⟨b1, b2, b3⟩
        · exact Or.inl b3
        · exact Or.inr b3
      have c1 : ¬ -5 ≤ K a := by rcases hc with z | z <;> (rw [z]; decide)
      have c0 : ¬ 0 ≤ K a := by rcases hc with z | z <;> (rw [z]; decide)
      have c6 : ¬ K a = -6 := by rcases hc with z | z <;> (rw [z]; decide)
      have cl : K a < 0 := by rcases hc with z | z <;> (rw [z]; decide)
      rw [if_neg c1, if_neg c6] at hr
      by_cases hd2 : 2 ≤ d
      · rw [if_pos hd2] at hr
        have qm := t_m1
        rw [if_pos cl, if_pos c6, if_neg (show ¬ x3 ≤ 1 by rw [i_le]; omega)]
        have key : ∀ (xm xk : Int32), xm = x3 + (-1) → xk = xm - 1 → ∃ (t : Int64) (vals' : Nat → Int64), (if pz_inb xk 64 = true then (if ¬ (K a) = (-8) then (if pz_inb xm 64 = true then (if pz_inb xk 64 = true then (FX2_tableOf_L fu p1 p2 wr K f xm (x4 + 1) (vp_updL vals xk.toNatClampNeg ((vals xk.toNatClampNeg) ||| (vals xm.toNatClampNeg)))) else none) else none) else (if pz_inb xm 64 = true then (if pz_inb xk 64 = true then (FX2_tableOf_L fu p1 p2 wr K f xm (x4 + 1) (vp_updL vals xk.toNatClampNeg ((vals xk.toNatClampNeg) &&& (vals xm.toNatClampNeg)))) else none) else none)) else none) = some (t, vals') ∧ ∀ s, s < 64 → tb t s = gv K s (n + 1) a d (fun i => tb (vals i) s) := by
          intro xm xk hxm hxk
          generalize (-1 : Int32) = mo at hxm qm
          have hs3 := i_add x3 mo (by omega) (by omega)
          rw [← hxm] at hs3
          have hs3' := i_sub xm 1 (by omega) (by omega)
          rw [← hxk] at hs3'
          have hi1 : pz_inb xm 64 = true := i_inb.mpr (by omega)
          have hi2 : pz_inb xk 64 = true := i_inb.mpr (by omega)
          have hn1 : xm.toNatClampNeg = d - 1 := by have := i_nat (a := xm) (by omega); omega
          have hn2 : xk.toNatClampNeg = d - 2 := by have := i_nat (a := xk) (by omega); omega
          rw [if_pos hi2, if_pos hi1, if_pos hi2, hn1, hn2]
          by_cases c8 : K a = -8
          · rw [if_neg (show ¬ ¬ K a = -8 from fun z => z c8), if_pos hi1, if_pos hi2]
            obtain ⟨t, vals', e1, e2⟩ := ih (a + 1) (d - 1) e f xm (x4 + 1) (vp_updL vals (d - 2) (vals (d - 2) &&& vals (d - 1))) (by omega) (by omega) (by omega) hw (by omega) (by omega) (by omega) hk2 hr
            refine ⟨t, vals', e1, fun s hs => ?_⟩
            rw [e2 s hs, gv, if_neg c0, if_neg c6, if_pos c8]
            refine gv_congr K s _ _ _ e _ _ hr hk2 (fun i hi => ?_)
            unfold vp_updL updB
            by_cases g : i = d - 2
            · rw [if_pos g, if_pos g, tb_and]
            · rw [if_neg g, if_neg g]
          · rw [if_pos c8]
            obtain ⟨t, vals', e1, e2⟩ := ih (a + 1) (d - 1) e f xm (x4 + 1) (vp_updL vals (d - 2) (vals (d - 2) ||| vals (d - 1))) (by omega) (by omega) (by omega) hw (by omega) (by omega) (by omega) hk2 hr
            refine ⟨t, vals', e1, fun s hs => ?_⟩
            rw [e2 s hs, gv, if_neg c0, if_neg c6, if_neg c8]
            refine gv_congr K s _ _ _ e _ _ hr hk2 (fun i hi => ?_)
            unfold vp_updL updB
            by_cases g : i = d - 2
            · rw [if_pos g, if_pos g, tb_or]
            · rw [if_neg g, if_neg g]
        exact key _ _ rfl rfl
      · rw [if_neg hd2] at hr; cases hr
def bI (b : Bool) : Int32 := if b then 1 else 0
theorem nar_0 : vp_nar .boolean 0 = 0 := by decide +kernel
theorem nar_1 : vp_nar .boolean 1 = 1 := by decide +kernel
theorem bI_0 (b : Bool) : bI b = 0 ↔ b = false := by cases b <;> decide
theorem ref_table (fu : Nat) (p1 p2 p3 : Int32) (K ks kv : Nat → Int32) (s : Nat) (hs : p3.toInt = s) (hs' : s < 64) : ∀ (n a d e f : Nat) (x4 x5 : Int32) (pile : Nat → Int32) (P : Nat → Bool), x5.toInt = 64 + a → x4.toInt = d → p2.toInt = a + n → a + n ≤ 64 → d ≤ a → n < f → (∀ k, a ≤ k → k < a + n → gRel (K k) (ks (64 + k)) (kv (64 + k))) → run_ok K n a d = some e → (∀ i, i < d → pile i = bI (P i)) →
    ∃ (pile' : Nat → Int32), FX12_holdsBy_L fu p1 p2 p3 ks kv f x4 x5 pile = some (bI (gv K s n a d P), pile') := by
  have q0 := t_0
  have q1 := t_1
  have t64 := t_64
  intro n
  induction n with
  | zero =>
    intro a d e f x4 x5 pile P h5 h4 hp ha hd hf hk hr hP
    obtain ⟨f, rfl⟩ : ∃ g, f = g + 1 := ⟨f - 1, by omega⟩
    have hadd := i_add 64 p2 (by omega) (by omega)
    rw [FX12_holdsBy_L, if_pos (by rw [i_le]; omega), gv]
    by_cases g : d = 0
    · rw [if_pos (by rw [i_eq]; omega), decide_eq_true g]
      exact ⟨_, rfl⟩
    · rw [if_neg (by rw [i_eq]; omega), decide_eq_false g, hP 0 (by omega)]
      cases P 0
      · rw [if_pos (show bI false = 0 from rfl)]; exact ⟨_, rfl⟩
      · rw [if_neg (by decide)]; exact ⟨_, rfl⟩
  | succ n ih =>
    intro a d e f x4 x5 pile P h5 h4 hp ha hd hf hk hr hP
    obtain ⟨f, rfl⟩ : ∃ g, f = g + 1 := ⟨f - 1, by omega⟩
    have hadd := i_add 64 p2 (by omega) (by omega)
    have hn5 : x5.toNatClampNeg = 64 + a := by have := i_nat (a := x5) (by omega); omega
    have hn4 : x4.toNatClampNeg = d := by have := i_nat (a := x4) (by omega); omega
    have hi5 : pz_inb x5 256 = true := i_inb.mpr (by omega)
    have hs5 := i_add x5 1 (by omega) (by omega)
    have hrel := hk a (by omega) (by omega)
    have hk2 : ∀ k, a + 1 ≤ k → k < a + 1 + n → gRel (K k) (ks (64 + k)) (kv (64 + k)) := fun k h1 h2 => hk k (by omega) (by omega)
    rw [FX12_holdsBy_L, if_neg (show ¬ 64 + p2 ≤ x5 by rw [i_le]; omega), if_pos hi5, hn5]
    rw [run_ok] at hr
    rw [gv]
    rcases hrel with ⟨g1, g2, g3, g4⟩ | ⟨g1, g2, g3⟩ | hb
    · have c1 : -5 ≤ K a := by rw [i_le, t_m5, g2]; omega
      have c0 : 0 ≤ K a := by rw [i_le, g2]; omega
      rw [if_pos c1] at hr
      rw [if_pos c0, if_neg (show ¬ ¬ ks (64 + a) = 3 from fun z => z g1), if_pos hi5]
      have hs4 := i_add x4 1 (by omega) (by omega)
      have hi4 : pz_inb x4 64 = true := i_inb.mpr (by omega)
      have hkn := i_nat (a := kv (64 + a)) (by omega)
      have hbit := ref_bit (x := p3) (p := kv (64 + a)) hs hs' (j := (kv (64 + a)).toNatClampNeg) (by omega) (by omega)
      have go := fun b => ih (a + 1) (d + 1) e f (x4 + 1) (x5 + 1) (upd pile d (bI b)) (updB P d b) (by omega) (by omega) (by omega) (by omega) (by omega) (by omega) hk2 hr (fun i hi => by
        unfold upd updB
        by_cases g : i = d
        · rw [if_pos g, if_pos g]
        · rw [if_neg g, if_neg g]; exact hP i (by omega))
      rw [g2]
      cases hq : Nat.testBit s (kv (64 + a)).toNatClampNeg with
      | false =>
        rw [if_pos (show ¬ _ = (1 : Int32) from fun z => by rw [hbit.mp z] at hq; cases hq), if_pos hi4, hn4, nar_0]
        exact go false
      | true =>
        rw [if_neg (show ¬ ¬ _ = (1 : Int32) from fun z => z (hbit.mpr hq)), if_pos hi4, hn4, nar_1]
        exact go true
    · have c1 : ¬ -5 ≤ K a := by rw [g3]; decide
      have c0 : ¬ 0 ≤ K a := by rw [g3]; decide
      rw [if_neg c1, if_pos g3] at hr
      rw [if_neg c0, if_pos g3]
      rw [if_pos (show ¬ ks (64 + a) = 3 by rw [g1]; decide), if_pos hi5, if_neg (show ¬ ¬ kv (64 + a) = 260 from fun z => z g2)]
      by_cases hd1 : 1 ≤ d
      · rw [if_pos hd1] at hr
        have hs4 := i_sub x4 1 (by omega) (by omega)
        have hi4 : pz_inb (x4 - 1) 64 = true := i_inb.mpr (by omega)
        have hn4' : (x4 - 1).toNatClampNeg = d - 1 := by have := i_nat (a := x4 - 1) (by omega); omega
        have go := fun b => ih (a + 1) d e f x4 (x5 + 1) (upd pile (d - 1) (bI b)) (updB P (d - 1) b) (by omega) (by omega) (by omega) (by omega) (by omega) (by omega) hk2 hr (fun i hi => by
          unfold upd updB
          by_cases g : i = d - 1
          · rw [if_pos g, if_pos g]
          · rw [if_neg g, if_neg g]; exact hP i (by omega))
        rw [if_pos hi4, hn4', hP (d - 1) (by omega)]
        cases hq : P (d - 1) with
        | false =>
          rw [if_neg (show ¬ ¬ bI false = 0 from fun z => z rfl), if_pos hi4, nar_1]
          exact go true
        | true =>
          rw [if_pos (show ¬ bI true = 0 by decide), if_pos hi4, nar_0]
          exact go false
      · rw [if_neg hd1] at hr; cases hr
    · have hc : (K a = -8 ∧ kv (64 + a) = 261) ∨ (K a = -7 ∧ kv (64 + a) = 262) := by
        rcases hb with ⟨b1, b2, b3⟩ | ⟨b1, b2, b3⟩
        · exact Or.inl ⟨b3, b2⟩
        · exact Or.inr ⟨b3, b2⟩
      have hso : ks (64 + a) = 2 := by
        rcases hb with ⟨b1, b2, b3⟩ | ⟨b1, b2, b3⟩
        · exact b1
        · exact b1
      have c1 : ¬ -5 ≤ K a := by rcases hc with ⟨z, -⟩ | ⟨z, -⟩ <;> (rw [z]; decide)
      have c0 : ¬ 0 ≤ K a := by rcases hc with ⟨z, -⟩ | ⟨z, -⟩ <;> (rw [z]; decide)
      have c6 : ¬ K a = -6 := by rcases hc with ⟨z, -⟩ | ⟨z, -⟩ <;> (rw [z]; decide)
      have v6 : ¬ kv (64 + a) = 260 := by rcases hc with ⟨-, z⟩ | ⟨-, z⟩ <;> (rw [z]; decide)
      rw [if_neg c1, if_neg c6] at hr
      rw [if_neg c0, if_neg c6]
      rw [if_pos (show ¬ ks (64 + a) = 3 by rw [hso]; decide), if_pos hi5, if_pos v6, if_pos hi5]
      by_cases hd2 : 2 ≤ d
      · rw [if_pos hd2] at hr
        have qm := t_m1
        generalize (-1 : Int32) = mo at *
        have hs4 := i_add x4 mo (by omega) (by omega)
        generalize x4 + mo = xm at *
        have hs4' := i_sub xm 1 (by omega) (by omega)
        generalize xm - 1 = xk at *
        have hi1 : pz_inb xm 64 = true := i_inb.mpr (by omega)
        have hi2 : pz_inb xk 64 = true := i_inb.mpr (by omega)
        have hn1 : xm.toNatClampNeg = d - 1 := by have := i_nat (a := xm) (by omega); omega
        have hn2 : xk.toNatClampNeg = d - 2 := by have := i_nat (a := xk) (by omega); omega
        have go := fun b => ih (a + 1) (d - 1) e f xm (x5 + 1) (upd pile (d - 2) (bI b)) (updB P (d - 2) b) (by omega) (by omega) (by omega) (by omega) (by omega) (by omega) hk2 hr (fun i hi => by
          unfold upd updB
          by_cases g : i = d - 2
          · rw [if_pos g, if_pos g]
          · rw [if_neg g, if_neg g]; exact hP i (by omega))
        have hA := hP (d - 2) (by omega)
        have hB := hP (d - 1) (by omega)
        have z1 : ¬ bI true = 0 := by decide
        have z0 : bI false = 0 := rfl
        rcases hc with ⟨k1, k2⟩ | ⟨k1, k2⟩
        · rw [if_neg (show ¬ ¬ kv (64 + a) = 261 from fun z => z k2), if_pos hi2, if_pos k1, hn2, hn1, hA]
          cases hq : P (d - 2) with
          | false =>
            rw [if_pos z0, if_pos hi2, nar_0]
            exact go false
          | true =>
            rw [if_neg z1, if_pos hi1, hB]
            cases hq2 : P (d - 1) with
            | false =>
              rw [if_pos z0, if_pos hi2, nar_0]
              exact go false
            | true =>
              rw [if_neg z1, if_pos hi2, nar_1]
              exact go true
        · rw [if_pos (show ¬ kv (64 + a) = 261 by rw [k2]; decide), if_pos hi2, if_neg (show ¬ K a = -8 by rw [k1]; decide), hn2, hn1, hA]
          cases hq : P (d - 2) with
          | true =>
            rw [if_pos z1, if_pos hi2, nar_1]
            exact go true
          | false =>
            rw [if_neg (show ¬ ¬ bI false = 0 from fun z => z z0), if_pos hi1, hB]
            cases hq2 : P (d - 1) with
            | false =>
              rw [if_pos z0, if_pos hi2, nar_0]
              exact go false
            | true =>
              rw [if_neg z1, if_pos hi2, nar_1]
              exact go true
      · rw [if_neg hd2] at hr; cases hr
