/-! ===== the reference's suspects are such as can be ===== -/
def okPV (p v : Int32) : Prop := ∃ a : Nat, p.toInt = a ∧ a < 5 ∧ (ro0 a).toInt ≤ v.toInt ∧ v.toInt ≤ (ro1 a).toInt
def susOk (p v q w : Int32) : Prop := (p = -1 ∧ q = -1 ∧ v = -1 ∧ w = -1) ∨ (okPV p v ∧ q = -1 ∧ w = -1) ∨ (okPV p v ∧ okPV q w ∧ p.toInt < q.toInt)
def susInv (sus : Int32) (op ov tp tv : Nat → Int32) : Prop := 0 ≤ sus.toInt ∧ sus.toInt ≤ 400 ∧ ∀ k : Nat, (k : Int) < sus.toInt → susOk (op k) (ov k) (tp k) (tv k)
theorem adds_rng {fu : Nat} {p v q w sus : Int32} {op ov tp tv : Nat → Int32} {y : Int32 × (Nat → Int32) × (Nat → Int32) × (Nat → Int32) × (Nat → Int32)} (hi : susInv sus op ov tp tv) (hk : susOk p v q w) (h : FX12_adds fu p v q w sus op ov tp tv = some y) : susInv y.1 y.2.1 y.2.2.1 y.2.2.2.1 y.2.2.2.2 := by
  unfold FX12_adds at h
  obtain ⟨g1, h⟩ := pz_gd h
  rw [if_pos g1, if_pos g1, if_pos g1] at h
  have e := Option.some.inj h
  subst e
  obtain ⟨i1, i2, i3⟩ := hi
  have g2 := i_inb.mp g1
  have q1 := t_1
  have hs := i_add sus 1 (by omega) (by omega)
  have hn := i_nat (a := sus) (by omega)
  refine ⟨by show 0 ≤ (sus + 1).toInt; omega, by show (sus + 1).toInt ≤ 400; omega, fun k hk2 => ?_⟩
  have hk3 : (k : Int) < (sus + 1).toInt := hk2
  show susOk (upd op sus.toNatClampNeg p k) (upd ov sus.toNatClampNeg v k) (upd tp sus.toNatClampNeg q k) (upd tv sus.toNatClampNeg w k)
  unfold upd
  by_cases g : k = sus.toNatClampNeg
  · rw [if_pos g, if_pos g, if_pos g, if_pos g]; exact hk
  · rw [if_neg g, if_neg g, if_neg g, if_neg g]; exact i3 k (by omega)
section
variable {fu : Nat} {wl mk d off : Int32} {ks kv wf wt ot sh sm om : Nat → Int32}
theorem pairs_rng (p3 p4 : Int32) (a b : Nat) (h3 : p3.toInt = a) (ha : a < 5) (h4 : p4.toInt = b) (hb : b < 5) (hab : a < b) : ∀ (n tag : Nat) (v5 v6 v7 v8 wm sus : Int32) (part now : Nat → Int32) (w : Nat → Int64) (op ov tp tv : Nat → Int32) (y : Int32 × Int32 × (Nat → Int32) × (Nat → Int32) × (Nat → Int64) × (Nat → Int32) × (Nat → Int32) × (Nat → Int32) × (Nat → Int32)),
    FX12_pairs_L fu d off p3 p4 wl mk ks kv wf wt ot sh sm om n tag v5 v6 v7 v8 wm sus part now w op ov tp tv = some y → susInv sus op ov tp tv → (ro0 a).toInt ≤ v7.toInt → (tag = 1 → v7.toInt ≤ (ro1 a).toInt ∧ (ro0 b).toInt ≤ v8.toInt) → susInv y.2.1 y.2.2.2.2.2.1 y.2.2.2.2.2.2.1 y.2.2.2.2.2.2.2.1 y.2.2.2.2.2.2.2.2 := by
  have q1 := t_1
  obtain ⟨r1, r2, r3, r4, r5, r6, r7⟩ := rng_eq h3 ha
  obtain ⟨s1, s2, s3, s4, s5, s6, s7⟩ := rng_eq h4 hb
  intro n
  induction n with
  | zero =>
    intro tag v5 v6 v7 v8 wm sus part now w op ov tp tv y h
    rw [FX12_pairs_L] at h
    cases h
  | succ n ih =>
    intro tag v5 v6 v7 v8 wm sus part now w op ov tp tv y h hi h7 ht
    rw [FX12_pairs_L, r2, s2, s1, r3, s3] at h
    by_cases t0 : tag = 0
    · rw [if_pos t0] at h
      by_cases c1 : ro1 a < v7
      · rw [if_pos c1, if_pos r4, if_pos s4] at h
        have e := Option.some.inj h
        subst e
        exact hi
      · rw [if_neg c1] at h
        rw [i_lt] at c1
        exact ih 1 _ _ _ _ _ _ _ _ _ _ _ _ _ _ h hi h7 (fun _ => ⟨by omega, by omega⟩)
    · rw [if_neg t0] at h
      by_cases t1 : tag = 1
      · rw [if_pos t1] at h
        obtain ⟨g7, g8⟩ := ht t1
        have hs7 := i_add v7 1 (by omega) (by omega)
        by_cases c1 : ro1 b < v8
        · rw [if_pos c1] at h
          exact ih 0 _ _ _ _ _ _ _ _ _ _ _ _ _ _ h hi (by omega) (fun z => absurd z (by omega))
        · rw [if_neg c1, if_pos r4, if_pos s4] at h
          rw [i_lt] at c1
          have hs8 := i_add v8 1 (by omega) (by omega)
          have hnx : (1 = 1 → v7.toInt ≤ (ro1 a).toInt ∧ (ro0 b).toInt ≤ (v8 + 1).toInt) := fun _ => ⟨g7, by omega⟩
          by_cases c2 : v7 = v5
          · rw [if_pos c2] at h
            exact ih 1 _ _ _ _ _ _ _ _ _ _ _ _ _ _ h hi h7 hnx
          · rw [if_neg c2] at h
            by_cases c3 : v8 = v6
            · rw [if_pos c3] at h
              exact ih 1 _ _ _ _ _ _ _ _ _ _ _ _ _ _ h hi h7 hnx
            · rw [if_neg c3] at h
              obtain ⟨z, -, h⟩ := pz_bd h
              by_cases c4 : z.1 = 0
              · rw [if_pos c4] at h
                exact ih 1 _ _ _ _ _ _ _ _ _ _ _ _ _ _ h hi h7 hnx
              · rw [if_neg c4] at h
                obtain ⟨u, hu, h⟩ := pz_bd h
                have hi2 := adds_rng hi (Or.inr (Or.inr ⟨⟨a, h3, ha, h7, g7⟩, ⟨b, h4, hb, g8, by omega⟩, by omega⟩)) hu
                exact ih 1 _ _ _ _ _ _ _ _ _ _ _ _ _ _ h hi2 h7 hnx
      · rw [if_neg t1] at h
        cases h
theorem pairs_rng0 (p3 p4 : Int32) (a b : Nat) (h3 : p3.toInt = a) (ha : a < 5) (h4 : p4.toInt = b) (hb : b < 5) (hab : a < b) (wm sus : Int32) (part now : Nat → Int32) (w : Nat → Int64) (op ov tp tv : Nat → Int32) (y : Int32 × Int32 × (Nat → Int32) × (Nat → Int32) × (Nat → Int64) × (Nat → Int32) × (Nat → Int32) × (Nat → Int32) × (Nat → Int32)) (h : FX12_pairs fu d off p3 p4 wl wm mk sus ks kv wf wt ot part sh now w sm om op ov tp tv = some y) (hi : susInv sus op ov tp tv) : susInv y.2.1 y.2.2.2.2.2.1 y.2.2.2.2.2.2.1 y.2.2.2.2.2.2.2.1 y.2.2.2.2.2.2.2.2 := by
  obtain ⟨r1, r2, r3, r4, r5, r6, r7⟩ := rng_eq h3 ha
  obtain ⟨s1, s2, s3, s4, s5, s6, s7⟩ := rng_eq h4 hb
  unfold FX12_pairs at h
  rw [if_pos r4, if_pos s4, r1] at h
  exact pairs_rng p3 p4 a b h3 ha h4 hb hab _ 0 _ _ _ _ _ _ _ _ _ _ _ _ _ _ h hi (by omega) (fun z => absurd z (by omega))
theorem seeks_rngL : ∀ (n tag : Nat) (v3 v4 v5 wm sus fw : Int32) (part now : Nat → Int32) (w : Nat → Int64) (op ov tp tv : Nat → Int32) (y : Int32 × Int32 × Int32 × (Nat → Int32) × (Nat → Int32) × (Nat → Int64) × (Nat → Int32) × (Nat → Int32) × (Nat → Int32) × (Nat → Int32)),
    FX12_seeks_L fu d off wl mk ks kv wf wt ot sh sm om n tag v3 v4 v5 wm sus fw part now w op ov tp tv = some y → susInv sus op ov tp tv → (∃ a : Nat, v3.toInt = a ∧ a ≤ 5 ∧ (tag = 1 → a < 5 ∧ (ro0 a).toInt ≤ v5.toInt) ∧ (tag = 3 → a < 5 ∧ (∃ b : Nat, v4.toInt = b ∧ a < b ∧ b ≤ 5))) → susInv y.2.1 y.2.2.2.2.2.2.1 y.2.2.2.2.2.2.2.1 y.2.2.2.2.2.2.2.2.1 y.2.2.2.2.2.2.2.2.2 := by
  have q0 := t_0
  have q1 := t_1
  have t5 : (5 : Int32).toInt = 5 := rfl
  intro n
  induction n with
  | zero =>
    intro tag v3 v4 v5 wm sus fw part now w op ov tp tv y h
    rw [FX12_seeks_L] at h
    cases h
  | succ n ih =>
    intro tag v3 v4 v5 wm sus fw part now w op ov tp tv y h hi ht
    obtain ⟨a, ha, ha5, ht1, ht3⟩ := ht
    rw [FX12_seeks_L] at h
    by_cases t0 : tag = 0
    · rw [if_pos t0] at h
      by_cases c1 : 5 ≤ v3
      · rw [if_pos c1] at h
        have hz : ∃ a : Nat, (0 : Int32).toInt = a ∧ a ≤ 5 ∧ (2 = 1 → a < 5 ∧ (ro0 a).toInt ≤ (0 : Int32).toInt) ∧ (2 = 3 → a < 5 ∧ (∃ b : Nat, (0 : Int32).toInt = b ∧ a < b ∧ b ≤ 5)) := ⟨0, rfl, by omega, fun z => absurd z (by omega), fun z => absurd z (by omega)⟩
        by_cases c2 : sus ≤ 0
        · rw [if_pos c2] at h
          exact ih 2 _ _ _ _ _ _ _ _ _ _ _ _ _ _ h hi hz
        · rw [if_neg c2] at h
          exact ih 2 _ _ _ _ _ _ _ _ _ _ _ _ _ _ h hi hz
      · rw [if_neg c1] at h
        rw [i_le] at c1
        obtain ⟨r1, r2, r3, r4, r5, r6, r7⟩ := rng_eq ha (show a < 5 by omega)
        rw [if_pos r4, r1] at h
        exact ih 1 _ _ _ _ _ _ _ _ _ _ _ _ _ _ h hi ⟨a, ha, ha5, fun _ => ⟨by omega, by omega⟩, fun z => absurd z (by omega)⟩
    rw [if_neg t0] at h
    by_cases t1 : tag = 1
    · rw [if_pos t1] at h
      obtain ⟨g1, g2⟩ := ht1 t1
      obtain ⟨r1, r2, r3, r4, r5, r6, r7⟩ := rng_eq ha g1
      rw [r2, r3] at h
      have hs3 := i_add v3 1 (by omega) (by omega)
      by_cases c1 : ro1 a < v5
      · rw [if_pos c1, if_pos r4] at h
        exact ih 0 _ _ _ _ _ _ _ _ _ _ _ _ _ _ h hi ⟨a + 1, by omega, by omega, fun z => absurd z (by omega), fun z => absurd z (by omega)⟩
      · rw [if_neg c1, if_pos r4] at h
        rw [i_lt] at c1
        have hs5 := i_add v5 1 (by omega) (by omega)
        have hz : ∃ a : Nat, v3.toInt = a ∧ a ≤ 5 ∧ (1 = 1 → a < 5 ∧ (ro0 a).toInt ≤ (v5 + 1).toInt) ∧ (1 = 3 → a < 5 ∧ (∃ b : Nat, v4.toInt = b ∧ a < b ∧ b ≤ 5)) := ⟨a, ha, ha5, fun _ => ⟨g1, by omega⟩, fun z => absurd z (by omega)⟩
        by_cases c2 : v5 = v4
        · rw [if_pos c2] at h
          exact ih 1 _ _ _ _ _ _ _ _ _ _ _ _ _ _ h hi hz
        · rw [if_neg c2] at h
          obtain ⟨z, -, h⟩ := pz_bd h
          by_cases c4 : z.1 = 0
          · rw [if_pos c4] at h
            exact ih 1 _ _ _ _ _ _ _ _ _ _ _ _ _ _ h hi hz
          · rw [if_neg c4] at h
            obtain ⟨u, hu, h⟩ := pz_bd h
            have hi2 := adds_rng hi (Or.inr (Or.inl ⟨⟨a, ha, g1, g2, by omega⟩, rfl, rfl⟩)) hu
            exact ih 1 _ _ _ _ _ _ _ _ _ _ _ _ _ _ h hi2 hz
    rw [if_neg t1] at h
    by_cases t2 : tag = 2
    · rw [if_pos t2] at h
      by_cases c1 : 5 ≤ v3
      · rw [if_pos c1] at h
        by_cases c2 : fw = 1
        · rw [if_pos c2] at h
          have e := Option.some.inj h
          subst e
          exact hi
        · rw [if_neg c2] at h
          by_cases c3 : sus ≤ 0
          · rw [if_pos c3] at h
            have e := Option.some.inj h
            subst e
            exact hi
          · rw [if_neg c3] at h
            have e := Option.some.inj h
            subst e
            exact hi
      · rw [if_neg c1] at h
        rw [i_le] at c1
        by_cases c2 : fw = 1
        · rw [if_pos c2] at h
          have e := Option.some.inj h
          subst e
          exact hi
        · rw [if_neg c2] at h
          have hs3 := i_add v3 1 (by omega) (by omega)
          exact ih 3 _ _ _ _ _ _ _ _ _ _ _ _ _ _ h hi ⟨a, ha, ha5, fun z => absurd z (by omega), fun _ => ⟨by omega, a + 1, by omega, by omega, by omega⟩⟩
    rw [if_neg t2] at h
    by_cases t3 : tag = 3
    · rw [if_pos t3] at h
      obtain ⟨g1, b, hb, hab, hb5⟩ := ht3 t3
      have hs3 := i_add v3 1 (by omega) (by omega)
      have hs4 := i_add v4 1 (by omega) (by omega)
      by_cases c1 : 5 ≤ v4
      · rw [if_pos c1] at h
        exact ih 2 _ _ _ _ _ _ _ _ _ _ _ _ _ _ h hi ⟨a + 1, by omega, by omega, fun z => absurd z (by omega), fun z => absurd z (by omega)⟩
      · rw [if_neg c1] at h
        rw [i_le] at c1
        obtain ⟨u, hu, h⟩ := pz_bd h
        have hi2 := pairs_rng0 v3 v4 a b ha g1 hb (by omega) hab _ _ _ _ _ _ _ _ _ _ hu hi
        exact ih 3 _ _ _ _ _ _ _ _ _ _ _ _ _ _ h hi2 ⟨a, ha, ha5, fun z => absurd z (by omega), fun _ => ⟨g1, b + 1, by omega, by omega, by omega⟩⟩
    · rw [if_neg t3] at h
      cases h
theorem seeks_rng (wm : Int32) (part now : Nat → Int32) (w : Nat → Int64) (op ov tp tv : Nat → Int32) (y : Int32 × Int32 × Int32 × (Nat → Int32) × (Nat → Int32) × (Nat → Int64) × (Nat → Int32) × (Nat → Int32) × (Nat → Int32) × (Nat → Int32)) (h : FX12_seeks fu d off wl wm mk ks kv wf wt ot part sh now w sm om op ov tp tv = some y) : susInv y.2.1 y.2.2.2.2.2.2.1 y.2.2.2.2.2.2.2.1 y.2.2.2.2.2.2.2.2.1 y.2.2.2.2.2.2.2.2.2 := by
  have hi0 : susInv 0 op ov tp tv := ⟨by decide, by decide, fun k hk => absurd hk (by rw [t_0]; omega)⟩
  unfold FX12_seeks at h
  obtain ⟨z, -, h⟩ := pz_bd h
  by_cases c : z.1 = 0
  · rw [if_pos c] at h
    exact seeks_rngL _ 0 _ _ _ _ _ _ _ _ _ _ _ _ _ _ h hi0 ⟨0, rfl, by omega, fun z => absurd z (by omega), fun z => absurd z (by omega)⟩
  · rw [if_neg c] at h
    obtain ⟨u, hu, h⟩ := pz_bd h
    have hi2 := adds_rng hi0 (Or.inl ⟨rfl, rfl, rfl, rfl⟩) hu
    have e := Option.some.inj h
    subst e
    exact hi2
end
