/-! ===== the method row ===== -/
theorem row_eq (fu : Nat) (p1 p2 : Int32) {rows : Int32} {rs rl ro rs' rm' ro' : Nat → Int32} {R : Nat} (h : rowRel rows rs rl ro rs' rm' ro' R) :
    (fX6_hasRow_r p1 rows = 0 ∧ ∃ v, FX12_row fu p1 p2 rows rs' rm' ro' = some (v, 1)) ∨
    (fX6_hasRow_r p1 rows = 1 ∧ pz_inb p1 6 = true ∧ ((p2 = 0 ∧ FX12_row fu p1 p2 rows rs' rm' ro' = some (rs p1.toNatClampNeg, 0)) ∨ (p2 = 1 ∧ FX12_row fu p1 p2 rows rs' rm' ro' = some (rl p1.toNatClampNeg, 0)) ∨ (¬ p2 = 0 ∧ ¬ p2 = 1 ∧ ¬ p2 < 2 ∧ ¬ rl p1.toNatClampNeg ≤ p2 - 2 ∧ ∃ v, FX6_rowOrder fu p1 (p2 - 2) rows ro = some v ∧ FX12_row fu p1 p2 rows rs' rm' ro' = some (v, 0)) ∨ (¬ p2 = 0 ∧ ¬ p2 = 1 ∧ (p2 < 2 ∨ (¬ p2 < 2 ∧ rl p1.toNatClampNeg ≤ p2 - 2)) ∧ ∃ v, FX12_row fu p1 p2 rows rs' rm' ro' = some (v, 2)))) := by
  have q0 := t_0
  have q1 := t_1
  have t2 : (2 : Int32).toInt = 2 := rfl
  have t12 : (12 : Int32).toInt = 12 := rfl
  obtain ⟨h1, h2, h3⟩ := h
  have j13 : ∃ v, FX12_row_J13 fu p1 p2 rs' rm' ro' = some (v, 1) := ⟨0, by unfold FX12_row_J13 FX12_row_J38; rw [if_neg (show ¬ (1 : Int32) = 0 by decide)]⟩
  have j33 : ∃ v, FX12_row_J33 fu p1 p2 rs' rm' ro' = some (v, 2) := ⟨0, by unfold FX12_row_J33 FX12_row_J38; rw [if_neg (show ¬ (2 : Int32) = 0 by decide)]⟩
  unfold FX12_row
  by_cases c1 : p1 < 0
  · rw [if_pos c1]
    exact Or.inl ⟨by unfold fX6_hasRow_r; rw [if_pos c1], j13⟩
  rw [if_neg c1]
  by_cases c2 : p1 < rows
  case neg =>
    rw [if_neg c2]
    exact Or.inl ⟨by unfold fX6_hasRow_r; rw [if_neg c1, if_pos (show rows ≤ p1 by rw [i_le]; rw [i_lt] at c2; omega)], j13⟩
  rw [if_pos c2]
  have c1' := c1
  have c2' := c2
  rw [i_lt] at c1' c2'
  have hh : fX6_hasRow_r p1 rows = 1 := by
    unfold fX6_hasRow_r
    rw [if_neg c1, if_neg (show ¬ rows ≤ p1 by rw [i_le]; omega)]
  have hi6 : pz_inb p1 6 = true := i_inb.mpr (by omega)
  have hi12 : pz_inb p1 12 = true := i_inb.mpr (by omega)
  obtain ⟨r, hr⟩ : ∃ r : Nat, p1.toInt = r := ⟨p1.toInt.toNat, by omega⟩
  have hn : p1.toNatClampNeg = r := by have := i_nat (a := p1) (by omega); omega
  obtain ⟨z1, z2, z3, z4, z5⟩ := h3 r (by omega)
  rw [hn]
  refine Or.inr ⟨hh, hi6, ?_⟩
  by_cases c3 : p2 < 0
  · rw [if_pos c3]
    have c3' := c3
    rw [i_lt] at c3'
    refine Or.inr (Or.inr (Or.inr ⟨fun z => ?_, fun z => ?_, Or.inl (by rw [i_lt]; omega), j33⟩))
    · rw [z] at c3'; omega
    · rw [z] at c3'; omega
  rw [if_neg c3, if_pos hi12, z3]
  have c3' := c3
  rw [i_lt] at c3'
  have ha := i_add 1 (rl r) (by omega) (by omega)
  by_cases c4 : p2 ≤ 1 + rl r
  case neg =>
    rw [if_neg c4]
    rw [i_le] at c4
    have hmx := Int32.toInt_lt p2
    have hs := i_sub p2 2 (by omega) (by omega)
    refine Or.inr (Or.inr (Or.inr ⟨fun z => ?_, fun z => ?_, Or.inr ⟨by rw [i_lt]; omega, by rw [i_le]; omega⟩, j33⟩))
    · have := i_eq.mp z; omega
    · have := i_eq.mp z; omega
  rw [if_pos c4]
  rw [i_le] at c4
  unfold FX12_row_J38
  rw [if_pos rfl]
  by_cases c5 : p2 = 0
  · rw [if_neg (show ¬ ¬ p2 = 0 from fun z => z c5), if_pos hi12, hn, z1]
    exact Or.inl ⟨c5, rfl⟩
  rw [if_pos c5]
  by_cases c6 : p2 = 1
  · rw [if_neg (show ¬ ¬ p2 = 1 from fun z => z c6), if_pos hi12, hn, z3]
    exact Or.inr (Or.inl ⟨c6, rfl⟩)
  rw [if_pos c6]
  have c5' : ¬ p2.toInt = 0 := fun z => c5 (i_eq.mpr (by omega))
  have c6' : ¬ p2.toInt = 1 := fun z => c6 (i_eq.mpr (by omega))
  have hs := i_sub p2 2 (by omega) (by omega)
  obtain ⟨k, hk⟩ : ∃ k : Nat, p2.toInt = 2 + k := ⟨(p2.toInt - 2).toNat, by omega⟩
  have m1 := i_mul 12 p1 (by rw [t12]; omega) (by rw [t12]; omega)
  rw [t12] at m1
  have m2 := i_add (12 * p1) p2 (by omega) (by omega)
  have m3 := i_sub (12 * p1 + p2) 2 (by omega) (by omega)
  have hi144 : pz_inb (12 * p1 + p2 - 2) 144 = true := i_inb.mpr (by omega)
  have hn144 : (12 * p1 + p2 - 2).toNatClampNeg = 12 * r + k := by have := i_nat (a := 12 * p1 + p2 - 2) (by omega); omega
  have n1 := i_mul p1 12 (by rw [t12]; omega) (by rw [t12]; omega)
  rw [t12] at n1
  have n2 := i_add (p1 * 12) (p2 - 2) (by omega) (by omega)
  have hi72 : pz_inb (p1 * 12 + (p2 - 2)) 72 = true := i_inb.mpr (by omega)
  have hn72 : (p1 * 12 + (p2 - 2)).toNatClampNeg = 12 * r + k := by have := i_nat (a := p1 * 12 + (p2 - 2)) (by omega); omega
  rw [if_pos hi144, hn144]
  refine Or.inr (Or.inr (Or.inl ⟨c5, c6, by rw [i_lt]; omega, by rw [i_le]; omega, ro (12 * r + k), ?_, by rw [(z5 k (by omega)).1]⟩))
  unfold FX6_rowOrder
  rw [hh, if_neg (show ¬ (1 : Int32) = 0 by decide), if_neg (show ¬ p2 - 2 < 0 by rw [i_lt]; omega), if_neg (show ¬ (12 : Int32) ≤ p2 - 2 by rw [i_le]; omega), if_pos hi72, hn72]
