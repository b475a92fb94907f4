/-! ===== bits of tables ===== -/
def tb (x : Int64) (s : Nat) : Bool := x.toBitVec.getLsbD s
theorem tb_or (x y : Int64) (s : Nat) : tb (x ||| y) s = (tb x s || tb y s) := by
  unfold tb
  rw [Int64.toBitVec_or, BitVec.getLsbD_or]
theorem tb_and (x y : Int64) (s : Nat) : tb (x &&& y) s = (tb x s && tb y s) := by
  unfold tb
  rw [Int64.toBitVec_and, BitVec.getLsbD_and]
theorem tb_far (x : Int64) (s : Nat) (h : 64 ≤ s) : tb x s = false := BitVec.getLsbD_of_ge _ _ h
theorem tb_m1 (s : Nat) (h : s < 64) : tb (-1) s = true := by
  have e : (-1 : Int64).toBitVec = BitVec.allOnes 64 := by decide +kernel
  unfold tb
  rw [e, BitVec.getLsbD_allOnes, decide_eq_true h]
theorem tb_0 (s : Nat) : tb 0 s = false := by
  have e : (0 : Int64).toBitVec = 0#64 := rfl
  unfold tb
  rw [e, BitVec.getLsbD_zero]
theorem tb_not (x : Int64) (s : Nat) (h : s < 64) : tb (x ^^^ (-1)) s = !tb x s := by
  have h1 := tb_m1 s h
  unfold tb at *
  rw [Int64.toBitVec_xor, BitVec.getLsbD_xor, h1, Bool.xor_true]
theorem tb_ext {x y : Int64} (h : ∀ s, s < 64 → tb x s = tb y s) : x = y := Int64.toBitVec_inj.mp (BitVec.eq_of_getLsbD_eq h)
theorem ro4_bit : ∀ j, j < 6 → ∀ s, s < 64 → tb (ro4 j) s = s.testBit j := by decide +kernel
theorem sh_amt : ∀ s, s < 64 → ((Int32.ofNat s).toInt64.toUInt64 &&& Int64.toUInt64 63) = UInt64.ofNat s ∧ (UInt64.ofNat s).toNat % 64 = s ∧ ((Int32.ofNat s).toInt64 &&& 63) = Int64.ofNat s ∧ ((Int64.ofNat s).toBitVec.smod 64).toNat = s := by decide +kernel
theorem i_ofNat {p : Int32} {s : Nat} (hp : p.toInt = s) (hs : s < 2147483648) : p = Int32.ofNat s := i_of _ hp (i_lit s hs)
theorem tb_shr (x : Int64) (p : Int32) (k s : Nat) (hp : p.toInt = k) (hk : k < 64) : tb ((x.toUInt64 >>> (p.toInt64.toUInt64 &&& Int64.toUInt64 63)).toInt64) s = tb x (k + s) := by
  rw [i_ofNat hp (by omega), (sh_amt k hk).1]
  have e2 : tb ((x.toUInt64 >>> (UInt64.ofNat k)).toInt64) s = (x.toBitVec >>> ((UInt64.ofNat k).toNat % 64)).getLsbD s := by
    unfold tb
    show (x.toUInt64 >>> (UInt64.ofNat k)).toBitVec.getLsbD s = _
    rw [UInt64.toBitVec_shiftRight]
    show (x.toBitVec >>> ((UInt64.ofNat k).toBitVec % 64#64)).getLsbD s = _
    rw [BitVec.ushiftRight_eq', BitVec.toNat_umod]
    rfl
  rw [e2, (sh_amt k hk).2.1, BitVec.getLsbD_ushiftRight]
  rfl
theorem tb_shl (x : Int64) (p : Int32) (k s : Nat) (hp : p.toInt = k) (hk : k < 64) (hs : s < 64) : tb (x <<< (p.toInt64 &&& 63)) s = (decide (k ≤ s) && tb x (s - k)) := by
  rw [i_ofNat hp (by omega), (sh_amt k hk).2.2.1]
  unfold tb
  rw [Int64.toBitVec_shiftLeft]
  show (x.toBitVec <<< ((Int64.ofNat k).toBitVec.smod 64)).getLsbD s = _
  rw [BitVec.shiftLeft_eq', (sh_amt k hk).2.2.2, BitVec.getLsbD_shiftLeft, decide_eq_true hs, Bool.true_and]
  by_cases g : k ≤ s
  · rw [decide_eq_true g, decide_eq_false (show ¬ s < k by omega)]; rfl
  · rw [decide_eq_false g, decide_eq_true (show s < k by omega)]; rfl
theorem tb_one (s : Nat) : tb 1 s = decide (s = 0) := by
  unfold tb
  show (1#64).getLsbD s = _
  rw [BitVec.getLsbD_one]
  by_cases g : s = 0
  · subst g; rfl
  · rw [decide_eq_false g]; simp [g]
/-- the lowest bit behind a shift -/
theorem low_bit (x : Int64) (p : Int32) (k : Nat) (hp : p.toInt = k) (hk : k < 64) : (((x.toUInt64 >>> (p.toInt64.toUInt64 &&& Int64.toUInt64 63)).toInt64) &&& 1) = if tb x k then 1 else 0 := by
  apply tb_ext
  intro s hs
  rw [tb_and, tb_shr x p k s hp hk, tb_one]
  by_cases g : s = 0
  · subst g
    rw [Nat.add_zero]
    cases tb x k
    · rw [Bool.false_and, if_neg (by decide), tb_0]
    · rw [Bool.true_and, if_pos rfl, tb_one]
  · rw [decide_eq_false g, Bool.and_false]
    cases tb x k
    · rw [if_neg (by decide), tb_0]
    · rw [if_pos rfl, tb_one, decide_eq_false g]
theorem pow_sh : ∀ j, j < 6 → ((1 : Int32) <<< ((Int32.ofNat j) &&& 31)).toInt = (2 ^ j : Nat) := by decide +kernel
theorem one_sh {p : Int32} {j : Nat} (hp : p.toInt = j) (hj : j < 6) : ((1 : Int32) <<< (p &&& 31)).toInt = (2 ^ j : Nat) := by
  rw [i_ofNat hp (by omega)]
  exact pow_sh j hj
theorem pow_sh7 : ∀ j, j < 7 → ((1 : Int32) <<< ((Int32.ofNat j) &&& 31)).toInt = (2 ^ j : Nat) := by decide +kernel
theorem one_sh7 {p : Int32} {j : Nat} (hp : p.toInt = j) (hj : j < 7) : ((1 : Int32) <<< (p &&& 31)).toInt = (2 ^ j : Nat) := by
  rw [i_ofNat hp (by omega)]
  exact pow_sh7 j hj
theorem flip_sh : ∀ s, s < 64 → ∀ j, j < 6 → (Int32.ofNat s ^^^ ((1 : Int32) <<< ((Int32.ofNat j) &&& 31))).toInt = ((s ^^^ 2 ^ j : Nat) : Int) ∧ s ^^^ 2 ^ j < 64 := by decide +kernel
theorem one_flip {x p : Int32} {s j : Nat} (hx : x.toInt = s) (hs : s < 64) (hp : p.toInt = j) (hj : j < 6) : (x ^^^ ((1 : Int32) <<< (p &&& 31))).toInt = ((s ^^^ 2 ^ j : Nat) : Int) ∧ s ^^^ 2 ^ j < 64 := by
  rw [i_ofNat hp (by omega), i_ofNat hx (by omega)]
  exact flip_sh s hs j hj
theorem gbit : ∀ s, s < 64 → ∀ j, j < 6 → (decide (((Int32.ofNat s) >>> ((Int32.ofNat j) &&& 31)) &&& 1 = 1) = Nat.testBit s j) := by decide +kernel
theorem ref_bit {x p : Int32} {s j : Nat} (hx : x.toInt = s) (hs : s < 64) (hp : p.toInt = j) (hj : j < 6) : (x >>> (p &&& 31)) &&& 1 = 1 ↔ Nat.testBit s j = true := by
  have := gbit s hs j hj
  rw [← i_ofNat hp (by omega), ← i_ofNat hx (by omega)] at this
  rw [← this, decide_eq_true_iff]
theorem flipA : ∀ s, s < 64 → ∀ j, j < 6 → (s.testBit j = false ∧ s + 2 ^ j = s ^^^ 2 ^ j ∧ (s + 2 ^ j).testBit j = true ∧ s + 2 ^ j < 64 ∧ (s < 2 ^ j ∨ (s - 2 ^ j).testBit j = true)) ∨ (s.testBit j = true ∧ (s + 2 ^ j).testBit j = false ∧ 2 ^ j ≤ s ∧ s - 2 ^ j = s ^^^ 2 ^ j ∧ (s - 2 ^ j).testBit j = false) := by decide +kernel
theorem pow_lt6 : ∀ j, j < 6 → 2 ^ j < 64 := by decide
theorem changed_bit (fu : Nat) (x : Int64) (p : Int32) (j : Nat) (hp : p.toInt = j) (hj : j < 6) : ∃ y, FX0_changed fu x p = some y ∧ ∀ s, s < 64 → tb y s = tb x (s ^^^ 2 ^ j) := by
  have q0 := t_0
  have t6 : (6 : Int32).toInt = 6 := rfl
  have hi : pz_inb p 6 = true := i_inb.mpr (by omega)
  have hn : p.toNatClampNeg = j := by have := i_nat (a := p) (by omega); omega
  unfold FX0_changed
  rw [if_neg (show ¬ p < 0 by rw [i_lt]; omega), if_neg (show ¬ 6 ≤ p by rw [i_le]; omega), if_pos hi, hn]
  unfold FX0_changed_J19
  refine ⟨_, rfl, fun s hs => ?_⟩
  have h1 := one_sh hp hj
  have hl := pow_lt6 j hj
  rw [tb_or, tb_shr _ _ (2 ^ j) s h1 hl, tb_shl _ _ (2 ^ j) s h1 hl hs, tb_and, tb_and, Nat.add_comm (2 ^ j) s]
  have hsl : s - 2 ^ j < 64 := Nat.lt_of_le_of_lt (Nat.sub_le _ _) hs
  rcases flipA s hs j hj with ⟨hb, a1, a2, a3, a4⟩ | ⟨hb, b1, b2, b3, b4⟩
  · rw [ro4_bit j hj (s + 2 ^ j) a3, a2, Bool.and_true, ← a1]
    rcases a4 with g | g
    · rw [decide_eq_false (Nat.not_le_of_lt g)]
      simp
    · rw [tb_not _ _ hsl, ro4_bit j hj (s - 2 ^ j) hsl, g]
      simp
  · have e : (tb x (s + 2 ^ j) && tb (ro4 j) (s + 2 ^ j)) = false := by
      by_cases g : s + 2 ^ j < 64
      · rw [ro4_bit j hj _ g, b1, Bool.and_false]
      · rw [tb_far x _ (Nat.le_of_not_lt g), Bool.false_and]
    rw [e, decide_eq_true b2, tb_not _ _ hsl, ro4_bit j hj (s - 2 ^ j) hsl, b4, ← b3]
    simp
