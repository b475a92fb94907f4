-- deps: 100 110 111 112 113 114 115 116 117 118 119 120 130 131 132 133 200
/-! ===== longs ===== -/
theorem l_add (a b : Int64) (h1 : -9223372036854775808 ≤ a.toInt + b.toInt) (h2 : a.toInt + b.toInt ≤ 9223372036854775807) : (a + b).toInt = a.toInt + b.toInt := by
  rw [Int64.toInt_add, Int.bmod_eq_of_le (by omega) (by omega)]
theorem l_sub (a b : Int64) (h1 : -9223372036854775808 ≤ a.toInt - b.toInt) (h2 : a.toInt - b.toInt ≤ 9223372036854775807) : (a - b).toInt = a.toInt - b.toInt := by
  rw [Int64.toInt_sub, Int.bmod_eq_of_le (by omega) (by omega)]
theorem l_neg (a : Int64) (h1 : -9223372036854775808 < a.toInt) : (-a).toInt = -a.toInt := by
  have := a.toInt_lt
  rw [Int64.toInt_neg, Int.bmod_eq_of_le (by omega) (by omega)]
theorem l_mul (a b : Int64) (h1 : -9223372036854775808 ≤ a.toInt * b.toInt) (h2 : a.toInt * b.toInt ≤ 9223372036854775807) : (a * b).toInt = a.toInt * b.toInt := by
  rw [Int64.toInt_mul, Int.bmod_eq_of_le (by omega) (by omega)]
theorem l_div (a b : Int64) (h1 : -9223372036854775808 < a.toInt) : (a / b).toInt = a.toInt.tdiv b.toInt := by
  have h2 := a.toInt_lt
  rw [Int64.toInt_div]
  have h3 := Int.natAbs_tdiv_le_natAbs a.toInt b.toInt
  rw [Int.bmod_eq_of_le (by omega) (by omega)]
theorem l_le {a b : Int64} : a ≤ b ↔ a.toInt ≤ b.toInt := Int64.le_iff_toInt_le
theorem l_lt {a b : Int64} : a < b ↔ a.toInt < b.toInt := Int64.lt_iff_toInt_lt
theorem l_eq {a b : Int64} : a = b ↔ a.toInt = b.toInt := Int64.toInt_inj.symm
/-- at most 10^12 without sign -/
def isVal (x : Int64) : Prop := -1000000000000 ≤ x.toInt ∧ x.toInt ≤ 1000000000000
theorem l_G : (1000000000000 : Int64).toInt = 1000000000000 := rfl
theorem l_mG : (-1000000000000 : Int64).toInt = -1000000000000 := rfl
theorem l_0 : (0 : Int64).toInt = 0 := rfl
theorem l_1 : (1 : Int64).toInt = 1 := rfl
theorem l_E : (-9223372036854775808 : Int64).toInt = -9223372036854775808 := rfl
/-- the signs with two sides: the class's number, the reference's -/
def kBin (c s : Int32) : Prop := (c = -7 ∧ s = 262) ∨ (c = -8 ∧ s = 261) ∨ (c = -9 ∧ s = 60) ∨ (c = -10 ∧ s = 256) ∨ (c = -11 ∧ s = 61) ∨ (c = -12 ∧ s = 257) ∨ (c = -13 ∧ s = 258) ∨ (c = -14 ∧ s = 62) ∨ (c = -15 ∧ s = 43) ∨ (c = -16 ∧ s = 45) ∨ (c = -17 ∧ s = 42) ∨ (c = -18 ∧ s = 47)
def bit (b : Bool) : Int64 := if b then 1 else 0
/-- the value of a sign with two sides; none: an ERROR -/
def binv (c : Int32) (x y : Int64) : Option Int64 :=
  if c = -7 then some (bit (x ≠ 0 || y ≠ 0)) else if c = -8 then some (bit (x ≠ 0 && y ≠ 0)) else if c = -9 then some (bit (x < y)) else if c = -10 then some (bit (x ≤ y)) else if c = -11 then some (bit (x = y)) else if c = -12 then some (bit (x ≠ y)) else if c = -13 then some (bit (y ≤ x)) else if c = -14 then some (bit (y < x))
  else if c = -15 then (if -1000000000000 ≤ x.toInt + y.toInt ∧ x.toInt + y.toInt ≤ 1000000000000 then some (x + y) else none)
  else if c = -16 then (if -1000000000000 ≤ x.toInt - y.toInt ∧ x.toInt - y.toInt ≤ 1000000000000 then some (x - y) else none)
  else if c = -17 then (if -1000000000000 ≤ x.toInt * y.toInt ∧ x.toInt * y.toInt ≤ 1000000000000 then some (x * y) else none)
  else if y = 0 then none else some (x / y)
theorem bit_val (b : Bool) : isVal (bit b) := by
  cases b <;> (unfold isVal; decide)
theorem abs_mul_le (X Y G : Int) (hG : 0 ≤ G) (hY : Y ≠ 0) : ((X.natAbs : Int) ≤ G.tdiv (Y.natAbs : Int)) ↔ (-G ≤ X * Y ∧ X * Y ≤ G) := by
  have hp : 0 < (Y.natAbs : Int) := by omega
  rw [Int.tdiv_eq_ediv_of_nonneg hG, Int.le_ediv_iff_mul_le hp]
  have e : (X.natAbs : Int) * (Y.natAbs : Int) = ((X * Y).natAbs : Int) := by rw [Int.natAbs_mul]; push_cast; rfl
  rw [e]
  omega
theorem binv_val {c : Int32} {x y v : Int64} (hx : isVal x) (hy : isVal y) (h : binv c x y = some v) : isVal v := by
  obtain ⟨x1, x2⟩ := hx
  obtain ⟨y1, y2⟩ := hy
  unfold binv at h
  by_cases g7 : c = -7
  · rw [if_pos g7] at h; cases h; exact bit_val _
  rw [if_neg g7] at h
  by_cases g8 : c = -8
  · rw [if_pos g8] at h; cases h; exact bit_val _
  rw [if_neg g8] at h
  by_cases g9 : c = -9
  · rw [if_pos g9] at h; cases h; exact bit_val _
  rw [if_neg g9] at h
  by_cases g10 : c = -10
  · rw [if_pos g10] at h; cases h; exact bit_val _
  rw [if_neg g10] at h
  by_cases g11 : c = -11
  · rw [if_pos g11] at h; cases h; exact bit_val _
  rw [if_neg g11] at h
  by_cases g12 : c = -12
  · rw [if_pos g12] at h; cases h; exact bit_val _
  rw [if_neg g12] at h
  by_cases g13 : c = -13
  · rw [if_pos g13] at h; cases h; exact bit_val _
  rw [if_neg g13] at h
  by_cases g14 : c = -14
  · rw [if_pos g14] at h; cases h; exact bit_val _
  rw [if_neg g14] at h
  by_cases g15 : c = -15
  · rw [if_pos g15] at h
    by_cases q : -1000000000000 ≤ x.toInt + y.toInt ∧ x.toInt + y.toInt ≤ 1000000000000
    · rw [if_pos q] at h; cases h; rw [isVal, l_add x y (by omega) (by omega)]; omega
    · rw [if_neg q] at h; cases h
  rw [if_neg g15] at h
  by_cases g16 : c = -16
  · rw [if_pos g16] at h
    by_cases q : -1000000000000 ≤ x.toInt - y.toInt ∧ x.toInt - y.toInt ≤ 1000000000000
    · rw [if_pos q] at h; cases h; rw [isVal, l_sub x y (by omega) (by omega)]; omega
    · rw [if_neg q] at h; cases h
  rw [if_neg g16] at h
  by_cases g17 : c = -17
  · rw [if_pos g17] at h
    by_cases q : -1000000000000 ≤ x.toInt * y.toInt ∧ x.toInt * y.toInt ≤ 1000000000000
    · rw [if_pos q] at h; cases h; rw [isVal, l_mul x y (by omega) (by omega)]; omega
    · rw [if_neg q] at h; cases h
  rw [if_neg g17] at h
  by_cases q : y = 0
  · rw [if_pos q] at h; cases h
  · rw [if_neg q] at h; cases h
    have h3 := Int.natAbs_tdiv_le_natAbs x.toInt y.toInt
    rw [isVal, l_div x y (by omega)]; omega

theorem joined_7 (fu : Nat) (x y : Int64) : FX2_joined fu (-7) x y = (if ¬ (lg_cmp x 0) = 0 then (some ((1 : Int64))) else (if (lg_cmp y 0) = 0 then (some ((0 : Int64))) else (some ((1 : Int64))))) := by
  unfold FX2_joined
  rw [if_neg (show ¬ (-7 : Int32) = -18 by decide), if_neg (show ¬ (-7 : Int32) = -17 by decide), if_neg (show ¬ (-7 : Int32) = -16 by decide), if_neg (show ¬ (-7 : Int32) = -15 by decide), if_neg (show ¬ (-7 : Int32) = -14 by decide), if_neg (show ¬ (-7 : Int32) = -13 by decide), if_neg (show ¬ (-7 : Int32) = -12 by decide), if_neg (show ¬ (-7 : Int32) = -11 by decide), if_neg (show ¬ (-7 : Int32) = -10 by decide), if_neg (show ¬ (-7 : Int32) = -9 by decide), if_neg (show ¬ (-7 : Int32) = -8 by decide), if_pos rfl]
theorem binv_7 (x y : Int64) : binv (-7) x y = some (bit (x ≠ 0 || y ≠ 0)) := by
  unfold binv
  rw [if_pos rfl]
theorem joined_8 (fu : Nat) (x y : Int64) : FX2_joined fu (-8) x y = (if (lg_cmp x 0) = 0 then (some ((0 : Int64))) else (if (lg_cmp y 0) = 0 then (some ((0 : Int64))) else (some ((1 : Int64))))) := by
  unfold FX2_joined
  rw [if_neg (show ¬ (-8 : Int32) = -18 by decide), if_neg (show ¬ (-8 : Int32) = -17 by decide), if_neg (show ¬ (-8 : Int32) = -16 by decide), if_neg (show ¬ (-8 : Int32) = -15 by decide), if_neg (show ¬ (-8 : Int32) = -14 by decide), if_neg (show ¬ (-8 : Int32) = -13 by decide), if_neg (show ¬ (-8 : Int32) = -12 by decide), if_neg (show ¬ (-8 : Int32) = -11 by decide), if_neg (show ¬ (-8 : Int32) = -10 by decide), if_neg (show ¬ (-8 : Int32) = -9 by decide), if_pos rfl]
theorem binv_8 (x y : Int64) : binv (-8) x y = some (bit (x ≠ 0 && y ≠ 0)) := by
  unfold binv
  rw [if_neg (show ¬ (-8 : Int32) = -7 by decide), if_pos rfl]
theorem joined_9 (fu : Nat) (x y : Int64) : FX2_joined fu (-9) x y = (if 0 ≤ (lg_cmp x y) then (some ((0 : Int64))) else (some ((1 : Int64)))) := by
  unfold FX2_joined
  rw [if_neg (show ¬ (-9 : Int32) = -18 by decide), if_neg (show ¬ (-9 : Int32) = -17 by decide), if_neg (show ¬ (-9 : Int32) = -16 by decide), if_neg (show ¬ (-9 : Int32) = -15 by decide), if_neg (show ¬ (-9 : Int32) = -14 by decide), if_neg (show ¬ (-9 : Int32) = -13 by decide), if_neg (show ¬ (-9 : Int32) = -12 by decide), if_neg (show ¬ (-9 : Int32) = -11 by decide), if_neg (show ¬ (-9 : Int32) = -10 by decide), if_pos rfl]
theorem binv_9 (x y : Int64) : binv (-9) x y = some (bit (x < y)) := by
  unfold binv
  rw [if_neg (show ¬ (-9 : Int32) = -7 by decide), if_neg (show ¬ (-9 : Int32) = -8 by decide), if_pos rfl]
theorem joined_10 (fu : Nat) (x y : Int64) : FX2_joined fu (-10) x y = (if 0 < (lg_cmp x y) then (some ((0 : Int64))) else (some ((1 : Int64)))) := by
  unfold FX2_joined
  rw [if_neg (show ¬ (-10 : Int32) = -18 by decide), if_neg (show ¬ (-10 : Int32) = -17 by decide), if_neg (show ¬ (-10 : Int32) = -16 by decide), if_neg (show ¬ (-10 : Int32) = -15 by decide), if_neg (show ¬ (-10 : Int32) = -14 by decide), if_neg (show ¬ (-10 : Int32) = -13 by decide), if_neg (show ¬ (-10 : Int32) = -12 by decide), if_neg (show ¬ (-10 : Int32) = -11 by decide), if_pos rfl]
theorem binv_10 (x y : Int64) : binv (-10) x y = some (bit (x ≤ y)) := by
  unfold binv
  rw [if_neg (show ¬ (-10 : Int32) = -7 by decide), if_neg (show ¬ (-10 : Int32) = -8 by decide), if_neg (show ¬ (-10 : Int32) = -9 by decide), if_pos rfl]
theorem joined_11 (fu : Nat) (x y : Int64) : FX2_joined fu (-11) x y = (if ¬ (lg_cmp x y) = 0 then (some ((0 : Int64))) else (some ((1 : Int64)))) := by
  unfold FX2_joined
  rw [if_neg (show ¬ (-11 : Int32) = -18 by decide), if_neg (show ¬ (-11 : Int32) = -17 by decide), if_neg (show ¬ (-11 : Int32) = -16 by decide), if_neg (show ¬ (-11 : Int32) = -15 by decide), if_neg (show ¬ (-11 : Int32) = -14 by decide), if_neg (show ¬ (-11 : Int32) = -13 by decide), if_neg (show ¬ (-11 : Int32) = -12 by decide), if_pos rfl]
theorem binv_11 (x y : Int64) : binv (-11) x y = some (bit (x = y)) := by
  unfold binv
  rw [if_neg (show ¬ (-11 : Int32) = -7 by decide), if_neg (show ¬ (-11 : Int32) = -8 by decide), if_neg (show ¬ (-11 : Int32) = -9 by decide), if_neg (show ¬ (-11 : Int32) = -10 by decide), if_pos rfl]
theorem joined_12 (fu : Nat) (x y : Int64) : FX2_joined fu (-12) x y = (if (lg_cmp x y) = 0 then (some ((0 : Int64))) else (some ((1 : Int64)))) := by
  unfold FX2_joined
  rw [if_neg (show ¬ (-12 : Int32) = -18 by decide), if_neg (show ¬ (-12 : Int32) = -17 by decide), if_neg (show ¬ (-12 : Int32) = -16 by decide), if_neg (show ¬ (-12 : Int32) = -15 by decide), if_neg (show ¬ (-12 : Int32) = -14 by decide), if_neg (show ¬ (-12 : Int32) = -13 by decide), if_pos rfl]
theorem binv_12 (x y : Int64) : binv (-12) x y = some (bit (x ≠ y)) := by
  unfold binv
  rw [if_neg (show ¬ (-12 : Int32) = -7 by decide), if_neg (show ¬ (-12 : Int32) = -8 by decide), if_neg (show ¬ (-12 : Int32) = -9 by decide), if_neg (show ¬ (-12 : Int32) = -10 by decide), if_neg (show ¬ (-12 : Int32) = -11 by decide), if_pos rfl]
theorem joined_13 (fu : Nat) (x y : Int64) : FX2_joined fu (-13) x y = (if (lg_cmp x y) < 0 then (some ((0 : Int64))) else (some ((1 : Int64)))) := by
  unfold FX2_joined
  rw [if_neg (show ¬ (-13 : Int32) = -18 by decide), if_neg (show ¬ (-13 : Int32) = -17 by decide), if_neg (show ¬ (-13 : Int32) = -16 by decide), if_neg (show ¬ (-13 : Int32) = -15 by decide), if_neg (show ¬ (-13 : Int32) = -14 by decide), if_pos rfl]
theorem binv_13 (x y : Int64) : binv (-13) x y = some (bit (y ≤ x)) := by
  unfold binv
  rw [if_neg (show ¬ (-13 : Int32) = -7 by decide), if_neg (show ¬ (-13 : Int32) = -8 by decide), if_neg (show ¬ (-13 : Int32) = -9 by decide), if_neg (show ¬ (-13 : Int32) = -10 by decide), if_neg (show ¬ (-13 : Int32) = -11 by decide), if_neg (show ¬ (-13 : Int32) = -12 by decide), if_pos rfl]
theorem joined_14 (fu : Nat) (x y : Int64) : FX2_joined fu (-14) x y = (if (lg_cmp x y) ≤ 0 then (some ((0 : Int64))) else (some ((1 : Int64)))) := by
  unfold FX2_joined
  rw [if_neg (show ¬ (-14 : Int32) = -18 by decide), if_neg (show ¬ (-14 : Int32) = -17 by decide), if_neg (show ¬ (-14 : Int32) = -16 by decide), if_neg (show ¬ (-14 : Int32) = -15 by decide), if_pos rfl]
theorem binv_14 (x y : Int64) : binv (-14) x y = some (bit (y < x)) := by
  unfold binv
  rw [if_neg (show ¬ (-14 : Int32) = -7 by decide), if_neg (show ¬ (-14 : Int32) = -8 by decide), if_neg (show ¬ (-14 : Int32) = -9 by decide), if_neg (show ¬ (-14 : Int32) = -10 by decide), if_neg (show ¬ (-14 : Int32) = -11 by decide), if_neg (show ¬ (-14 : Int32) = -12 by decide), if_neg (show ¬ (-14 : Int32) = -13 by decide), if_pos rfl]
theorem joined_15 (fu : Nat) (x y : Int64) : FX2_joined fu (-15) x y = some (x + y) := by
  unfold FX2_joined
  rw [if_neg (show ¬ (-15 : Int32) = -18 by decide), if_neg (show ¬ (-15 : Int32) = -17 by decide), if_neg (show ¬ (-15 : Int32) = -16 by decide), if_pos rfl]
theorem binv_15 (x y : Int64) : binv (-15) x y = (if -1000000000000 ≤ x.toInt + y.toInt ∧ x.toInt + y.toInt ≤ 1000000000000 then some (x + y) else none) := by
  unfold binv
  rw [if_neg (show ¬ (-15 : Int32) = -7 by decide), if_neg (show ¬ (-15 : Int32) = -8 by decide), if_neg (show ¬ (-15 : Int32) = -9 by decide), if_neg (show ¬ (-15 : Int32) = -10 by decide), if_neg (show ¬ (-15 : Int32) = -11 by decide), if_neg (show ¬ (-15 : Int32) = -12 by decide), if_neg (show ¬ (-15 : Int32) = -13 by decide), if_neg (show ¬ (-15 : Int32) = -14 by decide), if_pos rfl]
theorem joined_16 (fu : Nat) (x y : Int64) : FX2_joined fu (-16) x y = some (x - y) := by
  unfold FX2_joined
  rw [if_neg (show ¬ (-16 : Int32) = -18 by decide), if_neg (show ¬ (-16 : Int32) = -17 by decide), if_pos rfl]
theorem binv_16 (x y : Int64) : binv (-16) x y = (if -1000000000000 ≤ x.toInt - y.toInt ∧ x.toInt - y.toInt ≤ 1000000000000 then some (x - y) else none) := by
  unfold binv
  rw [if_neg (show ¬ (-16 : Int32) = -7 by decide), if_neg (show ¬ (-16 : Int32) = -8 by decide), if_neg (show ¬ (-16 : Int32) = -9 by decide), if_neg (show ¬ (-16 : Int32) = -10 by decide), if_neg (show ¬ (-16 : Int32) = -11 by decide), if_neg (show ¬ (-16 : Int32) = -12 by decide), if_neg (show ¬ (-16 : Int32) = -13 by decide), if_neg (show ¬ (-16 : Int32) = -14 by decide), if_neg (show ¬ (-16 : Int32) = -15 by decide), if_pos rfl]
theorem joined_17 (fu : Nat) (x y : Int64) : FX2_joined fu (-17) x y = (if (lg_cmp y 0) = 0 then (some (x * y)) else (if 0 ≤ (lg_cmp x 0) then (FX2_joined_J198 fu x y x) else (FX2_joined_J198 fu x y (-x)))) := by
  unfold FX2_joined
  rw [if_neg (show ¬ (-17 : Int32) = -18 by decide), if_pos rfl]
theorem binv_17 (x y : Int64) : binv (-17) x y = (if -1000000000000 ≤ x.toInt * y.toInt ∧ x.toInt * y.toInt ≤ 1000000000000 then some (x * y) else none) := by
  unfold binv
  rw [if_neg (show ¬ (-17 : Int32) = -7 by decide), if_neg (show ¬ (-17 : Int32) = -8 by decide), if_neg (show ¬ (-17 : Int32) = -9 by decide), if_neg (show ¬ (-17 : Int32) = -10 by decide), if_neg (show ¬ (-17 : Int32) = -11 by decide), if_neg (show ¬ (-17 : Int32) = -12 by decide), if_neg (show ¬ (-17 : Int32) = -13 by decide), if_neg (show ¬ (-17 : Int32) = -14 by decide), if_neg (show ¬ (-17 : Int32) = -15 by decide), if_neg (show ¬ (-17 : Int32) = -16 by decide), if_pos rfl]
theorem joined_18 (fu : Nat) (x y : Int64) : FX2_joined fu (-18) x y = (if ¬ (lg_cmp y 0) = 0 then (if ¬ y = 0 then (some (x / y)) else none) else (some (((-9223372036854775808) : Int64)))) := by
  unfold FX2_joined
  rw [if_pos rfl]
theorem binv_18 (x y : Int64) : binv (-18) x y = (if y = 0 then none else some (x / y)) := by
  unfold binv
  rw [if_neg (show ¬ (-18 : Int32) = -7 by decide), if_neg (show ¬ (-18 : Int32) = -8 by decide), if_neg (show ¬ (-18 : Int32) = -9 by decide), if_neg (show ¬ (-18 : Int32) = -10 by decide), if_neg (show ¬ (-18 : Int32) = -11 by decide), if_neg (show ¬ (-18 : Int32) = -12 by decide), if_neg (show ¬ (-18 : Int32) = -13 by decide), if_neg (show ¬ (-18 : Int32) = -14 by decide), if_neg (show ¬ (-18 : Int32) = -15 by decide), if_neg (show ¬ (-18 : Int32) = -16 by decide), if_neg (show ¬ (-18 : Int32) = -17 by decide)]
/-- the class's value of a sign -/
theorem joined_eq (fu : Nat) {c s : Int32} {x y : Int64} (hx : isVal x) (hy : isVal y) (hk : kBin c s) : ∃ v, FX2_joined fu c x y = some v ∧ (∀ u, binv c x y = some u → v = u) ∧ (binv c x y = none → 1000000000000 < v.toInt ∨ v.toInt < -1000000000000) := by
  obtain ⟨x1, x2⟩ := hx
  obtain ⟨y1, y2⟩ := hy
  rcases hk with ⟨rfl, -⟩ | ⟨rfl, -⟩ | ⟨rfl, -⟩ | ⟨rfl, -⟩ | ⟨rfl, -⟩ | ⟨rfl, -⟩ | ⟨rfl, -⟩ | ⟨rfl, -⟩ | ⟨rfl, -⟩ | ⟨rfl, -⟩ | ⟨rfl, -⟩ | ⟨rfl, -⟩
  · rw [joined_7, binv_7]
    refine ⟨bit (x ≠ 0 || y ≠ 0), ?_, fun u h => Option.some.inj h, fun h => by cases h⟩
    simp only [lg_cmp_eq]
    by_cases h1 : x = 0 <;> by_cases h2 : y = 0 <;> simp [h1, h2, bit]
  · rw [joined_8, binv_8]
    refine ⟨bit (x ≠ 0 && y ≠ 0), ?_, fun u h => Option.some.inj h, fun h => by cases h⟩
    simp only [lg_cmp_eq]
    by_cases h1 : x = 0 <;> by_cases h2 : y = 0 <;> simp [h1, h2, bit]
  · rw [joined_9, binv_9]
    refine ⟨bit (x < y), ?_, fun u h => Option.some.inj h, fun h => by cases h⟩
    simp only [lg_cmp_ge, l_le]
    by_cases h1 : y.toInt ≤ x.toInt
    · have : ¬ x < y := by rw [l_lt]; omega
      simp [h1, this, bit]
    · have : x < y := by rw [l_lt]; omega
      simp [h1, this, bit]
  · rw [joined_10, binv_10]
    refine ⟨bit (x ≤ y), ?_, fun u h => Option.some.inj h, fun h => by cases h⟩
    simp only [lg_cmp_gt, l_lt]
    by_cases h1 : y.toInt < x.toInt
    · have : ¬ x ≤ y := by rw [l_le]; omega
      simp [h1, this, bit]
    · have : x ≤ y := by rw [l_le]; omega
      simp [h1, this, bit]
  · rw [joined_11, binv_11]
    refine ⟨bit (x = y), ?_, fun u h => Option.some.inj h, fun h => by cases h⟩
    simp only [lg_cmp_eq]
    by_cases h1 : x = y <;> simp [h1, bit]
  · rw [joined_12, binv_12]
    refine ⟨bit (x ≠ y), ?_, fun u h => Option.some.inj h, fun h => by cases h⟩
    simp only [lg_cmp_eq]
    by_cases h1 : x = y <;> simp [h1, bit]
  · rw [joined_13, binv_13]
    refine ⟨bit (y ≤ x), ?_, fun u h => Option.some.inj h, fun h => by cases h⟩
    simp only [lg_cmp_lt, l_lt]
    by_cases h1 : x.toInt < y.toInt
    · have : ¬ y ≤ x := by rw [l_le]; omega
      simp [h1, this, bit]
    · have : y ≤ x := by rw [l_le]; omega
      simp [h1, this, bit]
  · rw [joined_14, binv_14]
    refine ⟨bit (y < x), ?_, fun u h => Option.some.inj h, fun h => by cases h⟩
    simp only [lg_cmp_le, l_le]
    by_cases h1 : x.toInt ≤ y.toInt
    · have : ¬ y < x := by rw [l_lt]; omega
      simp [h1, this, bit]
    · have : y < x := by rw [l_lt]; omega
      simp [h1, this, bit]
  · rw [joined_15, binv_15]
    refine ⟨x + y, rfl, ?_, ?_⟩
    · intro u h
      by_cases q : -1000000000000 ≤ x.toInt + y.toInt ∧ x.toInt + y.toInt ≤ 1000000000000
      · rw [if_pos q] at h; exact Option.some.inj h
      · rw [if_neg q] at h; cases h
    · intro h
      by_cases q : -1000000000000 ≤ x.toInt + y.toInt ∧ x.toInt + y.toInt ≤ 1000000000000
      · rw [if_pos q] at h; cases h
      · rw [l_add x y (by omega) (by omega)]; omega
  · rw [joined_16, binv_16]
    refine ⟨x - y, rfl, ?_, ?_⟩
    · intro u h
      by_cases q : -1000000000000 ≤ x.toInt - y.toInt ∧ x.toInt - y.toInt ≤ 1000000000000
      · rw [if_pos q] at h; exact Option.some.inj h
      · rw [if_neg q] at h; cases h
    · intro h
      by_cases q : -1000000000000 ≤ x.toInt - y.toInt ∧ x.toInt - y.toInt ≤ 1000000000000
      · rw [if_pos q] at h; cases h
      · rw [l_sub x y (by omega) (by omega)]; omega
  · rw [joined_17, binv_17]
    simp only [lg_cmp_eq, lg_cmp_ge, l_le, l_0]
    have ex := l_neg x (by omega)
    have ey := l_neg y (by omega)
    by_cases hy : y = 0
    · rw [if_pos hy]
      have hz : y.toInt = 0 := by rw [hy]; rfl
      have hq : -1000000000000 ≤ x.toInt * y.toInt ∧ x.toInt * y.toInt ≤ 1000000000000 := by rw [hz, Int.mul_zero]; omega
      rw [if_pos hq]
      exact ⟨_, rfl, fun u h => Option.some.inj h, fun h => by cases h⟩
    rw [if_neg hy]
    have hyz : y.toInt ≠ 0 := fun z => hy (l_eq.mpr z)
    have key := abs_mul_le x.toInt y.toInt 1000000000000 (by omega) hyz
    have fin : ∀ a b : Int64, a.toInt = x.toInt.natAbs → b.toInt = y.toInt.natAbs → ∃ v, FX2_joined_J213 fu x y b 1000000000000 a = some v ∧ (∀ u, (if -1000000000000 ≤ x.toInt * y.toInt ∧ x.toInt * y.toInt ≤ 1000000000000 then some (x * y) else none) = some u → v = u) ∧ ((if -1000000000000 ≤ x.toInt * y.toInt ∧ x.toInt * y.toInt ≤ 1000000000000 then some (x * y) else none) = none → 1000000000000 < v.toInt ∨ v.toInt < -1000000000000) := by
      intro a b ha hb
      unfold FX2_joined_J213
      have hb0 : ¬ b = 0 := by rw [l_eq, l_0]; omega
      have ed := l_div 1000000000000 b (by rw [l_G]; omega)
      rw [l_G, hb] at ed
      rw [if_pos hb0]
      simp only [lg_cmp_le, l_le, ed, ha]
      by_cases q : -1000000000000 ≤ x.toInt * y.toInt ∧ x.toInt * y.toInt ≤ 1000000000000
      · rw [if_pos q, if_pos (key.mpr q)]
        exact ⟨_, rfl, fun u h => Option.some.inj h, fun h => by cases h⟩
      · rw [if_neg q, if_neg (fun z => q (key.mp z))]
        exact ⟨_, rfl, (fun u h => by cases h), fun _ => Or.inr (by rw [l_E]; omega)⟩
    have fin2 : ∀ a : Int64, a.toInt = x.toInt.natAbs → ∃ v, FX2_joined_J198 fu x y a = some v ∧ (∀ u, (if -1000000000000 ≤ x.toInt * y.toInt ∧ x.toInt * y.toInt ≤ 1000000000000 then some (x * y) else none) = some u → v = u) ∧ ((if -1000000000000 ≤ x.toInt * y.toInt ∧ x.toInt * y.toInt ≤ 1000000000000 then some (x * y) else none) = none → 1000000000000 < v.toInt ∨ v.toInt < -1000000000000) := by
      intro a ha
      unfold FX2_joined_J198
      simp only [lg_cmp_ge, l_le, l_0]
      by_cases h : 0 ≤ y.toInt
      · rw [if_pos h]; exact fin a y ha (by omega)
      · rw [if_neg h]; exact fin a (-y) ha (by omega)
    by_cases h : 0 ≤ x.toInt
    · rw [if_pos h]; exact fin2 x (by omega)
    · rw [if_neg h]; exact fin2 (-x) (by omega)
  · rw [joined_18, binv_18]
    simp only [lg_cmp_eq]
    by_cases hy : y = 0
    · rw [if_neg (fun z => z hy), if_pos hy]
      exact ⟨_, rfl, (fun u h => by cases h), fun _ => Or.inr (by rw [l_E]; omega)⟩
    · rw [if_pos hy, if_pos hy, if_neg hy]
      exact ⟨_, rfl, fun u h => Option.some.inj h, fun h => by cases h⟩
