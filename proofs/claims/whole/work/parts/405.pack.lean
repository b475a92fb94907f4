-- deps: 100 110 200 201
/-! ===== a state as a number ===== -/
def pn (x : Int64) : Nat := x.toBitVec.toNat
theorem pn_eq {a b : Int64} (h : pn a = pn b) : a = b := by
  have : a.toBitVec = b.toBitVec := BitVec.eq_of_toNat_eq h
  exact Int64.toBitVec_inj.mp this
theorem pn_or (a b : Int64) : pn (a ||| b) = pn a ||| pn b := by
  unfold pn
  rw [Int64.toBitVec_or, BitVec.toNat_or]
theorem pn_sh6 (a : Int64) (h : pn a < 2 ^ 57) : pn (a <<< ((6 : Int32).toInt64 &&& 63)) = pn a <<< 6 := by
  have e : a <<< ((6 : Int32).toInt64 &&& 63) = a <<< (6 : Int64) := rfl
  rw [e]
  unfold pn at *
  have e2 : (a <<< (6 : Int64)).toBitVec = a.toBitVec <<< 6 := rfl
  rw [e2, BitVec.toNat_shiftLeft, Nat.shiftLeft_eq]
  exact Nat.mod_eq_of_lt (by omega)
theorem pn_sh7 (a : Int64) (h : pn a < 2 ^ 56) : pn (a <<< ((7 : Int32).toInt64 &&& 63)) = pn a <<< 7 := by
  have e : a <<< ((7 : Int32).toInt64 &&& 63) = a <<< (7 : Int64) := rfl
  rw [e]
  unfold pn at *
  have e2 : (a <<< (7 : Int64)).toBitVec = a.toBitVec <<< 7 := rfl
  rw [e2, BitVec.toNat_shiftLeft, Nat.shiftLeft_eq]
  exact Nat.mod_eq_of_lt (by omega)
theorem pn_sh12 (a : Int64) (h : pn a < 2 ^ 51) : pn (a <<< ((12 : Int32).toInt64 &&& 63)) = pn a <<< 12 := by
  have e : a <<< ((12 : Int32).toInt64 &&& 63) = a <<< (12 : Int64) := rfl
  rw [e]
  unfold pn at *
  have e2 : (a <<< (12 : Int64)).toBitVec = a.toBitVec <<< 12 := rfl
  rw [e2, BitVec.toNat_shiftLeft, Nat.shiftLeft_eq]
  exact Nat.mod_eq_of_lt (by omega)
theorem pn_32 (w : Int32) (h : 0 ≤ w.toInt) : pn w.toInt64 = w.toInt.toNat := by
  have h1 : w.toInt64.toInt = w.toInt := Int32.toInt_toInt64 w
  have h2 : w.toInt64.toInt = w.toInt64.toBitVec.toInt := rfl
  unfold pn
  rw [h2, BitVec.toInt_eq_toNat_cond] at h1
  have h3 := w.toInt64.toBitVec.isLt
  have := w.toInt_lt
  split at h1 <;> omega
theorem pn_j6 (a : Int64) (b : Int32) (h : pn a < 2 ^ 57) (h1 : 0 ≤ b.toInt) (h2 : b.toInt < 64) : pn ((a <<< ((6 : Int32).toInt64 &&& 63)) ||| b.toInt64) = pn a * 64 + b.toInt.toNat := by
  rw [pn_or, pn_sh6 a h, pn_32 b h1, ← Nat.shiftLeft_add_eq_or_of_lt (by omega), Nat.shiftLeft_eq]
theorem pn_j7 (a : Int64) (b : Int32) (h : pn a < 2 ^ 56) (h1 : 0 ≤ b.toInt) (h2 : b.toInt < 128) : pn ((a <<< ((7 : Int32).toInt64 &&& 63)) ||| b.toInt64) = pn a * 128 + b.toInt.toNat := by
  rw [pn_or, pn_sh7 a h, pn_32 b h1, ← Nat.shiftLeft_add_eq_or_of_lt (by omega), Nat.shiftLeft_eq]
theorem pn_j12 (a : Int64) (b : Int32) (h : pn a < 2 ^ 51) (h1 : 0 ≤ b.toInt) (h2 : b.toInt < 4096) : pn ((a <<< ((12 : Int32).toInt64 &&& 63)) ||| b.toInt64) = pn a * 4096 + b.toInt.toNat := by
  rw [pn_or, pn_sh12 a h, pn_32 b h1, ← Nat.shiftLeft_add_eq_or_of_lt (by omega), Nat.shiftLeft_eq]
/-- a state's number -/
def pkS (S : Nat → Int32) : Int64 := fX4_packed_r (S 0) (S 1) (S 2) (S 3) (S 4) (S 5) (S 6) (S 7)
theorem pk_nat {S : Nat → Int32} (h : stOk S) : (pn (pkS S) : Int) = (((((((((S 0).toInt + 32) * 64 + ((S 1).toInt + 32)) * 64 + ((S 2).toInt + 32)) * 64 + ((S 5).toInt + 32)) * 64 + ((S 6).toInt + 32)) * 64 + ((S 7).toInt + 32)) * 128 + ((S 3).toInt + 64)) * 4096 + ((S 4).toInt + 2048)) := by
  obtain ⟨⟨a1, a2⟩, ⟨b1, b2⟩, ⟨c1, c2⟩, ⟨d1, d2⟩, ⟨e1, e2⟩, ⟨f1, f2⟩, ⟨g1, g2⟩, ⟨h1, h2⟩⟩ := h
  have t32 : (32 : Int32).toInt = 32 := rfl
  have t64 : (64 : Int32).toInt = 64 := rfl
  have t2048 : (2048 : Int32).toInt = 2048 := rfl
  have s0 := i_add (S 0) 32 (by omega) (by omega)
  have s1 := i_add (S 1) 32 (by omega) (by omega)
  have s2 := i_add (S 2) 32 (by omega) (by omega)
  have s5 := i_add (S 5) 32 (by omega) (by omega)
  have s6 := i_add (S 6) 32 (by omega) (by omega)
  have s7 := i_add (S 7) 32 (by omega) (by omega)
  have s3 := i_add (S 3) 64 (by omega) (by omega)
  have s4 := i_add (S 4) 2048 (by omega) (by omega)
  unfold pkS fX4_packed_r
  generalize S 0 + 32 = z0 at *
  generalize S 1 + 32 = z1 at *
  generalize S 2 + 32 = z2 at *
  generalize S 5 + 32 = z5 at *
  generalize S 6 + 32 = z6 at *
  generalize S 7 + 32 = z7 at *
  generalize S 3 + 64 = z3 at *
  generalize S 4 + 2048 = z4 at *
  have k0 := pn_32 z0 (by omega)
  have k1 := pn_j6 z0.toInt64 z1 (by omega) (by omega) (by omega)
  generalize z0.toInt64 <<< ((6 : Int32).toInt64 &&& 63) ||| z1.toInt64 = y1 at *
  have k2 := pn_j6 y1 z2 (by omega) (by omega) (by omega)
  generalize y1 <<< ((6 : Int32).toInt64 &&& 63) ||| z2.toInt64 = y2 at *
  have k3 := pn_j6 y2 z5 (by omega) (by omega) (by omega)
  generalize y2 <<< ((6 : Int32).toInt64 &&& 63) ||| z5.toInt64 = y3 at *
  have k4 := pn_j6 y3 z6 (by omega) (by omega) (by omega)
  generalize y3 <<< ((6 : Int32).toInt64 &&& 63) ||| z6.toInt64 = y4 at *
  have k5 := pn_j6 y4 z7 (by omega) (by omega) (by omega)
  generalize y4 <<< ((6 : Int32).toInt64 &&& 63) ||| z7.toInt64 = y5 at *
  have k6 := pn_j7 y5 z3 (by omega) (by omega) (by omega)
  generalize y5 <<< ((7 : Int32).toInt64 &&& 63) ||| z3.toInt64 = y6 at *
  have k7 := pn_j12 y6 z4 (by omega) (by omega) (by omega)
  rw [k7]
  omega
theorem pk_inj {S T : Nat → Int32} (hS : stOk S) (hT : stOk T) (h : pkS S = pkS T) : S 0 = T 0 ∧ S 1 = T 1 ∧ S 2 = T 2 ∧ S 3 = T 3 ∧ S 4 = T 4 ∧ S 5 = T 5 ∧ S 6 = T 6 ∧ S 7 = T 7 := by
  have e1 := pk_nat hS
  have e2 := pk_nat hT
  rw [h] at e1
  obtain ⟨⟨a1, a2⟩, ⟨b1, b2⟩, ⟨c1, c2⟩, ⟨d1, d2⟩, ⟨f1, f2⟩, ⟨g1, g2⟩, ⟨h1, h2⟩, ⟨i1, i2⟩⟩ := hS
  obtain ⟨⟨a1', a2'⟩, ⟨b1', b2'⟩, ⟨c1', c2'⟩, ⟨d1', d2'⟩, ⟨f1', f2'⟩, ⟨g1', g2'⟩, ⟨h1', h2'⟩, ⟨i1', i2'⟩⟩ := hT
  have k4 : (S 4).toInt = (T 4).toInt := by omega
  have k3 : (S 3).toInt = (T 3).toInt := by omega
  have k7 : (S 7).toInt = (T 7).toInt := by omega
  have k6 : (S 6).toInt = (T 6).toInt := by omega
  have k5 : (S 5).toInt = (T 5).toInt := by omega
  have k2 : (S 2).toInt = (T 2).toInt := by omega
  have k1 : (S 1).toInt = (T 1).toInt := by omega
  have k0 : (S 0).toInt = (T 0).toInt := by omega
  simp only [i_eq]
  exact ⟨k0, k1, k2, k3, k4, k5, k6, k7⟩
/-- a digit of a number -/
theorem pn_and (a b : Int64) : pn (a &&& b) = pn a &&& pn b := by
  unfold pn
  rw [Int64.toBitVec_and, BitVec.toNat_and]
theorem pn_small {x : Int64} (h : pn x < 2 ^ 31) : x.toInt32.toInt = pn x := by
  have h1 : x.toInt = pn x := by
    have h2 : x.toInt = x.toBitVec.toInt := rfl
    unfold pn at *
    rw [h2, BitVec.toInt_eq_toNat_cond]
    rw [if_pos (by omega)]
  rw [Int64.toInt_toInt32, h1]
  exact Int.bmod_eq_of_le (by omega) (by omega)
theorem dig63 (x : Int64) : pn (x &&& 63) = pn x % 64 := by
  rw [pn_and]
  have : pn 63 = 2 ^ 6 - 1 := rfl
  rw [this, Nat.and_two_pow_sub_one_eq_mod]
theorem dig127 (x : Int64) : pn (x &&& 127) = pn x % 128 := by
  rw [pn_and]
  have : pn 127 = 2 ^ 7 - 1 := rfl
  rw [this, Nat.and_two_pow_sub_one_eq_mod]
theorem dig4095 (x : Int64) : pn (x &&& 4095) = pn x % 4096 := by
  rw [pn_and]
  have : pn 4095 = 2 ^ 12 - 1 := rfl
  rw [this, Nat.and_two_pow_sub_one_eq_mod]
theorem shr49 (x : Int64) : pn ((x.toUInt64 >>> ((49 : Int32).toInt64.toUInt64 &&& Int64.toUInt64 63)).toInt64) = pn x / 562949953421312 := by
  have e : ((49 : Int32).toInt64.toUInt64 &&& Int64.toUInt64 63) = (49 : UInt64) := rfl
  rw [e]
  have e2 : pn ((x.toUInt64 >>> (49 : UInt64)).toInt64) = (x.toBitVec >>> 49).toNat := rfl
  rw [e2, BitVec.toNat_ushiftRight, Nat.shiftRight_eq_div_pow]
  rfl
theorem shr43 (x : Int64) : pn ((x.toUInt64 >>> ((43 : Int32).toInt64.toUInt64 &&& Int64.toUInt64 63)).toInt64) = pn x / 8796093022208 := by
  have e : ((43 : Int32).toInt64.toUInt64 &&& Int64.toUInt64 63) = (43 : UInt64) := rfl
  rw [e]
  have e2 : pn ((x.toUInt64 >>> (43 : UInt64)).toInt64) = (x.toBitVec >>> 43).toNat := rfl
  rw [e2, BitVec.toNat_ushiftRight, Nat.shiftRight_eq_div_pow]
  rfl
theorem shr37 (x : Int64) : pn ((x.toUInt64 >>> ((37 : Int32).toInt64.toUInt64 &&& Int64.toUInt64 63)).toInt64) = pn x / 137438953472 := by
  have e : ((37 : Int32).toInt64.toUInt64 &&& Int64.toUInt64 63) = (37 : UInt64) := rfl
  rw [e]
  have e2 : pn ((x.toUInt64 >>> (37 : UInt64)).toInt64) = (x.toBitVec >>> 37).toNat := rfl
  rw [e2, BitVec.toNat_ushiftRight, Nat.shiftRight_eq_div_pow]
  rfl
theorem shr12 (x : Int64) : pn ((x.toUInt64 >>> ((12 : Int32).toInt64.toUInt64 &&& Int64.toUInt64 63)).toInt64) = pn x / 4096 := by
  have e : ((12 : Int32).toInt64.toUInt64 &&& Int64.toUInt64 63) = (12 : UInt64) := rfl
  rw [e]
  have e2 : pn ((x.toUInt64 >>> (12 : UInt64)).toInt64) = (x.toBitVec >>> 12).toNat := rfl
  rw [e2, BitVec.toNat_ushiftRight, Nat.shiftRight_eq_div_pow]
  rfl
theorem shr31 (x : Int64) : pn ((x.toUInt64 >>> ((31 : Int32).toInt64.toUInt64 &&& Int64.toUInt64 63)).toInt64) = pn x / 2147483648 := by
  have e : ((31 : Int32).toInt64.toUInt64 &&& Int64.toUInt64 63) = (31 : UInt64) := rfl
  rw [e]
  have e2 : pn ((x.toUInt64 >>> (31 : UInt64)).toInt64) = (x.toBitVec >>> 31).toNat := rfl
  rw [e2, BitVec.toNat_ushiftRight, Nat.shiftRight_eq_div_pow]
  rfl
theorem shr25 (x : Int64) : pn ((x.toUInt64 >>> ((25 : Int32).toInt64.toUInt64 &&& Int64.toUInt64 63)).toInt64) = pn x / 33554432 := by
  have e : ((25 : Int32).toInt64.toUInt64 &&& Int64.toUInt64 63) = (25 : UInt64) := rfl
  rw [e]
  have e2 : pn ((x.toUInt64 >>> (25 : UInt64)).toInt64) = (x.toBitVec >>> 25).toNat := rfl
  rw [e2, BitVec.toNat_ushiftRight, Nat.shiftRight_eq_div_pow]
  rfl
theorem shr19 (x : Int64) : pn ((x.toUInt64 >>> ((19 : Int32).toInt64.toUInt64 &&& Int64.toUInt64 63)).toInt64) = pn x / 524288 := by
  have e : ((19 : Int32).toInt64.toUInt64 &&& Int64.toUInt64 63) = (19 : UInt64) := rfl
  rw [e]
  have e2 : pn ((x.toUInt64 >>> (19 : UInt64)).toInt64) = (x.toBitVec >>> 19).toNat := rfl
  rw [e2, BitVec.toNat_ushiftRight, Nat.shiftRight_eq_div_pow]
  rfl
theorem unpack_eq {S : Nat → Int32} (h : stOk S) : fX4_unpack_f0_0 (pkS S) = S 0 ∧ fX4_unpack_f0_1 (pkS S) = S 1 ∧ fX4_unpack_f0_2 (pkS S) = S 2 ∧ fX4_unpack_f0_3 (pkS S) = S 3 ∧ fX4_unpack_f0_5 (pkS S) = S 5 ∧ fX4_unpack_f0_6 (pkS S) = S 6 ∧ fX4_unpack_f0_7 (pkS S) = S 7 ∧ (pkS S &&& 4095).toInt32 - 2048 = S 4 := by
  have e := pk_nat h
  obtain ⟨⟨a1, a2⟩, ⟨b1, b2⟩, ⟨c1, c2⟩, ⟨d1, d2⟩, ⟨f1, f2⟩, ⟨g1, g2⟩, ⟨h1, h2⟩, ⟨i1, i2⟩⟩ := h
  have t32 : (32 : Int32).toInt = 32 := rfl
  have t64 : (64 : Int32).toInt = 64 := rfl
  have t2048 : (2048 : Int32).toInt = 2048 := rfl
  generalize pkS S = p at *
  refine ⟨?_, ?_, ?_, ?_, ?_, ?_, ?_, ?_⟩
  · unfold fX4_unpack_f0_0
    have q1 := shr49 p
    generalize (p.toUInt64 >>> ((49 : Int32).toInt64.toUInt64 &&& Int64.toUInt64 63)).toInt64 = y at *
    have q2 := dig63 y
    generalize y &&& 63 = z at *
    have q3 := pn_small (x := z) (by omega)
    generalize z.toInt32 = u at *
    have q4 := i_sub u 32 (by omega) (by omega)
    rw [i_eq]
    omega
  · unfold fX4_unpack_f0_1
    have q1 := shr43 p
    generalize (p.toUInt64 >>> ((43 : Int32).toInt64.toUInt64 &&& Int64.toUInt64 63)).toInt64 = y at *
    have q2 := dig63 y
    generalize y &&& 63 = z at *
    have q3 := pn_small (x := z) (by omega)
    generalize z.toInt32 = u at *
    have q4 := i_sub u 32 (by omega) (by omega)
    rw [i_eq]
    omega
  · unfold fX4_unpack_f0_2
    have q1 := shr37 p
    generalize (p.toUInt64 >>> ((37 : Int32).toInt64.toUInt64 &&& Int64.toUInt64 63)).toInt64 = y at *
    have q2 := dig63 y
    generalize y &&& 63 = z at *
    have q3 := pn_small (x := z) (by omega)
    generalize z.toInt32 = u at *
    have q4 := i_sub u 32 (by omega) (by omega)
    rw [i_eq]
    omega
  · unfold fX4_unpack_f0_3
    have q1 := shr12 p
    generalize (p.toUInt64 >>> ((12 : Int32).toInt64.toUInt64 &&& Int64.toUInt64 63)).toInt64 = y at *
    have q2 := dig127 y
    generalize y &&& 127 = z at *
    have q3 := pn_small (x := z) (by omega)
    generalize z.toInt32 = u at *
    have q4 := i_sub u 64 (by omega) (by omega)
    rw [i_eq]
    omega
  · unfold fX4_unpack_f0_5
    have q1 := shr31 p
    generalize (p.toUInt64 >>> ((31 : Int32).toInt64.toUInt64 &&& Int64.toUInt64 63)).toInt64 = y at *
    have q2 := dig63 y
    generalize y &&& 63 = z at *
    have q3 := pn_small (x := z) (by omega)
    generalize z.toInt32 = u at *
    have q4 := i_sub u 32 (by omega) (by omega)
    rw [i_eq]
    omega
  · unfold fX4_unpack_f0_6
    have q1 := shr25 p
    generalize (p.toUInt64 >>> ((25 : Int32).toInt64.toUInt64 &&& Int64.toUInt64 63)).toInt64 = y at *
    have q2 := dig63 y
    generalize y &&& 63 = z at *
    have q3 := pn_small (x := z) (by omega)
    generalize z.toInt32 = u at *
    have q4 := i_sub u 32 (by omega) (by omega)
    rw [i_eq]
    omega
  · unfold fX4_unpack_f0_7
    have q1 := shr19 p
    generalize (p.toUInt64 >>> ((19 : Int32).toInt64.toUInt64 &&& Int64.toUInt64 63)).toInt64 = y at *
    have q2 := dig63 y
    generalize y &&& 63 = z at *
    have q3 := pn_small (x := z) (by omega)
    generalize z.toInt32 = u at *
    have q4 := i_sub u 32 (by omega) (by omega)
    rw [i_eq]
    omega
  · have q2 := dig4095 p
    generalize p &&& 4095 = z at *
    have q3 := pn_small (x := z) (by omega)
    generalize z.toInt32 = u at *
    have q4 := i_sub u 2048 (by omega) (by omega)
    rw [i_eq]
    omega
