-- deps: 100 110 111 112 113 114 115 116 117 118 119 120 121 130 131 132 133 134 135 136 137 138 139 140 141 142 143 144 145 146 200 201 202 203 204 205 206 207 208 209 210 211 212 213 214 215 216 217
/-! ===== suspects as numbers ===== -/
def bn (x : Int32) : Nat := x.toBitVec.toNat
theorem bn_nn {x : Int32} (h : 0 ≤ x.toInt) : (bn x : Int) = x.toInt := by
  have h3 : x.toInt = x.toBitVec.toInt := rfl
  have h4 := x.toBitVec.isLt
  unfold bn
  rw [h3, BitVec.toInt_eq_toNat_cond] at h
  rw [h3, BitVec.toInt_eq_toNat_cond]
  by_cases g : 2 * x.toBitVec.toNat < 2 ^ 32
  · rw [if_pos g]
  · rw [if_neg g] at h; omega
theorem bn_toInt {x : Int32} (h : bn x < 2147483648) : x.toInt = bn x := by
  have h3 : x.toInt = x.toBitVec.toInt := rfl
  unfold bn at *
  rw [h3, BitVec.toInt_eq_toNat_cond, if_pos (by omega)]
theorem bn_or (a b : Int32) : bn (a ||| b) = bn a ||| bn b := by
  unfold bn
  rw [Int32.toBitVec_or, BitVec.toNat_or]
theorem bn_sh4 (a : Int32) (h : bn a < 16) : bn (a <<< (4 &&& 31)) = bn a <<< 4 := by
  have e2 : (a <<< ((4 : Int32) &&& 31)).toBitVec = a.toBitVec <<< 4 := rfl
  unfold bn at *
  rw [e2, BitVec.toNat_shiftLeft, Nat.shiftLeft_eq]
  exact Nat.mod_eq_of_lt (by omega)
theorem bn_sh8 (a : Int32) (h : bn a < 16) : bn (a <<< (8 &&& 31)) = bn a <<< 8 := by
  have e2 : (a <<< ((8 : Int32) &&& 31)).toBitVec = a.toBitVec <<< 8 := rfl
  unfold bn at *
  rw [e2, BitVec.toNat_shiftLeft, Nat.shiftLeft_eq]
  exact Nat.mod_eq_of_lt (by omega)
theorem bn_sh12 (a : Int32) (h : bn a < 16) : bn (a <<< (12 &&& 31)) = bn a <<< 12 := by
  have e2 : (a <<< ((12 : Int32) &&& 31)).toBitVec = a.toBitVec <<< 12 := rfl
  unfold bn at *
  rw [e2, BitVec.toNat_shiftLeft, Nat.shiftLeft_eq]
  exact Nat.mod_eq_of_lt (by omega)
theorem enc_nat {p v q w : Int32} (hp : bn p < 16) (hv : bn v < 16) (hq : bn q < 16) (hw : bn w < 16) : bn (((p ||| (v <<< (4 &&& 31))) ||| (q <<< (8 &&& 31))) ||| (w <<< (12 &&& 31))) = bn p + 16 * bn v + 256 * bn q + 4096 * bn w := by
  rw [bn_or, bn_or, bn_or, bn_sh4 v hv, bn_sh8 q hq, bn_sh12 w hw]
  have e1 : bn p ||| bn v <<< 4 = bn v <<< 4 + bn p := by rw [Nat.or_comm]; exact (Nat.shiftLeft_add_eq_or_of_lt (by omega) _).symm
  rw [e1]
  have s4 : bn v <<< 4 = bn v * 16 := Nat.shiftLeft_eq ..
  have e2 : bn v <<< 4 + bn p ||| bn q <<< 8 = bn q <<< 8 + (bn v <<< 4 + bn p) := by rw [Nat.or_comm]; exact (Nat.shiftLeft_add_eq_or_of_lt (by omega) _).symm
  rw [e2]
  have s8 : bn q <<< 8 = bn q * 256 := Nat.shiftLeft_eq ..
  have e3 : bn q <<< 8 + (bn v <<< 4 + bn p) ||| bn w <<< 12 = bn w <<< 12 + (bn q <<< 8 + (bn v <<< 4 + bn p)) := by rw [Nat.or_comm]; exact (Nat.shiftLeft_add_eq_or_of_lt (by omega) _).symm
  rw [e3]
  have s12 : bn w <<< 12 = bn w * 4096 := Nat.shiftLeft_eq ..
  omega
theorem and15 {y : Int32} : bn (y &&& 15) = bn y % 16 := by
  have h5 : (y &&& 15).toBitVec.toNat = y.toBitVec.toNat &&& (2 ^ 4 - 1) := by
    rw [Int32.toBitVec_and, BitVec.toNat_and]
    rfl
  unfold bn
  rw [h5, Nat.and_two_pow_sub_one_eq_mod]
theorem shr_k {x : Int32} (h : bn x < 65536) : bn (x >>> ((4 * 0) &&& 31)) = bn x ∧ bn (x >>> ((4 * 1) &&& 31)) = bn x / 16 ∧ bn (x >>> ((4 * 2) &&& 31)) = bn x / 256 ∧ bn (x >>> ((4 * 3) &&& 31)) = bn x / 4096 := by
  have hm : x.toBitVec.msb = false := by
    rw [BitVec.msb_eq_false_iff_two_mul_lt]
    unfold bn at h
    omega
  have key : ∀ n, (x.toBitVec.sshiftRight n).toNat = bn x / 2 ^ n := by
    intro n
    rw [BitVec.sshiftRight_eq_of_msb_false hm, BitVec.toNat_ushiftRight, Nat.shiftRight_eq_div_pow]
    rfl
  have e0 : bn (x >>> ((4 * 0) &&& 31)) = (x.toBitVec.sshiftRight 0).toNat := rfl
  have e1 : bn (x >>> ((4 * 1) &&& 31)) = (x.toBitVec.sshiftRight 4).toNat := rfl
  have e2 : bn (x >>> ((4 * 2) &&& 31)) = (x.toBitVec.sshiftRight 8).toNat := rfl
  have e3 : bn (x >>> ((4 * 3) &&& 31)) = (x.toBitVec.sshiftRight 12).toNat := rfl
  rw [e0, e1, e2, e3, key, key, key, key]
  exact ⟨by simp, rfl, rfl, rfl⟩
/-- one number of a suspect; none is 15 -/
def nib (n : Nat) (x : Int32) : Prop := (n < 15 ∧ x.toInt = n) ∨ (n = 15 ∧ x = -1)
theorem look_nib {y x : Int32} {n : Nat} (hn : bn y % 16 = n) (hx : nib n x) : (if ¬ (y &&& 15) = 15 then (y &&& 15) else (-1)) = x := by
  have h1 := and15 (y := y)
  have h2 := bn_toInt (x := y &&& 15) (by omega)
  have t15 : (15 : Int32).toInt = 15 := rfl
  generalize y &&& 15 = z at *
  rcases hx with ⟨g1, g2⟩ | ⟨g1, g2⟩
  · rw [if_pos (by rw [i_eq]; omega), i_eq]; omega
  · rw [if_neg (show ¬ ¬ z = 15 from fun q => q (by rw [i_eq]; omega)), g2]
/-- a suspect's number tells its four -/
def susRel (c a b e f : Int32) : Prop := fX10_look_r c 0 = a ∧ fX10_look_r c 1 = b ∧ fX10_look_r c 2 = e ∧ fX10_look_r c 3 = f
theorem sus_of {c a b e f : Int32} {na nb ne nf : Nat} (h : bn c = na + 16 * nb + 256 * ne + 4096 * nf) (ha : nib na a) (hb : nib nb b) (he : nib ne e) (hf : nib nf f) : susRel c a b e f := by
  have l1 : na ≤ 15 := by rcases ha with ⟨g, -⟩ | ⟨g, -⟩ <;> omega
  have l2 : nb ≤ 15 := by rcases hb with ⟨g, -⟩ | ⟨g, -⟩ <;> omega
  have l3 : ne ≤ 15 := by rcases he with ⟨g, -⟩ | ⟨g, -⟩ <;> omega
  have l4 : nf ≤ 15 := by rcases hf with ⟨g, -⟩ | ⟨g, -⟩ <;> omega
  obtain ⟨s0, s1, s2, s3⟩ := shr_k (x := c) (by omega)
  unfold susRel fX10_look_r
  exact ⟨look_nib (by rw [s0]; omega) ha, look_nib (by rw [s1]; omega) hb, look_nib (by rw [s2]; omega) he, look_nib (by rw [s3]; omega) hf⟩
theorem sus_none : susRel 65535 (-1) (-1) (-1) (-1) := sus_of (na := 15) (nb := 15) (ne := 15) (nf := 15) rfl (Or.inr ⟨rfl, rfl⟩) (Or.inr ⟨rfl, rfl⟩) (Or.inr ⟨rfl, rfl⟩) (Or.inr ⟨rfl, rfl⟩)
theorem nib_of {x : Int32} (h1 : 0 ≤ x.toInt) (h2 : x.toInt < 15) : bn x < 16 ∧ nib (bn x) x := by
  have := bn_nn h1
  exact ⟨by omega, Or.inl ⟨by omega, by omega⟩⟩
theorem sus_one {p v : Int32} (hp : 0 ≤ p.toInt) (hp' : p.toInt < 15) (hv : 0 ≤ v.toInt) (hv' : v.toInt < 15) : susRel (((p ||| (v <<< (4 &&& 31))) ||| 3840) ||| 61440) p v (-1) (-1) := by
  obtain ⟨a1, a2⟩ := nib_of hp hp'
  obtain ⟨b1, b2⟩ := nib_of hv hv'
  have e := enc_nat (q := 15) (w := 15) a1 b1 (by decide) (by decide)
  have e2 : ((((p ||| (v <<< (4 &&& 31))) ||| 3840) ||| 61440) : Int32) = (((p ||| (v <<< (4 &&& 31))) ||| ((15 : Int32) <<< (8 &&& 31))) ||| ((15 : Int32) <<< (12 &&& 31))) := rfl
  rw [e2]
  exact sus_of (ne := 15) (nf := 15) e a2 b2 (Or.inr ⟨rfl, rfl⟩) (Or.inr ⟨rfl, rfl⟩)
theorem sus_two {p v q w : Int32} (hp : 0 ≤ p.toInt) (hp' : p.toInt < 15) (hv : 0 ≤ v.toInt) (hv' : v.toInt < 15) (hq : 0 ≤ q.toInt) (hq' : q.toInt < 15) (hw : 0 ≤ w.toInt) (hw' : w.toInt < 15) : susRel (((p ||| (v <<< (4 &&& 31))) ||| (q <<< (8 &&& 31))) ||| (w <<< (12 &&& 31))) p v q w := by
  obtain ⟨a1, a2⟩ := nib_of hp hp'
  obtain ⟨b1, b2⟩ := nib_of hv hv'
  obtain ⟨c1, c2⟩ := nib_of hq hq'
  obtain ⟨d1, d2⟩ := nib_of hw hw'
  exact sus_of (enc_nat a1 b1 c1 d1) a2 b2 c2 d2
