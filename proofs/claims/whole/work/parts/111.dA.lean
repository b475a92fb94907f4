/-! ===== printed: pure functions ===== -/
def FJ7_fill_53178_L (fu : Nat) (p2z : Int32) (Nz : Nat) : Nat → Int32 → Int32 → (Nat → Int32) → Option ((Nat → Int32))
  | 0, _, _, _ => none
  | n + 1, v2z, v3z, q1z => if v3z ≤ v2z then (some (q1z)) else (if pz_inb v2z Nz = true then (FJ7_fill_53178_L fu p2z Nz n (v2z + 1) v3z (upd q1z v2z.toNatClampNeg p2z)) else none)
def FJ7_fill_53178 (fu : Nat) (p2z : Int32) (Nz : Nat) (q1z : Nat → Int32) : Option ((Nat → Int32)) := FJ7_fill_53178_L fu p2z Nz fu (0 : Int32) (Int32.ofNat Nz) q1z
def FJ7_fill_d0a16_L (fu : Nat) (p2z : Int64) (Nz : Nat) : Nat → Int32 → Int32 → (Nat → Int64) → Option ((Nat → Int64))
  | 0, _, _, _ => none
  | n + 1, v3z, v4z, q1z => if v4z ≤ v3z then (some (q1z)) else (if pz_inb v3z Nz = true then (FJ7_fill_d0a16_L fu p2z Nz n (v3z + 1) v4z (vp_updL q1z v3z.toNatClampNeg p2z)) else none)
def FJ7_fill_d0a16 (fu : Nat) (p2z : Int64) (Nz : Nat) (q1z : Nat → Int64) : Option ((Nat → Int64)) := FJ7_fill_d0a16_L fu p2z Nz fu (0 : Int32) (Int32.ofNat Nz) q1z
def FX6_gearOf_L (fu : Nat) (p1z : Int32) (gears0 : Int32) (names0 : Nat → Int32) : Nat → Int32 → Option (Int32)
  | 0, _ => none
  | n + 1, v2z => if gears0 ≤ v2z then (some (((-1) : Int32))) else (if pz_inb v2z 6 = true then (if ¬ (names0 v2z.toNatClampNeg) = p1z then (FX6_gearOf_L fu p1z gears0 names0 n (v2z + 1)) else (some (v2z))) else none)
def FX6_gearOf (fu : Nat) (p1z : Int32) (gears0 : Int32) (names0 : Nat → Int32) : Option (Int32) := FX6_gearOf_L fu p1z gears0 names0 fu (0 : Int32)
def fX6_hasRow_r (p1z : Int32) (rows0 : Int32) : Int32 := if p1z < 0 then 0 else (if rows0 ≤ p1z then 0 else 1)
def fX6_hasGears_r (p1z : Int32) (gears0 : Int32) : Int32 := if p1z < 0 then 0 else (if (1 <<< (gears0 &&& 31)) ≤ p1z then 0 else 1)
def FX6_rowOrder (fu : Nat) (p1z : Int32) (p2z : Int32) (rows0 : Int32) (rowOrders0 : Nat → Int32) : Option (Int32) := if (fX6_hasRow_r p1z rows0) = 0 then (some ((0 : Int32))) else (if p2z < 0 then (some ((0 : Int32))) else (if 12 ≤ p2z then (some ((0 : Int32))) else (if pz_inb ((p1z * 12) + p2z) 72 = true then (some (rowOrders0 ((p1z * 12) + p2z).toNatClampNeg)) else none)))
def FX6_orderOfRow (fu : Nat) (p1z : Int32) (p2z : Int32) (rows0 : Int32) (rowSteps0 : Nat → Int32) (rowLengths0 : Nat → Int32) (rowOrders0 : Nat → Int32) : Option (Int32) := if (fX6_hasRow_r p1z rows0) = 0 then (some ((0 : Int32))) else (if pz_inb p1z 6 = true then (if 1 ≤ (rowSteps0 p1z.toNatClampNeg) then (if pz_inb p1z 6 = true then (if ¬ (rowSteps0 p1z.toNatClampNeg) = 0 then (if pz_inb p1z 6 = true then ((FX6_rowOrder fu p1z (fJ9_min_7cf53_r ((p2z - 1) / (rowSteps0 p1z.toNatClampNeg)) ((rowLengths0 p1z.toNatClampNeg) - 1)) rows0 rowOrders0).bind (fun y7z => some (y7z))) else none) else none) else none) else (some ((0 : Int32)))) else none)
def fX2_addOne_r (counted0 : Int32) : Int32 := if counted0 < 64 then 1 else 0
def fX2_addOne_f0_3 (counted0 : Int32) : Int32 := if counted0 < 64 then (counted0 + 1) else counted0
def FX2_write (fu : Nat) (p1z : Int32) (p2z : Int32) (written0 : Int32) (knots0 : Nat → Int32) (places0 : Nat → Int32) : Option (Int32 × (Nat → Int32) × (Nat → Int32)) := if 64 ≤ written0 then (some (written0, knots0, places0)) else (if pz_inb written0 64 = true then (if pz_inb written0 64 = true then (some (written0 + 1, upd knots0 written0.toNatClampNeg p1z, upd places0 written0.toNatClampNeg p2z)) else none) else none)
def FX2_settleGears_L (fu : Nat) (written0 : Int32) (places0 : Nat → Int32) (gears4 : Int32) (names4 : Nat → Int32) : Nat → Int32 → (Nat → Int32) → Option (Int32 × (Nat → Int32))
  | 0, _, _ => none
  | n + 1, v2z, knots0 => if written0 ≤ v2z then (some (((-1) : Int32), knots0)) else (if pz_inb v2z 64 = true then (if (knots0 v2z.toNatClampNeg) < 0 then (FX2_settleGears_L fu written0 places0 gears4 names4 n (v2z + 1) knots0) else (if pz_inb v2z 64 = true then ((FX6_gearOf fu (knots0 v2z.toNatClampNeg) gears4 names4).bind (fun y5z => if ¬ y5z = (-1) then (if pz_inb v2z 64 = true then (FX2_settleGears_L fu written0 places0 gears4 names4 n (v2z + 1) (upd knots0 v2z.toNatClampNeg y5z)) else none) else (if pz_inb v2z 64 = true then (some (places0 v2z.toNatClampNeg, knots0)) else none))) else none)) else none)
def FX2_settleGears (fu : Nat) (written0 : Int32) (knots0 : Nat → Int32) (places0 : Nat → Int32) (gears4 : Int32) (names4 : Nat → Int32) : Option (Int32 × (Nat → Int32)) := FX2_settleGears_L fu written0 places0 gears4 names4 fu (0 : Int32) knots0
def fX10_look_r (p1z : Int32) (p2z : Int32) : Int32 := if ¬ ((p1z >>> ((4 * p2z) &&& 31)) &&& 15) = 15 then ((p1z >>> ((4 * p2z) &&& 31)) &&& 15) else (-1)
def fX10_bitOf_r (p1z : Int32) : Int32 := if ¬ p1z = (-1) then (1 <<< (p1z &&& 31)) else 0
def fX11_isOff_r (p1z : Int32) : Int32 := if p1z < (-1800) then 0 else (if 1799 < p1z then 0 else 1)
def fX11_isDistance_r (p1z : Int32) : Int32 := if p1z < 0 then 0 else (if 3600 < p1z then 0 else 1)
