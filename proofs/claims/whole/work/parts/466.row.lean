/-! ===== a row LINE ===== -/
def rowN (rows rowsR : Int32) (rs rl ro rs' rm' ro' : Nat → Int32) (R : Nat) : Prop := rows.toInt = R ∧ R ≤ 6 ∧ rowsR = rows ∧ ∀ r, r < R → rs' (6 + r) = rs r ∧ (1 ≤ (rs r).toInt ∧ (rs r).toInt ≤ 9) ∧ rm' (6 + r) = rl r ∧ (1 ≤ (rl r).toInt ∧ (rl r).toInt ≤ 12) ∧ ∀ k : Nat, (k : Int) < (rl r).toInt → ro' (12 * (6 + r) + k) = ro (12 * r + k) ∧ in30 (ro (12 * r + k))
def frmR (rs' rm' ro' rs2 rm2 ro2 : Nat → Int32) : Prop := (∀ q, q < 6 → rs2 q = rs' q ∧ rm2 q = rm' q) ∧ ∀ q, q < 72 → ro2 q = ro' q
section
variable {fu : Nat} {len : Int32} {bytes tape : Nat → Int32} {L : Nat}
theorem num_fault {fa : Int32} (h : ¬ fa = 0) (lo hi at' pl rs rv fp : Int32) : FX12_numeral fu lo hi len at' pl rs rv fa fp tape = some (lo, at', pl, rs, rv, fa, fp) := by
  unfold FX12_numeral
  rw [if_neg h]
theorem num_none {rs : Int32} (h : ¬ rs = 2) (lo hi at' pl rv : Int32) : FX12_numeral fu lo hi len at' pl rs rv 0 (-1) tape = some (lo, at', pl, rs, rv, 1, pl) := by
  unfold FX12_numeral
  rw [if_pos rfl, if_neg h]
  rfl
theorem num_out (lo hi at' pl rv : Int32) (h : rv < lo ∨ hi < rv) : FX12_numeral fu lo hi len at' pl 2 rv 0 (-1) tape = some (lo, at', pl, 2, rv, 2, pl) := by
  have e : FX12_numeral_J41 fu lo len tape at' pl 2 rv 0 (-1) = some (lo, at', pl, 2, rv, 2, pl) := rfl
  unfold FX12_numeral
  rw [if_pos rfl, if_pos rfl, e]
  by_cases c : rv < lo
  · rw [if_pos c]
  · rw [if_neg c]
    rcases h with z | z
    · exact absurd z c
    · rw [if_neg (show ¬ rv ≤ hi by rw [i_le]; rw [i_lt] at z; omega)]
theorem num_ok {lo hi at' pl rv a b c d : Int32} (h1 : ¬ rv < lo) (h2 : rv ≤ hi) (h : FX12_next fu len at' pl 2 rv tape = some (a, b, c, d)) : FX12_numeral fu lo hi len at' pl 2 rv 0 (-1) tape = some (rv, a, b, c, d, 0, -1) := by
  unfold FX12_numeral FX12_numeral_J46
  rw [if_pos rfl, if_pos rfl, if_neg h1, if_pos h2, if_pos rfl, h]
  rfl
/-- behind the number of an ORDER -/
def rowT (fu : Nat) (p1 len : Int32) (tape : Nat → Int32) (n : Nat) (rowsR : Int32) (rs' rm' ro' : Nat → Int32) (o at' pl rs rv fa fp : Int32) : Option (Int32 × Int32 × Int32 × Int32 × Int32 × Int32 × Int32 × (Nat → Int32) × (Nat → Int32) × (Nat → Int32)) := if fa = 0 then (if pz_inb p1 12 = true then (if pz_inb ((12 * p1) + (rm' p1.toNatClampNeg)) 144 = true then (if pz_inb p1 12 = true then (if pz_inb p1 12 = true then (if ¬ (fX12_isSign_r 45 rs rv fa) = 0 then (FX12_rowLine_L fu p1 len tape n (1 : Int32) rowsR at' pl rs rv fa fp rs' (upd rm' p1.toNatClampNeg ((rm' p1.toNatClampNeg) + 1)) (upd ro' ((12 * p1) + (rm' p1.toNatClampNeg)).toNatClampNeg o)) else (if ¬ rs = 2 then (FX12_rowLine_L fu p1 len tape n (0 : Int32) rowsR at' pl rs rv fa fp rs' (upd rm' p1.toNatClampNeg ((rm' p1.toNatClampNeg) + 1)) (upd ro' ((12 * p1) + (rm' p1.toNatClampNeg)).toNatClampNeg o)) else (FX12_rowLine_L fu p1 len tape n (1 : Int32) rowsR at' pl rs rv fa fp rs' (upd rm' p1.toNatClampNeg ((rm' p1.toNatClampNeg) + 1)) (upd ro' ((12 * p1) + (rm' p1.toNatClampNeg)).toNatClampNeg o)))) else none) else none) else none) else none) else (some (rowsR, at', pl, rs, rv, fa, fp, rs', rm', ro'))
def rowA (fu : Nat) (p1 len : Int32) (tape : Nat → Int32) (n : Nat) (rowsR : Int32) (rs' rm' ro' : Nat → Int32) (neg : Bool) (at' pl rs rv : Int32) : Option (Int32 × Int32 × Int32 × Int32 × Int32 × Int32 × Int32 × (Nat → Int32) × (Nat → Int32) × (Nat → Int32)) := if ¬ rs = 2 then ((FX12_numeral fu (0 : Int32) (30 : Int32) len at' pl rs rv 0 (-1) tape).bind (fun y => rowT fu p1 len tape n rowsR rs' rm' ro' (if neg then (-y.1) else y.1) y.2.1 y.2.2.1 y.2.2.2.1 y.2.2.2.2.1 y.2.2.2.2.2.1 y.2.2.2.2.2.2)) else (if pz_inb p1 12 = true then (if ¬ (rm' p1.toNatClampNeg) = 12 then ((FX12_numeral fu (0 : Int32) (30 : Int32) len at' pl rs rv 0 (-1) tape).bind (fun y => rowT fu p1 len tape n rowsR rs' rm' ro' (if neg then (-y.1) else y.1) y.2.1 y.2.2.1 y.2.2.2.1 y.2.2.2.2.1 y.2.2.2.2.2.1 y.2.2.2.2.2.2)) else ((FX12_numeral fu (0 : Int32) (30 : Int32) len at' pl rs rv 2 pl tape).bind (fun y => rowT fu p1 len tape n rowsR rs' rm' ro' (if neg then (-y.1) else y.1) y.2.1 y.2.2.1 y.2.2.2.1 y.2.2.2.2.1 y.2.2.2.2.2.1 y.2.2.2.2.2.2))) else none)
theorem row_unf (p1 : Int32) (n : Nat) (rowsR at' pl rs rv : Int32) (rs' rm' ro' : Nat → Int32) : FX12_rowLine_L fu p1 len tape (n + 1) 1 rowsR at' pl rs rv 0 (-1) rs' rm' ro' = (if (fX12_isSign_r 45 rs rv 0) = 0 then rowA fu p1 len tape n rowsR rs' rm' ro' false at' pl rs rv else ((FX12_next fu len at' pl rs rv tape).bind (fun y => rowA fu p1 len tape n rowsR rs' rm' ro' true y.1 y.2.1 y.2.2.1 y.2.2.2))) := by
  rw [FX12_rowLine_L, if_neg (show ¬ (1 : Int32) = 0 by decide), if_neg (show ¬ ¬ (0 : Int32) = 0 by decide)]
  rfl
/-- an ORDER of a row, its sign read -/
theorem row_J18 (hfu : 10000 ≤ fu) (hT : tapeR bytes tape) (hlen : len.toInt = L) (hL : L ≤ 600) {nx ck cv pl rs rv : Int32} {q e : Nat} (htk : tkS L nx ck cv pl rs rv q e) {R m : Nat} (hR : R < 6) (hm : m ≤ 12) (rows1 p1 : Int32) (hrows : rows1.toInt = R + 1) (hp1 : p1.toInt = 6 + R) (rl ro rs' rm' ro' : Nat → Int32) (hrl : (rl R).toInt = m) (hrm : rm' (6 + R) = rl R) (rowsR : Int32) (n : Nat) (v1 : Int32) (hv1 : v1 = 0 ∨ v1 = 1) :
    (∃ (nx2 ck2 cv2 pl2 rs2 rv2 o : Int32) (q2 e2 : Nat), FX7_readRowOrder_J18 fu len bytes rows1 v1 0 (-1) nx ck cv pl rl ro = some (1, 0, -1, nx2, ck2, cv2, pl2, upd rl R (rl R + 1), upd ro (12 * R + m) o) ∧ rowA fu p1 len tape n rowsR rs' rm' ro' (decide (¬ v1 = 0)) nx pl rs rv = FX12_rowLine_L fu p1 len tape n (if ¬ fX12_isSign_r 45 rs2 rv2 0 = 0 then 1 else if ¬ rs2 = 2 then 0 else 1) rowsR nx2 pl2 rs2 rv2 0 (-1) rs' (upd rm' (6 + R) (rl R + 1)) (upd ro' (12 * (6 + R) + m) o) ∧ tkS L nx2 ck2 cv2 pl2 rs2 rv2 q2 e2 ∧ q < q2 ∧ in30 o ∧ m < 12) ∨
    (∃ (fa fp nx2 ck2 cv2 plc : Int32) (rl2 ro2 : Nat → Int32) (nxR plR rsR rvR : Int32), FX7_readRowOrder_J18 fu len bytes rows1 v1 0 (-1) nx ck cv pl rl ro = some (0, fa, fp, nx2, ck2, cv2, plc, rl2, ro2) ∧ rowA fu p1 len tape n rowsR rs' rm' ro' (decide (¬ v1 = 0)) nx pl rs rv = some (rowsR, nxR, plR, rsR, rvR, fa, fp, rs', rm', ro') ∧ ¬ fa = 0) := by
  have q0 := t_0
  have q1 := t_1
  have t12 : (12 : Int32).toInt = 12 := rfl
  have t30 : (30 : Int32).toInt = 30 := rfl
  have ht := htk.2.2.2.2.2
  have hi12 : pz_inb p1 12 = true := i_inb.mpr (by omega)
  have hp1n : p1.toNatClampNeg = 6 + R := by have := i_nat (a := p1) (by omega); omega
  have hs1 := i_sub rows1 1 (by omega) (by omega)
  have hi6 : pz_inb (rows1 - 1) 6 = true := i_inb.mpr (by omega)
  have hr1n : (rows1 - 1).toNatClampNeg = R := by have := i_nat (a := rows1 - 1) (by omega); omega
  have hll : FX6_latestLength fu rows1 rl = some (rl R) := by
    unfold FX6_latestLength
    rw [if_neg (show ¬ rows1 ≤ 0 by rw [i_le]; omega), if_pos hi6, hr1n]
  unfold FX7_readRowOrder_J18 rowA
  have rowTf : ∀ o a b c d fa fp, ¬ fa = 0 → rowT fu p1 len tape n rowsR rs' rm' ro' o a b c d fa fp = some (rowsR, a, b, c, d, fa, fp, rs', rm', ro') := by
    intro o a b c d fa fp h
    unfold rowT
    rw [if_neg h]
  by_cases c3 : ck = 3
  case neg =>
    have hrs : ¬ rs = 2 := by
      rcases ht with ⟨h1, h2, h3⟩ | ⟨h1, h2, h3⟩ | ⟨h1, h2, h3⟩ | ⟨h1, h2, h3⟩ | ⟨h1, h2, h3⟩ | ⟨h1, h2⟩
      · rw [h3]; decide
      · rw [h2]; decide
      · rw [h2]; decide
      · exact absurd h1 c3
      · rw [h2]; decide
      · rw [h2]; decide
    rw [if_neg c3, if_pos hrs, num_none hrs, Option.bind_some, rowTf _ _ _ _ _ _ _ (show ¬ (1 : Int32) = 0 by decide)]
    exact Or.inr ⟨1, pl, nx, ck, cv, pl, rl, ro, nx, pl, rs, rv, rfl, rfl, by decide⟩
  have hrs : rs = 2 ∧ nuR cv rv := by
    rcases ht with ⟨h1, h2, h3⟩ | ⟨h1, h2, h3⟩ | ⟨h1, h2, h3⟩ | ⟨h1, h2, h3⟩ | ⟨h1, h2, h3⟩ | ⟨h1, h2⟩
    · rw [h1] at c3; exact absurd c3 (by decide)
    · rw [h1] at c3; exact absurd c3 (by decide)
    · rw [h1] at c3; exact absurd c3 (by decide)
    · exact ⟨h2, h3⟩
    · rw [h1] at c3; exact absurd c3 (by decide)
    · rw [h1] at c3; exact absurd c3 (by decide)
  obtain ⟨r1, r2⟩ := hrs
  subst r1
  rw [if_pos c3, if_neg (show ¬ ¬ (2 : Int32) = 2 by decide), if_pos hi12, hp1n, hrm, hll, Option.bind_some]
  by_cases c12 : m = 12
  · have e12 : rl R = 12 := i_eq.mpr (by omega)
    rw [if_pos (show (12 : Int32) ≤ rl R by rw [i_le]; omega), if_neg (show ¬ ¬ rl R = 12 from fun z => z e12), num_fault (show ¬ (2 : Int32) = 0 by decide), Option.bind_some, rowTf _ _ _ _ _ _ _ (show ¬ (2 : Int32) = 0 by decide)]
    exact Or.inr ⟨2, pl, nx, ck, cv, pl, rl, ro, nx, pl, 2, rv, rfl, rfl, by decide⟩
  · have ne12 : ¬ rl R = 12 := fun z => c12 (by have := i_eq.mp z; omega)
    have nle12 : ¬ (12 : Int32) ≤ rl R := by rw [i_le]; omega
    rw [if_neg nle12, if_pos ne12]
    by_cases c30 : cv ≤ 30
    · have c30' := c30
      rw [i_le] at c30'
      have hcv : cv = rv ∧ 0 ≤ cv.toInt := by
        rcases r2 with ⟨z1, z2, z3⟩ | ⟨z1, z2, z3⟩
        · exact ⟨z1, z2⟩
        · rw [z1] at c30'; exact absurd c30' (by decide)
      obtain ⟨hcv1, hcv2⟩ := hcv
      subst hcv1
      obtain ⟨nx2, ck2, cv2, pl2, rs2, rv2, q2, e2, d1, d2, d3, d4⟩ := tk_adv hfu hT hlen hL htk (by rw [c3]; decide)
      have hneg := i_neg cv (by omega)
      have idx1 := i_mul (rows1 - 1) 12 (by rw [t12]; omega) (by rw [t12]; omega)
      rw [t12] at idx1
      have idx2 := i_add ((rows1 - 1) * 12) (rl R) (by omega) (by omega)
      have hi72 : pz_inb ((rows1 - 1) * 12 + rl R) 72 = true := i_inb.mpr (by omega)
      have hn72 : ((rows1 - 1) * 12 + rl R).toNatClampNeg = 12 * R + m := by have := i_nat (a := (rows1 - 1) * 12 + rl R) (by omega); omega
      have hadd : ∀ o, FX6_addRowOrder fu o rows1 rl ro = some (upd rl R (rl R + 1), upd ro (12 * R + m) o) := by
        intro o
        unfold FX6_addRowOrder
        rw [if_neg (show ¬ rows1 - 1 < 0 by rw [i_lt]; omega), if_pos hi6, hr1n, if_neg nle12, if_pos hi6, if_pos hi72, if_pos hi6, if_pos hi6, hn72]
      have jdx1 := i_mul 12 p1 (by rw [t12]; omega) (by rw [t12]; omega)
      rw [t12] at jdx1
      have jdx2 := i_add (12 * p1) (rl R) (by omega) (by omega)
      have hi144 : pz_inb (12 * p1 + rl R) 144 = true := i_inb.mpr (by omega)
      have hn144 : (12 * p1 + rl R).toNatClampNeg = 12 * (6 + R) + m := by have := i_nat (a := 12 * p1 + rl R) (by omega); omega
      have hT2 : ∀ o, rowT fu p1 len tape n rowsR rs' rm' ro' o nx2 pl2 rs2 rv2 0 (-1) = FX12_rowLine_L fu p1 len tape n (if ¬ fX12_isSign_r 45 rs2 rv2 0 = 0 then 1 else if ¬ rs2 = 2 then 0 else 1) rowsR nx2 pl2 rs2 rv2 0 (-1) rs' (upd rm' (6 + R) (rl R + 1)) (upd ro' (12 * (6 + R) + m) o) := by
        intro o
        unfold rowT
        rw [if_pos rfl, if_pos hi12, hp1n, hrm, if_pos hi144, if_pos hi12, if_pos hi12, hn144]
        by_cases z1 : fX12_isSign_r 45 rs2 rv2 0 = 0
        · rw [if_neg (show ¬ ¬ _ = (0 : Int32) from fun z => z z1), if_neg (show ¬ ¬ _ = (0 : Int32) from fun z => z z1)]
          by_cases z2 : rs2 = 2
          · rw [if_neg (show ¬ ¬ rs2 = 2 from fun z => z z2), if_neg (show ¬ ¬ rs2 = 2 from fun z => z z2)]
          · rw [if_pos z2, if_pos z2]
        · rw [if_pos z1, if_pos z1]
      rw [if_pos c30, num_ok (show ¬ cv < 0 by rw [i_lt]; omega) c30 d2, Option.bind_some]
      rcases hv1 with z | z
      · subst z
        rw [if_pos rfl, hadd, Option.bind_some, d1, Option.bind_some]
        refine Or.inl ⟨nx2, ck2, cv2, pl2, rs2, rv2, cv, q2, e2, rfl, hT2 cv, d3, d4, ⟨by omega, by omega⟩, by omega⟩
      · subst z
        rw [if_neg (show ¬ (1 : Int32) = 0 by decide), hadd, Option.bind_some, d1, Option.bind_some]
        refine Or.inl ⟨nx2, ck2, cv2, pl2, rs2, rv2, -cv, q2, e2, rfl, hT2 (-cv), d3, d4, ⟨by omega, by omega⟩, by omega⟩
    · have hout : (30 : Int32) < rv := by
        rw [i_le] at c30
        rw [i_lt]
        rcases r2 with ⟨z1, z2, z3⟩ | ⟨z1, z2, z3⟩
        · rw [← z1]; omega
        · omega
      rw [if_neg c30, num_out 0 30 nx pl rv (Or.inr hout), Option.bind_some, rowTf _ _ _ _ _ _ _ (show ¬ (2 : Int32) = 0 by decide)]
      exact Or.inr ⟨2, pl, nx, ck, cv, pl, rl, ro, nx, pl, 2, rv, rfl, rfl, by decide⟩
end
