/-! ===== the class's loop over an E or a B, a turn at a time ===== -/
theorem sg_uni {c r c' r' : Int32} (h : sgR c r) (h' : sgR c' r') : c = c' ↔ r = r' := by
  rcases h with ⟨rfl, rfl⟩ | ⟨rfl, rfl⟩ | ⟨rfl, rfl⟩ | ⟨rfl, rfl⟩ | ⟨rfl, rfl⟩ | ⟨rfl, rfl⟩ | ⟨rfl, rfl⟩ | ⟨rfl, rfl⟩ | ⟨rfl, rfl⟩ | ⟨rfl, rfl⟩ | ⟨rfl, rfl⟩ | ⟨rfl, rfl⟩ | ⟨rfl, rfl⟩ <;>
  rcases h' with ⟨rfl, rfl⟩ | ⟨rfl, rfl⟩ | ⟨rfl, rfl⟩ | ⟨rfl, rfl⟩ | ⟨rfl, rfl⟩ | ⟨rfl, rfl⟩ | ⟨rfl, rfl⟩ | ⟨rfl, rfl⟩ | ⟨rfl, rfl⟩ | ⟨rfl, rfl⟩ | ⟨rfl, rfl⟩ | ⟨rfl, rfl⟩ | ⟨rfl, rfl⟩ <;> decide
theorem wc_uni : ∀ i, i < 12 → ∀ j, j < 12 → ((wcode i = wcode j ↔ i = j) ∧ (Int32.ofNat i = Int32.ofNat j ↔ i = j)) := by decide +kernel
theorem atS {ck cv rs rv c r : Int32} (ht : tokR ck cv rs rv) (hs : sgR c r) : (fX7_atSign_r c ck cv = 0 ∧ fX12_isSign_r r rs rv 0 = 0 ∧ ¬ (ck = 4 ∧ cv = c)) ∨ (fX7_atSign_r c ck cv = 1 ∧ fX12_isSign_r r rs rv 0 = 1 ∧ ck = 4 ∧ cv = c ∧ rs = 3 ∧ rv = r) := by
  unfold fX7_atSign_r fX12_isSign_r
  have z : ¬ ¬ (0 : Int32) = 0 := by decide
  rcases ht with ⟨h1, h2, h3⟩ | ⟨h1, h2, h3⟩ | ⟨h1, h2, h3⟩ | ⟨h1, h2, h3⟩ | ⟨h1, h2, h3⟩ | ⟨h1, h2⟩
  · rw [if_pos (show ¬ ck = 4 by rw [h1]; decide), if_neg z, if_pos (show ¬ rs = 3 by rw [h3]; decide)]
    exact Or.inl ⟨rfl, rfl, fun w => by rw [h1] at w; exact absurd w.1 (by decide)⟩
  · rw [if_pos (show ¬ ck = 4 by rw [h1]; decide), if_neg z, if_pos (show ¬ rs = 3 by rw [h2]; decide)]
    exact Or.inl ⟨rfl, rfl, fun w => by rw [h1] at w; exact absurd w.1 (by decide)⟩
  · rw [if_pos (show ¬ ck = 4 by rw [h1]; decide), if_neg z, if_pos (show ¬ rs = 3 by rw [h2]; decide)]
    exact Or.inl ⟨rfl, rfl, fun w => by rw [h1] at w; exact absurd w.1 (by decide)⟩
  · rw [if_pos (show ¬ ck = 4 by rw [h1]; decide), if_neg z, if_pos (show ¬ rs = 3 by rw [h2]; decide)]
    exact Or.inl ⟨rfl, rfl, fun w => by rw [h1] at w; exact absurd w.1 (by decide)⟩
  · rw [if_neg (show ¬ ¬ ck = 4 from fun w => w h1), if_neg z, if_neg (show ¬ ¬ rs = 3 from fun w => w h2)]
    have u := sg_uni h3 hs
    by_cases g : cv = c
    · rw [if_neg (show ¬ ¬ cv = c from fun w => w g), if_neg (show ¬ ¬ rv = r from fun w => w (u.mp g))]
      exact Or.inr ⟨rfl, rfl, h1, g, h2, u.mp g⟩
    · rw [if_pos g, if_pos (show ¬ rv = r from fun w => g (u.mpr w))]
      exact Or.inl ⟨rfl, rfl, fun w => g w.2⟩
  · rw [if_pos (show ¬ ck = 4 by rw [h1]; decide), if_neg z, if_pos (show ¬ rs = 3 by rw [h2]; decide)]
    exact Or.inl ⟨rfl, rfl, fun w => by rw [h1] at w; exact absurd w.1 (by decide)⟩
theorem atW {ck cv rs rv : Int32} (ht : tokR ck cv rs rv) {i : Nat} (hi : i < 12) : (fX7_atWord_r (wcode i) ck cv = 0 ∧ fX12_isWord_r (Int32.ofNat i) rs rv 0 = 0 ∧ ¬ (ck = 1 ∧ cv = wcode i)) ∨ (fX7_atWord_r (wcode i) ck cv = 1 ∧ fX12_isWord_r (Int32.ofNat i) rs rv 0 = 1 ∧ ck = 1 ∧ cv = wcode i ∧ rs = 0 ∧ rv = Int32.ofNat i) := by
  unfold fX7_atWord_r fX12_isWord_r
  have z : ¬ ¬ (0 : Int32) = 0 := by decide
  rcases ht with ⟨h1, h2, h3⟩ | ⟨h1, h2, j, j1, j2, j3⟩ | ⟨h1, h2, h3⟩ | ⟨h1, h2, h3⟩ | ⟨h1, h2, h3⟩ | ⟨h1, h2⟩
  · rw [if_pos (show ¬ ck = 1 by rw [h1]; decide), if_neg z, if_pos (show ¬ rs = 0 by rw [h3]; decide)]
    exact Or.inl ⟨rfl, rfl, fun w => by rw [h1] at w; exact absurd w.1 (by decide)⟩
  · rw [if_neg (show ¬ ¬ ck = 1 from fun w => w h1), if_neg z, if_neg (show ¬ ¬ rs = 0 from fun w => w h2)]
    obtain ⟨u1, u2⟩ := wc_uni j j1 i hi
    by_cases g : j = i
    · subst g
      rw [if_neg (show ¬ ¬ cv = wcode j from fun w => w j2), if_neg (show ¬ ¬ rv = Int32.ofNat j from fun w => w j3)]
      exact Or.inr ⟨rfl, rfl, h1, j2, h2, j3⟩
    · have g1 : ¬ cv = wcode i := fun w => g (u1.mp (j2.symm.trans w))
      have g2 : ¬ rv = Int32.ofNat i := fun w => g (u2.mp (j3.symm.trans w))
      rw [if_pos g1, if_pos g2]
      exact Or.inl ⟨rfl, rfl, fun w => g1 w.2⟩
  · rw [if_pos (show ¬ ck = 1 by rw [h1]; decide), if_neg z, if_pos (show ¬ rs = 0 by rw [h2]; decide)]
    exact Or.inl ⟨rfl, rfl, fun w => by rw [h1] at w; exact absurd w.1 (by decide)⟩
  · rw [if_pos (show ¬ ck = 1 by rw [h1]; decide), if_neg z, if_pos (show ¬ rs = 0 by rw [h2]; decide)]
    exact Or.inl ⟨rfl, rfl, fun w => by rw [h1] at w; exact absurd w.1 (by decide)⟩
  · rw [if_pos (show ¬ ck = 1 by rw [h1]; decide), if_neg z, if_pos (show ¬ rs = 0 by rw [h2]; decide)]
    exact Or.inl ⟨rfl, rfl, fun w => by rw [h1] at w; exact absurd w.1 (by decide)⟩
  · rw [if_pos (show ¬ ck = 1 by rw [h1]; decide), if_neg z, if_pos (show ¬ rs = 0 by rw [h2]; decide)]
    exact Or.inl ⟨rfl, rfl, fun w => by rw [h1] at w; exact absurd w.1 (by decide)⟩
/-- the class's loop, all well so far -/
def CE (fu : Nat) (g len : Int32) (bytes : Nat → Int32) (f : Nat) (v4 wt op ph nx ck cv pl : Int32) (W : Nat → Int32) (cnt wr : Int32) (K pls : Nat → Int32) := FX7_readExpression_L fu g len bytes f 1 v4 g wt op ph 0 (-1) nx ck cv pl W cnt wr K pls
/-- it ends with a FAULT -/
def CFail (g : Int32) (E : Option (Int32 × Nat × Int32 × Int32 × Int32 × Int32 × Int32 × Int32 × Int32 × Int32 × Int32 × Int32 × (Nat → Int32) × Int32 × Int32 × (Nat → Int32) × (Nat → Int32))) (fa fp : Int32) : Prop := ∃ (wt op ph nx ck cv pl : Int32) (W : Nat → Int32) (cnt wr : Int32) (K pls : Nat → Int32), E = some (0, 4, g, wt, op, ph, fa, fp, nx, ck, cv, pl, W, cnt, wr, K, pls)
section
variable {fu : Nat} {g len : Int32} {bytes : Nat → Int32} {f : Nat} {v4 wt op ph nx ck cv pl : Int32} {W : Nat → Int32} {cnt wr : Int32} {K pls : Nat → Int32}
theorem it_op (h2 : ¬ ph = 2) (h3 : ¬ ph = 3) (hv : 0 ≤ v4.toInt) {wt' op' ph' nx' ck' cv' pl' : Int32} {W' : Nat → Int32} {cnt' wr' : Int32} {K' pls' : Nat → Int32} (h : FX7_readOperand fu g wt op ph 0 (-1) ck cv pl W cnt wr K pls = some (1, wt', op', ph', 0, -1, W', cnt', wr', K', pls')) (hp : ¬ ph' = 3) (ha : FX5_advance fu len nx ck cv pl bytes = some (nx', ck', cv', pl')) : CE fu g len bytes (f + 1) v4 wt op ph nx ck cv pl W cnt wr K pls = CE fu g len bytes f (v4 + (-1)) wt' op' ph' nx' ck' cv' pl' W' cnt' wr' K' pls' := by
  have q0 := t_0
  unfold CE
  rw [FX7_readExpression_L, if_neg (show ¬ v4 < 0 by rw [i_lt]; omega), if_neg (show ¬ (1 : Int32) = 0 by decide), if_neg h3, if_pos h2, h, Option.bind_some]
  show (if (1 : Int32) = 0 then _ else (if ph' = 3 then _ else _)) = _
  rw [if_neg (show ¬ (1 : Int32) = 0 by decide), if_neg hp, ha, Option.bind_some]
theorem it_op_fail (h2 : ¬ ph = 2) (h3 : ¬ ph = 3) (hv : 0 ≤ v4.toInt) {wt' op' ph' fa fp : Int32} {W' : Nat → Int32} {cnt' wr' : Int32} {K' pls' : Nat → Int32} (h : FX7_readOperand fu g wt op ph 0 (-1) ck cv pl W cnt wr K pls = some (0, wt', op', ph', fa, fp, W', cnt', wr', K', pls')) : CFail g (CE fu g len bytes (f + 2) v4 wt op ph nx ck cv pl W cnt wr K pls) fa fp := by
  have q0 := t_0
  unfold CE CFail
  rw [FX7_readExpression_L, if_neg (show ¬ v4 < 0 by rw [i_lt]; omega), if_neg (show ¬ (1 : Int32) = 0 by decide), if_neg h3, if_pos h2, h, Option.bind_some]
  refine ⟨wt', op', ph', nx, ck, cv, pl, W', cnt', wr', K', pls', ?_⟩
  show (if (0 : Int32) = 0 then _ else _) = _
  rw [if_pos rfl, FX7_readExpression_L]
  by_cases c : v4 + (-1) < 0
  · rw [if_pos c, if_pos (Or.inl rfl)]
  · rw [if_neg c, if_pos rfl, if_pos (Or.inl rfl)]
theorem it_bo (hv : 0 ≤ v4.toInt) {wt' op' ph' nx' ck' cv' pl' : Int32} {W' : Nat → Int32} {cnt' wr' : Int32} {K' pls' : Nat → Int32} (h : FX7_goOnBehindOperand fu g wt op 2 0 (-1) ck cv pl W cnt wr K pls = some (1, wt', op', ph', 0, -1, W', cnt', wr', K', pls')) (hp : ¬ ph' = 3) (ha : FX5_advance fu len nx ck cv pl bytes = some (nx', ck', cv', pl')) : CE fu g len bytes (f + 1) v4 wt op 2 nx ck cv pl W cnt wr K pls = CE fu g len bytes f (v4 + (-1)) wt' op' ph' nx' ck' cv' pl' W' cnt' wr' K' pls' := by
  have q0 := t_0
  unfold CE
  rw [FX7_readExpression_L, if_neg (show ¬ v4 < 0 by rw [i_lt]; omega), if_neg (show ¬ (1 : Int32) = 0 by decide), if_neg (show ¬ (2 : Int32) = 3 by decide), if_neg (show ¬ ¬ (2 : Int32) = 2 by decide), h, Option.bind_some]
  show (if (1 : Int32) = 0 then _ else (if ph' = 3 then _ else _)) = _
  rw [if_neg (show ¬ (1 : Int32) = 0 by decide), if_neg hp, ha, Option.bind_some]
theorem it_bo_fail (hv : 0 ≤ v4.toInt) {wt' op' ph' fa fp : Int32} {W' : Nat → Int32} {cnt' wr' : Int32} {K' pls' : Nat → Int32} (h : FX7_goOnBehindOperand fu g wt op 2 0 (-1) ck cv pl W cnt wr K pls = some (0, wt', op', ph', fa, fp, W', cnt', wr', K', pls')) : CFail g (CE fu g len bytes (f + 2) v4 wt op 2 nx ck cv pl W cnt wr K pls) fa fp := by
  have q0 := t_0
  unfold CE CFail
  rw [FX7_readExpression_L, if_neg (show ¬ v4 < 0 by rw [i_lt]; omega), if_neg (show ¬ (1 : Int32) = 0 by decide), if_neg (show ¬ (2 : Int32) = 3 by decide), if_neg (show ¬ ¬ (2 : Int32) = 2 by decide), h, Option.bind_some]
  refine ⟨wt', op', ph', nx, ck, cv, pl, W', cnt', wr', K', pls', ?_⟩
  show (if (0 : Int32) = 0 then _ else _) = _
  rw [if_pos rfl, FX7_readExpression_L]
  by_cases c : v4 + (-1) < 0
  · rw [if_pos c, if_pos (Or.inl rfl)]
  · rw [if_neg c, if_pos rfl, if_pos (Or.inl rfl)]
theorem it_end (hv : 0 ≤ v4.toInt) {wt' op' : Int32} {W' : Nat → Int32} {cnt' wr' : Int32} {K' pls' : Nat → Int32} (h : FX7_goOnBehindOperand fu g wt op 2 0 (-1) ck cv pl W cnt wr K pls = some (1, wt', op', 3, 0, -1, W', cnt', wr', K', pls')) : CE fu g len bytes (f + 2) v4 wt op 2 nx ck cv pl W cnt wr K pls = some (1, 4, g, wt', op', 3, 0, -1, nx, ck, cv, pl, W', cnt', wr', K', pls') := by
  have q0 := t_0
  unfold CE
  rw [FX7_readExpression_L, if_neg (show ¬ v4 < 0 by rw [i_lt]; omega), if_neg (show ¬ (1 : Int32) = 0 by decide), if_neg (show ¬ (2 : Int32) = 3 by decide), if_neg (show ¬ ¬ (2 : Int32) = 2 by decide), h, Option.bind_some]
  show (if (1 : Int32) = 0 then _ else (if (3 : Int32) = 3 then _ else _)) = _
  rw [if_neg (show ¬ (1 : Int32) = 0 by decide), if_pos rfl, FX7_readExpression_L]
  by_cases c : v4 + (-1) < 0
  · rw [if_pos c, if_pos (Or.inr rfl)]
  · rw [if_neg c, if_neg (show ¬ (1 : Int32) = 0 by decide), if_pos rfl, if_pos (Or.inr rfl)]
theorem put_off (fu : Nat) (sg ph wt : Int32) (W : Nat → Int32) {n : Nat} (hn : wt.toInt = n) (h : n < 72) : FX7_putOff fu sg ph wt W = some (1, wt + 1, ph, upd W n sg) := by
  have hi : pz_inb wt 72 = true := i_inb.mpr (by omega)
  have hnn : wt.toNatClampNeg = n := by have := i_nat (a := wt) (by omega); omega
  have t72 : (Int32.ofNat 72).toInt = 72 := rfl
  unfold FX7_putOff
  rw [if_neg (by rw [i_le]; omega), if_pos hi, hnn]
/-- a '(' -/
theorem ro_open (ha : ¬ fX7_atSign_r (-19) ck cv = 0) {n : Nat} (hn : wt.toInt = n) (h : op.toInt < 8 → n < 72) : (op.toInt < 8 → FX7_readOperand fu g wt op ph 0 (-1) ck cv pl W cnt wr K pls = some (1, wt + 1, op + 1, 0, 0, -1, upd W n (-19), cnt, wr, K, pls)) ∧ (op.toInt = 8 → FX7_readOperand fu g wt op ph 0 (-1) ck cv pl W cnt wr K pls = some (0, wt, op, ph, 2, pl, W, cnt, wr, K, pls)) := by
  have t8 : (8 : Int32).toInt = 8 := rfl
  unfold FX7_readOperand
  rw [if_neg ha]
  constructor
  · intro h8
    rw [if_pos (by rw [i_lt]; omega), put_off fu _ _ _ _ hn (h h8), Option.bind_some]
    show (if (1 : Int32) = 0 ∨ (1 : Int32) = 1 then _ else _) = _
    rw [if_pos (Or.inr rfl)]
  · intro h8
    rw [if_neg (by rw [i_lt]; omega)]
theorem add_one : (cnt.toInt < 64 → fX2_addOne_r cnt = 1 ∧ fX2_addOne_f0_3 cnt = cnt + 1) ∧ (cnt.toInt = 64 → fX2_addOne_r cnt = 0) := by
  have t64 := t_64
  unfold fX2_addOne_r fX2_addOne_f0_3
  constructor
  · intro h
    have c : cnt < 64 := by rw [i_lt]; omega
    rw [if_pos c, if_pos c]
    exact ⟨rfl, rfl⟩
  · intro h
    rw [if_neg (show ¬ cnt < 64 by rw [i_lt]; omega)]
/-- a not -/
theorem ro_not (h0 : ph = 0) (ha : fX7_atSign_r (-19) ck cv = 0) (hw : ¬ fX7_atWord_r 486146048 ck cv = 0) {n : Nat} (hn : wt.toInt = n) (h : cnt.toInt < 64 → n < 72) : (cnt.toInt < 64 → FX7_readOperand fu g wt op ph 0 (-1) ck cv pl W cnt wr K pls = some (1, wt + 1, op, 0, 0, -1, upd W n (-6), cnt + 1, wr, K, pls)) ∧ (cnt.toInt = 64 → ∃ c', FX7_readOperand fu g wt op ph 0 (-1) ck cv pl W cnt wr K pls = some (0, wt, op, ph, 2, pl, W, c', wr, K, pls)) := by
  obtain ⟨a1, a2⟩ := add_one (cnt := cnt)
  unfold FX7_readOperand
  rw [if_pos ha, if_neg (show ¬ ¬ ph = 0 from fun z => z h0), if_neg hw]
  constructor
  · intro h8
    rw [(a1 h8).1, (a1 h8).2, if_neg (show ¬ (1 : Int32) = 0 by decide), put_off fu _ _ _ _ hn (h h8), Option.bind_some]
    show (if (1 : Int32) = 0 ∨ (1 : Int32) = 1 then _ else _) = _
    rw [if_pos (Or.inr rfl)]
  · intro h8
    rw [a2 h8, if_pos rfl]
    exact ⟨_, rfl⟩
/-- an operand -/
def opr (g ck cv : Int32) : Int32 := if g = 0 then fX7_valueHere_r ck cv else fX7_gearWordHere_r ck cv
theorem ro_val (ha : fX7_atSign_r (-19) ck cv = 0) (hw : ¬ ph = 0 ∨ fX7_atWord_r 486146048 ck cv = 0) : (opr g ck cv = -2147483648 → FX7_readOperand fu g wt op ph 0 (-1) ck cv pl W cnt wr K pls = some (0, wt, op, ph, 1, pl, W, cnt, wr, K, pls)) ∧ (¬ opr g ck cv = -2147483648 → ck = 3 → 9999 < opr g ck cv → FX7_readOperand fu g wt op ph 0 (-1) ck cv pl W cnt wr K pls = some (0, wt, op, ph, 2, pl, W, cnt, wr, K, pls)) ∧ (¬ opr g ck cv = -2147483648 → ¬ (ck = 3 ∧ 9999 < opr g ck cv) → cnt.toInt = 64 → ∃ c', FX7_readOperand fu g wt op ph 0 (-1) ck cv pl W cnt wr K pls = some (0, wt, op, ph, 2, pl, W, c', wr, K, pls)) ∧ (¬ opr g ck cv = -2147483648 → ¬ (ck = 3 ∧ 9999 < opr g ck cv) → cnt.toInt < 64 → ∀ w : Nat, wr.toInt = w → w < 64 → FX7_readOperand fu g wt op ph 0 (-1) ck cv pl W cnt wr K pls = some (1, wt, op, 2, 0, -1, W, cnt + 1, wr + 1, upd K w (opr g ck cv), upd pls w pl)) := by
  obtain ⟨a1, a2⟩ := add_one (cnt := cnt)
  have e : FX7_readOperand fu g wt op ph 0 (-1) ck cv pl W cnt wr K pls = FX7_readOperand_J102 fu ck pl (opr g ck cv) wt op ph 0 (-1) W cnt wr K pls := by
    have e2 : FX7_readOperand_J84 fu g ck cv pl wt op ph 0 (-1) W cnt wr K pls = FX7_readOperand_J102 fu ck pl (opr g ck cv) wt op ph 0 (-1) W cnt wr K pls := by
      unfold FX7_readOperand_J84 opr
      by_cases c : g = 0
      · rw [if_pos c, if_pos c]
      · rw [if_neg c, if_neg c]
    unfold FX7_readOperand
    rw [if_pos ha]
    by_cases c : ph = 0
    · rw [if_neg (show ¬ ¬ ph = 0 from fun z => z c)]
      rcases hw with z | z
      · exact absurd c z
      · rw [if_pos z, e2]
    · rw [if_pos c, e2]
  rw [e]
  unfold FX7_readOperand_J102
  refine ⟨fun h => ?_, fun h h3 h9 => ?_, fun h h3 h6 => ?_, fun h h3 h6 w hw h64 => ?_⟩
  · rw [if_neg (show ¬ ¬ opr g ck cv = -2147483648 from fun z => z h)]
  · rw [if_pos h, if_neg (show ¬ ¬ ck = 3 from fun z => z h3), if_pos h9]
  · have e3 : FX7_readOperand_J133 fu pl (opr g ck cv) wt op ph 0 (-1) W cnt wr K pls = some (0, wt, op, ph, 2, pl, W, fX2_addOne_f0_3 cnt, wr, K, pls) := by
      unfold FX7_readOperand_J133
      rw [a2 h6, if_neg (show ¬ ¬ (0 : Int32) = 0 by decide)]
    rw [if_pos h, e3]
    refine ⟨fX2_addOne_f0_3 cnt, ?_⟩
    by_cases c : ck = 3
    · rw [if_neg (show ¬ ¬ ck = 3 from fun z => z c), if_neg (fun z => h3 ⟨c, z⟩)]
    · rw [if_pos c]
  · have t64 := t_64
    have hi : pz_inb wr 64 = true := i_inb.mpr (by omega)
    have hn : wr.toNatClampNeg = w := by have := i_nat (a := wr) (by omega); omega
    have e3 : FX7_readOperand_J133 fu pl (opr g ck cv) wt op ph 0 (-1) W cnt wr K pls = some (1, wt, op, 2, 0, -1, W, cnt + 1, wr + 1, upd K w (opr g ck cv), upd pls w pl) := by
      unfold FX7_readOperand_J133 FX2_write
      rw [(a1 h6).1, (a1 h6).2, if_pos (show ¬ (1 : Int32) = 0 by decide), if_neg (show ¬ (64 : Int32) ≤ wr by rw [i_le]; omega), if_pos hi, if_pos hi, hn]
      rfl
    rw [if_pos h, e3]
    by_cases c : ck = 3
    · rw [if_neg (show ¬ ¬ ck = 3 from fun z => z c), if_neg (fun z => h3 ⟨c, z⟩)]
    · rw [if_pos c]
end
