-- deps: 100 110 111 112 113 114 115 116 117 118 119 120 121 130 131 132 133 134 135 136 137 138 139 140 141 142 143 144 145 146 200 201 202 203 204 205 206
/-! ===== steer ===== -/
def rowRel (rows : Int32) (rs rl ro rs' rm' ro' : Nat → Int32) (R : Nat) : Prop := rows.toInt = R ∧ R ≤ 6 ∧ ∀ r, r < R → rs' r = rs r ∧ (1 ≤ (rs r).toInt ∧ (rs r).toInt ≤ 9) ∧ rm' r = rl r ∧ (1 ≤ (rl r).toInt ∧ (rl r).toInt ≤ 12) ∧ ∀ k : Nat, (k : Int) < (rl r).toInt → ro' (12 * r + k) = ro (12 * r + k) ∧ in30 (ro (12 * r + k))
def rowK (rs rl : Nat → Int32) (r : Nat) (x : Int32) : Int32 := fJ9_min_7cf53_r ((x - 1) / rs r) (rl r - 1)
def rowO (rs rl ro : Nat → Int32) (r : Nat) (x : Int32) : Int32 := ro (12 * r + (rowK rs rl r x).toNatClampNeg)
theorem rowK_rng {rs rl : Nat → Int32} {r : Nat} {x : Int32} (hx : 1 ≤ x.toInt) (h1 : 1 ≤ (rs r).toInt) (h3 : 1 ≤ (rl r).toInt) (h4 : (rl r).toInt ≤ 12) : 0 ≤ (rowK rs rl r x).toInt ∧ (rowK rs rl r x).toInt < (rl r).toInt ∧ fJ9_min_7cf53_r (rl r - 1) ((x - 1) / rs r) = rowK rs rl r x := by
  have q1 := t_1
  have hx2 := x.toInt_lt
  have e1 := i_sub x 1 (by omega) (by omega)
  unfold rowK
  generalize x - 1 = y at *
  have e2 := i_div y (rs r) (by omega)
  have k := tdiv_rng y.toInt (rs r).toInt h1
  have e3 := i_sub (rl r) 1 (by omega) (by omega)
  generalize y / rs r = z at *
  generalize rl r - 1 = u at *
  unfold fJ9_min_7cf53_r
  simp only [i_lt]
  by_cases g : u.toInt < z.toInt
  · rw [if_pos g, if_neg (by omega)]
    exact ⟨by omega, by omega, rfl⟩
  · rw [if_neg g]
    by_cases g2 : z.toInt < u.toInt
    · rw [if_pos g2]; exact ⟨by omega, by omega, rfl⟩
    · rw [if_neg g2]; exact ⟨by omega, by omega, i_eq.mpr (by omega)⟩
theorem row_both (fu : Nat) {rows : Int32} {rs rl ro rs' rm' ro' : Nat → Int32} {R : Nat} (h : rowRel rows rs rl ro rs' rm' ro' R) {p1 x : Int32} {r : Nat} (hp : p1.toInt = r) (hr : r < R) (hx : 1 ≤ x.toInt) : FX6_orderOfRow fu p1 x rows rs rl ro = some (rowO rs rl ro r x) ∧ FX12_rowed fu p1 x rs' rm' ro' = some (rowO rs rl ro r x) ∧ in30 (rowO rs rl ro r x) := by
  obtain ⟨h1, h2, h3⟩ := h
  obtain ⟨a1, ⟨a2, a3⟩, a4, ⟨a5, a6⟩, a7⟩ := h3 r hr
  obtain ⟨k1, k2, k3⟩ := rowK_rng hx a2 a5 a6
  have q1 := t_1
  have q0 := t_0
  have q12 : (12 : Int32).toInt = 12 := rfl
  have hn : p1.toNatClampNeg = r := by have := i_nat (a := p1) (by omega); omega
  have hkn := i_nat (a := rowK rs rl r x) k1
  have hb := a7 (rowK rs rl r x).toNatClampNeg (by omega)
  refine ⟨?_, ?_, hb.2⟩
  · have hr1 : ¬ fX6_hasRow_r p1 rows = 0 := by
      unfold fX6_hasRow_r
      rw [if_neg (by rw [i_lt]; omega), if_neg (by rw [i_le]; omega)]
      decide
    have hi6 : pz_inb p1 6 = true := i_inb.mpr (by omega)
    unfold FX6_orderOfRow
    rw [if_neg hr1, if_pos hi6, hn, if_pos (show 1 ≤ rs r by rw [i_le]; omega), if_pos hi6, if_pos (show ¬ rs r = 0 by rw [i_eq]; omega), if_pos hi6]
    have : FX6_rowOrder fu p1 (rowK rs rl r x) rows ro = some (rowO rs rl ro r x) := by
      unfold FX6_rowOrder rowO
      have m1 := i_mul p1 12 (by rw [q12]; omega) (by rw [q12]; omega)
      rw [q12] at m1
      generalize p1 * 12 = pm at *
      have m2 := i_add pm (rowK rs rl r x) (by omega) (by omega)
      rw [if_neg hr1, if_neg (show ¬ rowK rs rl r x < 0 by rw [i_lt]; omega), if_neg (show ¬ 12 ≤ rowK rs rl r x by rw [i_le]; omega)]
      generalize pm + rowK rs rl r x = z at *
      have hi : pz_inb z 72 = true := i_inb.mpr (by omega)
      have hz : z.toNatClampNeg = 12 * r + (rowK rs rl r x).toNatClampNeg := by have := i_nat (a := z) (by omega); omega
      rw [if_pos hi, hz]
    show (FX6_rowOrder fu p1 (rowK rs rl r x) rows ro).bind _ = _
    rw [this]
    rfl
  · have hi12 : pz_inb p1 12 = true := i_inb.mpr (by omega)
    unfold FX12_rowed rowO
    rw [if_pos hi12, if_pos hi12, hn, a1, a4, if_pos (show ¬ rs r = 0 by rw [i_eq]; omega), k3]
    have m1 := i_mul 12 p1 (by rw [q12]; omega) (by rw [q12]; omega)
    rw [q12] at m1
    generalize 12 * p1 = pm at *
    have m2 := i_add pm (rowK rs rl r x) (by omega) (by omega)
    generalize pm + rowK rs rl r x = z at *
    have hi : pz_inb z 144 = true := i_inb.mpr (by omega)
    have hz : z.toNatClampNeg = 12 * r + (rowK rs rl r x).toNatClampNeg := by have := i_nat (a := z) (by omega); omega
    rw [if_pos hi, hz, hb.1]
/-- the state behind n steps of a row from step x on -/
def stR (pa sh rs rl ro : Nat → Int32) (r : Nat) : (Nat → Int32) → Int32 → Nat → (Nat → Int32)
  | S, _, 0 => S
  | S, x, n + 1 => stR pa sh rs rl ro r (st_step (rowO rs rl ro r x) pa sh S) (x + 1) n
theorem cls_steerL (fu : Nat) (p1 p2 p3 p4 : Int32) {rows : Int32} {pa sh rs rl ro rs' rm' ro' : Nat → Int32} {R r : Nat} (hs : setOk pa sh) (h : rowRel rows rs rl ro rs' rm' ro' R) (hp : p1.toInt = r) (hr : r < R) (hp3 : p3.toInt ≤ 1500) : ∀ (n f : Nat) (x : Int32) (S : Nat → Int32), x.toInt + n = p3.toInt + 1 → 1 ≤ x.toInt → n < f → stOk S → ∃ T, T = stR pa sh rs rl ro r S x n ∧ FX11_steer_L fu p1 p2 p3 p4 pa sh rows rs rl ro f x (S 0) (S 1) (S 2) (S 3) (S 4) (S 5) (S 6) (S 7) = some (fX4_look_r p4 (T 0) (T 1) (T 2) (T 3) (T 4) (T 5), T 0, T 1, T 2, T 3, T 4, T 5, T 6, T 7) := by
  have q1 := t_1
  intro n
  induction n with
  | zero =>
    intro f x S hx h0 hf hS
    obtain ⟨f, rfl⟩ : ∃ g, f = g + 1 := ⟨f - 1, by omega⟩
    rw [FX11_steer_L, if_pos (by rw [i_lt]; omega)]
    exact ⟨S, rfl, rfl⟩
  | succ n ih =>
    intro f x S hx h0 hf hS
    obtain ⟨f, rfl⟩ : ∃ g, f = g + 1 := ⟨f - 1, by omega⟩
    obtain ⟨e1, e2, e3⟩ := row_both fu h hp hr h0
    rw [FX11_steer_L, if_neg (by rw [i_lt]; omega), e1, Option.bind_some]
    have hsx := i_add x 1 (by omega) (by omega)
    rw [stR]
    generalize x + 1 = x' at *
    exact ih f x' (st_step (rowO rs rl ro r x) pa sh S) (by omega) (by omega) (by omega) (step_ok hs e3 hS)
theorem ref_steerL (fu : Nat) (p1 p3 p4 : Int32) (hp4 : 0 ≤ p4.toInt) (hp4' : p4.toInt ≤ 5) {rows : Int32} {pa sh rs rl ro rs' rm' ro' : Nat → Int32} {R r : Nat} (hs : setOk pa sh) (h : rowRel rows rs rl ro rs' rm' ro' R) (hp : p1.toInt = r) (hr : r < R) (hp3 : p3.toInt ≤ 1500) : ∀ (n f : Nat) (x th : Int32) (S : Nat → Int32), x.toInt + n = p3.toInt + 1 → 1 ≤ x.toInt → n < f → stOk S → ∃ T, T = stR pa sh rs rl ro r S x n ∧ FX12_steer_L fu p1 p3 p4 rs' rm' ro' pa sh f x th S = some (fX4_look_r p4 (T 0) (T 1) (T 2) (T 3) (T 4) (T 5), th, T) := by
  have q1 := t_1
  intro n
  induction n with
  | zero =>
    intro f x th S hx h0 hf hS
    obtain ⟨f, rfl⟩ : ∃ g, f = g + 1 := ⟨f - 1, by omega⟩
    rw [FX12_steer_L, if_pos (by rw [i_lt]; omega), look_what fu S p4 hp4 hp4', Option.bind_some]
    exact ⟨S, rfl, rfl⟩
  | succ n ih =>
    intro f x th S hx h0 hf hS
    obtain ⟨f, rfl⟩ : ∃ g, f = g + 1 := ⟨f - 1, by omega⟩
    obtain ⟨e1, e2, e3⟩ := row_both fu h hp hr h0
    rw [FX12_steer_L, if_neg (by rw [i_lt]; omega), e2, Option.bind_some, ref_steps fu _ pa sh S hs e3 hS, Option.bind_some]
    have hsx := i_add x 1 (by omega) (by omega)
    rw [stR]
    generalize x + 1 = x' at *
    exact ih f x' th (st_step (rowO rs rl ro r x) pa sh S) (by omega) (by omega) (by omega) (step_ok hs e3 hS)
theorem steer_eq {fu : Nat} (hfu : 10000 ≤ fu) (p1 p2 p3 p4 : Int32) {rows : Int32} {pa sh rs rl ro rs' rm' ro' : Nat → Int32} {R : Nat} (hs : setOk pa sh) (h : rowRel rows rs rl ro rs' rm' ro' R) (c0 c1 c2 c3 c4 c5 c6 c7 : Int32) (now : Nat → Int32) :
    ∃ v c0' c1' c2' c3' c4' c5' c6' c7' now', FX11_steer fu p1 p2 p3 p4 pa sh c0 c1 c2 c3 c4 c5 c6 c7 rows rs rl ro = some (v, c0', c1', c2', c3', c4', c5', c6', c7') ∧ FX12_steer fu p1 p2 p3 p4 rows rs' rm' ro' pa sh now = some (v, 0, now') := by
  have t1 : (1500 : Int32).toInt = 1500 := rfl
  have t5 : (5 : Int32).toInt = 5 := rfl
  have q0 := t_0
  have q1 := t_1
  unfold FX11_steer FX12_steer fX6_hasRow_r
  by_cases g0 : p1 < 0
  · rw [if_pos g0, if_pos g0, if_pos rfl]; exact ⟨_, _, _, _, _, _, _, _, _, _, rfl, rfl⟩
  rw [if_neg g0, if_neg g0]
  by_cases g00 : rows ≤ p1
  · rw [if_pos g00, if_pos g00, if_pos rfl]; exact ⟨_, _, _, _, _, _, _, _, _, _, rfl, rfl⟩
  rw [if_neg g00, if_neg g00, if_neg (show ¬ (1 : Int32) = 0 by decide)]
  by_cases g1 : isOffP p2
  · rw [if_neg (fun z => (isOff_iff p2).1.mp z g1), if_neg (fun z => (isOff_iff p2).2.mp z g1)]
    by_cases g2 : p3 < 0
    · rw [if_pos g2, if_pos g2]; exact ⟨_, _, _, _, _, _, _, _, _, _, rfl, rfl⟩
    rw [if_neg g2, if_neg g2]
    by_cases g3 : 1500 < p3
    · rw [if_pos g3, if_pos g3]; exact ⟨_, _, _, _, _, _, _, _, _, _, rfl, rfl⟩
    rw [if_neg g3, if_neg g3]
    by_cases g4 : p4 < 0
    · rw [if_pos g4, if_pos g4]; exact ⟨_, _, _, _, _, _, _, _, _, _, rfl, rfl⟩
    rw [if_neg g4, if_neg g4]
    by_cases g5 : p4 ≤ 5
    · rw [if_pos g5, if_pos g5, ref_starts (by omega), Option.bind_some]
      rw [i_lt] at g0 g2 g3 g4
      rw [i_le] at g5 g00
      have hR := h.1
      have hR2 := h.2.1
      obtain ⟨T, e1, e2⟩ := cls_steerL fu p1 p2 p3 p4 hs h (r := p1.toInt.toNat) (by omega) (by omega) (by omega) p3.toInt.toNat fu 1 (st0 p2 now) (by omega) (by omega) (by omega) (st0_ok g1)
      obtain ⟨T', e1', e2'⟩ := ref_steerL fu p1 p3 p4 (by omega) (by omega) hs h (r := p1.toInt.toNat) (by omega) (by omega) (by omega) p3.toInt.toNat fu 1 0 (st0 p2 now) (by omega) (by omega) (by omega) (st0_ok g1)
      have : T' = T := e1'.trans e1.symm
      subst this
      exact ⟨_, _, _, _, _, _, _, _, _, _, e2, e2'⟩
    · rw [if_neg g5, if_neg g5]; exact ⟨_, _, _, _, _, _, _, _, _, _, rfl, rfl⟩
  · rw [if_pos ((isOff_iff p2).1.mpr g1), if_pos ((isOff_iff p2).2.mpr g1)]; exact ⟨_, _, _, _, _, _, _, _, _, _, rfl, rfl⟩
