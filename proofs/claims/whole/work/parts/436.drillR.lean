/-! ===== the reference's DRILL ===== -/
section
variable {fu : Nat} {gears : Int32} {names : Nat → Int32} {mayT : Nat → Int64} {safeT : Int64} {gname gfrom gto : Nat → Int32} {sf sto : Int32} {ks kv : Nat → Int32} {G b : Nat}
/-- left, in the midst of round n: those below t have had their turn -/
def leftOk (mayT : Nat → Int64) (safeT : Int64) (G b n t : Nat) (left : Nat → Int32) : Prop := ∀ s, s < 64 → (∀ m, m ≤ n → (lev (okc mayT safeT) G b m).1 s = true → (left s).toInt = m) ∧ ((lev (okc mayT safeT) G b n).2 s = false → (left s).toInt = if decide (s < t) && (lev (okc mayT safeT) G b (n + 1)).1 s then ((n + 1 : Nat) : Int) else -1)
theorem meas_in (h : gearRel fu gears names mayT safeT gname gfrom gto sf sto ks kv G) (p1 : Int32) (n t : Nat) (ht : t < 64) (hn : n ≤ 64) (x3 x4 : Int32) (h3 : x3.toInt = n) (h4 : x4.toInt = t) (left : Nat → Int32) (hl : (left t).toInt = -1) (hnb : ∀ j, j < G → ((left (t ^^^ 2 ^ j)).toInt = n ↔ (lev (okc mayT safeT) G b n).1 (t ^^^ 2 ^ j) = true)) : ∀ (q g f : Nat) (x2 x5 : Int32) (pile : Nat → Int32), g + q = G → x5.toInt = g → q + 2 < f →
    ∃ (f' : Nat) (pile' : Nat → Int32), f ≤ f' + (q + 2) ∧ FX12_measures_L fu p1 gears sf sto ks kv gfrom gto f 3 x2 x3 x4 x5 pile left = (if anyF q g (fun g => (lev (okc mayT safeT) G b n).1 (t ^^^ 2 ^ g) && okc mayT safeT t g) then FX12_measures_L fu p1 gears sf sto ks kv gfrom gto f' 2 1 x3 (x4 + 1) 0 pile' (upd left t (x3 + 1)) else FX12_measures_L fu p1 gears sf sto ks kv gfrom gto f' 2 x2 x3 (x4 + 1) 0 pile' left) := by
  have q0 := t_0
  have q1 := t_1
  have qm := t_m1
  obtain ⟨hG1, hG2, -, -, -⟩ := id h
  have hi4 : pz_inb x4 64 = true := i_inb.mpr (by omega)
  have hn4 : x4.toNatClampNeg = t := by have := i_nat (a := x4) (by omega); omega
  have hl1 : left t = -1 := i_eq.mpr (by omega)
  have hs3 := i_add x3 1 (by omega) (by omega)
  intro q
  induction q with
  | zero =>
    intro g f x2 x5 pile hg h5 hf
    obtain ⟨f, rfl⟩ : ∃ g, f = g + 1 := ⟨f - 1, by omega⟩
    rw [FX12_measures_L, if_neg (show ¬ (3 : Nat) = 0 by omega), if_neg (show ¬ (3 : Nat) = 1 by omega), if_neg (show ¬ (3 : Nat) = 2 by omega), if_pos rfl, if_pos (by rw [i_le]; omega)]
    exact ⟨f, pile, by omega, rfl⟩
  | succ q ih =>
    intro g f x2 x5 pile hg h5 hf
    obtain ⟨f, rfl⟩ : ∃ g, f = g + 1 := ⟨f - 1, by omega⟩
    obtain ⟨f1, f2⟩ := one_flip h4 ht h5 (show g < 6 by omega)
    have hs5 := i_add x5 1 (by omega) (by omega)
    rw [FX12_measures_L, if_neg (show ¬ (3 : Nat) = 0 by omega), if_neg (show ¬ (3 : Nat) = 1 by omega), if_neg (show ¬ (3 : Nat) = 2 by omega), if_pos rfl, if_neg (by rw [i_le]; omega), if_pos hi4, hn4, if_neg (show ¬ ¬ left t = -1 from fun z => z hl1)]
    have hif : pz_inb (x4 ^^^ ((1 : Int32) <<< (x5 &&& 31))) 64 = true := i_inb.mpr (by omega)
    have hnf : (x4 ^^^ ((1 : Int32) <<< (x5 &&& 31))).toNatClampNeg = t ^^^ 2 ^ g := by have := i_nat (a := x4 ^^^ ((1 : Int32) <<< (x5 &&& 31))) (by omega); omega
    rw [if_pos hif, hnf, anyF]
    have hb := hnb g (by omega)
    by_cases c : left (t ^^^ 2 ^ g) = x3
    · rw [if_neg (show ¬ ¬ left (t ^^^ 2 ^ g) = x3 from fun z => z c)]
      have hlv := hb.mp (by rw [c]; exact h3)
      rw [hlv, Bool.true_and]
      obtain ⟨pile1, e1⟩ := may_eq h h4 ht h5 (by omega) pile
      rw [e1, Option.bind_some]
      cases hok : okc mayT safeT t g with
      | true =>
        obtain ⟨f, rfl⟩ : ∃ g, f = g + 1 := ⟨f - 1, by omega⟩
        refine ⟨f, pile1, by omega, ?_⟩
        show (if ¬ bI true = 0 then _ else _) = _
        rw [if_pos (show ¬ bI true = 0 by decide), if_pos hi4, Bool.true_or, if_pos rfl]
        rw [FX12_measures_L, if_neg (show ¬ (3 : Nat) = 0 by omega), if_neg (show ¬ (3 : Nat) = 1 by omega), if_neg (show ¬ (3 : Nat) = 2 by omega), if_pos rfl]
        by_cases c2 : gears ≤ x5 + 1
        · rw [if_pos c2]
        · rw [if_neg c2, if_pos hi4, hn4]
          have hne : ¬ upd left t (x3 + 1) t = -1 := by
            rw [up_eq, i_eq]
            omega
          rw [if_pos hne]
      | false =>
        show ∃ (f' : Nat) (pile' : Nat → Int32), _ ∧ (if ¬ bI false = 0 then _ else _) = _
        rw [if_neg (show ¬ ¬ bI false = 0 from fun z => z rfl), Bool.false_or]
        obtain ⟨f', pile', k1, k2⟩ := ih (g + 1) f x2 (x5 + 1) pile1 (by omega) (by omega) (by omega)
        exact ⟨f', pile', by omega, k2⟩
    · rw [if_pos c]
      have hlv : (lev (okc mayT safeT) G b n).1 (t ^^^ 2 ^ g) = false := by
        cases hq : (lev (okc mayT safeT) G b n).1 (t ^^^ 2 ^ g) with
        | false => rfl
        | true => exact absurd (i_eq.mpr ((hb.mpr hq).trans h3.symm)) c
      rw [hlv, Bool.false_and, Bool.false_or]
      obtain ⟨f', pile', k1, k2⟩ := ih (g + 1) f x2 (x5 + 1) pile (by omega) (by omega) (by omega)
      exact ⟨f', pile', by omega, k2⟩
theorem xor_ne {s g : Nat} : s ^^^ 2 ^ g ≠ s := by
  intro h
  have h1 : s ^^^ (s ^^^ 2 ^ g) = s ^^^ s := by rw [h]
  rw [← Nat.xor_assoc, Nat.xor_self, Nat.zero_xor] at h1
  have : 0 < 2 ^ g := Nat.two_pow_pos g
  omega
/-- what left tells of those that are n away -/
theorem left_lev {n t : Nat} {left : Nat → Int32} (hL : leftOk mayT safeT G b n t left) {u : Nat} (hu : u < 64) : (left u).toInt = n ↔ (lev (okc mayT safeT) G b n).1 u = true := by
  obtain ⟨h1, h2⟩ := hL u hu
  constructor
  · intro h
    cases hm : (lev (okc mayT safeT) G b n).2 u with
    | false =>
      have := h2 hm
      by_cases c : (decide (u < t) && (lev (okc mayT safeT) G b (n + 1)).1 u) = true
      · rw [if_pos c] at this; omega
      · rw [if_neg c] at this; omega
    | true =>
      obtain ⟨m, k1, k2⟩ := (met_iff n u).mp hm
      have := h1 m k1 k2
      have e : m = n := by omega
      subst e
      exact k2
  · intro h
    exact h1 n (Nat.le_refl _) h
theorem meas_round (h : gearRel fu gears names mayT safeT gname gfrom gto sf sto ks kv G) (p1 : Int32) (n : Nat) (hn : n ≤ 64) (x3 : Int32) (h3 : x3.toInt = n) : ∀ (r t f : Nat) (x2 x4 : Int32) (pile left : Nat → Int32), t + r = 2 ^ G → x4.toInt = t → 10 * r + 1 < f → leftOk mayT safeT G b n t left → (x2 = 0 ∨ x2 = 1) → (x2 = 1 ↔ ∃ u, u < t ∧ (lev (okc mayT safeT) G b (n + 1)).1 u = true) →
    ∃ (f' : Nat) (x2' : Int32) (pile' left' : Nat → Int32), f ≤ f' + (10 * r + 1) ∧ FX12_measures_L fu p1 gears sf sto ks kv gfrom gto f 2 x2 x3 x4 0 pile left = FX12_measures_L fu p1 gears sf sto ks kv gfrom gto f' 1 x2' (x3 + 1) 0 0 pile' left' ∧ leftOk mayT safeT G b n (2 ^ G) left' ∧ (x2' = 0 ∨ x2' = 1) ∧ (x2' = 1 ↔ ∃ u, u < 2 ^ G ∧ (lev (okc mayT safeT) G b (n + 1)).1 u = true) := by
  have q0 := t_0
  have q1 := t_1
  have qm := t_m1
  obtain ⟨hG1, hG2, -, -, -⟩ := id h
  have hp := one_sh7 (p := gears) hG1 (by omega)
  have hl : ∀ j, j ≤ 6 → 2 ^ j ≤ 64 := by decide
  have hl2 := hl G hG2
  intro r
  induction r with
  | zero =>
    intro t f x2 x4 pile left ht h4 hf hL hx hx2
    obtain ⟨f, rfl⟩ : ∃ g, f = g + 1 := ⟨f - 1, by omega⟩
    have : t = 2 ^ G := by omega
    subst this
    rw [FX12_measures_L, if_neg (show ¬ (2 : Nat) = 0 by omega), if_neg (show ¬ (2 : Nat) = 1 by omega), if_pos rfl, if_pos (by rw [i_le]; omega)]
    exact ⟨f, x2, pile, left, by omega, rfl, hL, hx, hx2⟩
  | succ r ih =>
    intro t f x2 x4 pile left ht h4 hf hL hx hx2
    obtain ⟨f, rfl⟩ : ∃ g, f = g + 1 := ⟨f - 1, by omega⟩
    have ht64 : t < 64 := by omega
    have hs4 := i_add x4 1 (by omega) (by omega)
    rw [FX12_measures_L, if_neg (show ¬ (2 : Nat) = 0 by omega), if_neg (show ¬ (2 : Nat) = 1 by omega), if_pos rfl, if_neg (by rw [i_le]; omega)]
    have hi4 : pz_inb x4 64 = true := i_inb.mpr (by omega)
    have hn4 : x4.toNatClampNeg = t := by have := i_nat (a := x4) (by omega); omega
    have hs3 := i_add x3 1 (by omega) (by omega)
    cases hm : (lev (okc mayT safeT) G b n).2 t with
    | true =>
      -- met before: nothing is done
      obtain ⟨m, k1, k2⟩ := (met_iff n t).mp hm
      have hlm := (hL t ht64).1 m k1 k2
      have hne : ¬ left t = -1 := by rw [i_eq]; omega
      have hno : (lev (okc mayT safeT) G b (n + 1)).1 t = false := by
        rw [lev_succ, hm, Bool.not_true, Bool.and_false]
      have hL' : leftOk mayT safeT G b n (t + 1) left := by
        intro s hs
        refine ⟨(hL s hs).1, fun hz => ?_⟩
        rw [(hL s hs).2 hz]
        by_cases g : s = t
        · subst g; rw [hm] at hz; cases hz
        · rw [show decide (s < t + 1) = decide (s < t) from decide_eq_decide.mpr (by omega)]
      have hx2' : x2 = 1 ↔ ∃ u, u < t + 1 ∧ (lev (okc mayT safeT) G b (n + 1)).1 u = true := by
        rw [hx2]
        constructor
        · rintro ⟨u, u1, u2⟩; exact ⟨u, by omega, u2⟩
        · rintro ⟨u, u1, u2⟩
          by_cases g : u = t
          · subst g; rw [hno] at u2; cases u2
          · exact ⟨u, by omega, u2⟩
      obtain ⟨f, rfl⟩ : ∃ g, f = g + 1 := ⟨f - 1, by omega⟩
      rw [FX12_measures_L, if_neg (show ¬ (3 : Nat) = 0 by omega), if_neg (show ¬ (3 : Nat) = 1 by omega), if_neg (show ¬ (3 : Nat) = 2 by omega), if_pos rfl]
      have go := ih (t + 1) f x2 (x4 + 1) pile left (by omega) (by omega) (by omega) hL' hx hx2'
      obtain ⟨f', x2', pile', left', a1, a2, a3⟩ := go
      refine ⟨f', x2', pile', left', by omega, ?_, a3⟩
      rw [← a2]
      by_cases c : gears ≤ 0
      · rw [if_pos c]
      · rw [if_neg c, if_pos hi4, hn4, if_pos hne]
    | false =>
      have hlm := (hL t ht64).2 hm
      rw [decide_eq_false (show ¬ t < t by omega), Bool.false_and, if_neg (by decide)] at hlm
      have hnb : ∀ j, j < G → ((left (t ^^^ 2 ^ j)).toInt = n ↔ (lev (okc mayT safeT) G b n).1 (t ^^^ 2 ^ j) = true) := fun j hj => left_lev hL (xor_lt64 ht64 (by omega))
      obtain ⟨f1, pile1, a1, a2⟩ := meas_in (b := b) h p1 n t ht64 hn x3 x4 h3 h4 left hlm hnb G 0 f x2 0 pile (by omega) rfl (by omega)
      rw [a2]
      have hlv : (lev (okc mayT safeT) G b (n + 1)).1 t = anyF G 0 (fun g => (lev (okc mayT safeT) G b n).1 (t ^^^ 2 ^ g) && okc mayT safeT t g) := by
        rw [lev_succ, hm, Bool.not_false, Bool.and_true]
      rw [← hlv]
      cases hq : (lev (okc mayT safeT) G b (n + 1)).1 t with
      | true =>
        rw [if_pos rfl]
        have hL' : leftOk mayT safeT G b n (t + 1) (upd left t (x3 + 1)) := by
          intro s hs
          by_cases g : s = t
          · subst g
            rw [up_eq]
            refine ⟨fun m k1 k2 => ?_, fun hz => ?_⟩
            · have := (met_iff n s).mpr ⟨m, k1, k2⟩
              rw [this] at hm; cases hm
            · rw [decide_eq_true (show s < s + 1 by omega), Bool.true_and, hq, if_pos rfl]
              omega
          · rw [up_ne left _ g]
            refine ⟨(hL s hs).1, fun hz => ?_⟩
            rw [(hL s hs).2 hz, show decide (s < t + 1) = decide (s < t) from decide_eq_decide.mpr (by omega)]
        obtain ⟨f', x2', pile', left', b1, b2, b3⟩ := ih (t + 1) f1 1 (x4 + 1) pile1 _ (by omega) (by omega) (by omega) hL' (Or.inr rfl) ⟨fun _ => ⟨t, by omega, hq⟩, fun _ => rfl⟩
        exact ⟨f', x2', pile', left', by omega, b2, b3⟩
      | false =>
        rw [if_neg (by decide)]
        have hL' : leftOk mayT safeT G b n (t + 1) left := by
          intro s hs
          refine ⟨(hL s hs).1, fun hz => ?_⟩
          rw [(hL s hs).2 hz]
          by_cases g : s = t
          · subst g
            rw [hq, Bool.and_false, Bool.and_false]
          · rw [show decide (s < t + 1) = decide (s < t) from decide_eq_decide.mpr (by omega)]
        have hx2' : x2 = 1 ↔ ∃ u, u < t + 1 ∧ (lev (okc mayT safeT) G b (n + 1)).1 u = true := by
          rw [hx2]
          constructor
          · rintro ⟨u, u1, u2⟩; exact ⟨u, by omega, u2⟩
          · rintro ⟨u, u1, u2⟩
            by_cases g : u = t
            · subst g; rw [hq] at u2; cases u2
            · exact ⟨u, by omega, u2⟩
        obtain ⟨f', x2', pile', left', b1, b2, b3⟩ := ih (t + 1) f1 x2 (x4 + 1) pile1 left (by omega) (by omega) (by omega) hL' hx hx2'
        exact ⟨f', x2', pile', left', by omega, b2, b3⟩
/-- left at the end -/
def leftAll (mayT : Nat → Int64) (safeT : Int64) (G b : Nat) (left : Nat → Int32) : Prop := ∀ s, s < 64 → (∀ m, (lev (okc mayT safeT) G b m).1 s = true → (left s).toInt = m) ∧ ((∀ m, (lev (okc mayT safeT) G b m).1 s = false) → (left s).toInt = -1)
theorem left_next (hb : b < 2 ^ G) (hG : G ≤ 6) {n : Nat} {left : Nat → Int32} (hL : leftOk mayT safeT G b n (2 ^ G) left) : leftOk mayT safeT G b (n + 1) 0 left := by
  intro s hs
  refine ⟨fun m k1 k2 => ?_, fun hz => ?_⟩
  · by_cases g : m = n + 1
    · subst g
      have hm : (lev (okc mayT safeT) G b n).2 s = false := by
        have h := k2
        rw [lev_succ, Bool.and_eq_true] at h
        cases hq : (lev (okc mayT safeT) G b n).2 s with
        | false => rfl
        | true => rw [hq] at h; exact absurd h.2 (by decide)
      rw [(hL s hs).2 hm, decide_eq_true (lev_lt hb _ s k2), k2]
      rfl
    · exact (hL s hs).1 m (by omega) k2
  · rw [met_succ, Bool.or_eq_false_iff] at hz
    rw [(hL s hs).2 hz.1, hz.2, Bool.and_false, decide_eq_false (show ¬ s < 0 by omega), Bool.false_and, if_neg (show ¬ false = true by decide), if_neg (show ¬ false = true by decide)]
theorem meas_out (h : gearRel fu gears names mayT safeT gname gfrom gto sf sto ks kv G) (hb : b < 2 ^ G) (p1 : Int32) : ∀ (c n f : Nat) (x3 : Int32) (pile left : Nat → Int32), n + c = 64 → x3.toInt = n → 700 * (c + 1) + 3 < f → leftOk mayT safeT G b n 0 left → (∃ s, (lev (okc mayT safeT) G b n).1 s = true) →
    ∃ (pile' left' : Nat → Int32), FX12_measures_L fu p1 gears sf sto ks kv gfrom gto f 1 1 x3 0 0 pile left = some (pile', left') ∧ leftAll mayT safeT G b left' := by
  have q0 := t_0
  have q1 := t_1
  obtain ⟨hG1, hG2, -, -, -⟩ := id h
  have hl : ∀ j, j ≤ 6 → 2 ^ j ≤ 64 := by decide
  have hl2 := hl G hG2
  intro c
  induction c with
  | zero =>
    intro n f x3 pile left hn h3 hf hL hne
    obtain ⟨s, hs⟩ := hne
    have := lev_le hb hG2 hs
    omega
  | succ c ih =>
    intro n f x3 pile left hn h3 hf hL hne
    obtain ⟨f, rfl⟩ : ∃ g, f = g + 1 := ⟨f - 1, by omega⟩
    have hs3 := i_add x3 1 (by omega) (by omega)
    rw [FX12_measures_L, if_neg (show ¬ (1 : Nat) = 0 by omega), if_pos rfl, if_neg (show ¬ (1 : Int32) = 0 by decide)]
    obtain ⟨f', x2', pile', left', a1, a2, a3, a4, a5⟩ := meas_round (b := b) h p1 n (by omega) x3 h3 (2 ^ G) 0 f 0 0 pile left (by omega) rfl (by omega) hL (Or.inl rfl) ⟨fun z => absurd z (by decide), fun ⟨u, u1, _⟩ => absurd u1 (by omega)⟩
    rw [a2]
    have hL1 := left_next hb hG2 a3
    rcases a4 with z | z
    · subst z
      obtain ⟨f', rfl⟩ : ∃ g, f' = g + 1 := ⟨f' - 1, by omega⟩
      rw [FX12_measures_L, if_neg (show ¬ (1 : Nat) = 0 by omega), if_pos rfl, if_pos rfl]
      refine ⟨pile', left', rfl, ?_⟩
      have hemp : ∀ s, (lev (okc mayT safeT) G b (n + 1)).1 s = false := by
        intro s
        cases hq : (lev (okc mayT safeT) G b (n + 1)).1 s with
        | false => rfl
        | true => exact absurd (a5.mpr ⟨s, lev_lt hb _ s hq, hq⟩) (by decide)
      intro s hs
      refine ⟨fun m hm => ?_, fun hno => ?_⟩
      · by_cases g : m ≤ n
        · exact (a3 s hs).1 m g hm
        · rw [lev_empty hemp m (by omega)] at hm; cases hm
      · have hz : (lev (okc mayT safeT) G b n).2 s = false := by
          cases hq : (lev (okc mayT safeT) G b n).2 s with
          | false => rfl
          | true =>
            obtain ⟨m, -, k2⟩ := (met_iff n s).mp hq
            rw [hno m] at k2; cases k2
        rw [(a3 s hs).2 hz, hno, Bool.and_false]
        rfl
    · subst z
      obtain ⟨u, u1, u2⟩ := a5.mp rfl
      exact ih (n + 1) f' (x3 + 1) pile' left' (by omega) (by omega) (by omega) hL1 ⟨u, u2⟩
theorem meas_0 (p1 : Int32) (b : Nat) (hp : p1.toInt = b) (pile : Nat → Int32) : ∀ (r t f : Nat) (x : Int32) (left : Nat → Int32), t + r = 64 → x.toInt = t → r < f → (∀ s, s < t → left s = if s = b then 0 else -1) →
    ∃ (f' : Nat) (left' : Nat → Int32), f ≤ f' + (r + 1) ∧ FX12_measures_L fu p1 gears sf sto ks kv gfrom gto f 0 x 0 0 0 pile left = FX12_measures_L fu p1 gears sf sto ks kv gfrom gto f' 1 1 0 0 0 pile left' ∧ ∀ s, s < 64 → left' s = if s = b then 0 else -1 := by
  have q1 := t_1
  have t64 := t_64
  intro r
  induction r with
  | zero =>
    intro t f x left ht hx hf hl
    obtain ⟨f, rfl⟩ : ∃ g, f = g + 1 := ⟨f - 1, by omega⟩
    rw [FX12_measures_L, if_pos rfl, if_pos (by rw [i_le]; omega)]
    exact ⟨f, left, by omega, rfl, fun s hs => hl s (by omega)⟩
  | succ r ih =>
    intro t f x left ht hx hf hl
    obtain ⟨f, rfl⟩ : ∃ g, f = g + 1 := ⟨f - 1, by omega⟩
    have hi : pz_inb x 64 = true := i_inb.mpr (by omega)
    have hn : x.toNatClampNeg = t := by have := i_nat (a := x) (by omega); omega
    have hs := i_add x 1 (by omega) (by omega)
    rw [FX12_measures_L, if_pos rfl, if_neg (by rw [i_le]; omega)]
    by_cases g : x = p1
    · have g' := i_eq.mp g
      rw [if_neg (show ¬ ¬ x = p1 from fun z => z g), if_pos hi, hn]
      obtain ⟨f', left', a1, a2, a3⟩ := ih (t + 1) f (x + 1) (upd left t 0) (by omega) (by omega) (by omega) (fun s hs => by
        unfold upd
        by_cases g2 : s = t
        · rw [if_pos g2, if_pos (by omega)]
        · rw [if_neg g2]; exact hl s (by omega))
      exact ⟨f', left', by omega, a2, a3⟩
    · have g' : ¬ x.toInt = p1.toInt := fun z => g (i_eq.mpr z)
      rw [if_pos g, if_pos hi, hn]
      obtain ⟨f', left', a1, a2, a3⟩ := ih (t + 1) f (x + 1) (upd left t (-1)) (by omega) (by omega) (by omega) (fun s hs => by
        unfold upd
        by_cases g2 : s = t
        · rw [if_pos g2, if_neg (by omega)]
        · rw [if_neg g2]; exact hl s (by omega))
      exact ⟨f', left', by omega, a2, a3⟩
theorem meas_eq (hfu : 100000 ≤ fu) (h : gearRel fu gears names mayT safeT gname gfrom gto sf sto ks kv G) (hb : b < 2 ^ G) (p1 : Int32) (hp : p1.toInt = b) (pile left : Nat → Int32) : ∃ (pile' left' : Nat → Int32), FX12_measures fu p1 gears sf sto ks kv gfrom gto pile left = some (pile', left') ∧ leftAll mayT safeT G b left' := by
  have q0 := t_0
  have qm := t_m1
  unfold FX12_measures
  obtain ⟨f', left1, a1, a2, a3⟩ := meas_0 (fu := fu) (gears := gears) (sf := sf) (sto := sto) (ks := ks) (kv := kv) (gfrom := gfrom) (gto := gto) p1 b hp pile 64 0 fu 0 left (by omega) rfl (by omega) (fun s hs => absurd hs (by omega))
  have hL : leftOk mayT safeT G b 0 0 left1 := by
    intro s hs
    refine ⟨fun m k1 k2 => ?_, fun hz => ?_⟩
    · have : m = 0 := by omega
      subst this
      rw [lev_0] at k2
      rw [a3 s hs, if_pos k2]
      rfl
    · have : ¬ s = b := fun z => by
        have : (lev (okc mayT safeT) G b 0).2 s = true := decide_eq_true z
        rw [this] at hz; cases hz
      rw [a3 s hs, if_neg this, decide_eq_false (show ¬ s < 0 by omega), Bool.false_and, if_neg (by decide)]
      exact qm
  obtain ⟨pile', left', e1, e2⟩ := meas_out h hb p1 64 0 f' 0 pile left1 (by omega) rfl (by omega) hL ⟨b, (lev_0 b).mpr rfl⟩
  exact ⟨pile', left', by rw [a2]; exact e1, e2⟩
theorem path_in (h : gearRel fu gears names mayT safeT gname gfrom gto sf sto ks kv G) (p1 p2 p3 : Int32) (r s : Nat) (hs : s < 64) (hr : 1 ≤ r) (x4 x5 : Int32) (h4 : x4.toInt = s) (th : Int32) (left : Nat → Int32) (hl : leftAll mayT safeT G b left) (hlv : (lev (okc mayT safeT) G b r).1 s = true) : ∀ (n g f : Nat) (x6 : Int32) (pile : Nat → Int32), g + n = G → x6.toInt = g → n < f → anyF n g (fun g => (lev (okc mayT safeT) G b (r - 1)).1 (s ^^^ 2 ^ g) && okc mayT safeT s g) = true →
    ∃ (f' : Nat) (x' : Int32) (pile' : Nat → Int32), f ≤ f' + n ∧ x'.toInt = ((s ^^^ 2 ^ (firstF n g (fun g => (lev (okc mayT safeT) G b (r - 1)).1 (s ^^^ 2 ^ g) && okc mayT safeT s g)) : Nat) : Int) ∧ FX12_drill_L fu p1 p2 p3 sf sto ks kv gfrom gto f 1 x4 x5 x6 th pile left = (if ¬ x5 = p3 then FX12_drill_L fu p1 p2 p3 sf sto ks kv gfrom gto f' 0 x' (x5 + 1) 0 th pile' left else some (Int32.ofNat (firstF n g (fun g => (lev (okc mayT safeT) G b (r - 1)).1 (s ^^^ 2 ^ g) && okc mayT safeT s g)), th, pile', left)) := by
  have q1 := t_1
  have qm := t_m1
  obtain ⟨hG1, hG2, -, -, -⟩ := id h
  intro n
  induction n with
  | zero => intro g f x6 pile hgn h6 hf hh; cases hh
  | succ n ih =>
    intro g f x6 pile hgn h6 hf hh
    obtain ⟨f, rfl⟩ : ∃ g, f = g + 1 := ⟨f - 1, by omega⟩
    obtain ⟨f1, f2⟩ := one_flip h4 hs h6 (show g < 6 by omega)
    have hi4 : pz_inb x4 64 = true := i_inb.mpr (by omega)
    have hn4 : x4.toNatClampNeg = s := by have := i_nat (a := x4) (by omega); omega
    have hif : pz_inb (x4 ^^^ ((1 : Int32) <<< (x6 &&& 31))) 64 = true := i_inb.mpr (by omega)
    have hnf : (x4 ^^^ ((1 : Int32) <<< (x6 &&& 31))).toNatClampNeg = s ^^^ 2 ^ g := by have := i_nat (a := x4 ^^^ ((1 : Int32) <<< (x6 &&& 31))) (by omega); omega
    have hs6 := i_add x6 1 (by omega) (by omega)
    have hls := (hl s hs).1 r hlv
    have hrle : r < 1000 ∨ 1000 ≤ r := by omega
    have hsub := i_sub (left s) 1 (by omega) (by
      have := Int32.toInt_lt (left s)
      omega)
    have hnb : left (s ^^^ 2 ^ g) = left s - 1 ↔ (lev (okc mayT safeT) G b (r - 1)).1 (s ^^^ 2 ^ g) = true := by
      rw [i_eq, hsub, hls]
      obtain ⟨k1, k2⟩ := hl _ f2
      constructor
      · intro z
        by_cases ex : ∃ m, (lev (okc mayT safeT) G b m).1 (s ^^^ 2 ^ g) = true
        · obtain ⟨m, hm⟩ := ex
          have := k1 m hm
          have e : m = r - 1 := by omega
          subst e
          exact hm
        · have := k2 (fun m => by
            cases hq : (lev (okc mayT safeT) G b m).1 (s ^^^ 2 ^ g) with
            | false => rfl
            | true => exact absurd ⟨m, hq⟩ ex)
          omega
      · intro z
        rw [k1 _ z]
        omega
    rw [FX12_drill_L, if_neg (show ¬ (1 : Nat) = 0 by omega), if_pos rfl, if_pos hif, if_pos hi4, hnf, hn4]
    rw [anyF] at hh
    rw [firstF]
    by_cases c : left (s ^^^ 2 ^ g) = left s - 1
    · rw [if_neg (show ¬ ¬ left (s ^^^ 2 ^ g) = left s - 1 from fun z => z c)]
      have hlv2 := hnb.mp c
      rw [hlv2, Bool.true_and] at hh ⊢
      obtain ⟨pile1, e1⟩ := may_eq h h4 hs h6 (by omega) pile
      rw [e1, Option.bind_some]
      cases hok : okc mayT safeT s g with
      | true =>
        rw [if_pos rfl]
        refine ⟨f, x4 ^^^ ((1 : Int32) <<< (x6 &&& 31)), pile1, by omega, f1, ?_⟩
        show (if ¬ bI true = 0 then _ else _) = _
        rw [if_pos (show ¬ bI true = 0 by decide)]
        by_cases g3 : x5 = p3
        · rw [if_neg (show ¬ ¬ x5 = p3 from fun z => z g3), if_neg (show ¬ ¬ x5 = p3 from fun z => z g3), i_ofNat h6 (by omega)]
        · rw [if_pos g3, if_pos g3]
      | false =>
        rw [hok, Bool.false_or] at hh
        rw [if_neg (show ¬ false = true by decide)]
        obtain ⟨f', x', pile', k1, k2, k3⟩ := ih (g + 1) f (x6 + 1) pile1 (by omega) (by omega) (by omega) hh
        refine ⟨f', x', pile', by omega, k2, ?_⟩
        show (if ¬ bI false = 0 then _ else _) = _
        rw [if_neg (show ¬ ¬ bI false = 0 from fun z => z rfl)]
        exact k3
    · rw [if_pos c]
      have hlv2 : (lev (okc mayT safeT) G b (r - 1)).1 (s ^^^ 2 ^ g) = false := by
        cases hq : (lev (okc mayT safeT) G b (r - 1)).1 (s ^^^ 2 ^ g) with
        | false => rfl
        | true => exact absurd (hnb.mpr hq) c
      rw [hlv2, Bool.false_and, Bool.false_or] at hh
      rw [hlv2, Bool.false_and, if_neg (show ¬ false = true by decide)]
      obtain ⟨f', x', pile', k1, k2, k3⟩ := ih (g + 1) f (x6 + 1) pile (by omega) (by omega) (by omega) hh
      exact ⟨f', x', pile', by omega, k2, k3⟩
theorem path_L (h : gearRel fu gears names mayT safeT gname gfrom gto sf sto ks kv G) (p1 p2 p3 : Int32) (hp2 : p2.toInt = b) (w : Nat) (hw : p3.toInt = w) (th : Int32) (left : Nat → Int32) (hl : leftAll mayT safeT G b left) : ∀ (r k s f : Nat) (x4 x5 : Int32) (pile : Nat → Int32), s < 64 → x4.toInt = s → x5.toInt = k → k ≤ w → k + r ≤ 200 → 8 * r < f → (lev (okc mayT safeT) G b r).1 s = true →
    ∃ pile', FX12_drill_L fu p1 p2 p3 sf sto ks kv gfrom gto f 0 x4 x5 0 th pile left = some (if w - k < r then Int32.ofNat (pth (okc mayT safeT) G b (w - k) s r) else -1, th, pile', left) := by
  have q1 := t_1
  obtain ⟨hG1, hG2, -, -, -⟩ := id h
  intro r
  induction r with
  | zero =>
    intro k s f x4 x5 pile hs h4 h5 hk hk2 hf hlv
    obtain ⟨f, rfl⟩ : ∃ g, f = g + 1 := ⟨f - 1, by omega⟩
    rw [lev_0] at hlv
    rw [FX12_drill_L, if_pos rfl, if_pos (i_eq.mpr (by omega)), if_neg (by omega)]
    exact ⟨pile, rfl⟩
  | succ r ih =>
    intro k s f x4 x5 pile hs h4 h5 hk hk2 hf hlv
    obtain ⟨f, rfl⟩ : ∃ g, f = g + 1 := ⟨f - 1, by omega⟩
    have hs5 := i_add x5 1 (by omega) (by omega)
    have hne : ¬ s = b := fun z => by
      have := lev_uni hlv ((lev_0 (ok := okc mayT safeT) (G := G) s).mpr z)
      omega
    rw [FX12_drill_L, if_pos rfl, if_neg (fun z => hne (by have := i_eq.mp z; omega))]
    have hl0 := hlv
    rw [lev_succ, Bool.and_eq_true] at hl0
    obtain ⟨f', x', pile', a1, a2, a3⟩ := path_in (b := b) h p1 p2 p3 (r + 1) s hs (by omega) x4 x5 h4 th left hl hlv G 0 f 0 pile (by omega) rfl (by omega) hl0.1
    rw [a3]
    obtain ⟨n1, n2, n3⟩ := nxg_spec (mayT := mayT) (safeT := safeT) (G := G) (b := b) (by omega) hlv
    by_cases g : x5 = p3
    · have g' := i_eq.mp g
      rw [if_neg (show ¬ ¬ x5 = p3 from fun z => z g)]
      have : w - k = 0 := by omega
      rw [this, if_pos (by omega), pth_0]
      exact ⟨pile', rfl⟩
    · have g' : ¬ x5.toInt = p3.toInt := fun z => g (i_eq.mpr z)
      rw [if_pos g]
      obtain ⟨pile2, e⟩ := ih (k + 1) (s ^^^ 2 ^ nxg mayT safeT G b s (r + 1)) f' x' (x5 + 1) pile' (xor_lt64 hs (by omega)) a2 (by omega) (by omega) (by omega) (by omega) n2
      refine ⟨pile2, ?_⟩
      rw [e]
      obtain ⟨q, hq⟩ : ∃ q, w - k = q + 1 := ⟨w - k - 1, by omega⟩
      rw [hq, pth_s, show w - (k + 1) = q by omega]
      by_cases c : q < r
      · rw [if_pos c, if_pos (by omega)]; rfl
      · rw [if_neg c, if_neg (by omega)]
end
