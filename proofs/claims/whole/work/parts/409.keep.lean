-- deps: 100 110 111 112 113 114 115 116 117 118 119 120 121 130 131 132 133 134 135 136 137 138 139 140 141 142 143 144 145 146 200 201 202 203 204 205 206 207 208
/-! ===== hunt: the class ===== -/
theorem keep_eq {fu : Nat} (hfu : 3000 ≤ fu) {seq seen : Nat → Int64} {J : Nat} {slots S : Nat → Int32} (p1 : Int32) (hp1 : p1.toInt = J) (hJ : J ≤ 1500) (hS : seq J = pkS S) (h : hInv seq J slots) (hseen : ∀ i, i < J → seen i = seq i) (hd : ∀ i j, i < J → j < J → seq i = seq j → i = j) :
    (∀ i0, i0 < J → seq i0 = seq J → ∃ r : Int32, r.toInt = i0 ∧ FX8_keep fu p1 (S 0) (S 1) (S 2) (S 3) (S 4) (S 5) (S 6) (S 7) seen slots = some (r, vp_updL seen J (pkS S), slots)) ∧
    ((∀ i, i < J → ¬ seq i = seq J) → ∃ slots', hInv seq (J + 1) slots' ∧ FX8_keep fu p1 (S 0) (S 1) (S 2) (S 3) (S 4) (S 5) (S 6) (S 7) seen slots = some (-1, vp_updL seen J (pkS S), slots')) := by
  have q1 := t_1
  have hi : pz_inb p1 1501 = true := i_inb.mpr (by omega)
  have hn : p1.toNatClampNeg = J := by have := i_nat (a := p1) (by omega); omega
  have hk : fX4_packed_r (S 0) (S 1) (S 2) (S 3) (S 4) (S 5) (S 6) (S 7) = pkS S := rfl
  have hh := hslot_rng (pkS S)
  have h2048 : (Int32.ofNat 2048).toInt = 2048 := rfl
  have hseen' : ∀ i, i < J → (vp_updL seen J (pkS S)) i = seq i := by
    intro i hi
    unfold vp_updL
    rw [if_neg (by omega)]
    exact hseen i hi
  have hsl : ∀ f c0 c1 c2 c3 c4 c5 c6 c7, FX8_keep_L fu p1 c0 c1 c2 c3 c4 c5 c6 c7 f (pkS S) ((((pkS S * (-7046029254386353131)).toUInt64 >>> ((53 : Int32).toInt64.toUInt64 &&& Int64.toUInt64 63)).toInt64).toInt32) (Int32.ofNat 2048) (vp_updL seen J (pkS S)) slots = FX8_keep_L fu p1 c0 c1 c2 c3 c4 c5 c6 c7 f (pkS S) (hslot (pkS S)) (Int32.ofNat 2048) (vp_updL seen J (pkS S)) slots := fun _ _ _ _ _ _ _ _ _ => rfl
  unfold FX8_keep
  rw [if_pos hi, hn, hk, hsl]
  clear hsl hk
  generalize hgv : Int32.ofNat 2048 = v0 at *
  generalize hgs : hslot (pkS S) = s0 at *
  have z1 : s0.toInt = ((s0.toInt.toNat + 0) % 2048 : Nat) := by omega
  have z2 : v0.toInt = 2048 - ((0 : Nat) : Int) := by omega
  constructor
  · intro i0 hi0 he
    obtain ⟨t0, a1, a2, a3⟩ := h.1 i0 hi0
    rw [he, hS, hgs] at a2 a3
    have hff : t0 < fu := by omega
    have hJ2 : J ≤ 1501 := by omega
    exact keep_found fu p1 (S 0) (S 1) (S 2) (S 3) (S 4) (S 5) (S 6) (S 7) h hJ2 hseen' (pkS S) s0.toInt.toNat i0 t0 (he.trans hS) hi0 (fun i hi2 e => hd i i0 hi2 hi0 (e.trans (he.trans hS).symm)) a1 a2 a3 t0 0 fu s0 v0 (Nat.zero_add _) z1 z2 hff
  · intro hnew
    have hJ2 : J ≤ 1501 := by omega
    obtain ⟨t1, b1, b2⟩ := hInv_free h (by omega) s0.toInt.toNat
    obtain ⟨t0, c1, c2, c3⟩ := least_of (P := fun t => (slots ((s0.toInt.toNat + t) % 2048)).toInt = 0) t1 b2
    have hff : t0 < fu := by omega
    have ht0 : t0 < 2048 := by omega
    have e := keep_new fu p1 (S 0) (S 1) (S 2) (S 3) (S 4) (S 5) (S 6) (S 7) h hJ2 hseen' (pkS S) s0.toInt.toNat t0 (fun i hi2 e => hnew i hi2 (e.trans hS.symm)) ht0 c2 c3 t0 0 fu s0 v0 (Nat.zero_add _) z1 z2 hff
    refine ⟨_, ?_, e⟩
    have hs := i_add p1 1 (by omega) (by omega)
    have := hInv_put h hJ t0 ht0 (by rw [hS, hgs]; exact c2) (fun t' ht' => by rw [hS, hgs]; exact c3 t' ht') (p1 + 1) (by omega)
    rw [hS, hgs] at this
    exact this
/-- least and most of offs from a to b -/
def isMin (off : Nat → Int32) (a b : Nat) (m : Int32) : Prop := (∃ i, a ≤ i ∧ i ≤ b ∧ m = off i) ∧ ∀ i, a ≤ i → i ≤ b → m.toInt ≤ (off i).toInt
def isMax (off : Nat → Int32) (a b : Nat) (m : Int32) : Prop := (∃ i, a ≤ i ∧ i ≤ b ∧ m = off i) ∧ ∀ i, a ≤ i → i ≤ b → (off i).toInt ≤ m.toInt
theorem min_step {off : Nat → Int32} {a b : Nat} {m : Int32} (h : isMin off a b m) (hab : a ≤ b) : isMin off a (b + 1) (fJ9_min_7cf53_r m (off (b + 1))) := by
  obtain ⟨⟨i, h1, h2, h3⟩, h4⟩ := h
  unfold fJ9_min_7cf53_r
  simp only [i_lt]
  by_cases g : (off (b + 1)).toInt < m.toInt
  · rw [if_pos g]
    refine ⟨⟨b + 1, by omega, by omega, rfl⟩, fun j hj1 hj2 => ?_⟩
    by_cases e : j = b + 1
    · rw [e]; omega
    · have := h4 j hj1 (by omega); omega
  · rw [if_neg g]
    refine ⟨⟨i, h1, by omega, h3⟩, fun j hj1 hj2 => ?_⟩
    by_cases e : j = b + 1
    · rw [e]; omega
    · exact h4 j hj1 (by omega)
theorem max_step {off : Nat → Int32} {a b : Nat} {m : Int32} (h : isMax off a b m) (hab : a ≤ b) : isMax off a (b + 1) (fJ9_max_7cf53_r m (off (b + 1))) := by
  obtain ⟨⟨i, h1, h2, h3⟩, h4⟩ := h
  unfold fJ9_max_7cf53_r
  simp only [i_lt]
  by_cases g : m.toInt < (off (b + 1)).toInt
  · rw [if_pos g]
    refine ⟨⟨b + 1, by omega, by omega, rfl⟩, fun j hj1 hj2 => ?_⟩
    by_cases e : j = b + 1
    · rw [e]; omega
    · have := h4 j hj1 (by omega); omega
  · rw [if_neg g]
    refine ⟨⟨i, h1, by omega, h3⟩, fun j hj1 hj2 => ?_⟩
    by_cases e : j = b + 1
    · rw [e]; omega
    · exact h4 j hj1 (by omega)
theorem cls_swingL (fu : Nat) (p1 p2 : Int32) (seen : Nat → Int64) (off : Nat → Int32) (a b : Nat) (hp2 : p2.toInt = b) (hb : b ≤ 1500) (ho : ∀ i, a ≤ i → i ≤ b → (seen i &&& 4095).toInt32 - 2048 = off i) : ∀ (n j f : Nat) (lo hi x : Int32), j + n = b → a ≤ j → x.toInt = j + 1 → n < f → isMin off a j lo → isMax off a j hi → ∃ lo' hi', isMin off a b lo' ∧ isMax off a b hi' ∧ FX8_swingOf_L fu p1 p2 seen f lo hi x = some (hi' - lo') := by
  have q1 := t_1
  intro n
  induction n with
  | zero =>
    intro j f lo hi x hj ha hx hf h1 h2
    obtain ⟨f, rfl⟩ : ∃ g, f = g + 1 := ⟨f - 1, by omega⟩
    rw [FX8_swingOf_L, if_pos (by rw [i_lt]; omega)]
    have : j = b := by omega
    subst this
    exact ⟨lo, hi, h1, h2, rfl⟩
  | succ n ih =>
    intro j f lo hi x hj ha hx hf h1 h2
    obtain ⟨f, rfl⟩ : ∃ g, f = g + 1 := ⟨f - 1, by omega⟩
    have hi' : pz_inb x 1501 = true := i_inb.mpr (by omega)
    have hn : x.toNatClampNeg = j + 1 := by have := i_nat (a := x) (by omega); omega
    rw [FX8_swingOf_L, if_neg (by rw [i_lt]; omega), if_pos hi', hn, ho (j + 1) (by omega) (by omega)]
    have hs := i_add x 1 (by omega) (by omega)
    generalize x + 1 = x' at *
    exact ih (j + 1) f _ _ x' (by omega) (by omega) (by omega) (by omega) (min_step h1 ha) (max_step h2 ha)
theorem cls_swing {fu : Nat} (hfu : 3000 ≤ fu) (p1 p2 : Int32) (seen : Nat → Int64) (off : Nat → Int32) (a b : Nat) (hp1 : p1.toInt = a) (hp2 : p2.toInt = b) (hab : a ≤ b) (hb : b ≤ 1500) (ho : ∀ i, a ≤ i → i ≤ b → (seen i &&& 4095).toInt32 - 2048 = off i) : ∃ lo' hi', isMin off a b lo' ∧ isMax off a b hi' ∧ FX8_swingOf fu p1 p2 seen = some (hi' - lo') := by
  have q1 := t_1
  have hi : pz_inb p1 1501 = true := i_inb.mpr (by omega)
  have hn : p1.toNatClampNeg = a := by have := i_nat (a := p1) (by omega); omega
  unfold FX8_swingOf
  rw [if_pos hi, hn, ho a (by omega) hab]
  have hs := i_add p1 1 (by omega) (by omega)
  refine cls_swingL fu p1 p2 seen off a b hp2 hb ho (b - a) a fu (off a) (off a) (p1 + 1) (by omega) (by omega) (by omega) (by omega) ⟨⟨a, by omega, by omega, rfl⟩, fun i h1 h2 => ?_⟩ ⟨⟨a, by omega, by omega, rfl⟩, fun i h1 h2 => ?_⟩
  · have : i = a := by omega
    rw [this]; exact Int.le_refl _
  · have : i = a := by omega
    rw [this]; exact Int.le_refl _
theorem fill_L (fu : Nat) (v : Int32) (N : Nat) (hN : N ≤ 100000) (hi : Int32) (hhi : hi.toInt = N) : ∀ (n j f : Nat) (x : Int32) (q : Nat → Int32), j + n = N → x.toInt = j → n < f → (∀ i, i < j → q i = v) → ∃ q', FJ7_fill_53178_L fu v N f x hi q = some q' ∧ ∀ i, i < N → q' i = v := by
  have q1 := t_1
  intro n
  induction n with
  | zero =>
    intro j f x q hj hx hf h
    obtain ⟨f, rfl⟩ : ∃ g, f = g + 1 := ⟨f - 1, by omega⟩
    rw [FJ7_fill_53178_L, if_pos (by rw [i_le]; omega)]
    exact ⟨q, rfl, fun i hi => h i (by omega)⟩
  | succ n ih =>
    intro j f x q hj hx hf h
    obtain ⟨f, rfl⟩ : ∃ g, f = g + 1 := ⟨f - 1, by omega⟩
    have hi' : pz_inb x N = true := i_inb.mpr (by omega)
    have hn : x.toNatClampNeg = j := by have := i_nat (a := x) (by omega); omega
    rw [FJ7_fill_53178_L, if_neg (by rw [i_le]; omega), if_pos hi', hn]
    have hs := i_add x 1 (by omega) (by omega)
    generalize x + 1 = x' at *
    refine ih (j + 1) f x' _ (by omega) (by omega) (by omega) (fun i hi => ?_)
    unfold upd
    by_cases g : i = j
    · rw [if_pos g]
    · rw [if_neg g]; exact h i (by omega)
theorem fill_eq {fu : Nat} (hfu : 10000 ≤ fu) (v : Int32) (N : Nat) (hN : N ≤ 9000) (q : Nat → Int32) : ∃ q', FJ7_fill_53178 fu v N q = some q' ∧ ∀ i, i < N → q' i = v := by
  unfold FJ7_fill_53178
  exact fill_L fu v N (by omega) _ (i_lit N (by omega)) N 0 fu 0 q (by omega) rfl (by omega) (fun i hi => absurd hi (by omega))
