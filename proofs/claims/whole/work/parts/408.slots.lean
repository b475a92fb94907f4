-- deps: 100 110 111 112 113 114 115 116 117 118 119 120 121 130 131 132 133 134 135 136 137 138 139 140 141 142 143 144 145 146 200 201 202 203 204 205 206 207
/-! ===== a table of slots ===== -/
theorem php : ∀ (m n : Nat) (f : Nat → Nat), (∀ i, i < n → f i < m) → (∀ i j, i < n → j < n → f i = f j → i = j) → n ≤ m := by
  intro m
  induction m with
  | zero =>
    intro n f h1 h2
    rcases Nat.eq_zero_or_pos n with h | h
    · omega
    · exact absurd (h1 0 h) (by omega)
  | succ m ih =>
    intro n f h1 h2
    cases n with
    | zero => omega
    | succ n =>
      -- g: f with the value f n taken out
      have := ih n (fun i => if f i = m then f n else f i) (fun i hi => by
        have a := h1 i (by omega)
        have b := h1 n (by omega)
        show (if f i = m then f n else f i) < m
        by_cases g : f i = m
        · rw [if_pos g]
          have : f n ≠ m := fun z => absurd (h2 i n (by omega) (by omega) (g.trans z.symm)) (by omega)
          omega
        · rw [if_neg g]; omega) (fun i j hi hj hij => by
        have hn1 : f i ≠ f n := fun z => absurd (h2 i n (by omega) (by omega) z) (by omega)
        have hn2 : f j ≠ f n := fun z => absurd (h2 j n (by omega) (by omega) z) (by omega)
        replace hij : (if f i = m then f n else f i) = (if f j = m then f n else f j) := hij
        by_cases g1 : f i = m <;> by_cases g2 : f j = m
        · exact h2 i j (by omega) (by omega) (g1.trans g2.symm)
        · rw [if_pos g1, if_neg g2] at hij; exact absurd hij.symm hn2
        · rw [if_neg g1, if_pos g2] at hij; exact absurd hij hn1
        · rw [if_neg g1, if_neg g2] at hij; exact h2 i j (by omega) (by omega) hij)
      omega
/-- where a number's slot is -/
def hslot (x : Int64) : Int32 := (((x * (-7046029254386353131)).toUInt64 >>> ((53 : Int32).toInt64.toUInt64 &&& Int64.toUInt64 63)).toInt64).toInt32
theorem hslot_rng (x : Int64) : 0 ≤ (hslot x).toInt ∧ (hslot x).toInt < 2048 := by
  unfold hslot
  generalize x * (-7046029254386353131) = y
  have e : ((53 : Int32).toInt64.toUInt64 &&& Int64.toUInt64 63) = (53 : UInt64) := rfl
  rw [e]
  have e2 : pn ((y.toUInt64 >>> (53 : UInt64)).toInt64) = (y.toBitVec >>> 53).toNat := rfl
  rw [BitVec.toNat_ushiftRight, Nat.shiftRight_eq_div_pow] at e2
  have hlt := y.toBitVec.isLt
  generalize (y.toUInt64 >>> (53 : UInt64)).toInt64 = z at *
  have := pn_small (x := z) (by omega)
  omega
theorem wrap_slot {s : Int32} (h1 : 0 ≤ s.toInt) (h2 : s.toInt < 2048) : ((s + 1) &&& ((Int32.ofNat 2048) - 1)).toInt = ((s.toInt.toNat + 1) % 2048 : Nat) := by
  have e : (Int32.ofNat 2048) - 1 = (2047 : Int32) := rfl
  rw [e]
  have q1 := t_1
  have hs := i_add s 1 (by omega) (by omega)
  generalize s + 1 = y at *
  have hb : y.toBitVec.toNat = s.toInt.toNat + 1 := by
    have h3 : y.toInt = y.toBitVec.toInt := rfl
    rw [h3, BitVec.toInt_eq_toNat_cond] at hs
    have := y.toBitVec.isLt
    split at hs <;> omega
  have h4 : (y &&& 2047).toInt = (y &&& 2047).toBitVec.toInt := rfl
  have h5 : (y &&& 2047).toBitVec.toNat = y.toBitVec.toNat &&& (2 ^ 11 - 1) := by
    rw [Int32.toBitVec_and, BitVec.toNat_and]
    rfl
  rw [Nat.and_two_pow_sub_one_eq_mod] at h5
  rw [h4, BitVec.toInt_eq_toNat_cond, if_pos (by omega), h5, hb]
/-- the table holds the first J of seq -/
def hInv (seq : Nat → Int64) (J : Nat) (slots : Nat → Int32) : Prop :=
  (∀ i, i < J → ∃ t, t < 2048 ∧ (slots (((hslot (seq i)).toInt.toNat + t) % 2048)).toInt = i + 1 ∧ ∀ t', t' < t → (slots (((hslot (seq i)).toInt.toNat + t') % 2048)).toInt ≠ 0) ∧
  (∀ q, q < 2048 → (slots q).toInt ≠ 0 → ∃ i : Nat, i < J ∧ (slots q).toInt = i + 1) ∧
  (∀ q q', q < 2048 → q' < 2048 → (slots q).toInt = (slots q').toInt → (slots q).toInt ≠ 0 → q = q')
theorem hInv_free {seq : Nat → Int64} {J : Nat} {slots : Nat → Int32} (h : hInv seq J slots) (hJ : J < 2048) (b : Nat) : ∃ t, t < 2048 ∧ (slots ((b + t) % 2048)).toInt = 0 := by
  by_cases hz : ∃ t, t < 2048 ∧ (slots ((b + t) % 2048)).toInt = 0
  · exact hz
  · have all : ∀ t, t < 2048 → (slots ((b + t) % 2048)).toInt ≠ 0 := fun t ht z => hz ⟨t, ht, z⟩
    have := php J 2048 (fun t => (slots ((b + t) % 2048)).toInt.toNat - 1) (fun t ht => by
      obtain ⟨i, hi, e⟩ := h.2.1 ((b + t) % 2048) (by omega) (all t ht)
      show (slots ((b + t) % 2048)).toInt.toNat - 1 < J
      omega) (fun t t' ht ht' e => by
      obtain ⟨i, hi, e1⟩ := h.2.1 ((b + t) % 2048) (by omega) (all t ht)
      obtain ⟨i', hi', e2⟩ := h.2.1 ((b + t') % 2048) (by omega) (all t' ht')
      have e3 : (slots ((b + t) % 2048)).toInt.toNat - 1 = (slots ((b + t') % 2048)).toInt.toNat - 1 := e
      have := h.2.2 ((b + t) % 2048) ((b + t') % 2048) (by omega) (by omega) (by omega) (all t ht)
      omega)
    omega
theorem keep_found (fu : Nat) (p1 c0 c1 c2 c3 c4 c5 c6 c7 : Int32) {seq seen : Nat → Int64} {J : Nat} {slots : Nat → Int32} (h : hInv seq J slots) (hJ : J ≤ 1501) (hseen : ∀ i, i < J → seen i = seq i) (x : Int64) (b i0 t0 : Nat) (hx : seq i0 = x) (hi0 : i0 < J) (huni : ∀ i, i < J → seq i = x → i = i0) (ht0 : t0 < 2048) (hs0 : (slots ((b + t0) % 2048)).toInt = i0 + 1) (hb : ∀ t', t' < t0 → (slots ((b + t') % 2048)).toInt ≠ 0) : ∀ (n t f : Nat) (s v : Int32), t + n = t0 → s.toInt = ((b + t) % 2048 : Nat) → v.toInt = 2048 - t → n < f → ∃ r : Int32, r.toInt = i0 ∧ FX8_keep_L fu p1 c0 c1 c2 c3 c4 c5 c6 c7 f x s v seen slots = some (r, seen, slots) := by
  have q0 := t_0
  have q1 := t_1
  have qm := t_m1
  intro n
  induction n with
  | zero =>
    intro t f s v ht hs hv hf
    obtain ⟨f, rfl⟩ : ∃ g, f = g + 1 := ⟨f - 1, by omega⟩
    have : t = t0 := by omega
    subst this
    have hi : pz_inb s 2048 = true := i_inb.mpr (by omega)
    have hn : s.toNatClampNeg = (b + t) % 2048 := by have := i_nat (a := s) (by omega); omega
    rw [FX8_keep_L, if_neg (by rw [i_le]; omega), if_pos hi, hn, if_neg (by rw [i_eq]; omega), if_pos hi, if_pos hi]
    generalize slots ((b + t) % 2048) = y at *
    have e := i_sub y 1 (by omega) (by omega)
    generalize y - 1 = z at *
    have hz : z.toNatClampNeg = i0 := by have := i_nat (a := z) (by omega); omega
    have hi2 : pz_inb z 1501 = true := i_inb.mpr (by omega)
    rw [if_pos hi2, hz, if_neg (by rw [lg_cmp_eq, hseen i0 hi0]; exact fun q => q hx)]
    exact ⟨z, by omega, rfl⟩
  | succ n ih =>
    intro t f s v ht hs hv hf
    obtain ⟨f, rfl⟩ : ∃ g, f = g + 1 := ⟨f - 1, by omega⟩
    have hi : pz_inb s 2048 = true := i_inb.mpr (by omega)
    have hn : s.toNatClampNeg = (b + t) % 2048 := by have := i_nat (a := s) (by omega); omega
    have hnz := hb t (by omega)
    obtain ⟨i, hi', e1⟩ := h.2.1 ((b + t) % 2048) (by omega) hnz
    rw [FX8_keep_L, if_neg (by rw [i_le]; omega), if_pos hi, hn, if_neg (by rw [i_eq]; omega), if_pos hi, if_pos hi]
    have hw := wrap_slot (s := s) (by omega) (by omega)
    generalize (s + 1) &&& ((Int32.ofNat 2048) - 1) = s' at *
    generalize (-1 : Int32) = mo at *
    have hv' := i_add v mo (by omega) (by omega)
    generalize v + mo = v' at *
    have ih' := ih (t + 1) f s' v' (by omega) (by omega) (by omega) (by omega)
    generalize slots ((b + t) % 2048) = y at *
    have e := i_sub y 1 (by omega) (by omega)
    generalize y - 1 = z at *
    have hz : z.toNatClampNeg = i := by have := i_nat (a := z) (by omega); omega
    have hi2 : pz_inb z 1501 = true := i_inb.mpr (by omega)
    rw [if_pos hi2, hz, hseen i hi']
    simp only [lg_cmp_eq]
    by_cases g : seq i = x
    · rw [if_neg (show ¬ ¬ seq i = x from fun q => q g)]
      have := huni i hi' g
      exact ⟨z, by omega, rfl⟩
    · rw [if_pos g]
      exact ih'
theorem keep_new (fu : Nat) (p1 c0 c1 c2 c3 c4 c5 c6 c7 : Int32) {seq seen : Nat → Int64} {J : Nat} {slots : Nat → Int32} (h : hInv seq J slots) (hJ : J ≤ 1501) (hseen : ∀ i, i < J → seen i = seq i) (x : Int64) (b t0 : Nat) (hnew : ∀ i, i < J → ¬ seq i = x) (ht0 : t0 < 2048) (hs0 : (slots ((b + t0) % 2048)).toInt = 0) (hb : ∀ t', t' < t0 → (slots ((b + t') % 2048)).toInt ≠ 0) : ∀ (n t f : Nat) (s v : Int32), t + n = t0 → s.toInt = ((b + t) % 2048 : Nat) → v.toInt = 2048 - t → n < f → FX8_keep_L fu p1 c0 c1 c2 c3 c4 c5 c6 c7 f x s v seen slots = some (-1, seen, upd slots ((b + t0) % 2048) (p1 + 1)) := by
  have q0 := t_0
  have q1 := t_1
  have qm := t_m1
  intro n
  induction n with
  | zero =>
    intro t f s v ht hs hv hf
    obtain ⟨f, rfl⟩ : ∃ g, f = g + 1 := ⟨f - 1, by omega⟩
    have : t = t0 := by omega
    subst this
    have hi : pz_inb s 2048 = true := i_inb.mpr (by omega)
    have hn : s.toNatClampNeg = (b + t) % 2048 := by have := i_nat (a := s) (by omega); omega
    rw [FX8_keep_L, if_neg (by rw [i_le]; omega), if_pos hi, hn, if_pos (by rw [i_eq]; omega), if_pos hi]
  | succ n ih =>
    intro t f s v ht hs hv hf
    obtain ⟨f, rfl⟩ : ∃ g, f = g + 1 := ⟨f - 1, by omega⟩
    have hi : pz_inb s 2048 = true := i_inb.mpr (by omega)
    have hn : s.toNatClampNeg = (b + t) % 2048 := by have := i_nat (a := s) (by omega); omega
    have hnz := hb t (by omega)
    obtain ⟨i, hi', e1⟩ := h.2.1 ((b + t) % 2048) (by omega) hnz
    rw [FX8_keep_L, if_neg (by rw [i_le]; omega), if_pos hi, hn, if_neg (by rw [i_eq]; omega), if_pos hi, if_pos hi]
    have hw := wrap_slot (s := s) (by omega) (by omega)
    generalize (s + 1) &&& ((Int32.ofNat 2048) - 1) = s' at *
    have hv' : (v + -1).toInt = v.toInt - 1 := by
      generalize (-1 : Int32) = mo at *
      have := i_add v mo (by omega) (by omega)
      omega
    generalize v + -1 = v' at *
    have ih' := ih (t + 1) f s' v' (by omega) (by omega) (by omega) (by omega)
    generalize slots ((b + t) % 2048) = y at *
    have e := i_sub y 1 (by omega) (by omega)
    generalize y - 1 = z at *
    have hz : z.toNatClampNeg = i := by have := i_nat (a := z) (by omega); omega
    have hi2 : pz_inb z 1501 = true := i_inb.mpr (by omega)
    rw [if_pos hi2, hz, hseen i hi', if_pos (by rw [lg_cmp_eq]; exact hnew i hi')]
    exact ih'
/-- the least place -/
theorem least_of {P : Nat → Prop} : ∀ n, P n → ∃ m, m ≤ n ∧ P m ∧ ∀ k, k < m → ¬ P k := by
  intro n
  induction n using Nat.strongRecOn with
  | ind n ih =>
    intro hn
    by_cases h : ∃ k, k < n ∧ P k
    · obtain ⟨k, hk, hp⟩ := h
      obtain ⟨m, h1, h2, h3⟩ := ih k hk hp
      exact ⟨m, by omega, h2, h3⟩
    · exact ⟨n, Nat.le_refl _, hn, fun k hk hp => h ⟨k, hk, hp⟩⟩
theorem hInv_put {seq : Nat → Int64} {J : Nat} {slots : Nat → Int32} (h : hInv seq J slots) (hJ : J ≤ 1500) (t0 : Nat) (ht0 : t0 < 2048) (hs0 : (slots (((hslot (seq J)).toInt.toNat + t0) % 2048)).toInt = 0) (hb : ∀ t', t' < t0 → (slots (((hslot (seq J)).toInt.toNat + t') % 2048)).toInt ≠ 0) (p : Int32) (hp : p.toInt = J + 1) : hInv seq (J + 1) (upd slots (((hslot (seq J)).toInt.toNat + t0) % 2048) p) := by
  generalize hq : ((hslot (seq J)).toInt.toNat + t0) % 2048 = q0 at *
  have up : ∀ q, (upd slots q0 p q).toInt = if q = q0 then (J : Int) + 1 else (slots q).toInt := by
    intro q
    unfold upd
    by_cases g : q = q0
    · rw [if_pos g, if_pos g, hp]
    · rw [if_neg g, if_neg g]
  have nz : ∀ q, (slots q).toInt ≠ 0 → (upd slots q0 p q).toInt = (slots q).toInt ∧ (upd slots q0 p q).toInt ≠ 0 := by
    intro q hne
    rw [up]
    have : ¬ q = q0 := fun z => hne (by rw [z]; exact hs0)
    rw [if_neg this]
    exact ⟨rfl, hne⟩
  refine ⟨fun i hi => ?_, fun q hq1 hq2 => ?_, fun q q' h1 h2 h3 h4 => ?_⟩
  · by_cases g : i = J
    · subst g
      refine ⟨t0, ht0, ?_, fun t' ht' => ?_⟩
      · rw [hq, up, if_pos rfl]
      · exact (nz _ (hb t' ht')).2
    · obtain ⟨t, a1, a2, a3⟩ := h.1 i (by omega)
      refine ⟨t, a1, ?_, fun t' ht' => (nz _ (a3 t' ht')).2⟩
      rw [(nz _ (by omega)).1]
      exact a2
  · rw [up] at hq2 ⊢
    by_cases g : q = q0
    · rw [if_pos g]; exact ⟨J, by omega, rfl⟩
    · rw [if_neg g] at hq2 ⊢
      obtain ⟨i, a1, a2⟩ := h.2.1 q hq1 hq2
      exact ⟨i, by omega, a2⟩
  · rw [up, up] at h3
    rw [up] at h4
    by_cases g : q = q0 <;> by_cases g' : q' = q0
    · omega
    · rw [if_pos g, if_neg g'] at h3
      obtain ⟨i, a1, a2⟩ := h.2.1 q' h2 (by omega)
      omega
    · rw [if_neg g, if_pos g'] at h3
      rw [if_neg g] at h4
      obtain ⟨i, a1, a2⟩ := h.2.1 q h1 h4
      omega
    · rw [if_neg g, if_neg g'] at h3
      rw [if_neg g] at h4
      exact h.2.2 q q' h1 h2 h3 h4
