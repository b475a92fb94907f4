/-! ===== named, safe, and what may be changed ===== -/
/-- bit s of the class's table is what the reference works out in the GEARS s -/
def tabRel (fu : Nat) (t : Int64) (gf gt : Int32) (ks kv : Nat → Int32) : Prop := ∀ (p : Int32) (s : Nat), p.toInt = s → s < 64 → ∀ pile, ∃ pile', FX12_holdsBy fu gf gt p ks kv pile = some (bI (tb t s), pile')
def gearRel (fu : Nat) (gears : Int32) (names : Nat → Int32) (mayT : Nat → Int64) (safeT : Int64) (gname gfrom gto : Nat → Int32) (sf sto : Int32) (ks kv : Nat → Int32) (G : Nat) : Prop :=
  gears.toInt = G ∧ G ≤ 6 ∧ (∀ k, k < G → gname k = names k) ∧ (∀ g, g < G → tabRel fu (mayT g) (gfrom g) (gto g) ks kv) ∧ ((sf = -1 ∧ safeT = -1) ∨ (¬ sf = -1 ∧ tabRel fu safeT sf sto ks kv))
theorem table_both {fu : Nat} (hfu : 1000 ≤ fu) (p1 p2 wr : Int32) (K ks kv : Nat → Int32) (a b e : Nat) (h1 : p1.toInt = a) (h2 : p2.toInt = b) (hab : a ≤ b) (hb : b ≤ 64) (hw : p2.toInt ≤ wr.toInt) (hk : ∀ k, a ≤ k → k < b → gRel (K k) (ks (64 + k)) (kv (64 + k))) (hr : run_ok K (b - a) a 0 = some e) (vals : Nat → Int64) :
    ∃ (t : Int64) (vals' : Nat → Int64), FX2_tableOf fu p1 p2 wr K vals = some (t, vals') ∧ tabRel fu t p1 p2 ks kv := by
  have t64 := t_64
  unfold FX2_tableOf
  obtain ⟨t, vals', e1, e2⟩ := cls_table fu p1 p2 wr K (b - a) a 0 e fu 0 p1 vals h1 rfl (by omega) hw (by omega) (by omega) (by omega) (fun k h1 h2 => ⟨_, _, hk k h1 (by omega)⟩) hr
  refine ⟨t, vals', e1, ?_⟩
  intro p s hp hs pile
  unfold FX12_holdsBy
  have hadd := i_add 64 p1 (by omega) (by omega)
  obtain ⟨pile', f1⟩ := ref_table fu p1 p2 p K ks kv s hp hs (b - a) a 0 e fu 0 (64 + p1) pile (fun i => tb (vals i) s) (by omega) rfl (by omega) (by omega) (by omega) (by omega) (fun k h1 h2 => hk k h1 (by omega)) hr (fun i hi => absurd hi (by omega))
  rw [← e2 s hs] at f1
  exact ⟨pile', f1⟩
/-- no knots: always -/
theorem table_none {fu : Nat} (hfu : 1000 ≤ fu) (p1 p2 : Int32) (ks kv : Nat → Int32) (a : Nat) (h1 : p1.toInt = a) (ha : a ≤ 64) (h2 : p2 = p1) : tabRel fu (-1) p1 p2 ks kv := by
  intro p s hp hs pile
  have t64 := t_64
  have hadd := i_add 64 p1 (by omega) (by omega)
  unfold FX12_holdsBy
  obtain ⟨f, rfl⟩ : ∃ g, fu = g + 1 := ⟨fu - 1, by omega⟩
  rw [FX12_holdsBy_L, if_pos (by rw [i_le, h2]; omega), if_pos rfl, tb_m1 s hs]
  exact ⟨_, rfl⟩
section
variable {fu : Nat} {gears : Int32} {names : Nat → Int32} {mayT : Nat → Int64} {safeT : Int64} {gname gfrom gto : Nat → Int32} {sf sto : Int32} {ks kv : Nat → Int32} {G : Nat}
theorem found_L (p : Int32) (hg : gears.toInt = G) (hG : G ≤ 6) (hn : ∀ k, k < G → gname k = names k) : ∀ (n k f f' : Nat) (x : Int32), k + n = G → x.toInt = k → n < f → n < f' → ∃ v, FX6_gearOf_L fu p gears names f x = some v ∧ FX12_found_L fu 0 gears p 12 gname f' x = some v ∧ (v = -1 ∨ (0 ≤ v.toInt ∧ v.toInt < G)) := by
  have q0 := t_0
  have q1 := t_1
  intro n
  induction n with
  | zero =>
    intro k f f' x hk hx hf hf'
    obtain ⟨f, rfl⟩ : ∃ g, f = g + 1 := ⟨f - 1, by omega⟩
    obtain ⟨f', rfl⟩ : ∃ g, f' = g + 1 := ⟨f' - 1, by omega⟩
    rw [FX6_gearOf_L, FX12_found_L, if_pos (by rw [i_le]; omega), if_pos (by rw [i_le]; omega)]
    exact ⟨_, rfl, rfl, Or.inl rfl⟩
  | succ n ih =>
    intro k f f' x hk hx hf hf'
    obtain ⟨f, rfl⟩ : ∃ g, f = g + 1 := ⟨f - 1, by omega⟩
    obtain ⟨f', rfl⟩ : ∃ g, f' = g + 1 := ⟨f' - 1, by omega⟩
    have h0 := i_add 0 x (by omega) (by omega)
    have hs := i_add x 1 (by omega) (by omega)
    have e0 : (0 : Int32) + x = x := i_of x.toInt (by omega) rfl
    have hi : pz_inb x 6 = true := i_inb.mpr (by omega)
    have hi2 : pz_inb x 12 = true := i_inb.mpr (by omega)
    have hnn : x.toNatClampNeg = k := by have := i_nat (a := x) (by omega); omega
    rw [FX6_gearOf_L, FX12_found_L, if_neg (show ¬ gears ≤ x by rw [i_le]; omega), if_neg (show ¬ gears ≤ x by rw [i_le]; omega), if_pos hi, e0, if_pos hi2, hnn, hn k (by omega)]
    by_cases g : names k = p
    · rw [if_neg (show ¬ ¬ names k = p from fun z => z g), if_neg (show ¬ ¬ names k = p from fun z => z g)]
      exact ⟨x, rfl, rfl, Or.inr ⟨by omega, by omega⟩⟩
    · rw [if_pos g, if_pos g]
      exact ih (k + 1) f f' (x + 1) (by omega) (by omega) (by omega) (by omega)
theorem gear_found (hfu : 1000 ≤ fu) (p : Int32) (hg : gears.toInt = G) (hG : G ≤ 6) (hn : ∀ k, k < G → gname k = names k) : ∃ v, FX6_gearOf fu p gears names = some v ∧ FX12_found fu 0 gears p 12 gname = some v ∧ (v = -1 ∨ (0 ≤ v.toInt ∧ v.toInt < G)) := by
  unfold FX6_gearOf FX12_found
  exact found_L p hg hG hn G 0 fu fu 0 (by omega) rfl (by omega) (by omega)
theorem named_eq (hfu : 1000 ≤ fu) (p : Int32) (h : gearRel fu gears names mayT safeT gname gfrom gto sf sto ks kv G) : ∃ v, FX11_named fu p gears names = some v ∧ FX12_named fu p gears gname = some (v, 0) := by
  obtain ⟨h1, h2, h3, h4, h5⟩ := h
  obtain ⟨v, e1, e2, e3⟩ := gear_found (fu := fu) hfu p h1 h2 h3
  unfold FX11_named FX12_named
  rw [e1, e2]
  exact ⟨v, rfl, rfl⟩
theorem gears_eq (p g : Int32) : fX12_isGears_r p g = fX6_hasGears_r p g := rfl
theorem has_gears {p g : Int32} (hg : g.toInt = G) (hG : G ≤ 6) (h : ¬ fX6_hasGears_r p g = 0) : ∃ s : Nat, p.toInt = s ∧ s < 2 ^ G ∧ s < 64 := by
  have q0 := t_0
  unfold fX6_hasGears_r at h
  have h7 := one_sh7 (p := g) hg (by omega)
  have hl : ∀ j, j ≤ 6 → 2 ^ j ≤ 64 := by decide
  have := hl G hG
  by_cases c1 : p < 0
  · rw [if_pos c1] at h; exact absurd rfl h
  rw [if_neg c1] at h
  by_cases c2 : (1 : Int32) <<< (g &&& 31) ≤ p
  · rw [if_pos c2] at h; exact absurd rfl h
  rw [i_lt] at c1
  rw [i_le] at c2
  exact ⟨p.toInt.toNat, by omega, by omega, by omega⟩
theorem isSafe_eq (h : gearRel fu gears names mayT safeT gname gfrom gto sf sto ks kv G) {p : Int32} {s : Nat} (hp : p.toInt = s) (hs : s < 64) (pile : Nat → Int32) : ∃ pile', FX12_isSafe fu p sf sto ks kv pile = some (bI (tb safeT s), pile') := by
  obtain ⟨h1, h2, h3, h4, h5⟩ := h
  unfold FX12_isSafe
  rcases h5 with ⟨a1, a2⟩ | ⟨a1, a2⟩
  · rw [if_pos a1, a2, tb_m1 s hs]
    exact ⟨_, rfl⟩
  · rw [if_neg a1]
    obtain ⟨pile', e⟩ := a2 p s hp hs pile
    rw [e, Option.bind_some]
    cases tb safeT s
    · exact ⟨_, rfl⟩
    · exact ⟨_, rfl⟩
theorem bit_I (b : Bool) : (if b then (1 : Int64) else 0).toInt32 = bI b := by cases b <;> decide
theorem safe_eq (p : Int32) (h : gearRel fu gears names mayT safeT gname gfrom gto sf sto ks kv G) (pile : Nat → Int32) : ∃ pile', FX12_safe fu p gears sf sto ks kv pile = some (fX11_safe_r p safeT gears, 0, pile') := by
  unfold FX12_safe fX11_safe_r
  rw [gears_eq]
  by_cases c : fX6_hasGears_r p gears = 0
  · rw [if_neg (show ¬ ¬ _ = (0 : Int32) from fun z => z c), if_neg (show ¬ ¬ _ = (0 : Int32) from fun z => z c)]
    exact ⟨_, rfl⟩
  · obtain ⟨s, a1, a2, a3⟩ := has_gears h.1 h.2.1 c
    rw [if_pos c, if_pos c]
    obtain ⟨pile', e⟩ := isSafe_eq h a1 a3 pile
    rw [e, Option.bind_some, low_bit safeT p s a1 a3, bit_I]
    refine ⟨pile', ?_⟩
    cases tb safeT s <;> rfl
/-- may GEAR g be changed in the GEARS s -/
def okc (mayT : Nat → Int64) (safeT : Int64) (s g : Nat) : Bool := tb (mayT g) s && tb safeT (s ^^^ 2 ^ g)
theorem may_eq (h : gearRel fu gears names mayT safeT gname gfrom gto sf sto ks kv G) {p q : Int32} {s g : Nat} (hp : p.toInt = s) (hs : s < 64) (hq : q.toInt = g) (hg : g < G) (pile : Nat → Int32) : ∃ pile', FX12_mayChange fu p q sf sto ks kv gfrom gto pile = some (bI (okc mayT safeT s g), pile') := by
  obtain ⟨h1, h2, h3, h4, h5⟩ := id h
  have hi : pz_inb q 12 = true := i_inb.mpr (by omega)
  have hn : q.toNatClampNeg = g := by have := i_nat (a := q) (by omega); omega
  unfold FX12_mayChange okc
  rw [if_pos hi, if_pos hi, hn]
  obtain ⟨pile1, e1⟩ := h4 g hg p s hp hs pile
  rw [e1, Option.bind_some]
  cases tb (mayT g) s with
  | false => exact ⟨pile1, rfl⟩
  | true =>
    obtain ⟨f1, f2⟩ := one_flip hp hs hq (show g < 6 by omega)
    obtain ⟨pile2, e2⟩ := isSafe_eq h f1 f2 pile1
    show ∃ pile', (if bI true = 0 then _ else (FX12_isSafe fu (p ^^^ ((1 : Int32) <<< (q &&& 31))) sf sto ks kv pile1).bind _) = _
    rw [if_neg (show ¬ bI true = 0 by decide), e2, Option.bind_some]
    refine ⟨pile2, ?_⟩
    rw [Bool.true_and]
    cases tb safeT (s ^^^ 2 ^ g) <;> rfl
end
