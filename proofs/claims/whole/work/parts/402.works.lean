-- deps: 100 110 111 112 113 114 115 116 117 118 119 120 130 131 132 133 200 201
/-! ===== the reference's signs ===== -/
theorem works_407 (fu : Nat) (v : Int64) (m : Int32) (w : Nat → Int64) (e : Nat) (hm : m.toInt = e) (h1 : 1 ≤ e) (h2 : e ≤ 64) : (isVal v → FX12_works_J407 fu v m w = some (1, m, vp_updL w (e - 1) v)) ∧ (¬ isVal v → ∃ w', FX12_works_J407 fu v m w = some (0, m, w')) := by
  have hs := i_sub m 1 (by have : (1 : Int32).toInt = 1 := rfl; omega) (by have : (1 : Int32).toInt = 1 := rfl; omega)
  have e1 : (1 : Int32).toInt = 1 := rfl
  have hi : pz_inb (m - 1) 64 = true := i_inb.mpr (by omega)
  have hn : (m - 1).toNatClampNeg = e - 1 := by have := i_nat (a := m - 1) (by omega); omega
  unfold FX12_works_J407
  rw [if_pos hi, hn]
  simp only [lg_cmp_gt, lg_cmp_lt, l_lt, l_G, l_mG]
  constructor
  · rintro ⟨a, b⟩
    rw [if_neg (by omega), if_neg (by omega)]
  · intro h
    by_cases g : 1000000000000 < v.toInt
    · rw [if_pos g]; exact ⟨_, rfl⟩
    · rw [if_neg g]
      have g2 : v.toInt < -1000000000000 := by
        by_cases z : v.toInt < -1000000000000
        · exact z
        · exact absurd ⟨by omega, by omega⟩ h
      rw [if_pos g2]; exact ⟨_, rfl⟩
theorem l_abs (x : Int64) (h : isVal x) : (fJ9_abs_067f4_r x).toInt = x.toInt.natAbs := by
  obtain ⟨h1, h2⟩ := h
  unfold fJ9_abs_067f4_r
  simp only [lg_cmp_ge, l_le, l_0]
  by_cases g : 0 ≤ x.toInt
  · rw [if_pos g]; omega
  · rw [if_neg g, l_neg x (by omega)]; omega
theorem works_s42 (fu : Nat) (m : Int32) (w : Nat → Int64) (d : Nat) (h1 : pz_inb (m - 1) 64 = true) (h2 : pz_inb (m - 2) 64 = true) (hn1 : (m - 1).toNatClampNeg = d - 1) (hn2 : (m - 2).toNatClampNeg = d - 2) (x y : Int64) (hx : w (d - 2) = x) (hy : w (d - 1) = y) : FX12_works fu 42 m w = (if (lg_cmp x 0) = 0 then (FX12_works_J212 fu y x (m - 1) w) else (if ¬ (fJ9_abs_067f4_r x) = 0 then (if (lg_cmp (fJ9_abs_067f4_r y) (1000000000000 / (fJ9_abs_067f4_r x))) ≤ 0 then (FX12_works_J212 fu y x (m - 1) w) else (some ((0 : Int32), m - 1, w))) else none)) := by
  subst hx hy
  unfold FX12_works
  rw [if_pos h1, if_pos (show ¬ (42 : Int32) = 260 by decide), if_pos h2, if_pos rfl, hn1, hn2]
theorem works_s43 (fu : Nat) (m : Int32) (w : Nat → Int64) (d : Nat) (h1 : pz_inb (m - 1) 64 = true) (h2 : pz_inb (m - 2) 64 = true) (hn1 : (m - 1).toNatClampNeg = d - 1) (hn2 : (m - 2).toNatClampNeg = d - 2) (x y : Int64) (hx : w (d - 2) = x) (hy : w (d - 1) = y) : FX12_works fu 43 m w = FX12_works_J407 fu (x + y) (m - 1) w := by
  subst hx hy
  unfold FX12_works
  rw [if_pos h1, if_pos (show ¬ (43 : Int32) = 260 by decide), if_pos h2, if_neg (show ¬ (43 : Int32) = 42 by decide), if_pos rfl, hn1, hn2]
theorem works_s45 (fu : Nat) (m : Int32) (w : Nat → Int64) (d : Nat) (h1 : pz_inb (m - 1) 64 = true) (h2 : pz_inb (m - 2) 64 = true) (hn1 : (m - 1).toNatClampNeg = d - 1) (hn2 : (m - 2).toNatClampNeg = d - 2) (x y : Int64) (hx : w (d - 2) = x) (hy : w (d - 1) = y) : FX12_works fu 45 m w = FX12_works_J407 fu (x - y) (m - 1) w := by
  subst hx hy
  unfold FX12_works
  rw [if_pos h1, if_pos (show ¬ (45 : Int32) = 260 by decide), if_pos h2, if_neg (show ¬ (45 : Int32) = 42 by decide), if_neg (show ¬ (45 : Int32) = 43 by decide), if_pos rfl, hn1, hn2]
theorem works_s47 (fu : Nat) (m : Int32) (w : Nat → Int64) (d : Nat) (h1 : pz_inb (m - 1) 64 = true) (h2 : pz_inb (m - 2) 64 = true) (hn1 : (m - 1).toNatClampNeg = d - 1) (hn2 : (m - 2).toNatClampNeg = d - 2) (x y : Int64) (hx : w (d - 2) = x) (hy : w (d - 1) = y) : FX12_works fu 47 m w = (if ¬ (lg_cmp y 0) = 0 then (if ¬ y = 0 then (FX12_works_J407 fu (x / y) (m - 1) w) else none) else (some ((0 : Int32), m - 1, w))) := by
  subst hx hy
  unfold FX12_works
  rw [if_pos h1, if_pos (show ¬ (47 : Int32) = 260 by decide), if_pos h2, if_neg (show ¬ (47 : Int32) = 42 by decide), if_neg (show ¬ (47 : Int32) = 43 by decide), if_neg (show ¬ (47 : Int32) = 45 by decide), if_pos rfl, hn1, hn2]
theorem works_s60 (fu : Nat) (m : Int32) (w : Nat → Int64) (d : Nat) (h1 : pz_inb (m - 1) 64 = true) (h2 : pz_inb (m - 2) 64 = true) (hn1 : (m - 1).toNatClampNeg = d - 1) (hn2 : (m - 2).toNatClampNeg = d - 2) (x y : Int64) (hx : w (d - 2) = x) (hy : w (d - 1) = y) : FX12_works fu 60 m w = (if 0 ≤ (lg_cmp x y) then (FX12_works_J250 fu (0 : Int32) (m - 1) w) else (FX12_works_J250 fu (1 : Int32) (m - 1) w)) := by
  subst hx hy
  unfold FX12_works
  rw [if_pos h1, if_pos (show ¬ (60 : Int32) = 260 by decide), if_pos h2, if_neg (show ¬ (60 : Int32) = 42 by decide), if_neg (show ¬ (60 : Int32) = 43 by decide), if_neg (show ¬ (60 : Int32) = 45 by decide), if_neg (show ¬ (60 : Int32) = 47 by decide), if_pos rfl, hn1, hn2]
theorem works_s61 (fu : Nat) (m : Int32) (w : Nat → Int64) (d : Nat) (h1 : pz_inb (m - 1) 64 = true) (h2 : pz_inb (m - 2) 64 = true) (hn1 : (m - 1).toNatClampNeg = d - 1) (hn2 : (m - 2).toNatClampNeg = d - 2) (x y : Int64) (hx : w (d - 2) = x) (hy : w (d - 1) = y) : FX12_works fu 61 m w = (if ¬ (lg_cmp x y) = 0 then (FX12_works_J290 fu (0 : Int32) (m - 1) w) else (FX12_works_J290 fu (1 : Int32) (m - 1) w)) := by
  subst hx hy
  unfold FX12_works
  rw [if_pos h1, if_pos (show ¬ (61 : Int32) = 260 by decide), if_pos h2, if_neg (show ¬ (61 : Int32) = 42 by decide), if_neg (show ¬ (61 : Int32) = 43 by decide), if_neg (show ¬ (61 : Int32) = 45 by decide), if_neg (show ¬ (61 : Int32) = 47 by decide), if_neg (show ¬ (61 : Int32) = 60 by decide), if_pos rfl, hn1, hn2]
theorem works_s62 (fu : Nat) (m : Int32) (w : Nat → Int64) (d : Nat) (h1 : pz_inb (m - 1) 64 = true) (h2 : pz_inb (m - 2) 64 = true) (hn1 : (m - 1).toNatClampNeg = d - 1) (hn2 : (m - 2).toNatClampNeg = d - 2) (x y : Int64) (hx : w (d - 2) = x) (hy : w (d - 1) = y) : FX12_works fu 62 m w = (if (lg_cmp x y) ≤ 0 then (FX12_works_J270 fu (0 : Int32) (m - 1) w) else (FX12_works_J270 fu (1 : Int32) (m - 1) w)) := by
  subst hx hy
  unfold FX12_works
  rw [if_pos h1, if_pos (show ¬ (62 : Int32) = 260 by decide), if_pos h2, if_neg (show ¬ (62 : Int32) = 42 by decide), if_neg (show ¬ (62 : Int32) = 43 by decide), if_neg (show ¬ (62 : Int32) = 45 by decide), if_neg (show ¬ (62 : Int32) = 47 by decide), if_neg (show ¬ (62 : Int32) = 60 by decide), if_neg (show ¬ (62 : Int32) = 61 by decide), if_pos rfl, hn1, hn2]
theorem works_s256 (fu : Nat) (m : Int32) (w : Nat → Int64) (d : Nat) (h1 : pz_inb (m - 1) 64 = true) (h2 : pz_inb (m - 2) 64 = true) (hn1 : (m - 1).toNatClampNeg = d - 1) (hn2 : (m - 2).toNatClampNeg = d - 2) (x y : Int64) (hx : w (d - 2) = x) (hy : w (d - 1) = y) : FX12_works fu 256 m w = (if 0 < (lg_cmp x y) then (FX12_works_J310 fu (0 : Int32) (m - 1) w) else (FX12_works_J310 fu (1 : Int32) (m - 1) w)) := by
  subst hx hy
  unfold FX12_works
  rw [if_pos h1, if_pos (show ¬ (256 : Int32) = 260 by decide), if_pos h2, if_neg (show ¬ (256 : Int32) = 42 by decide), if_neg (show ¬ (256 : Int32) = 43 by decide), if_neg (show ¬ (256 : Int32) = 45 by decide), if_neg (show ¬ (256 : Int32) = 47 by decide), if_neg (show ¬ (256 : Int32) = 60 by decide), if_neg (show ¬ (256 : Int32) = 61 by decide), if_neg (show ¬ (256 : Int32) = 62 by decide), if_pos rfl, hn1, hn2]
theorem works_s257 (fu : Nat) (m : Int32) (w : Nat → Int64) (d : Nat) (h1 : pz_inb (m - 1) 64 = true) (h2 : pz_inb (m - 2) 64 = true) (hn1 : (m - 1).toNatClampNeg = d - 1) (hn2 : (m - 2).toNatClampNeg = d - 2) (x y : Int64) (hx : w (d - 2) = x) (hy : w (d - 1) = y) : FX12_works fu 257 m w = (if (lg_cmp x y) = 0 then (FX12_works_J350 fu (0 : Int32) (m - 1) w) else (FX12_works_J350 fu (1 : Int32) (m - 1) w)) := by
  subst hx hy
  unfold FX12_works
  rw [if_pos h1, if_pos (show ¬ (257 : Int32) = 260 by decide), if_pos h2, if_neg (show ¬ (257 : Int32) = 42 by decide), if_neg (show ¬ (257 : Int32) = 43 by decide), if_neg (show ¬ (257 : Int32) = 45 by decide), if_neg (show ¬ (257 : Int32) = 47 by decide), if_neg (show ¬ (257 : Int32) = 60 by decide), if_neg (show ¬ (257 : Int32) = 61 by decide), if_neg (show ¬ (257 : Int32) = 62 by decide), if_neg (show ¬ (257 : Int32) = 256 by decide), if_pos rfl, hn1, hn2]
theorem works_s258 (fu : Nat) (m : Int32) (w : Nat → Int64) (d : Nat) (h1 : pz_inb (m - 1) 64 = true) (h2 : pz_inb (m - 2) 64 = true) (hn1 : (m - 1).toNatClampNeg = d - 1) (hn2 : (m - 2).toNatClampNeg = d - 2) (x y : Int64) (hx : w (d - 2) = x) (hy : w (d - 1) = y) : FX12_works fu 258 m w = (if (lg_cmp x y) < 0 then (FX12_works_J330 fu (0 : Int32) (m - 1) w) else (FX12_works_J330 fu (1 : Int32) (m - 1) w)) := by
  subst hx hy
  unfold FX12_works
  rw [if_pos h1, if_pos (show ¬ (258 : Int32) = 260 by decide), if_pos h2, if_neg (show ¬ (258 : Int32) = 42 by decide), if_neg (show ¬ (258 : Int32) = 43 by decide), if_neg (show ¬ (258 : Int32) = 45 by decide), if_neg (show ¬ (258 : Int32) = 47 by decide), if_neg (show ¬ (258 : Int32) = 60 by decide), if_neg (show ¬ (258 : Int32) = 61 by decide), if_neg (show ¬ (258 : Int32) = 62 by decide), if_neg (show ¬ (258 : Int32) = 256 by decide), if_neg (show ¬ (258 : Int32) = 257 by decide), if_pos rfl, hn1, hn2]
theorem works_s261 (fu : Nat) (m : Int32) (w : Nat → Int64) (d : Nat) (h1 : pz_inb (m - 1) 64 = true) (h2 : pz_inb (m - 2) 64 = true) (hn1 : (m - 1).toNatClampNeg = d - 1) (hn2 : (m - 2).toNatClampNeg = d - 2) (x y : Int64) (hx : w (d - 2) = x) (hy : w (d - 1) = y) : FX12_works fu 261 m w = (if (lg_cmp x 0) = 0 then (FX12_works_J375 fu (m - 1) w) else (if (lg_cmp y 0) = 0 then (FX12_works_J375 fu (m - 1) w) else (FX12_works_J376 fu (1 : Int32) (m - 1) w))) := by
  subst hx hy
  unfold FX12_works
  rw [if_pos h1, if_pos (show ¬ (261 : Int32) = 260 by decide), if_pos h2, if_neg (show ¬ (261 : Int32) = 42 by decide), if_neg (show ¬ (261 : Int32) = 43 by decide), if_neg (show ¬ (261 : Int32) = 45 by decide), if_neg (show ¬ (261 : Int32) = 47 by decide), if_neg (show ¬ (261 : Int32) = 60 by decide), if_neg (show ¬ (261 : Int32) = 61 by decide), if_neg (show ¬ (261 : Int32) = 62 by decide), if_neg (show ¬ (261 : Int32) = 256 by decide), if_neg (show ¬ (261 : Int32) = 257 by decide), if_neg (show ¬ (261 : Int32) = 258 by decide), if_pos rfl, hn1, hn2]
theorem works_s262 (fu : Nat) (m : Int32) (w : Nat → Int64) (d : Nat) (h1 : pz_inb (m - 1) 64 = true) (h2 : pz_inb (m - 2) 64 = true) (hn1 : (m - 1).toNatClampNeg = d - 1) (hn2 : (m - 2).toNatClampNeg = d - 2) (x y : Int64) (hx : w (d - 2) = x) (hy : w (d - 1) = y) : FX12_works fu 262 m w = (if ¬ (lg_cmp x 0) = 0 then (FX12_works_J397 fu (m - 1) w) else (if (lg_cmp y 0) = 0 then (FX12_works_J402 fu (0 : Int32) (m - 1) w) else (FX12_works_J397 fu (m - 1) w))) := by
  subst hx hy
  unfold FX12_works
  rw [if_pos h1, if_pos (show ¬ (262 : Int32) = 260 by decide), if_pos h2, if_neg (show ¬ (262 : Int32) = 42 by decide), if_neg (show ¬ (262 : Int32) = 43 by decide), if_neg (show ¬ (262 : Int32) = 45 by decide), if_neg (show ¬ (262 : Int32) = 47 by decide), if_neg (show ¬ (262 : Int32) = 60 by decide), if_neg (show ¬ (262 : Int32) = 61 by decide), if_neg (show ¬ (262 : Int32) = 62 by decide), if_neg (show ¬ (262 : Int32) = 256 by decide), if_neg (show ¬ (262 : Int32) = 257 by decide), if_neg (show ¬ (262 : Int32) = 258 by decide), if_neg (show ¬ (262 : Int32) = 261 by decide), hn1, hn2]
theorem works_bin (fu : Nat) {c s : Int32} (m : Int32) (w : Nat → Int64) (d : Nat) (hm : m.toInt = d) (hd2 : 2 ≤ d) (hd : d ≤ 64) {x y : Int64} (hx0 : w (d - 2) = x) (hy0 : w (d - 1) = y) (hx : isVal x) (hy : isVal y) (hk : kBin c s) :
    (∀ u, binv c x y = some u → FX12_works fu s m w = some (1, m - 1, vp_updL w (d - 2) u)) ∧ (binv c x y = none → ∃ w', FX12_works fu s m w = some (0, m - 1, w')) := by
  have t1 : (1 : Int32).toInt = 1 := rfl
  have t2 : (2 : Int32).toInt = 2 := rfl
  have s1 := i_sub m 1 (by omega) (by omega)
  have s2 := i_sub m 2 (by omega) (by omega)
  have i1 : pz_inb (m - 1) 64 = true := i_inb.mpr (by omega)
  have i2 : pz_inb (m - 2) 64 = true := i_inb.mpr (by omega)
  have n1 : (m - 1).toNatClampNeg = d - 1 := by have := i_nat (a := m - 1) (by omega); omega
  have n2 : (m - 2).toNatClampNeg = d - 2 := by have := i_nat (a := m - 2) (by omega); omega
  have key := fun v => works_407 fu v (m - 1) w (d - 1) (by omega) (by omega) (by omega)
  rw [show d - 1 - 1 = d - 2 by omega] at key
  have yes : ∀ v, isVal v → FX12_works_J407 fu v (m - 1) w = some (1, m - 1, vp_updL w (d - 2) v) := fun v h => (key v).1 h
  have b0 : isVal (fX12_is_r 0) := by unfold isVal; decide
  have b1 : isVal (fX12_is_r 1) := by unfold isVal; decide
  have z0 : fX12_is_r 0 = bit false := rfl
  have z1 : fX12_is_r 1 = bit true := rfl
  have y0 := yes _ b0
  have y1 := yes _ b1
  rw [z0] at y0
  rw [z1] at y1
  -- comparisons end in one of the two
  have two : ∀ (b : Bool) (A : Option (Int32 × Int32 × (Nat → Int64))), A = (if b then FX12_works_J407 fu (bit true) (m - 1) w else FX12_works_J407 fu (bit false) (m - 1) w) → (∀ u, some (bit b) = some u → A = some (1, m - 1, vp_updL w (d - 2) u)) ∧ (some (bit b) = none → ∃ w', A = some (0, m - 1, w')) := by
    intro b A hA
    refine ⟨fun u hu => ?_, fun h => by cases h⟩
    cases hu
    rw [hA]
    cases b
    · exact y0
    · exact y1
  rcases hk with ⟨rfl, rfl⟩ | ⟨rfl, rfl⟩ | ⟨rfl, rfl⟩ | ⟨rfl, rfl⟩ | ⟨rfl, rfl⟩ | ⟨rfl, rfl⟩ | ⟨rfl, rfl⟩ | ⟨rfl, rfl⟩ | ⟨rfl, rfl⟩ | ⟨rfl, rfl⟩ | ⟨rfl, rfl⟩ | ⟨rfl, rfl⟩
  · rw [binv_7, works_s262 fu m w d i1 i2 n1 n2 x y hx0 hy0]
    refine two _ _ ?_
    unfold FX12_works_J397 FX12_works_J402
    rw [z0, z1]
    simp only [lg_cmp_eq]
    by_cases h1 : x = 0 <;> by_cases h2 : y = 0 <;> simp [h1, h2]
  · rw [binv_8, works_s261 fu m w d i1 i2 n1 n2 x y hx0 hy0]
    refine two _ _ ?_
    unfold FX12_works_J375 FX12_works_J376
    rw [z0, z1]
    simp only [lg_cmp_eq]
    by_cases h1 : x = 0 <;> by_cases h2 : y = 0 <;> simp [h1, h2]
  · rw [binv_9, works_s60 fu m w d i1 i2 n1 n2 x y hx0 hy0]
    refine two _ _ ?_
    unfold FX12_works_J250
    rw [z0, z1]
    simp only [lg_cmp_ge]
    by_cases h1 : y ≤ x
    · have : ¬ x < y := by rw [l_lt]; rw [l_le] at h1; omega
      simp [h1, this]
    · have : x < y := by rw [l_lt]; rw [l_le] at h1; omega
      simp [h1, this]
  · rw [binv_10, works_s256 fu m w d i1 i2 n1 n2 x y hx0 hy0]
    refine two _ _ ?_
    unfold FX12_works_J310
    rw [z0, z1]
    simp only [lg_cmp_gt]
    by_cases h1 : y < x
    · have : ¬ x ≤ y := by rw [l_le]; rw [l_lt] at h1; omega
      simp [h1, this]
    · have : x ≤ y := by rw [l_le]; rw [l_lt] at h1; omega
      simp [h1, this]
  · rw [binv_11, works_s61 fu m w d i1 i2 n1 n2 x y hx0 hy0]
    refine two _ _ ?_
    unfold FX12_works_J290
    rw [z0, z1]
    simp only [lg_cmp_eq]
    by_cases h1 : x = y <;> simp [h1]
  · rw [binv_12, works_s257 fu m w d i1 i2 n1 n2 x y hx0 hy0]
    refine two _ _ ?_
    unfold FX12_works_J350
    rw [z0, z1]
    simp only [lg_cmp_eq]
    by_cases h1 : x = y <;> simp [h1]
  · rw [binv_13, works_s258 fu m w d i1 i2 n1 n2 x y hx0 hy0]
    refine two _ _ ?_
    unfold FX12_works_J330
    rw [z0, z1]
    simp only [lg_cmp_lt]
    by_cases h1 : x < y
    · have : ¬ y ≤ x := by rw [l_le]; rw [l_lt] at h1; omega
      simp [h1, this]
    · have : y ≤ x := by rw [l_le]; rw [l_lt] at h1; omega
      simp [h1, this]
  · rw [binv_14, works_s62 fu m w d i1 i2 n1 n2 x y hx0 hy0]
    refine two _ _ ?_
    unfold FX12_works_J270
    rw [z0, z1]
    simp only [lg_cmp_le]
    by_cases h1 : x ≤ y
    · have : ¬ y < x := by rw [l_lt]; rw [l_le] at h1; omega
      simp [h1, this]
    · have : y < x := by rw [l_lt]; rw [l_le] at h1; omega
      simp [h1, this]
  · rw [binv_15, works_s43 fu m w d i1 i2 n1 n2 x y hx0 hy0]
    obtain ⟨x1, x2⟩ := hx
    obtain ⟨y1', y2'⟩ := hy
    have e := l_add x y (by omega) (by omega)
    have k := key (x + y)
    by_cases q : -1000000000000 ≤ x.toInt + y.toInt ∧ x.toInt + y.toInt ≤ 1000000000000
    · rw [if_pos q]
      exact ⟨fun u hu => by cases hu; exact k.1 ⟨by omega, by omega⟩, fun h => by cases h⟩
    · rw [if_neg q]
      exact ⟨fun u hu => (by cases hu), fun _ => k.2 (fun z => q ⟨by have := z.1; omega, by have := z.2; omega⟩)⟩
  · rw [binv_16, works_s45 fu m w d i1 i2 n1 n2 x y hx0 hy0]
    obtain ⟨x1, x2⟩ := hx
    obtain ⟨y1', y2'⟩ := hy
    have e := l_sub x y (by omega) (by omega)
    have k := key (x - y)
    by_cases q : -1000000000000 ≤ x.toInt - y.toInt ∧ x.toInt - y.toInt ≤ 1000000000000
    · rw [if_pos q]
      exact ⟨fun u hu => by cases hu; exact k.1 ⟨by omega, by omega⟩, fun h => by cases h⟩
    · rw [if_neg q]
      exact ⟨fun u hu => (by cases hu), fun _ => k.2 (fun z => q ⟨by have := z.1; omega, by have := z.2; omega⟩)⟩
  · rw [binv_17, works_s42 fu m w d i1 i2 n1 n2 x y hx0 hy0]
    have ax := l_abs x hx
    have ay := l_abs y hy
    obtain ⟨x1, x2⟩ := hx
    obtain ⟨y1', y2'⟩ := hy
    unfold FX12_works_J212
    have k := key (x * y)
    have fin : (-1000000000000 ≤ x.toInt * y.toInt ∧ x.toInt * y.toInt ≤ 1000000000000) → FX12_works_J407 fu (x * y) (m - 1) w = some (1, m - 1, vp_updL w (d - 2) (x * y)) := by
      intro q
      have e := l_mul x y (by omega) (by omega)
      exact k.1 ⟨by omega, by omega⟩
    simp only [lg_cmp_eq, lg_cmp_le, l_le]
    by_cases hz : x = 0
    · rw [if_pos hz]
      have hz2 : x.toInt = 0 := by rw [hz]; rfl
      have q : -1000000000000 ≤ x.toInt * y.toInt ∧ x.toInt * y.toInt ≤ 1000000000000 := by rw [hz2, Int.zero_mul]; omega
      rw [if_pos q]
      exact ⟨fun u hu => by cases hu; exact fin q, fun h => by cases h⟩
    · rw [if_neg hz]
      have hz2 : x.toInt ≠ 0 := fun z => hz (l_eq.mpr z)
      have ha : ¬ fJ9_abs_067f4_r x = 0 := by rw [l_eq, l_0]; omega
      rw [if_pos ha, l_div 1000000000000 _ (by rw [l_G]; omega), l_G, ax, ay]
      have kk := abs_mul_le y.toInt x.toInt 1000000000000 (by omega) hz2
      rw [Int.mul_comm y.toInt x.toInt] at kk
      by_cases q : -1000000000000 ≤ x.toInt * y.toInt ∧ x.toInt * y.toInt ≤ 1000000000000
      · rw [if_pos q, if_pos (kk.mpr q)]
        exact ⟨fun u hu => by cases hu; exact fin q, fun h => by cases h⟩
      · rw [if_neg q, if_neg (fun z => q (kk.mp z))]
        exact ⟨fun u hu => (by cases hu), fun _ => ⟨_, rfl⟩⟩
  · rw [binv_18, works_s47 fu m w d i1 i2 n1 n2 x y hx0 hy0]
    obtain ⟨x1, x2⟩ := hx
    simp only [lg_cmp_eq]
    by_cases hz : y = 0
    · rw [if_pos hz, if_neg (fun z => z hz)]
      exact ⟨fun u hu => (by cases hu), fun _ => ⟨_, rfl⟩⟩
    · rw [if_neg hz, if_pos hz, if_pos hz]
      have h3 := Int.natAbs_tdiv_le_natAbs x.toInt y.toInt
      have e := l_div x y (by omega)
      exact ⟨fun u hu => by cases hu; exact (key (x / y)).1 ⟨by omega, by omega⟩, fun h => by cases h⟩
theorem works_not (fu : Nat) (m : Int32) (w : Nat → Int64) (d : Nat) (hm : m.toInt = d) (hd1 : 1 ≤ d) (hd : d ≤ 64) : FX12_works fu 260 m w = some (1, m, vp_updL w (d - 1) (bit (w (d - 1) = 0))) := by
  have t1 : (1 : Int32).toInt = 1 := rfl
  have s1 := i_sub m 1 (by omega) (by omega)
  have i1 : pz_inb (m - 1) 64 = true := i_inb.mpr (by omega)
  have n1 : (m - 1).toNatClampNeg = d - 1 := by have := i_nat (a := m - 1) (by omega); omega
  unfold FX12_works
  rw [if_pos i1, if_neg (fun z => z rfl), if_pos i1, if_pos i1, n1]
  simp only [lg_cmp_eq]
  by_cases h : w (d - 1) = 0
  · rw [if_neg (fun z => z h)]; simp only [h]; rfl
  · rw [if_pos h]; simp only [h]; rfl
