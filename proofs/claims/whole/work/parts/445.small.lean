/-! ===== part, ship, mark, count, feed ===== -/
theorem part_eq2 (fu : Nat) (p v : Int32) {pa sh : Nat → Int32} (hs : setOk pa sh) : FX12_part fu p v pa = some (fX11_part_r p v, 0, fX3_setPart_a1 p v pa) ∧ setOk (fX3_setPart_a1 p v pa) sh ∧ ((fX11_part_f3_10 p v = fun _ => 0) ∨ ((fX11_part_f3_10 p v = fun k => k) ∧ fX3_setPart_a1 p v pa = pa)) := by
  have q0 := t_0
  have t5 : (5 : Int32).toInt = 5 := rfl
  unfold FX12_part fX11_part_r fX11_part_f3_10 fX3_setPart_r fX3_setPart_a1
  by_cases c1 : p < 0
  · simp only [if_pos c1]
    exact ⟨rfl, hs, Or.inr ⟨rfl, by trivial⟩⟩
  by_cases c2 : 5 ≤ p
  · simp only [if_neg c1, if_pos c2]
    exact ⟨rfl, hs, Or.inr ⟨rfl, by trivial⟩⟩
  have d1 := c1
  have d2 := c2
  rw [i_lt] at d1
  rw [i_le] at d2
  have hn := i_nat (a := p) (by omega)
  obtain ⟨r1, r2, r3, r4, r5, r6, r7⟩ := rng_eq (p := p) (a := p.toNatClampNeg) (by omega) (by omega)
  rw [r1, r2]
  by_cases c3 : v < ro0 p.toNatClampNeg
  · simp only [if_neg c1, if_neg c2, if_pos c3]
    exact ⟨rfl, hs, Or.inr ⟨rfl, by trivial⟩⟩
  by_cases c4 : v ≤ ro1 p.toNatClampNeg
  · simp only [if_neg c1, if_neg c2, if_neg c3, if_pos c4, if_pos r4]
    rw [i_lt] at c3
    rw [i_le] at c4
    exact ⟨rfl, setOk_part hs (by omega) (by omega) c4, Or.inl rfl⟩
  · simp only [if_neg c1, if_neg c2, if_neg c3, if_neg c4]
    exact ⟨rfl, hs, Or.inr ⟨rfl, by trivial⟩⟩
theorem ship_eq2 (fu : Nat) (p v : Int32) {pa sh : Nat → Int32} (hs : setOk pa sh) : FX12_ship fu p v sh = some (fX11_ship_r p v, 0, fX3_setShip_a1 p v sh) ∧ setOk pa (fX3_setShip_a1 p v sh) ∧ ((fX11_ship_f3_10 p v = fun _ => 0) ∨ ((fX11_ship_f3_10 p v = fun k => k) ∧ fX3_setShip_a1 p v sh = sh)) := by
  have q0 := t_0
  have q1 := t_1
  have t2 : (2 : Int32).toInt = 2 := rfl
  have t3 : (3 : Int32).toInt = 3 := rfl
  have t9 : (9 : Int32).toInt = 9 := rfl
  have tm9 : (-9 : Int32).toInt = -9 := rfl
  have t20 : (20 : Int32).toInt = 20 := rfl
  obtain ⟨k0, k1, k2, k3, k4, k5, k6, k7⟩ := id hs
  unfold FX12_ship fX11_ship_r fX11_ship_f3_10 fX3_setShip_r fX3_setShip_a1 FX12_ship_J73 FX12_ship_J48 FX12_ship_J24 FX12_ship_J74
  by_cases e0 : p = 0
  · subst e0
    have hr : ro2 0 = 1 := rfl
    have hr3 : ro3 0 = 20 := rfl
    have hn : (0 : Int32).toNatClampNeg = 0 := rfl
    have hi : pz_inb 0 3 = true := by decide
    have a1 : ¬ (0 : Int32) < 0 := by decide
    have a2 : ¬ (3 : Int32) ≤ 0 := by decide
    have a3 : ¬ ¬ (0 : Int32) = 0 := by decide
    simp only [hn, hr, hr3, if_neg a1, if_neg a2, if_neg a3, if_pos hi]
    by_cases c1 : v < 1
    · simp only [if_pos c1, if_neg a3]
      exact ⟨rfl, hs, Or.inr ⟨rfl, by trivial⟩⟩
    · by_cases c2 : 20 < v
      · have c3 : ¬ v ≤ 20 := by
          rw [i_lt] at c2
          rw [i_le]
          omega
        simp only [if_neg c1, if_pos c2, if_neg c3, if_neg a3]
        exact ⟨rfl, hs, Or.inr ⟨rfl, by trivial⟩⟩
      · have c3 : v ≤ 20 := by
          rw [i_lt] at c2
          rw [i_le]
          omega
        simp only [if_neg c1, if_neg c2, if_pos c3]
        rw [i_lt] at c1 c2
        exact ⟨rfl, ⟨k0, k1, k2, k3, k4, ⟨by show 1 ≤ v.toInt; omega, by show v.toInt ≤ 20; omega⟩, k6, k7⟩, Or.inl rfl⟩
  by_cases e1 : p = 1
  · subst e1
    have hr : ro2 1 = 1 := rfl
    have hr3 : ro3 1 = 9 := rfl
    have hn : (1 : Int32).toNatClampNeg = 1 := rfl
    have hi : pz_inb 1 3 = true := by decide
    have a1 : ¬ (1 : Int32) < 0 := by decide
    have a2 : ¬ (3 : Int32) ≤ 1 := by decide
    have a3 : ¬ ¬ (0 : Int32) = 0 := by decide
    have a4 : ¬ ¬ (1 : Int32) = 1 := by decide
    simp only [hn, hr, hr3, if_neg a1, if_neg a2, if_neg a3, if_pos hi, if_pos e0, if_neg a4]
    by_cases c1 : v < 1
    · simp only [if_pos c1, if_neg a3]
      exact ⟨rfl, hs, Or.inr ⟨rfl, by trivial⟩⟩
    · by_cases c2 : 9 < v
      · have c3 : ¬ v ≤ 9 := by
          rw [i_lt] at c2
          rw [i_le]
          omega
        simp only [if_neg c1, if_pos c2, if_neg c3, if_neg a3]
        exact ⟨rfl, hs, Or.inr ⟨rfl, by trivial⟩⟩
      · have c3 : v ≤ 9 := by
          rw [i_lt] at c2
          rw [i_le]
          omega
        simp only [if_neg c1, if_neg c2, if_pos c3]
        rw [i_lt] at c1 c2
        exact ⟨rfl, ⟨k0, k1, k2, k3, k4, k5, ⟨by show 1 ≤ v.toInt; omega, by show v.toInt ≤ 9; omega⟩, k7⟩, Or.inl rfl⟩
  by_cases e2 : p = 2
  · subst e2
    have hr : ro2 2 = -9 := rfl
    have hr3 : ro3 2 = 9 := rfl
    have hn : (2 : Int32).toNatClampNeg = 2 := rfl
    have hi : pz_inb 2 3 = true := by decide
    have a1 : ¬ (2 : Int32) < 0 := by decide
    have a2 : ¬ (3 : Int32) ≤ 2 := by decide
    have a3 : ¬ ¬ (0 : Int32) = 0 := by decide
    have a4 : ¬ ¬ (2 : Int32) = 2 := by decide
    simp only [hn, hr, hr3, if_neg a1, if_neg a2, if_neg a3, if_pos hi, if_pos e0, if_pos e1, if_neg a4]
    by_cases c1 : v < -9
    · simp only [if_pos c1, if_neg a3]
      exact ⟨rfl, hs, Or.inr ⟨rfl, by trivial⟩⟩
    · by_cases c2 : 9 < v
      · have c3 : ¬ v ≤ 9 := by
          rw [i_lt] at c2
          rw [i_le]
          omega
        simp only [if_neg c1, if_pos c2, if_neg c3, if_neg a3]
        exact ⟨rfl, hs, Or.inr ⟨rfl, by trivial⟩⟩
      · have c3 : v ≤ 9 := by
          rw [i_lt] at c2
          rw [i_le]
          omega
        simp only [if_neg c1, if_neg c2, if_pos c3]
        rw [i_lt] at c1 c2
        exact ⟨rfl, ⟨k0, k1, k2, k3, k4, k5, k6, ⟨by show -9 ≤ v.toInt; omega, by show v.toInt ≤ 9; omega⟩⟩, Or.inl rfl⟩
  · have f0 : ¬ p.toInt = 0 := fun z => e0 (i_eq.mpr z)
    have f1 : ¬ p.toInt = 1 := fun z => e1 (i_eq.mpr z)
    have f2 : ¬ p.toInt = 2 := fun z => e2 (i_eq.mpr z)
    have a3 : ¬ ¬ (0 : Int32) = 0 := by decide
    simp only [if_pos e0, if_pos e1, if_pos e2, if_neg a3]
    by_cases c1 : p < 0
    · simp only [if_pos c1]
      exact ⟨rfl, hs, Or.inr ⟨rfl, by trivial⟩⟩
    · have c2 : 3 ≤ p := by
        rw [i_lt] at c1
        rw [i_le]
        omega
      simp only [if_neg c1, if_pos c2]
      exact ⟨rfl, hs, Or.inr ⟨rfl, by trivial⟩⟩
theorem mark_eq (fu : Nat) (p1 p2 mk kn : Int32) {sm om : Nat → Int32} {M : Nat} (hM : markOk mk sm om M) :
    ∃ (v mk' kn' : Int32) (sm' om' : Nat → Int32) (M' : Nat), FX11_mark fu p1 p2 mk kn sm om = some (v, mk', kn', sm', om') ∧ FX12_mark fu p1 p2 mk sm om = some (v, 0, mk', sm', om') ∧ markOk mk' sm' om' M' ∧ (kn' = 0 ∨ (kn' = kn ∧ mk' = mk ∧ sm' = sm ∧ om' = om)) := by
  have q0 := t_0
  have q1 := t_1
  have t12 : (12 : Int32).toInt = 12 := rfl
  have t200 : (200 : Int32).toInt = 200 := rfl
  obtain ⟨h1, h2, h3, h4⟩ := id hM
  have same : ∃ (M' : Nat), markOk mk sm om M' ∧ (kn = 0 ∨ (kn = kn ∧ mk = mk ∧ sm = sm ∧ om = om)) := ⟨M, hM, Or.inr ⟨rfl, rfl, rfl, rfl⟩⟩
  obtain ⟨M1, s1, s2⟩ := same
  unfold FX11_mark FX12_mark FX10_addMark
  by_cases c0 : mk = 12
  · have c0' : 12 ≤ mk := by rw [c0]; decide
    simp only [if_pos c0, if_pos c0']
    refine ⟨-1, mk, kn, sm, om, M1, ?_, rfl, s1, s2⟩
    by_cases c1 : p1 < 1
    · simp only [if_pos c1]
    · by_cases c2 : 200 < p1
      · simp only [if_neg c1, if_pos c2]
      · by_cases c3 : fX11_isOff_r p2 = 0
        · have c3' : ¬ ¬ fX11_isOff_r p2 = 0 := fun z => z c3
          simp only [if_neg c1, if_neg c2, if_neg c3']
        · simp only [if_neg c1, if_neg c2, if_pos c3, Option.bind_some]
          rfl
  have c0i : ¬ mk.toInt = 12 := fun z => c0 (i_eq.mpr z)
  have c0' : ¬ 12 ≤ mk := by rw [i_le]; omega
  by_cases c1 : p1 < 1
  · simp only [if_neg c0, if_pos c1]
    exact ⟨_, _, _, _, _, M1, rfl, rfl, s1, s2⟩
  by_cases c2 : 200 < p1
  · simp only [if_neg c0, if_neg c1, if_pos c2]
    exact ⟨_, _, _, _, _, M1, rfl, rfl, s1, s2⟩
  have hi : pz_inb mk 12 = true := i_inb.mpr (by omega)
  have hn : mk.toNatClampNeg = M := by have := i_nat (a := mk) (by omega); omega
  have hs := i_add mk 1 (by omega) (by omega)
  have d1 := c1
  have d2 := c2
  rw [i_lt] at d1 d2
  simp only [if_neg c0, if_neg c0', if_neg c1, if_neg c2]
  unfold FX10_addMark_J33 FX12_mark_J48
  simp only [if_pos hi, hn]
  -- is it behind the last one
  have hnew : isOffP p2 → (M = 0 ∨ (sm (M - 1)).toInt < p1.toInt) → markOk (mk + 1) (upd sm M p1) (upd om M p2) (M + 1) := by
    intro ho hl
    refine ⟨by omega, by omega, fun m hm => ?_, fun m hm => ?_⟩
    · unfold upd
      by_cases g : m = M
      · rw [if_pos g, if_pos g]; exact ⟨by omega, by omega, ho⟩
      · rw [if_neg g, if_neg g]; exact h3 m (by omega)
    · unfold upd
      rw [if_neg (show ¬ m = M by omega)]
      by_cases g : m + 1 = M
      · rw [if_pos g]
        rcases hl with z | z
        · omega
        · rw [show m = M - 1 by omega]; exact z
      · rw [if_neg g]; exact h4 m (by omega)
  by_cases c3 : isOffP p2
  · have b1 : ¬ fX11_isOff_r p2 = 0 := fun z => (isOff_iff p2).1.mp z c3
    have b2 : ¬ fX12_isOff_r p2 = 0 := fun z => (isOff_iff p2).2.mp z c3
    simp only [if_pos b1, if_pos b2]
    by_cases c4 : mk ≤ 0
    · simp only [if_pos c4, Option.bind_some, if_neg (show ¬ (1 : Int32) = 0 by decide)]
      rw [i_le] at c4
      exact ⟨_, _, _, _, _, M + 1, rfl, rfl, hnew c3 (Or.inl (by omega)), Or.inl rfl⟩
    · have c4' := c4
      rw [i_le] at c4'
      have hs2 := i_sub mk 1 (by omega) (by omega)
      have hi2 : pz_inb (mk - 1) 12 = true := i_inb.mpr (by omega)
      have hn2 : (mk - 1).toNatClampNeg = M - 1 := by have := i_nat (a := mk - 1) (by omega); omega
      simp only [if_neg c4, if_pos hi2, hn2]
      by_cases c5 : sm (M - 1) < p1
      · have c6 : ¬ p1 ≤ sm (M - 1) := by
          rw [i_lt] at c5
          rw [i_le]
          omega
        simp only [if_pos c5, if_neg c6, Option.bind_some, if_neg (show ¬ (1 : Int32) = 0 by decide)]
        rw [i_lt] at c5
        exact ⟨_, _, _, _, _, M + 1, rfl, rfl, hnew c3 (Or.inr c5), Or.inl rfl⟩
      · have c6 : p1 ≤ sm (M - 1) := by
          rw [i_lt] at c5
          rw [i_le]
          omega
        simp only [if_neg c5, if_pos c6, Option.bind_some]
        exact ⟨_, _, _, _, _, M1, rfl, rfl, s1, s2⟩
  · have b1 : ¬ ¬ fX11_isOff_r p2 = 0 := fun z => z ((isOff_iff p2).1.mpr c3)
    have b2 : ¬ ¬ fX12_isOff_r p2 = 0 := fun z => z ((isOff_iff p2).2.mpr c3)
    simp only [if_neg b1, if_neg b2]
    refine ⟨-1, mk, kn, sm, om, M1, rfl, ?_, s1, s2⟩
    by_cases c4 : mk ≤ 0
    · simp only [if_pos c4]
    · have c4' := c4
      rw [i_le] at c4'
      have hs2 := i_sub mk 1 (by omega) (by omega)
      have hi2 : pz_inb (mk - 1) 12 = true := i_inb.mpr (by omega)
      simp only [if_neg c4, if_pos hi2]
      by_cases c6 : p1 ≤ sm (mk - 1).toNatClampNeg
      · simp only [if_pos c6]
      · simp only [if_neg c6]
theorem count_eq (fu : Nat) (p : Int32) (wl gears rows cs cb mk : Int32) (pa sh : Nat → Int32) : ∃ v, FX11_count fu p pa sh mk wl gears rows cs cb = some v ∧ FX12_count fu p wl gears rows cs cb mk pa sh = some (v, 0) := by
  have t9 : (9 : Int32).toInt = 9 := rfl
  have t13 : (13 : Int32).toInt = 13 := rfl
  have t14 : (14 : Int32).toInt = 14 := rfl
  have small : ∀ n, n < 9 → p = Int32.ofNat n → ∃ v, FX11_count fu p pa sh mk wl gears rows cs cb = some v ∧ FX12_count fu p wl gears rows cs cb mk pa sh = some (v, 0) := by
    intro n hn hp
    have hc : n = 0 ∨ n = 1 ∨ n = 2 ∨ n = 3 ∨ n = 4 ∨ n = 5 ∨ n = 6 ∨ n = 7 ∨ n = 8 := by omega
    subst hp
    rcases hc with rfl | rfl | rfl | rfl | rfl | rfl | rfl | rfl | rfl
    all_goals exact ⟨_, rfl, rfl⟩
  by_cases c1 : p < 9
  · by_cases c2 : p < 0
    · have d : ∀ n : Nat, n < 9 → ¬ p = Int32.ofNat n := by
        intro n hn z
        rw [z, i_lt, i_lit n (by omega), t_0] at c2
        omega
      have e0 : ¬ p = 0 := d 0 (by omega)
      have e1 : ¬ p = 1 := d 1 (by omega)
      have e2 : ¬ p = 2 := d 2 (by omega)
      have e3 : ¬ p = 3 := d 3 (by omega)
      have e4 : ¬ p = 4 := d 4 (by omega)
      have e5 : ¬ p = 5 := d 5 (by omega)
      have e6 : ¬ p = 6 := d 6 (by omega)
      have e7 : ¬ p = 7 := d 7 (by omega)
      have e8 : ¬ p = 8 := d 8 (by omega)
      have c3 : p < 6 := by
        rw [i_lt] at c2 ⊢
        have : (6 : Int32).toInt = 6 := rfl
        have := t_0
        omega
      unfold FX11_count FX11_count_J25 FX11_count_J50 FX12_count
      simp only [if_pos c1, if_pos c3, if_neg e0, if_neg e1, if_neg e2, if_neg e3, if_neg e4, if_neg e5, if_neg e6, if_neg e7, if_neg e8]
      exact ⟨_, rfl, rfl⟩
    · rw [i_lt] at c1 c2
      have := t_0
      exact small p.toInt.toNat (by omega) (i_ofNat (by omega) (by omega))
  · have c1' := c1
    rw [i_lt] at c1'
    have d : ∀ n : Nat, n < 9 → ¬ p = Int32.ofNat n := by
      intro n hn z
      rw [z, i_lit n (by omega)] at c1'
      omega
    have e0 : ¬ p = 0 := d 0 (by omega)
    have e1 : ¬ p = 1 := d 1 (by omega)
    have e2 : ¬ p = 2 := d 2 (by omega)
    have e3 : ¬ p = 3 := d 3 (by omega)
    have e4 : ¬ p = 4 := d 4 (by omega)
    have e5 : ¬ p = 5 := d 5 (by omega)
    have e6 : ¬ p = 6 := d 6 (by omega)
    have e7 : ¬ p = 7 := d 7 (by omega)
    have e8 : ¬ p = 8 := d 8 (by omega)
    have c3 : ¬ p < 6 := by
      have : (6 : Int32).toInt = 6 := rfl
      rw [i_lt]
      omega
    have c4 : 9 ≤ p := by rw [i_le]; omega
    unfold FX11_count FX11_count_J25 FX11_count_J50 FX12_count
    by_cases c5 : 14 ≤ p
    · have c6 : 13 < p := by
        rw [i_le] at c5
        rw [i_lt]
        omega
      simp only [if_neg c1, if_pos c5, if_neg c3, if_pos c4, if_pos c6, if_neg e0, if_neg e1, if_neg e2, if_neg e3, if_neg e4, if_neg e5, if_neg e6, if_neg e7, if_neg e8]
      exact ⟨_, rfl, rfl⟩
    · have c6 : ¬ 13 < p := by
        rw [i_le] at c5
        rw [i_lt]
        omega
      rw [i_le] at c5
      have hs := i_sub p 9 (by omega) (by omega)
      have hi : pz_inb (p - 9) 5 = true := i_inb.mpr (by omega)
      have c5' : ¬ 14 ≤ p := by rw [i_le]; exact c5
      simp only [if_neg c1, if_neg c5', if_pos hi, if_neg c6, if_neg e0, if_neg e1, if_neg e2, if_neg e3, if_neg e4, if_neg e5, if_neg e6, if_neg e7, if_neg e8]
      exact ⟨_, rfl, rfl⟩
theorem fault_eq (p a b : Int32) : fX12_fault_r p a b = fX11_fault_r p a b := rfl
