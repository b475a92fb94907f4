-- deps: 100 110 130 131
theorem i_add (a b : Int32) (h1 : -2147483648 ≤ a.toInt + b.toInt) (h2 : a.toInt + b.toInt ≤ 2147483647) : (a + b).toInt = a.toInt + b.toInt := by
  rw [Int32.toInt_add, Int.bmod_eq_of_le (by omega) (by omega)]
theorem i_sub (a b : Int32) (h1 : -2147483648 ≤ a.toInt - b.toInt) (h2 : a.toInt - b.toInt ≤ 2147483647) : (a - b).toInt = a.toInt - b.toInt := by
  rw [Int32.toInt_sub, Int.bmod_eq_of_le (by omega) (by omega)]
theorem i_neg (a : Int32) (h1 : -2147483648 < a.toInt) : (-a).toInt = -a.toInt := by
  have := a.toInt_lt
  rw [Int32.toInt_neg, Int.bmod_eq_of_le (by omega) (by omega)]
theorem i_mul (a b : Int32) (h1 : -2147483648 ≤ a.toInt * b.toInt) (h2 : a.toInt * b.toInt ≤ 2147483647) : (a * b).toInt = a.toInt * b.toInt := by
  rw [Int32.toInt_mul, Int.bmod_eq_of_le (by omega) (by omega)]
theorem i_div (a b : Int32) (h1 : -2147483648 < a.toInt) : (a / b).toInt = a.toInt.tdiv b.toInt := by
  have h2 := a.toInt_lt
  rw [Int32.toInt_div]
  have h3 := Int.natAbs_tdiv_le_natAbs a.toInt b.toInt
  rw [Int.bmod_eq_of_le (by omega) (by omega)]
theorem i_le {a b : Int32} : a ≤ b ↔ a.toInt ≤ b.toInt := Int32.le_iff_toInt_le
theorem i_lt {a b : Int32} : a < b ↔ a.toInt < b.toInt := Int32.lt_iff_toInt_lt
theorem i_eq {a b : Int32} : a = b ↔ a.toInt = b.toInt := Int32.toInt_inj.symm
theorem i_nat {a : Int32} (h : 0 ≤ a.toInt) : (a.toNatClampNeg : Int) = a.toInt := by
  show ((a.toInt.toNat : Nat) : Int) = _
  omega
theorem i_inb {i : Int32} {n : Nat} : pz_inb i n = true ↔ 0 ≤ i.toInt ∧ i.toInt < n := by
  have hz : (0 : Int32).toInt = 0 := rfl
  have hnn : i.toNatClampNeg = i.toInt.toNat := rfl
  constructor
  · intro h
    have := pz_inb_ok h
    have h1 : ¬ i < 0 := fun z => this (Or.inl z)
    have h2 : ¬ n ≤ i.toNatClampNeg := fun z => this (Or.inr z)
    rw [i_lt] at h1
    omega
  · intro h
    refine pz_inb_of (fun z => ?_)
    rcases z with z | z
    · rw [i_lt] at z; omega
    · omega
theorem i_lit (n : Nat) (h : n < 2147483648) : (Int32.ofNat n).toInt = n := by
  rw [Int32.toInt_ofNat']
  exact Int.bmod_eq_of_le (by show -(4294967296 / 2 : Int) ≤ _; omega) (by show (n : Int) < (4294967296 + 1) / 2; omega)
/-! ===== a step ===== -/
def setOk (pa sh : Nat → Int32) : Prop := (0 ≤ (pa 0).toInt ∧ (pa 0).toInt ≤ 8) ∧ (0 ≤ (pa 1).toInt ∧ (pa 1).toInt ≤ 8) ∧ (1 ≤ (pa 2).toInt ∧ (pa 2).toInt ≤ 9) ∧ (0 ≤ (pa 3).toInt ∧ (pa 3).toInt ≤ 3) ∧ (0 ≤ (pa 4).toInt ∧ (pa 4).toInt ≤ 2) ∧ (1 ≤ (sh 0).toInt ∧ (sh 0).toInt ≤ 20) ∧ (1 ≤ (sh 1).toInt ∧ (sh 1).toInt ≤ 9) ∧ (-9 ≤ (sh 2).toInt ∧ (sh 2).toInt ≤ 9)
def in30 (x : Int32) : Prop := -30 ≤ x.toInt ∧ x.toInt ≤ 30
def isOffP (x : Int32) : Prop := -1800 ≤ x.toInt ∧ x.toInt ≤ 1799
def stOk (s : Nat → Int32) : Prop := in30 (s 0) ∧ in30 (s 1) ∧ in30 (s 2) ∧ (-60 ≤ (s 3).toInt ∧ (s 3).toInt ≤ 60) ∧ isOffP (s 4) ∧ in30 (s 5) ∧ in30 (s 6) ∧ in30 (s 7)
/-- the state behind a step, as the class works it out -/
def st_step (od : Int32) (pa sh s : Nat → Int32) : Nat → Int32 := fun i =>
  if i = 0 then fX4_lagging_r od (pa 3) (s 5) (s 6) (s 7)
  else if i = 1 then fX4_step_f0_1 od (s 1) (s 5) (s 6) (s 7) pa
  else if i = 2 then fX4_step_f0_2 od (s 1) (s 2) (s 5) (s 6) (s 7) pa
  else if i = 3 then fX4_step_f0_3 od (s 1) (s 2) (s 3) (s 5) (s 6) (s 7) pa sh
  else if i = 4 then fX4_step_f0_4 od (s 1) (s 2) (s 3) (s 4) (s 5) (s 6) (s 7) pa sh
  else if i = 5 then od else if i = 6 then s 5 else if i = 7 then s 6 else s i
theorem pull_eq (d p m : Int32) (hd1 : -1000 ≤ d.toInt) (hd2 : d.toInt ≤ 1000) (hp1 : 0 ≤ p.toInt) (hp2 : p.toInt ≤ 8) : fX4_pull_r d p m = fX12_nearer_r d p m := by
  have e0 : (0 : Int32).toInt = 0 := rfl
  have e1 := i_neg d (by omega)
  have e2 := i_sub d p (by omega) (by omega)
  have e3 := i_sub (-d) p (by omega) (by omega)
  unfold fX4_pull_r fX12_nearer_r fJ9_min_7cf53_r fJ9_abs_0f7a4_r
  simp only [i_le, i_lt, e0, e1]
  (repeat' split) <;> first | rfl | (exfalso; omega) | (rw [i_eq]; omega) | (congr 1; rw [i_eq]; omega)
/-- what a pull brings nearer -/
theorem pull_rng (d p m : Int32) (hd1 : -1000 ≤ d.toInt) (hd2 : d.toInt ≤ 1000) (hp1 : 0 ≤ p.toInt) (hp2 : p.toInt ≤ 8) (hm : 0 ≤ m.toInt) : (0 ≤ (fX4_pull_r d p m).toInt ∧ (fX4_pull_r d p m).toInt ≤ d.toInt) ∨ (d.toInt ≤ (fX4_pull_r d p m).toInt ∧ (fX4_pull_r d p m).toInt ≤ 0) := by
  have e0 : (0 : Int32).toInt = 0 := rfl
  have e1 := i_neg d (by omega)
  have e2 := i_sub d p (by omega) (by omega)
  have e3 := i_sub (-d) p (by omega) (by omega)
  unfold fX4_pull_r fJ9_min_7cf53_r
  simp only [i_le, i_lt, e0, e1]
  by_cases h1 : d.toInt ≤ p.toInt
  · rw [if_pos h1]
    by_cases h2 : -d.toInt ≤ p.toInt
    · rw [if_pos h2, e0]; omega
    · rw [if_neg h2]
      by_cases h3 : m.toInt < (-d - p).toInt
      · rw [if_pos h3, i_neg m (by omega)]; omega
      · rw [if_neg h3, i_neg _ (by omega)]; omega
  · rw [if_neg h1]
    by_cases h3 : m.toInt < (d - p).toInt
    · rw [if_pos h3]; omega
    · rw [if_neg h3]; omega
theorem lag_in {od : Int32} {pa s : Nat → Int32} (ho : in30 od) (h : stOk s) : in30 (fX4_lagging_r od (pa 3) (s 5) (s 6) (s 7)) := by
  obtain ⟨-, -, -, -, -, h5, h6, h7⟩ := h
  unfold fX4_lagging_r
  (repeat' split) <;> assumption

theorem tdiv_rng (a b : Int) (hb : 1 ≤ b) : (0 ≤ a.tdiv b ∧ a.tdiv b ≤ a) ∨ (a ≤ a.tdiv b ∧ a.tdiv b ≤ 0) := by
  by_cases h : 0 ≤ a
  · left
    exact ⟨Int.tdiv_nonneg h (by omega), Int.tdiv_le_self _ h⟩
  · right
    have h1 : (-a).tdiv b = -(a.tdiv b) := Int.neg_tdiv ..
    have h2 := Int.tdiv_nonneg (a := -a) (b := b) (by omega) (by omega)
    have h3 := Int.tdiv_le_self (a := -a) b (by omega)
    omega
theorem ten_rng (a b : Int) (h1 : -30 ≤ a) (h2 : a ≤ 30) (h3 : 1 ≤ b) (h4 : b ≤ 20) : -60 ≤ (a * b).tdiv 10 ∧ (a * b).tdiv 10 ≤ 60 ∧ -600 ≤ a * b ∧ a * b ≤ 600 := by
  have k1 : a * b ≤ 30 * 20 := by
    by_cases h : 0 ≤ a
    · exact Int.mul_le_mul h2 h4 (by omega) (by omega)
    · have : a * b ≤ 0 := Int.mul_nonpos_of_nonpos_of_nonneg (by omega) (by omega)
      omega
  have k2 : (-a) * b ≤ 30 * 20 := by
    by_cases h : 0 ≤ -a
    · exact Int.mul_le_mul (by omega) h4 (by omega) (by omega)
    · have : (-a) * b ≤ 0 := Int.mul_nonpos_of_nonpos_of_nonneg (by omega) (by omega)
      omega
  have k3 : (-a) * b = -(a * b) := Int.neg_mul ..
  rcases Int.le_total 0 (a * b) with h | h
  · have : (a * b).tdiv 10 = (a * b) / 10 := Int.tdiv_eq_ediv_of_nonneg h
    omega
  · have e : (-(a * b)).tdiv 10 = -((a * b).tdiv 10) := Int.neg_tdiv ..
    have : (-(a * b)).tdiv 10 = (-(a * b)) / 10 := Int.tdiv_eq_ediv_of_nonneg (by omega)
    omega
/-- the turn behind a step -/
theorem turn_rng (r t v n : Int32) (hr : in30 r) (ht1 : -60 ≤ t.toInt) (ht2 : t.toInt ≤ 60) (hv1 : 1 ≤ v.toInt) (hv2 : v.toInt ≤ 20) (hn1 : 1 ≤ n.toInt) (hn2 : n.toInt ≤ 9) : -60 ≤ (t + ((r * v) / 10 - t) / n).toInt ∧ (t + ((r * v) / 10 - t) / n).toInt ≤ 60 := by
  obtain ⟨h1, h2⟩ := hr
  have k := ten_rng r.toInt v.toInt h1 h2 hv1 hv2
  have e1 := i_mul r v (by omega) (by omega)
  have e2 := i_div (r * v) 10 (by omega)
  have e3 : (10 : Int32).toInt = 10 := rfl
  rw [e1, e3] at e2
  have e4 := i_sub ((r * v) / 10) t (by omega) (by omega)
  have e5 := i_div ((r * v) / 10 - t) n (by omega)
  have k2 := tdiv_rng ((r * v) / 10 - t).toInt n.toInt hn1
  have e6 := i_add t (((r * v) / 10 - t) / n) (by omega) (by omega)
  omega
theorem st1_in {od : Int32} {pa sh s : Nat → Int32} (hs : setOk pa sh) (ho : in30 od) (h : stOk s) : in30 (fX4_step_f0_1 od (s 1) (s 5) (s 6) (s 7) pa) := by
  have hl := lag_in (pa := pa) ho h
  obtain ⟨-, h1, -⟩ := h
  obtain ⟨p0, -⟩ := hs
  obtain ⟨a1, a2⟩ := hl
  obtain ⟨b1, b2⟩ := h1
  unfold fX4_step_f0_1
  have e1 := i_sub (fX4_lagging_r od (pa 3) (s 5) (s 6) (s 7)) (s 1) (by omega) (by omega)
  have k := pull_rng (fX4_lagging_r od (pa 3) (s 5) (s 6) (s 7) - s 1) (pa 0) 6 (by omega) (by omega) p0.1 p0.2 (by decide)
  have e2 := i_add (s 1) (fX4_pull_r (fX4_lagging_r od (pa 3) (s 5) (s 6) (s 7) - s 1) (pa 0) 6) (by omega) (by omega)
  unfold in30
  omega
/-- how far the rudder goes -/
def st_move (od : Int32) (pa s : Nat → Int32) : Int32 := fX4_pull_r (fX4_step_f0_1 od (s 1) (s 5) (s 6) (s 7) pa - s 2) (pa 1) (pa 2)
theorem move_in {od : Int32} {pa sh s : Nat → Int32} (hs : setOk pa sh) (ho : in30 od) (h : stOk s) : in30 (s 2 + st_move od pa s) := by
  have hl := st1_in hs ho h
  obtain ⟨-, -, h2, -⟩ := h
  obtain ⟨-, p1, p2, -⟩ := hs
  obtain ⟨a1, a2⟩ := hl
  obtain ⟨b1, b2⟩ := h2
  unfold st_move
  have e1 := i_sub (fX4_step_f0_1 od (s 1) (s 5) (s 6) (s 7) pa) (s 2) (by omega) (by omega)
  have k := pull_rng (fX4_step_f0_1 od (s 1) (s 5) (s 6) (s 7) pa - s 2) (pa 1) (pa 2) (by omega) (by omega) p1.1 p1.2 (by omega)
  have e2 := i_add (s 2) (fX4_pull_r (fX4_step_f0_1 od (s 1) (s 5) (s 6) (s 7) pa - s 2) (pa 1) (pa 2)) (by omega) (by omega)
  unfold in30
  omega
/-- the rudder, the turn, the off behind a step, shortly -/
def st_rud (od : Int32) (pa s : Nat → Int32) : Int32 := if (pa 4 = 1 ∧ 0 < st_move od pa s) ∨ (pa 4 = 2 ∧ st_move od pa s < 0) then s 2 else s 2 + st_move od pa s
theorem st2_eq (od : Int32) (pa s : Nat → Int32) : fX4_step_f0_2 od (s 1) (s 2) (s 5) (s 6) (s 7) pa = st_rud od pa s := by
  unfold fX4_step_f0_2 st_rud
  simp only [← show fX4_step_f0_1 od (s 1) (s 5) (s 6) (s 7) pa = s 1 + fX4_pull_r (fX4_lagging_r od (pa 3) (s 5) (s 6) (s 7) - s 1) (pa 0) 6 from rfl]
  simp only [← show st_move od pa s = fX4_pull_r (fX4_step_f0_1 od (s 1) (s 5) (s 6) (s 7) pa - s 2) (pa 1) (pa 2) from rfl]
  by_cases h1 : pa 4 = 1 <;> by_cases h2 : pa 4 = 2 <;> by_cases h3 : 0 < st_move od pa s <;> by_cases h4 : st_move od pa s < 0 <;> simp [h1, h2, h3, h4] <;> simp_all
theorem st3_eq (od : Int32) (pa sh s : Nat → Int32) : fX4_step_f0_3 od (s 1) (s 2) (s 3) (s 5) (s 6) (s 7) pa sh = fX4_step_J128_f0_3 (st_rud od pa s) (s 3) sh := by
  unfold fX4_step_f0_3 st_rud
  simp only [← show fX4_step_f0_1 od (s 1) (s 5) (s 6) (s 7) pa = s 1 + fX4_pull_r (fX4_lagging_r od (pa 3) (s 5) (s 6) (s 7) - s 1) (pa 0) 6 from rfl]
  simp only [← show st_move od pa s = fX4_pull_r (fX4_step_f0_1 od (s 1) (s 5) (s 6) (s 7) pa - s 2) (pa 1) (pa 2) from rfl]
  by_cases h1 : pa 4 = 1 <;> by_cases h2 : pa 4 = 2 <;> by_cases h3 : 0 < st_move od pa s <;> by_cases h4 : st_move od pa s < 0 <;> simp [h1, h2, h3, h4] <;> simp_all
theorem st4_eq (od : Int32) (pa sh s : Nat → Int32) : fX4_step_f0_4 od (s 1) (s 2) (s 3) (s 4) (s 5) (s 6) (s 7) pa sh = fX4_step_J128_f0_4 (st_rud od pa s) (s 3) (s 4) sh := by
  unfold fX4_step_f0_4 st_rud
  simp only [← show fX4_step_f0_1 od (s 1) (s 5) (s 6) (s 7) pa = s 1 + fX4_pull_r (fX4_lagging_r od (pa 3) (s 5) (s 6) (s 7) - s 1) (pa 0) 6 from rfl]
  simp only [← show st_move od pa s = fX4_pull_r (fX4_step_f0_1 od (s 1) (s 5) (s 6) (s 7) pa - s 2) (pa 1) (pa 2) from rfl]
  by_cases h1 : pa 4 = 1 <;> by_cases h2 : pa 4 = 2 <;> by_cases h3 : 0 < st_move od pa s <;> by_cases h4 : st_move od pa s < 0 <;> simp [h1, h2, h3, h4] <;> simp_all
theorem rud_in {od : Int32} {pa sh s : Nat → Int32} (hs : setOk pa sh) (ho : in30 od) (h : stOk s) : in30 (st_rud od pa s) := by
  have := move_in hs ho h
  obtain ⟨-, -, h2, -⟩ := h
  unfold st_rud
  split <;> assumption
def st_turn (od : Int32) (pa sh s : Nat → Int32) : Int32 := s 3 + ((st_rud od pa s * sh 0) / 10 - s 3) / sh 1
theorem st3_eq2 {od : Int32} {pa sh s : Nat → Int32} (hs : setOk pa sh) : fX4_step_f0_3 od (s 1) (s 2) (s 3) (s 5) (s 6) (s 7) pa sh = st_turn od pa sh s := by
  rw [st3_eq]
  unfold fX4_step_J128_f0_3 st_turn
  rw [if_neg]
  rw [i_le]
  obtain ⟨-, -, -, -, -, -, h, -⟩ := hs
  have e0 : (0 : Int32).toInt = 0 := rfl
  omega
theorem turn_in {od : Int32} {pa sh s : Nat → Int32} (hs : setOk pa sh) (ho : in30 od) (h : stOk s) : -60 ≤ (st_turn od pa sh s).toInt ∧ (st_turn od pa sh s).toInt ≤ 60 := by
  have hr := rud_in hs ho h
  obtain ⟨-, -, -, h3, -⟩ := h
  obtain ⟨-, -, -, -, -, v, n, -⟩ := hs
  exact turn_rng _ _ _ _ hr h3.1 h3.2 v.1 v.2 n.1 n.2
def st_off (od : Int32) (pa sh s : Nat → Int32) : Int32 := let o := s 4 + (st_turn od pa sh s + sh 2); if o ≤ 1799 then (if -1800 ≤ o then o else o + 3600) else o - 3600
theorem st4_eq2 {od : Int32} {pa sh s : Nat → Int32} (hs : setOk pa sh) : fX4_step_f0_4 od (s 1) (s 2) (s 3) (s 4) (s 5) (s 6) (s 7) pa sh = st_off od pa sh s := by
  rw [st4_eq]
  unfold fX4_step_J128_f0_4 fX4_step_J172_f0_4
  rw [if_neg]
  · rfl
  rw [i_le]
  obtain ⟨-, -, -, -, -, -, h, -⟩ := hs
  have e0 : (0 : Int32).toInt = 0 := rfl
  omega
theorem off_in {od : Int32} {pa sh s : Nat → Int32} (hs : setOk pa sh) (ho : in30 od) (h : stOk s) : isOffP (st_off od pa sh s) := by
  have ht := turn_in hs ho h
  obtain ⟨-, -, -, -, h4, -⟩ := h
  obtain ⟨-, -, -, -, -, -, -, w⟩ := hs
  obtain ⟨b1, b2⟩ := h4
  have e1 := i_add (st_turn od pa sh s) (sh 2) (by omega) (by omega)
  have e2 := i_add (s 4) (st_turn od pa sh s + sh 2) (by omega) (by omega)
  have l1 : (1799 : Int32).toInt = 1799 := rfl
  have l2 : (-1800 : Int32).toInt = -1800 := rfl
  have l3 : (3600 : Int32).toInt = 3600 := rfl
  unfold st_off isOffP
  simp only [i_le, l1, l2]
  have e3 := i_add (s 4 + (st_turn od pa sh s + sh 2)) 3600 (by omega) (by omega)
  have e4 := i_sub (s 4 + (st_turn od pa sh s + sh 2)) 3600 (by omega) (by omega)
  (repeat' split) <;> omega
/-- the state behind a step, shortly -/
theorem step_eq {od : Int32} {pa sh s : Nat → Int32} (hs : setOk pa sh) : st_step od pa sh s = fun i => if i = 0 then fX4_lagging_r od (pa 3) (s 5) (s 6) (s 7) else if i = 1 then fX4_step_f0_1 od (s 1) (s 5) (s 6) (s 7) pa else if i = 2 then st_rud od pa s else if i = 3 then st_turn od pa sh s else if i = 4 then st_off od pa sh s else if i = 5 then od else if i = 6 then s 5 else if i = 7 then s 6 else s i := by
  unfold st_step
  rw [st2_eq, st3_eq2 hs, st4_eq2 hs]
theorem step_ok {od : Int32} {pa sh s : Nat → Int32} (hs : setOk pa sh) (ho : in30 od) (h : stOk s) : stOk (st_step od pa sh s) := by
  rw [step_eq hs]
  have h2 := h
  obtain ⟨-, -, -, -, -, h5, h6, h7⟩ := h2
  exact ⟨lag_in ho h, st1_in hs ho h, rud_in hs ho h, turn_in hs ho h, off_in hs ho h, ho, h5, h6⟩
/-! ===== the reference's step ===== -/
def wrapOff (o : Int32) : Int32 := if o ≤ 1799 then (if -1800 ≤ o then o else o + 3600) else o - 3600
theorem up_eq (f : Nat → Int32) (k : Nat) (x : Int32) : upd f k x k = x := if_pos rfl
theorem up_ne (f : Nat → Int32) {k j : Nat} (x : Int32) (h : ¬ j = k) : upd f k x j = f j := if_neg h
theorem ext8 {f g : Nat → Int32} (h0 : f 0 = g 0) (h1 : f 1 = g 1) (h2 : f 2 = g 2) (h3 : f 3 = g 3) (h4 : f 4 = g 4) (h5 : f 5 = g 5) (h6 : f 6 = g 6) (h7 : f 7 = g 7) (hr : ∀ i, ¬ i = 0 → ¬ i = 1 → ¬ i = 2 → ¬ i = 3 → ¬ i = 4 → ¬ i = 5 → ¬ i = 6 → ¬ i = 7 → f i = g i) : f = g := by
  funext i
  by_cases g0 : i = 0
  · rw [g0, h0]
  by_cases g1 : i = 1
  · rw [g1, h1]
  by_cases g2 : i = 2
  · rw [g2, h2]
  by_cases g3 : i = 3
  · rw [g3, h3]
  by_cases g4 : i = 4
  · rw [g4, h4]
  by_cases g5 : i = 5
  · rw [g5, h5]
  by_cases g6 : i = 6
  · rw [g6, h6]
  by_cases g7 : i = 7
  · rw [g7, h7]
  exact hr i g0 g1 g2 g3 g4 g5 g6 g7
theorem ref_J243 (fu : Nat) (od : Int32) (now : Nat → Int32) : FX12_steps_J243 fu od now = some (fun i => if i = 5 then od else if i = 6 then now 5 else if i = 7 then now 6 else now i) := by
  unfold FX12_steps_J243
  congr 1
theorem ref_J131 (fu : Nat) (od : Int32) (sh now : Nat → Int32) (h : ¬ sh 1 = 0) : FX12_steps_J131 fu od sh now = some (fun i => if i = 3 then now 3 + (now 2 * sh 0 / 10 - now 3) / sh 1 else if i = 4 then wrapOff (now 4 + ((now 3 + (now 2 * sh 0 / 10 - now 3) / sh 1) + sh 2)) else if i = 5 then od else if i = 6 then now 5 else if i = 7 then now 6 else now i) := by
  unfold FX12_steps_J131
  rw [if_pos h]
  simp only [ref_J243, up_eq, up_ne _ _ (show ¬ 4 = 3 by decide), up_ne _ _ (show ¬ 3 = 4 by decide)]
  generalize now 3 + (now 2 * sh 0 / 10 - now 3) / sh 1 = t
  generalize now 4 + (t + sh 2) = o
  unfold wrapOff
  by_cases h1 : o ≤ 1799 <;> by_cases h2 : -1800 ≤ o
  all_goals
    simp only [h1, h2, if_true, if_false]
    congr 1
    refine ext8 ?_ ?_ ?_ ?_ ?_ ?_ ?_ ?_ (fun i h0 h1 h2 h3 h4 h5 h6 h7 => ?_)
    all_goals first | rfl | simp only [upd, if_neg h0, if_neg h1, if_neg h2, if_neg h3, if_neg h4, if_neg h5, if_neg h6, if_neg h7]
theorem ref_J28 (fu : Nat) (od : Int32) (pa sh : Nat → Int32) (w : Int32) (now : Nat → Int32) (hs : setOk pa sh) (hw : in30 w) (h : stOk now) : FX12_steps_J28 fu od pa sh w now =
    (let r1 := now 1 + fX4_pull_r (w - now 1) (pa 0) 6
     let mv := fX4_pull_r (r1 - now 2) (pa 1) (pa 2)
     let r2 := if (pa 4 = 1 ∧ 0 < mv) ∨ (pa 4 = 2 ∧ mv < 0) then now 2 else now 2 + mv
     let t := now 3 + (r2 * sh 0 / 10 - now 3) / sh 1
     some (fun i => if i = 0 then w else if i = 1 then r1 else if i = 2 then r2 else if i = 3 then t else if i = 4 then wrapOff (now 4 + (t + sh 2)) else if i = 5 then od else if i = 6 then now 5 else if i = 7 then now 6 else now i)) := by
  have hsh : ¬ sh 1 = 0 := by
    obtain ⟨-, -, -, -, -, -, n, -⟩ := hs
    intro z
    have e : (sh 1).toInt = 0 := by rw [z]; rfl
    omega
  unfold FX12_steps_J28 FX12_steps_J107 FX12_steps_J121
  simp only [up_eq, up_ne _ _ (show ¬ 1 = 0 by decide), up_ne _ _ (show ¬ 2 = 1 by decide), up_ne _ _ (show ¬ 2 = 0 by decide)]
  obtain ⟨-, h1, h2, -⟩ := h
  obtain ⟨p0, p1, p2, -⟩ := hs
  obtain ⟨w1, w2⟩ := hw
  obtain ⟨a1, a2⟩ := h1
  obtain ⟨b1, b2⟩ := h2
  have e1 := i_sub w (now 1) (by omega) (by omega)
  rw [← pull_eq (w - now 1) (pa 0) 6 (by omega) (by omega) p0.1 p0.2]
  have k1 := pull_rng (w - now 1) (pa 0) 6 (by omega) (by omega) p0.1 p0.2 (by decide)
  have e2 := i_add (now 1) (fX4_pull_r (w - now 1) (pa 0) 6) (by omega) (by omega)
  generalize now 1 + fX4_pull_r (w - now 1) (pa 0) 6 = r1 at *
  have e3 := i_sub r1 (now 2) (by omega) (by omega)
  rw [← pull_eq (r1 - now 2) (pa 1) (pa 2) (by omega) (by omega) p1.1 p1.2]
  generalize fX4_pull_r (r1 - now 2) (pa 1) (pa 2) = mv
  by_cases hc : (pa 4 = 1 ∧ 0 < mv) ∨ (pa 4 = 2 ∧ mv < 0)
  · have e : (if ¬pa 4 = 1 then if ¬pa 4 = 2 then FX12_steps_J131 fu od sh (upd (upd (upd now 0 w) 1 r1) 2 (upd (upd now 0 w) 1 r1 2 + mv)) else if mv < 0 then FX12_steps_J131 fu od sh (upd (upd now 0 w) 1 r1) else FX12_steps_J131 fu od sh (upd (upd (upd now 0 w) 1 r1) 2 (upd (upd now 0 w) 1 r1 2 + mv)) else if 0 < mv then FX12_steps_J131 fu od sh (upd (upd now 0 w) 1 r1) else if ¬pa 4 = 2 then FX12_steps_J131 fu od sh (upd (upd (upd now 0 w) 1 r1) 2 (upd (upd now 0 w) 1 r1 2 + mv)) else if mv < 0 then FX12_steps_J131 fu od sh (upd (upd now 0 w) 1 r1) else FX12_steps_J131 fu od sh (upd (upd (upd now 0 w) 1 r1) 2 (upd (upd now 0 w) 1 r1 2 + mv))) = FX12_steps_J131 fu od sh (upd (upd now 0 w) 1 r1) := by
      rcases hc with ⟨g1, g2⟩ | ⟨g1, g2⟩
      · rw [if_neg (fun z => z g1), if_pos g2]
      · have : ¬ pa 4 = 1 := by rw [g1]; decide
        rw [if_pos this, if_neg (fun z => z g1), if_pos g2]
    simp only [if_pos hc]
    refine Eq.trans ?_ (e.trans ?_)
    · rfl
    rw [ref_J131 _ _ _ _ hsh]
    congr 1
    refine ext8 ?_ ?_ ?_ ?_ ?_ ?_ ?_ ?_ (fun i h0 h1 h2 h3 h4 h5 h6 h7 => ?_)
    all_goals first | rfl | simp only [upd, if_neg h0, if_neg h1, if_neg h2, if_neg h3, if_neg h4, if_neg h5, if_neg h6, if_neg h7]
  · have e : (if ¬pa 4 = 1 then if ¬pa 4 = 2 then FX12_steps_J131 fu od sh (upd (upd (upd now 0 w) 1 r1) 2 (upd (upd now 0 w) 1 r1 2 + mv)) else if mv < 0 then FX12_steps_J131 fu od sh (upd (upd now 0 w) 1 r1) else FX12_steps_J131 fu od sh (upd (upd (upd now 0 w) 1 r1) 2 (upd (upd now 0 w) 1 r1 2 + mv)) else if 0 < mv then FX12_steps_J131 fu od sh (upd (upd now 0 w) 1 r1) else if ¬pa 4 = 2 then FX12_steps_J131 fu od sh (upd (upd (upd now 0 w) 1 r1) 2 (upd (upd now 0 w) 1 r1 2 + mv)) else if mv < 0 then FX12_steps_J131 fu od sh (upd (upd now 0 w) 1 r1) else FX12_steps_J131 fu od sh (upd (upd (upd now 0 w) 1 r1) 2 (upd (upd now 0 w) 1 r1 2 + mv))) = FX12_steps_J131 fu od sh (upd (upd (upd now 0 w) 1 r1) 2 (upd (upd now 0 w) 1 r1 2 + mv)) := by
      by_cases g1 : pa 4 = 1
      · have g3 : ¬ 0 < mv := fun z => hc (Or.inl ⟨g1, z⟩)
        have : ¬ pa 4 = 2 := by rw [g1]; decide
        rw [if_neg (fun z => z g1), if_neg g3, if_pos this]
      · rw [if_pos g1]
        by_cases g2 : pa 4 = 2
        · have g3 : ¬ mv < 0 := fun z => hc (Or.inr ⟨g2, z⟩)
          rw [if_neg (fun z => z g2), if_neg g3]
        · rw [if_pos g2]
    simp only [if_neg hc]
    refine Eq.trans ?_ (e.trans ?_)
    · rfl
    rw [ref_J131 _ _ _ _ hsh]
    congr 1
    refine ext8 ?_ ?_ ?_ ?_ ?_ ?_ ?_ ?_ (fun i h0 h1 h2 h3 h4 h5 h6 h7 => ?_)
    all_goals first | rfl | simp only [upd, if_neg h0, if_neg h1, if_neg h2, if_neg h3, if_neg h4, if_neg h5, if_neg h6, if_neg h7]
theorem i_of {a : Int32} {b : Int32} (n : Int) (h : a.toInt = n) (hb : b.toInt = n) : a = b := Int32.toInt_inj.mp (h.trans hb.symm)
theorem ref_steps (fu : Nat) (od : Int32) (pa sh now : Nat → Int32) (hs : setOk pa sh) (ho : in30 od) (h : stOk now) : FX12_steps fu od pa sh now = some (st_step od pa sh now) := by
  have hl := lag_in (pa := pa) ho h
  have key : FX12_steps fu od pa sh now = FX12_steps_J28 fu od pa sh (fX4_lagging_r od (pa 3) (now 5) (now 6) (now 7)) now := by
    obtain ⟨-, -, -, p3, -⟩ := hs
    have hc : (pa 3).toInt = 0 ∨ (pa 3).toInt = 1 ∨ (pa 3).toInt = 2 ∨ (pa 3).toInt = 3 := by omega
    unfold FX12_steps fX4_lagging_r
    rcases hc with hc | hc | hc | hc
    · rw [i_of (b := 0) _ hc rfl]; rfl
    · rw [i_of (b := 1) _ hc rfl]; rfl
    · rw [i_of (b := 2) _ hc rfl]; rfl
    · rw [i_of (b := 3) _ hc rfl]; rfl
  rw [key, ref_J28 fu od pa sh _ now hs hl h, step_eq hs]
  rfl
