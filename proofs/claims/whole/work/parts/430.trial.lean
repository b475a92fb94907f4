/-! ===== the trial by hand ===== -/
def rowAt (kept : Nat → Int32) (t : Nat) : Nat → Int32 := fun i => kept (8 * t + i)
theorem step_now {od : Int32} {pa sh S T : Nat → Int32} (h : ∀ i, i < 8 → S i = T i) : ∀ i, i < 8 → st_step od pa sh S i = st_step od pa sh T i := by
  intro i hi
  unfold st_step
  rw [h 1 (by omega), h 2 (by omega), h 3 (by omega), h 4 (by omega), h 5 (by omega), h 6 (by omega), h 7 (by omega), h i hi]
theorem stOk_now {S T : Nat → Int32} (h : ∀ i, i < 8 → S i = T i) (hT : stOk T) : stOk S := by
  unfold stOk
  rw [h 0 (by omega), h 1 (by omega), h 2 (by omega), h 3 (by omega), h 4 (by omega), h 5 (by omega), h 6 (by omega), h 7 (by omega)]
  exact hT
theorem pkS_now {S T : Nat → Int32} (h : ∀ i, i < 8 → S i = T i) : pkS S = pkS T := by
  unfold pkS
  rw [h 0 (by omega), h 1 (by omega), h 2 (by omega), h 3 (by omega), h 4 (by omega), h 5 (by omega), h 6 (by omega), h 7 (by omega)]
/-- the class's trial and the reference's -/
def trRel (steps c0 c1 c2 c3 c4 c5 c6 c7 : Int32) (states : Nat → Int64) (isT ts : Int32) (kept : Nat → Int32) : Prop :=
  (steps = -1 ∧ isT = 0) ∨ (∃ T : Nat, T ≤ 100 ∧ steps.toInt = T ∧ isT = 1 ∧ ts = steps ∧ (∀ t, t ≤ T → stOk (rowAt kept t) ∧ states t = pkS (rowAt kept t)) ∧ c0 = rowAt kept T 0 ∧ c1 = rowAt kept T 1 ∧ c2 = rowAt kept T 2 ∧ c3 = rowAt kept T 3 ∧ c4 = rowAt kept T 4 ∧ c5 = rowAt kept T 5 ∧ c6 = rowAt kept T 6 ∧ c7 = rowAt kept T 7)
theorem ref_bringsL (fu : Nat) (p1 : Int32) (a : Nat) (hp : p1.toInt = a) (ha : a ≤ 100) (kept : Nat → Int32) : ∀ (n j f : Nat) (x : Int32) (now : Nat → Int32), j + n = 8 → x.toInt = j → n < f → ∃ now', FX12_brings_L fu p1 kept f x now = some now' ∧ ∀ q, now' q = if j ≤ q ∧ q < 8 then kept (8 * a + q) else now q := by
  have q1 := t_1
  have q8 : (8 : Int32).toInt = 8 := rfl
  intro n
  induction n with
  | zero =>
    intro j f x now hj hx hf
    obtain ⟨f, rfl⟩ : ∃ g, f = g + 1 := ⟨f - 1, by omega⟩
    rw [FX12_brings_L, if_pos (by rw [i_le]; omega)]
    refine ⟨now, rfl, fun q => ?_⟩
    rw [if_neg (by omega)]
  | succ n ih =>
    intro j f x now hj hx hf
    obtain ⟨f, rfl⟩ : ∃ g, f = g + 1 := ⟨f - 1, by omega⟩
    have hi1 : pz_inb x 8 = true := i_inb.mpr (by omega)
    obtain ⟨m1, m2⟩ := mul8 p1 x a j hp hx (by omega) (by omega)
    have hn : x.toNatClampNeg = j := by have := i_nat (a := x) (by omega); omega
    rw [FX12_brings_L, if_neg (by rw [i_le]; omega)]
    generalize 8 * p1 + x = z at *
    have hi2 : pz_inb z 808 = true := i_inb.mpr (by omega)
    rw [if_pos hi2, if_pos hi1, m2, hn]
    have hs := i_add x 1 (by omega) (by omega)
    generalize x + 1 = x' at *
    obtain ⟨now', e1, e2⟩ := ih (j + 1) f x' (upd now j (kept (8 * a + j))) (by omega) (by omega) (by omega)
    refine ⟨now', e1, fun q => ?_⟩
    rw [e2 q]
    unfold upd
    by_cases g1 : j + 1 ≤ q ∧ q < 8
    · rw [if_pos g1, if_pos (by omega)]
    · rw [if_neg g1]
      by_cases g2 : q = j
      · rw [if_pos g2, if_pos (by omega), g2]
      · rw [if_neg g2, if_neg (by omega)]
theorem ref_leavesL (fu : Nat) (p1 : Int32) (a : Nat) (hp : p1.toInt = a) (ha : a ≤ 100) (now : Nat → Int32) : ∀ (n j f : Nat) (x : Int32) (kept : Nat → Int32), j + n = 8 → x.toInt = j → n < f → ∃ kept', FX12_leaves_L fu p1 now f x kept = some kept' ∧ ∀ q, kept' q = if 8 * a + j ≤ q ∧ q < 8 * a + 8 then now (q - 8 * a) else kept q := by
  have q1 := t_1
  have q8 : (8 : Int32).toInt = 8 := rfl
  intro n
  induction n with
  | zero =>
    intro j f x kept hj hx hf
    obtain ⟨f, rfl⟩ : ∃ g, f = g + 1 := ⟨f - 1, by omega⟩
    rw [FX12_leaves_L, if_pos (by rw [i_le]; omega)]
    refine ⟨kept, rfl, fun q => ?_⟩
    rw [if_neg (by omega)]
  | succ n ih =>
    intro j f x kept hj hx hf
    obtain ⟨f, rfl⟩ : ∃ g, f = g + 1 := ⟨f - 1, by omega⟩
    have hi1 : pz_inb x 8 = true := i_inb.mpr (by omega)
    obtain ⟨m1, m2⟩ := mul8 p1 x a j hp hx (by omega) (by omega)
    have hn : x.toNatClampNeg = j := by have := i_nat (a := x) (by omega); omega
    rw [FX12_leaves_L, if_neg (by rw [i_le]; omega), if_pos hi1]
    generalize 8 * p1 + x = z at *
    have hi2 : pz_inb z 808 = true := i_inb.mpr (by omega)
    rw [if_pos hi2, m2, hn]
    have hs := i_add x 1 (by omega) (by omega)
    generalize x + 1 = x' at *
    obtain ⟨kept', e1, e2⟩ := ih (j + 1) f x' (upd kept (8 * a + j) (now j)) (by omega) (by omega) (by omega)
    refine ⟨kept', e1, fun q => ?_⟩
    rw [e2 q]
    unfold upd
    by_cases g1 : 8 * a + (j + 1) ≤ q ∧ q < 8 * a + 8
    · rw [if_pos g1, if_pos (by omega)]
    · rw [if_neg g1]
      by_cases g2 : q = 8 * a + j
      · rw [if_pos g2, if_pos (by omega), g2]
        congr 1
        omega
      · rw [if_neg g2, if_neg (by omega)]
theorem ref_brings {fu : Nat} (hfu : 100 ≤ fu) (p1 : Int32) (a : Nat) (hp : p1.toInt = a) (ha : a ≤ 100) (now kept : Nat → Int32) : ∃ now', FX12_brings fu p1 now kept = some now' ∧ ∀ q, q < 8 → now' q = rowAt kept a q := by
  unfold FX12_brings
  obtain ⟨now', e1, e2⟩ := ref_bringsL fu p1 a hp ha kept 8 0 fu 0 now (by omega) rfl (by omega)
  exact ⟨now', e1, fun q hq => by rw [e2 q, if_pos (by omega)]; rfl⟩
theorem ref_leaves {fu : Nat} (hfu : 100 ≤ fu) (p1 : Int32) (a : Nat) (hp : p1.toInt = a) (ha : a ≤ 100) (now kept : Nat → Int32) : ∃ kept', FX12_leaves fu p1 now kept = some kept' ∧ (∀ q, q < 8 → rowAt kept' a q = now q) ∧ ∀ t, ¬ t = a → ∀ q, q < 8 → rowAt kept' t q = rowAt kept t q := by
  unfold FX12_leaves
  obtain ⟨kept', e1, e2⟩ := ref_leavesL fu p1 a hp ha now 8 0 fu 0 kept (by omega) rfl (by omega)
  refine ⟨kept', e1, fun q hq => ?_, fun t ht q hq => ?_⟩
  · unfold rowAt
    rw [e2, if_pos (by omega)]
    congr 1
    omega
  · unfold rowAt
    rw [e2, if_neg (by omega)]
theorem begin_eq {fu : Nat} (hfu : 10000 ≤ fu) (p1 : Int32) (steps c0 c1 c2 c3 c4 c5 c6 c7 : Int32) (states : Nat → Int64) (isT ts : Int32) (now kept : Nat → Int32) (h : trRel steps c0 c1 c2 c3 c4 c5 c6 c7 states isT ts kept) :
    ∃ (isT' ts' : Int32) (now' kept' : Nat → Int32), FX12_begin fu p1 isT ts now kept = some (fX11_begin_r p1, 0, isT', ts', now', kept') ∧ trRel (fX11_begin_f1_2 p1 steps) (fX11_begin_f2_0 p1 c0) (fX11_begin_f2_1 p1 c1) (fX11_begin_f2_2 p1 c2) (fX11_begin_f2_3 p1 c3) (fX11_begin_f2_4 p1 c4) (fX11_begin_f2_5 p1 c5) (fX11_begin_f2_6 p1 c6) (fX11_begin_f2_7 p1 c7) (fX11_begin_a3 p1 states) isT' ts' kept' := by
  unfold FX12_begin fX11_begin_r fX11_begin_f1_2 fX11_begin_f2_0 fX11_begin_f2_1 fX11_begin_f2_2 fX11_begin_f2_3 fX11_begin_f2_4 fX11_begin_f2_5 fX11_begin_f2_6 fX11_begin_f2_7 fX11_begin_a3
  by_cases a2 : isOffP p1
  · have b1 : ¬ fX11_isOff_r p1 = 0 := fun z => (isOff_iff p1).1.mp z a2
    have b2 : ¬ fX12_isOff_r p1 = 0 := fun z => (isOff_iff p1).2.mp z a2
    simp only [if_pos b1, if_pos b2]
    rw [ref_starts (by omega), Option.bind_some]
    obtain ⟨kept', e1, e2, e3⟩ := ref_leaves (fu := fu) (by omega) 0 0 rfl (by omega) (st0 p1 now) kept
    rw [e1, Option.bind_some]
    refine ⟨1, 0, _, kept', rfl, Or.inr ⟨0, by omega, rfl, rfl, rfl, ?_, ?_, ?_, ?_, ?_, ?_, ?_, ?_, ?_⟩⟩
    · intro t ht
      have : t = 0 := by omega
      subst this
      refine ⟨stOk_now (T := st0 p1 now) e2 (st0_ok a2), ?_⟩
      rw [pkS_now (T := st0 p1 now) e2]
      rfl
    all_goals (rw [e2 _ (by omega)]; rfl)
  · have b1 : fX11_isOff_r p1 = 0 := (isOff_iff p1).1.mpr a2
    have b2 : fX12_isOff_r p1 = 0 := (isOff_iff p1).2.mpr a2
    simp only [if_neg (show ¬ ¬ fX11_isOff_r p1 = 0 from fun z => z b1), if_neg (show ¬ ¬ fX12_isOff_r p1 = 0 from fun z => z b2)]
    exact ⟨_, _, _, _, rfl, h⟩
theorem order_eq {fu : Nat} (hfu : 10000 ≤ fu) {pa sh : Nat → Int32} (hs : setOk pa sh) (p1 : Int32) (steps c0 c1 c2 c3 c4 c5 c6 c7 : Int32) (states : Nat → Int64) (isT ts : Int32) (now kept : Nat → Int32) (h : trRel steps c0 c1 c2 c3 c4 c5 c6 c7 states isT ts kept) :
    ∃ (v steps' c0' c1' c2' c3' c4' c5' c6' c7' : Int32) (states' : Nat → Int64) (ts' : Int32) (now' kept' : Nat → Int32), FX11_order fu p1 pa sh steps c0 c1 c2 c3 c4 c5 c6 c7 states = some (v, steps', c0', c1', c2', c3', c4', c5', c6', c7', states') ∧ FX12_order fu p1 isT ts pa sh now kept = some (v, 0, ts', now', kept') ∧ trRel steps' c0' c1' c2' c3' c4' c5' c6' c7' states' isT ts' kept' := by
  have t30 : (30 : Int32).toInt = 30 := rfl
  have tm30 : (-30 : Int32).toInt = -30 := rfl
  have t100 : (100 : Int32).toInt = 100 := rfl
  have tm1 : (-1 : Int32).toInt = -1 := rfl
  have q1 := t_1
  have q0 := t_0
  unfold FX11_order FX12_order
  rcases h with ⟨h1, h2⟩ | ⟨T, hT, h1, h2, h3, h4, h5⟩
  · subst h2 h1
    rw [if_pos rfl]
    unfold FX9_step
    rw [if_pos rfl]
    by_cases a1 : p1 < -30
    · rw [if_pos a1]; exact ⟨_, _, _, _, _, _, _, _, _, _, _, _, _, _, rfl, rfl, Or.inl ⟨rfl, rfl⟩⟩
    rw [if_neg a1]
    by_cases a2 : 30 < p1
    · rw [if_pos a2]; exact ⟨_, _, _, _, _, _, _, _, _, _, _, _, _, _, rfl, rfl, Or.inl ⟨rfl, rfl⟩⟩
    rw [if_neg a2, Option.bind_some]
    exact ⟨_, _, _, _, _, _, _, _, _, _, _, _, _, _, rfl, rfl, Or.inl ⟨rfl, rfl⟩⟩
  · subst h2 h3
    have hk : trRel ts c0 c1 c2 c3 c4 c5 c6 c7 states 1 ts kept := Or.inr ⟨T, hT, h1, rfl, rfl, h4, h5⟩
    rw [if_neg (show ¬ (1 : Int32) = 0 by decide)]
    by_cases a1 : p1 < -30
    · rw [if_pos a1, if_pos a1]; exact ⟨_, _, _, _, _, _, _, _, _, _, _, _, _, _, rfl, rfl, hk⟩
    rw [if_neg a1, if_neg a1]
    by_cases a2 : 30 < p1
    · rw [if_pos a2, if_pos a2]; exact ⟨_, _, _, _, _, _, _, _, _, _, _, _, _, _, rfl, rfl, hk⟩
    rw [if_neg a2, if_neg a2]
    have hn1 : ¬ ts = -1 := by rw [i_eq]; omega
    unfold FX9_step
    rw [if_neg hn1]
    by_cases a3 : ts = 100
    · have z := i_eq.mp a3
      rw [if_neg (show ¬ ts < 100 by rw [i_lt]; omega), if_neg (show ¬ ¬ ts = 100 from fun z => z a3), Option.bind_some]
      exact ⟨_, _, _, _, _, _, _, _, _, _, _, _, _, _, rfl, rfl, hk⟩
    · have z : ¬ ts.toInt = 100 := fun z => a3 (i_eq.mpr z)
      have hs1 := i_add ts 1 (by omega) (by omega)
      have hn := i_nat (a := ts + 1) (by omega)
      have hi : pz_inb (ts + 1) 101 = true := i_inb.mpr (by omega)
      rw [if_pos (show ts < 100 by rw [i_lt]; omega), if_pos a3, if_pos hi, Option.bind_some]
      have ho : in30 p1 := by
        rw [i_lt] at a1 a2
        exact ⟨by omega, by omega⟩
      obtain ⟨now1, e1, e2⟩ := ref_brings (fu := fu) (by omega) ts T h1 hT now kept
      obtain ⟨o1, o2⟩ := h4 T (Nat.le_refl _)
      have hok1 : stOk now1 := stOk_now e2 o1
      have hst := step_now (od := p1) (pa := pa) (sh := sh) e2
      rw [e1, Option.bind_some, ref_steps fu p1 pa sh now1 hs ho hok1, Option.bind_some]
      obtain ⟨kept', f1, f2, f3⟩ := ref_leaves (fu := fu) (by omega) (ts + 1) (T + 1) (by omega) (by omega) (st_step p1 pa sh now1) kept
      rw [f1, Option.bind_some]
      have hn2 : (ts + 1).toNatClampNeg = T + 1 := by omega
      obtain ⟨d0, d1, d2, d3, d4, d5, d6, d7⟩ := h5
      subst d0 d1 d2 d3 d4 d5 d6 d7
      have hrow : ∀ i, i < 8 → st_step p1 pa sh (rowAt kept T) i = rowAt kept' (T + 1) i := fun i hi => ((f2 i hi).trans (hst i hi)).symm
      refine ⟨st_step p1 pa sh now1 4, ts + 1, st_step p1 pa sh (rowAt kept T) 0, st_step p1 pa sh (rowAt kept T) 1, st_step p1 pa sh (rowAt kept T) 2, st_step p1 pa sh (rowAt kept T) 3, st_step p1 pa sh (rowAt kept T) 4, st_step p1 pa sh (rowAt kept T) 5, st_step p1 pa sh (rowAt kept T) 6, st_step p1 pa sh (rowAt kept T) 7, vp_updL states (T + 1) (pkS (st_step p1 pa sh (rowAt kept T))), _, _, _, ?_, rfl, Or.inr ⟨T + 1, by omega, by omega, rfl, rfl, ?_, hrow 0 (by omega), hrow 1 (by omega), hrow 2 (by omega), hrow 3 (by omega), hrow 4 (by omega), hrow 5 (by omega), hrow 6 (by omega), hrow 7 (by omega)⟩⟩
      · rw [if_pos (show ¬ (1 : Int32) = 0 by decide), hn2, hst 4 (by omega)]
        rfl
      · intro t ht
        by_cases g : t = T + 1
        · subst g
          refine ⟨stOk_now (fun i hi => (hrow i hi).symm) (step_ok hs ho o1), ?_⟩
          rw [← pkS_now hrow]
          unfold vp_updL
          rw [if_pos rfl]
        · obtain ⟨p1', p2'⟩ := h4 t (by omega)
          refine ⟨stOk_now (f3 t g) p1', ?_⟩
          rw [pkS_now (f3 t g), ← p2']
          unfold vp_updL
          rw [if_neg g]
theorem back_eq {fu : Nat} (steps c0 c1 c2 c3 c4 c5 c6 c7 : Int32) (states : Nat → Int64) (isT ts : Int32) (kept : Nat → Int32) (h : trRel steps c0 c1 c2 c3 c4 c5 c6 c7 states isT ts kept) :
    ∃ (steps' c0' c1' c2' c3' c4' c5' c6' c7' : Int32), FX11_back fu steps c0 c1 c2 c3 c4 c5 c6 c7 states = some (fX12_back_r isT ts, steps', c0', c1', c2', c3', c4', c5', c6', c7') ∧ trRel steps' c0' c1' c2' c3' c4' c5' c6' c7' states isT (fX12_back_f0_64 isT ts) kept := by
  have tm1 : (-1 : Int32).toInt = -1 := rfl
  have q1 := t_1
  have q0 := t_0
  unfold FX11_back FX9_takeBack fX12_back_r fX12_back_f0_64
  rcases h with ⟨h1, h2⟩ | ⟨T, hT, h1, h2, h3, h4, h5⟩
  · subst h2 h1
    rw [if_neg (show ¬ (1 : Int32) ≤ -1 by decide), if_pos rfl, if_pos rfl, Option.bind_some, if_pos rfl]
    exact ⟨_, _, _, _, _, _, _, _, _, rfl, Or.inl ⟨rfl, rfl⟩⟩
  · subst h2 h3
    have hk : trRel ts c0 c1 c2 c3 c4 c5 c6 c7 states 1 ts kept := Or.inr ⟨T, hT, h1, rfl, rfl, h4, h5⟩
    rw [if_neg (show ¬ (1 : Int32) = 0 by decide), if_neg (show ¬ (1 : Int32) = 0 by decide)]
    by_cases g : ts = 0
    · have z := i_eq.mp g
      rw [if_neg (show ¬ ¬ ts = 0 from fun z => z g), if_neg (show ¬ ¬ ts = 0 from fun z => z g), if_neg (show ¬ 1 ≤ ts by rw [i_le]; omega), Option.bind_some, if_pos rfl]
      exact ⟨_, _, _, _, _, _, _, _, _, rfl, hk⟩
    · have z : ¬ ts.toInt = 0 := fun z => g (i_eq.mpr z)
      have hs1 := i_sub ts 1 (by omega) (by omega)
      have hn := i_nat (a := ts - 1) (by omega)
      have hi : pz_inb (ts - 1) 101 = true := i_inb.mpr (by omega)
      have hn2 : (ts - 1).toNatClampNeg = T - 1 := by omega
      rw [if_pos g, if_pos g, if_pos (show 1 ≤ ts by rw [i_le]; omega), if_pos hi, Option.bind_some, if_neg (show ¬ (1 : Int32) = 0 by decide), hn2]
      obtain ⟨o1, o2⟩ := h4 (T - 1) (by omega)
      rw [o2]
      obtain ⟨u0, u1, u2, u3, u5, u6, u7, u4⟩ := unpack_eq o1
      exact ⟨_, _, _, _, _, _, _, _, _, rfl, Or.inr ⟨T - 1, by omega, (show (ts - 1).toInt = ((T - 1 : Nat) : Int) by omega), rfl, rfl, fun t ht => h4 t (by omega), u0, u1, u2, u3, u4, u5, u6, u7⟩⟩
theorem now_eq {fu : Nat} (p1 : Int32) (steps c0 c1 c2 c3 c4 c5 c6 c7 : Int32) (states : Nat → Int64) (isT ts : Int32) (kept : Nat → Int32) (h : trRel steps c0 c1 c2 c3 c4 c5 c6 c7 states isT ts kept) :
    FX12_now fu p1 isT ts kept = some (fX11_now_r p1 steps c0 c1 c2 c3 c4 c5, 0) := by
  have tm1 : (-1 : Int32).toInt = -1 := rfl
  have q0 := t_0
  have t5 : (5 : Int32).toInt = 5 := rfl
  unfold FX12_now fX11_now_r
  rcases h with ⟨h1, h2⟩ | ⟨T, hT, h1, h2, h3, h4, h5⟩
  · rw [if_pos h2, if_pos h1]
  · subst h2 h3
    rw [if_neg (show ¬ (1 : Int32) = 0 by decide), if_neg (show ¬ ts = -1 by rw [i_eq]; omega)]
    by_cases a1 : p1 < 0
    · rw [if_pos a1, if_pos a1]
    rw [if_neg a1, if_neg a1]
    by_cases a2 : p1 ≤ 5
    · rw [if_pos a2, if_pos a2]
      by_cases a3 : p1 = 5
      · rw [if_neg (show ¬ ¬ p1 = 5 from fun z => z a3), if_neg (show ¬ ¬ p1 = 5 from fun z => z a3)]
      · rw [if_pos a3, if_pos a3]
        have z : ¬ p1.toInt = 5 := fun z => a3 (i_eq.mpr z)
        rw [i_lt] at a1
        rw [i_le] at a2
        have hx := i_nat (a := p1) (by omega)
        obtain ⟨m1, m2⟩ := mul8 ts p1 T p1.toNatClampNeg h1 (by omega) (by omega) (by omega)
        have hi : pz_inb (8 * ts + p1) 808 = true := i_inb.mpr (by omega)
        rw [if_pos hi, m2]
        obtain ⟨d0, d1, d2, d3, d4, d5, d6, d7⟩ := h5
        subst d0 d1 d2 d3 d4 d5 d6 d7
        have hc : p1.toInt = 0 ∨ p1.toInt = 1 ∨ p1.toInt = 2 ∨ p1.toInt = 3 ∨ p1.toInt = 4 := by omega
        have hv : fX4_look_r p1 (rowAt kept T 0) (rowAt kept T 1) (rowAt kept T 2) (rowAt kept T 3) (rowAt kept T 4) (rowAt kept T 5) = rowAt kept T p1.toNatClampNeg := by
          rcases hc with z | z | z | z | z
          · rw [i_of (b := 0) _ z rfl]; rfl
          · rw [i_of (b := 1) _ z rfl]; rfl
          · rw [i_of (b := 2) _ z rfl]; rfl
          · rw [i_of (b := 3) _ z rfl]; rfl
          · rw [i_of (b := 4) _ z rfl]; rfl
        rw [hv]
        rfl
    · rw [if_neg a2, if_neg a2]
