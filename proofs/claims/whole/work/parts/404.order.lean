-- deps: 100 110 111 112 113 114 115 116 117 118 119 120 130 131 132 133 200 201 202 203
/-! ===== the order of a helm ===== -/
theorem ev_val (K S : Nat → Int32) (hS : stOk S) : ∀ (n a d e : Nat) (st : Nat → Int64) (v : Int64), run_ok K n a d = some e → 1 ≤ e → (∀ k, a ≤ k → k < a + n → ∃ s v, kRel (K k) s v) → (∀ i, i < d → isVal (st i)) → ev K S n a d st = some v → isVal v := by
  intro n
  induction n with
  | zero =>
    intro a d e st v hr he hk hv h
    cases hr
    cases h
    exact hv 0 (by omega)
  | succ n ih =>
    intro a d e st v hr he hk hv h
    rw [run_ok] at hr
    rw [ev] at h
    obtain ⟨s, v0, hrel⟩ := hk a (by omega) (by omega)
    have hk2 : ∀ k, a + 1 ≤ k → k < a + 1 + n → ∃ s v, kRel (K k) s v := fun k h1 h2 => hk k (by omega) (by omega)
    rcases kRel_kind hrel with ⟨g1, g2, -⟩ | ⟨g1, -, -⟩ | ⟨g1, -, hb⟩
    · have c1 : -5 ≤ K a := by rw [i_le, t_m5]; exact g1
      rw [if_pos c1] at hr h
      exact ih _ _ e _ v hr he hk2 (updL_val hv (opd_val hS g2) (by omega) (by omega) d (Or.inl rfl)) h
    · have c1 : ¬ -5 ≤ K a := by rw [g1]; decide
      rw [if_neg c1, if_pos g1] at hr h
      by_cases hd1 : 1 ≤ d
      · rw [if_pos hd1] at hr
        exact ih _ _ e _ v hr he hk2 (updL_val hv (bit_val _) (by omega) (by omega) (d - 1) (Or.inr ⟨by omega, by omega⟩)) h
      · rw [if_neg hd1] at hr; cases hr
    · have c1 : ¬ -5 ≤ K a := by rw [i_le, t_m5]; omega
      have c3 : ¬ K a = -6 := by rw [i_eq, t_m6]; omega
      rw [if_neg c1, if_neg c3] at hr h
      by_cases hd2 : 2 ≤ d
      · rw [if_pos hd2] at hr
        cases hq : binv (K a) (st (d - 2)) (st (d - 1)) with
        | none => rw [hq] at h; cases h
        | some u =>
          rw [hq] at h
          have hu := binv_val (hv (d - 2) (by omega)) (hv (d - 1) (by omega)) hq
          exact ih _ _ e _ v hr he hk2 (updL_val hv hu (by omega) (by omega) (d - 2) (Or.inl (by omega))) h
      · rw [if_neg hd2] at hr; cases hr
/-- the value of the E from a to ahead of b -/
def evE (K S : Nat → Int32) (a b : Nat) : Option Int64 := ev K S (b - a) a 0 (fun _ => 0)
/-- a good E -/
def segOk (K : Nat → Int32) (a b : Nat) : Prop := a ≤ b ∧ b ≤ 64 ∧ run_ok K (b - a) a 0 = some 1
def knRel (K ks kv : Nat → Int32) (n : Nat) : Prop := ∀ k, k < n → kRel (K k) (ks k) (kv k)
theorem cls_E (fu : Nat) (hfu : 100 ≤ fu) (p1 p2 wr : Int32) (K ks kv S : Nat → Int32) (hS : stOk S) (a b : Nat) (h1 : p1.toInt = a) (h2 : p2.toInt = b) (hw : b ≤ wr.toInt) (hs : segOk K a b) (hk : knRel K ks kv b) (vals : Nat → Int64) : ∃ vals', FX2_workOut fu p1 p2 wr K vals (S 0) (S 1) (S 2) (S 3) (S 4) (S 5) = some ((evE K S a b).getD (-9223372036854775808), vals') := by
  obtain ⟨s1, s2, s3⟩ := hs
  obtain ⟨vals', h⟩ := cls_eval fu p1 p2 wr K S hS (b - a) a 0 1 fu 0 p1 vals h1 rfl (by omega) (by omega) (by omega) (by omega) (by omega) (fun k g1 g2 => ⟨_, _, hk k (by omega)⟩) s3 (by omega) (fun i hi => absurd hi (by omega))
  refine ⟨vals', ?_⟩
  unfold FX2_workOut evE
  rw [h, ev_congr K S _ _ _ _ vals (fun _ => 0) s3 (by omega) (fun i hi => absurd hi (by omega))]
theorem ref_E (fu : Nat) (hfu : 100 ≤ fu) (p1 p2 : Int32) (K ks kv S : Nat → Int32) (hS : stOk S) (a b : Nat) (h1 : p1.toInt = a) (h2 : p2.toInt = b) (hs : segOk K a b) (hk : knRel K ks kv b) (w : Nat → Int64) : ∃ m' w', FX12_goes fu p1 p2 ks kv S w = some (if (evE K S a b).isSome then 1 else 0, m', w') ∧ ∀ v, evE K S a b = some v → w' 0 = v := by
  obtain ⟨s1, s2, s3⟩ := hs
  obtain ⟨m', w', h, h'⟩ := ref_eval fu p1 p2 K ks kv S hS (b - a) a 0 1 fu p1 0 w h1 rfl (by omega) (by omega) (by omega) (by omega) (fun k g1 g2 => hk k (by omega)) s3 (fun i hi => absurd hi (by omega))
  have e := ev_congr K S _ _ _ _ w (fun _ => 0) s3 (by omega) (fun i hi => absurd hi (by omega))
  refine ⟨m', w', ?_, ?_⟩
  · unfold FX12_goes evE
    rw [h, e]
  · intro v hv
    unfold evE at hv
    rw [← e] at hv
    exact h' v hv
theorem evE_val {K ks kv S : Nat → Int32} (hS : stOk S) {a b : Nat} (hs : segOk K a b) (hk : knRel K ks kv b) {v : Int64} (h : evE K S a b = some v) : isVal v := by
  obtain ⟨s1, s2, s3⟩ := hs
  exact ev_val K S hS _ _ _ _ _ v s3 (by omega) (fun k g1 g2 => ⟨_, _, hk k (by omega)⟩) (fun i hi => absurd hi (by omega)) h
/-- a value as an order -/
def clamp (v : Int64) : Int32 := (fJ9_max_f86c9_r (-30) (fJ9_min_f86c9_r 30 v)).toInt32
theorem clamp_in (v : Int64) : in30 (clamp v) := by
  have t1 : (30 : Int64).toInt = 30 := rfl
  have t2 : (-30 : Int64).toInt = -30 := rfl
  have key : -30 ≤ (fJ9_max_f86c9_r (-30) (fJ9_min_f86c9_r 30 v)).toInt ∧ (fJ9_max_f86c9_r (-30) (fJ9_min_f86c9_r 30 v)).toInt ≤ 30 := by
    unfold fJ9_max_f86c9_r fJ9_min_f86c9_r
    simp only [lg_cmp_gt, lg_cmp_lt, l_lt, t1, t2]
    by_cases g : v.toInt < 30
    · simp only [if_pos g]
      by_cases g2 : -30 < v.toInt
      · rw [if_pos g2]; omega
      · rw [if_neg g2]; omega
    · simp only [if_neg g]
      rw [if_pos (by rw [t1]; omega)]; omega
  unfold clamp
  generalize fJ9_max_f86c9_r (-30) (fJ9_min_f86c9_r 30 v) = x at key
  have : x.toInt32.toInt = x.toInt := by
    rw [Int64.toInt_toInt32]
    exact Int.bmod_eq_of_le (by omega) (by omega)
  unfold in30
  omega
/-- what a line of a helm orders -/
def ordW (K S : Nat → Int32) (b c : Nat) : Int32 := match evE K S b c with
  | none => 0
  | some v => clamp v
/-- the order by n lines from l on -/
def ordL (K S st mi : Nat → Int32) : Nat → Nat → Int32
  | 0, _ => 0
  | n + 1, l => if mi l = st l then ordW K S (mi l).toNatClampNeg (st (l + 1)).toNatClampNeg else match evE K S (st l).toNatClampNeg (mi l).toNatClampNeg with
    | none => ordL K S st mi n (l + 1)
    | some v => if v = 0 then ordL K S st mi n (l + 1) else ordW K S (mi l).toNatClampNeg (st (l + 1)).toNatClampNeg
theorem ordW_in (K S : Nat → Int32) (b c : Nat) : in30 (ordW K S b c) := by
  unfold ordW
  split
  · unfold in30; decide
  · exact clamp_in _
theorem ordL_in (K S st mi : Nat → Int32) : ∀ n l, in30 (ordL K S st mi n l) := by
  intro n
  induction n with
  | zero => intro l; unfold ordL in30; decide
  | succ n ih =>
    intro l
    rw [ordL]
    by_cases h : mi l = st l
    · rw [if_pos h]; exact ordW_in _ _ _ _
    · rw [if_neg h]
      cases evE K S (st l).toNatClampNeg (mi l).toNatClampNeg with
      | none => exact ih _
      | some v =>
        by_cases g : v = 0
        · simp only [g]; exact ih _
        · simp only [if_neg g]; exact ordW_in _ _ _ _
/-- wheel lines of class and reference -/
def whRel (wr : Int32) (K st mi ks kv wf wt ot : Nat → Int32) (l : Nat) : Prop := wf l = st l ∧ wt l = mi l ∧ ot l = st (l + 1) ∧ 0 ≤ (st l).toInt ∧ (st l).toInt ≤ (mi l).toInt ∧ (mi l).toInt ≤ (st (l + 1)).toInt ∧ (st (l + 1)).toInt ≤ wr.toInt ∧ ((st l).toInt < (mi l).toInt → segOk K (st l).toNatClampNeg (mi l).toNatClampNeg) ∧ segOk K (mi l).toNatClampNeg (st (l + 1)).toNatClampNeg
theorem cls_ordL (fu : Nat) (hfu : 100 ≤ fu) (wl wr : Int32) (K st mi ks kv wf wt ot S : Nat → Int32) (hS : stOk S) (W : Nat) (hW : W ≤ 12) (hwl : wl.toInt = W) (hwr0 : 0 ≤ wr.toInt) (hk : knRel K ks kv wr.toInt.toNat) (hl : ∀ l, l < W → whRel wr K st mi ks kv wf wt ot l) : ∀ (n l f : Nat) (x : Int32) (vals : Nat → Int64), x.toInt = l → l + n = W → n < f → ∃ vals', FX6_orderIn_L fu wl wr K st mi (S 0) (S 1) (S 2) (S 3) (S 4) (S 5) f x vals = some (ordL K S st mi n l, vals') := by
  have q1 := t_1
  intro n
  induction n with
  | zero =>
    intro l f x vals hx hn hf
    obtain ⟨f, rfl⟩ : ∃ g, f = g + 1 := ⟨f - 1, by omega⟩
    rw [FX6_orderIn_L, if_pos (by rw [i_le]; omega)]
    exact ⟨_, rfl⟩
  | succ n ih =>
    intro l f x vals hx hn hf
    obtain ⟨f, rfl⟩ : ∃ g, f = g + 1 := ⟨f - 1, by omega⟩
    obtain ⟨r1, r2, r3, r4, r5, r6, r7, r8, r9⟩ := hl l (by omega)
    have hnx : x.toNatClampNeg = l := by have := i_nat (a := x) (by omega); omega
    have hi1 : pz_inb x 12 = true := i_inb.mpr (by omega)
    have hi2 : pz_inb x 13 = true := i_inb.mpr (by omega)
    have hsx := i_add x 1 (by omega) (by omega)
    have hi3 : pz_inb (x + 1) 13 = true := i_inb.mpr (by omega)
    have hnx1 : (x + 1).toNatClampNeg = l + 1 := by have := i_nat (a := x + 1) (by omega); omega
    rw [FX6_orderIn_L, if_neg (show ¬ wl ≤ x by rw [i_le]; omega), if_pos hi1, if_pos hi2]
    have ih' := fun vals => ih (l + 1) f (x + 1) vals (by omega) (by omega) (by omega)
    generalize x + 1 = x' at *
    rw [hnx, ordL]
    have a1 := i_nat (a := st l) r4
    have a2 := i_nat (a := mi l) (by omega)
    have a3 := i_nat (a := st (l + 1)) (by omega)
    have fin : ∀ vals, ∃ vals', ((FX2_workOut fu (mi l) (st (l + 1)) wr K vals (S 0) (S 1) (S 2) (S 3) (S 4) (S 5)).bind (fun y14z => if ¬ (lg_cmp y14z.1 (-9223372036854775808)) = 0 then (some ((fJ9_max_f86c9_r (-30) (fJ9_min_f86c9_r 30 y14z.1)).toInt32, y14z.2)) else (some ((0 : Int32), y14z.2)))) = some (ordW K S (mi l).toNatClampNeg (st (l + 1)).toNatClampNeg, vals') := by
      intro vals
      obtain ⟨vals', e⟩ := cls_E fu hfu (mi l) (st (l + 1)) wr K ks kv S hS _ _ a2.symm a3.symm (by omega) r9 (fun k h => hk k (by omega)) vals
      rw [e, Option.bind_some]
      unfold ordW
      cases hq : evE K S (mi l).toNatClampNeg (st (l + 1)).toNatClampNeg with
      | none =>
        simp only [lg_cmp_eq, Option.getD_none]
        rw [if_neg (show ¬ ¬ True from fun z => z trivial)]
        exact ⟨_, rfl⟩
      | some v =>
        have hv := evE_val hS r9 (fun k h => hk k (by omega)) hq
        have : ¬ v = -9223372036854775808 := by
          intro z
          have := hv.1
          rw [z, l_E] at this
          omega
        simp only [lg_cmp_eq, Option.getD_some]
        rw [if_pos this]
        exact ⟨_, rfl⟩
    by_cases hm : mi l = st l
    · rw [if_neg (show ¬ ¬ mi l = st l from fun z => z hm), if_pos hi3, hnx1, if_pos hm]
      exact fin vals
    · rw [if_pos hm, if_pos hi2, if_neg hm]
      have hlt : (st l).toInt < (mi l).toInt := by
        have : ¬ (mi l).toInt = (st l).toInt := fun z => hm (i_eq.mpr z)
        omega
      obtain ⟨vals', e⟩ := cls_E fu hfu (st l) (mi l) wr K ks kv S hS _ _ a1.symm a2.symm (by omega) (r8 hlt) (fun k h => hk k (by omega)) vals
      rw [e, Option.bind_some]
      cases hq : evE K S (st l).toNatClampNeg (mi l).toNatClampNeg with
      | none =>
        simp only [lg_cmp_eq, Option.getD_none]
        rw [if_neg (by rw [l_eq, l_E, l_0]; omega), if_pos trivial]
        exact ih' _
      | some v =>
        have hv := evE_val hS (r8 hlt) (fun k h => hk k (by omega)) hq
        have hne : ¬ v = -9223372036854775808 := by
          intro z
          have := hv.1
          rw [z, l_E] at this
          omega
        simp only [lg_cmp_eq, Option.getD_some]
        by_cases hz : v = 0
        · rw [if_pos hz, if_pos hz]
          exact ih' _
        · rw [if_neg hz, if_neg hne, if_pos hi3, hnx1, if_neg hz]
          have := fin vals'
          simp only [lg_cmp_eq] at this
          exact this
theorem ref_ordL (fu : Nat) (hfu : 100 ≤ fu) (wl wr : Int32) (K st mi ks kv wf wt ot S : Nat → Int32) (hS : stOk S) (W : Nat) (hW : W ≤ 12) (hwl : wl.toInt = W) (hwr0 : 0 ≤ wr.toInt) (hk : knRel K ks kv wr.toInt.toNat) (hl : ∀ l, l < W → whRel wr K st mi ks kv wf wt ot l) : ∀ (n l f : Nat) (x m : Int32) (w : Nat → Int64), x.toInt = l → l + n = W → n < f → ∃ m' w', FX12_ordered_L fu wl ks kv wf wt ot S f x m w = some (ordL K S st mi n l, m', w') := by
  have q1 := t_1
  intro n
  induction n with
  | zero =>
    intro l f x m w hx hn hf
    obtain ⟨f, rfl⟩ : ∃ g, f = g + 1 := ⟨f - 1, by omega⟩
    rw [FX12_ordered_L, if_pos (by rw [i_le]; omega)]
    exact ⟨_, _, rfl⟩
  | succ n ih =>
    intro l f x m w hx hn hf
    obtain ⟨f, rfl⟩ : ∃ g, f = g + 1 := ⟨f - 1, by omega⟩
    obtain ⟨r1, r2, r3, r4, r5, r6, r7, r8, r9⟩ := hl l (by omega)
    have hnx : x.toNatClampNeg = l := by have := i_nat (a := x) (by omega); omega
    have hi1 : pz_inb x 24 = true := i_inb.mpr (by omega)
    have hsx := i_add x 1 (by omega) (by omega)
    rw [FX12_ordered_L, if_neg (show ¬ wl ≤ x by rw [i_le]; omega), if_pos hi1, if_pos hi1]
    have ih' := fun m w => ih (l + 1) f (x + 1) m w (by omega) (by omega) (by omega)
    generalize x + 1 = x' at *
    rw [hnx, ordL, r1, r2, r3]
    have a1 := i_nat (a := st l) r4
    have a2 := i_nat (a := mi l) (by omega)
    have a3 := i_nat (a := st (l + 1)) (by omega)
    have fin : ∀ w, ∃ m' w', ((FX12_goes fu (mi l) (st (l + 1)) ks kv S w).bind (fun y7z => if y7z.1 = 0 then (some ((0 : Int32), y7z.2.1, y7z.2.2)) else (some ((fJ9_max_f86c9_r (-30) (fJ9_min_f86c9_r 30 (y7z.2.2 0))).toInt32, y7z.2.1, y7z.2.2)))) = some (ordW K S (mi l).toNatClampNeg (st (l + 1)).toNatClampNeg, m', w') := by
      intro w
      obtain ⟨m', w', e, e'⟩ := ref_E fu hfu (mi l) (st (l + 1)) K ks kv S hS _ _ a2.symm a3.symm r9 (fun k h => hk k (by omega)) w
      rw [e, Option.bind_some]
      unfold ordW
      cases hq : evE K S (mi l).toNatClampNeg (st (l + 1)).toNatClampNeg with
      | none =>
        exact ⟨_, _, rfl⟩
      | some v =>
        simp only [Option.isSome_some, if_true]
        rw [if_neg (show ¬ (1 : Int32) = 0 by decide), e' v hq]
        exact ⟨_, _, rfl⟩
    by_cases hm : mi l = st l
    · rw [if_pos (show mi l ≤ st l by rw [i_le, hm]; omega), if_pos hi1, if_pos hi1, if_pos hm]
      exact fin w
    · have hlt : (st l).toInt < (mi l).toInt := by
        have : ¬ (mi l).toInt = (st l).toInt := fun z => hm (i_eq.mpr z)
        omega
      rw [if_neg (show ¬ mi l ≤ st l by rw [i_le]; omega), if_pos hi1, if_pos hi1, if_neg hm]
      obtain ⟨m', w', e, e'⟩ := ref_E fu hfu (st l) (mi l) K ks kv S hS _ _ a1.symm a2.symm (r8 hlt) (fun k h => hk k (by omega)) w
      rw [e, Option.bind_some]
      cases hq : evE K S (st l).toNatClampNeg (mi l).toNatClampNeg with
      | none =>
        simp only [Option.isSome_none, Bool.false_eq_true, if_false, if_true]
        exact ih' _ _
      | some v =>
        simp only [Option.isSome_some, if_true]
        rw [if_neg (show ¬ (1 : Int32) = 0 by decide), e' v hq]
        simp only [lg_cmp_eq]
        by_cases hz : v = 0
        · rw [if_neg (show ¬ ¬ v = 0 from fun z => z hz), if_pos hz]
          exact ih' _ _
        · rw [if_pos hz, if_pos hi1, if_pos hi1, if_neg hz]
          exact fin w'
