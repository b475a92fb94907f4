/-! ===== the pile of signs that wait ===== -/
def pileR (W : Nat → Int32) : List Int32 → Nat → Prop
  | [], n => n = 0
  | c :: s, n => ∃ k, n = k + 1 ∧ W k = c ∧ pileR W s k
theorem pile_len {W : Nat → Int32} : ∀ (s : List Int32) (n : Nat), pileR W s n → n = s.length := by
  intro s
  induction s with
  | nil => intro n h; exact h
  | cons c s ih =>
    intro n h
    obtain ⟨k, h1, h2, h3⟩ := h
    rw [List.length_cons, ← ih k h3]
    exact h1
theorem pile_upd {W : Nat → Int32} (m : Nat) (x : Int32) : ∀ (s : List Int32) (n : Nat), n ≤ m → pileR W s n → pileR (upd W m x) s n := by
  intro s
  induction s with
  | nil => intro n _ h; exact h
  | cons c s ih =>
    intro n hm h
    obtain ⟨k, h1, h2, h3⟩ := h
    exact ⟨k, h1, by rw [up_ne W x (by omega)]; exact h2, ih k (by omega) h3⟩
theorem pile_push {W : Nat → Int32} {s : List Int32} {n : Nat} (h : pileR W s n) (x : Int32) : pileR (upd W n x) (x :: s) (n + 1) := ⟨n, rfl, up_eq W n x, pile_upd n x s n (Nat.le_refl _) h⟩
/-- the rank of a sign -/
def rk (c : Int32) : Int := (fX2_rank_r c).toInt
theorem rk_cases (c : Int32) : (rk c = 6 ∧ (c = -18 ∨ c = -17)) ∨ (rk c = 5 ∧ (c = -16 ∨ c = -15)) ∨ (rk c = 4 ∧ (c = -14 ∨ c = -13 ∨ c = -12 ∨ c = -11 ∨ c = -10 ∨ c = -9)) ∨ (rk c = 2 ∧ c = -8) ∨ (rk c = 1 ∧ c = -7) ∨ (rk c = 3 ∧ c = -6) ∨ (rk c = 0 ∧ ¬ c = -18 ∧ ¬ c = -17 ∧ ¬ c = -16 ∧ ¬ c = -15 ∧ ¬ c = -14 ∧ ¬ c = -13 ∧ ¬ c = -12 ∧ ¬ c = -11 ∧ ¬ c = -10 ∧ ¬ c = -9 ∧ ¬ c = -8 ∧ ¬ c = -7 ∧ ¬ c = -6) := by
  unfold rk fX2_rank_r
  by_cases h1 : c = -18
  · subst h1; exact Or.inl ⟨rfl, Or.inl rfl⟩
  by_cases h2 : c = -17
  · subst h2; exact Or.inl ⟨rfl, Or.inr rfl⟩
  by_cases h3 : c = -16
  · subst h3; exact Or.inr (Or.inl ⟨rfl, Or.inl rfl⟩)
  by_cases h4 : c = -15
  · subst h4; exact Or.inr (Or.inl ⟨rfl, Or.inr rfl⟩)
  by_cases h5 : c = -14
  · subst h5; exact Or.inr (Or.inr (Or.inl ⟨rfl, by decide⟩))
  by_cases h6 : c = -13
  · subst h6; exact Or.inr (Or.inr (Or.inl ⟨rfl, by decide⟩))
  by_cases h7 : c = -12
  · subst h7; exact Or.inr (Or.inr (Or.inl ⟨rfl, by decide⟩))
  by_cases h8 : c = -11
  · subst h8; exact Or.inr (Or.inr (Or.inl ⟨rfl, by decide⟩))
  by_cases h9 : c = -10
  · subst h9; exact Or.inr (Or.inr (Or.inl ⟨rfl, by decide⟩))
  by_cases h10 : c = -9
  · subst h10; exact Or.inr (Or.inr (Or.inl ⟨rfl, by decide⟩))
  by_cases h11 : c = -8
  · subst h11; exact Or.inr (Or.inr (Or.inr (Or.inl ⟨rfl, rfl⟩)))
  by_cases h12 : c = -7
  · subst h12; exact Or.inr (Or.inr (Or.inr (Or.inr (Or.inl ⟨rfl, rfl⟩))))
  by_cases h13 : c = -6
  · subst h13; exact Or.inr (Or.inr (Or.inr (Or.inr (Or.inr (Or.inl ⟨rfl, rfl⟩)))))
  simp only [if_neg h1, if_neg h2, if_neg h3, if_neg h4, if_neg h5, if_neg h6, if_neg h7, if_neg h8, if_neg h9, if_neg h10, if_neg h11, if_neg h12, if_neg h13]
  exact Or.inr (Or.inr (Or.inr (Or.inr (Or.inr (Or.inr ⟨rfl, h1, h2, h3, h4, h5, h6, h7, h8, h9, h10, h11, h12, h13⟩)))))
theorem rk_rng (c : Int32) : 0 ≤ rk c ∧ rk c ≤ 6 := by
  rcases rk_cases c with ⟨h, -⟩ | ⟨h, -⟩ | ⟨h, -⟩ | ⟨h, -⟩ | ⟨h, -⟩ | ⟨h, -⟩ | ⟨h, -⟩ <;> omega
def topLt (r : Int) : List Int32 → Prop
  | [] => True
  | c :: _ => rk c < r
/-- how many signs wait, how many '(' -/
def nsg : List Int32 → Nat
  | [] => 0
  | c :: s => (if c = -19 then 0 else 1) + nsg s
def nop : List Int32 → Nat
  | [] => 0
  | c :: s => (if c = -19 then 1 else 0) + nop s
theorem nsg_nop : ∀ s : List Int32, nsg s + nop s = s.length := by
  intro s
  induction s with
  | nil => rfl
  | cons c s ih =>
    rw [nsg, nop, List.length_cons]
    by_cases h : c = -19
    · rw [if_pos h, if_pos h]; omega
    · rw [if_neg h, if_neg h]; omega
/-- the knots that the pile will give -/
def outR (Kn : Nat → Int32 → Int32 → Prop) : Nat → List Int32 → Prop
  | _, [] => True
  | w, c :: l => (∀ p, Kn w c p) ∧ outR Kn (w + 1) l
theorem outR_app {Kn : Nat → Int32 → Int32 → Prop} : ∀ (A B : List Int32) (w : Nat), outR Kn w (A ++ B) ↔ outR Kn w A ∧ outR Kn (w + A.length) B := by
  intro A
  induction A with
  | nil => intro B w; exact ⟨fun h => ⟨trivial, h⟩, fun h => h.2⟩
  | cons c A ih =>
    intro B w
    rw [List.cons_append, outR, outR, ih, List.length_cons, show w + (A.length + 1) = w + 1 + A.length by omega]
    exact ⟨fun ⟨a, b, c⟩ => ⟨⟨a, b⟩, c⟩, fun ⟨⟨a, b⟩, c⟩ => ⟨a, b, c⟩⟩
theorem outR_congr {Kn Kn' : Nat → Int32 → Int32 → Prop} : ∀ (A : List Int32) (w : Nat), (∀ i, w ≤ i → i < w + A.length → ∀ c p, Kn i c p → Kn' i c p) → outR Kn w A → outR Kn' w A := by
  intro A
  induction A with
  | nil => intro w _ _; trivial
  | cons c A ih =>
    intro w h hA
    rw [List.length_cons] at h
    exact ⟨fun p => h w (by omega) (by omega) c p (hA.1 p), ih (w + 1) (fun i h1 h2 => h i (by omega) (by omega)) hA.2⟩
/-- what a list of knots does to the pile of values -/
def stepK (c : Int32) (d : Nat) : Option Nat := if -5 ≤ c then some (d + 1) else if c = -6 then (if 1 ≤ d then some d else none) else (if 2 ≤ d then some (d - 1) else none)
def runL : List Int32 → Nat → Option Nat
  | [], d => some d
  | c :: l, d => (stepK c d).bind (runL l)
theorem runL_app : ∀ (A B : List Int32) (d : Nat), runL (A ++ B) d = (runL A d).bind (runL B) := by
  intro A
  induction A with
  | nil => intro B d; rfl
  | cons c A ih =>
    intro B d
    rw [List.cons_append, runL, runL]
    cases stepK c d with
    | none => rfl
    | some e => exact ih B e
theorem run_zero (K : Nat → Int32) (a d : Nat) : run_ok K 0 a d = some d := rfl
theorem run_succ (K : Nat → Int32) (n a d : Nat) : run_ok K (n + 1) a d = (stepK (K a) d).bind (fun e => run_ok K n (a + 1) e) := by
  rw [run_ok]
  unfold stepK
  generalize (-5 : Int32) = m5
  generalize (-6 : Int32) = m6
  by_cases c1 : m5 ≤ K a
  · rw [if_pos c1, if_pos c1, Option.bind_some]
  · rw [if_neg c1, if_neg c1]
    by_cases c2 : K a = m6
    · rw [if_pos c2, if_pos c2]
      by_cases c3 : 1 ≤ d
      · rw [if_pos c3, if_pos c3, Option.bind_some]
      · rw [if_neg c3, if_neg c3, Option.bind_none]
    · rw [if_neg c2, if_neg c2]
      by_cases c3 : 2 ≤ d
      · rw [if_pos c3, if_pos c3, Option.bind_some]
      · rw [if_neg c3, if_neg c3, Option.bind_none]
theorem run_step (K : Nat → Int32) : ∀ (n a d : Nat), run_ok K (n + 1) a d = (run_ok K n a d).bind (stepK (K (a + n))) := by
  intro n
  induction n with
  | zero =>
    intro a d
    rw [run_succ, run_zero, Option.bind_some, Nat.add_zero]
    generalize stepK (K a) d = o
    cases o with
    | none => rw [Option.bind_none]
    | some e => rw [Option.bind_some, run_zero]
  | succ n ih =>
    intro a d
    rw [run_succ K (n + 1) a d, run_succ K n a d]
    generalize stepK (K a) d = o
    cases o with
    | none => rw [Option.bind_none, Option.bind_none, Option.bind_none]
    | some e => rw [Option.bind_some, Option.bind_some, ih (a + 1) e, show a + 1 + n = a + (n + 1) by omega]
theorem run_congr {K K' : Nat → Int32} : ∀ (n a d : Nat), (∀ i, a ≤ i → i < a + n → K i = K' i) → run_ok K n a d = run_ok K' n a d := by
  intro n
  induction n with
  | zero => intro a d _; rfl
  | succ n ih =>
    intro a d h
    rw [run_step, run_step, ih a d (fun i h1 h2 => h i h1 (by omega)), h (a + n) (by omega) (by omega)]
theorem run_split (K : Nat → Int32) : ∀ (m n a d : Nat), run_ok K (n + m) a d = (run_ok K n a d).bind (run_ok K m (a + n)) := by
  intro m
  induction m with
  | zero =>
    intro n a d
    rw [Nat.add_zero]
    generalize run_ok K n a d = o
    cases o with
    | none => rw [Option.bind_none]
    | some e => rw [Option.bind_some, run_zero]
  | succ m ih =>
    intro n a d
    rw [show n + (m + 1) = n + m + 1 by omega, run_step, ih n a d]
    generalize run_ok K n a d = o
    cases o with
    | none => rw [Option.bind_none, Option.bind_none, Option.bind_none]
    | some e => rw [Option.bind_some, Option.bind_some, run_step, show a + (n + m) = a + n + m by omega]
/-- the knots from w0 to ahead of w1 with those that wait in P are one value more -/
def net (K : Nat → Int32) (w0 w1 : Nat) (P : List Int32) : Prop := w0 ≤ w1 ∧ ∀ d, ∃ e, run_ok K (w1 - w0) w0 d = some e ∧ runL P e = some (d + 1)
theorem net_pop {K : Nat → Int32} {w0 w1 : Nat} {c : Int32} {P : List Int32} (h : net K w0 w1 (c :: P)) : net (upd K w1 c) w0 (w1 + 1) P := by
  obtain ⟨h0, h⟩ := h
  refine ⟨by omega, fun d => ?_⟩
  obtain ⟨e, h1, h2⟩ := h d
  rw [show w1 + 1 - w0 = (w1 - w0) + 1 by omega, run_step, show w0 + (w1 - w0) = w1 by omega, up_eq]
  rw [run_congr (K := upd K w1 c) (K' := K) (w1 - w0) w0 d (fun i h1 h2 => up_ne K c (by omega)), h1]
  rw [runL] at h2
  cases hs : stepK c e with
  | none => rw [hs] at h2; cases h2
  | some x =>
    rw [hs] at h2
    exact ⟨x, hs, h2⟩
theorem net_congr {K K' : Nat → Int32} {w0 w1 : Nat} {P : List Int32} (h : net K w0 w1 P) (he : ∀ i, w0 ≤ i → i < w1 → K i = K' i) : net K' w0 w1 P := by
  refine ⟨h.1, fun d => ?_⟩
  obtain ⟨e, h1, h2⟩ := h.2 d
  refine ⟨e, ?_, h2⟩
  rw [← run_congr (w1 - w0) w0 d (fun i a b => he i a (by have := h.1; omega))]
  exact h1
/-- a sign between two operands -/
theorem net_bin {K : Nat → Int32} {w0 w1 w2 : Nat} {P : List Int32} {c : Int32} (h1 : net K w0 w1 []) (h2 : net K w1 w2 P) (hc : rk c = 1 ∨ rk c = 2 ∨ rk c = 4 ∨ rk c = 5 ∨ rk c = 6) : net K w0 w2 (P ++ [c]) := by
  obtain ⟨a0, a⟩ := h1
  obtain ⟨b0, b⟩ := h2
  refine ⟨by omega, fun d => ?_⟩
  obtain ⟨e, a1, a2⟩ := a d
  obtain ⟨x, b1, b2⟩ := b (d + 1)
  have he : e = d + 1 := Option.some.inj a2
  subst he
  refine ⟨x, ?_, ?_⟩
  · rw [show w2 - w0 = (w1 - w0) + (w2 - w1) by omega, run_split, a1, Option.bind_some, show w0 + (w1 - w0) = w1 by omega]
    exact b1
  · rw [runL_app, b2, Option.bind_some]
    have hcl : ¬ -5 ≤ c ∧ ¬ c = -6 := by
      rcases rk_cases c with ⟨h, z⟩ | ⟨h, z⟩ | ⟨h, z⟩ | ⟨h, z⟩ | ⟨h, z⟩ | ⟨h, z⟩ | ⟨h, z⟩
      · rcases z with rfl | rfl <;> decide
      · rcases z with rfl | rfl <;> decide
      · rcases z with rfl | rfl | rfl | rfl | rfl | rfl <;> decide
      · subst z; decide
      · subst z; decide
      · omega
      · omega
    rw [runL]
    unfold stepK
    rw [if_neg hcl.1, if_neg hcl.2, if_pos (by omega)]
    rfl
theorem net_not {K : Nat → Int32} {w0 w2 : Nat} {P : List Int32} (h2 : net K w0 w2 P) : net K w0 w2 (P ++ [-6]) := by
  refine ⟨h2.1, fun d => ?_⟩
  obtain ⟨x, b1, b2⟩ := h2.2 d
  refine ⟨x, b1, ?_⟩
  rw [runL_app, b2, Option.bind_some, runL]
  unfold stepK
  rw [if_neg (show ¬ (-5 : Int32) ≤ -6 by decide), if_pos rfl, if_pos (by omega)]
  rfl
theorem net_one (K : Nat → Int32) (w : Nat) (c : Int32) (hc : -5 ≤ c) : net (upd K w c) w (w + 1) [] := by
  refine ⟨by omega, fun d => ⟨d + 1, ?_, rfl⟩⟩
  rw [show w + 1 - w = 0 + 1 by omega, run_step, Nat.add_zero, up_eq]
  show stepK c d = _
  unfold stepK
  rw [if_pos hc]
/-- the class writes the signs of A, which wait above B -/
theorem pop_L (fu : Nat) {Kn : Nat → Int32 → Int32 → Prop} (r pl : Int32) (W : Nat → Int32) (B : List Int32) (hB : topLt r.toInt B) : ∀ (A : List Int32) (f w : Nat) (wt wr : Int32) (K pls : Nat → Int32), pileR W (A ++ B) wt.toInt.toNat → 0 ≤ wt.toInt → (A ++ B).length ≤ 72 → wr.toInt = w → w + A.length ≤ 64 → (∀ c, c ∈ A → r.toInt ≤ rk c) → A.length < f → (∀ i, i < w → Kn i (K i) (pls i)) → outR Kn w A →
    ∃ (wt' wr' : Int32) (K' pls' : Nat → Int32), FX7_writeWaiting_L fu r pl W f wt wr K pls = some (wt', wr', K', pls') ∧ wt'.toInt = B.length ∧ pileR W B wt'.toInt.toNat ∧ wr'.toInt = ((w + A.length : Nat) : Int) ∧ (∀ i, i < w + A.length → Kn i (K' i) (pls' i)) ∧ (∀ i, i < w → K' i = K i) ∧ (∀ w0, net K w0 w A → net K' w0 (w + A.length) []) := by
  have q0 := t_0
  have q1 := t_1
  have t64 := t_64
  intro A
  induction A with
  | nil =>
    intro f w wt wr K pls hp hwt hl hwr hw hr hf hk ho
    obtain ⟨f, rfl⟩ : ∃ g, f = g + 1 := ⟨f - 1, by omega⟩
    have hp' : pileR W B wt.toInt.toNat := hp
    have hlen := pile_len B _ hp'
    refine ⟨wt, wr, K, pls, ?_, by omega, hp', by rw [List.length_nil]; omega, fun i hi => hk i (by simpa using hi), fun i _ => rfl, fun w0 h => h⟩
    rw [FX7_writeWaiting_L]
    cases B with
    | nil =>
      have hz : wt.toInt.toNat = 0 := hp'
      rw [if_pos (by rw [i_le]; omega)]
    | cons c B =>
      obtain ⟨k, k1, k2, k3⟩ := hp'
      have hl' : (c :: B).length ≤ 72 := hl
      have hs := i_sub wt 1 (by omega) (by omega)
      have hi : pz_inb (wt - 1) 72 = true := i_inb.mpr (by omega)
      have hn : (wt - 1).toNatClampNeg = k := by have := i_nat (a := wt - 1) (by omega); omega
      rw [if_neg (by rw [i_le]; omega), if_pos hi, hn, k2, if_pos (show fX2_rank_r c < r by rw [i_lt]; exact hB)]
  | cons c A ih =>
    intro f w wt wr K pls hp hwt hl hwr hw hr hf hk ho
    obtain ⟨f, rfl⟩ : ∃ g, f = g + 1 := ⟨f - 1, by omega⟩
    rw [List.length_cons] at hw hf
    rw [List.cons_append] at hp hl
    obtain ⟨k, k1, k2, k3⟩ := hp
    rw [List.length_cons] at hl
    have hlen := pile_len _ _ k3
    have hs := i_sub wt 1 (by omega) (by omega)
    have hi : pz_inb (wt - 1) 72 = true := i_inb.mpr (by omega)
    have hn : (wt - 1).toNatClampNeg = k := by have := i_nat (a := wt - 1) (by omega); omega
    have hwi : pz_inb wr 64 = true := i_inb.mpr (by omega)
    have hwn : wr.toNatClampNeg = w := by have := i_nat (a := wr) (by omega); omega
    have hws := i_add wr 1 (by omega) (by omega)
    have hrc := hr c (List.mem_cons_self ..)
    have hwrite : FX2_write fu c pl wr K pls = some (wr + 1, upd K w c, upd pls w pl) := by
      unfold FX2_write
      rw [if_neg (by rw [i_le]; omega), if_pos hwi, if_pos hwi, hwn]
    rw [FX7_writeWaiting_L, if_neg (by rw [i_le]; omega), if_pos hi, hn, k2, if_neg (show ¬ fX2_rank_r c < r by rw [i_lt]; show ¬ rk c < r.toInt; omega), if_pos hi, hwrite, Option.bind_some]
    have hk' : ∀ i, i < w + 1 → Kn i (upd K w c i) (upd pls w pl i) := by
      intro i hi2
      by_cases g : i = w
      · rw [g, up_eq, up_eq]; exact ho.1 pl
      · rw [up_ne K c g, up_ne pls pl g]; exact hk i (by omega)
    obtain ⟨wt', wr', K', pls', e1, e2, e3, e4, e5, e6, e7⟩ := ih f (w + 1) (wt - 1) (wr + 1) (upd K w c) (upd pls w pl) (by rw [show (wt - 1).toInt.toNat = k by omega]; exact k3) (by omega) (by omega) (by omega) (by omega) (fun x hx => hr x (List.mem_cons_of_mem _ hx)) (by omega) hk' ho.2
    refine ⟨wt', wr', K', pls', e1, e2, e3, by rw [List.length_cons]; omega, fun i hi2 => e5 i (by rw [List.length_cons] at hi2; omega), fun i hi2 => ?_, fun w0 h => ?_⟩
    · rw [e6 i (by omega), up_ne K c (by omega)]
    · have := e7 w0 (net_pop h)
      rw [List.length_cons, show w + (A.length + 1) = w + 1 + A.length by omega]
      exact this
