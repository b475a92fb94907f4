-- deps: 100 110 111 112 113 114 115 116 117 118 119 120 121 130 131 132 133 134 135 136 137 138 139 140 141 142 143 144 145 146 200 201 202 203 204 205 206 207 208 209 210
/-! ===== hunt: the reference's way ===== -/
theorem mul8 (p x : Int32) (a i : Nat) (hp : p.toInt = a) (hx : x.toInt = i) (ha : a ≤ 100000) (hi : i ≤ 100) : ((8 * p) + x).toInt = 8 * a + i ∧ ((8 * p) + x).toNatClampNeg = 8 * a + i := by
  have q8 : (8 : Int32).toInt = 8 := rfl
  have m1 := i_mul 8 p (by rw [q8]; omega) (by rw [q8]; omega)
  rw [q8] at m1
  generalize 8 * p = y at *
  have m2 := i_add y x (by omega) (by omega)
  generalize y + x = z at *
  have := i_nat (a := z) (by omega)
  omega
theorem ref_keepsL (fu : Nat) (p1 : Int32) (a : Nat) (hp : p1.toInt = a) (ha : a ≤ 1500) (now : Nat → Int32) : ∀ (n j f : Nat) (x : Int32) (states : Nat → Int32), j + n = 8 → x.toInt = j → n < f → ∃ states', FX12_keeps_L fu p1 now f x states = some states' ∧ ∀ q, states' q = if 8 * a + j ≤ q ∧ q < 8 * a + 8 then now (q - 8 * a) else states q := by
  have q1 := t_1
  have q8 : (8 : Int32).toInt = 8 := rfl
  intro n
  induction n with
  | zero =>
    intro j f x states hj hx hf
    obtain ⟨f, rfl⟩ : ∃ g, f = g + 1 := ⟨f - 1, by omega⟩
    rw [FX12_keeps_L, if_pos (by rw [i_le]; omega)]
    refine ⟨states, rfl, fun q => ?_⟩
    rw [if_neg (by omega)]
  | succ n ih =>
    intro j f x states hj hx hf
    obtain ⟨f, rfl⟩ : ∃ g, f = g + 1 := ⟨f - 1, by omega⟩
    have hi1 : pz_inb x 8 = true := i_inb.mpr (by omega)
    obtain ⟨m1, m2⟩ := mul8 p1 x a j hp hx (by omega) (by omega)
    have hn : x.toNatClampNeg = j := by have := i_nat (a := x) (by omega); omega
    rw [FX12_keeps_L, if_neg (by rw [i_le]; omega), if_pos hi1]
    generalize 8 * p1 + x = z at *
    have hi2 : pz_inb z 12008 = true := i_inb.mpr (by omega)
    rw [if_pos hi2, m2, hn]
    have hs := i_add x 1 (by omega) (by omega)
    generalize x + 1 = x' at *
    obtain ⟨states', e1, e2⟩ := ih (j + 1) f x' (upd states (8 * a + j) (now j)) (by omega) (by omega) (by omega)
    refine ⟨states', e1, fun q => ?_⟩
    rw [e2 q]
    unfold upd
    by_cases g1 : 8 * a + (j + 1) ≤ q ∧ q < 8 * a + 8
    · rw [if_pos g1, if_pos (by omega)]
    · rw [if_neg g1]
      by_cases g2 : q = 8 * a + j
      · rw [if_pos g2, if_pos (by omega), g2]
        congr 1
        omega
      · rw [if_neg g2, if_neg (by omega)]
theorem ref_keeps {fu : Nat} (hfu : 100 ≤ fu) (p1 : Int32) (a : Nat) (hp : p1.toInt = a) (ha : a ≤ 1500) (now states : Nat → Int32) : ∃ states', FX12_keeps fu p1 now states = some states' ∧ ∀ q, states' q = if 8 * a ≤ q ∧ q < 8 * a + 8 then now (q - 8 * a) else states q := by
  unfold FX12_keeps
  exact ref_keepsL fu p1 a hp ha now 8 0 fu 0 states (by omega) rfl (by omega)
theorem ref_likeL (fu : Nat) (p1 p2 : Int32) (a b : Nat) (h1 : p1.toInt = a) (h2 : p2.toInt = b) (ha : a ≤ 1500) (hb : b ≤ 1500) (states : Nat → Int32) : ∀ (n j f : Nat) (x : Int32), j + n = 8 → x.toInt = j → n < f → ((∀ i, j ≤ i → i < 8 → states (8 * a + i) = states (8 * b + i)) → FX12_isLike_L fu p1 p2 states f x = some 1) ∧ (¬ (∀ i, j ≤ i → i < 8 → states (8 * a + i) = states (8 * b + i)) → FX12_isLike_L fu p1 p2 states f x = some 0) := by
  have q1 := t_1
  have q8 : (8 : Int32).toInt = 8 := rfl
  intro n
  induction n with
  | zero =>
    intro j f x hj hx hf
    obtain ⟨f, rfl⟩ : ∃ g, f = g + 1 := ⟨f - 1, by omega⟩
    rw [FX12_isLike_L, if_pos (by rw [i_le]; omega)]
    exact ⟨fun _ => rfl, fun z => absurd (fun i h1 h2 => absurd h2 (by omega)) z⟩
  | succ n ih =>
    intro j f x hj hx hf
    obtain ⟨f, rfl⟩ : ∃ g, f = g + 1 := ⟨f - 1, by omega⟩
    obtain ⟨m1, m2⟩ := mul8 p1 x a j h1 hx (by omega) (by omega)
    obtain ⟨m3, m4⟩ := mul8 p2 x b j h2 hx (by omega) (by omega)
    rw [FX12_isLike_L, if_neg (by rw [i_le]; omega)]
    generalize 8 * p1 + x = z at *
    generalize 8 * p2 + x = y at *
    have hi2 : pz_inb z 12008 = true := i_inb.mpr (by omega)
    have hi3 : pz_inb y 12008 = true := i_inb.mpr (by omega)
    rw [if_pos hi2, if_pos hi3, m2, m4]
    have hs := i_add x 1 (by omega) (by omega)
    generalize x + 1 = x' at *
    obtain ⟨i1, i2⟩ := ih (j + 1) f x' (by omega) (by omega) (by omega)
    by_cases g : states (8 * a + j) = states (8 * b + j)
    · rw [if_pos g]
      refine ⟨fun h => i1 (fun i g1 g2 => h i (by omega) g2), fun h => i2 (fun h' => h (fun i g1 g2 => ?_))⟩
      by_cases e : i = j
      · rw [e]; exact g
      · exact h' i (by omega) g2
    · rw [if_neg g]
      exact ⟨fun h => absurd (h j (by omega) (by omega)) g, fun _ => rfl⟩
theorem ref_like {fu : Nat} (hfu : 100 ≤ fu) (p1 p2 : Int32) (a b : Nat) (h1 : p1.toInt = a) (h2 : p2.toInt = b) (ha : a ≤ 1500) (hb : b ≤ 1500) (states : Nat → Int32) : ((∀ i, i < 8 → states (8 * a + i) = states (8 * b + i)) → FX12_isLike fu p1 p2 states = some 1) ∧ (¬ (∀ i, i < 8 → states (8 * a + i) = states (8 * b + i)) → FX12_isLike fu p1 p2 states = some 0) := by
  obtain ⟨e1, e2⟩ := ref_likeL fu p1 p2 a b h1 h2 ha hb states 8 0 fu 0 (by omega) rfl (by omega)
  unfold FX12_isLike
  exact ⟨fun h => e1 (fun i _ g => h i g), fun h => e2 (fun h' => h (fun i g => h' i (by omega) g))⟩
section
variable {fu : Nat} {wl wr : Int32} {pa sh K st mi ks kv wf wt ot : Nat → Int32} {W : Nat}
/-- the array holds the first J states -/
def stHold (pa sh K st mi : Nat → Int32) (W : Nat) (S0 : Nat → Int32) (J : Nat) (states : Nat → Int32) : Prop := ∀ a, a < J → ∀ i, i < 8 → states (8 * a + i) = stN pa sh K st mi W S0 a i
theorem like_sq (hs : setOk pa sh) {S0 : Nat → Int32} (hS0 : stOk S0) {J : Nat} {states : Nat → Int32} (h : stHold pa sh K st mi W S0 J states) {a b : Nat} (ha : a < J) (hb : b < J) : (∀ i, i < 8 → states (8 * a + i) = states (8 * b + i)) ↔ sq pa sh K st mi W S0 a = sq pa sh K st mi W S0 b := by
  constructor
  · intro e
    have e' : ∀ i, i < 8 → stN pa sh K st mi W S0 a i = stN pa sh K st mi W S0 b i := fun i hi => by rw [← h a ha i hi, ← h b hb i hi]; exact e i hi
    unfold sq pkS
    rw [e' 0 (by omega), e' 1 (by omega), e' 2 (by omega), e' 3 (by omega), e' 4 (by omega), e' 5 (by omega), e' 6 (by omega), e' 7 (by omega)]
  · intro e i hi
    obtain ⟨e0, e1, e2, e3, e4, e5, e6, e7⟩ := pk_inj (stN_ok hs a hS0) (stN_ok hs b hS0) e
    rw [h a ha i hi, h b hb i hi]
    have : i = 0 ∨ i = 1 ∨ i = 2 ∨ i = 3 ∨ i = 4 ∨ i = 5 ∨ i = 6 ∨ i = 7 := by omega
    rcases this with rfl | rfl | rfl | rfl | rfl | rfl | rfl | rfl <;> assumption
theorem ref_in_none (hfu : 100 ≤ fu) (hs : setOk pa sh) {S0 : Nat → Int32} (hS0 : stOk S0) (step : Nat) (hstep : step ≤ 1500) (x : Int32) (hx : x.toInt = step) (m pd : Int32) (now : Nat → Int32) (w : Nat → Int64) (states : Nat → Int32) (hh : stHold pa sh K st mi W S0 (step + 1) states) : ∀ (n k f : Nat) (y : Int32), k + n = step → y.toInt = k → (∀ i, k ≤ i → i < step → ¬ sq pa sh K st mi W S0 i = sq pa sh K st mi W S0 step) → FX12_hunts_L fu wl ks kv wf wt ot pa sh (f + n + 1) 1 x y m (-1) pd now w states = FX12_hunts_L fu wl ks kv wf wt ot pa sh f 0 (x + 1) 0 m (-1) pd now w states := by
  have q1 := t_1
  intro n
  induction n with
  | zero =>
    intro k f y hk hy hn
    rw [FX12_hunts_L, if_neg (show ¬ (1 : Nat) = 0 by omega), if_pos rfl, if_pos (by rw [i_le]; omega)]
  | succ n ih =>
    intro k f y hk hy hn
    have hl := (ref_like hfu y x k step hy hx (by omega) hstep states).2 (fun e => hn k (by omega) (by omega) ((like_sq hs hS0 hh (by omega) (by omega)).mp e))
    rw [show f + (n + 1) + 1 = (f + n + 1) + 1 by omega, FX12_hunts_L, if_neg (show ¬ (1 : Nat) = 0 by omega), if_pos rfl, if_neg (by rw [i_le]; omega), if_neg (show ¬ ¬ (-1 : Int32) = -1 from fun z => z rfl), hl, Option.bind_some, if_neg (show ¬ ¬ (0 : Int32) = 0 from fun z => z rfl)]
    have hs' := i_add y 1 (by omega) (by omega)
    generalize y + 1 = y' at *
    exact ih (k + 1) f y' (by omega) (by omega) (fun i h1 h2 => hn i (by omega) h2)
theorem ref_in_found (hfu : 100 ≤ fu) (hs : setOk pa sh) {S0 : Nat → Int32} (hS0 : stOk S0) (step kk : Nat) (hkk : kk < step) (hstep : step ≤ 1500) (x : Int32) (hx : x.toInt = step) (m pd : Int32) (now : Nat → Int32) (w : Nat → Int64) (states : Nat → Int32) (hh : stHold pa sh K st mi W S0 (step + 1) states) (heq : sq pa sh K st mi W S0 kk = sq pa sh K st mi W S0 step) (hne : ∀ i, i < kk → ¬ sq pa sh K st mi W S0 i = sq pa sh K st mi W S0 step) : ∀ (n k f : Nat) (y : Int32), k + n = kk → y.toInt = k → ∃ r pd' : Int32, r.toInt = kk ∧ pd'.toInt = step - kk ∧ FX12_hunts_L fu wl ks kv wf wt ot pa sh (f + n + 2) 1 x y m (-1) pd now w states = FX12_hunts_L fu wl ks kv wf wt ot pa sh f 0 (x + 1) 0 m r pd' now w states := by
  have q1 := t_1
  have qm := t_m1
  intro n
  induction n with
  | zero =>
    intro k f y hk hy
    have hk' : k = kk := by omega
    subst hk'
    have hl := (ref_like hfu y x k step hy hx (by omega) hstep states).1 ((like_sq hs hS0 hh (by omega) (by omega)).mpr heq)
    have hpd := i_sub x y (by omega) (by omega)
    refine ⟨y, x - y, hy, by omega, ?_⟩
    rw [show f + 0 + 2 = (f + 1) + 1 by omega, FX12_hunts_L, if_neg (show ¬ (1 : Nat) = 0 by omega), if_pos rfl, if_neg (by rw [i_le]; omega), if_neg (show ¬ ¬ (-1 : Int32) = -1 from fun z => z rfl), hl, Option.bind_some, if_pos (show ¬ (1 : Int32) = 0 by decide)]
    have hne1 : ¬ y = -1 := by rw [i_eq]; omega
    rw [FX12_hunts_L, if_neg (show ¬ (1 : Nat) = 0 by omega), if_pos rfl, if_pos hne1]
    by_cases g : x ≤ y + 1
    · rw [if_pos g]
    · rw [if_neg g]
  | succ n ih =>
    intro k f y hk hy
    have hl := (ref_like hfu y x k step hy hx (by omega) hstep states).2 (fun e => hne k (by omega) ((like_sq hs hS0 hh (by omega) (by omega)).mp e))
    rw [show f + (n + 1) + 2 = (f + n + 2) + 1 by omega, FX12_hunts_L, if_neg (show ¬ (1 : Nat) = 0 by omega), if_pos rfl, if_neg (by rw [i_le]; omega), if_neg (show ¬ ¬ (-1 : Int32) = -1 from fun z => z rfl), hl, Option.bind_some, if_neg (show ¬ ¬ (0 : Int32) = 0 from fun z => z rfl)]
    have hs' := i_add y 1 (by omega) (by omega)
    generalize y + 1 = y' at *
    exact ih (k + 1) f y' (by omega) (by omega)
theorem ref_out (hfu : 100 ≤ fu) (hs : setOk pa sh) (h : whAll wl wr K st mi ks kv wf wt ot W) {S0 : Nat → Int32} (hS0 : stOk S0) (j : Nat) (hj : j + 1 ≤ 1500) (x : Int32) (hx : x.toInt = ((j + 1 : Nat) : Int)) (z m pd : Int32) (w : Nat → Int64) (states : Nat → Int32) (hh : stHold pa sh K st mi W S0 (j + 1) states) (f : Nat) : ∃ (m' : Int32) (w' : Nat → Int64) (states' : Nat → Int32), stHold pa sh K st mi W S0 (j + 2) states' ∧ FX12_hunts_L fu wl ks kv wf wt ot pa sh (f + 1) 0 x z m (-1) pd (stN pa sh K st mi W S0 j) w states = FX12_hunts_L fu wl ks kv wf wt ot pa sh f 1 x 0 m' (-1) pd (stN pa sh K st mi W S0 (j + 1)) w' states' := by
  have t15 : (1500 : Int32).toInt = 1500 := rfl
  have hSj := stN_ok (K := K) (st := st) (mi := mi) (W := W) hs j hS0
  obtain ⟨m', w', e⟩ := ref_order hfu hSj h m w
  obtain ⟨states', e1, e2⟩ := ref_keeps hfu x (j + 1) hx hj (stN pa sh K st mi W S0 (j + 1)) states
  refine ⟨m', w', states', fun a ha i hi => ?_, ?_⟩
  · rw [e2]
    by_cases g : a = j + 1
    · subst g
      rw [if_pos (by omega)]
      congr 1
      omega
    · rw [if_neg (by omega)]
      exact hh a (by omega) i hi
  · rw [FX12_hunts_L, if_pos rfl, if_neg (by rw [i_lt]; omega), if_neg (show ¬ ¬ (-1 : Int32) = -1 from fun z => z rfl), e, Option.bind_some, ref_steps fu _ pa sh _ hs (ordL_in K _ st mi W 0) hSj, Option.bind_some]
    have e3 : st_step (ordL K (stN pa sh K st mi W S0 j) st mi W 0) pa sh (stN pa sh K st mi W S0 j) = stN pa sh K st mi W S0 (j + 1) := (stN_succ S0 j).symm
    rw [e3, e1, Option.bind_some]
theorem ref_hunts_found (hfu : 100 ≤ fu) (hs : setOk pa sh) (h : whAll wl wr K st mi ks kv wf wt ot W) {S0 : Nat → Int32} (hS0 : stOk S0) (step kk : Nat) (hkk : kk < step) (hstep : step ≤ 1500) (heq : sq pa sh K st mi W S0 kk = sq pa sh K st mi W S0 step) (hd : ∀ i j, i < step → j < step → sq pa sh K st mi W S0 i = sq pa sh K st mi W S0 j → i = j) : ∀ (n j f : Nat) (x z m pd : Int32) (w : Nat → Int64) (states : Nat → Int32), j + 1 + n = step → x.toInt = ((j + 1 : Nat) : Int) → 1600 * n + 1600 ≤ f → stHold pa sh K st mi W S0 (j + 1) states →
    ∃ (r pd' m' : Int32) (now' : Nat → Int32) (w' : Nat → Int64) (states' : Nat → Int32), r.toInt = kk ∧ pd'.toInt = step - kk ∧ stHold pa sh K st mi W S0 (step + 1) states' ∧ FX12_hunts_L fu wl ks kv wf wt ot pa sh f 0 x z m (-1) pd (stN pa sh K st mi W S0 j) w states = some (m', r, pd', now', w', states') := by
  have q1 := t_1
  have qm := t_m1
  intro n
  induction n with
  | zero =>
    intro j f x z m pd w states hj hx hf hh
    obtain ⟨f, rfl⟩ : ∃ g, f = g + 1 := ⟨f - 1, by omega⟩
    obtain ⟨m', w', states', a1, a2⟩ := ref_out hfu hs h hS0 j (by omega) x hx z m pd w states hh f
    have hst : j + 1 = step := by omega
    subst hst
    obtain ⟨g, hg⟩ : ∃ g, f = g + 1 + kk + 2 := ⟨f - kk - 3, by omega⟩
    obtain ⟨r, pd', b1, b2, b3⟩ := ref_in_found (wl := wl) (ks := ks) (kv := kv) (wf := wf) (wt := wt) (ot := ot) hfu hs hS0 (j + 1) kk hkk hstep x hx m' pd (stN pa sh K st mi W S0 (j + 1)) w' states' a1 heq (fun i hi e => absurd (hd i kk (by omega) (by omega) (e.trans heq.symm)) (by omega)) kk 0 (g + 1) 0 (by omega) rfl
    refine ⟨r, pd', m', stN pa sh K st mi W S0 (j + 1), w', states', b1, b2, a1, ?_⟩
    rw [a2, hg, b3, FX12_hunts_L, if_pos rfl]
    have hne1 : ¬ r = -1 := by rw [i_eq]; omega
    by_cases g : 1500 < x + 1
    · rw [if_pos g]
    · rw [if_neg g, if_pos hne1]
  | succ n ih =>
    intro j f x z m pd w states hj hx hf hh
    obtain ⟨f, rfl⟩ : ∃ g, f = g + 1 := ⟨f - 1, by omega⟩
    obtain ⟨m', w', states', a1, a2⟩ := ref_out hfu hs h hS0 j (by omega) x hx z m pd w states hh f
    obtain ⟨g, hg⟩ : ∃ g, f = g + (j + 1) + 1 := ⟨f - j - 2, by omega⟩
    have b := ref_in_none (wl := wl) (ks := ks) (kv := kv) (wf := wf) (wt := wt) (ot := ot) hfu hs hS0 (j + 1) (by omega) x hx m' pd (stN pa sh K st mi W S0 (j + 1)) w' states' a1 (j + 1) 0 g 0 (by omega) rfl (fun i h1 h2 e => absurd (hd i (j + 1) (by omega) (by omega) e) (by omega))
    have hsx := i_add x 1 (by omega) (by omega)
    generalize x + 1 = x1 at *
    obtain ⟨r, pd', m'', now'', w'', states'', c1, c2, c3, c4⟩ := ih (j + 1) g x1 0 m' pd w' states' (by omega) (by omega) (by omega) a1
    refine ⟨r, pd', m'', now'', w'', states'', c1, c2, c3, ?_⟩
    rw [a2, hg, b]
    exact c4
theorem ref_hunts_lost (hfu : 100 ≤ fu) (hs : setOk pa sh) (h : whAll wl wr K st mi ks kv wf wt ot W) {S0 : Nat → Int32} (hS0 : stOk S0) (hd : ∀ i j, i < 1501 → j < 1501 → sq pa sh K st mi W S0 i = sq pa sh K st mi W S0 j → i = j) : ∀ (n j f : Nat) (x z m : Int32) (w : Nat → Int64) (states : Nat → Int32), j + n = 1500 → x.toInt = ((j + 1 : Nat) : Int) → 1600 * n + 1600 ≤ f → stHold pa sh K st mi W S0 (j + 1) states →
    ∃ (m' : Int32) (now' : Nat → Int32) (w' : Nat → Int64) (states' : Nat → Int32), stHold pa sh K st mi W S0 1501 states' ∧ FX12_hunts_L fu wl ks kv wf wt ot pa sh f 0 x z m (-1) (-1) (stN pa sh K st mi W S0 j) w states = some (m', -1, -1, now', w', states') := by
  have q1 := t_1
  have t15 : (1500 : Int32).toInt = 1500 := rfl
  intro n
  induction n with
  | zero =>
    intro j f x z m w states hj hx hf hh
    obtain ⟨f, rfl⟩ : ∃ g, f = g + 1 := ⟨f - 1, by omega⟩
    have : j = 1500 := by omega
    subst this
    refine ⟨m, stN pa sh K st mi W S0 1500, w, states, hh, ?_⟩
    rw [FX12_hunts_L, if_pos rfl, if_pos (by rw [i_lt]; omega)]
  | succ n ih =>
    intro j f x z m w states hj hx hf hh
    obtain ⟨f, rfl⟩ : ∃ g, f = g + 1 := ⟨f - 1, by omega⟩
    obtain ⟨m', w', states', a1, a2⟩ := ref_out hfu hs h hS0 j (by omega) x hx z m (-1) w states hh f
    obtain ⟨g, hg⟩ : ∃ g, f = g + (j + 1) + 1 := ⟨f - j - 2, by omega⟩
    have b := ref_in_none (wl := wl) (ks := ks) (kv := kv) (wf := wf) (wt := wt) (ot := ot) hfu hs hS0 (j + 1) (by omega) x hx m' (-1) (stN pa sh K st mi W S0 (j + 1)) w' states' a1 (j + 1) 0 g 0 (by omega) rfl (fun i h1 h2 e => absurd (hd i (j + 1) (by omega) (by omega) e) (by omega))
    have hsx := i_add x 1 (by omega) (by omega)
    generalize x + 1 = x1 at *
    obtain ⟨m'', now'', w'', states'', c3, c4⟩ := ih (j + 1) g x1 0 m' w' states' (by omega) (by omega) (by omega) a1
    refine ⟨m'', now'', w'', states'', c3, ?_⟩
    rw [a2, hg, b]
    exact c4
theorem isMin_one (off : Nat → Int32) (a : Nat) : isMin off a a (off a) := by
  refine ⟨⟨a, by omega, by omega, rfl⟩, fun i h1 h2 => ?_⟩
  have : i = a := by omega
  rw [this]
  exact Int.le_refl _
theorem isMax_one (off : Nat → Int32) (a : Nat) : isMax off a a (off a) := by
  refine ⟨⟨a, by omega, by omega, rfl⟩, fun i h1 h2 => ?_⟩
  have : i = a := by omega
  rw [this]
  exact Int.le_refl _
/-- the swing of the reference -/
theorem ref_swingL (fu : Nat) (p2 x4 : Int32) (a b : Nat) (hx4 : x4.toInt = b) (hb : b ≤ 1500) {S0 : Nat → Int32} (hs : setOk pa sh) (hS0 : stOk S0) {J : Nat} (hJ : b < J) (th m fi pe : Int32) (now : Nat → Int32) (w : Nat → Int64) (states : Nat → Int32) (hh : stHold pa sh K st mi W S0 J states) : ∀ (n j f : Nat) (lo hi x : Int32), j + n = b + 1 → a ≤ j → x.toInt = j → n < f → (j = a → lo = 1800 ∧ hi = -1800) → (a < j → isMin (offs pa sh K st mi W S0) a (j - 1) lo ∧ isMax (offs pa sh K st mi W S0) a (j - 1) hi) → a ≤ b →
    ∃ lo' hi', isMin (offs pa sh K st mi W S0) a b lo' ∧ isMax (offs pa sh K st mi W S0) a b hi' ∧ ∃ f' x', x4 < x' ∧ FX12_hunt_L fu p2 f x4 lo hi x th m fi pe now w states = FX12_hunt_L fu p2 (f' + 1) x4 lo' hi' x' th m fi pe now w states := by
  have q1 := t_1
  have q8 : (8 : Int32).toInt = 8 := rfl
  have q4 : (4 : Int32).toInt = (4 : Nat) := rfl
  intro n
  induction n with
  | zero =>
    intro j f lo hi x hj ha hx hf h1 h2 hab
    obtain ⟨f, rfl⟩ : ∃ g, f = g + 1 := ⟨f - 1, by omega⟩
    obtain ⟨h3, h4⟩ := h2 (by omega)
    have : j - 1 = b := by omega
    rw [this] at h3 h4
    exact ⟨lo, hi, h3, h4, f, x, by rw [i_lt]; omega, rfl⟩
  | succ n ih =>
    intro j f lo hi x hj ha hx hf h1 h2 hab
    obtain ⟨f, rfl⟩ : ∃ g, f = g + 1 := ⟨f - 1, by omega⟩
    obtain ⟨m1, m2⟩ := mul8 x 4 j 4 hx q4 (by omega) (by omega)
    rw [FX12_hunt_L, if_neg (by rw [i_lt]; omega)]
    generalize 8 * x + 4 = z at *
    have hi2 : pz_inb z 12008 = true := i_inb.mpr (by omega)
    rw [if_pos hi2, if_pos hi2, m2, hh j (by omega) 4 (by omega)]
    have hs' := i_add x 1 (by omega) (by omega)
    generalize x + 1 = x' at *
    have hoff : isOffP (offs pa sh K st mi W S0 j) := (stN_ok hs j hS0).2.2.2.2.1
    have e18 : (1800 : Int32).toInt = 1800 := rfl
    have em18 : (-1800 : Int32).toInt = -1800 := rfl
    refine ih (j + 1) f _ _ x' (by omega) (by omega) (by omega) (by omega) (fun z => absurd z (by omega)) (fun _ => ?_) hab
    by_cases g : j = a
    · obtain ⟨g1, g2⟩ := h1 g
      have k1 : fJ9_min_7cf53_r lo (stN pa sh K st mi W S0 j 4) = offs pa sh K st mi W S0 j := by
        unfold fJ9_min_7cf53_r
        rw [if_pos]
        · rfl
        · rw [i_lt, g1, e18]; have := hoff.2; unfold offs at this; omega
      have k2 : fJ9_max_7cf53_r hi (stN pa sh K st mi W S0 j 4) = offs pa sh K st mi W S0 j := by
        unfold fJ9_max_7cf53_r
        by_cases q : hi < stN pa sh K st mi W S0 j 4
        · rw [if_pos q]; rfl
        · rw [if_neg q]
          rw [i_lt] at q
          rw [i_eq]
          have := hoff.1
          unfold offs at *
          rw [g2, em18] at q ⊢
          omega
      rw [k1, k2]
      have : j + 1 - 1 = j := by omega
      rw [this, g]
      exact ⟨isMin_one _ a, isMax_one _ a⟩
    · obtain ⟨h3, h4⟩ := h2 (by omega)
      have e : j + 1 - 1 = (j - 1) + 1 := by omega
      have e5 : stN pa sh K st mi W S0 j 4 = offs pa sh K st mi W S0 ((j - 1) + 1) := by
        rw [show (j - 1) + 1 = j by omega]
        rfl
      rw [e, e5]
      exact ⟨min_step h3 (by omega), max_step h4 (by omega)⟩
theorem min_uni {off : Nat → Int32} {a b c : Nat} (hab : a < b) (hoff : off b = off a) {m m' : Int32} (h : isMin off a b m) (h' : isMin off a c m') (hc : b = c + 1) : m = m' := by
  obtain ⟨⟨i, h1, h2, h3⟩, h4⟩ := h
  obtain ⟨⟨i', g1, g2, g3⟩, g4⟩ := h'
  rw [i_eq]
  have k1 := h4 i' g1 (by omega)
  rw [← g3] at k1
  by_cases e : i = b
  · have k2 := g4 a (by omega) (by omega)
    rw [← hoff, ← e, ← h3] at k2
    omega
  · have k2 := g4 i h1 (by omega)
    rw [← h3] at k2
    omega
theorem max_uni {off : Nat → Int32} {a b c : Nat} (hab : a < b) (hoff : off b = off a) {m m' : Int32} (h : isMax off a b m) (h' : isMax off a c m') (hc : b = c + 1) : m = m' := by
  obtain ⟨⟨i, h1, h2, h3⟩, h4⟩ := h
  obtain ⟨⟨i', g1, g2, g3⟩, g4⟩ := h'
  rw [i_eq]
  have k1 := h4 i' g1 (by omega)
  rw [← g3] at k1
  by_cases e : i = b
  · have k2 := g4 a (by omega) (by omega)
    rw [← hoff, ← e, ← h3] at k2
    omega
  · have k2 := g4 i h1 (by omega)
    rw [← h3] at k2
    omega
theorem min_uni0 {off : Nat → Int32} {a b : Nat} {m m' : Int32} (h : isMin off a b m) (h' : isMin off a b m') : m = m' := by
  obtain ⟨⟨i, h1, h2, h3⟩, h4⟩ := h
  obtain ⟨⟨i', g1, g2, g3⟩, g4⟩ := h'
  rw [i_eq]
  have k1 := h4 i' g1 g2
  have k2 := g4 i h1 h2
  rw [← g3] at k1
  rw [← h3] at k2
  omega
theorem max_uni0 {off : Nat → Int32} {a b : Nat} {m m' : Int32} (h : isMax off a b m) (h' : isMax off a b m') : m = m' := by
  obtain ⟨⟨i, h1, h2, h3⟩, h4⟩ := h
  obtain ⟨⟨i', g1, g2, g3⟩, g4⟩ := h'
  rw [i_eq]
  have k1 := h4 i' g1 g2
  have k2 := g4 i h1 h2
  rw [← g3] at k1
  rw [← h3] at k2
  omega
end
