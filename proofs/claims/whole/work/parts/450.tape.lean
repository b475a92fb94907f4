/-! ===== the tape: numbers and signs on it ===== -/
/-- a byte of the class and of the reference -/
def byR (b c : Int32) : Prop := 0 ≤ c.toInt ∧ c.toInt ≤ 255 ∧ ((c.toInt < 128 ∧ b.toInt = c.toInt) ∨ (128 ≤ c.toInt ∧ b.toInt = c.toInt - 256))
def tapeR (bytes tape : Nat → Int32) : Prop := ∀ i, i < 600 → byR (bytes i) (tape i)
def sgR (c r : Int32) : Prop := (c = -9 ∧ r = 60) ∨ (c = -10 ∧ r = 256) ∨ (c = -11 ∧ r = 61) ∨ (c = -12 ∧ r = 257) ∨ (c = -13 ∧ r = 258) ∨ (c = -14 ∧ r = 62) ∨ (c = -15 ∧ r = 43) ∨ (c = -16 ∧ r = 45) ∨ (c = -17 ∧ r = 42) ∨ (c = -18 ∧ r = 47) ∨ (c = -19 ∧ r = 40) ∨ (c = -20 ∧ r = 41) ∨ (c = -21 ∧ r = 59)
def nuR (c r : Int32) : Prop := (c = r ∧ 0 ≤ c.toInt ∧ c.toInt ≤ 9999) ∨ (c = 10000 ∧ 10000 ≤ r.toInt ∧ r.toInt ≤ 99999)
/-- the words of the language as the class has them -/
def wcode (i : Nat) : Int32 := ([308281344, 240175104, 638784512, 620462080, 522190848, 48365568, 486146048, 509804544, 693712896, 780309888, 605454336, 626135218] : List Int32).getD i 0
/-- a token: the class's kind and value, the reference's sort and value -/
def tokR (ck cv rs rv : Int32) : Prop := (ck = 0 ∧ cv = 0 ∧ rs = 4) ∨ (ck = 1 ∧ rs = 0 ∧ ∃ i : Nat, i < 12 ∧ cv = wcode i ∧ rv = Int32.ofNat i) ∨ (ck = 2 ∧ rs = 1 ∧ cv = rv ∧ 0 ≤ cv.toInt) ∨ (ck = 3 ∧ rs = 2 ∧ nuR cv rv) ∨ (ck = 4 ∧ rs = 3 ∧ sgR cv rv) ∨ (ck = 5 ∧ rs = 5)
theorem here_end (fu : Nat) {sz x : Int32} (tape : Nat → Int32) (h : sz.toInt ≤ x.toInt) : FX12_here fu sz x tape = some (-1) := by
  unfold FX12_here
  rw [if_pos (by rw [i_le]; omega)]
theorem here_in (fu : Nat) {sz x : Int32} (tape : Nat → Int32) {a : Nat} (hx : x.toInt = a) (h : x.toInt < sz.toInt) (h2 : sz.toInt ≤ 600) : FX12_here fu sz x tape = some (tape a) := by
  have hi : pz_inb x 600 = true := i_inb.mpr (by omega)
  have hn : x.toNatClampNeg = a := by have := i_nat (a := x) (by omega); omega
  unfold FX12_here
  rw [if_neg (by rw [i_le]; omega), if_pos hi, hn]
theorem dig_iff (c : Int32) : (fX12_isDigit_r c = 0 ↔ ¬ (48 ≤ c.toInt ∧ c.toInt ≤ 57)) ∧ (fX12_isSmall_r c = 0 ↔ ¬ (97 ≤ c.toInt ∧ c.toInt ≤ 122)) := by
  have t48 : (48 : Int32).toInt = 48 := rfl
  have t57 : (57 : Int32).toInt = 57 := rfl
  have t97 : (97 : Int32).toInt = 97 := rfl
  have t122 : (122 : Int32).toInt = 122 := rfl
  unfold fX12_isDigit_r fX12_isSmall_r
  simp only [i_lt, t48, t57, t97, t122]
  constructor
  · by_cases c1 : c.toInt < 48
    · rw [if_pos c1]; exact ⟨fun _ => by omega, fun _ => rfl⟩
    · rw [if_neg c1]
      by_cases c2 : 57 < c.toInt
      · rw [if_pos c2]; exact ⟨fun _ => by omega, fun _ => rfl⟩
      · rw [if_neg c2]; exact ⟨fun z => absurd z (by decide), fun z => absurd (show 48 ≤ c.toInt ∧ c.toInt ≤ 57 by omega) z⟩
  · by_cases c1 : c.toInt < 97
    · rw [if_pos c1]; exact ⟨fun _ => by omega, fun _ => rfl⟩
    · rw [if_neg c1]
      by_cases c2 : 122 < c.toInt
      · rw [if_pos c2]; exact ⟨fun _ => by omega, fun _ => rfl⟩
      · rw [if_neg c2]; exact ⟨fun z => absurd z (by decide), fun z => absurd (show 97 ≤ c.toInt ∧ c.toInt ≤ 122 by omega) z⟩
section
variable {fu : Nat} {bytes tape : Nat → Int32} {len : Int32} {L : Nat}
theorem num_L (hT : tapeR bytes tape) (hlen : len.toInt = L) (hL : L ≤ 600) (pl ks : Int32) : ∀ (n a f f' : Nat) (x cv rv : Int32), a + n = L → x.toInt = a → n < f → n < f' → nuR cv rv → ∃ (e : Nat) (y cv' rv' : Int32), a ≤ e ∧ e ≤ L ∧ y.toInt = e ∧ nuR cv' rv' ∧ FX5_readNumber_L fu len bytes f x 3 cv = some (y, 3, cv') ∧ FX12_next_L fu len tape f' 2 x pl 2 rv = some (y, pl, 2, rv') ∧ ((a < L ∧ 48 ≤ (tape a).toInt ∧ (tape a).toInt ≤ 57) → a < e) := by
  have q1 := t_1
  have t48 : (48 : Int32).toInt = 48 := rfl
  have t57 : (57 : Int32).toInt = 57 := rfl
  have t10 : (10 : Int32).toInt = 10 := rfl
  have t9 : (9999 : Int32).toInt = 9999 := rfl
  have tM : (10000 : Int32).toInt = 10000 := rfl
  intro n
  induction n with
  | zero =>
    intro a f f' x cv rv ha hx hf hf' hn
    obtain ⟨f, rfl⟩ : ∃ g, f = g + 1 := ⟨f - 1, by omega⟩
    obtain ⟨f', rfl⟩ : ∃ g, f' = g + 1 := ⟨f' - 1, by omega⟩
    refine ⟨a, x, cv, rv, by omega, by omega, hx, hn, ?_, ?_, fun z => by omega⟩
    · rw [FX5_readNumber_L, if_pos (by rw [i_le]; omega)]
    · rw [FX12_next_L, if_neg (show ¬ (2 : Nat) = 0 by omega), if_neg (show ¬ (2 : Nat) = 1 by omega), if_pos rfl, here_end fu tape (by omega), Option.bind_some, if_pos (show fX12_isDigit_r (-1) = 0 by decide)]
  | succ n ih =>
    intro a f f' x cv rv ha hx hf hf' hn
    obtain ⟨f, rfl⟩ : ∃ g, f = g + 1 := ⟨f - 1, by omega⟩
    obtain ⟨f', rfl⟩ : ∃ g, f' = g + 1 := ⟨f' - 1, by omega⟩
    have hi : pz_inb x 600 = true := i_inb.mpr (by omega)
    have hnx : x.toNatClampNeg = a := by have := i_nat (a := x) (by omega); omega
    have hs := i_add x 1 (by omega) (by omega)
    obtain ⟨b1, b2, b3⟩ := hT a (by omega)
    have hh := here_in fu tape hx (sz := len) (by omega) (by omega)
    rw [FX5_readNumber_L, if_neg (by rw [i_le]; omega), if_pos hi, hnx]
    rw [FX12_next_L, if_neg (show ¬ (2 : Nat) = 0 by omega), if_neg (show ¬ (2 : Nat) = 1 by omega), if_pos rfl, hh, Option.bind_some, Option.bind_some]
    by_cases c1 : bytes a < 48
    · rw [if_pos c1, if_pos ((dig_iff _).1.mpr (by rw [i_lt] at c1; omega))]
      exact ⟨a, x, cv, rv, by omega, by omega, hx, hn, rfl, rfl, fun z => by rw [i_lt] at c1; omega⟩
    rw [if_neg c1, if_pos hi]
    by_cases c2 : 57 < bytes a
    · rw [if_pos c2, if_pos ((dig_iff _).1.mpr (by rw [i_lt] at c2; omega))]
      exact ⟨a, x, cv, rv, by omega, by omega, hx, hn, rfl, rfl, fun z => by rw [i_lt] at c2; omega⟩
    rw [i_lt] at c1 c2
    rw [if_neg (by rw [i_lt]; exact c2), if_pos hi, if_neg (show ¬ fX12_isDigit_r (tape a) = 0 from fun z => (dig_iff _).1.mp z (by omega))]
    have hbt : (bytes a).toInt = (tape a).toInt := by omega
    have go : ∀ rv2, nuR (fJ9_min_7cf53_r (cv * 10 + bytes a - 48) 10000) rv2 → ∃ (e : Nat) (y cv' rv' : Int32), a ≤ e ∧ e ≤ L ∧ y.toInt = e ∧ nuR cv' rv' ∧ FX5_readNumber_L fu len bytes f (x + 1) 3 (fJ9_min_7cf53_r (cv * 10 + bytes a - 48) 10000) = some (y, 3, cv') ∧ FX12_next_L fu len tape f' 2 (x + 1) pl 2 rv2 = some (y, pl, 2, rv') ∧ ((a < L ∧ 48 ≤ (tape a).toInt ∧ (tape a).toInt ≤ 57) → a < e) := by
      intro rv2 hr2
      obtain ⟨e, y, cv', rv', k1, k2, k3, k4, k5, k6, -⟩ := ih (a + 1) f f' (x + 1) _ rv2 (by omega) (by omega) (by omega) (by omega) hr2
      exact ⟨e, y, cv', rv', by omega, k2, k3, k4, k5, k6, fun _ => by omega⟩
    rcases hn with ⟨h1, h2, h3⟩ | ⟨h1, h2, h3⟩
    · subst h1
      rw [if_pos (show cv ≤ 9999 by rw [i_le]; omega)]
      have m1 := i_mul cv 10 (by rw [t10]; omega) (by rw [t10]; omega)
      rw [t10] at m1
      have m2 := i_add (cv * 10) (bytes a) (by omega) (by omega)
      have m3 := i_sub (cv * 10 + bytes a) 48 (by omega) (by omega)
      have m4 := i_mul 10 cv (by rw [t10]; omega) (by rw [t10]; omega)
      rw [t10] at m4
      have m5 := i_add (10 * cv) (tape a) (by omega) (by omega)
      have m6 := i_sub (10 * cv + tape a) 48 (by omega) (by omega)
      refine go _ ?_
      unfold fJ9_min_7cf53_r
      by_cases g : (10000 : Int32) < cv * 10 + bytes a - 48
      · rw [if_pos g]
        rw [i_lt] at g
        exact Or.inr ⟨rfl, by omega, by omega⟩
      · rw [if_neg g]
        rw [i_lt] at g
        by_cases g2 : (cv * 10 + bytes a - 48).toInt = 10000
        · exact Or.inr ⟨i_of _ g2 rfl, by omega, by omega⟩
        · exact Or.inl ⟨i_eq.mpr (by omega), by omega, by omega⟩
    · subst h1
      rw [if_neg (show ¬ rv ≤ 9999 by rw [i_le]; omega)]
      have m1 : ((10000 : Int32) * 10).toInt = 100000 := rfl
      have m2 := i_add (10000 * 10) (bytes a) (by omega) (by omega)
      have m3 := i_sub (10000 * 10 + bytes a) 48 (by omega) (by omega)
      refine go _ ?_
      unfold fJ9_min_7cf53_r
      rw [if_pos (by rw [i_lt]; omega)]
      exact Or.inr ⟨rfl, h2, h3⟩
theorem sign_eq (hT : tapeR bytes tape) (hlen : len.toInt = L) (hL : L ≤ 600) (a : Nat) (x : Int32) (hx : x.toInt = a) (ha : a < L) (h32 : ¬ (tape a).toInt = 32) (hd : ¬ (48 ≤ (tape a).toInt ∧ (tape a).toInt ≤ 57)) (hs : ¬ (97 ≤ (tape a).toInt ∧ (tape a).toInt ≤ 122)) :
    ∃ (e : Nat) (y ck cv rs rv : Int32), a < e ∧ e ≤ L ∧ y.toInt = e ∧ tokR ck cv rs rv ∧ FX5_readSign fu (bytes a) len x bytes = some (y, ck, cv) ∧ FX12_sign fu (tape a) len x tape = some (y, rs, rv) ∧ ¬ ck = 0 := by
  have q1 := t_1
  have hs1 := i_add x 1 (by omega) (by omega)
  obtain ⟨b1, b2, b3⟩ := hT a (by omega)
  -- what stands behind
  have hbeh : ∃ (d r : Int32), (FX5_readSign fu (bytes a) len x bytes = FX5_readSign_J34 fu (bytes a) d (x + 1)) ∧ FX12_here fu len (x + 1) tape = some r ∧ ((d = 61 ∧ r = 61 ∧ a + 2 ≤ L) ∨ (d = 62 ∧ r = 62 ∧ a + 2 ≤ L) ∨ (¬ d = 61 ∧ ¬ d = 62 ∧ ¬ r = 61 ∧ ¬ r = 62)) := by
    unfold FX5_readSign
    by_cases c : len ≤ x + 1
    · rw [if_pos c]
      rw [i_le] at c
      exact ⟨0, -1, rfl, here_end fu tape (by omega), Or.inr (Or.inr (by decide))⟩
    · rw [if_neg c]
      rw [i_le] at c
      have hi : pz_inb (x + 1) 600 = true := i_inb.mpr (by omega)
      have hn : (x + 1).toNatClampNeg = a + 1 := by have := i_nat (a := x + 1) (by omega); omega
      rw [if_pos hi, hn]
      refine ⟨bytes (a + 1), tape (a + 1), rfl, here_in fu tape (by omega) (by omega) (by omega), ?_⟩
      obtain ⟨d1, d2, d3⟩ := hT (a + 1) (by omega)
      have t61 : (61 : Int32).toInt = 61 := rfl
      have t62 : (62 : Int32).toInt = 62 := rfl
      by_cases g1 : (tape (a + 1)).toInt = 61
      · exact Or.inl ⟨i_eq.mpr (by omega), i_eq.mpr (by omega), by omega⟩
      · by_cases g2 : (tape (a + 1)).toInt = 62
        · exact Or.inr (Or.inl ⟨i_eq.mpr (by omega), i_eq.mpr (by omega), by omega⟩)
        · exact Or.inr (Or.inr ⟨fun z => by rw [i_eq] at z; omega, fun z => by rw [i_eq] at z; omega, fun z => by rw [i_eq] at z; omega, fun z => by rw [i_eq] at z; omega⟩)
  obtain ⟨d, r, e1, e2, e3⟩ := hbeh
  rw [e1]
  have hs2 : a + 2 ≤ L → (x + 1 + 1).toInt = a + 2 := by
    intro z
    have := i_add (x + 1) 1 (by omega) (by omega)
    omega
  -- signs of one letter
  have single : ∀ (n : Nat) (cv : Int32), n < 128 → (tape a).toInt = n → ¬ n = 60 → ¬ n = 62 → fX5_singleSign_r (Int32.ofNat n) = cv → ¬ cv = -2147483648 → (¬ Int32.ofNat n = 60) → (¬ Int32.ofNat n = 62) → FX12_sign fu (Int32.ofNat n) len x tape = FX12_sign_J71 fu (Int32.ofNat n) len tape (x + 1) → (Int32.ofNat n).toInt = n → n < 256 → sgR cv (Int32.ofNat n) → ∃ (e : Nat) (y ck cv rs rv : Int32), a < e ∧ e ≤ L ∧ y.toInt = e ∧ tokR ck cv rs rv ∧ FX5_readSign_J34 fu (bytes a) d (x + 1) = some (y, ck, cv) ∧ FX12_sign fu (tape a) len x tape = some (y, rs, rv) ∧ ¬ ck = 0 := by
    intro n cv hn hc h60 h62 h1 h2 h3 h4 h5 h6 h7 h8
    have ht : tape a = Int32.ofNat n := i_ofNat hc (by omega)
    have hb : bytes a = Int32.ofNat n := i_ofNat (by omega) (by omega)
    refine ⟨a + 1, x + 1, 4, cv, 3, Int32.ofNat n, by omega, by omega, by omega, Or.inr (Or.inr (Or.inr (Or.inr (Or.inl ⟨rfl, rfl, h8⟩)))), ?_, ?_, by decide⟩
    · rw [hb]
      unfold FX5_readSign_J34
      rw [if_neg h3, if_pos h4, h1, if_pos h2]
    · rw [ht, h5]
      unfold FX12_sign_J71 FX12_sign_J76 FX12_sign_J106 FX12_sign_J128 FX12_sign_J150
      rw [if_pos h3, if_pos h3, if_pos h4, if_pos (show Int32.ofNat n < 256 by rw [i_lt, h6]; show (n : Int) < 256; omega)]
  have e60 : (Int32.ofNat 60) = 60 := rfl
  by_cases c40 : (tape a).toInt = 40
  · exact single 40 (-19) (by omega) c40 (by omega) (by omega) rfl (by decide) (by decide) (by decide) rfl rfl (by omega) (by unfold sgR; decide)
  by_cases c41 : (tape a).toInt = 41
  · exact single 41 (-20) (by omega) c41 (by omega) (by omega) rfl (by decide) (by decide) (by decide) rfl rfl (by omega) (by unfold sgR; decide)
  by_cases c42 : (tape a).toInt = 42
  · exact single 42 (-17) (by omega) c42 (by omega) (by omega) rfl (by decide) (by decide) (by decide) rfl rfl (by omega) (by unfold sgR; decide)
  by_cases c43 : (tape a).toInt = 43
  · exact single 43 (-15) (by omega) c43 (by omega) (by omega) rfl (by decide) (by decide) (by decide) rfl rfl (by omega) (by unfold sgR; decide)
  by_cases c45 : (tape a).toInt = 45
  · exact single 45 (-16) (by omega) c45 (by omega) (by omega) rfl (by decide) (by decide) (by decide) rfl rfl (by omega) (by unfold sgR; decide)
  by_cases c47 : (tape a).toInt = 47
  · exact single 47 (-18) (by omega) c47 (by omega) (by omega) rfl (by decide) (by decide) (by decide) rfl rfl (by omega) (by unfold sgR; decide)
  by_cases c59 : (tape a).toInt = 59
  · exact single 59 (-21) (by omega) c59 (by omega) (by omega) rfl (by decide) (by decide) (by decide) rfl rfl (by omega) (by unfold sgR; decide)
  by_cases c61 : (tape a).toInt = 61
  · exact single 61 (-11) (by omega) c61 (by omega) (by omega) rfl (by decide) (by decide) (by decide) rfl rfl (by omega) (by unfold sgR; decide)
  have sg : ∀ {cv rv : Int32}, sgR cv rv → tokR 4 cv 3 rv := fun h => Or.inr (Or.inr (Or.inr (Or.inr (Or.inl ⟨rfl, rfl, h⟩))))
  by_cases c60 : (tape a).toInt = 60
  · have ht : tape a = 60 := i_of _ c60 rfl
    have hb : bytes a = 60 := i_of 60 (by omega) rfl
    have hr : FX12_sign fu (tape a) len x tape = FX12_sign_J76 fu 60 len tape 3 (x + 1) := by rw [ht]; rfl
    have hc : FX5_readSign_J34 fu (bytes a) d (x + 1) = FX5_readSign_J52 fu 60 d (x + 1) 4 := by rw [hb]; rfl
    rw [hr, hc]
    unfold FX12_sign_J76 FX12_sign_J106 FX12_sign_J128 FX12_sign_J150
    rw [e2]
    simp only [Option.bind_some, if_neg (show ¬ ¬ (60 : Int32) = 60 by decide), if_pos (show ¬ (60 : Int32) = 62 by decide)]
    rcases e3 with ⟨z1, z2, z3⟩ | ⟨z1, z2, z3⟩ | ⟨z1, z2, z3, z4⟩
    · subst z1 z2
      exact ⟨a + 2, x + 1 + 1, 4, -10, 3, 256, by omega, z3, by rw [hs2 z3]; rfl, sg (by unfold sgR; decide), rfl, rfl, by decide⟩
    · subst z1 z2
      exact ⟨a + 2, x + 1 + 1, 4, -12, 3, 257, by omega, z3, by rw [hs2 z3]; rfl, sg (by unfold sgR; decide), rfl, rfl, by decide⟩
    · simp only [if_pos z3, if_pos z4]
      refine ⟨a + 1, x + 1, 4, -9, 3, 60, by omega, by omega, by omega, sg (by unfold sgR; decide), ?_, rfl, by decide⟩
      unfold FX5_readSign_J52 fX5_comparison_r
      simp only [if_pos (show ¬ (60 : Int32) = 62 by decide), if_pos z1, if_pos z2]
      rfl
  by_cases c62 : (tape a).toInt = 62
  · have ht : tape a = 62 := i_of _ c62 rfl
    have hb : bytes a = 62 := i_of 62 (by omega) rfl
    have hr : FX12_sign fu (tape a) len x tape = FX12_sign_J76 fu 62 len tape 3 (x + 1) := by rw [ht]; rfl
    have hc : FX5_readSign_J34 fu (bytes a) d (x + 1) = FX5_readSign_J52 fu 62 d (x + 1) 4 := by rw [hb]; rfl
    rw [hr, hc]
    unfold FX12_sign_J76 FX12_sign_J106 FX12_sign_J128 FX12_sign_J150
    rw [e2]
    simp only [Option.bind_some, if_pos (show ¬ (62 : Int32) = 60 by decide), if_neg (show ¬ ¬ (62 : Int32) = 62 by decide)]
    rcases e3 with ⟨z1, z2, z3⟩ | ⟨z1, z2, z3⟩ | ⟨z1, z2, z3, z4⟩
    · subst z1 z2
      exact ⟨a + 2, x + 1 + 1, 4, -13, 3, 258, by omega, z3, by rw [hs2 z3]; rfl, sg (by unfold sgR; decide), rfl, rfl, by decide⟩
    · subst z1 z2
      exact ⟨a + 1, x + 1, 4, -14, 3, 62, by omega, by omega, by omega, sg (by unfold sgR; decide), rfl, rfl, by decide⟩
    · simp only [if_pos z3]
      refine ⟨a + 1, x + 1, 4, -14, 3, 62, by omega, by omega, by omega, sg (by unfold sgR; decide), ?_, rfl, by decide⟩
      unfold FX5_readSign_J52 fX5_comparison_r
      simp only [if_neg (show ¬ ¬ (62 : Int32) = 62 by decide), if_pos z1]
      rfl
  -- a strange one
  have cn : ∀ n : Int32, 0 ≤ n.toInt → n.toInt < 128 → (¬ (tape a).toInt = n.toInt) → ¬ tape a = n ∧ ¬ bytes a = n := fun n h0 h1 h2 => ⟨fun z => h2 (by rw [z]), fun z => by have := i_eq.mp z; omega⟩
  have k40 := cn 40 (by decide) (by decide) c40
  have k41 := cn 41 (by decide) (by decide) c41
  have k42 := cn 42 (by decide) (by decide) c42
  have k43 := cn 43 (by decide) (by decide) c43
  have k45 := cn 45 (by decide) (by decide) c45
  have k47 := cn 47 (by decide) (by decide) c47
  have k59 := cn 59 (by decide) (by decide) c59
  have k60 := cn 60 (by decide) (by decide) c60
  have k61 := cn 61 (by decide) (by decide) c61
  have k62 := cn 62 (by decide) (by decide) c62
  refine ⟨a + 1, x + 1, 5, -2147483648, 5, tape a, by omega, by omega, by omega, Or.inr (Or.inr (Or.inr (Or.inr (Or.inr ⟨rfl, rfl⟩)))), ?_, ?_, by decide⟩
  · have hsg : fX5_singleSign_r (bytes a) = -2147483648 := by
      unfold fX5_singleSign_r
      simp only [if_neg k40.2, if_neg k41.2, if_neg k42.2, if_neg k43.2, if_neg k45.2, if_neg k47.2, if_neg k59.2, if_neg k61.2, ite_self]
    unfold FX5_readSign_J34
    rw [if_neg k60.2, if_pos k62.2, hsg, if_neg (by decide)]
  · unfold FX12_sign FX12_sign_J76 FX12_sign_J106 FX12_sign_J128 FX12_sign_J150
    have ht256 : tape a < 256 := by
      rw [i_lt]
      have : (256 : Int32).toInt = 256 := rfl
      omega
    simp only [if_neg k40.1, if_neg k41.1, if_neg k42.1, if_neg k43.1, if_neg k45.1, if_neg k47.1, if_neg k59.1, if_neg k60.1, if_neg k61.1, if_pos k60.1, if_pos k62.1, if_pos ht256]
end
