/-! ===== the class's DRILL ===== -/
section
variable {fu : Nat} {gears : Int32} {mayT : Nat → Int64} {safeT : Int64} {G b : Nat}
theorem ahead_L (x : Int64) (hg : gears.toInt = G) (hG : G ≤ 6) : ∀ (n g f : Nat) (acc : Int64) (p : Int32), g + n = G → p.toInt = g → n < f → ∃ y, FX0_aheadOf_L fu x safeT gears mayT f acc p = some y ∧ ∀ s, s < 64 → tb y s = (tb acc s || anyF n g (fun g => tb x (s ^^^ 2 ^ g) && okc mayT safeT s g)) := by
  have q1 := t_1
  intro n
  induction n with
  | zero =>
    intro g f acc p hgn hp hf
    obtain ⟨f, rfl⟩ : ∃ g, f = g + 1 := ⟨f - 1, by omega⟩
    rw [FX0_aheadOf_L, if_pos (by rw [i_le]; omega)]
    refine ⟨_, rfl, fun s hs => ?_⟩
    rw [anyF, Bool.or_false]
  | succ n ih =>
    intro g f acc p hgn hp hf
    obtain ⟨f, rfl⟩ : ∃ g, f = g + 1 := ⟨f - 1, by omega⟩
    have hi : pz_inb p 6 = true := i_inb.mpr (by omega)
    have hn : p.toNatClampNeg = g := by have := i_nat (a := p) (by omega); omega
    have hs := i_add p 1 (by omega) (by omega)
    obtain ⟨y1, c1, c2⟩ := changed_bit fu (x &&& safeT) p g hp (by omega)
    rw [FX0_aheadOf_L, if_neg (by rw [i_le]; omega), c1, Option.bind_some, if_pos hi, hn]
    obtain ⟨y, e1, e2⟩ := ih (g + 1) f (acc ||| (y1 &&& mayT g)) (p + 1) (by omega) (by omega) (by omega)
    refine ⟨y, e1, fun s hs => ?_⟩
    rw [e2 s hs, tb_or, tb_and, c2 s hs, tb_and, anyF]
    unfold okc
    cases tb acc s <;> cases tb x (s ^^^ 2 ^ g) <;> cases tb safeT (s ^^^ 2 ^ g) <;> cases tb (mayT g) s <;> rfl
theorem ahead_eq (hfu : 1000 ≤ fu) (x : Int64) (hg : gears.toInt = G) (hG : G ≤ 6) : ∃ y, FX0_aheadOf fu x safeT gears mayT = some y ∧ ∀ s, s < 64 → tb y s = anyF G 0 (fun g => tb x (s ^^^ 2 ^ g) && okc mayT safeT s g) := by
  unfold FX0_aheadOf
  obtain ⟨y, e1, e2⟩ := ahead_L (fu := fu) (mayT := mayT) (safeT := safeT) x hg hG G 0 fu 0 0 (by omega) rfl (by omega)
  refine ⟨y, e1, fun s hs => ?_⟩
  rw [e2 s hs, tb_0, Bool.false_or]
/-- the class's levels so far -/
def awayOk (mayT : Nat → Int64) (safeT : Int64) (G b L : Nat) (away : Nat → Int64) : Prop := ∀ m, m ≤ L → ∀ s, s < 64 → tb (away m) s = (lev (okc mayT safeT) G b m).1 s
theorem anyF_congr {f g : Nat → Bool} : ∀ n k, (∀ j, k ≤ j → j < k + n → f j = g j) → anyF n k f = anyF n k g := by
  intro n
  induction n with
  | zero => intro k h; rfl
  | succ n ih =>
    intro k h
    rw [anyF, anyF, h k (by omega) (by omega), ih (k + 1) (fun j h1 h2 => h j (by omega) (by omega))]
theorem xor_lt64 {s g : Nat} (hs : s < 64) (hg : g < 6) : s ^^^ 2 ^ g < 64 := (flip_sh s hs g hg).2
theorem lg_low (x : Int64) (p : Int32) (k : Nat) (hp : p.toInt = k) (hk : k < 64) : (lg_cmp (((x.toUInt64 >>> (p.toInt64.toUInt64 &&& Int64.toUInt64 63)).toInt64) &&& 1) 0 = 0 ↔ tb x k = false) ∧ (lg_cmp (((x.toUInt64 >>> (p.toInt64.toUInt64 &&& Int64.toUInt64 63)).toInt64) &&& 1) 1 = 0 ↔ tb x k = true) := by
  rw [low_bit x p k hp hk, lg_cmp_eq, lg_cmp_eq]
  cases tb x k
  · rw [if_neg (by decide)]
    exact ⟨⟨fun _ => rfl, fun _ => rfl⟩, ⟨fun z => absurd z (by decide), fun z => by cases z⟩⟩
  · rw [if_pos rfl]
    exact ⟨⟨fun z => absurd z (by decide), fun z => by cases z⟩, ⟨fun _ => rfl, fun _ => rfl⟩⟩
theorem find_L (hfu : 1000 ≤ fu) (hg : gears.toInt = G) (hG : G ≤ 6) (hb : b < 2 ^ G) (p1 p2 : Int32) (a : Nat) (hp1 : p1.toInt = a) (ha : a < 64) : ∀ (n L f : Nat) (met : Int64) (len : Int32) (away : Nat → Int64) (ch : Nat → Int32), L + n = 63 → len.toInt = L → n < f → awayOk mayT safeT G b L away → (∀ s, s < 64 → tb met s = (lev (okc mayT safeT) G b L).2 s) → (∀ m, m < L → (lev (okc mayT safeT) G b m).1 a = false) →
    (∃ (L' : Nat) (len' : Int32) (away' : Nat → Int64), L' ≤ 63 ∧ len'.toInt = L' ∧ awayOk mayT safeT G b L' away' ∧ (lev (okc mayT safeT) G b L').1 a = true ∧ FX0_find_L fu p1 p2 safeT gears mayT f met len away ch = (FX0_walk fu p1 len' away' ch safeT gears mayT).bind (fun y => some ((1 : Int32), len', away', y))) ∨
    (∃ (len' : Int32) (away' : Nat → Int64), (∀ m, (lev (okc mayT safeT) G b m).1 a = false) ∧ FX0_find_L fu p1 p2 safeT gears mayT f met len away ch = some (0, len', away', ch)) := by
  have q1 := t_1
  have t63 : (63 : Int32).toInt = 63 := rfl
  intro n
  induction n with
  | zero =>
    intro L f met len away ch hL hlen hf hA hM hP
    obtain ⟨f, rfl⟩ : ∃ g, f = g + 1 := ⟨f - 1, by omega⟩
    have hi : pz_inb len 64 = true := i_inb.mpr (by omega)
    have hn : len.toNatClampNeg = L := by have := i_nat (a := len) (by omega); omega
    rw [FX0_find_L, if_pos (by rw [i_le]; omega), if_pos hi, hn]
    have hlow := (lg_low (away L) p1 a hp1 ha).1
    rw [hA L (Nat.le_refl _) a ha] at hlow
    cases hq : (lev (okc mayT safeT) G b L).1 a with
    | true =>
      rw [if_pos (show ¬ lg_cmp _ 0 = 0 from fun z => by rw [hlow.mp z] at hq; cases hq)]
      exact Or.inl ⟨L, len, away, by omega, hlen, hA, hq, rfl⟩
    | false =>
      rw [if_neg (show ¬ ¬ lg_cmp _ 0 = 0 from fun z => z (hlow.mpr hq))]
      refine Or.inr ⟨len, away, fun m => ?_, rfl⟩
      by_cases g : m < L
      · exact hP m g
      · by_cases g2 : m = L
        · subst g2; exact hq
        · cases hz : (lev (okc mayT safeT) G b m).1 a with
          | false => rfl
          | true =>
            have := lev_le hb hG hz
            omega
  | succ n ih =>
    intro L f met len away ch hL hlen hf hA hM hP
    obtain ⟨f, rfl⟩ : ∃ g, f = g + 1 := ⟨f - 1, by omega⟩
    have hi : pz_inb len 64 = true := i_inb.mpr (by omega)
    have hn : len.toNatClampNeg = L := by have := i_nat (a := len) (by omega); omega
    rw [FX0_find_L, if_neg (by rw [i_le]; omega), if_pos hi, hn]
    have hlow := (lg_low (away L) p1 a hp1 ha).1
    rw [hA L (Nat.le_refl _) a ha] at hlow
    cases hq : (lev (okc mayT safeT) G b L).1 a with
    | true =>
      rw [if_pos (show ¬ lg_cmp _ 0 = 0 from fun z => by rw [hlow.mp z] at hq; cases hq), if_pos hi]
      exact Or.inl ⟨L, len, away, by omega, hlen, hA, hq, rfl⟩
    | false =>
      rw [if_neg (show ¬ ¬ lg_cmp _ 0 = 0 from fun z => z (hlow.mpr hq)), if_pos hi]
      by_cases hz : away L = 0
      · rw [if_pos ((lg_cmp_eq _ _).mpr hz), if_pos hi]
        have hl : ∀ j, j ≤ 6 → 2 ^ j ≤ 64 := by decide
        have hG2 := hl G hG
        have hemp : ∀ s, (lev (okc mayT safeT) G b L).1 s = false := by
          intro s
          cases hs : (lev (okc mayT safeT) G b L).1 s with
          | false => rfl
          | true =>
            have h1 := lev_lt hb L s hs
            have h2 := hA L (Nat.le_refl _) s (by omega)
            rw [hz, tb_0, hs] at h2
            cases h2
        refine Or.inr ⟨len, away, fun m => ?_, rfl⟩
        by_cases g : m < L
        · exact hP m g
        · exact lev_empty hemp m (by omega) a
      · rw [if_neg (fun z => hz ((lg_cmp_eq _ _).mp z)), if_pos hi]
        obtain ⟨y, e1, e2⟩ := ahead_eq (fu := fu) (mayT := mayT) (safeT := safeT) hfu (away L) hg hG
        have hs1 := i_add len 1 (by omega) (by omega)
        have hi2 : pz_inb (len + 1) 64 = true := i_inb.mpr (by omega)
        have hn2 : (len + 1).toNatClampNeg = L + 1 := by have := i_nat (a := len + 1) (by omega); omega
        rw [e1, Option.bind_some, if_pos hi2, hn2]
        have hnew : ∀ s, s < 64 → tb (y &&& (met ^^^ (-1))) s = (lev (okc mayT safeT) G b (L + 1)).1 s := by
          intro s hs
          rw [tb_and, e2 s hs, tb_not _ s hs, hM s hs, lev_succ]
          congr 1
          refine anyF_congr G 0 (fun j h1 h2 => ?_)
          rw [hA L (Nat.le_refl _) _ (xor_lt64 hs (by omega))]
        refine ih (L + 1) f _ (len + 1) _ ch (by omega) (by omega) (by omega) ?_ ?_ ?_
        · intro m hm s hs
          unfold vp_updL
          by_cases g : m = L + 1
          · rw [if_pos g, g]; exact hnew s hs
          · rw [if_neg g]; exact hA m (by omega) s hs
        · intro s hs
          rw [tb_or, hnew s hs, hM s hs, met_succ]
        · intro m hm
          by_cases g : m = L
          · rw [g]; exact hq
          · exact hP m (by omega)
theorem firstF_spec (f : Nat → Bool) : ∀ n g, anyF n g f = true → f (firstF n g f) = true ∧ g ≤ firstF n g f ∧ firstF n g f < g + n := by
  intro n
  induction n with
  | zero => intro g h; cases h
  | succ n ih =>
    intro g h
    rw [firstF]
    cases hq : f g with
    | true => rw [if_pos rfl]; exact ⟨hq, by omega, by omega⟩
    | false =>
      rw [if_neg (by decide)]
      rw [anyF, hq, Bool.false_or] at h
      obtain ⟨h1, h2, h3⟩ := ih (g + 1) h
      exact ⟨h1, by omega, by omega⟩
/-- the GEAR that comes next from s, that is r away -/
def nxg (mayT : Nat → Int64) (safeT : Int64) (G b s r : Nat) : Nat := firstF G 0 (fun g => (lev (okc mayT safeT) G b (r - 1)).1 (s ^^^ 2 ^ g) && okc mayT safeT s g)
theorem nxg_spec {s r : Nat} (hr : 1 ≤ r) (h : (lev (okc mayT safeT) G b r).1 s = true) : nxg mayT safeT G b s r < G ∧ (lev (okc mayT safeT) G b (r - 1)).1 (s ^^^ 2 ^ nxg mayT safeT G b s r) = true ∧ okc mayT safeT s (nxg mayT safeT G b s r) = true := by
  obtain ⟨k, rfl⟩ : ∃ k, r = k + 1 := ⟨r - 1, by omega⟩
  have h0 := h
  rw [lev_succ, Bool.and_eq_true] at h0
  obtain ⟨h1, h2, h3⟩ := firstF_spec _ G 0 h0.1
  rw [Bool.and_eq_true] at h1
  exact ⟨by unfold nxg; rw [Nat.zero_add] at h3; exact h3, h1.1, h1.2⟩
theorem pth_0 (s r : Nat) : pth (okc mayT safeT) G b 0 s r = nxg mayT safeT G b s r := rfl
theorem pth_s (k s r : Nat) : pth (okc mayT safeT) G b (k + 1) s r = pth (okc mayT safeT) G b k (s ^^^ 2 ^ nxg mayT safeT G b s r) (r - 1) := rfl
theorem walk_in (hg : gears.toInt = G) (hG : G ≤ 6) (p1 len : Int32) (away : Nat → Int64) (r s k : Nat) (hs : s < 64) (hr : 1 ≤ r) (x y : Int32) (hx : x.toInt = s) (hy : y.toInt = k) (hk : k < 63) (v : Int64) (hv : ∀ s, s < 64 → tb v s = ((lev (okc mayT safeT) G b (r - 1)).1 s && tb safeT s)) (ch : Nat → Int32) : ∀ (n g f : Nat) (z : Int32), g + n = G → z.toInt = g → n < f → anyF n g (fun g => (lev (okc mayT safeT) G b (r - 1)).1 (s ^^^ 2 ^ g) && okc mayT safeT s g) = true →
    ∃ (f' : Nat) (x' : Int32), f ≤ f' + n ∧ x'.toInt = ((s ^^^ 2 ^ (firstF n g (fun g => (lev (okc mayT safeT) G b (r - 1)).1 (s ^^^ 2 ^ g) && okc mayT safeT s g)) : Nat) : Int) ∧ FX0_walk_L fu p1 len away safeT gears mayT f 1 x y v z ch = FX0_walk_L fu p1 len away safeT gears mayT f' 0 x' (y + 1) 0 0 (upd ch k (Int32.ofNat (firstF n g (fun g => (lev (okc mayT safeT) G b (r - 1)).1 (s ^^^ 2 ^ g) && okc mayT safeT s g)))) := by
  have q1 := t_1
  intro n
  induction n with
  | zero => intro g f z hgn hz hf h; cases h
  | succ n ih =>
    intro g f z hgn hz hf h
    obtain ⟨f, rfl⟩ : ∃ g, f = g + 1 := ⟨f - 1, by omega⟩
    obtain ⟨f1, f2⟩ := one_flip hx hs hz (show g < 6 by omega)
    have hi : pz_inb z 6 = true := i_inb.mpr (by omega)
    have hik : pz_inb y 63 = true := i_inb.mpr (by omega)
    have hn : z.toNatClampNeg = g := by have := i_nat (a := z) (by omega); omega
    have hny : y.toNatClampNeg = k := by have := i_nat (a := y) (by omega); omega
    have hs1 := i_add z 1 (by omega) (by omega)
    have l1 := (lg_low v _ (s ^^^ 2 ^ g) f1 f2).2
    have l2 := (lg_low (mayT g) x s hx hs).2
    rw [hv _ f2] at l1
    rw [FX0_walk_L, if_neg (show ¬ (1 : Nat) = 0 by omega), if_pos rfl, if_neg (by rw [i_le]; omega)]
    rw [anyF] at h
    rw [firstF]
    cases hq : (lev (okc mayT safeT) G b (r - 1)).1 (s ^^^ 2 ^ g) && okc mayT safeT s g with
    | true =>
      rw [if_pos rfl]
      rw [Bool.and_eq_true] at hq
      obtain ⟨a1, a2⟩ := hq
      unfold okc at a2
      rw [Bool.and_eq_true] at a2
      rw [a1, a2.2] at l1
      rw [a2.1] at l2
      rw [if_neg (show ¬ ¬ lg_cmp _ 1 = 0 from fun z => z (l1.mpr rfl)), if_pos hi, hn, if_neg (show ¬ ¬ lg_cmp _ 1 = 0 from fun z => z (l2.mpr rfl)), if_pos hik, hny]
      refine ⟨f, _, by omega, f1, ?_⟩
      rw [i_ofNat hz (by omega)]
    | false =>
      rw [hq, Bool.false_or] at h
      rw [if_neg (show ¬ false = true by decide)]
      obtain ⟨f', x', e1, e2, e3⟩ := ih (g + 1) f (z + 1) (by omega) (by omega) (by omega) h
      refine ⟨f', x', by omega, e2, ?_⟩
      rw [← e3]
      by_cases c1 : lg_cmp (((v.toUInt64 >>> ((x ^^^ ((1 : Int32) <<< (z &&& 31))).toInt64.toUInt64 &&& Int64.toUInt64 63)).toInt64) &&& 1) 1 = 0
      · rw [if_neg (show ¬ ¬ _ = (0 : Int32) from fun z => z c1), if_pos hi, hn]
        have a1 := l1.mp c1
        rw [Bool.and_eq_true] at a1
        rw [a1.1, Bool.true_and] at hq
        unfold okc at hq
        rw [a1.2, Bool.and_true] at hq
        rw [if_pos (fun c2 => by rw [l2.mp c2] at hq; cases hq)]
      · rw [if_pos c1]
theorem walk_L (hg : gears.toInt = G) (hG : G ≤ 6) (hb : b < 2 ^ G) (p1 len : Int32) (away : Nat → Int64) (L : Nat) (hL : L ≤ 63) (hlen : len.toInt = L) (hA : awayOk mayT safeT G b L away) : ∀ (r k s f : Nat) (x y : Int32) (ch : Nat → Int32), r + k = L → s < 64 → x.toInt = s → y.toInt = k → 8 * r < f → (lev (okc mayT safeT) G b r).1 s = true →
    ∃ ch', FX0_walk_L fu p1 len away safeT gears mayT f 0 x y 0 0 ch = some ch' ∧ (∀ i, i < k → ch' i = ch i) ∧ ∀ i, i < r → ch' (k + i) = Int32.ofNat (pth (okc mayT safeT) G b i s r) := by
  have q1 := t_1
  have t63 : (63 : Int32).toInt = 63 := rfl
  intro r
  induction r with
  | zero =>
    intro k s f x y ch hr hs hx hy hf hl
    obtain ⟨f, rfl⟩ : ∃ g, f = g + 1 := ⟨f - 1, by omega⟩
    rw [FX0_walk_L, if_pos rfl, if_pos (by rw [i_le]; omega)]
    exact ⟨ch, rfl, fun i hi => rfl, fun i hi => absurd hi (by omega)⟩
  | succ r ih =>
    intro k s f x y ch hr hs hx hy hf hl
    obtain ⟨f, rfl⟩ : ∃ g, f = g + 1 := ⟨f - 1, by omega⟩
    have s1 := i_sub len 1 (by omega) (by omega)
    have s2 := i_sub (len - 1) y (by omega) (by omega)
    have hi : pz_inb (len - 1 - y) 64 = true := i_inb.mpr (by omega)
    have hn : (len - 1 - y).toNatClampNeg = r := by have := i_nat (a := len - 1 - y) (by omega); omega
    have hy1 := i_add y 1 (by omega) (by omega)
    rw [FX0_walk_L, if_pos rfl, if_neg (by rw [i_le]; omega), if_neg (by rw [i_le]; omega), if_pos hi, hn]
    have hl0 := hl
    rw [lev_succ, Bool.and_eq_true] at hl0
    obtain ⟨f', x', e1, e2, e3⟩ := walk_in (fu := fu) (b := b) hg hG p1 len away (r + 1) s k hs (by omega) x y hx hy (by omega) (away r &&& safeT) (fun s hs => by rw [tb_and, hA r (by omega) s hs]; rfl) ch G 0 f 0 (by omega) rfl (by omega) hl0.1
    rw [e3]
    obtain ⟨n1, n2, n3⟩ := nxg_spec (mayT := mayT) (safeT := safeT) (G := G) (b := b) (by omega) hl
    obtain ⟨ch', k1, k2, k3⟩ := ih (k + 1) (s ^^^ 2 ^ nxg mayT safeT G b s (r + 1)) f' x' (y + 1) (upd ch k (Int32.ofNat (nxg mayT safeT G b s (r + 1)))) (by omega) (xor_lt64 hs (by omega)) e2 (by omega) (by omega) n2
    refine ⟨ch', k1, fun i hi => ?_, fun i hi => ?_⟩
    · rw [k2 i (by omega)]
      unfold upd
      rw [if_neg (by omega)]
    · cases i with
      | zero =>
        rw [Nat.add_zero, k2 k (by omega), pth_0]
        unfold upd
        rw [if_pos rfl]
      | succ i =>
        rw [show k + (i + 1) = k + 1 + i by omega, k3 i (by omega), pth_s]
        rfl
end
