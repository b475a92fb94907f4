/-! ===== the reference's greatest group ===== -/
section
variable {fu : Nat} {pa sh rs rl ro rs' rm' ro' : Nat → Int32} {rows : Int32} {R r J N : Nat} {op ov tp tv : Nat → Int32}
theorem mul200 (p x : Int32) (a i : Nat) (hp : p.toInt = a) (hx : x.toInt = i) (ha : a ≤ 1000) (hi : i ≤ 200) : ((200 * p) + x).toInt = 200 * a + i ∧ ((200 * p) + x).toNatClampNeg = 200 * a + i := by
  have t : (200 : Int32).toInt = 200 := rfl
  have h1 := i_mul 200 p (by rw [t]; omega) (by rw [t]; omega)
  have h2 := i_add (200 * p) x (by rw [h1, t]; omega) (by rw [h1, t]; omega)
  have h3 := i_nat (a := (200 * p) + x) (by rw [h2, h1, t]; omega)
  rw [h1, t] at h2
  omega
/-- what the reference's wake puts back -/
def backK (pa : Nat → Int32) (a b : Int32) (x y : Int32) : Nat → Int32 := if a = -1 then (if b = -1 then pa else upd pa b.toNatClampNeg y) else (if b = -1 then upd pa a.toNatClampNeg x else upd (upd pa a.toNatClampNeg x) b.toNatClampNeg y)
theorem wake_L (hrow : rowRel rows rs rl ro rs' rm' ro' R) (p1 p2 p3 : Int32) (k : Nat) (hp1 : p1.toInt = k) (hk : k < 400) (hp2 : p2.toInt = r) (hr : r < R) (hp3 : p3.toInt = N) (hN : N ≤ 200) (v4 v5 : Int32) (part : Nat → Int32) (hs : setOk part sh) (h1 : okPV (op k) (ov k) ∨ op k = -1) (h2 : okPV (tp k) (tv k) ∨ tp k = -1) : ∀ (n t f : Nat) (x : Int32) (now wakes : Nat → Int32), t + n = N → x.toInt = t → n < f → (∀ i, i < 8 → now i = wkS part sh rs rl ro r t i) → (∀ i, i < t → wakes (200 * k + i) = wkS part sh rs rl ro r (i + 1) 4) →
    ∃ (now' wakes' : Nat → Int32), FX12_wake_L fu p1 p2 p3 rs' rm' ro' sh op ov tp tv f v4 v5 x part now wakes = some (backK part (op k) (tp k) v4 v5, now', wakes') ∧ (∀ i, i < N → wakes' (200 * k + i) = wkS part sh rs rl ro r (i + 1) 4) ∧ ∀ q, (q < 200 * k ∨ 200 * k + 200 ≤ q) → wakes' q = wakes q := by
  have q1 := t_1
  have hi1 : pz_inb p1 400 = true := i_inb.mpr (by omega)
  have hn1 : p1.toNatClampNeg = k := by have := i_nat (a := p1) (by omega); omega
  intro n
  induction n with
  | zero =>
    intro t f x now wakes ht hx hf hnow hw
    obtain ⟨f, rfl⟩ : ∃ g, f = g + 1 := ⟨f - 1, by omega⟩
    have e : t = N := by omega
    subst e
    refine ⟨now, wakes, ?_, hw, fun q _ => rfl⟩
    rw [FX12_wake_L, if_pos (by rw [i_le]; omega), hn1]
    unfold backK
    rcases h1 with h1 | h1
    · have hne := okPV_ne h1
      obtain ⟨a, a1, a2, -⟩ := h1
      have ia := (rng_eq a1 a2).2.2.2.1
      rcases h2 with h2 | h2
      · have hne2 := okPV_ne h2
        obtain ⟨b, b1, b2, -⟩ := h2
        have ib := (rng_eq b1 b2).2.2.2.1
        simp only [if_pos hi1, if_neg hne, if_pos ia, if_neg hne2, if_pos ib]
      · simp only [if_pos hi1, if_neg hne, if_pos ia, if_pos h2]
    · rcases h2 with h2 | h2
      · have hne2 := okPV_ne h2
        obtain ⟨b, b1, b2, -⟩ := h2
        have ib := (rng_eq b1 b2).2.2.2.1
        simp only [if_pos hi1, if_pos h1, if_neg hne2, if_pos ib]
      · simp only [if_pos hi1, if_pos h1, if_pos h2]
  | succ n ih =>
    intro t f x now wakes ht hx hf hnow hw
    obtain ⟨f, rfl⟩ : ∃ g, f = g + 1 := ⟨f - 1, by omega⟩
    have hs1 := i_add x 1 (by omega) (by omega)
    have hxo : x + 1 = Int32.ofNat (t + 1) := i_ofNat (by omega) (by omega)
    have hrb := (row_both fu hrow hp2 hr (show 1 ≤ (x + 1).toInt by omega)).2
    have hok : stOk now := stOk_now hnow (wkS_ok hs hrow hr t (by omega))
    rw [FX12_wake_L, if_neg (by rw [i_le]; omega), hrb.1, Option.bind_some, ref_steps fu _ part sh now hs hrb.2 hok, Option.bind_some]
    obtain ⟨m1, m2⟩ := mul200 p1 x k t hp1 hx (by omega) (by omega)
    have hi2 : pz_inb (200 * p1 + x) 80000 = true := i_inb.mpr (by omega)
    rw [if_pos hi2, m2]
    have hst : ∀ i, i < 8 → st_step (rowO rs rl ro r (x + 1)) part sh now i = wkS part sh rs rl ro r (t + 1) i := by
      intro i hi
      rw [step_now hnow i hi, hxo]
      rfl
    obtain ⟨now', wakes', e1, e2, e3⟩ := ih (t + 1) f (x + 1) (st_step (rowO rs rl ro r (x + 1)) part sh now) (upd wakes (200 * k + t) (st_step (rowO rs rl ro r (x + 1)) part sh now 4)) (by omega) (by omega) (by omega) hst (fun i hi => by
      unfold upd
      by_cases g : i = t
      · rw [if_pos (by omega), hst 4 (by omega), g]
      · rw [if_neg (by omega)]; exact hw i (by omega))
    refine ⟨now', wakes', e1, e2, fun q hq => ?_⟩
    rw [e3 q hq]
    unfold upd
    rw [if_neg (by omega)]
theorem upd_back (f : Nat → Int32) (a : Nat) (v : Int32) : upd (upd f a v) a (f a) = f := by
  funext i
  unfold upd
  by_cases e : i = a
  · rw [if_pos e, e]
  · rw [if_neg e, if_neg e]
theorem upd_back2 (f : Nat → Int32) (a b : Nat) (hab : ¬ a = b) (v w : Int32) : upd (upd (upd (upd f a v) b w) a (f a)) b (f b) = f := by
  funext i
  unfold upd
  by_cases e : i = b
  · rw [if_pos e, e]
  · rw [if_neg e]
    by_cases e2 : i = a
    · rw [if_pos e2, e2]
    · rw [if_neg e2, if_neg e, if_neg e2]
theorem wake_eq (hfu : 10000 ≤ fu) (hs : setOk pa sh) (hrow : rowRel rows rs rl ro rs' rm' ro' R) (p1 p2 p3 : Int32) (k : Nat) (hp1 : p1.toInt = k) (hk : k < 400) (hp2 : p2.toInt = r) (hr : r < R) (hp3 : p3.toInt = N) (hN : N ≤ 200) (hok : susOk (op k) (ov k) (tp k) (tv k)) (now wakes : Nat → Int32) :
    ∃ (now' wakes' : Nat → Int32), FX12_wake fu p1 p2 p3 rs' rm' ro' pa sh now op ov tp tv wakes = some (pa, now', wakes') ∧ (∀ i, i < N → wakes' (200 * k + i) = Wo pa sh rs rl ro r op ov tp tv k (i + 1)) ∧ ∀ q, (q < 200 * k ∨ 200 * k + 200 ≤ q) → wakes' q = wakes q := by
  have hi1 : pz_inb p1 400 = true := i_inb.mpr (by omega)
  have hn1 : p1.toNatClampNeg = k := by have := i_nat (a := p1) (by omega); omega
  have hso := paK_ok hs hok
  have hst : ∀ part, ∀ i, i < 8 → st0 0 now i = wkS part sh rs rl ro r 0 i := fun part i hi => st0_same 0 now (fun _ => 0) i hi
  unfold FX12_wake
  rw [hn1, ref_starts (by omega)]
  rcases hok with ⟨h1, h2, h3, h4⟩ | ⟨hp, h2, h4⟩ | ⟨hp, hq, hl⟩
  · have h1' : ¬ ¬ op k = -1 := fun z => z h1
    have h2' : ¬ ¬ tp k = -1 := fun z => z h2
    simp only [if_pos hi1, if_neg h1', if_neg h2', if_pos h1, if_pos h2, Option.bind_some]
    obtain ⟨now', wakes', e1, e2, e3⟩ := wake_L (fu := fu) (ov := ov) (tv := tv) hrow p1 p2 p3 k hp1 hk hp2 hr hp3 hN 0 0 pa hs (Or.inr h1) (Or.inr h2) N 0 fu 0 (st0 0 now) wakes (by omega) rfl (by omega) (hst pa) (fun i hi => absurd hi (by omega))
    refine ⟨now', wakes', ?_, ?_, e3⟩
    · rw [e1]
      unfold backK
      rw [if_pos h1, if_pos h2]
    · intro i hi
      rw [e2 i hi]
      unfold Wo Wk paK
      rw [if_pos h2, if_pos h1]
  · have hne := okPV_ne hp
    have h2' : ¬ ¬ tp k = -1 := fun z => z h2
    obtain ⟨a, a1, a2, a3, a4⟩ := id hp
    obtain ⟨-, -, na, ia, -⟩ := rng_eq a1 a2
    simp only [if_pos hi1, if_pos hne, if_neg hne, if_pos ia, if_neg h2', if_pos h2, Option.bind_some, na]
    obtain ⟨now', wakes', e1, e2, e3⟩ := wake_L (fu := fu) (ov := ov) (tv := tv) hrow p1 p2 p3 k hp1 hk hp2 hr hp3 hN (pa a) 0 (upd pa a (ov k)) (setOk_part hs a2 a3 a4) (Or.inl hp) (Or.inr h2) N 0 fu 0 (st0 0 now) wakes (by omega) rfl (by omega) (hst _) (fun i hi => absurd hi (by omega))
    refine ⟨now', wakes', ?_, ?_, e3⟩
    · rw [e1]
      unfold backK
      rw [if_neg hne, if_pos h2, na, upd_back]
    · intro i hi
      rw [e2 i hi]
      unfold Wo Wk paK
      rw [if_pos h2, if_neg hne, na]
  · have hne := okPV_ne hp
    have hne2 := okPV_ne hq
    obtain ⟨a, a1, a2, a3, a4⟩ := id hp
    obtain ⟨b, b1, b2, b3, b4⟩ := id hq
    obtain ⟨-, -, na, ia, -⟩ := rng_eq a1 a2
    obtain ⟨-, -, nb, ib, -⟩ := rng_eq b1 b2
    simp only [if_pos hi1, if_pos hne, if_neg hne, if_pos ia, if_pos hne2, if_neg hne2, if_pos ib, Option.bind_some, na, nb]
    obtain ⟨now', wakes', e1, e2, e3⟩ := wake_L (fu := fu) (ov := ov) (tv := tv) hrow p1 p2 p3 k hp1 hk hp2 hr hp3 hN (pa a) (pa b) (upd (upd pa a (ov k)) b (tv k)) (setOk_part (setOk_part hs a2 a3 a4) b2 b3 b4) (Or.inl hp) (Or.inl hq) N 0 fu 0 (st0 0 now) wakes (by omega) rfl (by omega) (hst _) (fun i hi => absurd hi (by omega))
    refine ⟨now', wakes', ?_, ?_, e3⟩
    · rw [e1]
      unfold backK
      rw [if_neg hne, if_neg hne2, na, nb, upd_back2 pa a b (by omega)]
    · intro i hi
      rw [e2 i hi]
      unfold Wo Wk paK
      rw [if_neg hne2, if_neg hne, na, nb]
/-- the reference's wakes of the first J -/
def wkAll (off : Nat → Nat → Int32) (N J : Nat) (wakes : Nat → Int32) : Prop := ∀ k, k < J → ∀ i, i < N → wakes (200 * k + i) = off k (i + 1)
theorem same_L (fu : Nat) {off : Nat → Nat → Int32} (p1 p2 p3 : Int32) (a b : Nat) (h1 : p1.toInt = a) (h2 : p2.toInt = b) (h3 : p3.toInt = N) (hN : N ≤ 200) (hJ : J ≤ 318) (ha : a < J) (hb : b < J) {wakes : Nat → Int32} (hw : wkAll off N J wakes) : ∀ (n i f : Nat) (x : Int32), i + n = N → x.toInt = i → n < f → (∀ j, j < i → off a (j + 1) = off b (j + 1)) → ∃ v, FX12_isSame_L fu p1 p2 p3 wakes f x = some v ∧ ((v = 1 ∧ agr off N a b) ∨ (v = 0 ∧ ¬ agr off N a b)) := by
  have q1 := t_1
  intro n
  induction n with
  | zero =>
    intro i f x hi hx hf he
    obtain ⟨f, rfl⟩ : ∃ g, f = g + 1 := ⟨f - 1, by omega⟩
    rw [FX12_isSame_L, if_pos (by rw [i_le]; omega)]
    refine ⟨1, rfl, Or.inl ⟨rfl, fun j g1 g2 => ?_⟩⟩
    have := he (j - 1) (by omega)
    rw [show j - 1 + 1 = j by omega] at this
    exact this
  | succ n ih =>
    intro i f x hi hx hf he
    obtain ⟨f, rfl⟩ : ∃ g, f = g + 1 := ⟨f - 1, by omega⟩
    have hs1 := i_add x 1 (by omega) (by omega)
    obtain ⟨m1, m2⟩ := mul200 p1 x a i h1 hx (by omega) (by omega)
    obtain ⟨m3, m4⟩ := mul200 p2 x b i h2 hx (by omega) (by omega)
    have hi1 : pz_inb (200 * p1 + x) 80000 = true := i_inb.mpr (by omega)
    have hi2 : pz_inb (200 * p2 + x) 80000 = true := i_inb.mpr (by omega)
    rw [FX12_isSame_L, if_neg (by rw [i_le]; omega), if_pos hi1, if_pos hi2, m2, m4, hw a ha i (by omega), hw b hb i (by omega)]
    by_cases g : off a (i + 1) = off b (i + 1)
    · rw [if_pos g]
      refine ih (i + 1) f (x + 1) (by omega) (by omega) (by omega) (fun j hj => ?_)
      by_cases e : j = i
      · rw [e]; exact g
      · exact he j (by omega)
    · rw [if_neg g]
      exact ⟨0, rfl, Or.inr ⟨rfl, fun z => g (z (i + 1) (by omega) (by omega))⟩⟩
theorem ggrp_in (hfu : 10000 ≤ fu) {off : Nat → Nat → Int32} (p1 p2 : Int32) (h2 : p2.toInt = N) (hN : N ≤ 200) (sus : Int32) (hJ : J ≤ 318) {wakes : Nat → Int32} (hw : wkAll off N J wakes) (k l : Nat) (hk : k < J) (hl : isLd off N k l) (m x4 : Int32) (h4 : x4.toInt = k) (part now grp : Nat → Int32) : ∀ (n j f : Nat) (x : Int32), j + n = l → x.toInt = j → n < f → ∃ f', f ≤ f' + (n + 1) ∧ FX12_greatestGroup_L fu p1 p2 sus rs' rm' ro' sh op ov tp tv f 2 m x4 x part now wakes grp = FX12_greatestGroup_L fu p1 p2 sus rs' rm' ro' sh op ov tp tv f' 1 (fJ9_max_7cf53_r m (grp l + 1)) (x4 + 1) 0 part now wakes (upd grp l (grp l + 1)) := by
  have q1 := t_1
  have hlk := hl.1
  intro n
  induction n with
  | zero =>
    intro j f x hj hx hf
    obtain ⟨f, rfl⟩ : ∃ g, f = g + 1 := ⟨f - 1, by omega⟩
    have e : j = l := by omega
    subst e
    have hi : pz_inb x 400 = true := i_inb.mpr (by omega)
    have hn : x.toNatClampNeg = j := by have := i_nat (a := x) (by omega); omega
    rw [FX12_greatestGroup_L, if_neg (show ¬ (2 : Nat) = 0 by omega), if_neg (show ¬ (2 : Nat) = 1 by omega), if_pos rfl]
    unfold FX12_isSame
    obtain ⟨v, e1, e2⟩ := same_L fu x x4 p2 j k hx h4 h2 hN hJ (show j < J by omega) hk hw N 0 fu 0 (by omega) rfl (by omega) (fun j hj => absurd hj (by omega))
    rw [e1, Option.bind_some]
    rcases e2 with ⟨z, -⟩ | ⟨-, z⟩
    · rw [z, if_pos (show ¬ (1 : Int32) = 0 by decide), if_pos hi, if_pos hi, if_pos hi, hn, up_eq]
      exact ⟨f, by omega, rfl⟩
    · exact absurd hl.2.1 z
  | succ n ih =>
    intro j f x hj hx hf
    obtain ⟨f, rfl⟩ : ∃ g, f = g + 1 := ⟨f - 1, by omega⟩
    have hs1 := i_add x 1 (by omega) (by omega)
    rw [FX12_greatestGroup_L, if_neg (show ¬ (2 : Nat) = 0 by omega), if_neg (show ¬ (2 : Nat) = 1 by omega), if_pos rfl]
    unfold FX12_isSame
    obtain ⟨v, e1, e2⟩ := same_L fu x x4 p2 j k hx h4 h2 hN hJ (show j < J by omega) hk hw N 0 fu 0 (by omega) rfl (by omega) (fun j hj => absurd hj (by omega))
    rw [e1, Option.bind_some]
    rcases e2 with ⟨-, z⟩ | ⟨z, -⟩
    · exact absurd z (hl.2.2 j (by omega))
    · rw [z, if_neg (show ¬ ¬ (0 : Int32) = 0 from fun z => z rfl)]
      obtain ⟨f', k1, k2⟩ := ih (j + 1) f (x + 1) (by omega) (by omega) (by omega)
      exact ⟨f', by omega, k2⟩
theorem ggrp_out (hfu : 10000 ≤ fu) {off : Nat → Nat → Int32} (p1 p2 : Int32) (h2 : p2.toInt = N) (hN : N ≤ 200) (sus : Int32) (hsus : sus.toInt = J) (hJ : J ≤ 318) {wakes : Nat → Int32} (hw : wkAll off N J wakes) (lN : Nat → Nat) (hl : ∀ k, k < J → isLd off N k (lN k)) (part now : Nat → Int32) : ∀ (n k f : Nat) (x m z : Int32) (grp : Nat → Int32), k + n = J → x.toInt = k → 400 * n < f → ∃ grp', FX12_greatestGroup_L fu p1 p2 sus rs' rm' ro' sh op ov tp tv f 1 m x z part now wakes grp = some (szN lN n k grp m, part, now, wakes, grp') := by
  have q1 := t_1
  intro n
  induction n with
  | zero =>
    intro k f x m z grp hk hx hf
    obtain ⟨f, rfl⟩ : ∃ g, f = g + 1 := ⟨f - 1, by omega⟩
    rw [FX12_greatestGroup_L, if_neg (show ¬ (1 : Nat) = 0 by omega), if_pos rfl, if_pos (by rw [i_le]; omega)]
    exact ⟨grp, rfl⟩
  | succ n ih =>
    intro k f x m z grp hk hx hf
    obtain ⟨f, rfl⟩ : ∃ g, f = g + 1 := ⟨f - 1, by omega⟩
    have hs1 := i_add x 1 (by omega) (by omega)
    rw [FX12_greatestGroup_L, if_neg (show ¬ (1 : Nat) = 0 by omega), if_pos rfl, if_neg (by rw [i_le]; omega)]
    have hlk := (hl k (by omega)).1
    obtain ⟨f', a1, a2⟩ := ggrp_in (rs' := rs') (rm' := rm') (ro' := ro') (sh := sh) (op := op) (ov := ov) (tp := tp) (tv := tv) hfu p1 p2 h2 hN sus hJ hw k (lN k) (by omega) (hl k (by omega)) m x hx part now grp (lN k) 0 f 0 (by omega) rfl (by omega)
    rw [a2, szN]
    exact ih (k + 1) f' (x + 1) _ 0 _ (by omega) (by omega) (by omega)
theorem ggrp_0 (hfu : 10000 ≤ fu) (hs : setOk pa sh) (hrow : rowRel rows rs rl ro rs' rm' ro' R) (p1 p2 : Int32) (h1 : p1.toInt = r) (hr : r < R) (h2 : p2.toInt = N) (hN : N ≤ 200) (sus : Int32) (hsus : sus.toInt = J) (hJ : J ≤ 318) (hok : ∀ k, k < J → susOk (op k) (ov k) (tp k) (tv k)) : ∀ (n k f : Nat) (x : Int32) (now wakes grp : Nat → Int32), k + n = J → x.toInt = k → n < f → wkAll (Wo pa sh rs rl ro r op ov tp tv) N k wakes → (∀ i, i < k → grp i = 0) → ∃ (f' : Nat) (now' wakes' grp' : Nat → Int32), f ≤ f' + (n + 1) ∧ FX12_greatestGroup_L fu p1 p2 sus rs' rm' ro' sh op ov tp tv f 0 x 0 0 pa now wakes grp = FX12_greatestGroup_L fu p1 p2 sus rs' rm' ro' sh op ov tp tv f' 1 0 0 0 pa now' wakes' grp' ∧ wkAll (Wo pa sh rs rl ro r op ov tp tv) N J wakes' ∧ ∀ i, i < J → grp' i = 0 := by
  have q1 := t_1
  intro n
  induction n with
  | zero =>
    intro k f x now wakes grp hk hx hf hw hg
    obtain ⟨f, rfl⟩ : ∃ g, f = g + 1 := ⟨f - 1, by omega⟩
    have e : k = J := by omega
    subst e
    rw [FX12_greatestGroup_L, if_pos rfl, if_pos (by rw [i_le]; omega)]
    exact ⟨f, now, wakes, grp, by omega, rfl, hw, hg⟩
  | succ n ih =>
    intro k f x now wakes grp hk hx hf hw hg
    obtain ⟨f, rfl⟩ : ∃ g, f = g + 1 := ⟨f - 1, by omega⟩
    have hs1 := i_add x 1 (by omega) (by omega)
    have hi : pz_inb x 400 = true := i_inb.mpr (by omega)
    have hn : x.toNatClampNeg = k := by have := i_nat (a := x) (by omega); omega
    obtain ⟨now1, wakes1, e1, e2, e3⟩ := wake_eq (fu := fu) hfu hs hrow x p1 p2 k hx (by omega) h1 hr h2 hN (hok k (by omega)) now wakes
    rw [FX12_greatestGroup_L, if_pos rfl, if_neg (by rw [i_le]; omega), e1, Option.bind_some, if_pos hi, hn]
    obtain ⟨f', now', wakes', grp', a1, a2, a3, a4⟩ := ih (k + 1) f (x + 1) now1 wakes1 (upd grp k 0) (by omega) (by omega) (by omega) (fun i hi q hq => by
      by_cases g : i = k
      · rw [g]; exact e2 q hq
      · rw [e3 _ (Or.inl (by omega))]; exact hw i (by omega) q hq) (fun i hi => by
      unfold upd
      by_cases g : i = k
      · rw [if_pos g]
      · rw [if_neg g]; exact hg i (by omega))
    exact ⟨f', now', wakes', grp', by omega, a2, a3, a4⟩
theorem ggrp_eq (hfu : 10000000 ≤ fu) (hs : setOk pa sh) (hrow : rowRel rows rs rl ro rs' rm' ro' R) (p1 p2 : Int32) (h1 : p1.toInt = r) (hr : r < R) (h2 : p2.toInt = N) (hN : N ≤ 200) (sus : Int32) (hsus : sus.toInt = J) (hJ : J ≤ 318) (hok : ∀ k, k < J → susOk (op k) (ov k) (tp k) (tv k)) (lN : Nat → Nat) (hl : ∀ k, k < J → isLd (Wo pa sh rs rl ro r op ov tp tv) N k (lN k)) (now wakes grp : Nat → Int32) :
    ∃ (now' wakes' grp' : Nat → Int32), FX12_greatestGroup fu p1 p2 sus rs' rm' ro' pa sh now op ov tp tv wakes grp = some (szN lN J 0 (fun _ => 0) 0, pa, now', wakes', grp') := by
  unfold FX12_greatestGroup
  obtain ⟨f', now', wakes', grp', a1, a2, a3, a4⟩ := ggrp_0 (fu := fu) (by omega) hs hrow p1 p2 h1 hr h2 hN sus hsus hJ hok J 0 fu 0 now wakes grp (by omega) rfl (by omega) (fun k hk => absurd hk (by omega)) (fun i hi => absurd hi (by omega))
  rw [a2]
  obtain ⟨grp2, e⟩ := ggrp_out (rs' := rs') (rm' := rm') (ro' := ro') (sh := sh) (op := op) (ov := ov) (tp := tp) (tv := tv) (fu := fu) (by omega) p1 p2 h2 hN sus hsus hJ a3 lN hl pa now' J 0 f' 0 0 0 grp' (by omega) rfl (by omega)
  rw [e, szN_congr lN J (fun k hk => by have := (hl k hk).1; omega) J 0 grp' (fun _ => 0) 0 (by omega) a4]
  exact ⟨now', wakes', grp2, rfl⟩
end
