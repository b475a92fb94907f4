/-! ===== how a ROW parts the SUSPECTS: the class ===== -/
/-- the PARTS with a SUSPECT who FAILS -/
def paK (pa : Nat → Int32) (p v q w : Int32) : Nat → Int32 := if q = -1 then (if p = -1 then pa else upd pa p.toNatClampNeg v) else upd (if p = -1 then pa else upd pa p.toNatClampNeg v) q.toNatClampNeg w
theorem okPV_ne {p v : Int32} (h : okPV p v) : ¬ p = -1 := by
  obtain ⟨a, h1, h2, -⟩ := h
  have := t_m1
  rw [i_eq]
  omega
theorem upd_same5 {f g : Nat → Int32} (h : ∀ i, i < 5 → f i = g i) (a : Nat) (v : Int32) : ∀ i, i < 5 → upd f a v i = upd g a v i := by
  intro i hi
  unfold upd
  by_cases e : i = a
  · rw [if_pos e, if_pos e]
  · rw [if_neg e, if_neg e]; exact h i hi
theorem paK_cls {c p v q w : Int32} {pa pt : Nat → Int32} (h : susRel c p v q w) (hk : susOk p v q w) (he : ∀ i, i < 5 → pt i = pa i) : ∀ i, i < 5 → fX10_fail_a1 c pt i = paK pa p v q w i := by
  unfold paK
  rcases hk with ⟨h1, h2, h3, h4⟩ | ⟨hp, h2, h4⟩ | ⟨hp, hq, hl⟩
  · subst h1 h2 h3 h4
    rw [fail_none h, if_pos rfl, if_pos rfl]
    exact he
  · subst h2 h4
    have hne := okPV_ne hp
    obtain ⟨a, a1, a2, a3, a4⟩ := hp
    have hn := (rng_eq a1 a2).2.2.1
    rw [fail_one h a1 a2 a3 a4, if_pos rfl, if_neg hne, hn]
    exact upd_same5 he a v
  · have hne := okPV_ne hp
    have hne2 := okPV_ne hq
    obtain ⟨a, a1, a2, a3, a4⟩ := hp
    obtain ⟨b, b1, b2, b3, b4⟩ := hq
    have hn := (rng_eq a1 a2).2.2.1
    have hn2 := (rng_eq b1 b2).2.2.1
    rw [fail_two h a1 a2 a3 a4 b1 b2 b3 b4, if_neg hne2, if_neg hne, hn, hn2]
    exact upd_same5 (upd_same5 he a v) b w
theorem paK_ok {p v q w : Int32} {pa sh : Nat → Int32} (hs : setOk pa sh) (hk : susOk p v q w) : setOk (paK pa p v q w) sh := by
  unfold paK
  rcases hk with ⟨h1, h2, h3, h4⟩ | ⟨hp, h2, h4⟩ | ⟨hp, hq, hl⟩
  · rw [if_pos h2, if_pos h1]; exact hs
  · have hne := okPV_ne hp
    obtain ⟨a, a1, a2, a3, a4⟩ := hp
    rw [if_pos h2, if_neg hne, (rng_eq a1 a2).2.2.1]
    exact setOk_part hs a2 a3 a4
  · have hne := okPV_ne hp
    have hne2 := okPV_ne hq
    obtain ⟨a, a1, a2, a3, a4⟩ := hp
    obtain ⟨b, b1, b2, b3, b4⟩ := hq
    rw [if_neg hne2, if_neg hne, (rng_eq a1 a2).2.2.1, (rng_eq b1 b2).2.2.1]
    exact setOk_part (setOk_part hs a2 a3 a4) b2 b3 b4
/-- the state behind t steps of a row -/
def wkS (pa sh rs rl ro : Nat → Int32) (r : Nat) : Nat → (Nat → Int32)
  | 0 => st0 0 (fun _ => 0)
  | t + 1 => st_step (rowO rs rl ro r (Int32.ofNat (t + 1))) pa sh (wkS pa sh rs rl ro r t)
theorem rowO_in {rows : Int32} {rs rl ro rs' rm' ro' : Nat → Int32} {R r : Nat} (h : rowRel rows rs rl ro rs' rm' ro' R) (hr : r < R) (t : Nat) (ht : t ≤ 1000) : in30 (rowO rs rl ro r (Int32.ofNat (t + 1))) := by
  have hR := h.2.1
  have e := i_lit (t + 1) (by omega)
  exact (row_both 0 h (p1 := Int32.ofNat r) (i_lit r (by omega)) hr (x := Int32.ofNat (t + 1)) (by omega)).2.2
theorem wkS_ok {rows : Int32} {pa sh rs rl ro rs' rm' ro' : Nat → Int32} {R r : Nat} (hs : setOk pa sh) (h : rowRel rows rs rl ro rs' rm' ro' R) (hr : r < R) : ∀ t, t ≤ 1000 → stOk (wkS pa sh rs rl ro r t) := by
  intro t
  induction t with
  | zero => intro _; exact st0_ok ⟨by decide, by decide⟩
  | succ t ih =>
    intro ht
    exact step_ok hs (rowO_in h hr t (by omega)) (ih (by omega))
/-! ===== groups of those that had the same OFFS ===== -/
def agr (off : Nat → Nat → Int32) (t j k : Nat) : Prop := ∀ i, 1 ≤ i → i ≤ t → off j i = off k i
def isLd (off : Nat → Nat → Int32) (t k j : Nat) : Prop := j ≤ k ∧ agr off t j k ∧ ∀ i, i < j → ¬ agr off t i k
section
variable {off : Nat → Nat → Int32}
theorem agr_refl (t k : Nat) : agr off t k k := fun _ _ _ => rfl
theorem agr_symm {t j k : Nat} (h : agr off t j k) : agr off t k j := fun i h1 h2 => (h i h1 h2).symm
theorem agr_trans {t i j k : Nat} (h : agr off t i j) (h' : agr off t j k) : agr off t i k := fun x h1 h2 => (h x h1 h2).trans (h' x h1 h2)
theorem agr_pre {t j k : Nat} (h : agr off (t + 1) j k) : agr off t j k := fun i h1 h2 => h i h1 (by omega)
theorem agr_succ {t j k : Nat} (h : agr off t j k) (he : off j (t + 1) = off k (t + 1)) : agr off (t + 1) j k := by
  intro i h1 h2
  by_cases g : i = t + 1
  · rw [g]; exact he
  · exact h i h1 (by omega)
theorem ld_uni {t k j j' : Nat} (h : isLd off t k j) (h' : isLd off t k j') : j = j' := by
  rcases Nat.lt_trichotomy j j' with g | g | g
  · exact absurd h.2.1 (h'.2.2 j g)
  · exact g
  · exact absurd h'.2.1 (h.2.2 j' g)
theorem ld_same {t o k j j' : Nat} (ha : agr off t o k) (h : isLd off t o j) (h' : isLd off t k j') : j = j' := by
  rcases Nat.lt_trichotomy j j' with g | g | g
  · exact absurd (agr_trans h.2.1 ha) (h'.2.2 j g)
  · exact g
  · exact absurd (agr_trans h'.2.1 (agr_symm ha)) (h.2.2 j' g)
theorem ld_stay {t k j : Nat} (h : isLd off t k j) (he : off j (t + 1) = off k (t + 1)) : isLd off (t + 1) k j := ⟨h.1, agr_succ h.2.1 he, fun i hi z => h.2.2 i hi (agr_pre z)⟩
/-- the leaders of those from a on to ahead of b -/
def ldOk (off : Nat → Nat → Int32) (t a b : Nat) (ld : Nat → Int32) : Prop := ∀ k, a ≤ k → k < b → ∃ j : Nat, (ld k).toInt = j ∧ isLd off t k j
/-- the states tell the OFFS -/
def offOk (off : Nat → Nat → Int32) (t J : Nat) (states : Nat → Int64) : Prop := ∀ k, k < J → ((states k &&& 4095).toInt32) - 2048 = off k t
theorem same_off (fu : Nat) {t J : Nat} {states : Nat → Int64} (hJ : J ≤ 318) (h : offOk off t J states) {p q : Int32} {j k : Nat} (hp : p.toInt = j) (hj : j < J) (hq : q.toInt = k) (hk : k < J) : FX1_sameOff fu p q states = some (if off j t = off k t then 1 else 0) := by
  have hi1 : pz_inb p 318 = true := i_inb.mpr (by omega)
  have hi2 : pz_inb q 318 = true := i_inb.mpr (by omega)
  have hn1 : p.toNatClampNeg = j := by have := i_nat (a := p) (by omega); omega
  have hn2 : q.toNatClampNeg = k := by have := i_nat (a := q) (by omega); omega
  unfold FX1_sameOff
  rw [if_pos hi1, if_pos hi2, hn1, hn2, h j hj, h k hk]
  by_cases g : off j t = off k t
  · rw [if_neg (show ¬ ¬ off j t = off k t from fun z => z g), if_pos g]
  · rw [if_pos g, if_neg g]
theorem new_L (fu : Nat) {t J : Nat} {states : Nat → Int64} (hJ : J ≤ 318) (h : offOk off (t + 1) J states) {p1 p2 : Int32} {k la : Nat} (hp1 : p1.toInt = k) (hk : k < J) (hp2 : p2.toInt = la) (hla : isLd off t k la) {ld la0 : Nat → Int32} (hl : ldOk off (t + 1) 0 k ld) (hl0 : ldOk off t 0 J la0) : ∀ (n o f : Nat) (x : Int32), o + n = k → x.toInt = o → la < o → n < f → (∀ i, i < o → ¬ agr off (t + 1) i k) → ∃ (v : Int32) (j : Nat), FX1_newLeader_L fu p1 p2 states ld la0 f x = some v ∧ v.toInt = j ∧ isLd off (t + 1) k j := by
  have q1 := t_1
  intro n
  induction n with
  | zero =>
    intro o f x ho hx hlo hf hno
    obtain ⟨f, rfl⟩ : ∃ g, f = g + 1 := ⟨f - 1, by omega⟩
    rw [FX1_newLeader_L, if_pos (by rw [i_le]; omega)]
    exact ⟨p1, k, rfl, hp1, Nat.le_refl _, agr_refl _ _, fun i hi => hno i (by omega)⟩
  | succ n ih =>
    intro o f x ho hx hlo hf hno
    obtain ⟨f, rfl⟩ : ∃ g, f = g + 1 := ⟨f - 1, by omega⟩
    have hi : pz_inb x 318 = true := i_inb.mpr (by omega)
    have hn : x.toNatClampNeg = o := by have := i_nat (a := x) (by omega); omega
    have hs := i_add x 1 (by omega) (by omega)
    have go : ¬ agr off (t + 1) o k → ∃ (v : Int32) (j : Nat), FX1_newLeader_L fu p1 p2 states ld la0 f (x + 1) = some v ∧ v.toInt = j ∧ isLd off (t + 1) k j := by
      intro hz
      refine ih (o + 1) f (x + 1) (by omega) (by omega) (by omega) (by omega) (fun i hi => ?_)
      by_cases g : i = o
      · rw [g]; exact hz
      · exact hno i (by omega)
    rw [FX1_newLeader_L, if_neg (by rw [i_le]; omega), if_pos hi, hn]
    obtain ⟨j0, j1, j2⟩ := hl0 o (by omega) (by omega)
    by_cases c1 : la0 o = p2
    · rw [if_neg (show ¬ ¬ la0 o = p2 from fun z => z c1), if_pos hi]
      have e : j0 = la := by rw [c1] at j1; omega
      subst e
      have hao : agr off t o k := agr_trans (agr_symm j2.2.1) hla.2.1
      obtain ⟨j', j3, j4⟩ := hl o (by omega) (by omega)
      by_cases c2 : ld o = x
      · rw [if_neg (show ¬ ¬ ld o = x from fun z => z c2), same_off fu hJ h hp1 hk hx (show o < J by omega), Option.bind_some]
        by_cases c3 : off k (t + 1) = off o (t + 1)
        · rw [if_pos c3, if_neg (show ¬ (1 : Int32) = 0 by decide)]
          exact ⟨x, o, rfl, hx, by omega, agr_succ hao c3.symm, hno⟩
        · rw [if_neg c3, if_pos rfl]
          exact go (fun z => c3 (z (t + 1) (by omega) (by omega)).symm)
      · rw [if_pos c2]
        refine go (fun z => ?_)
        have hlt : j' < o := by
          have h1 := j4.1
          have h2 : ¬ j' = o := fun e => c2 (i_eq.mpr (by rw [j3, hx, e]))
          omega
        exact hno j' hlt (agr_trans j4.2.1 z)
    · rw [if_pos c1]
      refine go (fun z => c1 (i_eq.mpr ?_))
      rw [j1, hp2, ld_same (agr_pre z) j2 hla]
theorem part_L (fu : Nat) (hfu : 1000 ≤ fu) {t J : Nat} {states : Nat → Int64} (mb : Int32) (hmb : mb.toInt = J) (hJ : J ≤ 318) (h : offOk off (t + 1) J states) {la0 : Nat → Int32} (hl0 : ldOk off t 0 J la0) : ∀ (n k f : Nat) (x : Int32) (ld : Nat → Int32), k + n = J → x.toInt = k → n < f → ldOk off (t + 1) 0 k ld → (∀ i, k ≤ i → i < J → ld i = la0 i) → ∃ ld', FX1_partGroups_L fu mb states f x ld la0 = some (ld', la0) ∧ ldOk off (t + 1) 0 J ld' := by
  have q1 := t_1
  intro n
  induction n with
  | zero =>
    intro k f x ld hk hx hf hl hr
    obtain ⟨f, rfl⟩ : ∃ g, f = g + 1 := ⟨f - 1, by omega⟩
    have : k = J := by omega
    subst this
    rw [FX1_partGroups_L, if_pos (by rw [i_le]; omega)]
    exact ⟨ld, rfl, hl⟩
  | succ n ih =>
    intro k f x ld hk hx hf hl hr
    obtain ⟨f, rfl⟩ : ∃ g, f = g + 1 := ⟨f - 1, by omega⟩
    have hi : pz_inb x 318 = true := i_inb.mpr (by omega)
    have hn : x.toNatClampNeg = k := by have := i_nat (a := x) (by omega); omega
    have hs := i_add x 1 (by omega) (by omega)
    obtain ⟨la, l1, l2⟩ := hl0 k (by omega) (by omega)
    have hlk := l2.1
    rw [FX1_partGroups_L, if_neg (by rw [i_le]; omega), if_pos hi, hn, same_off fu hJ h hx (show k < J by omega) l1 (by omega), Option.bind_some]
    by_cases c : off k (t + 1) = off la (t + 1)
    · rw [if_pos c, if_pos (show ¬ (1 : Int32) = 0 by decide)]
      refine ih (k + 1) f (x + 1) ld (by omega) (by omega) (by omega) ?_ (fun i h1 h2 => hr i (by omega) h2)
      intro i h1 h2
      by_cases g : i = k
      · subst g
        rw [hr i (Nat.le_refl _) (by omega)]
        exact ⟨la, l1, ld_stay l2 c.symm⟩
      · exact hl i h1 (by omega)
    · rw [if_neg c, if_neg (show ¬ ¬ (0 : Int32) = 0 from fun z => z rfl)]
      unfold FX1_newLeader
      have hne : ¬ la = k := fun z => c (by rw [z])
      have hsl := i_add (la0 k) 1 (by omega) (by omega)
      obtain ⟨v, j, e1, e2, e3⟩ := new_L fu hJ h hx (show k < J by omega) l1 l2 hl hl0 (k - (la + 1)) (la + 1) fu (la0 k + 1) (by omega) (by omega) (by omega) (by omega) (fun i hi z => by
        by_cases g : i = la
        · exact c (by rw [← g]; exact (z (t + 1) (by omega) (by omega)).symm)
        · exact l2.2.2 i (by omega) (agr_pre z))
      rw [e1, Option.bind_some, if_pos hi]
      refine ih (k + 1) f (x + 1) (upd ld k v) (by omega) (by omega) (by omega) ?_ (fun i h1 h2 => ?_)
      · intro i h1 h2
        by_cases g : i = k
        · subst g
          rw [up_eq]
          exact ⟨j, e2, e3⟩
        · rw [up_ne ld v g]
          exact hl i h1 (by omega)
      · rw [up_ne ld v (by omega)]
        exact hr i (by omega) h2
theorem part_eq (fu : Nat) (hfu : 1000 ≤ fu) {t J : Nat} {states : Nat → Int64} (mb : Int32) (hmb : mb.toInt = J) (hJ : J ≤ 318) (h : offOk off (t + 1) J states) (ld la : Nat → Int32) (hl : ldOk off t 0 J ld) : ∃ ld' la', FX1_partGroups fu mb states ld la = some (ld', la') ∧ ldOk off (t + 1) 0 J ld' := by
  have q0 := t_0
  have hn : mb.toNatClampNeg = J := by have := i_nat (a := mb) (by omega); omega
  unfold FX1_partGroups
  rw [hn, if_pos ⟨by decide, by decide, by rw [i_lt]; omega, by omega, by omega⟩]
  have he : ∀ i, i < J → va_cpy ld la 0 0 J i = ld i := by
    intro i hi
    unfold va_cpy
    rw [if_pos ⟨by omega, by omega⟩]
    congr 1
    omega
  obtain ⟨ld', e1, e2⟩ := part_L fu hfu mb hmb hJ h (la0 := va_cpy ld la 0 0 J) (fun k h1 h2 => by rw [he k h2]; exact hl k h1 h2) J 0 fu 0 ld (by omega) rfl (by omega) (fun k h1 h2 => absurd h2 (by omega)) (fun i h1 h2 => (he i h2).symm)
  exact ⟨ld', _, e1, e2⟩
/-- counting -/
def szN (ld : Nat → Nat) : Nat → Nat → (Nat → Int32) → Int32 → Int32
  | 0, _, _, m => m
  | n + 1, k, g, m => szN ld n (k + 1) (upd g (ld k) (g (ld k) + 1)) (fJ9_max_7cf53_r m (g (ld k) + 1))
theorem szN_congr (ld : Nat → Nat) (J : Nat) (h : ∀ k, k < J → ld k < J) : ∀ (n k : Nat) (g g' : Nat → Int32) (m : Int32), k + n = J → (∀ i, i < J → g i = g' i) → szN ld n k g m = szN ld n k g' m := by
  intro n
  induction n with
  | zero => intro k g g' m hk he; rfl
  | succ n ih =>
    intro k g g' m hk he
    rw [szN, szN, he (ld k) (h k (by omega))]
    refine ih (k + 1) _ _ _ (by omega) (fun i hi => ?_)
    unfold upd
    by_cases c : i = ld k
    · rw [if_pos c, if_pos c]
    · rw [if_neg c, if_neg c]; exact he i hi
theorem size_L (fu : Nat) (mb : Int32) (J : Nat) (hmb : mb.toInt = J) (hJ : J ≤ 318) (ld : Nat → Int32) (lN : Nat → Nat) (hl : ∀ k, k < J → (ld k).toInt = lN k ∧ lN k < J) : ∀ (n k f : Nat) (x m : Int32) (sz : Nat → Int32), k + n = J → x.toInt = k → n < f → ∃ sz', FX1_greatestSize_L fu mb ld f m x sz = some (szN lN n k sz m, sz') := by
  have q1 := t_1
  intro n
  induction n with
  | zero =>
    intro k f x m sz hk hx hf
    obtain ⟨f, rfl⟩ : ∃ g, f = g + 1 := ⟨f - 1, by omega⟩
    rw [FX1_greatestSize_L, if_pos (by rw [i_le]; omega)]
    exact ⟨_, rfl⟩
  | succ n ih =>
    intro k f x m sz hk hx hf
    obtain ⟨f, rfl⟩ : ∃ g, f = g + 1 := ⟨f - 1, by omega⟩
    have hi : pz_inb x 318 = true := i_inb.mpr (by omega)
    have hn : x.toNatClampNeg = k := by have := i_nat (a := x) (by omega); omega
    have hs := i_add x 1 (by omega) (by omega)
    obtain ⟨l1, l2⟩ := hl k (by omega)
    have hi2 : pz_inb (ld k) 318 = true := i_inb.mpr (by omega)
    have hn2 : (ld k).toNatClampNeg = lN k := by have := i_nat (a := ld k) (by omega); omega
    rw [FX1_greatestSize_L, if_neg (by rw [i_le]; omega), if_pos hi, hn, if_pos hi2, if_pos hi2, if_pos hi, if_pos hi2, hn2, up_eq, szN]
    exact ih (k + 1) f (x + 1) _ _ (by omega) (by omega) (by omega)
end
