-- deps: 100 110 111 112 113 114 115 116 117 118 119 120 121 130 131 132 133 134 135 136 137 138 139 140 141 142 143 144 145 146 200 201 202 203 204 205 206 207 208 209 210 211 212
/-! ===== worst and holds ===== -/
def setRel (pa sh pa' sh' : Nat → Int32) : Prop := (∀ i, i < 5 → pa i = pa' i) ∧ ∀ i, i < 3 → sh i = sh' i
theorem step_congr {od : Int32} {pa sh pa' sh' S : Nat → Int32} (h : setRel pa sh pa' sh') : st_step od pa sh S = st_step od pa' sh' S := by
  obtain ⟨h1, h2⟩ := h
  have p0 := h1 0 (by omega)
  have p1 := h1 1 (by omega)
  have p2 := h1 2 (by omega)
  have p3 := h1 3 (by omega)
  have p4 := h1 4 (by omega)
  have s0 := h2 0 (by omega)
  have s1 := h2 1 (by omega)
  have s2 := h2 2 (by omega)
  unfold st_step fX4_step_f0_4 fX4_step_f0_3 fX4_step_f0_2 fX4_step_f0_1 fX4_step_J128_f0_4 fX4_step_J128_f0_3 fX4_step_J172_f0_4
  simp only [p0, p1, p2, p3, p4, s0, s1, s2]
theorem nxt_congr {pa sh pa' sh' K st mi S : Nat → Int32} {W : Nat} (h : setRel pa sh pa' sh') : nxt pa sh K st mi W S = nxt pa' sh' K st mi W S := step_congr h
theorem setOk_congr {pa sh pa' sh' : Nat → Int32} (h : setRel pa sh pa' sh') (hs : setOk pa' sh') : setOk pa sh := by
  obtain ⟨h1, h2⟩ := h
  unfold setOk
  rw [h1 0 (by omega), h1 1 (by omega), h1 2 (by omega), h1 3 (by omega), h1 4 (by omega), h2 0 (by omega), h2 1 (by omega), h2 2 (by omega)]
  exact hs
theorem abs_off {x : Int32} (h : isOffP x) : 0 ≤ (fJ9_abs_0f7a4_r x).toInt ∧ (fJ9_abs_0f7a4_r x).toInt ≤ 1800 := by
  obtain ⟨h1, h2⟩ := h
  unfold fJ9_abs_0f7a4_r
  have q0 := t_0
  simp only [i_le]
  by_cases g : (0 : Int32).toInt ≤ x.toInt
  · rw [if_pos g]; omega
  · rw [if_neg g, i_neg x (by omega)]; omega
theorem max_rng (a b : Int32) : a.toInt ≤ (fJ9_max_7cf53_r a b).toInt ∧ b.toInt ≤ (fJ9_max_7cf53_r a b).toInt ∧ (fJ9_max_7cf53_r a b = a ∨ fJ9_max_7cf53_r a b = b) := by
  unfold fJ9_max_7cf53_r
  simp only [i_lt]
  by_cases g : a.toInt < b.toInt
  · rw [if_pos g]; exact ⟨by omega, by omega, Or.inr rfl⟩
  · rw [if_neg g]; exact ⟨by omega, by omega, Or.inl rfl⟩
/-- the greatest off without sign behind n more steps -/
def far (pa sh K st mi : Nat → Int32) (W : Nat) : (Nat → Int32) → Int32 → Nat → Int32
  | _, v, 0 => v
  | S, v, n + 1 => far pa sh K st mi W (nxt pa sh K st mi W S) (fJ9_max_7cf53_r v (fJ9_abs_0f7a4_r (nxt pa sh K st mi W S 4))) n
theorem far_ge (pa sh K st mi : Nat → Int32) (W : Nat) : ∀ (n : Nat) (S : Nat → Int32) (v : Int32), v.toInt ≤ (far pa sh K st mi W S v n).toInt := by
  intro n
  induction n with
  | zero => intro S v; exact Int.le_refl _
  | succ n ih =>
    intro S v
    rw [far]
    have a := ih (nxt pa sh K st mi W S) (fJ9_max_7cf53_r v (fJ9_abs_0f7a4_r (nxt pa sh K st mi W S 4)))
    have b := (max_rng v (fJ9_abs_0f7a4_r (nxt pa sh K st mi W S 4))).1
    omega
theorem far_le {pa sh K st mi : Nat → Int32} {W : Nat} (hs : setOk pa sh) : ∀ (n : Nat) (S : Nat → Int32) (v : Int32), stOk S → v.toInt ≤ 1800 → (far pa sh K st mi W S v n).toInt ≤ 1800 := by
  intro n
  induction n with
  | zero => intro S v hS hv; exact hv
  | succ n ih =>
    intro S v hS hv
    rw [far]
    have hS' := nxt_ok (K := K) (st := st) (mi := mi) (W := W) hs hS
    refine ih _ _ hS' ?_
    have a := (abs_off hS'.2.2.2.2.1).2
    rcases (max_rng v (fJ9_abs_0f7a4_r (nxt pa sh K st mi W S 4))).2.2 with e | e
    · rw [e]; exact hv
    · rw [e]; exact a
theorem far_fix {pa sh K st mi S : Nat → Int32} {W : Nat} (h : nxt pa sh K st mi W S = S) {v : Int32} (hv : (fJ9_abs_0f7a4_r (S 4)).toInt ≤ v.toInt) : ∀ n, far pa sh K st mi W S v n = v := by
  intro n
  induction n with
  | zero => rfl
  | succ n ih =>
    rw [far, h]
    have : fJ9_max_7cf53_r v (fJ9_abs_0f7a4_r (S 4)) = v := by
      unfold fJ9_max_7cf53_r
      rw [if_neg (by rw [i_lt]; omega)]
    rw [this]
    exact ih
theorem far_congr {pa sh pa' sh' K st mi : Nat → Int32} {W : Nat} (h : setRel pa sh pa' sh') : ∀ (n : Nat) (S : Nat → Int32) (v : Int32), far pa sh K st mi W S v n = far pa' sh' K st mi W S v n := by
  intro n
  induction n with
  | zero => intro S v; rfl
  | succ n ih => intro S v; rw [far, far, nxt_congr h, ih]
section
variable {fu : Nat} {wl wr : Int32} {pa sh K st mi ks kv wf wt ot : Nat → Int32} {W : Nat}
theorem cls_farL (hfu : 100 ≤ fu) (hs : setOk pa sh) (h : whAll wl wr K st mi ks kv wf wt ot W) (p1 p2 p4 : Int32) : ∀ (n f : Nat) (x v mv : Int32) (S : Nat → Int32) (vals : Nat → Int64), x.toInt + n = p2.toInt → 0 ≤ x.toInt → n < f → stOk S → (mv = 0 → nxt pa sh K st mi W S = S) → (fJ9_abs_0f7a4_r (S 4)).toInt ≤ v.toInt →
    ∃ (c : Int32) (T : Nat → Int32) (vals' : Nat → Int64), (c = far pa sh K st mi W S v n ∨ (p4.toInt < c.toInt ∧ c.toInt ≤ (far pa sh K st mi W S v n).toInt)) ∧ FX11_farthest_L fu p1 p2 p4 wl wr K st mi pa sh f v mv x (S 0) (S 1) (S 2) (S 3) (S 4) (S 5) (S 6) (S 7) vals = some (c, T 0, T 1, T 2, T 3, T 4, T 5, T 6, T 7, vals') := by
  have q1 := t_1
  intro n
  induction n with
  | zero =>
    intro f x v mv S vals hx h0 hf hS hm hv
    obtain ⟨f, rfl⟩ : ∃ g, f = g + 1 := ⟨f - 1, by omega⟩
    rw [FX11_farthest_L, if_pos (by rw [i_le]; omega)]
    exact ⟨v, S, vals, Or.inl rfl, rfl⟩
  | succ n ih =>
    intro f x v mv S vals hx h0 hf hS hm hv
    obtain ⟨f, rfl⟩ : ∃ g, f = g + 1 := ⟨f - 1, by omega⟩
    have hp2 := p2.toInt_lt
    rw [FX11_farthest_L, if_neg (by rw [i_le]; omega)]
    by_cases g1 : p4 < v
    · rw [if_pos g1]
      rw [i_lt] at g1
      exact ⟨v, S, vals, Or.inr ⟨g1, far_ge _ _ _ _ _ _ _ _ _⟩, rfl⟩
    · rw [if_neg g1]
      by_cases g2 : mv = 0
      · rw [if_pos g2]
        exact ⟨v, S, vals, Or.inl (far_fix (hm g2) hv _).symm, rfl⟩
      · rw [if_neg g2]
        obtain ⟨mv', vals', e, e1, e2⟩ := goOn_eq hfu hs hS h vals
        rw [e, Option.bind_some, far]
        have hsx := i_add x 1 (by omega) (by omega)
        generalize x + 1 = x' at *
        exact ih f x' _ mv' (nxt pa sh K st mi W S) vals' (by omega) (by omega) (by omega) (nxt_ok hs hS) (fun z => by rw [e2 z, e2 z]) (max_rng _ _).2.1
theorem ref_farL (hfu : 100 ≤ fu) (hs : setOk pa sh) (h : whAll wl wr K st mi ks kv wf wt ot W) (p1 p2 : Int32) : ∀ (n f : Nat) (x v m : Int32) (S : Nat → Int32) (w : Nat → Int64), x.toInt + n = p2.toInt → 0 ≤ x.toInt → n < f → stOk S →
    ∃ (m' : Int32) (T : Nat → Int32) (w' : Nat → Int64), FX12_furthest_L fu p1 p2 wl ks kv wf wt ot pa sh f v x m S w = some (far pa sh K st mi W S v n, m', T, w') := by
  have q1 := t_1
  intro n
  induction n with
  | zero =>
    intro f x v m S w hx h0 hf hS
    obtain ⟨f, rfl⟩ : ∃ g, f = g + 1 := ⟨f - 1, by omega⟩
    rw [FX12_furthest_L, if_pos (by rw [i_le]; omega)]
    exact ⟨m, S, w, rfl⟩
  | succ n ih =>
    intro f x v m S w hx h0 hf hS
    obtain ⟨f, rfl⟩ : ∃ g, f = g + 1 := ⟨f - 1, by omega⟩
    have hp2 := p2.toInt_lt
    obtain ⟨m', w', e⟩ := ref_order hfu hS h m w
    rw [FX12_furthest_L, if_neg (by rw [i_le]; omega), e, Option.bind_some, ref_steps fu _ pa sh S hs (ordL_in K S st mi W 0) hS, Option.bind_some, far]
    have hsx := i_add x 1 (by omega) (by omega)
    generalize x + 1 = x' at *
    exact ih f x' _ m' (nxt pa sh K st mi W S) w' (by omega) (by omega) (by omega) (nxt_ok hs hS)
/-- the class's answer is the greatest, or both are above enough -/
theorem cls_far (hfu : 10000 ≤ fu) (hs : setOk pa sh) (h : whAll wl wr K st mi ks kv wf wt ot W) (p1 p2 p4 : Int32) (hp1 : isOffP p1) (hp2 : 0 ≤ p2.toInt) (hp2' : p2.toInt ≤ 2000) (now : Nat → Int32) (vals : Nat → Int64) : ∃ (c : Int32) (T : Nat → Int32) (vals' : Nat → Int64), (c = far pa sh K st mi W (st0 p1 now) (fJ9_abs_0f7a4_r p1) p2.toInt.toNat ∨ (p4.toInt < c.toInt ∧ c.toInt ≤ (far pa sh K st mi W (st0 p1 now) (fJ9_abs_0f7a4_r p1) p2.toInt.toNat).toInt)) ∧ FX11_farthest fu p1 p2 p4 wl wr K vals st mi pa sh = some (c, T 0, T 1, T 2, T 3, T 4, T 5, T 6, T 7, vals') := by
  have q0 := t_0
  exact cls_farL (by omega) hs h p1 p2 p4 p2.toInt.toNat fu 0 (fJ9_abs_0f7a4_r p1) 1 (st0 p1 now) vals (by omega) (by omega) (by omega) (st0_ok hp1) (fun z => absurd z (by decide)) (Int.le_refl _)
theorem ref_far (hfu : 10000 ≤ fu) (hs : setOk pa sh) (h : whAll wl wr K st mi ks kv wf wt ot W) (p1 p2 p3 : Int32) (hp1 : isOffP p1) (hp2 : 0 ≤ p2.toInt) (hp2' : p2.toInt ≤ 2000) (now : Nat → Int32) (m : Int32) (w : Nat → Int64) (hp3 : p3 = 0 ∨ p1 = 0) : ∃ (m' : Int32) (T : Nat → Int32) (w' : Nat → Int64), FX12_furthest fu p1 p2 p3 wl m ks kv wf wt ot pa sh now w = some (far pa sh K st mi W (st0 p1 now) (fJ9_abs_0f7a4_r p1) p2.toInt.toNat, m', T, w') := by
  have q0 := t_0
  unfold FX12_furthest
  rw [ref_starts (by omega), Option.bind_some]
  have key := fun v => ref_farL (fu := fu) (by omega) hs h p1 p2 p2.toInt.toNat fu 0 v m (st0 p1 now) w (by omega) (by omega) (by omega) (st0_ok hp1)
  by_cases g : p3 = 0
  · rw [if_neg (show ¬ ¬ p3 = 0 from fun z => z g)]
    exact key _
  · rw [if_pos g]
    rcases hp3 with z | z
    · exact absurd z g
    · subst z
      exact key 0
end
