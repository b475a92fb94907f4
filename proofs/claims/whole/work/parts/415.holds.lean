-- deps: 100 110 111 112 113 114 115 116 117 118 119 120 121 130 131 132 133 134 135 136 137 138 139 140 141 142 143 144 145 146 200 201 202 203 204 205 206 207 208 209 210 211 212 213 214
section
variable {fu : Nat} {wl wr : Int32} {pa sh K st mi ks kv wf wt ot : Nat → Int32} {W : Nat}
theorem setShip0 {s : Int32} (h1 : 1 ≤ s.toInt) (h2 : s.toInt ≤ 20) (ship : Nat → Int32) : fX3_setShip_a1 0 s ship = upd ship 0 s := by
  have e1 : ro2 (0 : Int32).toNatClampNeg = 1 := rfl
  have e2 : ro3 (0 : Int32).toNatClampNeg = 20 := rfl
  have q1 := t_1
  have t20 : (20 : Int32).toInt = 20 := rfl
  unfold fX3_setShip_a1
  rw [if_neg (by decide), if_neg (by decide), e1, e2, if_neg (show ¬ s < 1 by rw [i_lt]; omega), if_pos (show s ≤ 20 by rw [i_le]; omega)]
  rfl
theorem setOk_sp {s : Int32} (h1 : 1 ≤ s.toInt) (h2 : s.toInt ≤ 20) (hs : setOk pa sh) : setOk pa (upd sh 0 s) := by
  obtain ⟨a, b, c, d, e, f, g, i⟩ := hs
  exact ⟨a, b, c, d, e, ⟨h1, h2⟩, g, i⟩
theorem holds_L (hfu : 10000 ≤ fu) (hs : setOk pa sh) (h : whAll wl wr K st mi ks kv wf wt ot W) (p1 p2 : Int32) (hp2 : 1 ≤ p2.toInt) (hp2' : p2.toInt ≤ 500) (th : Int32) : ∀ (n f : Nat) (x c0 c1 c2 c3 c4 c5 c6 c7 m : Int32) (pt tt : Nat → Int32) (vals : Nat → Int64) (shR now : Nat → Int32) (w : Nat → Int64), x.toInt + n = 21 → 1 ≤ x.toInt → n + 1 < f → (∀ i, i < 5 → pt i = pa i) → (∀ i, i < 3 → ¬ i = 0 → tt i = sh i) → (∀ i, ¬ i = 0 → shR i = sh i) →
    ∃ (r : Int32) (pt' tt' : Nat → Int32) (c0' c1' c2' c3' c4' c5' c6' c7' : Int32) (vals' : Nat → Int64) (m' : Int32) (now' : Nat → Int32) (w' : Nat → Int64), FX11_holds_L fu p1 p2 pa sh wl wr K st mi f x pt tt c0 c1 c2 c3 c4 c5 c6 c7 vals = some (r, pt', tt', c0', c1', c2', c3', c4', c5', c6', c7', vals') ∧ FX12_holds_L fu p1 p2 wl ks kv wf wt ot pa f (sh 0) (-2) x th m shR now w = some (r, th, m', sh, now', w') := by
  have t20 : (20 : Int32).toInt = 20 := rfl
  have q1 := t_1
  have hsh : ∀ shR : Nat → Int32, (∀ i, ¬ i = 0 → shR i = sh i) → upd shR 0 (sh 0) = sh := by
    intro shR hR
    funext i
    unfold upd
    by_cases g : i = 0
    · rw [if_pos g, g]
    · rw [if_neg g]; exact hR i g
  have hz : isOffP (0 : Int32) := by unfold isOffP; decide
  intro n
  induction n with
  | zero =>
    intro f x c0 c1 c2 c3 c4 c5 c6 c7 m pt tt vals shR now w hx hx0 hf h1 h2 h3
    obtain ⟨f, rfl⟩ : ∃ g, f = g + 1 := ⟨f - 1, by omega⟩
    have gx : 20 < x := by rw [i_lt]; omega
    rw [FX11_holds_L, if_pos gx, FX12_holds_L, if_pos gx, hsh shR h3]
    exact ⟨_, _, _, _, _, _, _, _, _, _, _, _, _, _, _, rfl, rfl⟩
  | succ n ih =>
    intro f x c0 c1 c2 c3 c4 c5 c6 c7 m pt tt vals shR now w hx hx0 hf h1 h2 h3
    obtain ⟨f, rfl⟩ : ∃ g, f = g + 1 := ⟨f - 1, by omega⟩
    have gx : ¬ 20 < x := by rw [i_lt]; omega
    have e1 := setShip0 (s := x) hx0 (by omega) tt
    have okR := setOk_sp (s := x) hx0 (by omega) hs
    have relR : setRel pa (upd shR 0 x) pa (upd sh 0 x) := by
      refine ⟨fun _ _ => rfl, fun i hi => ?_⟩
      unfold upd
      by_cases g : i = 0
      · rw [if_pos g, if_pos g]
      · rw [if_neg g, if_neg g]; exact h3 i g
    have relC : setRel pt (upd tt 0 x) pa (upd shR 0 x) := by
      refine ⟨h1, fun i hi => ?_⟩
      unfold upd
      by_cases g : i = 0
      · rw [if_pos g, if_pos g]
      · rw [if_neg g, if_neg g, h2 i hi g, h3 i g]
    have okR2 := setOk_congr relR okR
    have okC := setOk_congr relC okR2
    obtain ⟨c, T, vals', ec, e⟩ := cls_far hfu okC h 0 p2 p1 hz (by omega) (by omega) now vals
    obtain ⟨m', T', w', e'⟩ := ref_far hfu okR2 h 0 p2 1 hz (by omega) (by omega) now m w (Or.inr rfl)
    rw [far_congr relC] at ec
    rw [FX11_holds_L, if_neg gx, e1, e, Option.bind_some, FX12_holds_L, if_neg gx, if_neg (show ¬ ¬ (-2 : Int32) = -2 from fun z => z rfl), e', Option.bind_some]
    generalize far pa (upd shR 0 x) K st mi W (st0 0 now) (fJ9_abs_0f7a4_r 0) p2.toInt.toNat = r at *
    have hup : ∀ i, ¬ i = 0 → upd shR 0 x i = sh i := by
      intro i g
      unfold upd
      rw [if_neg g]
      exact h3 i g
    by_cases g : p1 < r
    · have gc : p1 < c := by
        rcases ec with z | ⟨z1, z2⟩
        · rw [z]; exact g
        · rw [i_lt]; exact z1
      rw [if_pos gc, if_pos g]
      have hs' := i_add x 1 (by omega) (by omega)
      generalize x + 1 = x' at *
      exact ih f x' _ _ _ _ _ _ _ _ m' pt (upd tt 0 x) vals' (upd shR 0 x) T' w' (by omega) (by omega) (by omega) h1 (fun i hi g => by unfold upd; rw [if_neg g]; exact h2 i hi g) hup
    · have gc : ¬ p1 < c := by
        rcases ec with z | ⟨z1, z2⟩
        · rw [z]; exact g
        · intro _
          rw [i_lt] at g
          omega
      rw [if_neg gc, if_neg g]
      obtain ⟨f, rfl⟩ : ∃ g, f = g + 1 := ⟨f - 1, by omega⟩
      have hne : ¬ x = -2 := by
        intro z
        rw [z] at hx0
        exact absurd hx0 (by decide)
      have hlast : FX12_holds_L fu p1 p2 wl ks kv wf wt ot pa (f + 1) (sh 0) x (x + 1) th m' (upd shR 0 x) T' w' = some (x, th, m', sh, T', w') := by
        rw [FX12_holds_L, if_pos hne, hsh _ hup]
        by_cases q : 20 < x + 1
        · rw [if_pos q]
        · rw [if_neg q]
      exact ⟨_, _, _, _, _, _, _, _, _, _, _, _, _, _, _, rfl, hlast⟩
theorem holds_eq (hfu : 10000000 ≤ fu) (p1 p2 : Int32) (hs : setOk pa sh) (h : whAll wl wr K st mi ks kv wf wt ot W) (pt tt : Nat → Int32) (c0 c1 c2 c3 c4 c5 c6 c7 : Int32) (vals : Nat → Int64) (m : Int32) (now : Nat → Int32) (w : Nat → Int64) :
    ∃ (r : Int32) (pt' tt' : Nat → Int32) (c0' c1' c2' c3' c4' c5' c6' c7' : Int32) (vals' : Nat → Int64) (m' : Int32) (now' : Nat → Int32) (w' : Nat → Int64), FX11_holds fu p1 p2 pa sh pt tt c0 c1 c2 c3 c4 c5 c6 c7 wl wr K vals st mi = some (r, pt', tt', c0', c1', c2', c3', c4', c5', c6', c7', vals') ∧ FX12_holds fu p1 p2 wl m ks kv wf wt ot pa sh now w = some (r, 0, m', sh, now', w') := by
  have q1 := t_1
  have t500 : (500 : Int32).toInt = 500 := rfl
  unfold FX11_holds FX12_holds
  by_cases a1 : p1 < 0
  · rw [if_pos a1, if_pos a1]; exact ⟨_, _, _, _, _, _, _, _, _, _, _, _, _, _, _, rfl, rfl⟩
  rw [if_neg a1, if_neg a1]
  by_cases a2 : 1800 < p1
  · rw [if_pos a2, if_pos a2]; exact ⟨_, _, _, _, _, _, _, _, _, _, _, _, _, _, _, rfl, rfl⟩
  rw [if_neg a2, if_neg a2]
  by_cases a3 : p2 < 1
  · rw [if_pos a3, if_pos a3]; exact ⟨_, _, _, _, _, _, _, _, _, _, _, _, _, _, _, rfl, rfl⟩
  rw [if_neg a3, if_neg a3]
  by_cases a4 : p2 ≤ 500
  · rw [if_pos a4, if_pos a4]
    rw [i_lt] at a3
    rw [i_le] at a4
    refine holds_L (fu := fu) (by omega) hs h p1 p2 (by omega) (by omega) 0 20 fu 1 c0 c1 c2 c3 c4 c5 c6 c7 m _ _ vals sh now w (by omega) (by omega) (by omega) (fun i hi => ?_) (fun i hi _ => ?_) (fun _ _ => rfl)
    · unfold va_cpy
      rw [if_pos (by omega)]
      congr 1
      omega
    · unfold va_cpy
      rw [if_pos (by omega)]
      congr 1
      omega
  · rw [if_neg a4, if_neg a4]; exact ⟨_, _, _, _, _, _, _, _, _, _, _, _, _, _, _, rfl, rfl⟩
end
