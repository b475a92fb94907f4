-- deps: 100 110 111 112 113 114 115 116 117 118 119 120 121 130 131 132 133 134 135 136 137 138 139 140 141 142 143 144 145 146 200 201 202 203 204 205 206 207 208 209 210 211 212 213
section
variable {fu : Nat} {wl wr : Int32} {pa sh K st mi ks kv wf wt ot : Nat → Int32} {W : Nat}
theorem far_now {pa sh K st mi : Nat → Int32} {W : Nat} : ∀ (n : Nat) (S T : Nat → Int32) (v : Int32), (∀ i, i < 8 → S i = T i) → far pa sh K st mi W S v n = far pa sh K st mi W T v n := by
  intro n
  induction n with
  | zero => intro S T v h; rfl
  | succ n ih =>
    intro S T v h
    have ho : ∀ (l j : Nat), ordL K S st mi l j = ordL K T st mi l j := by
      have he : ∀ a b, evE K S a b = evE K T a b := by
        intro a b
        have hop : ∀ k, opd S k = opd T k := by
          intro k
          unfold opd
          rw [h 0 (by omega), h 1 (by omega), h 2 (by omega), h 3 (by omega), h 4 (by omega), h 5 (by omega)]
        have hev : ∀ n a d stk, ev K S n a d stk = ev K T n a d stk := by
          intro n
          induction n with
          | zero => intro a d stk; rfl
          | succ n ih =>
            intro a d stk
            rw [ev, ev, hop]
            simp only [ih]
        exact hev _ _ _ _
      have hw : ∀ b c, ordW K S b c = ordW K T b c := by
        intro b c
        unfold ordW
        rw [he]
      intro l
      induction l with
      | zero => intro j; rfl
      | succ l ihl =>
        intro j
        rw [ordL, ordL]
        simp only [hw, he, ihl]
    have hn : ∀ i, i < 8 → nxt pa sh K st mi W S i = nxt pa sh K st mi W T i := by
      intro i hi
      unfold nxt st_step
      rw [ho, h 1 (by omega), h 2 (by omega), h 3 (by omega), h 4 (by omega), h 5 (by omega), h 6 (by omega), h 7 (by omega), h i hi]
    rw [far, far, hn 4 (by omega)]
    exact ih _ _ _ hn
theorem ref_worst_end (hfu : 10000 ≤ fu) (hs : setOk pa sh) (h : whAll wl wr K st mi ks kv wf wt ot W) (p1 p2 p3 p4 p5 : Int32) (hp2 : p2.toInt ≤ 1799) (hp3 : 1 ≤ p3.toInt) (hp3' : p3.toInt ≤ 3600) (hp4 : 0 ≤ p4.toInt) (hp4' : p4.toInt ≤ 200) (v b th : Int32) (hv : v.toInt = 1800) : ∀ (n f : Nat) (x m : Int32) (now : Nat → Int32) (w : Nat → Int64), p2.toInt + 1 - x.toInt ≤ n → -1800 ≤ x.toInt → n < f →
    ∃ (m' : Int32) (now' : Nat → Int32) (w' : Nat → Int64), FX12_worst_L fu p1 p2 p3 p4 p5 wl ks kv wf wt ot pa sh f v b x th m now w = some (if p5 = 0 then v else b, th, m', now', w') := by
  intro n
  induction n with
  | zero =>
    intro f x m now w hx hx0 hf
    obtain ⟨f, rfl⟩ : ∃ g, f = g + 1 := ⟨f - 1, by omega⟩
    rw [FX12_worst_L, if_pos (by rw [i_lt]; omega)]
    by_cases g : p5 = 0
    · rw [if_neg (show ¬ ¬ p5 = 0 from fun z => z g), if_pos g]; exact ⟨_, _, _, rfl⟩
    · rw [if_pos g, if_neg g]; exact ⟨_, _, _, rfl⟩
  | succ n ih =>
    intro f x m now w hx hx0 hf
    obtain ⟨f, rfl⟩ : ∃ g, f = g + 1 := ⟨f - 1, by omega⟩
    by_cases gx : p2 < x
    · rw [FX12_worst_L, if_pos gx]
      by_cases g : p5 = 0
      · rw [if_neg (show ¬ ¬ p5 = 0 from fun z => z g), if_pos g]; exact ⟨_, _, _, rfl⟩
      · rw [if_pos g, if_neg g]; exact ⟨_, _, _, rfl⟩
    · have gx' := gx
      rw [i_lt] at gx'
      have hxo : isOffP x := ⟨by omega, by omega⟩
      obtain ⟨m', T, w', e⟩ := ref_far hfu hs h x p4 0 hxo hp4 (by omega) now m w (Or.inl rfl)
      have hle := far_le (K := K) (st := st) (mi := mi) (W := W) hs p4.toInt.toNat (st0 x now) (fJ9_abs_0f7a4_r x) (st0_ok hxo) (abs_off hxo).2
      rw [FX12_worst_L, if_neg gx, e, Option.bind_some]
      generalize far pa sh K st mi W (st0 x now) (fJ9_abs_0f7a4_r x) p4.toInt.toNat = r at *
      rw [if_neg (show ¬ v < r by rw [i_lt]; omega)]
      have hs' := i_add x p3 (by omega) (by omega)
      generalize x + p3 = x' at *
      exact ih f x' m' T w' (by omega) (by omega) (by omega)
theorem worst_L (hfu : 10000 ≤ fu) (hs : setOk pa sh) (h : whAll wl wr K st mi ks kv wf wt ot W) (p1 p2 p3 p4 p5 : Int32) (hp2 : p2.toInt ≤ 1799) (hp3 : 1 ≤ p3.toInt) (hp3' : p3.toInt ≤ 3600) (hp4 : 0 ≤ p4.toInt) (hp4' : p4.toInt ≤ 200) (th : Int32) : ∀ (n f : Nat) (x v bc br m c0 c1 c2 c3 c4 c5 c6 c7 : Int32) (vals : Nat → Int64) (now : Nat → Int32) (w : Nat → Int64), p2.toInt + 1 - x.toInt ≤ n → -1800 ≤ x.toInt → n < f → -1 ≤ v.toInt → v.toInt ≤ 1800 → (bc = br ∨ (v.toInt = -1 ∧ x.toInt ≤ p2.toInt)) →
    ∃ (r c0' c1' c2' c3' c4' c5' c6' c7' : Int32) (vals' : Nat → Int64) (m' : Int32) (now' : Nat → Int32) (w' : Nat → Int64), FX11_worst_L fu p1 p2 p3 p4 p5 pa sh wl wr K st mi f v bc x c0 c1 c2 c3 c4 c5 c6 c7 vals = some (r, c0', c1', c2', c3', c4', c5', c6', c7', vals') ∧ FX12_worst_L fu p1 p2 p3 p4 p5 wl ks kv wf wt ot pa sh f v br x th m now w = some (r, th, m', now', w') := by
  have t18 : (1800 : Int32).toInt = 1800 := rfl
  have t17 : (1799 : Int32).toInt = 1799 := rfl
  intro n
  induction n with
  | zero =>
    intro f x v bc br m c0 c1 c2 c3 c4 c5 c6 c7 vals now w hx hx0 hf hv hv' hb
    obtain ⟨f, rfl⟩ : ∃ g, f = g + 1 := ⟨f - 1, by omega⟩
    have hbe : bc = br := by
      rcases hb with z | ⟨-, z⟩
      · exact z
      · omega
    subst hbe
    have gx : p2 < x := by rw [i_lt]; omega
    rw [FX11_worst_L, if_pos gx, FX12_worst_L, if_pos gx]
    by_cases g : p5 = 0
    · rw [if_neg (show ¬ ¬ p5 = 0 from fun z => z g), if_neg (show ¬ ¬ p5 = 0 from fun z => z g)]; exact ⟨_, _, _, _, _, _, _, _, _, _, _, _, _, rfl, rfl⟩
    · rw [if_pos g, if_pos g]; exact ⟨_, _, _, _, _, _, _, _, _, _, _, _, _, rfl, rfl⟩
  | succ n ih =>
    intro f x v bc br m c0 c1 c2 c3 c4 c5 c6 c7 vals now w hx hx0 hf hv hv' hb
    obtain ⟨f, rfl⟩ : ∃ g, f = g + 1 := ⟨f - 1, by omega⟩
    by_cases gx : p2 < x
    · have gx' := gx
      rw [i_lt] at gx'
      have hbe : bc = br := by
        rcases hb with z | ⟨-, z⟩
        · exact z
        · omega
      subst hbe
      rw [FX11_worst_L, if_pos gx, FX12_worst_L, if_pos gx]
      by_cases g : p5 = 0
      · rw [if_neg (show ¬ ¬ p5 = 0 from fun z => z g), if_neg (show ¬ ¬ p5 = 0 from fun z => z g)]; exact ⟨_, _, _, _, _, _, _, _, _, _, _, _, _, rfl, rfl⟩
      · rw [if_pos g, if_pos g]; exact ⟨_, _, _, _, _, _, _, _, _, _, _, _, _, rfl, rfl⟩
    · have gx' := gx
      rw [i_lt] at gx'
      have hxo : isOffP x := ⟨by omega, by omega⟩
      by_cases g18 : 1800 ≤ v
      · have g18' := g18
        rw [i_le, t18] at g18'
        have hbe : bc = br := by
          rcases hb with z | ⟨z, -⟩
          · exact z
          · omega
        subst hbe
        obtain ⟨m', now', w', e⟩ := ref_worst_end hfu hs h p1 p2 p3 p4 p5 hp2 hp3 hp3' hp4 hp4' v bc th (by omega) (n + 1) (f + 1) x m now w hx hx0 hf
        rw [e, FX11_worst_L, if_neg gx, if_pos g18]
        by_cases g : p5 = 0
        · rw [if_neg (show ¬ ¬ p5 = 0 from fun z => z g), if_pos g]; exact ⟨_, _, _, _, _, _, _, _, _, _, _, _, _, rfl, rfl⟩
        · rw [if_pos g, if_neg g]; exact ⟨_, _, _, _, _, _, _, _, _, _, _, _, _, rfl, rfl⟩
      · obtain ⟨c, T, vals', ec, e⟩ := cls_far hfu hs h x p4 1799 hxo hp4 (by omega) now vals
        obtain ⟨m', T', w', e'⟩ := ref_far hfu hs h x p4 0 hxo hp4 (by omega) now m w (Or.inl rfl)
        have hle := far_le (K := K) (st := st) (mi := mi) (W := W) hs p4.toInt.toNat (st0 x now) (fJ9_abs_0f7a4_r x) (st0_ok hxo) (abs_off hxo).2
        have hge := far_ge pa sh K st mi W p4.toInt.toNat (st0 x now) (fJ9_abs_0f7a4_r x)
        have hab := (abs_off hxo).1
        rw [FX11_worst_L, if_neg gx, if_neg g18, e, Option.bind_some, FX12_worst_L, if_neg gx, e', Option.bind_some]
        generalize far pa sh K st mi W (st0 x now) (fJ9_abs_0f7a4_r x) p4.toInt.toNat = r at *
        have hcr : c = r := by
          rcases ec with z | ⟨z1, z2⟩
          · exact z
          · rw [i_eq]; omega
        subst hcr
        have hs' := i_add x p3 (by omega) (by omega)
        generalize x + p3 = x' at *
        by_cases g : c ≤ v
        · have g' := g
          rw [i_le] at g'
          rw [if_pos g, if_neg (show ¬ v < c by rw [i_lt]; omega)]
          have hbe : bc = br := by
            rcases hb with z | ⟨z, -⟩
            · exact z
            · omega
          exact ih f x' v bc br m' _ _ _ _ _ _ _ _ vals' T' w' (by omega) (by omega) (by omega) hv hv' (Or.inl hbe)
        · have g' := g
          rw [i_le] at g'
          rw [if_neg g, if_pos (show v < c by rw [i_lt]; omega)]
          exact ih f x' c x x m' _ _ _ _ _ _ _ _ vals' T' w' (by omega) (by omega) (by omega) (by omega) (by omega) (Or.inl rfl)
theorem worst_eq (hfu : 10000000 ≤ fu) (p1 p2 p3 p4 p5 : Int32) (hs : setOk pa sh) (h : whAll wl wr K st mi ks kv wf wt ot W) (c0 c1 c2 c3 c4 c5 c6 c7 : Int32) (vals : Nat → Int64) (m : Int32) (now : Nat → Int32) (w : Nat → Int64) :
    ∃ (r c0' c1' c2' c3' c4' c5' c6' c7' : Int32) (vals' : Nat → Int64) (m' : Int32) (now' : Nat → Int32) (w' : Nat → Int64), FX11_worst fu p1 p2 p3 p4 p5 pa sh c0 c1 c2 c3 c4 c5 c6 c7 wl wr K vals st mi = some (r, c0', c1', c2', c3', c4', c5', c6', c7', vals') ∧ FX12_worst fu p1 p2 p3 p4 p5 wl m ks kv wf wt ot pa sh now w = some (r, 0, m', now', w') := by
  have q0 := t_0
  have q1 := t_1
  have qm := t_m1
  have t36 : (3600 : Int32).toInt = 3600 := rfl
  have t200 : (200 : Int32).toInt = 200 := rfl
  unfold FX11_worst FX12_worst
  by_cases a1 : isOffP p1
  case neg => rw [if_pos ((isOff_iff p1).1.mpr a1), if_pos ((isOff_iff p1).2.mpr a1)]; exact ⟨_, _, _, _, _, _, _, _, _, _, _, _, _, rfl, rfl⟩
  rw [if_neg (fun z => (isOff_iff p1).1.mp z a1), if_neg (fun z => (isOff_iff p1).2.mp z a1)]
  by_cases a2 : isOffP p2
  case neg => rw [if_pos ((isOff_iff p2).1.mpr a2), if_pos ((isOff_iff p2).2.mpr a2)]; exact ⟨_, _, _, _, _, _, _, _, _, _, _, _, _, rfl, rfl⟩
  rw [if_neg (fun z => (isOff_iff p2).1.mp z a2), if_neg (fun z => (isOff_iff p2).2.mp z a2)]
  by_cases a3 : p2 < p1
  · rw [if_pos a3, if_pos a3]; exact ⟨_, _, _, _, _, _, _, _, _, _, _, _, _, rfl, rfl⟩
  rw [if_neg a3, if_neg a3]
  by_cases a4 : p3 < 1
  · rw [if_pos a4, if_pos a4]; exact ⟨_, _, _, _, _, _, _, _, _, _, _, _, _, rfl, rfl⟩
  rw [if_neg a4, if_neg a4]
  by_cases a5 : p3 ≤ 3600
  case neg =>
    rw [if_neg a5, if_pos (show 3600 < p3 by rw [i_le] at a5; rw [i_lt]; omega)]; exact ⟨_, _, _, _, _, _, _, _, _, _, _, _, _, rfl, rfl⟩
  rw [if_pos a5, if_neg (show ¬ 3600 < p3 by rw [i_le] at a5; rw [i_lt]; omega)]
  by_cases a6 : p4 < 0
  · rw [if_pos a6, if_pos a6]; exact ⟨_, _, _, _, _, _, _, _, _, _, _, _, _, rfl, rfl⟩
  rw [if_neg a6, if_neg a6]
  by_cases a7 : 200 < p4
  · rw [if_pos a7, if_pos a7]; exact ⟨_, _, _, _, _, _, _, _, _, _, _, _, _, rfl, rfl⟩
  rw [if_neg a7, if_neg a7]
  by_cases a8 : p5 < 0
  · rw [if_pos a8, if_pos a8]; exact ⟨_, _, _, _, _, _, _, _, _, _, _, _, _, rfl, rfl⟩
  rw [if_neg a8, if_neg a8]
  by_cases a9 : p5 ≤ 1
  · rw [if_pos a9, if_pos a9]
    rw [i_lt] at a3 a4 a6 a7
    rw [i_le] at a5
    obtain ⟨b1, b2⟩ := a1
    obtain ⟨b3, b4⟩ := a2
    exact worst_L (fu := fu) (by omega) hs h p1 p2 p3 p4 p5 b4 (by omega) (by omega) (by omega) (by omega) 0 4000 fu p1 (-1) p1 0 m c0 c1 c2 c3 c4 c5 c6 c7 vals now w (by omega) (by omega) (by omega) (by omega) (by omega) (Or.inr ⟨by omega, by omega⟩)
  · rw [if_neg a9, if_neg a9]; exact ⟨_, _, _, _, _, _, _, _, _, _, _, _, _, rfl, rfl⟩
end
