-- deps: 100 110 111 112 113 114 115 116 117 118 119 120 121 130 131 132 133 134 135 136 137 138 139 140 141 142 143 144 145 146 200 201 202 203 204 205 206 207 208 209 210 211
/-! ===== hunt ===== -/
section
variable {fu : Nat} {wl wr : Int32} {pa sh K st mi ks kv wf wt ot : Nat → Int32} {W : Nat}
theorem first_rep (seq : Nat → Int64) : (∃ step kk : Nat, kk < step ∧ step ≤ 1500 ∧ seq kk = seq step ∧ ∀ i j, i < step → j < step → seq i = seq j → i = j) ∨ (∀ i j, i < 1501 → j < 1501 → seq i = seq j → i = j) := by
  by_cases h : ∃ step, step ≤ 1500 ∧ ∃ kk, kk < step ∧ seq kk = seq step
  · obtain ⟨s0, h0⟩ := h
    obtain ⟨step, h1, ⟨h2, kk, h3, h4⟩, h5⟩ := least_of (P := fun step => step ≤ 1500 ∧ ∃ kk, kk < step ∧ seq kk = seq step) s0 h0
    refine Or.inl ⟨step, kk, h3, h2, h4, fun i j hi hj e => ?_⟩
    rcases Nat.lt_trichotomy i j with g | g | g
    · exact absurd ⟨by omega, i, g, e⟩ (h5 j hj)
    · exact g
    · exact absurd ⟨by omega, j, g, e.symm⟩ (h5 i hi)
  · refine Or.inr (fun i j hi hj e => ?_)
    rcases Nat.lt_trichotomy i j with g | g | g
    · exact absurd ⟨j, by omega, i, g, e⟩ h
    · exact g
    · exact absurd ⟨i, by omega, j, g, e.symm⟩ h
/-- what hunt answers -/
def huntA (p2 kind fi pe sw : Int32) : Int32 := if p2 = 0 then kind else if p2 = 1 then fi else if p2 = 2 then pe else sw
theorem hunt_end (fu : Nat) (p2 : Int32) (f : Nat) {x4 x : Int32} (lo hi th m fi pe : Int32) (now : Nat → Int32) (w : Nat → Int64) (states : Nat → Int32) (h : x4 < x) : FX12_hunt_L fu p2 (f + 1) x4 lo hi x th m fi pe now w states = some (huntA p2 (if fi = -1 then 3 else if pe = 1 then 1 else 2) fi pe (hi - lo), th, m, fi, pe, now, w, states) := by
  rw [FX12_hunt_L, if_pos h]
  unfold huntA
  by_cases g0 : p2 = 0
  · rw [if_neg (show ¬ ¬ p2 = 0 from fun z => z g0), if_pos g0]
    by_cases g1 : fi = -1
    · rw [if_neg (show ¬ ¬ fi = -1 from fun z => z g1), if_pos g1]
    · rw [if_pos g1, if_neg g1]
      by_cases g2 : pe = 1
      · rw [if_neg (show ¬ ¬ pe = 1 from fun z => z g2), if_pos g2]
      · rw [if_pos g2, if_neg g2]
  · rw [if_pos g0, if_neg g0]
    by_cases g1 : p2 = 1
    · rw [if_neg (show ¬ ¬ p2 = 1 from fun z => z g1), if_pos g1]
    · rw [if_pos g1, if_neg g1]
      by_cases g2 : p2 = 2
      · rw [if_neg (show ¬ ¬ p2 = 2 from fun z => z g2), if_pos g2]
      · rw [if_pos g2, if_neg g2]
theorem hunt_eq (hfu : 10000000 ≤ fu) (p1 p2 : Int32) (hs : setOk pa sh) (h : whAll wl wr K st mi ks kv wf wt ot W) (g1 g2 g3 g4 c0 c1 c2 c3 c4 c5 c6 c7 : Int32) (seen : Nat → Int64) (slots : Nat → Int32) (vals : Nat → Int64) (m fi pe : Int32) (now : Nat → Int32) (w : Nat → Int64) (states : Nat → Int32) :
    ∃ v g1' g2' g3' g4' c0' c1' c2' c3' c4' c5' c6' c7' seen' slots' vals' m' fi' pe' now' w' states', FX11_hunt fu p1 p2 pa sh g1 g2 g3 g4 c0 c1 c2 c3 c4 c5 c6 c7 seen slots wl wr K vals st mi = some (v, g1', g2', g3', g4', c0', c1', c2', c3', c4', c5', c6', c7', seen', slots', vals') ∧ FX12_hunt fu p1 p2 wl m fi pe ks kv wf wt ot pa sh now w states = some (v, 0, m', fi', pe', now', w', states') := by
  have t3 : (3 : Int32).toInt = 3 := rfl
  have q0 := t_0
  have q1 := t_1
  unfold FX11_hunt FX12_hunt
  by_cases a1 : isOffP p1
  · rw [if_neg (fun z => (isOff_iff p1).1.mp z a1), if_neg (fun z => (isOff_iff p1).2.mp z a1)]
    by_cases a2 : p2 < 0
    · rw [if_pos a2, if_pos a2]; exact ⟨_, _, _, _, _, _, _, _, _, _, _, _, _, _, _, _, _, _, _, _, _, _, rfl, rfl⟩
    rw [if_neg a2, if_neg a2]
    by_cases a3 : p2 ≤ 3
    · rw [if_pos a3, if_pos a3]
      have hS0 := st0_ok (now := now) a1
      -- the class's answer
      have ca : ∀ kd r pd sw T0 T1 T2 T3 T4 T5 T6 T7 seen' slots' vals', FX8_follow fu p1 g1 g2 g3 g4 seen slots wl wr K vals st mi pa sh = some (kd, r, pd, sw, T0, T1, T2, T3, T4, T5, T6, T7, seen', slots', vals') → ((FX8_follow fu p1 g1 g2 g3 g4 seen slots wl wr K vals st mi pa sh).bind (fun y4z => if p2 = 0 then (some (y4z.1, y4z.1, y4z.2.1, y4z.2.2.1, y4z.2.2.2.1, y4z.2.2.2.2.1, y4z.2.2.2.2.2.1, y4z.2.2.2.2.2.2.1, y4z.2.2.2.2.2.2.2.1, y4z.2.2.2.2.2.2.2.2.1, y4z.2.2.2.2.2.2.2.2.2.1, y4z.2.2.2.2.2.2.2.2.2.2.1, y4z.2.2.2.2.2.2.2.2.2.2.2.1, y4z.2.2.2.2.2.2.2.2.2.2.2.2.1, y4z.2.2.2.2.2.2.2.2.2.2.2.2.2.1, y4z.2.2.2.2.2.2.2.2.2.2.2.2.2.2)) else (if p2 = 1 then (some (y4z.2.1, y4z.1, y4z.2.1, y4z.2.2.1, y4z.2.2.2.1, y4z.2.2.2.2.1, y4z.2.2.2.2.2.1, y4z.2.2.2.2.2.2.1, y4z.2.2.2.2.2.2.2.1, y4z.2.2.2.2.2.2.2.2.1, y4z.2.2.2.2.2.2.2.2.2.1, y4z.2.2.2.2.2.2.2.2.2.2.1, y4z.2.2.2.2.2.2.2.2.2.2.2.1, y4z.2.2.2.2.2.2.2.2.2.2.2.2.1, y4z.2.2.2.2.2.2.2.2.2.2.2.2.2.1, y4z.2.2.2.2.2.2.2.2.2.2.2.2.2.2)) else (if p2 = 2 then (some (y4z.2.2.1, y4z.1, y4z.2.1, y4z.2.2.1, y4z.2.2.2.1, y4z.2.2.2.2.1, y4z.2.2.2.2.2.1, y4z.2.2.2.2.2.2.1, y4z.2.2.2.2.2.2.2.1, y4z.2.2.2.2.2.2.2.2.1, y4z.2.2.2.2.2.2.2.2.2.1, y4z.2.2.2.2.2.2.2.2.2.2.1, y4z.2.2.2.2.2.2.2.2.2.2.2.1, y4z.2.2.2.2.2.2.2.2.2.2.2.2.1, y4z.2.2.2.2.2.2.2.2.2.2.2.2.2.1, y4z.2.2.2.2.2.2.2.2.2.2.2.2.2.2)) else (some (y4z.2.2.2.1, y4z.1, y4z.2.1, y4z.2.2.1, y4z.2.2.2.1, y4z.2.2.2.2.1, y4z.2.2.2.2.2.1, y4z.2.2.2.2.2.2.1, y4z.2.2.2.2.2.2.2.1, y4z.2.2.2.2.2.2.2.2.1, y4z.2.2.2.2.2.2.2.2.2.1, y4z.2.2.2.2.2.2.2.2.2.2.1, y4z.2.2.2.2.2.2.2.2.2.2.2.1, y4z.2.2.2.2.2.2.2.2.2.2.2.2.1, y4z.2.2.2.2.2.2.2.2.2.2.2.2.2.1, y4z.2.2.2.2.2.2.2.2.2.2.2.2.2.2)))))) = some (huntA p2 kd r pd sw, kd, r, pd, sw, T0, T1, T2, T3, T4, T5, T6, T7, seen', slots', vals') := by
        intro kd r pd sw T0 T1 T2 T3 T4 T5 T6 T7 seen' slots' vals' e
        rw [e, Option.bind_some]
        unfold huntA
        by_cases b0 : p2 = 0
        · rw [if_pos b0, if_pos b0]
        · rw [if_neg b0, if_neg b0]
          by_cases b1 : p2 = 1
          · rw [if_pos b1, if_pos b1]
          · rw [if_neg b1, if_neg b1]
            by_cases b2 : p2 = 2
            · rw [if_pos b2, if_pos b2]
            · rw [if_neg b2, if_neg b2]
      obtain ⟨cf, cl⟩ := cls_follow (fu := fu) (by omega) hs h p1 a1 now g1 g2 g3 g4 seen slots vals
      -- the reference's start
      obtain ⟨states1, e1, e2⟩ := ref_keeps (fu := fu) (by omega) 0 0 rfl (by omega) (st0 p1 now) states
      have hold1 : stHold pa sh K st mi W (st0 p1 now) (0 + 1) states1 := by
        intro a ha i hi
        have : a = 0 := by omega
        subst this
        rw [e2, if_pos (by omega), show 8 * 0 + i - 8 * 0 = i by omega]
        rfl
      have rstart : ∀ X, FX12_hunts_L fu wl ks kv wf wt ot pa sh fu 0 1 0 m (-1) (-1) (stN pa sh K st mi W (st0 p1 now) 0) w states1 = X → FX12_hunts fu p1 wl m ks kv wf wt ot pa sh now w states = X := by
        intro X hX
        unfold FX12_hunts
        rw [ref_starts (by omega), Option.bind_some, e1, Option.bind_some]
        exact hX
      rcases first_rep (sq pa sh K st mi W (st0 p1 now)) with ⟨step, kk, b1, b2, b3, b4⟩ | b
      · obtain ⟨r, pd, lo, hi, seen', slots', vals', T, d1, d2, d3, d4, d5⟩ := cf step kk b1 b2 b3 b4
        obtain ⟨r', pd', m', now', w', states', f1, f2, f3, f4⟩ := ref_hunts_found (fu := fu) (by omega) hs h hS0 step kk b1 b2 b3 b4 (step - 1) 0 fu 1 0 m (-1) w states1 (by omega) rfl (by omega) hold1
        have hr : r' = r := by rw [i_eq]; omega
        have hpd : pd' = pd := by rw [i_eq]; omega
        subst hr hpd
        rw [ca _ _ _ _ _ _ _ _ _ _ _ _ _ _ _ d5, rstart _ f4, Option.bind_some]
        have hne : ¬ r' = -1 := by
          intro z
          have := d1
          rw [z] at this
          have qm := t_m1
          omega
        have u1 := i_add r' pd' (by omega) (by omega)
        generalize hrp : r' + pd' = rp at *
        have u2 := i_sub rp 1 (by omega) (by omega)
        obtain ⟨lo', hi', k1, k2, f', x', k3, k4⟩ := ref_swingL fu p2 (rp - 1) kk (step - 1) (by omega) (by omega) hs hS0 (J := step + 1) (by omega) 0 m' r' pd' now' w' states' f3 (step - kk) kk fu 1800 (-1800) r' (by omega) (by omega) d1 (by omega) (fun _ => ⟨rfl, rfl⟩) (fun z => absurd z (by omega)) (by omega)
        have hoff : offs pa sh K st mi W (st0 p1 now) step = offs pa sh K st mi W (st0 p1 now) kk := by
          obtain ⟨z0, z1, z2, z3, z4, -⟩ := pk_inj (stN_ok hs kk hS0) (stN_ok hs step hS0) b3
          exact z4.symm
        have n1 := min_uni b1 hoff d3 k1 (by omega)
        have n2 := max_uni b1 hoff d4 k2 (by omega)
        have fin : FX12_hunt_L fu p2 fu (rp - 1) 1800 (-1800) r' 0 m' r' pd' now' w' states' = some (huntA p2 (if pd' = 1 then 1 else 2) r' pd' (hi - lo), 0, m', r', pd', now', w', states') := by
          rw [k4, hunt_end fu p2 f' lo' hi' 0 m' r' pd' now' w' states' k3, if_neg hne, n1, n2]
        refine ⟨_, _, _, _, _, _, _, _, _, _, _, _, _, _, _, _, m', r', pd', now', w', states', rfl, ?_⟩
        rw [if_pos hne]
        exact fin
      · obtain ⟨lo, hi, seen', slots', vals', T, d3, d4, d5⟩ := cl b
        obtain ⟨m', now', w', states', f3, f4⟩ := ref_hunts_lost (fu := fu) (by omega) hs h hS0 b 1500 0 fu 1 0 m w states1 (by omega) rfl (by omega) hold1
        rw [ca _ _ _ _ _ _ _ _ _ _ _ _ _ _ _ d5, rstart _ f4, Option.bind_some]
        obtain ⟨lo', hi', k1, k2, f', x', k3, k4⟩ := ref_swingL fu p2 1500 0 1500 rfl (by omega) hs hS0 (J := 1501) (by omega) 0 m' (-1) (-1) now' w' states' f3 1501 0 fu 1800 (-1800) 0 (by omega) (by omega) rfl (by omega) (fun _ => ⟨rfl, rfl⟩) (fun z => absurd z (by omega)) (by omega)
        have n1 := min_uni0 d3 k1
        have n2 := max_uni0 d4 k2
        refine ⟨_, _, _, _, _, _, _, _, _, _, _, _, _, _, _, _, m', -1, -1, now', w', states', rfl, ?_⟩
        rw [if_neg (show ¬ ¬ (-1 : Int32) = -1 from fun z => z rfl), k4, hunt_end fu p2 f' lo' hi' 0 m' (-1) (-1) now' w' states' k3, if_pos rfl, n1, n2]
    · rw [if_neg a3, if_neg a3]; exact ⟨_, _, _, _, _, _, _, _, _, _, _, _, _, _, _, _, _, _, _, _, _, _, rfl, rfl⟩
  · rw [if_pos ((isOff_iff p1).1.mpr a1), if_pos ((isOff_iff p1).2.mpr a1)]; exact ⟨_, _, _, _, _, _, _, _, _, _, _, _, _, _, _, _, _, _, _, _, _, _, rfl, rfl⟩
end
