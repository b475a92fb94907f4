/-! ===== drill: class = reference ===== -/
section
variable {fu : Nat} {gears : Int32} {names : Nat → Int32} {mayT : Nat → Int64} {safeT : Int64} {gname gfrom gto : Nat → Int32} {sf sto : Int32} {ks kv : Nat → Int32} {G : Nat}
theorem one_bit (p : Int32) (b s : Nat) (hp : p.toInt = b) (hb : b < 64) (hs : s < 64) : tb ((1 : Int64) <<< (p.toInt64 &&& 63)) s = decide (s = b) := by
  rw [tb_shl 1 p b s hp hb hs, tb_one]
  by_cases g : s = b
  · rw [decide_eq_true g, decide_eq_true (show b ≤ s by omega), decide_eq_true (show s - b = 0 by omega)]; rfl
  · rw [decide_eq_false g]
    by_cases g2 : b ≤ s
    · rw [decide_eq_false (show ¬ s - b = 0 by omega), Bool.and_false]
    · rw [decide_eq_false g2, Bool.false_and]
theorem drill_eq (hfu : 10000000 ≤ fu) (p1 p2 p3 : Int32) (h : gearRel fu gears names mayT safeT gname gfrom gto sf sto ks kv G) (len : Int32) (away : Nat → Int64) (ch pile left : Nat → Int32) :
    ∃ (v len' : Int32) (away' : Nat → Int64) (ch' pile' left' : Nat → Int32), FX11_drill fu p1 p2 p3 len away ch safeT gears mayT = some (v, len', away', ch') ∧ FX12_drill fu p1 p2 p3 gears sf sto ks kv gfrom gto pile left = some (v, 0, pile', left') := by
  have q0 := t_0
  have q1 := t_1
  have qm := t_m1
  have t63 : (63 : Int32).toInt = 63 := rfl
  obtain ⟨hG1, hG2, -, -, -⟩ := id h
  unfold FX11_drill FX12_drill
  rw [gears_eq, gears_eq]
  by_cases c1 : fX6_hasGears_r p1 gears = 0
  · rw [if_pos c1, if_pos c1]; exact ⟨_, _, _, _, _, _, rfl, rfl⟩
  rw [if_neg c1, if_neg c1]
  by_cases c2 : fX6_hasGears_r p2 gears = 0
  · rw [if_pos c2, if_pos c2]; exact ⟨_, _, _, _, _, _, rfl, rfl⟩
  rw [if_neg c2, if_neg c2]
  by_cases c3 : 0 ≤ p3
  case neg => rw [if_neg c3, if_neg c3]; exact ⟨_, _, _, _, _, _, rfl, rfl⟩
  rw [if_pos c3, if_pos c3]
  rw [i_le] at c3
  obtain ⟨a, a1, a2, a3⟩ := has_gears hG1 hG2 c1
  obtain ⟨b, b1, b2, b3⟩ := has_gears hG1 hG2 c2
  obtain ⟨pile1, left1, m1, m2⟩ := meas_eq (fu := fu) (by omega) h b2 p2 b1 pile left
  rw [m1, Option.bind_some]
  have hi1 : pz_inb p1 64 = true := i_inb.mpr (by omega)
  have hn1 : p1.toNatClampNeg = a := by have := i_nat (a := p1) (by omega); omega
  show ∃ (v len' : Int32) (away' : Nat → Int64) (ch' pile' left' : Nat → Int32), _ ∧ (if pz_inb p1 64 = true then (if ¬ left1 p1.toNatClampNeg = -1 then (if ¬ p3 = 0 then FX12_drill_L fu p1 p2 p3 sf sto ks kv gfrom gto fu 0 p1 1 0 0 pile1 left1 else (if pz_inb p1 64 = true then some (left1 p1.toNatClampNeg, 0, pile1, left1) else none)) else some (-2, 0, pile1, left1)) else none) = _
  rw [if_pos hi1, hn1, if_pos hi1]
  unfold FX0_find
  have hA : awayOk mayT safeT G b 0 (vp_updL away 0 ((1 : Int64) <<< (p2.toInt64 &&& 63))) := by
    intro m hm s hs
    have : m = 0 := by omega
    subst this
    have e : vp_updL away 0 ((1 : Int64) <<< (p2.toInt64 &&& 63)) 0 = (1 : Int64) <<< (p2.toInt64 &&& 63) := if_pos rfl
    rw [e, one_bit p2 b s b1 b3 hs]
    rfl
  rcases find_L (fu := fu) (mayT := mayT) (safeT := safeT) (by omega) hG1 hG2 b2 p1 p2 a a1 a3 63 0 fu (vp_updL away 0 ((1 : Int64) <<< (p2.toInt64 &&& 63)) 0) 0 (vp_updL away 0 ((1 : Int64) <<< (p2.toInt64 &&& 63))) ch (by omega) rfl (by omega) hA (fun s hs => hA 0 (Nat.le_refl _) s hs) (fun m hm => absurd hm (by omega)) with ⟨L, len', away', d1, d2, d3, d4, d5⟩ | ⟨len', away', d1, d2⟩
  · rw [d5]
    unfold FX0_walk
    obtain ⟨ch', w1, w2, w3⟩ := walk_L (fu := fu) (mayT := mayT) (safeT := safeT) hG1 hG2 b2 p1 len' away' L d1 d2 d3 L 0 a fu p1 0 ch (by omega) a3 a1 rfl (by omega) d4
    rw [w1, Option.bind_some, Option.bind_some]
    have hla := (m2 a a3).1 L d4
    rw [if_pos (show ¬ left1 a = -1 by rw [i_eq]; omega)]
    by_cases c4 : p3 = 0
    · refine ⟨len', len', away', ch', pile1, left1, ?_, ?_⟩
      · show (if ¬ (1 : Int32) = 0 then _ else _) = _
        rw [if_pos (show ¬ (1 : Int32) = 0 by decide), if_neg (show ¬ ¬ p3 = 0 from fun z => z c4)]
      · rw [if_neg (show ¬ ¬ p3 = 0 from fun z => z c4), show left1 a = len' from i_eq.mpr (by omega)]
    · have c4' : ¬ p3.toInt = 0 := fun z => c4 (i_eq.mpr z)
      have hw := i_nat (a := p3) (by omega)
      obtain ⟨pile2, e⟩ := path_L (b := b) h p1 p2 p3 b1 p3.toNatClampNeg (by omega) 0 left1 m2 L 1 a fu p1 1 pile1 a3 a1 rfl (by omega) (by omega) (by omega) d4
      have hmx := Int32.toInt_lt p3
      have hs3 := i_sub p3 1 (by omega) (by omega)
      refine ⟨_, len', away', ch', pile2, left1, ?_, by rw [if_pos c4]; exact e⟩
      show (if ¬ (1 : Int32) = 0 then _ else _) = _
      rw [if_pos (show ¬ (1 : Int32) = 0 by decide), if_pos c4]
      show (FX0_gearAt fu (p3 - 1) len' ch').bind _ = _
      unfold FX0_gearAt
      rw [if_neg (show ¬ p3 - 1 < 0 by rw [i_lt]; omega)]
      by_cases c5 : len' ≤ p3 - 1
      · rw [if_pos c5]
        rw [i_le] at c5
        rw [if_neg (by omega)]
        rfl
      · rw [if_neg c5]
        rw [i_le] at c5
        have hi3 : pz_inb (p3 - 1) 63 = true := i_inb.mpr (by omega)
        have hn3 : (p3 - 1).toNatClampNeg = p3.toNatClampNeg - 1 := by have := i_nat (a := p3 - 1) (by omega); omega
        rw [if_neg (show ¬ 63 ≤ p3 - 1 by rw [i_le]; omega), if_pos hi3, hn3, if_pos (by omega)]
        have := w3 (p3.toNatClampNeg - 1) (by omega)
        rw [Nat.zero_add] at this
        rw [this]
        rfl
  · rw [d2]
    have hla := (m2 a a3).2 d1
    rw [if_neg (show ¬ ¬ left1 a = -1 from fun z => z (i_eq.mpr (by omega)))]
    exact ⟨-2, len', away', ch, pile1, left1, rfl, rfl⟩
end
