/-! ===== the method feed ===== -/
def cByte (p : Int32) (u : UInt32) : Int32 := vp_nar .byte (((p.toUInt32 >>> u).toInt32).toInt8.toInt32)
theorem nar_byte (x : Int8) : vp_nar .byte x.toInt32 = x.toInt32 := by
  show x.toInt32.toInt8.toInt32 = x.toInt32
  rw [Int8.toInt8_toInt32]
theorem byte_fin : ∀ n, n < 256 → byR (Int8.ofBitVec (BitVec.ofNat 8 n)).toInt32 (Int32.ofBitVec ((BitVec.ofNat 8 n).setWidth 32)) := by
  unfold byR
  decide +kernel
theorem b255 : ∀ i, i < 32 → (255#32).getLsbD i = decide (i < 8) := by decide +kernel
theorem c_sh : ∀ j, j < 4 → ((UInt32.ofNat (24 - 8 * j)).toBitVec % 32#32).toNat = 24 - 8 * j ∧ ((Int32.ofNat (24 - 8 * j)).toBitVec.smod 32#32).toNat = 24 - 8 * j := by decide +kernel
theorem byte_eq (p : Int32) (j : Nat) (hj : j < 4) : byR (cByte p (UInt32.ofNat (24 - 8 * j))) ((p >>> Int32.ofNat (24 - 8 * j)) &&& 255) := by
  obtain ⟨s1, s2⟩ := c_sh j hj
  let t : Int8 := ((p.toUInt32 >>> UInt32.ofNat (24 - 8 * j)).toInt32).toInt8
  have e1 : cByte p (UInt32.ofNat (24 - 8 * j)) = t.toInt32 := nar_byte _
  have e3 : t.toBitVec = (p.toBitVec >>> (24 - 8 * j)).setWidth 8 := by
    show ((p.toUInt32 >>> UInt32.ofNat (24 - 8 * j)).toBitVec).signExtend 8 = _
    rw [BitVec.signExtend_eq_setWidth_of_le _ (by decide), UInt32.toBitVec_shiftRight, BitVec.ushiftRight_eq']
    show BitVec.setWidth 8 (p.toBitVec >>> ((UInt32.ofNat (24 - 8 * j)).toBitVec % 32#32).toNat) = _
    rw [s1]
  have e2 : (p >>> Int32.ofNat (24 - 8 * j)) &&& 255 = Int32.ofBitVec (t.toBitVec.setWidth 32) := by
    apply Int32.toBitVec_inj.mp
    apply BitVec.eq_of_getLsbD_eq
    intro i hi
    rw [Int32.toBitVec_and, Int32.toBitVec_shiftRight, BitVec.getLsbD_and, e3]
    show ((p.toBitVec.sshiftRight' ((Int32.ofNat (24 - 8 * j)).toBitVec.smod 32#32)).getLsbD i && (255#32).getLsbD i) = (((p.toBitVec >>> (24 - 8 * j)).setWidth 8).setWidth 32).getLsbD i
    rw [BitVec.sshiftRight_eq', s2, BitVec.getLsbD_sshiftRight, b255 i hi, BitVec.getLsbD_setWidth, BitVec.getLsbD_setWidth, BitVec.getLsbD_ushiftRight, decide_eq_true hi, decide_eq_false (show ¬ 32 ≤ i by omega)]
    by_cases c : i < 8
    · rw [decide_eq_true c, if_pos (by omega)]
      simp only [Bool.not_false, Bool.true_and, Bool.and_true]
    · rw [decide_eq_false c]
      simp only [Bool.and_false, Bool.false_and]
  rw [e1, e2]
  have e4 : t.toBitVec = BitVec.ofNat 8 t.toBitVec.toNat := by rw [BitVec.ofNat_toNat, BitVec.setWidth_eq]
  have z := byte_fin t.toBitVec.toNat t.toBitVec.isLt
  rw [← e4] at z
  exact z
theorem tapeR_upd {b t : Nat → Int32} (h : tapeR b t) (i : Nat) {x y : Int32} (hx : byR x y) : tapeR (upd b i x) (upd t i y) := by
  intro k hk
  unfold upd
  by_cases c : k = i
  · rw [if_pos c, if_pos c]; exact hx
  · rw [if_neg c, if_neg c]; exact h k hk
theorem c_shC : ∀ j, j < 4 → ((Int32.ofNat (24 - 8 * j)).toUInt32 &&& Int32.toUInt32 31) = UInt32.ofNat (24 - 8 * j) := by decide +kernel
theorem r_sh : ∀ i, i < 20 → ((24 - (8 * (Int32.ofNat i - Int32.ofNat i / 4 * 4))) &&& 31) = Int32.ofNat (24 - 8 * (i % 4)) := by decide +kernel
def wd (p1 p2 p3 p4 p5 : Int32) (i : Nat) : Int32 := if i < 4 then p1 else if i < 8 then p2 else if i < 12 then p3 else if i < 16 then p4 else p5
section
variable {fu : Nat} {p1 p2 p3 p4 p5 : Int32}
theorem feed_step (n : Nat) {x taped : Int32} (th : Int32) {T i : Nat} (tape : Nat → Int32) (hx : x.toInt = i) (hi : i < 20) (hT : taped.toInt = T) (hb : T + i < 600) : FX12_feed_L fu p1 p2 p3 p4 p5 (n + 1) x th taped tape = FX12_feed_L fu p1 p2 p3 p4 p5 n (x + 1) th taped (upd tape (T + i) ((wd p1 p2 p3 p4 p5 i >>> Int32.ofNat (24 - 8 * (i % 4))) &&& 255)) := by
  have t4 : (4 : Int32).toInt = 4 := rfl
  have t8 : (8 : Int32).toInt = 8 := rfl
  have t12 : (12 : Int32).toInt = 12 := rfl
  have t16 : (16 : Int32).toInt = 16 := rfl
  have t20 : (20 : Int32).toInt = 20 := rfl
  have h0 := i_add taped x (by omega) (by omega)
  have hin : pz_inb (taped + x) 600 = true := i_inb.mpr (by omega)
  have hn : (taped + x).toNatClampNeg = T + i := by have := i_nat (a := taped + x) (by omega); omega
  have hsh : (24 - (8 * (x - x / 4 * 4))) &&& 31 = Int32.ofNat (24 - 8 * (i % 4)) := by
    rw [i_ofNat hx (by omega)]
    exact r_sh i hi
  rw [FX12_feed_L, if_neg (show ¬ (20 : Int32) ≤ x by rw [i_le]; omega), hsh, hn]
  unfold wd
  by_cases c1 : i < 4
  · rw [if_neg (show ¬ (4 : Int32) ≤ x by rw [i_le]; omega), if_pos hin, if_pos c1]
  rw [if_pos (show (4 : Int32) ≤ x by rw [i_le]; omega), if_neg c1]
  by_cases c2 : i < 8
  · rw [if_neg (show ¬ (8 : Int32) ≤ x by rw [i_le]; omega), if_pos hin, if_pos c2]
  rw [if_pos (show (8 : Int32) ≤ x by rw [i_le]; omega), if_neg c2]
  by_cases c3 : i < 12
  · rw [if_neg (show ¬ (12 : Int32) ≤ x by rw [i_le]; omega), if_pos hin, if_pos c3]
  rw [if_pos (show (12 : Int32) ≤ x by rw [i_le]; omega), if_neg c3]
  by_cases c4 : i < 16
  · rw [if_neg (show ¬ (16 : Int32) ≤ x by rw [i_le]; omega), if_pos hin, if_pos c4]
  rw [if_pos (show (16 : Int32) ≤ x by rw [i_le]; omega), if_neg c4, if_pos hin]
theorem put_step (p : Int32) (n j H : Nat) {v held : Int32} (bytes : Nat → Int32) (hv : v.toInt = 24 - 8 * j) (hj : j < 4) (hH : held.toInt = H) (hb : H < 600) : ∃ v' : Int32, v'.toInt = 24 - 8 * ((j : Int) + 1) ∧ FX5_put_L fu p (n + 1) v held bytes = FX5_put_L fu p n v' (held + 1) (upd bytes H (cByte p (UInt32.ofNat (24 - 8 * j)))) := by
  have q0 := t_0
  have t600 : (600 : Int32).toInt = 600 := rfl
  have hin : pz_inb held 600 = true := i_inb.mpr (by omega)
  have hn : held.toNatClampNeg = H := by have := i_nat (a := held) (by omega); omega
  have hvo : v = Int32.ofNat (24 - 8 * j) := i_ofNat (s := 24 - 8 * j) (by omega) (by omega)
  have e : FX5_put_L fu p (n + 1) v held bytes = FX5_put_L fu p n (v + (-8)) (held + 1) (upd bytes H (cByte p (UInt32.ofNat (24 - 8 * j)))) := by
    rw [FX5_put_L, if_neg (show ¬ v < 0 by rw [i_lt]; omega), if_neg (show ¬ (600 : Int32) ≤ held by rw [i_le]; omega), if_pos hin, hn]
    have e2 : v.toUInt32 &&& Int32.toUInt32 31 = UInt32.ofNat (24 - 8 * j) := by
      rw [hvo]
      exact c_shC j hj
    rw [e2]
    rfl
  have q8 : (-8 : Int32).toInt = -8 := rfl
  generalize (-8 : Int32) = m at *
  have hs := i_add v m (by omega) (by omega)
  exact ⟨v + m, by omega, e⟩
theorem word_loop (p : Int32) {taped : Int32} {T w : Nat} (hT : taped.toInt = T) (hw : w < 5) (hb : T + 4 * w + 4 ≤ 600) (hp : ∀ i, 4 * w ≤ i → i < 4 * w + 4 → wd p1 p2 p3 p4 p5 i = p) (n f : Nat) : ∀ (r j : Nat) (v held x : Int32) (bytes tape : Nat → Int32), j + r = 4 → v.toInt = 24 - 8 * j → held.toInt = T + 4 * w + j → x.toInt = 4 * w + j → tapeR bytes tape →
    ∃ (held' x' : Int32) (bytes' tape' : Nat → Int32), FX5_put_L fu p (f + r + 1) v held bytes = some (held', bytes') ∧ FX12_feed_L fu p1 p2 p3 p4 p5 (n + r) x 0 taped tape = FX12_feed_L fu p1 p2 p3 p4 p5 n x' 0 taped tape' ∧ tapeR bytes' tape' ∧ held'.toInt = T + 4 * w + 4 ∧ x'.toInt = 4 * w + 4 := by
  have q0 := t_0
  have q1 := t_1
  intro r
  induction r with
  | zero =>
    intro j v held x bytes tape hj hv hh hx ht
    refine ⟨held, x, bytes, tape, ?_, rfl, ht, by omega, by omega⟩
    rw [FX5_put_L, if_pos (show v < 0 by rw [i_lt]; omega)]
  | succ r ih =>
    intro j v held x bytes tape hj hv hh hx ht
    obtain ⟨v', hv', e1⟩ := put_step (fu := fu) (held := held) p (f + r + 1) j (T + 4 * w + j) bytes hv (by omega) (by omega) (by omega)
    have e2 := feed_step (fu := fu) (p1 := p1) (p2 := p2) (p3 := p3) (p4 := p4) (p5 := p5) (x := x) (n + r) 0 tape (i := 4 * w + j) (by omega) (by omega) hT (by omega)
    rw [hp _ (by omega) (by omega), show (4 * w + j) % 4 = j from by omega, show T + (4 * w + j) = T + 4 * w + j from by omega] at e2
    have hs1 := i_add held 1 (by omega) (by omega)
    have hs2 := i_add x 1 (by omega) (by omega)
    obtain ⟨held', x', bytes', tape', g1, g2, g3, g4, g5⟩ := ih (j + 1) v' (held + 1) (x + 1) _ _ (by omega) (by omega) (by omega) (by omega) (tapeR_upd ht (T + 4 * w + j) (byte_eq p j (by omega)))
    refine ⟨held', x', bytes', tape', ?_, ?_, g3, g4, g5⟩
    · rw [show f + (r + 1) + 1 = f + r + 1 + 1 from by omega, e1]
      exact g1
    · rw [show n + (r + 1) = n + r + 1 from by omega, e2]
      exact g2
theorem feed_eq (hfu : 1000 ≤ fu) {held : Int32} {H : Nat} {bytes tape : Nat → Int32} (hH : held.toInt = H) (hH6 : H ≤ 600) (ht : tapeR bytes tape) :
    ∃ (a held' : Int32) (bytes' tape' : Nat → Int32), FX11_feed fu p1 p2 p3 p4 p5 held bytes = some (a, held', bytes') ∧ FX12_feed fu p1 p2 p3 p4 p5 held tape = some (a, 0, held', tape') ∧ tapeR bytes' tape' ∧ 0 ≤ held'.toInt ∧ held'.toInt ≤ 600 := by
  have q0 := t_0
  have t20 : (20 : Int32).toInt = 20 := rfl
  have t600 : (600 : Int32).toInt = 600 := rfl
  have t580 : (580 : Int32).toInt = 580 := rfl
  have hs := i_add held 20 (by omega) (by omega)
  unfold FX11_feed FX12_feed fX5_hasRoom_r
  by_cases c : H ≤ 580
  case neg =>
    rw [if_pos (show (600 : Int32) < held + 20 by rw [i_lt]; omega), if_neg (show ¬ ¬ (0 : Int32) = 0 by decide), if_neg (show ¬ held ≤ 580 by rw [i_le]; omega)]
    exact ⟨-1, held, bytes, tape, rfl, rfl, ht, by omega, by omega⟩
  rw [if_neg (show ¬ (600 : Int32) < held + 20 by rw [i_lt]; omega), if_pos (show ¬ (1 : Int32) = 0 by decide), if_pos (show held ≤ 580 by rw [i_le]; omega)]
  obtain ⟨g, rfl⟩ : ∃ g, fu = g + 21 := ⟨fu - 21, by omega⟩
  have W : ∀ (w n : Nat) (p hd x : Int32) (b t : Nat → Int32), w < 5 → (∀ i, 4 * w ≤ i → i < 4 * w + 4 → wd p1 p2 p3 p4 p5 i = p) → hd.toInt = H + 4 * w → x.toInt = 4 * w → tapeR b t → ∃ (held' x' : Int32) (bytes' tape' : Nat → Int32), FX5_put (g + 21) p hd b = some (held', bytes') ∧ FX12_feed_L (g + 21) p1 p2 p3 p4 p5 (n + 4) x 0 held t = FX12_feed_L (g + 21) p1 p2 p3 p4 p5 n x' 0 held tape' ∧ tapeR bytes' tape' ∧ held'.toInt = H + 4 * (w + 1) ∧ x'.toInt = 4 * (w + 1) := by
    intro w n p hd x b t hw hp h1 h2 h3
    obtain ⟨held', x', bytes', tape', g1, g2, g3, g4, g5⟩ := word_loop (fu := g + 21) (p1 := p1) (p2 := p2) (p3 := p3) (p4 := p4) (p5 := p5) p hH hw (by omega) hp n (g + 16) 4 0 24 hd x b t (by omega) rfl (by omega) (by omega) h3
    exact ⟨held', x', bytes', tape', g1, g2, g3, by omega, by omega⟩
  have wd1 : ∀ i, 4 * 0 ≤ i → i < 4 * 0 + 4 → wd p1 p2 p3 p4 p5 i = p1 := fun i _ h => by unfold wd; rw [if_pos (by omega)]
  have wd2 : ∀ i, 4 * 1 ≤ i → i < 4 * 1 + 4 → wd p1 p2 p3 p4 p5 i = p2 := fun i h' h => by unfold wd; rw [if_neg (by omega), if_pos (by omega)]
  have wd3 : ∀ i, 4 * 2 ≤ i → i < 4 * 2 + 4 → wd p1 p2 p3 p4 p5 i = p3 := fun i h' h => by unfold wd; rw [if_neg (by omega), if_neg (by omega), if_pos (by omega)]
  have wd4 : ∀ i, 4 * 3 ≤ i → i < 4 * 3 + 4 → wd p1 p2 p3 p4 p5 i = p4 := fun i h' h => by unfold wd; rw [if_neg (by omega), if_neg (by omega), if_neg (by omega), if_pos (by omega)]
  have wd5 : ∀ i, 4 * 4 ≤ i → i < 4 * 4 + 4 → wd p1 p2 p3 p4 p5 i = p5 := fun i h' h => by unfold wd; rw [if_neg (by omega), if_neg (by omega), if_neg (by omega), if_neg (by omega)]
  obtain ⟨h1, x1, b1, t1, a1, a2, a3, a4, a5⟩ := W 0 (g + 17) p1 held 0 bytes tape (by omega) wd1 (by omega) rfl ht
  obtain ⟨h2, x2, b2, t2, c1, c2, c3, c4, c5⟩ := W 1 (g + 13) p2 h1 x1 b1 t1 (by omega) wd2 (by omega) (by omega) a3
  obtain ⟨h3, x3, b3, t3, d1, d2, d3, d4, d5⟩ := W 2 (g + 9) p3 h2 x2 b2 t2 (by omega) wd3 (by omega) (by omega) c3
  obtain ⟨h4, x4, b4, t4, e1, e2, e3, e4, e5⟩ := W 3 (g + 5) p4 h3 x3 b3 t3 (by omega) wd4 (by omega) (by omega) d3
  obtain ⟨h5, x5, b5, t5, f1, f2, f3, f4, f5⟩ := W 4 (g + 1) p5 h4 x4 b4 t4 (by omega) wd5 (by omega) (by omega) e3
  refine ⟨h5, h5, b5, t5, ?_, ?_, f3, by omega, by omega⟩
  · rw [a1, Option.bind_some, c1, Option.bind_some, d1, Option.bind_some, e1, Option.bind_some, f1, Option.bind_some]
  · rw [show FX12_feed_L (g + 21) p1 p2 p3 p4 p5 (g + 21) 0 0 held tape = FX12_feed_L (g + 21) p1 p2 p3 p4 p5 (g + 17 + 4) 0 0 held tape from rfl, a2, c2, d2, e2, f2, FX12_feed_L, if_pos (show (20 : Int32) ≤ x5 by rw [i_le]; omega), show held + 20 = h5 from i_eq.mpr (by omega)]
end
