-- deps: 100 110 111 112 113 114 115 116 117 118 119 120 121 130 131 132 133 134 135 136 137 138 139 140 141 142 143 144 145 146 200 201 202 203 204 205 206 207 208 209 210 211 212 213 214 215 216 217 218
/-! ===== single suspects ===== -/
def leastN (p : Nat) : Int32 := ro0 p
def mostN (p : Nat) : Int32 := ro1 p
theorem rng_eq {p : Int32} {a : Nat} (hp : p.toInt = a) (ha : a < 5) : fX12_least_r p = ro0 a ∧ fX12_greatest_r p = ro1 a ∧ p.toNatClampNeg = a ∧ pz_inb p 5 = true ∧ 0 ≤ (ro0 a).toInt ∧ (ro0 a).toInt ≤ (ro1 a).toInt ∧ (ro1 a).toInt ≤ 9 := by
  have hn : p.toNatClampNeg = a := by have := i_nat (a := p) (by omega); omega
  have hi : pz_inb p 5 = true := i_inb.mpr (by omega)
  have hc : a = 0 ∨ a = 1 ∨ a = 2 ∨ a = 3 ∨ a = 4 := by omega
  rcases hc with rfl | rfl | rfl | rfl | rfl
  · rw [i_of (b := 0) _ hp rfl]; decide
  · rw [i_of (b := 1) _ hp rfl]; decide
  · rw [i_of (b := 2) _ hp rfl]; decide
  · rw [i_of (b := 3) _ hp rfl]; decide
  · rw [i_of (b := 4) _ hp rfl]; decide
theorem setPart_ok {p v : Int32} {a : Nat} (hp : p.toInt = a) (ha : a < 5) (h1 : (ro0 a).toInt ≤ v.toInt) (h2 : v.toInt ≤ (ro1 a).toInt) (pt : Nat → Int32) : fX3_setPart_a1 p v pt = upd pt a v := by
  obtain ⟨-, -, r3, -, r5, r6, r7⟩ := rng_eq hp ha
  have q0 := t_0
  have q5 : (5 : Int32).toInt = 5 := rfl
  unfold fX3_setPart_a1
  rw [if_neg (by rw [i_lt]; omega), if_neg (by rw [i_le]; omega), r3, if_neg (by rw [i_lt]; omega), if_pos (by rw [i_le]; omega)]
theorem setPart_no (v : Int32) (pt : Nat → Int32) : fX3_setPart_a1 (-1) v pt = pt := by
  unfold fX3_setPart_a1
  rw [if_pos (by decide)]
theorem fail_none {c : Int32} (h : susRel c (-1) (-1) (-1) (-1)) (pt : Nat → Int32) : fX10_fail_a1 c pt = pt := by
  obtain ⟨h0, h1, h2, h3⟩ := h
  unfold fX10_fail_a1 fX10_fail_J15_a1
  rw [h0, h1, h2, h3, setPart_no, setPart_no]
theorem fail_one {c p v : Int32} {a : Nat} (h : susRel c p v (-1) (-1)) (hp : p.toInt = a) (ha : a < 5) (h1 : (ro0 a).toInt ≤ v.toInt) (h2 : v.toInt ≤ (ro1 a).toInt) (pt : Nat → Int32) : fX10_fail_a1 c pt = upd pt a v := by
  obtain ⟨g0, g1, g2, g3⟩ := h
  unfold fX10_fail_a1 fX10_fail_J15_a1
  rw [g0, g1, g2, g3, setPart_no, setPart_ok hp ha h1 h2]
theorem fail_two {c p v q w : Int32} {a b : Nat} (h : susRel c p v q w) (hp : p.toInt = a) (ha : a < 5) (h1 : (ro0 a).toInt ≤ v.toInt) (h2 : v.toInt ≤ (ro1 a).toInt) (hq : q.toInt = b) (hb : b < 5) (h3 : (ro0 b).toInt ≤ w.toInt) (h4 : w.toInt ≤ (ro1 b).toInt) (pt : Nat → Int32) : fX10_fail_a1 c pt = upd (upd pt a v) b w := by
  obtain ⟨g0, g1, g2, g3⟩ := h
  unfold fX10_fail_a1 fX10_fail_J15_a1
  rw [g0, g1, g2, g3, setPart_ok hp ha h1 h2, setPart_ok hq hb h3 h4]
theorem setOk_part {pa sh : Nat → Int32} (hs : setOk pa sh) {a : Nat} (ha : a < 5) {v : Int32} (h1 : (ro0 a).toInt ≤ v.toInt) (h2 : v.toInt ≤ (ro1 a).toInt) : setOk (upd pa a v) sh := by
  obtain ⟨k0, k1, k2, k3, k4, k5, k6, k7⟩ := hs
  have hc : a = 0 ∨ a = 1 ∨ a = 2 ∨ a = 3 ∨ a = 4 := by omega
  rcases hc with rfl | rfl | rfl | rfl | rfl
  · exact ⟨⟨h1, h2⟩, k1, k2, k3, k4, k5, k6, k7⟩
  · exact ⟨k0, ⟨h1, h2⟩, k2, k3, k4, k5, k6, k7⟩
  · exact ⟨k0, k1, ⟨h1, h2⟩, k3, k4, k5, k6, k7⟩
  · exact ⟨k0, k1, k2, ⟨h1, h2⟩, k4, k5, k6, k7⟩
  · exact ⟨k0, k1, k2, k3, ⟨h1, h2⟩, k5, k6, k7⟩
theorem own_in {pa sh : Nat → Int32} (hs : setOk pa sh) {a : Nat} (ha : a < 5) : (ro0 a).toInt ≤ (pa a).toInt ∧ (pa a).toInt ≤ (ro1 a).toInt := by
  obtain ⟨k0, k1, k2, k3, k4, -⟩ := hs
  have hc : a = 0 ∨ a = 1 ∨ a = 2 ∨ a = 3 ∨ a = 4 := by omega
  rcases hc with rfl | rfl | rfl | rfl | rfl
  · exact k0
  · exact k1
  · exact k2
  · exact k3
  · exact k4
/-- the suspects of class and reference -/
def foundRel (J : Int) (found op ov tp tv : Nat → Int32) : Prop := ∀ k : Nat, (k : Int) < J → susRel (found k) (op k) (ov k) (tp k) (tv k)
theorem found_add {J : Nat} {found op ov tp tv : Nat → Int32} {c a b e f : Int32} (h : foundRel J found op ov tp tv) (hc : susRel c a b e f) : foundRel (J + 1 : Nat) (upd found J c) (upd op J a) (upd ov J b) (upd tp J e) (upd tv J f) := by
  intro k hk
  unfold upd
  by_cases g : k = J
  · rw [if_pos g, if_pos g, if_pos g, if_pos g, if_pos g]; exact hc
  · rw [if_neg g, if_neg g, if_neg g, if_neg g, if_neg g]; exact h k (by omega)
theorem adds_eq (fu : Nat) (a b e f sus : Int32) (J : Nat) (hJ : sus.toInt = J) (h : J < 400) (op ov tp tv : Nat → Int32) : FX12_adds fu a b e f sus op ov tp tv = some (sus + 1, upd op J a, upd ov J b, upd tp J e, upd tv J f) := by
  have hi : pz_inb sus 400 = true := i_inb.mpr (by omega)
  have hn : sus.toNatClampNeg = J := by have := i_nat (a := sus) (by omega); omega
  unfold FX12_adds
  rw [if_pos hi, if_pos hi, if_pos hi, if_pos hi, hn]
theorem cpy5 (pa pt : Nat → Int32) : ∀ i, i < 5 → va_cpy pa pt 0 0 5 i = pa i := by
  intro i hi
  unfold va_cpy
  rw [if_pos (by omega)]
  congr 1
  omega
theorem cpy3 (pa pt : Nat → Int32) : ∀ i, i < 3 → va_cpy pa pt 0 0 3 i = pa i := by
  intro i hi
  unfold va_cpy
  rw [if_pos (by omega)]
  congr 1
  omega
/-- how many values from v on are not the own one -/
def restv (most own v : Int) : Nat := (most + 1 - v).toNat - (if v ≤ own then 1 else 0)
section
variable {fu : Nat} {wl wr : Int32} {pa sh K st mi ks kv wf wt ot : Nat → Int32} {W : Nat}
/-- one who may have failed, asked by both -/
theorem try_both (hfu : 10000 ≤ fu) {paR : Nat → Int32} (hs : setOk paR sh) (h : whAll wl wr K st mi ks kv wf wt ot W) (d off mk : Int32) (ho : isOffP off) {sm om : Nat → Int32} {M : Nat} (hM : markOk mk sm om M) (su a b e f sus : Int32) (hsu : susRel su a b e f) (J : Nat) (hJ : sus.toInt = J) (hJ' : J < 318) (ptc ttc found : Nat → Int32) (hr : setRel (fX10_fail_a1 su ptc) ttc paR sh) (vals : Nat → Int64) (wm : Int32) (now : Nat → Int32) (w : Nat → Int64) (op ov tp tv : Nat → Int32) (hf : foundRel J found op ov tp tv) :
    ∃ (T : Nat → Int32) (vals' : Nat → Int64) (wm' : Int32) (T' : Nat → Int32) (w' : Nat → Int64) (J' : Nat) (sus' : Int32) (found' op' ov' tp' tv' : Nat → Int32), sus'.toInt = J' ∧ J ≤ J' ∧ J' ≤ J + 1 ∧ foundRel J' found' op' ov' tp' tv' ∧ FX10_addIfFits fu su mk sus d off ptc ttc sm om found wl wr K vals st mi = some (sus', T 0, T 1, T 2, T 3, T 4, T 5, T 6, T 7, fX10_fail_a1 su ptc, found', vals') ∧
      ((J' = J + 1 ∧ FX12_isFit fu d off wl wm mk ks kv wf wt ot paR sh now w sm om = some (1, wm', T', w') ∧ FX12_adds fu a b e f sus op ov tp tv = some (sus', op', ov', tp', tv')) ∨ (sus' = sus ∧ op' = op ∧ ov' = ov ∧ tp' = tp ∧ tv' = tv ∧ FX12_isFit fu d off wl wm mk ks kv wf wt ot paR sh now w sm om = some (0, wm', T', w'))) := by
  have q1 := t_1
  obtain ⟨T, vals', c1, c2⟩ := cls_fit hfu (setOk_congr hr hs) h su d off mk ho hM sus (by omega) (by omega) ptc found rfl vals
  obtain ⟨wm', T', w', r1, r2⟩ := ref_fit hfu hs h d off mk ho hM wm now w
  have hn : sus.toInt.toNat = J := by omega
  rw [hn] at c1
  by_cases q : fits paR sh K st mi W off d sm om M
  · have hsx := i_add sus 1 (by omega) (by omega)
    exact ⟨T, vals', wm', T', w', J + 1, sus + 1, _, _, _, _, _, by omega, by omega, by omega, found_add hf hsu, c1 ((fits_congr hr).mpr q), Or.inl ⟨rfl, r1 q, adds_eq fu a b e f sus J hJ (by omega) op ov tp tv⟩⟩
  · exact ⟨T, vals', wm', T', w', J, sus, found, op, ov, tp, tv, hJ, by omega, by omega, hf, c2 (fun z => q ((fits_congr hr).mp z)), Or.inr ⟨rfl, rfl, rfl, rfl, rfl, r2 q⟩⟩
end
