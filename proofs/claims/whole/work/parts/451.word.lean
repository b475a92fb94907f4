/-! ===== words on the tape ===== -/
def nm (d : Nat → Nat) : Nat → Nat
  | 0 => 0
  | i + 1 => nm d i * 32 + d i
theorem nm_lt {d : Nat → Nat} (h : ∀ j, d j < 32) : ∀ i, nm d i < 32 ^ i := by
  intro i
  induction i with
  | zero => exact Nat.one_pos
  | succ i ih =>
    rw [nm, Nat.pow_succ]
    have := h i
    omega
theorem nm_inj {d d' : Nat → Nat} (h : ∀ j, d j < 32) (h' : ∀ j, d' j < 32) : ∀ i, nm d i = nm d' i → ∀ j, j < i → d j = d' j := by
  intro i
  induction i with
  | zero => intro _ j hj; omega
  | succ i ih =>
    intro he j hj
    rw [nm, nm] at he
    have h1 := h i
    have h2 := h' i
    by_cases g : j = i
    · subst g; omega
    · exact ih (by omega) j (by omega)
theorem nm_congr {d d' : Nat → Nat} : ∀ i, (∀ j, j < i → d j = d' j) → nm d i = nm d' i := by
  intro i
  induction i with
  | zero => intro _; rfl
  | succ i ih =>
    intro h
    rw [nm, nm, ih (fun j hj => h j (by omega)), h i (by omega)]
def small (c : Int32) : Prop := 97 ≤ c.toInt ∧ c.toInt ≤ 122
/-- the letters as digits -/
def dg (tape : Nat → Int32) (p m : Nat) (j : Nat) : Nat := if j < m then (tape (p + j)).toInt.toNat - 96 else 0
theorem dg_lt {tape : Nat → Int32} {p m : Nat} (h : ∀ j, j < m → small (tape (p + j))) : ∀ j, dg tape p m j < 32 := by
  intro j
  unfold dg
  by_cases g : j < m
  · rw [if_pos g]
    have := h j g
    unfold small at this
    omega
  · rw [if_neg g]; omega
theorem and31 (y : Int32) : bn (y &&& 31) = bn y % 32 := by
  have h5 : (y &&& 31).toBitVec.toNat = y.toBitVec.toNat &&& (2 ^ 5 - 1) := by
    rw [Int32.toBitVec_and, BitVec.toNat_and]
    rfl
  unfold bn
  rw [h5, Nat.and_two_pow_sub_one_eq_mod]
theorem or_disj (a b k : Nat) (h : b < 2 ^ k) : (a * 2 ^ k) ||| b = a * 2 ^ k + b := by
  have := Nat.shiftLeft_add_eq_or_of_lt h a
  rw [Nat.shiftLeft_eq] at this
  exact this.symm
theorem sh_or (v x : Int32) (i N d : Nat) (hi : i < 6) (hv : bn v = N * 32 ^ (6 - i)) (hN : N < 32 ^ i) (hx : bn x = d) (hd : d < 32) (s : Int32) (hs : s = Int32.ofNat (25 - 5 * i)) : bn (v ||| (x <<< (s &&& 31))) = (N * 32 + d) * 32 ^ (5 - i) := by
  subst hs
  rw [bn_or, hv]
  have hc : i = 0 ∨ i = 1 ∨ i = 2 ∨ i = 3 ∨ i = 4 ∨ i = 5 := by omega
  have key : ∀ k : Nat, k ≤ 25 → (x <<< (Int32.ofNat k &&& 31)).toBitVec = x.toBitVec <<< k → bn (x <<< (Int32.ofNat k &&& 31)) = d * 2 ^ k := by
    intro k hk he
    have e : bn (x <<< (Int32.ofNat k &&& 31)) = (x.toBitVec <<< k).toNat := by unfold bn; rw [he]
    have hp : 2 ^ k ≤ 2 ^ 25 := Nat.pow_le_pow_right (by omega) hk
    have hx' : x.toBitVec.toNat = d := hx
    rw [e, BitVec.toNat_shiftLeft, Nat.shiftLeft_eq, hx']
    refine Nat.mod_eq_of_lt (Nat.lt_of_lt_of_le (Nat.mul_lt_mul_of_lt_of_le hd hp (by omega)) (by omega))
  rcases hc with rfl | rfl | rfl | rfl | rfl | rfl
  · rw [key 25 (by omega) rfl]
    show N * 1073741824 ||| d * 33554432 = (N * 32 + d) * 33554432
    have := or_disj N (d * 33554432) 30 (by omega)
    rw [show (2 : Nat) ^ 30 = 1073741824 from rfl] at this
    rw [this]; omega
  · rw [key 20 (by omega) rfl]
    show N * 33554432 ||| d * 1048576 = (N * 32 + d) * 1048576
    have := or_disj N (d * 1048576) 25 (by omega)
    rw [show (2 : Nat) ^ 25 = 33554432 from rfl] at this
    rw [this]; omega
  · rw [key 15 (by omega) rfl]
    show N * 1048576 ||| d * 32768 = (N * 32 + d) * 32768
    have := or_disj N (d * 32768) 20 (by omega)
    rw [show (2 : Nat) ^ 20 = 1048576 from rfl] at this
    rw [this]; omega
  · rw [key 10 (by omega) rfl]
    show N * 32768 ||| d * 1024 = (N * 32 + d) * 1024
    have := or_disj N (d * 1024) 15 (by omega)
    rw [show (2 : Nat) ^ 15 = 32768 from rfl] at this
    rw [this]; omega
  · rw [key 5 (by omega) rfl]
    show N * 1024 ||| d * 32 = (N * 32 + d) * 32
    have := or_disj N (d * 32) 10 (by omega)
    rw [show (2 : Nat) ^ 10 = 1024 from rfl] at this
    rw [this]; omega
  · rw [key 0 (by omega) rfl]
    show N * 32 ||| d * 1 = (N * 32 + d) * 1
    have := or_disj N d 5 (by omega)
    rw [show (2 : Nat) ^ 5 = 32 from rfl] at this
    rw [Nat.mul_one, this]; omega
theorem sh5_or (v x : Int32) (N d : Nat) (hv : bn v = N) (hN : N < 33554432) (hx : bn x = d) (hd : d < 32) : bn ((v <<< (5 &&& 31)) ||| x) = N * 32 + d := by
  have e2 : (v <<< ((5 : Int32) &&& 31)).toBitVec = v.toBitVec <<< 5 := rfl
  have e3 : bn (v <<< (5 &&& 31)) = N * 32 := by
    have hv' : v.toBitVec.toNat = N := hv
    unfold bn
    rw [e2, BitVec.toNat_shiftLeft, Nat.shiftLeft_eq, hv']
    exact Nat.mod_eq_of_lt (by omega)
  rw [bn_or, e3, hx]
  exact or_disj N d 5 (by omega)
theorem word_end (tape : Nat → Int32) (L : Nat) : ∀ n a, a + n = L → ∃ e, a ≤ e ∧ e ≤ L ∧ (∀ j, a ≤ j → j < e → small (tape j)) ∧ (e = L ∨ ¬ small (tape e)) := by
  intro n
  induction n with
  | zero => intro a ha; exact ⟨a, by omega, by omega, fun j h1 h2 => absurd h2 (by omega), Or.inl (by omega)⟩
  | succ n ih =>
    intro a ha
    by_cases g : small (tape a)
    · obtain ⟨e, h1, h2, h3, h4⟩ := ih (a + 1) (by omega)
      refine ⟨e, by omega, h2, fun j k1 k2 => ?_, h4⟩
      by_cases g2 : j = a
      · rw [g2]; exact g
      · exact h3 j (by omega) k2
    · exact ⟨a, by omega, by omega, fun j h1 h2 => absurd h2 (by omega), Or.inr g⟩
section
variable {fu : Nat} {bytes tape : Nat → Int32} {len : Int32} {L : Nat}
/-- the class's value of a word -/
theorem wordC_L (hT : tapeR bytes tape) (hlen : len.toInt = L) (hL : L ≤ 600) (p e m : Nat) (hpm : p + m = e) (heL : e ≤ L) (hsm : ∀ j, j < m → small (tape (p + j))) (hend : e = L ∨ ¬ small (tape e)) (px kind : Int32) (hpx : px.toInt = p) : ∀ (n i f : Nat) (x v1 v : Int32), i + n = m → x.toInt = ((p + i : Nat) : Int) → v1.toInt = 25 - 5 * (i : Int) → n < f → (i ≤ 6 → bn v = nm (dg tape p m) i * 32 ^ (6 - i)) → (6 ≤ i → bn v = nm (dg tape p m) 6) →
    ∃ (y vv : Int32), y.toInt = e ∧ (m ≤ 6 → bn vv = nm (dg tape p m) 6) ∧ FX5_readWord_L fu len px bytes f v1 x kind v = some (if m ≤ 6 then (if fX5_isOfLanguage_r vv = 0 then (y, 2, vv) else (y, 1, vv)) else (y, 5, vv)) := by
  have q0 := t_0
  have q1 := t_1
  have t6 : (6 : Int32).toInt = 6 := rfl
  have t97 : (97 : Int32).toInt = 97 := rfl
  have t122 : (122 : Int32).toInt = 122 := rfl
  have tm5 : (-5 : Int32).toInt = -5 := rfl
  intro n
  induction n with
  | zero =>
    intro i f x v1 v hi hx h1 hf hv1 hv2
    obtain ⟨f, rfl⟩ : ∃ g, f = g + 1 := ⟨f - 1, by omega⟩
    have him : i = m := by omega
    subst him
    have hsub := i_sub x px (by omega) (by omega)
    have hfin : ∀ vv : Int32, (if (x - px) ≤ 6 then (if (fX5_isOfLanguage_r vv) = 0 then (some (x, (2 : Int32), vv)) else (some (x, (1 : Int32), vv))) else (some (x, (5 : Int32), vv))) = some (if i ≤ 6 then (if fX5_isOfLanguage_r vv = 0 then (x, 2, vv) else (x, 1, vv)) else (x, 5, vv)) := by
      intro vv
      by_cases c : i ≤ 6
      · rw [if_pos (show x - px ≤ 6 by rw [i_le]; omega), if_pos c]
        by_cases c2 : fX5_isOfLanguage_r vv = 0
        · rw [if_pos c2, if_pos c2]
        · rw [if_neg c2, if_neg c2]
      · rw [if_neg (show ¬ x - px ≤ 6 by rw [i_le]; omega), if_neg c]
    have hval : i ≤ 6 → bn v = nm (dg tape p i) 6 := by
      intro c
      rw [hv1 c]
      have hz : ∀ k, i ≤ k → nm (dg tape p i) (k + 1) = nm (dg tape p i) k * 32 := by
        intro k hk
        rw [nm]
        have : dg tape p i k = 0 := if_neg (by omega)
        rw [this]
        rfl
      have hc : i = 0 ∨ i = 1 ∨ i = 2 ∨ i = 3 ∨ i = 4 ∨ i = 5 ∨ i = 6 := by omega
      rcases hc with rfl | rfl | rfl | rfl | rfl | rfl | rfl
      · rw [hz 5 (by omega), hz 4 (by omega), hz 3 (by omega), hz 2 (by omega), hz 1 (by omega), hz 0 (by omega)]; show _ * 1073741824 = _; omega
      · rw [hz 5 (by omega), hz 4 (by omega), hz 3 (by omega), hz 2 (by omega), hz 1 (by omega)]; show _ * 33554432 = _; omega
      · rw [hz 5 (by omega), hz 4 (by omega), hz 3 (by omega), hz 2 (by omega)]; show _ * 1048576 = _; omega
      · rw [hz 5 (by omega), hz 4 (by omega), hz 3 (by omega)]; show _ * 32768 = _; omega
      · rw [hz 5 (by omega), hz 4 (by omega)]; show _ * 1024 = _; omega
      · rw [hz 5 (by omega)]
      · show _ * 1 = _; omega
    refine ⟨x, v, by omega, hval, ?_⟩
    rw [FX5_readWord_L]
    by_cases c1 : len ≤ x
    · rw [if_pos c1]; exact hfin v
    · rw [if_neg c1]
      rw [i_le] at c1
      have hi' : pz_inb x 600 = true := i_inb.mpr (by omega)
      have hn : x.toNatClampNeg = e := by have := i_nat (a := x) (by omega); omega
      obtain ⟨b1, b2, b3⟩ := hT e (by omega)
      have hns : ¬ small (tape e) := by
        rcases hend with z | z
        · omega
        · exact z
      rw [if_pos hi', hn]
      by_cases c2 : bytes e < 97
      · rw [if_pos c2]; exact hfin v
      · rw [if_neg c2, if_pos hi']
        rw [i_lt] at c2
        have c3 : 122 < bytes e := by
          rw [i_lt]
          unfold small at hns
          omega
        rw [if_pos c3]; exact hfin v
  | succ n ih =>
    intro i f x v1 v hi hx h1 hf hv1 hv2
    obtain ⟨f, rfl⟩ : ∃ g, f = g + 1 := ⟨f - 1, by omega⟩
    have hi' : pz_inb x 600 = true := i_inb.mpr (by omega)
    have hn : x.toNatClampNeg = p + i := by have := i_nat (a := x) (by omega); omega
    have hs := i_add x 1 (by omega) (by omega)
    obtain ⟨b1, b2, b3⟩ := hT (p + i) (by omega)
    have hsi := hsm i (by omega)
    unfold small at hsi
    generalize hm5 : (-5 : Int32) = m5 at *
    have hs5 := i_add v1 m5 (by omega) (by omega)
    rw [FX5_readWord_L, if_neg (by rw [i_le]; omega), if_pos hi', hn, if_neg (show ¬ bytes (p + i) < 97 by rw [i_lt]; omega), if_pos hi', if_neg (show ¬ 122 < bytes (p + i) by rw [i_lt]; omega), hm5]
    by_cases c : v1 < 0
    · rw [if_pos c]
      rw [i_lt] at c
      exact ih (i + 1) f (x + 1) (v1 + m5) v (by omega) (by omega) (by omega) (by omega) (fun z => absurd z (by omega)) (fun _ => hv2 (by omega))
    · rw [if_neg c, if_pos hi']
      rw [i_lt] at c
      have hd : bn (bytes (p + i) &&& 31) = dg tape p m i := by
        have hb := bn_nn (x := bytes (p + i)) (by omega)
        rw [and31]
        unfold dg
        rw [if_pos (by omega)]
        omega
      have hdl := dg_lt hsm i
      have hN := nm_lt (dg_lt hsm) i
      have hso := sh_or v (bytes (p + i) &&& 31) i (nm (dg tape p m) i) (dg tape p m i) (by omega) (hv1 (by omega)) hN hd hdl v1 (i_ofNat (by omega) (by omega))
      have hnew : bn (v ||| ((bytes (p + i) &&& 31) <<< (v1 &&& 31))) = nm (dg tape p m) (i + 1) * 32 ^ (6 - (i + 1)) := by
        rw [hso, nm, show 5 - i = 6 - (i + 1) by omega]
      refine ih (i + 1) f (x + 1) (v1 + m5) _ (by omega) (by omega) (by omega) (by omega) (fun _ => hnew) (fun z => ?_)
      have : i = 5 := by omega
      subst this
      rw [hnew]
      exact Nat.mul_one _
/-- the reference's value of a word that is none of the language -/
theorem nameR_L (p e m : Nat) (hpm : p + m = e) (he : e ≤ 600) (hm : m ≤ 6) (hsm : ∀ j, j < m → small (tape (p + j))) (px ex : Int32) (hpx : px.toInt = p) (hex : ex.toInt = e) : ∀ (n i f : Nat) (x v : Int32), i + n = 6 → x.toInt = i → n < f → bn v = nm (dg tape p m) i → ∃ vv, FX12_name_L fu ex px tape f x v = some vv ∧ bn vv = nm (dg tape p m) 6 := by
  have q0 := t_0
  have q1 := t_1
  have t6 : (6 : Int32).toInt = 6 := rfl
  have t97 : (97 : Int32).toInt = 97 := rfl
  intro n
  induction n with
  | zero =>
    intro i f x v hi hx hf hv
    obtain ⟨f, rfl⟩ : ∃ g, f = g + 1 := ⟨f - 1, by omega⟩
    have : i = 6 := by omega
    subst this
    rw [FX12_name_L, if_pos (by rw [i_le]; omega)]
    exact ⟨v, rfl, hv⟩
  | succ n ih =>
    intro i f x v hi hx hf hv
    obtain ⟨f, rfl⟩ : ∃ g, f = g + 1 := ⟨f - 1, by omega⟩
    have hs := i_add x 1 (by omega) (by omega)
    have hpi := i_add px x (by omega) (by omega)
    have hN := nm_lt (dg_lt hsm) i
    have hNb : nm (dg tape p m) i < 33554432 := Nat.lt_of_lt_of_le hN (Nat.pow_le_pow_right (by omega) (show i ≤ 5 by omega))
    rw [FX12_name_L, if_neg (by rw [i_le]; omega)]
    by_cases c : ex ≤ px + x
    · rw [if_pos c]
      rw [i_le] at c
      have hd : dg tape p m i = 0 := if_neg (by omega)
      refine ih (i + 1) f (x + 1) _ (by omega) (by omega) (by omega) ?_
      rw [sh5_or v 0 _ 0 hv hNb rfl (by omega), nm, hd]
    · rw [if_neg c]
      rw [i_le] at c
      have hi' : pz_inb (px + x) 600 = true := i_inb.mpr (by omega)
      have hn : (px + x).toNatClampNeg = p + i := by have := i_nat (a := px + x) (by omega); omega
      have hsi := hsm i (by omega)
      unfold small at hsi
      rw [if_pos hi', hn]
      have m1 := i_sub (tape (p + i)) 97 (by omega) (by omega)
      have m2 := i_add (tape (p + i) - 97) 1 (by omega) (by omega)
      have hb := bn_nn (x := tape (p + i) - 97 + 1) (by omega)
      have hd : bn (tape (p + i) - 97 + 1) = dg tape p m i := by
        unfold dg
        rw [if_pos (by omega)]
        omega
      refine ih (i + 1) f (x + 1) _ (by omega) (by omega) (by omega) ?_
      rw [sh5_or v _ _ _ hv hNb hd (dg_lt hsm i), nm]
end
/-! ===== the reference's words ===== -/
def wk (i : Nat) : Nat := ([0, 3, 8, 13, 17, 20, 24, 28, 32, 37, 43, 47, 54] : List Nat).getD i 54
def wl (i : Nat) : Nat := ([2, 4, 4, 3, 2, 3, 3, 3, 4, 5, 3, 6] : List Nat).getD i 0
theorem w_tab : ∀ i, i < 12 → wk i + wl i < 54 ∧ wk (i + 1) = wk i + wl i + 1 ∧ wl i ≤ 6 ∧ 1 ≤ wl i ∧ fWords (Int32.ofNat (wk i + wl i)) = 32 := by decide +kernel
theorem w_let : ∀ i, i < 12 → ∀ j, j < wl i → ¬ fWords (Int32.ofNat (wk i + j)) = 32 ∧ 97 ≤ (fWords (Int32.ofNat (wk i + j))).toInt ∧ (fWords (Int32.ofNat (wk i + j))).toInt ≤ 122 := by decide +kernel
/-- digits of a word of the language -/
def wdg (i j : Nat) : Nat := if j < wl i then (fWords (Int32.ofNat (wk i + j))).toInt.toNat - 96 else 0
theorem w_code : ∀ i, i < 12 → (nm (wdg i) 6 : Int) = (wcode i).toInt := by decide +kernel
theorem w_lang : ∀ i, i < 12 → fX5_isOfLanguage_r (wcode i) = 1 := by decide +kernel
theorem lang_no {v : Int32} (h : ∀ i, i < 12 → ¬ v = wcode i) : fX5_isOfLanguage_r v = 0 := by
  have h0 : ¬ v = 308281344 := h 0 (by omega)
  have h1 : ¬ v = 240175104 := h 1 (by omega)
  have h2 : ¬ v = 638784512 := h 2 (by omega)
  have h3 : ¬ v = 620462080 := h 3 (by omega)
  have h4 : ¬ v = 522190848 := h 4 (by omega)
  have h5 : ¬ v = 48365568 := h 5 (by omega)
  have h6 : ¬ v = 486146048 := h 6 (by omega)
  have h7 : ¬ v = 509804544 := h 7 (by omega)
  have h8 : ¬ v = 693712896 := h 8 (by omega)
  have h9 : ¬ v = 780309888 := h 9 (by omega)
  have h10 : ¬ v = 605454336 := h 10 (by omega)
  have h11 : ¬ v = 626135218 := h 11 (by omega)
  unfold fX5_isOfLanguage_r
  simp only [if_neg h0, if_neg h1, if_neg h2, if_neg h3, if_neg h4, if_neg h5, if_neg h6, if_neg h7, if_neg h8, if_neg h9, if_neg h10, if_neg h11]
/-- the letters are those of word i -/
def eqW (tape : Nat → Int32) (p m i : Nat) : Prop := m = wl i ∧ ∀ j, j < wl i → tape (p + j) = fWords (Int32.ofNat (wk i + j))
theorem eqW_code {tape : Nat → Int32} {p m i : Nat} (hi : i < 12) (hm : m ≤ 6) (hsm : ∀ j, j < m → small (tape (p + j))) : eqW tape p m i ↔ nm (dg tape p m) 6 = nm (wdg i) 6 := by
  obtain ⟨w1, w2, w3, w4, w5⟩ := w_tab i hi
  have hwl : ∀ j, wdg i j < 32 := by
    intro j
    unfold wdg
    by_cases g : j < wl i
    · rw [if_pos g]
      have := w_let i hi j g
      omega
    · rw [if_neg g]; omega
  constructor
  · rintro ⟨h1, h2⟩
    refine nm_congr 6 (fun j hj => ?_)
    unfold dg wdg
    rw [h1]
    by_cases g : j < wl i
    · rw [if_pos g, if_pos g, h2 j g]
    · rw [if_neg g, if_neg g]
  · intro h
    have hd := nm_inj (dg_lt hsm) hwl 6 h
    have hml : m = wl i := by
      rcases Nat.lt_trichotomy m (wl i) with g | g | g
      · have := hd m (by omega)
        unfold dg wdg at this
        rw [if_neg (by omega), if_pos g] at this
        have := w_let i hi m g
        omega
      · exact g
      · have h1 := hd (wl i) (by omega)
        unfold dg wdg at h1
        rw [if_pos g, if_neg (by omega)] at h1
        have := hsm (wl i) g
        unfold small at this
        omega
    refine ⟨hml, fun j hj => ?_⟩
    have h1 := hd j (by omega)
    unfold dg wdg at h1
    rw [if_pos (by omega), if_pos hj] at h1
    have h2 := hsm j (by omega)
    unfold small at h2
    have h3 := w_let i hi j hj
    exact i_eq.mpr (by omega)
section
variable {fu : Nat} {tape : Nat → Int32}
theorem w_match (p e m : Nat) (hpm : p + m = e) (he : e ≤ 600) (px ex : Int32) (hpx : px.toInt = p) (hex : ex.toInt = e) (i : Nat) (hi : i < 12) (v1 v2 : Int32) (h2 : v2.toInt = wk i) : ∀ (n j f : Nat) (x : Int32), j + n = wl i → j ≤ m → x.toInt = j → n + 1 < f → (∀ q, q < j → tape (p + q) = fWords (Int32.ofNat (wk i + q))) →
    (eqW tape p m i ∧ FX12_word_L fu ex px tape f 1 v1 v2 x = some v1) ∨ (¬ eqW tape p m i ∧ ∃ f', f ≤ f' + (n + 1) ∧ FX12_word_L fu ex px tape f 1 v1 v2 x = FX12_word_L fu ex px tape f' 2 v1 v2 0) := by
  obtain ⟨w1, w2, w3, w4, w5⟩ := w_tab i hi
  have q1 := t_1
  intro n
  induction n with
  | zero =>
    intro j f x hj hjm hx hf hq
    obtain ⟨f, rfl⟩ : ∃ g, f = g + 1 := ⟨f - 1, by omega⟩
    have hjl : j = wl i := by omega
    subst hjl
    have hs := i_add v2 x (by omega) (by omega)
    have hp := i_add px x (by omega) (by omega)
    have hof : v2 + x = Int32.ofNat (wk i + wl i) := i_ofNat (by omega) (by omega)
    have hib : pz_inb (v2 + x) 54 = true := i_inb.mpr (by omega)
    rw [FX12_word_L, if_neg (show ¬ (1 : Nat) = 0 by omega), if_pos rfl, if_pos hib, hof, if_pos w5, if_neg (show ¬ ¬ _ = (32 : Int32) from fun z => z w5)]
    rw [hof] at hib
    rw [if_pos hib]
    by_cases c : px + x = ex
    · rw [if_neg (show ¬ ¬ px + x = ex from fun z => z c)]
      have := i_eq.mp c
      exact Or.inl ⟨⟨by omega, hq⟩, rfl⟩
    · rw [if_pos c]
      refine Or.inr ⟨fun z => c (i_eq.mpr ?_), f, by omega, rfl⟩
      have := z.1
      omega
  | succ n ih =>
    intro j f x hj hjm hx hf hq
    obtain ⟨f, rfl⟩ : ∃ g, f = g + 1 := ⟨f - 1, by omega⟩
    have hs := i_add v2 x (by omega) (by omega)
    have hp := i_add px x (by omega) (by omega)
    have hx1 := i_add x 1 (by omega) (by omega)
    have hof : v2 + x = Int32.ofNat (wk i + j) := i_ofNat (by omega) (by omega)
    have hib : pz_inb (Int32.ofNat (wk i + j)) 54 = true := by rw [← hof]; exact i_inb.mpr (by omega)
    obtain ⟨l1, l2, l3⟩ := w_let i hi j (by omega)
    rw [FX12_word_L, if_neg (show ¬ (1 : Nat) = 0 by omega), if_pos rfl, hof, if_pos hib, if_neg l1]
    by_cases c : ex ≤ px + x
    · rw [if_pos c, if_pos hib, if_pos l1]
      rw [i_le] at c
      exact Or.inr ⟨fun z => by have := z.1; omega, f, by omega, rfl⟩
    · rw [if_neg c]
      rw [i_le] at c
      have hi' : pz_inb (px + x) 600 = true := i_inb.mpr (by omega)
      have hn : (px + x).toNatClampNeg = p + j := by have := i_nat (a := px + x) (by omega); omega
      rw [if_pos hi', if_pos hib, hn]
      by_cases c2 : tape (p + j) = fWords (Int32.ofNat (wk i + j))
      · rw [if_neg (show ¬ ¬ tape (p + j) = _ from fun z => z c2)]
        have hq' : ∀ q, q < j + 1 → tape (p + q) = fWords (Int32.ofNat (wk i + q)) := by
          intro q hq1
          by_cases g : q = j
          · rw [g]; exact c2
          · exact hq q (by omega)
        rcases ih (j + 1) f (x + 1) (by omega) (by omega) (by omega) (by omega) hq' with z | ⟨z1, f', z2, z3⟩
        · exact Or.inl z
        · exact Or.inr ⟨z1, f', by omega, z3⟩
      · rw [if_pos c2, if_pos hib, if_pos l1]
        exact Or.inr ⟨fun z => c2 (z.2 j (by omega)), f, by omega, rfl⟩
theorem w_skip (px ex : Int32) (i : Nat) (hi : i < 12) (v1 : Int32) : ∀ (n j f : Nat) (x : Int32), j + n = wl i → x.toInt = ((wk i + j : Nat) : Int) → n + 1 < f → ∃ (f' : Nat) (y : Int32), f ≤ f' + (n + 1) ∧ y.toInt = wk (i + 1) ∧ FX12_word_L fu ex px tape f 2 v1 x 0 = FX12_word_L fu ex px tape f' 0 (v1 + 1) y 0 := by
  obtain ⟨w1, w2, w3, w4, w5⟩ := w_tab i hi
  have q1 := t_1
  intro n
  induction n with
  | zero =>
    intro j f x hj hx hf
    obtain ⟨f, rfl⟩ : ∃ g, f = g + 1 := ⟨f - 1, by omega⟩
    have hx1 := i_add x 1 (by omega) (by omega)
    have hjl : j = wl i := by omega
    subst hjl
    have hof : x = Int32.ofNat (wk i + wl i) := i_ofNat hx (by omega)
    have hib : pz_inb x 54 = true := i_inb.mpr (by omega)
    rw [FX12_word_L, if_neg (show ¬ (2 : Nat) = 0 by omega), if_neg (show ¬ (2 : Nat) = 1 by omega), if_pos rfl, if_pos hib, if_pos (show fWords x = 32 by rw [hof]; exact w5)]
    exact ⟨f, x + 1, by omega, by omega, rfl⟩
  | succ n ih =>
    intro j f x hj hx hf
    obtain ⟨f, rfl⟩ : ∃ g, f = g + 1 := ⟨f - 1, by omega⟩
    have hx1 := i_add x 1 (by omega) (by omega)
    have hof : x = Int32.ofNat (wk i + j) := i_ofNat hx (by omega)
    have hib : pz_inb x 54 = true := i_inb.mpr (by omega)
    have l1 := (w_let i hi j (by omega)).1
    rw [FX12_word_L, if_neg (show ¬ (2 : Nat) = 0 by omega), if_neg (show ¬ (2 : Nat) = 1 by omega), if_pos rfl, if_pos hib, if_neg (show ¬ fWords x = 32 by rw [hof]; exact l1)]
    obtain ⟨f', y, a1, a2, a3⟩ := ih (j + 1) f (x + 1) (by omega) (by omega) (by omega)
    exact ⟨f', y, by omega, a2, a3⟩
theorem word_all (p e m : Nat) (hpm : p + m = e) (he : e ≤ 600) (px ex : Int32) (hpx : px.toInt = p) (hex : ex.toInt = e) : ∀ (n i f : Nat) (v1 x z : Int32), i + n = 12 → v1.toInt = i → x.toInt = wk i → 20 * n < f → z = 0 →
    ∃ w, FX12_word_L fu ex px tape f 0 v1 x z = some w ∧ ((∃ k : Nat, i ≤ k ∧ k < 12 ∧ w = Int32.ofNat k ∧ eqW tape p m k) ∨ (w = -1 ∧ ∀ k, i ≤ k → k < 12 → ¬ eqW tape p m k)) := by
  have q1 := t_1
  have t54 : (54 : Int32).toInt = 54 := rfl
  intro n
  induction n with
  | zero =>
    intro i f v1 x z hi hv hx hf hz
    obtain ⟨f, rfl⟩ : ∃ g, f = g + 1 := ⟨f - 1, by omega⟩
    have : i = 12 := by omega
    subst this
    have hx' : x.toInt = 54 := hx
    rw [FX12_word_L, if_pos rfl, if_pos (by rw [i_le]; omega)]
    exact ⟨_, rfl, Or.inr ⟨rfl, fun k h1 h2 => absurd h2 (by omega)⟩⟩
  | succ n ih =>
    intro i f v1 x z hi hv hx hf hz
    subst hz
    obtain ⟨f, rfl⟩ : ∃ g, f = g + 1 := ⟨f - 1, by omega⟩
    obtain ⟨w1, w2, w3, w4, w5⟩ := w_tab i (by omega)
    have hv1 := i_add v1 1 (by omega) (by omega)
    rw [FX12_word_L, if_pos rfl, if_neg (by rw [i_le]; omega)]
    rcases w_match (fu := fu) (tape := tape) p e m hpm he px ex hpx hex i (by omega) v1 x hx (wl i) 0 f 0 (by omega) (by omega) rfl (by omega) (fun q hq => absurd hq (by omega)) with ⟨a1, a2⟩ | ⟨a1, f', a2, a3⟩
    · exact ⟨v1, a2, Or.inl ⟨i, by omega, by omega, i_ofNat hv (by omega), a1⟩⟩
    · rw [a3]
      obtain ⟨f2, y, b1, b2, b3⟩ := w_skip (fu := fu) (tape := tape) px ex i (by omega) v1 (wl i) 0 f' x (by omega) (by omega) (by omega)
      rw [b3]
      obtain ⟨w, c1, c2⟩ := ih (i + 1) f2 (v1 + 1) y 0 (by omega) (by omega) b2 (by omega) rfl
      refine ⟨w, c1, ?_⟩
      rcases c2 with ⟨k, k1, k2, k3, k4⟩ | ⟨k1, k2⟩
      · exact Or.inl ⟨k, by omega, k2, k3, k4⟩
      · refine Or.inr ⟨k1, fun k h1 h2 => ?_⟩
        by_cases g : k = i
        · rw [g]; exact a1
        · exact k2 k (by omega) h2
end
