-- deps: 100 110 111 112 113 114 115 116 117 118 119 120 121 130 131 132 133 134 135 136 137 138 139 140 141 142 143 144 145 146 200 201 202 203 204 205 206 207 208 209 210 211 212 213 214 215
/-! ===== a wake that fits ===== -/
def markOk (mk : Int32) (sm om : Nat → Int32) (M : Nat) : Prop := mk.toInt = M ∧ M ≤ 12 ∧ (∀ m, m < M → 1 ≤ (sm m).toInt ∧ (sm m).toInt ≤ 200 ∧ isOffP (om m)) ∧ ∀ m, m + 1 < M → (sm m).toInt < (sm (m + 1)).toInt
/-- one mark -/
def fit1 (pa sh K st mi : Nat → Int32) (W : Nat) (S0 : Nat → Int32) (d : Int32) (sm om : Nat → Int32) (m : Nat) : Prop := fJ9_abs_0f7a4_r (stN pa sh K st mi W S0 (sm m).toInt.toNat 4 - om m) ≤ d
def fitN (pa sh K st mi : Nat → Int32) (W : Nat) (S0 : Nat → Int32) (d : Int32) (sm om : Nat → Int32) (M m : Nat) : Prop := ∀ j, m ≤ j → j < M → fit1 pa sh K st mi W S0 d sm om j
section
variable {fu : Nat} {wl wr : Int32} {pa sh K st mi ks kv wf wt ot : Nat → Int32} {W : Nat}
theorem cls_fit_in (hfu : 100 ≤ fu) (hs : setOk pa sh) (h : whAll wl wr K st mi ks kv wf wt ot W) {S0 : Nat → Int32} (hS0 : stOk S0) (su mk d s0 : Int32) (sm om : Nat → Int32) (m t : Nat) (vm : Int32) (hvm : vm.toInt = m) (hm : m < 12) (ht : (sm m).toInt = t) (ht2 : t ≤ 200) (sus : Int32) (found : Nat → Int32) : ∀ (r f k : Nat) (x v4 : Int32) (S : Nat → Int32) (vals : Nat → Int64), k + r = t → x.toInt = k → S = stN pa sh K st mi W S0 k → (v4 = 0 → nxt pa sh K st mi W S = S) →
    ∃ (f' k' : Nat) (x' v4' : Int32) (T : Nat → Int32) (vals' : Nat → Int64), f ≤ f' ∧ k' ≤ t ∧ x'.toInt = k' ∧ T = stN pa sh K st mi W S0 k' ∧ T = stN pa sh K st mi W S0 t ∧ (v4' = 0 → nxt pa sh K st mi W T = T) ∧ FX10_addIfFits_L fu su mk d s0 sh sm om wl wr K st mi (f + r + 1) 1 x v4 vm sus (S 0) (S 1) (S 2) (S 3) (S 4) (S 5) (S 6) (S 7) pa found vals = (if fJ9_abs_0f7a4_r (T 4 - om m) ≤ d then FX10_addIfFits_L fu su mk d s0 sh sm om wl wr K st mi f' 0 x' v4' (vm + 1) sus (T 0) (T 1) (T 2) (T 3) (T 4) (T 5) (T 6) (T 7) pa found vals' else some (sus, T 0, T 1, T 2, T 3, T 4, T 5, T 6, T 7, pa, found, vals')) := by
  have q1 := t_1
  have hi : pz_inb vm 12 = true := i_inb.mpr (by omega)
  have hn : vm.toNatClampNeg = m := by have := i_nat (a := vm) (by omega); omega
  intro r
  induction r with
  | zero =>
    intro f k x v4 S vals hk hx hS hv
    have : k = t := by omega
    subst this
    refine ⟨f, k, x, v4, S, vals, Nat.le_refl _, Nat.le_refl _, hx, hS, hS, hv, ?_⟩
    rw [FX10_addIfFits_L, if_neg (show ¬ (1 : Nat) = 0 by omega), if_pos rfl, if_pos hi, hn, if_pos (by rw [i_le]; omega), if_pos hi]
  | succ r ih =>
    intro f k x v4 S vals hk hx hS hv
    have hx2 : ¬ sm m ≤ x := by rw [i_le]; omega
    by_cases g : v4 = 0
    · refine ⟨f + (r + 1), k, x, v4, S, vals, by omega, by omega, hx, hS, ?_, hv, ?_⟩
      · rw [show t = k + (r + 1) by omega, stN_add, ← hS, stN_fix (hv g)]
      · rw [FX10_addIfFits_L, if_neg (show ¬ (1 : Nat) = 0 by omega), if_pos rfl, if_pos hi, hn, if_neg hx2, if_pos g, if_pos hi]
    · have hSk : stOk S := by rw [hS]; exact stN_ok hs k hS0
      obtain ⟨mv, vals1, e, e1, e2⟩ := goOn_eq hfu hs hSk h vals
      have hs' := i_add x 1 (by omega) (by omega)
      obtain ⟨f', k', x', v4', T, vals', b1, b2, b3, b4, b5, b6, b7⟩ := ih f (k + 1) (x + 1) mv (nxt pa sh K st mi W S) vals1 (by omega) (by omega) (by rw [stN_succ, hS]) (fun z => by rw [e2 z, e2 z])
      refine ⟨f', k', x', v4', T, vals', b1, b2, b3, b4, b5, b6, ?_⟩
      rw [show f + (r + 1) + 1 = (f + r + 1) + 1 by omega, FX10_addIfFits_L, if_neg (show ¬ (1 : Nat) = 0 by omega), if_pos rfl, if_pos hi, hn, if_neg hx2, if_neg g, e, Option.bind_some]
      exact b7
theorem cls_fit_out (hfu : 100 ≤ fu) (hs : setOk pa sh) (h : whAll wl wr K st mi ks kv wf wt ot W) {S0 : Nat → Int32} (hS0 : stOk S0) (su mk d s0 : Int32) {sm om : Nat → Int32} {M : Nat} (hM : markOk mk sm om M) (sus : Int32) (hsus : 0 ≤ sus.toInt) (hsus' : sus.toInt < 318) (found : Nat → Int32) : ∀ (n f m k : Nat) (x v4 vm : Int32) (S : Nat → Int32) (vals : Nat → Int64), m + n = M → vm.toInt = m → x.toInt = k → (∀ j, m ≤ j → j < M → (k : Int) ≤ (sm j).toInt) → S = stN pa sh K st mi W S0 k → (v4 = 0 → nxt pa sh K st mi W S = S) → 203 * n + 1 ≤ f →
    ∃ (T : Nat → Int32) (vals' : Nat → Int64), (fitN pa sh K st mi W S0 d sm om M m → FX10_addIfFits_L fu su mk d s0 sh sm om wl wr K st mi f 0 x v4 vm sus (S 0) (S 1) (S 2) (S 3) (S 4) (S 5) (S 6) (S 7) pa found vals = some (sus + 1, T 0, T 1, T 2, T 3, T 4, T 5, T 6, T 7, pa, upd found sus.toInt.toNat su, vals')) ∧ (¬ fitN pa sh K st mi W S0 d sm om M m → FX10_addIfFits_L fu su mk d s0 sh sm om wl wr K st mi f 0 x v4 vm sus (S 0) (S 1) (S 2) (S 3) (S 4) (S 5) (S 6) (S 7) pa found vals = some (sus, T 0, T 1, T 2, T 3, T 4, T 5, T 6, T 7, pa, found, vals')) := by
  have q1 := t_1
  have t318 : (318 : Int32).toInt = 318 := rfl
  obtain ⟨hm1, hm2, hm3, hm4⟩ := hM
  intro n
  induction n with
  | zero =>
    intro f m k x v4 vm S vals hm hvm hx hle hS hv hf
    obtain ⟨f, rfl⟩ : ∃ g, f = g + 1 := ⟨f - 1, by omega⟩
    refine ⟨S, vals, fun _ => ?_, fun z => absurd (fun j h1 h2 => absurd h2 (by omega)) z⟩
    have hi : pz_inb sus 318 = true := i_inb.mpr (by omega)
    rw [FX10_addIfFits_L, if_pos rfl, if_pos (show mk ≤ vm by rw [i_le]; omega), if_neg (show ¬ 318 ≤ sus by rw [i_le]; omega), if_pos hi]
    rfl
  | succ n ih =>
    intro f m k x v4 vm S vals hm hvm hx hle hS hv hf
    obtain ⟨f, rfl⟩ : ∃ g, f = g + 1 := ⟨f - 1, by omega⟩
    obtain ⟨a1, a2, a3⟩ := hm3 m (by omega)
    have hkm := hle m (Nat.le_refl _) (by omega)
    obtain ⟨g, hg⟩ : ∃ g, f = g + ((sm m).toInt.toNat - k) + 1 := ⟨f - ((sm m).toInt.toNat - k) - 1, by omega⟩
    obtain ⟨f', k', x', v4', T, vals', b1, b2, b3, b4, b5, b6, b7⟩ := cls_fit_in hfu hs h hS0 su mk d s0 sm om m (sm m).toInt.toNat vm hvm (by omega) (by omega) (by omega) sus found ((sm m).toInt.toNat - k) g k x v4 S vals (by omega) hx hS hv
    rw [FX10_addIfFits_L, if_pos rfl, if_neg (show ¬ mk ≤ vm by rw [i_le]; omega), hg, b7]
    have hfe : fJ9_abs_0f7a4_r (T 4 - om m) ≤ d ↔ fit1 pa sh K st mi W S0 d sm om m := by
      unfold fit1
      rw [b5]
    by_cases q : fJ9_abs_0f7a4_r (T 4 - om m) ≤ d
    · rw [if_pos q]
      have hs' := i_add vm 1 (by omega) (by omega)
      obtain ⟨T', vals'', c1, c2⟩ := ih f' (m + 1) k' x' v4' (vm + 1) T vals' (by omega) (by omega) b3 (fun j h1 h2 => by
        have : ∀ j, m ≤ j → j < M → (sm m).toInt ≤ (sm j).toInt := by
          intro j
          induction j with
          | zero => intro z1 z2; have : m = 0 := by omega
                    rw [this]; exact Int.le_refl _
          | succ j ihj =>
            intro z1 z2
            by_cases e : m = j + 1
            · rw [e]; exact Int.le_refl _
            · have y1 := ihj (by omega) (by omega)
              have y2 := hm4 j z2
              omega
        have := this j (by omega) h2
        omega) b4 b6 (by omega)
      have hiff : fitN pa sh K st mi W S0 d sm om M m ↔ fitN pa sh K st mi W S0 d sm om M (m + 1) := by
        constructor
        · intro z j h1 h2; exact z j (by omega) h2
        · intro z j h1 h2
          by_cases e : j = m
          · rw [e]; exact hfe.mp q
          · exact z j (by omega) h2
      exact ⟨T', vals'', fun z => c1 (hiff.mp z), fun z => c2 (fun z' => z (hiff.mpr z'))⟩
    · rw [if_neg q]
      exact ⟨T, vals', fun z => absurd (hfe.mpr (z m (Nat.le_refl _) (by omega))) q, fun _ => rfl⟩
end
