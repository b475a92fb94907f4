-- deps: 100 110 111 112 113 114 115 116 117 118 119 120 121 130 131 132 133 134 135 136 137 138 139 140 141 142 143 144 145 146 200 201 202 203 204 205 206 207 208 209 210 211 212 213 214 215 216
/-! ===== the reference's fit ===== -/
section
variable {fu : Nat} {wl wr : Int32} {pa sh K st mi ks kv wf wt ot : Nat → Int32} {W : Nat}
theorem mark_mono {mk : Int32} {sm om : Nat → Int32} {M : Nat} (hM : markOk mk sm om M) (m : Nat) : ∀ j, m ≤ j → j < M → (sm m).toInt ≤ (sm j).toInt := by
  intro j
  induction j with
  | zero =>
    intro z1 z2
    have : m = 0 := by omega
    rw [this]
    exact Int.le_refl _
  | succ j ihj =>
    intro z1 z2
    by_cases e : m = j + 1
    · rw [e]; exact Int.le_refl _
    · have y1 := ihj (by omega) (by omega)
      have y2 := hM.2.2.2 j z2
      omega
theorem ref_fit_in (hfu : 100 ≤ fu) (hs : setOk pa sh) (h : whAll wl wr K st mi ks kv wf wt ot W) {S0 : Nat → Int32} (hS0 : stOk S0) (mk d : Int32) (sm om : Nat → Int32) (m t : Nat) (vm : Int32) (hvm : vm.toInt = m) (hm : m < 12) (ht : (sm m).toInt = t) (ht2 : t ≤ 200) : ∀ (r f k : Nat) (x wm : Int32) (w : Nat → Int64), k + r = t → x.toInt = k →
    ∃ (x' wm' : Int32) (w' : Nat → Int64), x'.toInt = t ∧ FX12_isFit_L fu d wl mk ks kv wf wt ot pa sh sm om (f + r + 1) 1 x vm wm (stN pa sh K st mi W S0 k) w = (if fJ9_abs_0f7a4_r (stN pa sh K st mi W S0 t 4 - om m) ≤ d then FX12_isFit_L fu d wl mk ks kv wf wt ot pa sh sm om f 0 x' (vm + 1) wm' (stN pa sh K st mi W S0 t) w' else some (0, wm', stN pa sh K st mi W S0 t, w')) := by
  have q1 := t_1
  have hi : pz_inb vm 12 = true := i_inb.mpr (by omega)
  have hn : vm.toNatClampNeg = m := by have := i_nat (a := vm) (by omega); omega
  have htn : (sm m).toInt.toNat = t := by omega
  intro r
  induction r with
  | zero =>
    intro f k x wm w hk hx
    have : k = t := by omega
    subst this
    refine ⟨x, wm, w, hx, ?_⟩
    rw [FX12_isFit_L, if_neg (show ¬ (1 : Nat) = 0 by omega), if_pos rfl, if_pos hi, hn, if_pos (by rw [i_le]; omega), if_pos hi]
  | succ r ih =>
    intro f k x wm w hk hx
    have hx2 : ¬ sm m ≤ x := by rw [i_le]; omega
    have hSk := stN_ok (K := K) (st := st) (mi := mi) (W := W) hs k hS0
    obtain ⟨wm1, w1, e⟩ := ref_order hfu hSk h wm w
    have hs' := i_add x 1 (by omega) (by omega)
    obtain ⟨x', wm', w', b1, b2⟩ := ih f (k + 1) (x + 1) wm1 w1 (by omega) (by omega)
    refine ⟨x', wm', w', b1, ?_⟩
    rw [show f + (r + 1) + 1 = (f + r + 1) + 1 by omega, FX12_isFit_L, if_neg (show ¬ (1 : Nat) = 0 by omega), if_pos rfl, if_pos hi, hn, if_neg hx2, e, Option.bind_some, ref_steps fu _ pa sh _ hs (ordL_in K _ st mi W 0) hSk, Option.bind_some]
    have e3 : st_step (ordL K (stN pa sh K st mi W S0 k) st mi W 0) pa sh (stN pa sh K st mi W S0 k) = stN pa sh K st mi W S0 (k + 1) := (stN_succ S0 k).symm
    rw [e3]
    exact b2
theorem ref_fit_out (hfu : 100 ≤ fu) (hs : setOk pa sh) (h : whAll wl wr K st mi ks kv wf wt ot W) {S0 : Nat → Int32} (hS0 : stOk S0) (mk d : Int32) {sm om : Nat → Int32} {M : Nat} (hM : markOk mk sm om M) : ∀ (n f m k : Nat) (x vm wm : Int32) (w : Nat → Int64), m + n = M → vm.toInt = m → x.toInt = k → (∀ j, m ≤ j → j < M → (k : Int) ≤ (sm j).toInt) → 203 * n + 1 ≤ f →
    ∃ (wm' : Int32) (T : Nat → Int32) (w' : Nat → Int64), (fitN pa sh K st mi W S0 d sm om M m → FX12_isFit_L fu d wl mk ks kv wf wt ot pa sh sm om f 0 x vm wm (stN pa sh K st mi W S0 k) w = some (1, wm', T, w')) ∧ (¬ fitN pa sh K st mi W S0 d sm om M m → FX12_isFit_L fu d wl mk ks kv wf wt ot pa sh sm om f 0 x vm wm (stN pa sh K st mi W S0 k) w = some (0, wm', T, w')) := by
  have q1 := t_1
  have hmono := mark_mono hM
  obtain ⟨hm1, hm2, hm3, hm4⟩ := hM
  intro n
  induction n with
  | zero =>
    intro f m k x vm wm w hm hvm hx hle hf
    obtain ⟨f, rfl⟩ : ∃ g, f = g + 1 := ⟨f - 1, by omega⟩
    refine ⟨wm, stN pa sh K st mi W S0 k, w, fun _ => ?_, fun z => absurd (fun j h1 h2 => absurd h2 (by omega)) z⟩
    rw [FX12_isFit_L, if_pos rfl, if_pos (show mk ≤ vm by rw [i_le]; omega)]
  | succ n ih =>
    intro f m k x vm wm w hm hvm hx hle hf
    obtain ⟨f, rfl⟩ : ∃ g, f = g + 1 := ⟨f - 1, by omega⟩
    obtain ⟨a1, a2, a3⟩ := hm3 m (by omega)
    have hkm := hle m (Nat.le_refl _) (by omega)
    obtain ⟨g, hg⟩ : ∃ g, f = g + ((sm m).toInt.toNat - k) + 1 := ⟨f - ((sm m).toInt.toNat - k) - 1, by omega⟩
    obtain ⟨x', wm', w', b1, b2⟩ := ref_fit_in hfu hs h hS0 mk d sm om m (sm m).toInt.toNat vm hvm (by omega) (by omega) (by omega) ((sm m).toInt.toNat - k) g k x wm w (by omega) hx
    rw [FX12_isFit_L, if_pos rfl, if_neg (show ¬ mk ≤ vm by rw [i_le]; omega), hg, b2]
    by_cases q : fit1 pa sh K st mi W S0 d sm om m
    · rw [if_pos (show fJ9_abs_0f7a4_r (stN pa sh K st mi W S0 (sm m).toInt.toNat 4 - om m) ≤ d from q)]
      have hs' := i_add vm 1 (by omega) (by omega)
      obtain ⟨wm'', T', w'', c1, c2⟩ := ih g (m + 1) (sm m).toInt.toNat x' (vm + 1) wm' w' (by omega) (by omega) b1 (fun j h1 h2 => by
        have := hmono m j (by omega) h2
        omega) (by omega)
      have hiff : fitN pa sh K st mi W S0 d sm om M m ↔ fitN pa sh K st mi W S0 d sm om M (m + 1) := by
        constructor
        · intro z j h1 h2; exact z j (by omega) h2
        · intro z j h1 h2
          by_cases e : j = m
          · rw [e]; exact q
          · exact z j (by omega) h2
      exact ⟨wm'', T', w'', fun z => c1 (hiff.mp z), fun z => c2 (fun z' => z (hiff.mpr z'))⟩
    · rw [if_neg (show ¬ fJ9_abs_0f7a4_r (stN pa sh K st mi W S0 (sm m).toInt.toNat 4 - om m) ≤ d from q)]
      exact ⟨wm', stN pa sh K st mi W S0 (sm m).toInt.toNat, w', fun z => absurd (z m (Nat.le_refl _) (by omega)) q, fun _ => rfl⟩
/-- does the wake from off fit -/
def fits (pa sh K st mi : Nat → Int32) (W : Nat) (off d : Int32) (sm om : Nat → Int32) (M : Nat) : Prop := fitN pa sh K st mi W (st0 off (fun _ => 0)) d sm om M 0
theorem stN_now {pa sh K st mi : Nat → Int32} {W : Nat} : ∀ (n : Nat) (S T : Nat → Int32), (∀ i, i < 8 → S i = T i) → ∀ i, i < 8 → stN pa sh K st mi W S n i = stN pa sh K st mi W T n i := by
  intro n
  induction n with
  | zero => intro S T h i hi; exact h i hi
  | succ n ih =>
    intro S T h
    have hop : ∀ k, opd S k = opd T k := by
      intro k
      unfold opd
      rw [h 0 (by omega), h 1 (by omega), h 2 (by omega), h 3 (by omega), h 4 (by omega), h 5 (by omega)]
    have hev : ∀ n a d stk, ev K S n a d stk = ev K T n a d stk := by
      intro n
      induction n with
      | zero => intro a d stk; rfl
      | succ n ih =>
        intro a d stk
        rw [ev, ev, hop]
        simp only [ih]
    have he : ∀ a b, evE K S a b = evE K T a b := fun a b => hev _ _ _ _
    have hw : ∀ b c, ordW K S b c = ordW K T b c := by
      intro b c
      unfold ordW
      rw [he]
    have ho : ∀ (l j : Nat), ordL K S st mi l j = ordL K T st mi l j := by
      intro l
      induction l with
      | zero => intro j; rfl
      | succ l ihl =>
        intro j
        rw [ordL, ordL]
        simp only [hw, he, ihl]
    have hn : ∀ i, i < 8 → nxt pa sh K st mi W S i = nxt pa sh K st mi W T i := by
      intro i hi
      unfold nxt st_step
      rw [ho, h 1 (by omega), h 2 (by omega), h 3 (by omega), h 4 (by omega), h 5 (by omega), h 6 (by omega), h 7 (by omega), h i hi]
    exact ih _ _ hn
theorem st0_same (off : Int32) (now now' : Nat → Int32) : ∀ i, i < 8 → st0 off now i = st0 off now' i := by
  intro i hi
  unfold st0
  rw [if_pos hi, if_pos hi]
theorem fits_now {off d : Int32} {sm om now : Nat → Int32} {M : Nat} : fitN pa sh K st mi W (st0 off now) d sm om M 0 ↔ fits pa sh K st mi W off d sm om M := by
  unfold fits fitN fit1
  constructor
  · intro z j h1 h2
    rw [stN_now _ _ (st0 off now) (st0_same _ _ _) 4 (by omega)]
    exact z j h1 h2
  · intro z j h1 h2
    rw [stN_now _ _ (st0 off (fun _ => 0)) (st0_same _ _ _) 4 (by omega)]
    exact z j h1 h2
theorem stN_congr {pa sh pa' sh' K st mi : Nat → Int32} {W : Nat} (h : setRel pa sh pa' sh') : ∀ (n : Nat) (S : Nat → Int32), stN pa sh K st mi W S n = stN pa' sh' K st mi W S n := by
  intro n
  induction n with
  | zero => intro S; rfl
  | succ n ih => intro S; rw [stN, stN, nxt_congr h, ih]
theorem fits_congr {pa sh pa' sh' K st mi : Nat → Int32} {W : Nat} (h : setRel pa sh pa' sh') {off d : Int32} {sm om : Nat → Int32} {M : Nat} : fits pa sh K st mi W off d sm om M ↔ fits pa' sh' K st mi W off d sm om M := by
  unfold fits fitN fit1
  simp only [stN_congr h]
theorem ref_fit (hfu : 10000 ≤ fu) (hs : setOk pa sh) (h : whAll wl wr K st mi ks kv wf wt ot W) (d off mk : Int32) (ho : isOffP off) {sm om : Nat → Int32} {M : Nat} (hM : markOk mk sm om M) (wm : Int32) (now : Nat → Int32) (w : Nat → Int64) : ∃ (wm' : Int32) (T : Nat → Int32) (w' : Nat → Int64), (fits pa sh K st mi W off d sm om M → FX12_isFit fu d off wl wm mk ks kv wf wt ot pa sh now w sm om = some (1, wm', T, w')) ∧ (¬ fits pa sh K st mi W off d sm om M → FX12_isFit fu d off wl wm mk ks kv wf wt ot pa sh now w sm om = some (0, wm', T, w')) := by
  unfold FX12_isFit
  rw [ref_starts (by omega), Option.bind_some]
  have hm2 := hM.2.1
  have hm3 := hM.2.2.1
  obtain ⟨wm', T, w', a1, a2⟩ := ref_fit_out (fu := fu) (by omega) hs h (st0_ok (now := now) ho) mk d hM M fu 0 0 0 0 wm w (by omega) rfl rfl (fun j h1 h2 => by have := (hm3 j h2).1; omega) (by omega)
  exact ⟨wm', T, w', fun z => a1 (fits_now.mpr z), fun z => a2 (fun z' => z (fits_now.mp z'))⟩
theorem cls_fit (hfu : 10000 ≤ fu) (hs : setOk pa sh) (h : whAll wl wr K st mi ks kv wf wt ot W) (su d off mk : Int32) (ho : isOffP off) {sm om : Nat → Int32} {M : Nat} (hM : markOk mk sm om M) (sus : Int32) (hsus : 0 ≤ sus.toInt) (hsus' : sus.toInt < 318) (pt found : Nat → Int32) (hpt : fX10_fail_a1 su pt = pa) (vals : Nat → Int64) : ∃ (T : Nat → Int32) (vals' : Nat → Int64), (fits pa sh K st mi W off d sm om M → FX10_addIfFits fu su mk sus d off pt sh sm om found wl wr K vals st mi = some (sus + 1, T 0, T 1, T 2, T 3, T 4, T 5, T 6, T 7, pa, upd found sus.toInt.toNat su, vals')) ∧ (¬ fits pa sh K st mi W off d sm om M → FX10_addIfFits fu su mk sus d off pt sh sm om found wl wr K vals st mi = some (sus, T 0, T 1, T 2, T 3, T 4, T 5, T 6, T 7, pa, found, vals')) := by
  unfold FX10_addIfFits
  rw [hpt]
  have hm2 := hM.2.1
  have hm3 := hM.2.2.1
  exact cls_fit_out (fu := fu) (by omega) hs h (st0_ok (now := fun _ => 0) ho) su mk d off hM sus hsus hsus' found M fu 0 0 0 1 0 (st0 off (fun _ => 0)) vals (by omega) rfl rfl (fun j h1 h2 => by have := (hm3 j h2).1; omega) rfl (fun z => absurd z (by decide)) (by omega)
end
