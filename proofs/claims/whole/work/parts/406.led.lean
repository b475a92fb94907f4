-- deps: 100 110 111 112 113 114 115 116 117 118 119 120 121 130 131 132 133 134 135 136 137 138 139 140 141 142 143 144 145 146 200 201 202 203 204 205
/-! ===== steps by a helm ===== -/
def whAll (wl wr : Int32) (K st mi ks kv wf wt ot : Nat → Int32) (W : Nat) : Prop := W ≤ 12 ∧ wl.toInt = W ∧ 0 ≤ wr.toInt ∧ knRel K ks kv wr.toInt.toNat ∧ ∀ l, l < W → whRel wr K st mi ks kv wf wt ot l
def nxt (pa sh K st mi : Nat → Int32) (W : Nat) (S : Nat → Int32) : Nat → Int32 := st_step (ordL K S st mi W 0) pa sh S
def stN (pa sh K st mi : Nat → Int32) (W : Nat) : (Nat → Int32) → Nat → (Nat → Int32)
  | S, 0 => S
  | S, n + 1 => stN pa sh K st mi W (nxt pa sh K st mi W S) n
theorem cls_order {fu : Nat} (hfu : 100 ≤ fu) {wl wr : Int32} {K st mi ks kv wf wt ot S : Nat → Int32} {W : Nat} (hS : stOk S) (h : whAll wl wr K st mi ks kv wf wt ot W) (vals : Nat → Int64) : ∃ vals', FX6_orderIn fu wl wr K vals st mi (S 0) (S 1) (S 2) (S 3) (S 4) (S 5) = some (ordL K S st mi W 0, vals') := by
  obtain ⟨h1, h2, h3, h4, h5⟩ := h
  exact cls_ordL fu hfu wl wr K st mi ks kv wf wt ot S hS W h1 h2 h3 h4 h5 W 0 fu 0 vals rfl (by omega) (by omega)
theorem ref_order {fu : Nat} (hfu : 100 ≤ fu) {wl wr : Int32} {K st mi ks kv wf wt ot S : Nat → Int32} {W : Nat} (hS : stOk S) (h : whAll wl wr K st mi ks kv wf wt ot W) (m : Int32) (w : Nat → Int64) : ∃ m' w', FX12_ordered fu wl m ks kv wf wt ot S w = some (ordL K S st mi W 0, m', w') := by
  obtain ⟨h1, h2, h3, h4, h5⟩ := h
  exact ref_ordL fu hfu wl wr K st mi ks kv wf wt ot S hS W h1 h2 h3 h4 h5 W 0 fu 0 m w rfl (by omega) (by omega)
theorem nxt_ok {pa sh K st mi S : Nat → Int32} {W : Nat} (hs : setOk pa sh) (hS : stOk S) : stOk (nxt pa sh K st mi W S) := step_ok hs (ordL_in K S st mi W 0) hS
theorem stN_ok {pa sh K st mi : Nat → Int32} {W : Nat} (hs : setOk pa sh) : ∀ (n : Nat) {S : Nat → Int32}, stOk S → stOk (stN pa sh K st mi W S n) := by
  intro n
  induction n with
  | zero => intro S h; exact h
  | succ n ih => intro S h; exact ih (nxt_ok hs h)
theorem stN_fix {pa sh K st mi S : Nat → Int32} {W : Nat} (h : nxt pa sh K st mi W S = S) : ∀ n, stN pa sh K st mi W S n = S := by
  intro n
  induction n with
  | zero => rfl
  | succ n ih => rw [stN, h]; exact ih
theorem stN_add {pa sh K st mi : Nat → Int32} {W : Nat} : ∀ (m : Nat) (S : Nat → Int32) (n : Nat), stN pa sh K st mi W S (m + n) = stN pa sh K st mi W (stN pa sh K st mi W S m) n := by
  intro m
  induction m with
  | zero => intro S n; rw [Nat.zero_add]; rfl
  | succ m ih => intro S n; rw [show m + 1 + n = (m + n) + 1 by omega, stN, ih]; rfl
theorem step_far (od : Int32) (pa sh S : Nat → Int32) (i : Nat) (h : 8 ≤ i) : st_step od pa sh S i = S i := by
  unfold st_step
  rw [if_neg (by omega), if_neg (by omega), if_neg (by omega), if_neg (by omega), if_neg (by omega), if_neg (by omega), if_neg (by omega), if_neg (by omega)]
theorem pk_same {pa sh S : Nat → Int32} {od : Int32} (hs : setOk pa sh) (ho : in30 od) (hS : stOk S) (h : pkS (st_step od pa sh S) = pkS S) : st_step od pa sh S = S := by
  obtain ⟨e0, e1, e2, e3, e4, e5, e6, e7⟩ := pk_inj (step_ok hs ho hS) hS h
  exact ext8 e0 e1 e2 e3 e4 e5 e6 e7 (fun i h0 h1 h2 h3 h4 h5 h6 h7 => step_far od pa sh S i (by omega))
/-- a step of the class by a helm -/
theorem goOn_eq {fu : Nat} (hfu : 100 ≤ fu) {wl wr : Int32} {pa sh K st mi ks kv wf wt ot S : Nat → Int32} {W : Nat} (hs : setOk pa sh) (hS : stOk S) (h : whAll wl wr K st mi ks kv wf wt ot W) (vals : Nat → Int64) : ∃ mv vals', FX4_goOn fu (S 0) (S 1) (S 2) (S 3) (S 4) (S 5) (S 6) (S 7) wl wr K vals st mi pa sh = some (mv, nxt pa sh K st mi W S 0, nxt pa sh K st mi W S 1, nxt pa sh K st mi W S 2, nxt pa sh K st mi W S 3, nxt pa sh K st mi W S 4, nxt pa sh K st mi W S 5, nxt pa sh K st mi W S 6, nxt pa sh K st mi W S 7, vals') ∧ (mv = 0 ∨ mv = 1) ∧ (mv = 0 → nxt pa sh K st mi W S = S) := by
  obtain ⟨vals', e⟩ := cls_order hfu hS h vals
  unfold FX4_goOn
  rw [e, Option.bind_some]
  have k : pkS (nxt pa sh K st mi W S) = fX4_packed_r (fX4_lagging_r (ordL K S st mi W 0) (pa 3) (S 5) (S 6) (S 7)) (fX4_step_f0_1 (ordL K S st mi W 0) (S 1) (S 5) (S 6) (S 7) pa) (fX4_step_f0_2 (ordL K S st mi W 0) (S 1) (S 2) (S 5) (S 6) (S 7) pa) (fX4_step_f0_3 (ordL K S st mi W 0) (S 1) (S 2) (S 3) (S 5) (S 6) (S 7) pa sh) (fX4_step_f0_4 (ordL K S st mi W 0) (S 1) (S 2) (S 3) (S 4) (S 5) (S 6) (S 7) pa sh) (ordL K S st mi W 0) (S 5) (S 6) := rfl
  have k2 : pkS S = fX4_packed_r (S 0) (S 1) (S 2) (S 3) (S 4) (S 5) (S 6) (S 7) := rfl
  simp only [← k, ← k2, lg_cmp_eq]
  by_cases q : pkS (nxt pa sh K st mi W S) = pkS S
  · rw [if_pos q]
    exact ⟨0, vals', rfl, Or.inl rfl, fun _ => pk_same hs (ordL_in K S st mi W 0) hS q⟩
  · rw [if_neg q]
    exact ⟨1, vals', rfl, Or.inr rfl, fun z => absurd z (by decide)⟩
/-- a start -/
def st0 (off : Int32) (now : Nat → Int32) : Nat → Int32 := fun i => if i < 8 then (if i = 4 then off else 0) else now i
theorem st0_ok {off : Int32} {now : Nat → Int32} (h : isOffP off) : stOk (st0 off now) := by
  unfold stOk in30
  have z : -30 ≤ (0 : Int32).toInt ∧ (0 : Int32).toInt ≤ 30 := by decide
  have z6 : -60 ≤ (0 : Int32).toInt ∧ (0 : Int32).toInt ≤ 60 := by decide
  exact ⟨z, z, z, z6, h, z, z, z⟩
theorem ref_starts {fu : Nat} (hfu : 100 ≤ fu) (off : Int32) (now : Nat → Int32) : FX12_starts fu off now = some (st0 off now) := by
  obtain ⟨f, rfl⟩ : ∃ f, fu = f + 9 := ⟨fu - 9, by omega⟩
  have key : ∀ g, FX12_starts_L g off (f + 9) 0 now = some (st0 off now) := by
    intro g
    iterate 8
      rw [FX12_starts_L, if_neg (by decide), if_pos (by decide)]
    rw [FX12_starts_L, if_pos (by decide)]
    congr 1
    refine ext8 rfl rfl rfl rfl rfl rfl rfl rfl (fun i h0 h1 h2 h3 h4 h5 h6 h7 => ?_)
    show upd (upd (upd (upd (upd (upd (upd (upd (upd now 0 0) 1 0) 2 0) 3 0) 4 0) 5 0) 6 0) 7 0) 4 off i = st0 off now i
    unfold st0
    simp only [upd, if_neg h0, if_neg h1, if_neg h2, if_neg h3, if_neg h4, if_neg h5, if_neg h6, if_neg h7]
    rw [if_neg (by omega)]
  exact key _

theorem isOff_iff (x : Int32) : (fX11_isOff_r x = 0 ↔ ¬ isOffP x) ∧ (fX12_isOff_r x = 0 ↔ ¬ isOffP x) := by
  have t1 : (-1800 : Int32).toInt = -1800 := rfl
  have t2 : (1799 : Int32).toInt = 1799 := rfl
  unfold fX11_isOff_r fX12_isOff_r isOffP
  simp only [i_le, i_lt, t1, t2]
  constructor
  · by_cases h1 : x.toInt < -1800
    · rw [if_pos h1]; exact ⟨fun _ => by omega, fun _ => rfl⟩
    · rw [if_neg h1]
      by_cases h2 : 1799 < x.toInt
      · rw [if_pos h2]; exact ⟨fun _ => by omega, fun _ => rfl⟩
      · rw [if_neg h2]; exact ⟨fun z => absurd z (by decide), fun z => absurd ⟨by omega, by omega⟩ z⟩
  · by_cases h1 : x.toInt < -1800
    · rw [if_pos h1]; exact ⟨fun _ => by omega, fun _ => rfl⟩
    · rw [if_neg h1]
      by_cases h2 : 1799 < x.toInt
      · rw [if_pos h2]; exact ⟨fun _ => by omega, fun _ => rfl⟩
      · rw [if_neg h2]; exact ⟨fun z => absurd z (by decide), fun z => absurd ⟨by omega, by omega⟩ z⟩
/-- what is looked at -/
theorem look_what (fu : Nat) (S : Nat → Int32) (k : Int32) (h1 : 0 ≤ k.toInt) (h2 : k.toInt ≤ 5) : FX12_what fu k S = some (fX4_look_r k (S 0) (S 1) (S 2) (S 3) (S 4) (S 5)) := by
  have hc : k.toInt = 0 ∨ k.toInt = 1 ∨ k.toInt = 2 ∨ k.toInt = 3 ∨ k.toInt = 4 ∨ k.toInt = 5 := by omega
  rcases hc with hc | hc | hc | hc | hc | hc
  · rw [i_of (b := 0) _ hc rfl]; rfl
  · rw [i_of (b := 1) _ hc rfl]; rfl
  · rw [i_of (b := 2) _ hc rfl]; rfl
  · rw [i_of (b := 3) _ hc rfl]; rfl
  · rw [i_of (b := 4) _ hc rfl]; rfl
  · rw [i_of (b := 5) _ hc rfl]; rfl
/-! ===== led ===== -/
theorem cls_ledL {fu : Nat} (hfu : 100 ≤ fu) (p1 p2 p3 : Int32) {wl wr : Int32} {pa sh K st mi ks kv wf wt ot : Nat → Int32} {W : Nat} (hs : setOk pa sh) (h : whAll wl wr K st mi ks kv wf wt ot W) : ∀ (r f : Nat) (x v : Int32) (S : Nat → Int32) (vals : Nat → Int64), x.toInt + r = p2.toInt → 0 ≤ x.toInt → r < f → stOk S → (v = 0 → nxt pa sh K st mi W S = S) → ∃ (T : Nat → Int32) (vals' : Nat → Int64), T = stN pa sh K st mi W S r ∧ FX11_led_L fu p1 p2 p3 pa sh wl wr K st mi f v x (S 0) (S 1) (S 2) (S 3) (S 4) (S 5) (S 6) (S 7) vals = some (fX4_look_r p3 (T 0) (T 1) (T 2) (T 3) (T 4) (T 5), T 0, T 1, T 2, T 3, T 4, T 5, T 6, T 7, vals') := by
  have q1 := t_1
  intro r
  induction r with
  | zero =>
    intro f x v S vals hx h0 hf hS hv
    obtain ⟨f, rfl⟩ : ∃ g, f = g + 1 := ⟨f - 1, by omega⟩
    rw [FX11_led_L, if_pos (by rw [i_le]; omega)]
    exact ⟨S, vals, rfl, rfl⟩
  | succ r ih =>
    intro f x v S vals hx h0 hf hS hv
    obtain ⟨f, rfl⟩ : ∃ g, f = g + 1 := ⟨f - 1, by omega⟩
    have hp2 := p2.toInt_lt
    rw [FX11_led_L, if_neg (by rw [i_le]; omega)]
    by_cases hz : v = 0
    · rw [if_pos hz]
      exact ⟨S, vals, (stN_fix (hv hz) _).symm, rfl⟩
    · rw [if_neg hz]
      obtain ⟨mv, vals', e, e1, e2⟩ := goOn_eq hfu hs hS h vals
      rw [e, Option.bind_some]
      have hsx := i_add x 1 (by omega) (by omega)
      generalize x + 1 = x' at *
      exact ih f x' mv (nxt pa sh K st mi W S) vals' (by omega) (by omega) (by omega) (nxt_ok hs hS) (fun z => by rw [e2 z, e2 z])
theorem ref_ledL {fu : Nat} (hfu : 100 ≤ fu) (p2 p3 : Int32) (hp3 : 0 ≤ p3.toInt) (hp3' : p3.toInt ≤ 5) {wl wr : Int32} {pa sh K st mi ks kv wf wt ot : Nat → Int32} {W : Nat} (hs : setOk pa sh) (h : whAll wl wr K st mi ks kv wf wt ot W) : ∀ (r f : Nat) (x th m : Int32) (S : Nat → Int32) (w : Nat → Int64), x.toInt + r = p2.toInt → 0 ≤ x.toInt → r < f → stOk S → ∃ (T : Nat → Int32) (m' : Int32) (w' : Nat → Int64), T = stN pa sh K st mi W S r ∧ FX12_led_L fu p2 p3 wl ks kv wf wt ot pa sh f x th m S w = some (fX4_look_r p3 (T 0) (T 1) (T 2) (T 3) (T 4) (T 5), th, m', T, w') := by
  have q1 := t_1
  intro r
  induction r with
  | zero =>
    intro f x th m S w hx h0 hf hS
    obtain ⟨f, rfl⟩ : ∃ g, f = g + 1 := ⟨f - 1, by omega⟩
    rw [FX12_led_L, if_pos (by rw [i_le]; omega), look_what fu S p3 hp3 hp3', Option.bind_some]
    exact ⟨S, _, _, rfl, rfl⟩
  | succ r ih =>
    intro f x th m S w hx h0 hf hS
    obtain ⟨f, rfl⟩ : ∃ g, f = g + 1 := ⟨f - 1, by omega⟩
    have hp2 := p2.toInt_lt
    obtain ⟨m', w', e⟩ := ref_order hfu hS h m w
    rw [FX12_led_L, if_neg (by rw [i_le]; omega), e, Option.bind_some, ref_steps fu _ pa sh S hs (ordL_in K S st mi W 0) hS, Option.bind_some]
    have hsx := i_add x 1 (by omega) (by omega)
    generalize x + 1 = x' at *
    exact ih f x' th m' (nxt pa sh K st mi W S) w' (by omega) (by omega) (by omega) (nxt_ok hs hS)
theorem led_eq {fu : Nat} (hfu : 10000 ≤ fu) (p1 p2 p3 : Int32) {wl wr : Int32} {pa sh K st mi ks kv wf wt ot : Nat → Int32} {W : Nat} (hs : setOk pa sh) (h : whAll wl wr K st mi ks kv wf wt ot W) (c0 c1 c2 c3 c4 c5 c6 c7 : Int32) (vals : Nat → Int64) (m : Int32) (now : Nat → Int32) (w : Nat → Int64) :
    ∃ v c0' c1' c2' c3' c4' c5' c6' c7' vals' m' now' w', FX11_led fu p1 p2 p3 pa sh c0 c1 c2 c3 c4 c5 c6 c7 wl wr K vals st mi = some (v, c0', c1', c2', c3', c4', c5', c6', c7', vals') ∧ FX12_led fu p1 p2 p3 wl m ks kv wf wt ot pa sh now w = some (v, 0, m', now', w') := by
  have t1 : (1500 : Int32).toInt = 1500 := rfl
  have t5 : (5 : Int32).toInt = 5 := rfl
  have q0 := t_0
  unfold FX11_led FX12_led
  by_cases g1 : isOffP p1
  · rw [if_neg (fun z => (isOff_iff p1).1.mp z g1), if_neg (fun z => (isOff_iff p1).2.mp z g1)]
    by_cases g2 : p2 < 0
    · rw [if_pos g2, if_pos g2]; exact ⟨_, _, _, _, _, _, _, _, _, _, _, _, _, rfl, rfl⟩
    rw [if_neg g2, if_neg g2]
    by_cases g3 : 1500 < p2
    · rw [if_pos g3, if_pos g3]; exact ⟨_, _, _, _, _, _, _, _, _, _, _, _, _, rfl, rfl⟩
    rw [if_neg g3, if_neg g3]
    by_cases g4 : p3 < 0
    · rw [if_pos g4, if_pos g4]; exact ⟨_, _, _, _, _, _, _, _, _, _, _, _, _, rfl, rfl⟩
    rw [if_neg g4, if_neg g4]
    by_cases g5 : p3 ≤ 5
    · rw [if_pos g5, if_pos g5, ref_starts (by omega), Option.bind_some]
      rw [i_lt] at g2 g3 g4
      rw [i_le] at g5
      obtain ⟨T, vals', e1, e2⟩ := cls_ledL (fu := fu) (by omega) p1 p2 p3 hs h p2.toInt.toNat fu 0 1 (st0 p1 now) vals (by omega) (by omega) (by omega) (st0_ok g1) (fun z => absurd z (by decide))
      obtain ⟨T', m', w', e1', e2'⟩ := ref_ledL (fu := fu) (by omega) p2 p3 (by omega) (by omega) hs h p2.toInt.toNat fu 0 0 m (st0 p1 now) w (by omega) (by omega) (by omega) (st0_ok g1)
      have : T' = T := e1'.trans e1.symm
      subst this
      exact ⟨_, _, _, _, _, _, _, _, _, _, _, _, _, e2, e2'⟩
    · rw [if_neg g5, if_neg g5]; exact ⟨_, _, _, _, _, _, _, _, _, _, _, _, _, rfl, rfl⟩
  · rw [if_pos ((isOff_iff p1).1.mpr g1), if_pos ((isOff_iff p1).2.mpr g1)]; exact ⟨_, _, _, _, _, _, _, _, _, _, _, _, _, rfl, rfl⟩
