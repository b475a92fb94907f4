-- deps: 100 110 111 112 113 114 115 116 117 118 119 120 121 130 131 132 133 134 135 136 137 138 139 140 141 142 143 144 145 146 200 201 202 203 204 205 206 207 208 209
/-! ===== hunt: the class's way ===== -/
theorem stN_succ {pa sh K st mi : Nat → Int32} {W : Nat} (S : Nat → Int32) (k : Nat) : stN pa sh K st mi W S (k + 1) = nxt pa sh K st mi W (stN pa sh K st mi W S k) := by
  rw [stN_add k S 1]
  rfl
section
variable {fu : Nat} {wl wr : Int32} {pa sh K st mi ks kv wf wt ot : Nat → Int32} {W : Nat}
/-- the numbers of the states -/
def sq (pa sh K st mi : Nat → Int32) (W : Nat) (S0 : Nat → Int32) (k : Nat) : Int64 := pkS (stN pa sh K st mi W S0 k)
def offs (pa sh K st mi : Nat → Int32) (W : Nat) (S0 : Nat → Int32) (k : Nat) : Int32 := stN pa sh K st mi W S0 k 4
theorem cls_follow_found (hfu : 10000 ≤ fu) (hs : setOk pa sh) (h : whAll wl wr K st mi ks kv wf wt ot W) (p1 : Int32) {S0 : Nat → Int32} (hS0 : stOk S0) (step kk : Nat) (hkk : kk < step) (hstep : step ≤ 1500) (heq : sq pa sh K st mi W S0 kk = sq pa sh K st mi W S0 step) (hd : ∀ i j, i < step → j < step → sq pa sh K st mi W S0 i = sq pa sh K st mi W S0 j → i = j) : ∀ (n f k : Nat) (x v4 g1 g2 g3 g4 : Int32) (seen : Nat → Int64) (slots : Nat → Int32) (vals : Nat → Int64), k + n = step → x.toInt = k → n < f → (∀ i, i ≤ k → seen i = sq pa sh K st mi W S0 i) → (n = 0 → v4.toInt = kk) → (0 < n → v4 = -1 ∧ hInv (sq pa sh K st mi W S0) (k + 1) slots) →
    ∃ (r pd lo hi : Int32) (seen' : Nat → Int64) (slots' : Nat → Int32) (vals' : Nat → Int64) (T S : Nat → Int32), r.toInt = kk ∧ pd.toInt = step - kk ∧ isMin (offs pa sh K st mi W S0) kk step lo ∧ isMax (offs pa sh K st mi W S0) kk step hi ∧ S = stN pa sh K st mi W S0 k ∧ FX8_follow_L fu p1 wl wr K st mi pa sh f v4 x g1 g2 g3 g4 (S 0) (S 1) (S 2) (S 3) (S 4) (S 5) (S 6) (S 7) seen slots vals = some (if pd = 1 then 1 else 2, r, pd, hi - lo, T 0, T 1, T 2, T 3, T 4, T 5, T 6, T 7, seen', slots', vals') := by
  have q1 := t_1
  have qm := t_m1
  have t15 : (1500 : Int32).toInt = 1500 := rfl
  intro n
  induction n with
  | zero =>
    intro f k x v4 g1 g2 g3 g4 seen slots vals hk hx hf hseen hv4 _
    obtain ⟨f, rfl⟩ : ∃ g, f = g + 1 := ⟨f - 1, by omega⟩
    have hkk2 := hv4 rfl
    have hke : k = step := by omega
    subst hke
    have ho : ∀ i, kk ≤ i → i ≤ k → (seen i &&& 4095).toInt32 - 2048 = offs pa sh K st mi W S0 i := by
      intro i h1 h2
      rw [hseen i h2]
      exact (unpack_eq (stN_ok hs i hS0)).2.2.2.2.2.2.2
    obtain ⟨lo, hi, m1, m2, e⟩ := cls_swing (fu := fu) (by omega) v4 x seen (offs pa sh K st mi W S0) kk k hkk2 hx (by omega) hstep ho
    have hpd := i_sub x v4 (by omega) (by omega)
    have hne : ¬ v4 = -1 := by rw [i_eq]; omega
    refine ⟨v4, x - v4, lo, hi, seen, slots, vals, stN pa sh K st mi W S0 k, _, hkk2, by omega, m1, m2, rfl, ?_⟩
    rw [FX8_follow_L]
    generalize x - v4 = pd at *
    by_cases gl : 1500 ≤ x
    · rw [if_pos gl, if_pos hne]
      by_cases gp : pd = 1
      · rw [if_neg (show ¬ ¬ pd = 1 from fun z => z gp), e, if_pos gp]; rfl
      · rw [if_pos gp, e, if_neg gp]; rfl
    · rw [if_neg gl, if_pos hne]
      by_cases gp : pd = 1
      · rw [if_neg (show ¬ ¬ pd = 1 from fun z => z gp), e, if_pos gp]; rfl
      · rw [if_pos gp, e, if_neg gp]; rfl
  | succ n ih =>
    intro f k x v4 g1 g2 g3 g4 seen slots vals hk hx hf hseen _ hv4
    obtain ⟨f, rfl⟩ : ∃ g, f = g + 1 := ⟨f - 1, by omega⟩
    obtain ⟨hm, hinv⟩ := hv4 (by omega)
    have hSk := stN_ok (K := K) (st := st) (mi := mi) (W := W) hs k hS0
    obtain ⟨vals', e⟩ := cls_order (fu := fu) (by omega) hSk h vals
    have hsx := i_add x 1 (by omega) (by omega)
    have hx1 : (x + 1).toInt = ((k + 1 : Nat) : Int) := by omega
    have hk1 : k + 1 ≤ 1500 := by omega
    obtain ⟨kf, kn⟩ := keep_eq (fu := fu) (by omega) (seq := sq pa sh K st mi W S0) (seen := seen) (J := k + 1) (slots := slots) (S := stN pa sh K st mi W S0 (k + 1)) (x + 1) hx1 hk1 rfl hinv (fun i hi => hseen i (by omega)) (fun i j hi hj => hd i j (by omega) (by omega))
    have hseen2 : ∀ i, i ≤ k + 1 → (vp_updL seen (k + 1) (pkS (stN pa sh K st mi W S0 (k + 1)))) i = sq pa sh K st mi W S0 i := by
      intro i hi
      unfold vp_updL
      by_cases g : i = k + 1
      · rw [if_pos g, g]; rfl
      · rw [if_neg g]; exact hseen i (by omega)
    have hnl : ¬ 1500 ≤ x := by rw [i_le]; omega
    have body : ∀ r seen2 slots2, FX8_keep fu (x + 1) (stN pa sh K st mi W S0 (k + 1) 0) (stN pa sh K st mi W S0 (k + 1) 1) (stN pa sh K st mi W S0 (k + 1) 2) (stN pa sh K st mi W S0 (k + 1) 3) (stN pa sh K st mi W S0 (k + 1) 4) (stN pa sh K st mi W S0 (k + 1) 5) (stN pa sh K st mi W S0 (k + 1) 6) (stN pa sh K st mi W S0 (k + 1) 7) seen slots = some (r, seen2, slots2) →
        FX8_follow_L fu p1 wl wr K st mi pa sh (f + 1) v4 x g1 g2 g3 g4 (stN pa sh K st mi W S0 k 0) (stN pa sh K st mi W S0 k 1) (stN pa sh K st mi W S0 k 2) (stN pa sh K st mi W S0 k 3) (stN pa sh K st mi W S0 k 4) (stN pa sh K st mi W S0 k 5) (stN pa sh K st mi W S0 k 6) (stN pa sh K st mi W S0 k 7) seen slots vals =
        FX8_follow_L fu p1 wl wr K st mi pa sh f r (x + 1) g1 g2 g3 g4 (stN pa sh K st mi W S0 (k + 1) 0) (stN pa sh K st mi W S0 (k + 1) 1) (stN pa sh K st mi W S0 (k + 1) 2) (stN pa sh K st mi W S0 (k + 1) 3) (stN pa sh K st mi W S0 (k + 1) 4) (stN pa sh K st mi W S0 (k + 1) 5) (stN pa sh K st mi W S0 (k + 1) 6) (stN pa sh K st mi W S0 (k + 1) 7) seen2 slots2 vals' := by
      intro r seen2 slots2 hkeep
      rw [stN_succ] at hkeep ⊢
      rw [FX8_follow_L, if_neg hnl, if_neg (show ¬ ¬ v4 = -1 from fun z => z hm), e, Option.bind_some]
      show (FX8_keep fu (x + 1) (nxt pa sh K st mi W (stN pa sh K st mi W S0 k) 0) (nxt pa sh K st mi W (stN pa sh K st mi W S0 k) 1) (nxt pa sh K st mi W (stN pa sh K st mi W S0 k) 2) (nxt pa sh K st mi W (stN pa sh K st mi W S0 k) 3) (nxt pa sh K st mi W (stN pa sh K st mi W S0 k) 4) (nxt pa sh K st mi W (stN pa sh K st mi W S0 k) 5) (nxt pa sh K st mi W (stN pa sh K st mi W S0 k) 6) (nxt pa sh K st mi W (stN pa sh K st mi W S0 k) 7) seen slots).bind _ = _
      rw [hkeep]
      rfl
    by_cases hn0 : n = 0
    · have hst : k + 1 = step := by omega
      obtain ⟨r, r1, r2⟩ := kf kk (by omega) (by rw [hst]; exact heq)
      obtain ⟨r', pd, lo, hi, seen', slots', vals'', T, S, b1, b2, b3, b4, b5, b6⟩ := ih f (k + 1) (x + 1) r g1 g2 g3 g4 _ slots vals' (by omega) hx1 (by omega) hseen2 (fun _ => r1) (fun z => absurd z (by omega))
      subst b5
      exact ⟨r', pd, lo, hi, seen', slots', vals'', T, _, b1, b2, b3, b4, rfl, (body _ _ _ r2).trans b6⟩
    · obtain ⟨slots2, i1, i2⟩ := kn (fun i hi e2 => absurd (hd i (k + 1) (by omega) (by omega) e2) (by omega))
      obtain ⟨r', pd, lo, hi, seen', slots', vals'', T, S, b1, b2, b3, b4, b5, b6⟩ := ih f (k + 1) (x + 1) (-1) g1 g2 g3 g4 _ slots2 vals' (by omega) hx1 (by omega) hseen2 (fun z => absurd z hn0) (fun _ => ⟨rfl, i1⟩)
      subst b5
      exact ⟨r', pd, lo, hi, seen', slots', vals'', T, _, b1, b2, b3, b4, rfl, (body _ _ _ i2).trans b6⟩
theorem cls_follow_lost (hfu : 10000 ≤ fu) (hs : setOk pa sh) (h : whAll wl wr K st mi ks kv wf wt ot W) (p1 : Int32) {S0 : Nat → Int32} (hS0 : stOk S0) (hd : ∀ i j, i < 1501 → j < 1501 → sq pa sh K st mi W S0 i = sq pa sh K st mi W S0 j → i = j) : ∀ (n f k : Nat) (x v4 g1 g2 g3 g4 : Int32) (seen : Nat → Int64) (slots : Nat → Int32) (vals : Nat → Int64), k + n = 1500 → x.toInt = k → n < f → (∀ i, i ≤ k → seen i = sq pa sh K st mi W S0 i) → v4 = -1 → hInv (sq pa sh K st mi W S0) (k + 1) slots →
    ∃ (lo hi : Int32) (seen' : Nat → Int64) (slots' : Nat → Int32) (vals' : Nat → Int64) (T S : Nat → Int32), isMin (offs pa sh K st mi W S0) 0 1500 lo ∧ isMax (offs pa sh K st mi W S0) 0 1500 hi ∧ S = stN pa sh K st mi W S0 k ∧ FX8_follow_L fu p1 wl wr K st mi pa sh f v4 x g1 g2 g3 g4 (S 0) (S 1) (S 2) (S 3) (S 4) (S 5) (S 6) (S 7) seen slots vals = some (3, -1, -1, hi - lo, T 0, T 1, T 2, T 3, T 4, T 5, T 6, T 7, seen', slots', vals') := by
  have q1 := t_1
  have qm := t_m1
  have t15 : (1500 : Int32).toInt = 1500 := rfl
  intro n
  induction n with
  | zero =>
    intro f k x v4 g1 g2 g3 g4 seen slots vals hk hx hf hseen hv4 _
    obtain ⟨f, rfl⟩ : ∃ g, f = g + 1 := ⟨f - 1, by omega⟩
    have hke : k = 1500 := by omega
    subst hke
    have ho : ∀ i, 0 ≤ i → i ≤ 1500 → (seen i &&& 4095).toInt32 - 2048 = offs pa sh K st mi W S0 i := by
      intro i h1 h2
      rw [hseen i h2]
      exact (unpack_eq (stN_ok hs i hS0)).2.2.2.2.2.2.2
    obtain ⟨lo, hi, m1, m2, e⟩ := cls_swing (fu := fu) (by omega) 0 x seen (offs pa sh K st mi W S0) 0 1500 rfl hx (by omega) (by omega) ho
    refine ⟨lo, hi, seen, slots, vals, stN pa sh K st mi W S0 1500, _, m1, m2, rfl, ?_⟩
    rw [FX8_follow_L, if_pos (show 1500 ≤ x by rw [i_le]; omega), if_neg (show ¬ ¬ v4 = -1 from fun z => z hv4), e]
    rfl
  | succ n ih =>
    intro f k x v4 g1 g2 g3 g4 seen slots vals hk hx hf hseen hm hinv
    obtain ⟨f, rfl⟩ : ∃ g, f = g + 1 := ⟨f - 1, by omega⟩
    have hSk := stN_ok (K := K) (st := st) (mi := mi) (W := W) hs k hS0
    obtain ⟨vals', e⟩ := cls_order (fu := fu) (by omega) hSk h vals
    have hsx := i_add x 1 (by omega) (by omega)
    have hx1 : (x + 1).toInt = ((k + 1 : Nat) : Int) := by omega
    have hk1 : k + 1 ≤ 1500 := by omega
    obtain ⟨kf, kn⟩ := keep_eq (fu := fu) (by omega) (seq := sq pa sh K st mi W S0) (seen := seen) (J := k + 1) (slots := slots) (S := stN pa sh K st mi W S0 (k + 1)) (x + 1) hx1 hk1 rfl hinv (fun i hi => hseen i (by omega)) (fun i j hi hj => hd i j (by omega) (by omega))
    have hseen2 : ∀ i, i ≤ k + 1 → (vp_updL seen (k + 1) (pkS (stN pa sh K st mi W S0 (k + 1)))) i = sq pa sh K st mi W S0 i := by
      intro i hi
      unfold vp_updL
      by_cases g : i = k + 1
      · rw [if_pos g, g]; rfl
      · rw [if_neg g]; exact hseen i (by omega)
    have hnl : ¬ 1500 ≤ x := by rw [i_le]; omega
    have body : ∀ r seen2 slots2, FX8_keep fu (x + 1) (stN pa sh K st mi W S0 (k + 1) 0) (stN pa sh K st mi W S0 (k + 1) 1) (stN pa sh K st mi W S0 (k + 1) 2) (stN pa sh K st mi W S0 (k + 1) 3) (stN pa sh K st mi W S0 (k + 1) 4) (stN pa sh K st mi W S0 (k + 1) 5) (stN pa sh K st mi W S0 (k + 1) 6) (stN pa sh K st mi W S0 (k + 1) 7) seen slots = some (r, seen2, slots2) →
        FX8_follow_L fu p1 wl wr K st mi pa sh (f + 1) v4 x g1 g2 g3 g4 (stN pa sh K st mi W S0 k 0) (stN pa sh K st mi W S0 k 1) (stN pa sh K st mi W S0 k 2) (stN pa sh K st mi W S0 k 3) (stN pa sh K st mi W S0 k 4) (stN pa sh K st mi W S0 k 5) (stN pa sh K st mi W S0 k 6) (stN pa sh K st mi W S0 k 7) seen slots vals =
        FX8_follow_L fu p1 wl wr K st mi pa sh f r (x + 1) g1 g2 g3 g4 (stN pa sh K st mi W S0 (k + 1) 0) (stN pa sh K st mi W S0 (k + 1) 1) (stN pa sh K st mi W S0 (k + 1) 2) (stN pa sh K st mi W S0 (k + 1) 3) (stN pa sh K st mi W S0 (k + 1) 4) (stN pa sh K st mi W S0 (k + 1) 5) (stN pa sh K st mi W S0 (k + 1) 6) (stN pa sh K st mi W S0 (k + 1) 7) seen2 slots2 vals' := by
      intro r seen2 slots2 hkeep
      rw [stN_succ] at hkeep ⊢
      rw [FX8_follow_L, if_neg hnl, if_neg (show ¬ ¬ v4 = -1 from fun z => z hm), e, Option.bind_some]
      show (FX8_keep fu (x + 1) (nxt pa sh K st mi W (stN pa sh K st mi W S0 k) 0) (nxt pa sh K st mi W (stN pa sh K st mi W S0 k) 1) (nxt pa sh K st mi W (stN pa sh K st mi W S0 k) 2) (nxt pa sh K st mi W (stN pa sh K st mi W S0 k) 3) (nxt pa sh K st mi W (stN pa sh K st mi W S0 k) 4) (nxt pa sh K st mi W (stN pa sh K st mi W S0 k) 5) (nxt pa sh K st mi W (stN pa sh K st mi W S0 k) 6) (nxt pa sh K st mi W (stN pa sh K st mi W S0 k) 7) seen slots).bind _ = _
      rw [hkeep]
      rfl
    obtain ⟨slots2, i1, i2⟩ := kn (fun i hi e2 => absurd (hd i (k + 1) (by omega) (by omega) e2) (by omega))
    obtain ⟨lo, hi, seen', slots', vals'', T, S, b3, b4, b5, b6⟩ := ih f (k + 1) (x + 1) (-1) g1 g2 g3 g4 _ slots2 vals' (by omega) hx1 (by omega) hseen2 rfl i1
    subst b5
    exact ⟨lo, hi, seen', slots', vals'', T, _, b3, b4, rfl, (body _ _ _ i2).trans b6⟩

/-- the class follows -/
theorem cls_follow (hfu : 10000 ≤ fu) (hs : setOk pa sh) (h : whAll wl wr K st mi ks kv wf wt ot W) (p1 : Int32) (hp1 : isOffP p1) (now : Nat → Int32) (g1 g2 g3 g4 : Int32) (seen : Nat → Int64) (slots : Nat → Int32) (vals : Nat → Int64) :
    (∀ step kk : Nat, kk < step → step ≤ 1500 → sq pa sh K st mi W (st0 p1 now) kk = sq pa sh K st mi W (st0 p1 now) step → (∀ i j, i < step → j < step → sq pa sh K st mi W (st0 p1 now) i = sq pa sh K st mi W (st0 p1 now) j → i = j) → ∃ (r pd lo hi : Int32) (seen' : Nat → Int64) (slots' : Nat → Int32) (vals' : Nat → Int64) (T : Nat → Int32), r.toInt = kk ∧ pd.toInt = step - kk ∧ isMin (offs pa sh K st mi W (st0 p1 now)) kk step lo ∧ isMax (offs pa sh K st mi W (st0 p1 now)) kk step hi ∧ FX8_follow fu p1 g1 g2 g3 g4 seen slots wl wr K vals st mi pa sh = some (if pd = 1 then 1 else 2, r, pd, hi - lo, T 0, T 1, T 2, T 3, T 4, T 5, T 6, T 7, seen', slots', vals')) ∧
    ((∀ i j, i < 1501 → j < 1501 → sq pa sh K st mi W (st0 p1 now) i = sq pa sh K st mi W (st0 p1 now) j → i = j) → ∃ (lo hi : Int32) (seen' : Nat → Int64) (slots' : Nat → Int32) (vals' : Nat → Int64) (T : Nat → Int32), isMin (offs pa sh K st mi W (st0 p1 now)) 0 1500 lo ∧ isMax (offs pa sh K st mi W (st0 p1 now)) 0 1500 hi ∧ FX8_follow fu p1 g1 g2 g3 g4 seen slots wl wr K vals st mi pa sh = some (3, -1, -1, hi - lo, T 0, T 1, T 2, T 3, T 4, T 5, T 6, T 7, seen', slots', vals')) := by
  have hS0 := st0_ok (now := now) hp1
  obtain ⟨q, e1, e2⟩ := fill_eq hfu 0 2048 (by omega) slots
  have hz : hInv (sq pa sh K st mi W (st0 p1 now)) 0 q := by
    refine ⟨fun i hi => absurd hi (by omega), fun j hj1 hj2 => absurd (by rw [e2 j hj1]; rfl) hj2, fun j j' h1 h2 h3 h4 => absurd (by rw [e2 j h1]; rfl) h4⟩
  obtain ⟨slots2, i1, i2⟩ := (keep_eq (fu := fu) (by omega) (seq := sq pa sh K st mi W (st0 p1 now)) (seen := seen) (J := 0) (slots := q) (S := st0 p1 now) 0 rfl (by omega) rfl hz (fun i hi => absurd hi (by omega)) (fun i j hi => absurd hi (by omega))).2 (fun i hi => absurd hi (by omega))
  have hseen2 : ∀ i, i ≤ 0 → (vp_updL seen 0 (pkS (st0 p1 now))) i = sq pa sh K st mi W (st0 p1 now) i := by
    intro i hi
    have : i = 0 := by omega
    subst this
    rfl
  have body : FX8_follow fu p1 g1 g2 g3 g4 seen slots wl wr K vals st mi pa sh = FX8_follow_L fu p1 wl wr K st mi pa sh fu (-1) 0 g1 g2 g3 g4 (st0 p1 now 0) (st0 p1 now 1) (st0 p1 now 2) (st0 p1 now 3) (st0 p1 now 4) (st0 p1 now 5) (st0 p1 now 6) (st0 p1 now 7) (vp_updL seen 0 (pkS (st0 p1 now))) slots2 vals := by
    unfold FX8_follow
    rw [e1, Option.bind_some]
    show (FX8_keep fu 0 (st0 p1 now 0) (st0 p1 now 1) (st0 p1 now 2) (st0 p1 now 3) (st0 p1 now 4) (st0 p1 now 5) (st0 p1 now 6) (st0 p1 now 7) seen q).bind _ = _
    rw [i2]
    rfl
  constructor
  · intro step kk hkk hstep heq hd
    obtain ⟨r', pd, lo, hi, seen', slots', vals'', T, S, b1, b2, b3, b4, b5, b6⟩ := cls_follow_found hfu hs h p1 hS0 step kk hkk hstep heq hd step fu 0 0 (-1) g1 g2 g3 g4 _ slots2 vals (by omega) rfl (by omega) hseen2 (fun z => absurd z (by omega)) (fun _ => ⟨rfl, i1⟩)
    subst b5
    exact ⟨r', pd, lo, hi, seen', slots', vals'', T, b1, b2, b3, b4, body.trans b6⟩
  · intro hd
    obtain ⟨lo, hi, seen', slots', vals'', T, S, b3, b4, b5, b6⟩ := cls_follow_lost hfu hs h p1 hS0 hd 1500 fu 0 0 (-1) g1 g2 g3 g4 _ slots2 vals (by omega) rfl (by omega) hseen2 rfl i1
    subst b5
    exact ⟨lo, hi, seen', slots', vals'', T, b3, b4, body.trans b6⟩
end
