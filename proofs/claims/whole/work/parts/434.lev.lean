/-! ===== how many changes away: levels ===== -/
def anyF : Nat → Nat → (Nat → Bool) → Bool
  | 0, _, _ => false
  | n + 1, g, f => f g || anyF n (g + 1) f
theorem anyF_iff (f : Nat → Bool) : ∀ n g, anyF n g f = true ↔ ∃ j, g ≤ j ∧ j < g + n ∧ f j = true := by
  intro n
  induction n with
  | zero =>
    intro g
    constructor
    · intro h; cases h
    · rintro ⟨j, h1, h2, -⟩; omega
  | succ n ih =>
    intro g
    rw [anyF, Bool.or_eq_true, ih]
    constructor
    · rintro (h | ⟨j, h1, h2, h3⟩)
      · exact ⟨g, by omega, by omega, h⟩
      · exact ⟨j, by omega, by omega, h3⟩
    · rintro ⟨j, h1, h2, h3⟩
      by_cases g1 : j = g
      · subst g1; exact Or.inl h3
      · exact Or.inr ⟨j, by omega, by omega, h3⟩
/-- those n changes away from b, and those up to n -/
def lev (ok : Nat → Nat → Bool) (G b : Nat) : Nat → (Nat → Bool) × (Nat → Bool)
  | 0 => (fun s => decide (s = b), fun s => decide (s = b))
  | n + 1 => (fun s => anyF G 0 (fun g => (lev ok G b n).1 (s ^^^ 2 ^ g) && ok s g) && !(lev ok G b n).2 s, fun s => (lev ok G b n).2 s || (anyF G 0 (fun g => (lev ok G b n).1 (s ^^^ 2 ^ g) && ok s g) && !(lev ok G b n).2 s))
section
variable {ok : Nat → Nat → Bool} {G b : Nat}
theorem lev_succ (n s : Nat) : (lev ok G b (n + 1)).1 s = (anyF G 0 (fun g => (lev ok G b n).1 (s ^^^ 2 ^ g) && ok s g) && !(lev ok G b n).2 s) := rfl
theorem met_succ (n s : Nat) : (lev ok G b (n + 1)).2 s = ((lev ok G b n).2 s || (lev ok G b (n + 1)).1 s) := rfl
theorem lev_0 (s : Nat) : (lev ok G b 0).1 s = true ↔ s = b := decide_eq_true_iff
theorem xor_back (s g : Nat) : s ^^^ 2 ^ g ^^^ 2 ^ g = s := by rw [Nat.xor_assoc, Nat.xor_self, Nat.xor_zero]
theorem lev_lt (hb : b < 2 ^ G) : ∀ n s, (lev ok G b n).1 s = true → s < 2 ^ G := by
  intro n
  induction n with
  | zero => intro s h; rw [lev_0] at h; omega
  | succ n ih =>
    intro s h
    rw [lev_succ, Bool.and_eq_true, anyF_iff] at h
    obtain ⟨⟨j, h1, h2, h3⟩, -⟩ := h
    rw [Bool.and_eq_true] at h3
    have h4 := ih _ h3.1
    have h5 : 2 ^ j < 2 ^ G := Nat.pow_lt_pow_right (by omega) (by omega)
    have := Nat.xor_lt_two_pow h4 h5
    rw [xor_back] at this
    exact this
theorem met_iff : ∀ n s, (lev ok G b n).2 s = true ↔ ∃ m, m ≤ n ∧ (lev ok G b m).1 s = true := by
  intro n
  induction n with
  | zero =>
    intro s
    constructor
    · intro h; exact ⟨0, Nat.le_refl _, h⟩
    · rintro ⟨m, h1, h2⟩
      have : m = 0 := by omega
      subst this
      exact h2
  | succ n ih =>
    intro s
    rw [met_succ, Bool.or_eq_true, ih]
    constructor
    · rintro (⟨m, h1, h2⟩ | h)
      · exact ⟨m, by omega, h2⟩
      · exact ⟨n + 1, Nat.le_refl _, h⟩
    · rintro ⟨m, h1, h2⟩
      by_cases g : m = n + 1
      · subst g; exact Or.inr h2
      · exact Or.inl ⟨m, by omega, h2⟩
theorem lev_uni {n m s : Nat} (h1 : (lev ok G b n).1 s = true) (h2 : (lev ok G b m).1 s = true) : n = m := by
  have key : ∀ n m, m < n → (lev ok G b n).1 s = true → (lev ok G b m).1 s = true → False := by
    intro n m hm h1 h2
    obtain ⟨k, rfl⟩ : ∃ k, n = k + 1 := ⟨n - 1, by omega⟩
    rw [lev_succ, Bool.and_eq_true] at h1
    have : (lev ok G b k).2 s = true := (met_iff k s).mpr ⟨m, by omega, h2⟩
    rw [this] at h1
    exact absurd h1.2 (by decide)
  rcases Nat.lt_trichotomy n m with g | g | g
  · exact absurd h1 (fun z => key m n g h2 z)
  · exact g
  · exact absurd h2 (fun z => key n m g h1 z)
theorem lev_prev {n s : Nat} (h : (lev ok G b (n + 1)).1 s = true) : ∃ j, j < G ∧ (lev ok G b n).1 (s ^^^ 2 ^ j) = true ∧ ok s j = true := by
  rw [lev_succ, Bool.and_eq_true, anyF_iff] at h
  obtain ⟨⟨j, h1, h2, h3⟩, -⟩ := h
  rw [Bool.and_eq_true] at h3
  exact ⟨j, by omega, h3.1, h3.2⟩
theorem lev_empty {n : Nat} (h : ∀ s, (lev ok G b n).1 s = false) : ∀ m, n ≤ m → ∀ s, (lev ok G b m).1 s = false := by
  intro m hm
  induction m with
  | zero =>
    have : n = 0 := by omega
    subst this
    exact h
  | succ m ih =>
    by_cases g : n = m + 1
    · subst g; exact h
    · intro s
      cases hq : (lev ok G b (m + 1)).1 s with
      | false => rfl
      | true =>
        obtain ⟨j, -, h2, -⟩ := lev_prev hq
        rw [ih (by omega)] at h2
        cases h2
/-- how many s below n have not been met -/
def cnt (f : Nat → Bool) : Nat → Nat
  | 0 => 0
  | n + 1 => cnt f n + (if f n then 0 else 1)
theorem cnt_le (f : Nat → Bool) : ∀ n, cnt f n ≤ n := by
  intro n
  induction n with
  | zero => exact Nat.le_refl _
  | succ n ih =>
    rw [cnt]
    cases f n
    · exact Nat.add_le_add_right ih 1
    · exact Nat.le_succ_of_le ih
theorem cnt_mono {f g : Nat → Bool} (h : ∀ s, f s = true → g s = true) : ∀ n, cnt g n ≤ cnt f n := by
  intro n
  induction n with
  | zero => exact Nat.le_refl _
  | succ n ih =>
    rw [cnt, cnt]
    cases hf : f n
    · cases g n
      · exact Nat.add_le_add_right ih 1
      · exact Nat.le_succ_of_le ih
    · rw [h n hf]; exact ih
theorem cnt_lt {f g : Nat → Bool} (h : ∀ s, f s = true → g s = true) {t : Nat} (ht : f t = false) (ht' : g t = true) : ∀ n, t < n → cnt g n < cnt f n := by
  intro n
  induction n with
  | zero => intro h; omega
  | succ n ih =>
    intro hn
    rw [cnt, cnt]
    by_cases e : t = n
    · subst e
      have := cnt_mono h t
      rw [ht, ht', if_pos rfl, if_neg (by decide)]
      omega
    · have := ih (by omega)
      cases hf : f n
      · cases g n
        · rw [if_neg (by decide)]; omega
        · rw [if_pos rfl, if_neg (show ¬ false = true by decide)]; omega
      · rw [h n hf, if_pos rfl]; omega
theorem lev_cnt (hb : b < 2 ^ G) (hG : G ≤ 6) : ∀ n s, (lev ok G b n).1 s = true → cnt (lev ok G b n).2 64 + n + 1 ≤ 64 := by
  have hl : ∀ j, j ≤ 6 → 2 ^ j ≤ 64 := by decide
  have hG2 := hl G hG
  intro n
  induction n with
  | zero =>
    intro s h
    have h1 := lev_lt hb 0 s h
    have := cnt_lt (f := fun _ => false) (g := (lev ok G b 0).2) (fun s h => by cases h) (t := s) rfl h 64 (by omega)
    have h2 := cnt_le (fun _ => false) 64
    omega
  | succ n ih =>
    intro s h
    obtain ⟨j, -, h2, -⟩ := lev_prev h
    have h3 := ih _ h2
    have h1 := lev_lt hb _ s h
    have hm : (lev ok G b n).2 s = false := by
      rw [lev_succ, Bool.and_eq_true] at h
      cases hq : (lev ok G b n).2 s with
      | false => rfl
      | true => rw [hq] at h; exact absurd h.2 (by decide)
    have := cnt_lt (f := (lev ok G b n).2) (g := (lev ok G b (n + 1)).2) (fun s h => by rw [met_succ, h]; rfl) (t := s) hm (by rw [met_succ, h, Bool.or_true]) 64 (by omega)
    omega
theorem lev_le (hb : b < 2 ^ G) (hG : G ≤ 6) {n s : Nat} (h : (lev ok G b n).1 s = true) : n ≤ 63 := by
  have := lev_cnt hb hG n s h
  omega
/-- the first g from g on -/
def firstF : Nat → Nat → (Nat → Bool) → Nat
  | 0, g, _ => g
  | n + 1, g, f => if f g then g else firstF n (g + 1) f
/-- which GEAR is changed k changes behind s, that is r away -/
def pth (ok : Nat → Nat → Bool) (G b : Nat) : Nat → Nat → Nat → Nat
  | 0, s, r => firstF G 0 (fun g => (lev ok G b (r - 1)).1 (s ^^^ 2 ^ g) && ok s g)
  | k + 1, s, r => pth ok G b k (s ^^^ 2 ^ (firstF G 0 (fun g => (lev ok G b (r - 1)).1 (s ^^^ 2 ^ g) && ok s g))) (r - 1)
end
