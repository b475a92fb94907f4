/-! ===== for functions that may fail ===== -/
def pz_inb (i : Int32) (n : Nat) : Bool := !(decide (i < 0)) && !(Nat.ble n i.toNatClampNeg)
theorem pz_inb_ok {i : Int32} {n : Nat} (h : pz_inb i n = true) : vp_in i n := by
  simp only [pz_inb, Bool.and_eq_true, Bool.not_eq_true', decide_eq_false_iff_not] at h
  rintro (h1 | h1)
  · exact h.1 h1
  · have : Nat.ble n i.toNatClampNeg = true := Nat.ble_eq.mpr h1
    rw [this] at h
    exact absurd h.2 (by decide)
theorem pz_inb_of {i : Int32} {n : Nat} (h : vp_in i n) : pz_inb i n = true := by
  have h1 : ¬ i < 0 := fun z => h (Or.inl z)
  have h2 : ¬ n ≤ i.toNatClampNeg := fun z => h (Or.inr z)
  have h3 : Nat.ble n i.toNatClampNeg = false := by
    cases hb : Nat.ble n i.toNatClampNeg with
    | false => rfl
    | true => exact absurd (Nat.le_of_ble_eq_true hb) h2
  simp [pz_inb, h1, h3]
section
variable {α β : Type}
theorem pz_gd {c : Prop} [Decidable c] {A : Option α} {R : α} (h : (if c then A else none) = some R) : c ∧ A = some R := by
  by_cases hc : c
  · rw [if_pos hc] at h; exact ⟨hc, h⟩
  · rw [if_neg hc] at h; cases h
theorem pz_ip {c : Prop} [Decidable c] {A B : Option α} {R : α} (hc : c) (h : (if c then A else B) = some R) : A = some R := by
  rw [if_pos hc] at h; exact h
theorem pz_ne {c : Prop} [Decidable c] {A B : Option α} {R : α} (hc : ¬ c) (h : (if c then A else B) = some R) : B = some R := by
  rw [if_neg hc] at h; exact h
theorem pz_bd {a : Option β} {f : β → Option α} {R : α} (h : a.bind f = some R) : ∃ x, a = some x ∧ f x = some R := by
  cases a with
  | none => cases h
  | some x => exact ⟨x, rfl, h⟩
end
theorem pz_nb {v : Int32} (h : v = 0 ∨ v = 1) : narrow .boolean (.int v) = .int v := by
  rcases h with h | h <;> subst h <;> decide
theorem pz_ral {M : pz_M} {d n0 : Nat} {Post : Option Value → pz_H → Prop} {pc : Nat} {ls : pz_L} {st : List Value} {h : pz_H} (hM : pz_okM M = true) (i : Nat) {inf : List Nat} {cv : Value} (j : Nat) {N : Nat} {f : Nat → Int64} (hj : pz_rl j = some (N, f)) (hi : pz_at M.2.2.2.2 i = some (pc, .arraylength, 1, inf, cv)) (hw : pz_W M d 0 0 n0 Post (pc + 1) ls (.int (Int32.ofNat N) :: st) h 0 0) : pz_W M d 0 0 n0 Post pc ls (.ref (1000 + j) :: st) h 0 0 := by
  intro bs D kA ad ad0 p l e s m args below meth c A H locs lc X hag hP hD hS hl
  have hT := X.2.2.2.2.2.2.2.2.2.2.2.2.2.2.2 _ _ _ hj
  exact va_tlen X.1 X.2.1 (hT.narrow X.2.2.2.2.2.2.2.2.2.2.1) hS rfl (pz_dec hM i hi) (hw bs D kA ad ad0 p l e s m args below meth c A H locs lc X hag hP hD hS hl)
