/-! ===== what the pure functions are made of ===== -/
def pz_at {α : Type} : List α → Nat → Option α
  | [], _ => none
  | x :: _, 0 => some x
  | _ :: t, n + 1 => pz_at t n
/-- a callee's place k in the caller's numbers: its cells are at σ, others that it only names at δ (500 ..), new ones behind the caller's nh -/
def pz_rn (σ δ : List Nat) (nh k : Nat) : Nat := match pz_at σ k with
  | some j => j
  | none => if k < 500 then nh + (k - σ.length) else match pz_at δ (k - 500) with
    | some j => j
    | none => k
def ro0 : Nat → Int32 := fun i => ([0, 0, 1, 0, 0] : List Int32).getD i 0
def ro1 : Nat → Int32 := fun i => ([8, 8, 9, 3, 2] : List Int32).getD i 0
def ro2 : Nat → Int32 := fun i => ([1, 1, -9] : List Int32).getD i 0
def ro3 : Nat → Int32 := fun i => ([20, 9, 9] : List Int32).getD i 0
def ro4 : Nat → Int64 := fun i => ([-6148914691236517206, -3689348814741910324, -1085102592571150096, -71777214294589696, -281470681808896, -4294967296] : List Int64).getD i 0
/-! ===== for functions that may fail ===== -/
def pz_inb (i : Int32) (n : Nat) : Bool := !(decide (i < 0)) && !(Nat.ble n i.toNatClampNeg)
theorem pz_inb_ok {i : Int32} {n : Nat} (h : pz_inb i n = true) : vp_in i n := by
  simp only [pz_inb, Bool.and_eq_true, Bool.not_eq_true', decide_eq_false_iff_not] at h
  rintro (h1 | h1)
  · exact h.1 h1
  · have : Nat.ble n i.toNatClampNeg = true := Nat.ble_eq.mpr h1
    rw [this] at h
    exact absurd h.2 (by decide)
theorem pz_inb_of {i : Int32} {n : Nat} (h : vp_in i n) : pz_inb i n = true := by
  have h1 : ¬ i < 0 := fun z => h (Or.inl z)
  have h2 : ¬ n ≤ i.toNatClampNeg := fun z => h (Or.inr z)
  have h3 : Nat.ble n i.toNatClampNeg = false := by
    cases hb : Nat.ble n i.toNatClampNeg with
    | false => rfl
    | true => exact absurd (Nat.le_of_ble_eq_true hb) h2
  simp [pz_inb, h1, h3]
section
variable {α β : Type}
theorem pz_gd {c : Prop} [Decidable c] {A : Option α} {R : α} (h : (if c then A else none) = some R) : c ∧ A = some R := by
  by_cases hc : c
  · rw [if_pos hc] at h; exact ⟨hc, h⟩
  · rw [if_neg hc] at h; cases h
theorem pz_ip {c : Prop} [Decidable c] {A B : Option α} {R : α} (hc : c) (h : (if c then A else B) = some R) : A = some R := by
  rw [if_pos hc] at h; exact h
theorem pz_ne {c : Prop} [Decidable c] {A B : Option α} {R : α} (hc : ¬ c) (h : (if c then A else B) = some R) : B = some R := by
  rw [if_neg hc] at h; exact h
theorem pz_bd {a : Option β} {f : β → Option α} {R : α} (h : a.bind f = some R) : ∃ x, a = some x ∧ f x = some R := by
  cases a with
  | none => cases h
  | some x => exact ⟨x, rfl, h⟩
end
/-- the reference's text of words, its bytes; the letter at a place -/
def pz_wb : List Int32 := [105, 102, 32, 103, 101, 97, 114, 32, 115, 97, 102, 101, 32, 114, 111, 119, 32, 111, 114, 32, 97, 110, 100, 32, 110, 111, 116, 32, 111, 102, 102, 32, 116, 117, 114, 110, 32, 119, 104, 101, 101, 108, 32, 114, 97, 109, 32, 114, 117, 100, 100, 101, 114, 32]
def fWords (k : Int32) : Int32 := ((pz_wb.getD k.toNatClampNeg 0 &&& 255).toUInt32 % 65536).toInt32
