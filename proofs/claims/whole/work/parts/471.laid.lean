/-! ===== the LINES are laid ===== -/
def cpI (i b : Nat) (f : Nat → Int32) : Nat → Int32 := fun j => if j < i then f (b + j) else f j
theorem cpI_0 (b : Nat) (f : Nat → Int32) : cpI 0 b f = f := by
  funext j
  unfold cpI
  rw [if_neg (by omega)]
theorem cpI_up {i b : Nat} (f : Nat → Int32) : upd (cpI i b f) i (cpI i b f (b + i)) = cpI (i + 1) b f := by
  have e : cpI i b f (b + i) = f (b + i) := by unfold cpI; rw [if_neg (by omega)]
  rw [e]
  funext j
  unfold upd cpI
  by_cases c : j = i
  · subst c
    rw [if_pos rfl, if_pos (by omega)]
  · rw [if_neg c]
    by_cases d : j < i
    · rw [if_pos d, if_pos (by omega)]
    · rw [if_neg d, if_neg (by omega)]
theorem cpI_lt {i b j : Nat} (f : Nat → Int32) (h : j < i) : cpI i b f j = f (b + j) := by unfold cpI; rw [if_pos h]
section
variable (fu : Nat) (a1 a2 a3 a4 a5 a6 a7 b1 b2 b3 b4 b5 b6 b7 : Int32)
theorem laid0 (ks kv wf wt ot gn gf gt rs rm ro : Nat → Int32) : ∀ (d i f : Nat) (x : Int32), i + d = 128 → x.toInt = i → FX12_laid_L fu a1 a2 a3 a4 a5 a6 a7 (f + d + 1) 0 x b1 b2 b3 b4 b5 b6 b7 (cpI i 128 ks) (cpI i 128 kv) wf wt ot gn gf gt rs rm ro = FX12_laid_L fu a1 a2 a3 a4 a5 a6 a7 f 1 0 b1 b2 b3 b4 b5 b6 b7 (cpI 128 128 ks) (cpI 128 128 kv) wf wt ot gn gf gt rs rm ro := by
  have q1 := t_1
  have tb : (128 : Int32).toInt = 128 := rfl
  intro d
  induction d with
  | zero =>
    intro i f x hi hx
    have e : i = 128 := by omega
    subst e
    rw [FX12_laid_L]
    rw [if_pos rfl, if_pos (show (128 : Int32) ≤ x by rw [i_le]; rw [hx]; decide)]
  | succ d ih =>
    intro i f x hi hx
    have hs := i_add x 1 (by omega) (by omega)
    have h0 := i_add 128 x (by rw [tb]; omega) (by rw [tb]; omega)
    rw [tb] at h0
    have hi1 : pz_inb x 256 = true := i_inb.mpr (by omega)
    have hi2 : pz_inb (128 + x) 256 = true := i_inb.mpr (by omega)
    have hn1 : x.toNatClampNeg = i := by have := i_nat (a := x) (by omega); omega
    have hn2 : (128 + x).toNatClampNeg = 128 + i := by have := i_nat (a := 128 + x) (by omega); omega
    rw [show f + (d + 1) + 1 = (f + d + 1) + 1 from by omega, FX12_laid_L]
    rw [if_pos rfl, if_neg (show ¬ (128 : Int32) ≤ x by rw [i_le, show (128 : Int32).toInt = 128 from rfl]; omega), if_pos hi2, if_pos hi1, if_pos hi2, if_pos hi1, hn1, hn2, cpI_up, cpI_up]
    exact ih (i + 1) f (x + 1) (by omega) (by omega)
theorem laid1 (ks kv wf wt ot gn gf gt rs rm ro : Nat → Int32) : ∀ (d i f : Nat) (x : Int32), i + d = 12 → x.toInt = i → FX12_laid_L fu a1 a2 a3 a4 a5 a6 a7 (f + d + 1) 1 x b1 b2 b3 b4 b5 b6 b7 ks kv (cpI i 12 wf) (cpI i 12 wt) (cpI i 12 ot) gn gf gt rs rm ro = FX12_laid_L fu a1 a2 a3 a4 a5 a6 a7 f 2 0 b1 b2 b3 b4 b5 b6 b7 ks kv (cpI 12 12 wf) (cpI 12 12 wt) (cpI 12 12 ot) gn gf gt rs rm ro := by
  have q1 := t_1
  have tb : (12 : Int32).toInt = 12 := rfl
  intro d
  induction d with
  | zero =>
    intro i f x hi hx
    have e : i = 12 := by omega
    subst e
    rw [FX12_laid_L]
    rw [if_neg (show ¬ (1 : Nat) = 0 by decide)]
    rw [if_pos rfl, if_pos (show (12 : Int32) ≤ x by rw [i_le]; rw [hx]; decide)]
  | succ d ih =>
    intro i f x hi hx
    have hs := i_add x 1 (by omega) (by omega)
    have h0 := i_add 12 x (by rw [tb]; omega) (by rw [tb]; omega)
    rw [tb] at h0
    have hi1 : pz_inb x 24 = true := i_inb.mpr (by omega)
    have hi2 : pz_inb (12 + x) 24 = true := i_inb.mpr (by omega)
    have hn1 : x.toNatClampNeg = i := by have := i_nat (a := x) (by omega); omega
    have hn2 : (12 + x).toNatClampNeg = 12 + i := by have := i_nat (a := 12 + x) (by omega); omega
    rw [show f + (d + 1) + 1 = (f + d + 1) + 1 from by omega, FX12_laid_L]
    rw [if_neg (show ¬ (1 : Nat) = 0 by decide)]
    rw [if_pos rfl, if_neg (show ¬ (12 : Int32) ≤ x by rw [i_le, show (12 : Int32).toInt = 12 from rfl]; omega), if_pos hi2, if_pos hi1, if_pos hi2, if_pos hi1, if_pos hi2, if_pos hi1, hn1, hn2, cpI_up, cpI_up, cpI_up]
    exact ih (i + 1) f (x + 1) (by omega) (by omega)
theorem laid2 (ks kv wf wt ot gn gf gt rs rm ro : Nat → Int32) : ∀ (d i f : Nat) (x : Int32), i + d = 6 → x.toInt = i → FX12_laid_L fu a1 a2 a3 a4 a5 a6 a7 (f + d + 1) 2 x b1 b2 b3 b4 b5 b6 b7 ks kv wf wt ot (cpI i 6 gn) (cpI i 6 gf) (cpI i 6 gt) rs rm ro = FX12_laid_L fu a1 a2 a3 a4 a5 a6 a7 f 3 0 b1 b2 b3 b4 b5 b6 b7 ks kv wf wt ot (cpI 6 6 gn) (cpI 6 6 gf) (cpI 6 6 gt) rs rm ro := by
  have q1 := t_1
  have tb : (6 : Int32).toInt = 6 := rfl
  intro d
  induction d with
  | zero =>
    intro i f x hi hx
    have e : i = 6 := by omega
    subst e
    rw [FX12_laid_L]
    rw [if_neg (show ¬ (2 : Nat) = 0 by decide)]
    rw [if_neg (show ¬ (2 : Nat) = 1 by decide)]
    rw [if_pos rfl, if_pos (show (6 : Int32) ≤ x by rw [i_le]; rw [hx]; decide)]
  | succ d ih =>
    intro i f x hi hx
    have hs := i_add x 1 (by omega) (by omega)
    have h0 := i_add 6 x (by rw [tb]; omega) (by rw [tb]; omega)
    rw [tb] at h0
    have hi1 : pz_inb x 12 = true := i_inb.mpr (by omega)
    have hi2 : pz_inb (6 + x) 12 = true := i_inb.mpr (by omega)
    have hn1 : x.toNatClampNeg = i := by have := i_nat (a := x) (by omega); omega
    have hn2 : (6 + x).toNatClampNeg = 6 + i := by have := i_nat (a := 6 + x) (by omega); omega
    rw [show f + (d + 1) + 1 = (f + d + 1) + 1 from by omega, FX12_laid_L]
    rw [if_neg (show ¬ (2 : Nat) = 0 by decide)]
    rw [if_neg (show ¬ (2 : Nat) = 1 by decide)]
    rw [if_pos rfl, if_neg (show ¬ (6 : Int32) ≤ x by rw [i_le, show (6 : Int32).toInt = 6 from rfl]; omega), if_pos hi2, if_pos hi1, if_pos hi2, if_pos hi1, if_pos hi2, if_pos hi1, hn1, hn2, cpI_up, cpI_up, cpI_up]
    exact ih (i + 1) f (x + 1) (by omega) (by omega)
theorem laid3 (ks kv wf wt ot gn gf gt rs rm ro : Nat → Int32) : ∀ (d i f : Nat) (x : Int32), i + d = 6 → x.toInt = i → FX12_laid_L fu a1 a2 a3 a4 a5 a6 a7 (f + d + 1) 3 x b1 b2 b3 b4 b5 b6 b7 ks kv wf wt ot gn gf gt (cpI i 6 rs) (cpI i 6 rm) ro = FX12_laid_L fu a1 a2 a3 a4 a5 a6 a7 f 4 0 b1 b2 b3 b4 b5 b6 b7 ks kv wf wt ot gn gf gt (cpI 6 6 rs) (cpI 6 6 rm) ro := by
  have q1 := t_1
  have tb : (6 : Int32).toInt = 6 := rfl
  intro d
  induction d with
  | zero =>
    intro i f x hi hx
    have e : i = 6 := by omega
    subst e
    rw [FX12_laid_L]
    rw [if_neg (show ¬ (3 : Nat) = 0 by decide)]
    rw [if_neg (show ¬ (3 : Nat) = 1 by decide)]
    rw [if_neg (show ¬ (3 : Nat) = 2 by decide)]
    rw [if_pos rfl, if_pos (show (6 : Int32) ≤ x by rw [i_le]; rw [hx]; decide)]
  | succ d ih =>
    intro i f x hi hx
    have hs := i_add x 1 (by omega) (by omega)
    have h0 := i_add 6 x (by rw [tb]; omega) (by rw [tb]; omega)
    rw [tb] at h0
    have hi1 : pz_inb x 12 = true := i_inb.mpr (by omega)
    have hi2 : pz_inb (6 + x) 12 = true := i_inb.mpr (by omega)
    have hn1 : x.toNatClampNeg = i := by have := i_nat (a := x) (by omega); omega
    have hn2 : (6 + x).toNatClampNeg = 6 + i := by have := i_nat (a := 6 + x) (by omega); omega
    rw [show f + (d + 1) + 1 = (f + d + 1) + 1 from by omega, FX12_laid_L]
    rw [if_neg (show ¬ (3 : Nat) = 0 by decide)]
    rw [if_neg (show ¬ (3 : Nat) = 1 by decide)]
    rw [if_neg (show ¬ (3 : Nat) = 2 by decide)]
    rw [if_pos rfl, if_neg (show ¬ (6 : Int32) ≤ x by rw [i_le, show (6 : Int32).toInt = 6 from rfl]; omega), if_pos hi2, if_pos hi1, if_pos hi2, if_pos hi1, hn1, hn2, cpI_up, cpI_up]
    exact ih (i + 1) f (x + 1) (by omega) (by omega)
theorem laid4 (ks kv wf wt ot gn gf gt rs rm ro : Nat → Int32) : ∀ (d i f : Nat) (x : Int32), i + d = 72 → x.toInt = i → FX12_laid_L fu a1 a2 a3 a4 a5 a6 a7 (f + d + 1) 4 x b1 b2 b3 b4 b5 b6 b7 ks kv wf wt ot gn gf gt rs rm (cpI i 72 ro) = some (b1, b2, b3, b4, b5, b6, b7, ks, kv, wf, wt, ot, gn, gf, gt, rs, rm, cpI 72 72 ro) := by
  have q1 := t_1
  have tb : (72 : Int32).toInt = 72 := rfl
  intro d
  induction d with
  | zero =>
    intro i f x hi hx
    have e : i = 72 := by omega
    subst e
    rw [FX12_laid_L]
    rw [if_neg (show ¬ (4 : Nat) = 0 by decide)]
    rw [if_neg (show ¬ (4 : Nat) = 1 by decide)]
    rw [if_neg (show ¬ (4 : Nat) = 2 by decide)]
    rw [if_neg (show ¬ (4 : Nat) = 3 by decide)]
    rw [if_pos rfl, if_pos (show (72 : Int32) ≤ x by rw [i_le]; rw [hx]; decide)]
  | succ d ih =>
    intro i f x hi hx
    have hs := i_add x 1 (by omega) (by omega)
    have h0 := i_add 72 x (by rw [tb]; omega) (by rw [tb]; omega)
    rw [tb] at h0
    have hi1 : pz_inb x 144 = true := i_inb.mpr (by omega)
    have hi2 : pz_inb (72 + x) 144 = true := i_inb.mpr (by omega)
    have hn1 : x.toNatClampNeg = i := by have := i_nat (a := x) (by omega); omega
    have hn2 : (72 + x).toNatClampNeg = 72 + i := by have := i_nat (a := 72 + x) (by omega); omega
    rw [show f + (d + 1) + 1 = (f + d + 1) + 1 from by omega, FX12_laid_L]
    rw [if_neg (show ¬ (4 : Nat) = 0 by decide)]
    rw [if_neg (show ¬ (4 : Nat) = 1 by decide)]
    rw [if_neg (show ¬ (4 : Nat) = 2 by decide)]
    rw [if_neg (show ¬ (4 : Nat) = 3 by decide)]
    rw [if_pos rfl, if_neg (show ¬ (72 : Int32) ≤ x by rw [i_le, show (72 : Int32).toInt = 72 from rfl]; omega), if_pos hi2, if_pos hi1, hn1, hn2, cpI_up]
    exact ih (i + 1) f (x + 1) (by omega) (by omega)
end
theorem laid_eq {fu : Nat} (hfu : 1000 ≤ fu) (a1 a2 a3 a4 a5 a6 a7 : Int32) (ks kv wf wt ot gn gf gt rs rm ro : Nat → Int32) : FX12_laid fu a1 a2 a3 a4 a5 a6 a7 ks kv wf wt ot gn gf gt rs rm ro = some (a1, a2, a3, a4, a5, a6, a7, cpI 128 128 ks, cpI 128 128 kv, cpI 12 12 wf, cpI 12 12 wt, cpI 12 12 ot, cpI 6 6 gn, cpI 6 6 gf, cpI 6 6 gt, cpI 6 6 rs, cpI 6 6 rm, cpI 72 72 ro) := by
  have h0 := laid0 fu a1 a2 a3 a4 a5 a6 a7 a1 a2 a3 a4 a5 a6 a7 ks kv wf wt ot gn gf gt rs rm ro 128 0 (fu - 129) 0 rfl rfl
  rw [cpI_0, cpI_0, show fu - 129 + 128 + 1 = fu from by omega] at h0
  have h1 := laid1 fu a1 a2 a3 a4 a5 a6 a7 a1 a2 a3 a4 a5 a6 a7 (cpI 128 128 ks) (cpI 128 128 kv) wf wt ot gn gf gt rs rm ro 12 0 (fu - 142) 0 rfl rfl
  rw [cpI_0, cpI_0, cpI_0, show fu - 142 + 12 + 1 = fu - 129 from by omega] at h1
  have h2 := laid2 fu a1 a2 a3 a4 a5 a6 a7 a1 a2 a3 a4 a5 a6 a7 (cpI 128 128 ks) (cpI 128 128 kv) (cpI 12 12 wf) (cpI 12 12 wt) (cpI 12 12 ot) gn gf gt rs rm ro 6 0 (fu - 149) 0 rfl rfl
  rw [cpI_0, cpI_0, cpI_0, show fu - 149 + 6 + 1 = fu - 142 from by omega] at h2
  have h3 := laid3 fu a1 a2 a3 a4 a5 a6 a7 a1 a2 a3 a4 a5 a6 a7 (cpI 128 128 ks) (cpI 128 128 kv) (cpI 12 12 wf) (cpI 12 12 wt) (cpI 12 12 ot) (cpI 6 6 gn) (cpI 6 6 gf) (cpI 6 6 gt) rs rm ro 6 0 (fu - 156) 0 rfl rfl
  rw [cpI_0, cpI_0, show fu - 156 + 6 + 1 = fu - 149 from by omega] at h3
  have h4 := laid4 fu a1 a2 a3 a4 a5 a6 a7 a1 a2 a3 a4 a5 a6 a7 (cpI 128 128 ks) (cpI 128 128 kv) (cpI 12 12 wf) (cpI 12 12 wt) (cpI 12 12 ot) (cpI 6 6 gn) (cpI 6 6 gf) (cpI 6 6 gt) (cpI 6 6 rs) (cpI 6 6 rm) ro 72 0 (fu - 229) 0 rfl rfl
  rw [cpI_0, show fu - 229 + 72 + 1 = fu - 156 from by omega] at h4
  unfold FX12_laid
  rw [h0, h1, h2, h3, h4]
