/-! ===== the next token: class = reference ===== -/
section
variable {fu : Nat} {bytes tape : Nat → Int32} {len : Int32} {L : Nat}
theorem wordR_L (hlen : len.toInt = L) (hL : L ≤ 600) (p e m : Nat) (hpm : p + m = e) (heL : e ≤ L) (hsm : ∀ j, j < m → small (tape (p + j))) (hend : e = L ∨ ¬ small (tape e)) (px sR vR : Int32) : ∀ (n i f : Nat) (x : Int32), i + n = m → x.toInt = ((p + i : Nat) : Int) → n < f → ∃ y : Int32, y.toInt = e ∧ FX12_next_L fu len tape f 1 x px sR vR = (FX12_word fu y px tape).bind (fun w => if w = -1 then (if (y - px) ≤ 6 then ((FX12_name fu y px tape).bind (fun v => some (y, px, (1 : Int32), v))) else (some (y, px, (5 : Int32), w))) else (some (y, px, (0 : Int32), w))) := by
  have q1 := t_1
  intro n
  induction n with
  | zero =>
    intro i f x hi hx hf
    obtain ⟨f, rfl⟩ : ∃ g, f = g + 1 := ⟨f - 1, by omega⟩
    have hh : ∃ c, FX12_here fu len x tape = some c ∧ fX12_isSmall_r c = 0 := by
      by_cases c : e = L
      · exact ⟨-1, here_end fu tape (by omega), by decide⟩
      · refine ⟨tape e, here_in fu tape (by omega) (by omega) (by omega), ?_⟩
        rcases hend with z | z
        · exact absurd z c
        · exact (dig_iff _).2.mpr z
    obtain ⟨c, c1, c2⟩ := hh
    refine ⟨x, by omega, ?_⟩
    rw [FX12_next_L, if_neg (show ¬ (1 : Nat) = 0 by omega), if_pos rfl, c1, Option.bind_some, if_pos c2]
  | succ n ih =>
    intro i f x hi hx hf
    obtain ⟨f, rfl⟩ : ∃ g, f = g + 1 := ⟨f - 1, by omega⟩
    have hs := i_add x 1 (by omega) (by omega)
    have hsi := hsm i (by omega)
    rw [FX12_next_L, if_neg (show ¬ (1 : Nat) = 0 by omega), if_pos rfl, here_in fu tape hx (by omega) (by omega), Option.bind_some, if_neg (fun z => (dig_iff _).2.mp z hsi)]
    exact ih (i + 1) f (x + 1) (by omega) (by omega) (by omega)
theorem word_eq (hfu : 10000 ≤ fu) (hT : tapeR bytes tape) (hlen : len.toInt = L) (hL : L ≤ 600) (a : Nat) (x : Int32) (hx : x.toInt = a) (ha : a < L) (hs : small (tape a)) (kind sR vR : Int32) (f : Nat) (hf : L < f) :
    ∃ (e : Nat) (y ck cv rs rv : Int32), a < e ∧ e ≤ L ∧ y.toInt = e ∧ tokR ck cv rs rv ∧ FX5_readWord fu len x kind 0 x bytes = some (y, ck, cv) ∧ FX12_next_L fu len tape f 1 x x sR vR = some (y, x, rs, rv) ∧ ¬ ck = 0 := by
  have t6 : (6 : Int32).toInt = 6 := rfl
  have q0 := t_0
  obtain ⟨e, e1, e2, e3, e4⟩ := word_end tape L (L - a) a (by omega)
  have hae : a < e := by
    rcases Nat.lt_or_ge a e with z | z
    · exact z
    · have : e = a := by omega
      subst this
      rcases e4 with z | z
      · omega
      · exact absurd hs z
  have hsm : ∀ j, j < e - a → small (tape (a + j)) := fun j hj => e3 (a + j) (by omega) (by omega)
  obtain ⟨y, vv, y1, y2, y3⟩ := wordC_L (fu := fu) hT hlen hL a e (e - a) (by omega) e2 hsm e4 x kind hx (e - a) 0 fu x 25 0 (by omega) (by omega) (by decide) (by omega) (fun _ => by show bn 0 = 0 * _; rw [Nat.zero_mul]; rfl) (fun z => absurd z (by omega))
  obtain ⟨y', y1', y3'⟩ := wordR_L (fu := fu) (tape := tape) hlen hL a e (e - a) (by omega) e2 hsm e4 x sR vR (e - a) 0 f x (by omega) (by omega) (by omega)
  have hyy : y' = y := i_eq.mpr (by omega)
  subst hyy
  have hrw : FX5_readWord fu len x kind 0 x bytes = FX5_readWord_L fu len x bytes fu 25 x kind 0 := rfl
  rw [hrw, y3, y3']
  have hsub := i_sub y' x (by omega) (by omega)
  obtain ⟨w, w1, w2⟩ := word_all (fu := fu) (tape := tape) a e (e - a) (by omega) (by omega) x y' hx y1 12 0 fu 0 0 0 (by omega) rfl rfl (by omega) rfl
  have hw0 : FX12_word fu y' x tape = FX12_word_L fu y' x tape fu 0 0 0 0 := rfl
  rw [hw0, w1, Option.bind_some]
  by_cases c6 : e - a ≤ 6
  · rw [if_pos c6]
    have hvv := y2 c6
    have hlt : nm (dg tape a (e - a)) 6 < 1073741824 := nm_lt (dg_lt hsm) 6
    have hvi := bn_toInt (x := vv) (by omega)
    rcases w2 with ⟨k, k1, k2, k3, k4⟩ | ⟨k1, k2⟩
    · have hcode := (eqW_code k2 c6 hsm).mp k4
      have hcv : vv = wcode k := i_eq.mpr (by have := w_code k k2; omega)
      have hne : ¬ w = -1 := by
        rw [k3, i_eq, i_lit k (by omega), t_m1]
        omega
      rw [hcv, w_lang k k2, if_neg (show ¬ (1 : Int32) = 0 by decide), if_neg hne]
      exact ⟨e, y', 1, wcode k, 0, w, hae, e2, y1, Or.inr (Or.inl ⟨rfl, rfl, k, k2, rfl, k3⟩), rfl, rfl, by decide⟩
    · have hlang : fX5_isOfLanguage_r vv = 0 := by
        apply lang_no
        intro i hi z
        apply k2 i (by omega) hi
        rw [eqW_code hi c6 hsm]
        have h1 := w_code i hi
        have h2 := i_eq.mp z
        omega
      have hnm : ∃ v, FX12_name fu y' x tape = some v ∧ bn v = nm (dg tape a (e - a)) 6 := nameR_L (fu := fu) (tape := tape) a e (e - a) (by omega) (by omega) c6 hsm x y' hx y1 6 0 fu 0 0 (by omega) rfl (by omega) rfl
      obtain ⟨v, v1, v2⟩ := hnm
      have hv : v = vv := i_eq.mpr (by have := bn_toInt (x := v) (by omega); omega)
      rw [hlang, if_pos rfl, if_pos k1, if_pos (show y' - x ≤ 6 by rw [i_le]; omega), v1, hv]
      exact ⟨e, y', 2, vv, 1, vv, hae, e2, y1, Or.inr (Or.inr (Or.inl ⟨rfl, rfl, rfl, by omega⟩)), rfl, rfl, by decide⟩
  · rw [if_neg c6]
    rcases w2 with ⟨k, k1, k2, k3, k4⟩ | ⟨k1, k2⟩
    · have := k4.1
      have := (w_tab k k2).2.2.1
      omega
    · rw [if_pos k1, if_neg (show ¬ y' - x ≤ 6 by rw [i_le]; omega)]
      exact ⟨e, y', 5, vv, 5, w, hae, e2, y1, Or.inr (Or.inr (Or.inr (Or.inr (Or.inr ⟨rfl, rfl⟩)))), rfl, rfl, by decide⟩
/-- the class's next token, where no space stands -/
theorem adv_L (hfu : 10000 ≤ fu) (hT : tapeR bytes tape) (hlen : len.toInt = L) (hL : L ≤ 600) (kind value place sR : Int32) : ∀ (n a f f' : Nat) (x pR vR : Int32), a + n = L → x.toInt = a → n < f → L + n + 1 < f' →
    ∃ (e q : Nat) (y pl ck cv rs rv : Int32), a ≤ q ∧ q ≤ e ∧ e ≤ L ∧ y.toInt = e ∧ pl.toInt = q ∧ (¬ ck = 0 → q < e) ∧ tokR ck cv rs rv ∧ FX5_advance_L fu len bytes f x kind value place = some (y, ck, cv, pl) ∧ FX12_next_L fu len tape f' 0 x pR sR vR = some (y, pl, rs, rv) := by
  have q1 := t_1
  have t10 : (10 : Int32).toInt = 10 := rfl
  have t32 : (32 : Int32).toInt = 32 := rfl
  have t48 : (48 : Int32).toInt = 48 := rfl
  have t57 : (57 : Int32).toInt = 57 := rfl
  have t97 : (97 : Int32).toInt = 97 := rfl
  have t122 : (122 : Int32).toInt = 122 := rfl
  intro n
  induction n with
  | zero =>
    intro a f f' x pR vR ha hx hf hf'
    obtain ⟨f, rfl⟩ : ∃ g, f = g + 1 := ⟨f - 1, by omega⟩
    obtain ⟨f', rfl⟩ : ∃ g, f' = g + 1 := ⟨f' - 1, by omega⟩
    refine ⟨a, a, x, x, 0, 0, 4, vR, by omega, by omega, by omega, hx, hx, fun z => absurd rfl z, Or.inl ⟨rfl, rfl, rfl⟩, ?_, ?_⟩
    · rw [FX5_advance_L, if_pos (by rw [i_le]; omega), if_neg (by rw [i_lt]; omega)]
    · rw [FX12_next_L, if_pos rfl, here_end fu tape (by omega)]
      rfl
  | succ n ih =>
    intro a f f' x pR vR ha hx hf hf'
    obtain ⟨f, rfl⟩ : ∃ g, f = g + 1 := ⟨f - 1, by omega⟩
    obtain ⟨f', rfl⟩ : ∃ g, f' = g + 1 := ⟨f' - 1, by omega⟩
    have hi : pz_inb x 600 = true := i_inb.mpr (by omega)
    have hnx : x.toNatClampNeg = a := by have := i_nat (a := x) (by omega); omega
    have hs := i_add x 1 (by omega) (by omega)
    obtain ⟨b1, b2, b3⟩ := hT a (by omega)
    have hh := here_in fu tape hx (sz := len) (by omega) (by omega)
    have hlt : x < len := by rw [i_lt]; omega
    rw [FX5_advance_L, FX12_next_L, if_pos rfl, hh]
    simp only [Option.bind_some, hnx, if_neg (show ¬ len ≤ x by rw [i_le]; omega), if_pos hi, if_pos hlt]
    have again : ∃ (e q : Nat) (y pl ck cv rs rv : Int32), a ≤ q ∧ q ≤ e ∧ e ≤ L ∧ y.toInt = e ∧ pl.toInt = q ∧ (¬ ck = 0 → q < e) ∧ tokR ck cv rs rv ∧ FX5_advance_L fu len bytes f (x + 1) kind value place = some (y, ck, cv, pl) ∧ FX12_next_L fu len tape f' 0 (x + 1) pR sR vR = some (y, pl, rs, rv) := by
      obtain ⟨e, q, y, pl, ck, cv, rs, rv, k1, k2⟩ := ih (a + 1) f f' (x + 1) pR vR (by omega) (by omega) (by omega) (by omega)
      exact ⟨e, q, y, pl, ck, cv, rs, rv, by omega, k2⟩
    by_cases c32 : bytes a = 32
    · have z := i_eq.mp c32
      have z1 : ¬ tape a = 10 := by rw [i_eq]; omega
      have z2 : ¬ ¬ tape a = 32 := fun w => w (i_eq.mpr (by omega))
      simp only [if_pos c32, if_neg z1, if_neg z2]
      exact again
    by_cases c10 : bytes a = 10
    · have z := i_eq.mp c10
      have z1 : tape a = 10 := i_eq.mpr (by omega)
      simp only [if_neg c32, if_neg (show ¬ ¬ bytes a = 10 from fun w => w c10), if_pos z1]
      exact again
    have z32 : ¬ (bytes a).toInt = 32 := fun z => c32 (i_eq.mpr z)
    have z10 : ¬ (bytes a).toInt = 10 := fun z => c10 (i_eq.mpr z)
    have y32 : ¬ tape a = 32 := by rw [i_eq]; omega
    have y10 : ¬ tape a = 10 := by rw [i_eq]; omega
    have ym1 : ¬ tape a = -1 := by rw [i_eq, t_m1]; omega
    simp only [if_neg c32, if_pos c10, if_neg y10, if_pos y32, if_pos ym1]
    by_cases cs : small (tape a)
    · have s1 : ¬ bytes a < 97 := by
        rw [i_lt]
        unfold small at cs
        omega
      have s2 : ¬ 122 < bytes a := by
        rw [i_lt]
        unfold small at cs
        omega
      have s3 : ¬ fX12_isSmall_r (tape a) = 0 := fun z => (dig_iff _).2.mp z cs
      simp only [if_neg s1, if_neg s2, if_neg s3]
      obtain ⟨e, y, ck, cv, rs, rv, k1, k2, k3, k4, k5, k6, k7⟩ := word_eq (fu := fu) hfu hT hlen hL a x hx (by omega) cs kind sR vR f' (by omega)
      refine ⟨e, a, y, x, ck, cv, rs, rv, by omega, by omega, k2, k3, hx, fun _ => k1, k4, ?_, k6⟩
      rw [k5]
      rfl
    have s3 : fX12_isSmall_r (tape a) = 0 := (dig_iff _).2.mpr cs
    have cs' := cs
    unfold small at cs'
    by_cases cd : 48 ≤ (tape a).toInt ∧ (tape a).toInt ≤ 57
    · have d1 : bytes a < 97 := by rw [i_lt]; omega
      have d2 : ¬ bytes a < 48 := by rw [i_lt]; omega
      have d3 : ¬ 57 < bytes a := by rw [i_lt]; omega
      have d4 : ¬ fX12_isDigit_r (tape a) = 0 := fun z => (dig_iff _).1.mp z cd
      simp only [if_pos d1, if_neg d2, if_neg d3, if_pos s3, if_neg d4]
      obtain ⟨e, y, cv, rv, k1, k2, k3, k4, k5, k6, k7⟩ := num_L (fu := fu) hT hlen hL x 2 (L - a) a fu f' x 0 0 (by omega) hx (by omega) (by omega) (Or.inl ⟨rfl, by decide, by decide⟩)
      refine ⟨e, a, y, x, 3, cv, 2, rv, by omega, by omega, k2, k3, hx, fun _ => k7 ⟨by omega, cd.1, cd.2⟩, Or.inr (Or.inr (Or.inr (Or.inl ⟨rfl, rfl, k4⟩))), ?_, k6⟩
      have hr : FX5_readNumber fu len x 0 bytes = FX5_readNumber_L fu len bytes fu x 3 0 := rfl
      rw [hr, k5]
      rfl
    · have d4 : fX12_isDigit_r (tape a) = 0 := (dig_iff _).1.mpr cd
      obtain ⟨e, y, ck, cv, rs, rv, k1, k2, k3, k4, k5, k6, k7⟩ := sign_eq (fu := fu) hT hlen hL a x hx (by omega) (by omega) cd cs'
      simp only [if_pos s3, if_pos d4, k5, k6, Option.bind_some]
      refine ⟨e, a, y, x, ck, cv, rs, rv, by omega, by omega, k2, k3, hx, fun _ => k1, k4, ?_, rfl⟩
      by_cases e1 : bytes a < 97
      · simp only [if_pos e1]
        by_cases e2 : bytes a < 48
        · simp only [if_pos e2]
        · have e3 : 57 < bytes a := by
            rw [i_lt] at e2 ⊢
            omega
          simp only [if_neg e2, if_pos e3]
      · have e4 : 122 < bytes a := by
          rw [i_lt] at e1 ⊢
          omega
        have e2 : ¬ bytes a < 48 := by
          rw [i_lt] at e1 ⊢
          omega
        have e3 : 57 < bytes a := by
          rw [i_lt] at e1 ⊢
          omega
        simp only [if_neg e1, if_pos e4, if_neg e2, if_pos e3]
theorem adv_eq (hfu : 10000 ≤ fu) (hT : tapeR bytes tape) (hlen : len.toInt = L) (hL : L ≤ 600) (kind value place sR pR vR : Int32) (a : Nat) (ha : a ≤ L) (x : Int32) (hx : x.toInt = a) :
    ∃ (e q : Nat) (y pl ck cv rs rv : Int32), a ≤ q ∧ q ≤ e ∧ e ≤ L ∧ y.toInt = e ∧ pl.toInt = q ∧ (¬ ck = 0 → q < e) ∧ tokR ck cv rs rv ∧ FX5_advance fu len x kind value place bytes = some (y, ck, cv, pl) ∧ FX12_next fu len x pR sR vR tape = some (y, pl, rs, rv) := by
  unfold FX5_advance FX12_next
  exact adv_L hfu hT hlen hL kind value place sR (L - a) a fu fu x pR vR (by omega) hx (by omega) (by omega)
end
