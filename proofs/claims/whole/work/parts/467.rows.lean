/-! ===== a row LINE, whole ===== -/
def rowI (R m : Nat) (rl0 ro0 rm0 ro0' rl ro rm ro' : Nat → Int32) : Prop := (rl R).toInt = m ∧ rm (6 + R) = rl R ∧ (∀ k, k < m → ro' (12 * (6 + R) + k) = ro (12 * R + k) ∧ in30 (ro (12 * R + k))) ∧ (∀ i, i < R → rl i = rl0 i) ∧ (∀ i, i < 6 + R → rm i = rm0 i) ∧ (∀ i, i < 12 * R → ro i = ro0 i) ∧ (∀ i, i < 12 * (6 + R) → ro' i = ro0' i)
def rowF (rs rv : Int32) : Int32 := if ¬ fX12_isSign_r 45 rs rv 0 = 0 then 1 else if ¬ rs = 2 then 0 else 1
theorem rowI_step {R m : Nat} {rl0 ro0 rm0 ro0' rl ro rm ro' : Nat → Int32} (h : rowI R m rl0 ro0 rm0 ro0' rl ro rm ro') {o : Int32} (ho : in30 o) (hm : m < 12) : rowI R (m + 1) rl0 ro0 rm0 ro0' (upd rl R (rl R + 1)) (upd ro (12 * R + m) o) (upd rm (6 + R) (rl R + 1)) (upd ro' (12 * (6 + R) + m) o) := by
  obtain ⟨h1, h2, h3, h4, h5, h6, h7⟩ := h
  have q1 := t_1
  have hs := i_add (rl R) 1 (by omega) (by omega)
  refine ⟨by rw [up_eq]; omega, by rw [up_eq, up_eq], ?_, ?_, ?_, ?_, ?_⟩
  · intro k hk
    by_cases c : k = m
    · subst c
      rw [up_eq, up_eq]
      exact ⟨rfl, ho⟩
    · rw [up_ne ro' _ (by omega), up_ne ro _ (by omega)]
      exact h3 k (by omega)
  · intro i hi
    rw [up_ne rl _ (by omega)]
    exact h4 i hi
  · intro i hi
    rw [up_ne rm _ (by omega)]
    exact h5 i hi
  · intro i hi
    rw [up_ne ro _ (by omega)]
    exact h6 i hi
  · intro i hi
    rw [up_ne ro' _ (by omega)]
    exact h7 i hi
theorem dec_1 {x : Int32} {k : Nat} (h : x.toInt = 1 + k) (hk : k ≤ 1000) : ∃ y, x + (-1) = y ∧ y.toInt = k := by
  have qm := t_m1
  generalize (-1 : Int32) = m at *
  have hs := i_add x m (by omega) (by omega)
  exact ⟨_, rfl, by omega⟩
section
variable {fu : Nat} {len : Int32} {bytes tape : Nat → Int32} {L : Nat}
theorem row_exit (g : Nat) (v2 fa fp nx ck cv pl rows : Int32) (a b c : Nat → Int32) : FX7_readRowLine_L fu len bytes (g + 1) 0 v2 fa fp nx ck cv pl rows a b c = some (0, fa, fp, nx, ck, cv, pl, rows, a, b, c) := by
  rw [FX7_readRowLine_L]
  by_cases h : v2 ≤ 0
  · rw [if_pos h, if_pos (Or.inl rfl)]
  · rw [if_neg h, if_pos rfl, if_pos (Or.inl rfl)]
/-- one ORDER -/
theorem row_ord (hfu : 10000 ≤ fu) (hT : tapeR bytes tape) (hlen : len.toInt = L) (hL : L ≤ 600) {nx ck cv pl rs rv : Int32} {q e : Nat} (htk : tkS L nx ck cv pl rs rv q e) {R m : Nat} (hR : R < 6) (hm : m ≤ 12) (rows1 p1 : Int32) (hrows : rows1.toInt = R + 1) (hp1 : p1.toInt = 6 + R) {rl0 ro0 rm0 ro0' rl ro rm' ro' : Nat → Int32} (hI : rowI R m rl0 ro0 rm0 ro0' rl ro rm' ro') (rs' : Nat → Int32) (rowsR : Int32) (n : Nat) :
    (∃ (nx2 ck2 cv2 pl2 rs2 rv2 : Int32) (rl2 ro2 rm2 ro2' : Nat → Int32) (q2 e2 : Nat), FX7_readRowOrder fu 0 (-1) len nx ck cv pl bytes rows1 rl ro = some (1, 0, -1, nx2, ck2, cv2, pl2, rl2, ro2) ∧ FX12_rowLine_L fu p1 len tape (n + 1) 1 rowsR nx pl rs rv 0 (-1) rs' rm' ro' = FX12_rowLine_L fu p1 len tape n (rowF rs2 rv2) rowsR nx2 pl2 rs2 rv2 0 (-1) rs' rm2 ro2' ∧ tkS L nx2 ck2 cv2 pl2 rs2 rv2 q2 e2 ∧ q < q2 ∧ rowI R (m + 1) rl0 ro0 rm0 ro0' rl2 ro2 rm2 ro2' ∧ m < 12) ∨
    (∃ (fa fp nx2 ck2 cv2 plc : Int32) (rl2 ro2 : Nat → Int32) (nxR plR rsR rvR : Int32), FX7_readRowOrder fu 0 (-1) len nx ck cv pl bytes rows1 rl ro = some (0, fa, fp, nx2, ck2, cv2, plc, rl2, ro2) ∧ FX12_rowLine_L fu p1 len tape (n + 1) 1 rowsR nx pl rs rv 0 (-1) rs' rm' ro' = some (rowsR, nxR, plR, rsR, rvR, fa, fp, rs', rm', ro') ∧ ¬ fa = 0) := by
  rw [row_unf]
  unfold FX7_readRowOrder
  rcases atS htk.2.2.2.2.2 (c := -16) (r := 45) (by unfold sgR; decide) with ⟨b1, b2, b3⟩ | ⟨b1, b2, b3, b4, b5, b6⟩
  · rw [b1, b2, if_pos rfl, if_pos rfl]
    rcases row_J18 hfu hT hlen hL htk hR hm rows1 p1 hrows hp1 rl ro rs' rm' ro' hI.1 hI.2.1 rowsR n 0 (Or.inl rfl) with ⟨nx2, ck2, cv2, pl2, rs2, rv2, o, q2, e2, d1, d2, d3, d4, d5, d6⟩ | ⟨fa, fp, nx2, ck2, cv2, plc, rl2, ro2, nxR, plR, rsR, rvR, d1, d2, d3⟩
    · exact Or.inl ⟨nx2, ck2, cv2, pl2, rs2, rv2, _, _, _, _, q2, e2, d1, d2, d3, d4, rowI_step hI d5 d6, d6⟩
    · exact Or.inr ⟨fa, fp, nx2, ck2, cv2, plc, rl2, ro2, nxR, plR, rsR, rvR, d1, d2, d3⟩
  · rw [b1, b2, if_neg (show ¬ (1 : Int32) = 0 by decide), if_neg (show ¬ (1 : Int32) = 0 by decide)]
    obtain ⟨nx3, ck3, cv3, pl3, rs3, rv3, q3, e3, c1, c2, c3, c4⟩ := tk_adv hfu hT hlen hL htk (by rw [b3]; decide)
    rw [c1, c2, Option.bind_some, Option.bind_some]
    rcases row_J18 hfu hT hlen hL c3 hR hm rows1 p1 hrows hp1 rl ro rs' rm' ro' hI.1 hI.2.1 rowsR n 1 (Or.inr rfl) with ⟨nx2, ck2, cv2, pl2, rs2, rv2, o, q2, e2, d1, d2, d3, d4, d5, d6⟩ | ⟨fa, fp, nx2, ck2, cv2, plc, rl2, ro2, nxR, plR, rsR, rvR, d1, d2, d3⟩
    · exact Or.inl ⟨nx2, ck2, cv2, pl2, rs2, rv2, _, _, _, _, q2, e2, d1, d2, d3, by omega, rowI_step hI d5 d6, d6⟩
    · exact Or.inr ⟨fa, fp, nx2, ck2, cv2, plc, rl2, ro2, nxR, plR, rsR, rvR, d1, d2, d3⟩
/-- the ORDERS after the first -/
theorem row_loop (hfu : 10000 ≤ fu) (hT : tapeR bytes tape) (hlen : len.toInt = L) (hL : L ≤ 600) {R : Nat} (hR : R < 6) (rows1 p1 : Int32) (hrows : rows1.toInt = R + 1) (hp1 : p1.toInt = 6 + R) (rl0 ro0 rm0 ro0' rsC rs' : Nat → Int32) (rowsR : Int32) :
    ∀ (d f f' m : Nat) (v2 nx ck cv pl rs rv : Int32) (q e : Nat) (rl ro rm' ro' : Nat → Int32), m + d = 12 → v2.toInt = 1 + d → d + 2 < f → d + 2 < f' → tkS L nx ck cv pl rs rv q e → rowI R m rl0 ro0 rm0 ro0' rl ro rm' ro' →
    (∃ (nx2 ck2 cv2 pl2 rs2 rv2 : Int32) (rl2 ro2 rm2 ro2' : Nat → Int32) (q2 e2 m2 : Nat), FX7_readRowLine_L fu len bytes f 1 v2 0 (-1) nx ck cv pl rows1 rsC rl ro = some (1, 0, -1, nx2, ck2, cv2, pl2, rows1, rsC, rl2, ro2) ∧ FX12_rowLine_L fu p1 len tape f' (rowF rs rv) rowsR nx pl rs rv 0 (-1) rs' rm' ro' = some (rowsR + 1, nx2, pl2, rs2, rv2, 0, -1, rs', rm2, ro2') ∧ tkS L nx2 ck2 cv2 pl2 rs2 rv2 q2 e2 ∧ q ≤ q2 ∧ rowI R m2 rl0 ro0 rm0 ro0' rl2 ro2 rm2 ro2' ∧ m ≤ m2 ∧ m2 ≤ 12) ∨
    (∃ (fa fp nx2 ck2 cv2 plc : Int32) (rl2 ro2 : Nat → Int32) (rowsR2 nxR plR rsR rvR faR fpR : Int32) (rm2 ro2' : Nat → Int32), FX7_readRowLine_L fu len bytes f 1 v2 0 (-1) nx ck cv pl rows1 rsC rl ro = some (0, fa, fp, nx2, ck2, cv2, plc, rows1, rsC, rl2, ro2) ∧ FX12_rowLine_L fu p1 len tape f' (rowF rs rv) rowsR nx pl rs rv 0 (-1) rs' rm' ro' = some (rowsR2, nxR, plR, rsR, rvR, faR, fpR, rs', rm2, ro2') ∧ lateR fa fp plR rsR rvR faR fpR ∧ (∀ i, i < 6 + R → rm2 i = rm0 i) ∧ (∀ i, i < 12 * (6 + R) → ro2' i = ro0' i)) := by
  have q0 := t_0
  have q1 := t_1
  intro d
  induction d using Nat.strongRecOn with
  | _ d ih =>
    intro f f' m v2 nx ck cv pl rs rv q e rl ro rm' ro' hmd hv2 hf hf' htk hI
    obtain ⟨f, rfl⟩ : ∃ g, f = g + 2 := ⟨f - 2, by omega⟩
    obtain ⟨f', rfl⟩ : ∃ g, f' = g + 2 := ⟨f' - 2, by omega⟩
    have ht := htk.2.2.2.2.2
    have hf0 : ∀ g, FX12_rowLine_L fu p1 len tape (g + 1) 0 rowsR nx pl rs rv 0 (-1) rs' rm' ro' = some (rowsR + 1, nx, pl, rs, rv, 0, -1, rs', rm', ro') := by
      intro g
      rw [FX12_rowLine_L, if_pos rfl]
    rw [FX7_readRowLine_L, if_neg (show ¬ v2 ≤ 0 by rw [i_le]; omega), if_neg (show ¬ (1 : Int32) = 0 by decide)]
    have hS := atS ht (c := -16) (r := 45) (by unfold sgR; decide)
    rcases atS ht (c := -21) (r := 59) (by unfold sgR; decide) with ⟨b1, b2, b3⟩ | ⟨b1, b2, b3, b4, b5, b6⟩
    · rw [b1, if_neg (show ¬ ¬ (0 : Int32) = 0 by decide)]
      by_cases cF : rowF rs rv = 0
      · rw [cF, hf0]
        have hS0 : fX7_atSign_r (-16) ck cv = 0 := by
          rcases hS with ⟨a1, a2, a3⟩ | ⟨a1, a2, a3⟩
          · exact a1
          · unfold rowF at cF
            rw [a2, if_pos (show ¬ (1 : Int32) = 0 by decide)] at cF
            exact absurd cF (by decide)
        have hS1 : fX12_isSign_r 45 rs rv 0 = 0 := by
          rcases hS with ⟨a1, a2, a3⟩ | ⟨a1, a2, a3⟩
          · exact a2
          · rw [a1] at hS0; exact absurd hS0 (by decide)
        have hck : ¬ ck = 3 := by
          intro z
          unfold rowF at cF
          rw [hS1, if_neg (show ¬ ¬ (0 : Int32) = 0 by decide)] at cF
          have hrs : rs = 2 := by
            rcases ht with ⟨h1, h2, h3⟩ | ⟨h1, h2, h3⟩ | ⟨h1, h2, h3⟩ | ⟨h1, h2, h3⟩ | ⟨h1, h2, h3⟩ | ⟨h1, h2⟩
            · rw [h1] at z; exact absurd z (by decide)
            · rw [h1] at z; exact absurd z (by decide)
            · rw [h1] at z; exact absurd z (by decide)
            · exact h2
            · rw [h1] at z; exact absurd z (by decide)
            · rw [h1] at z; exact absurd z (by decide)
          rw [if_neg (show ¬ ¬ rs = 2 from fun y => y hrs)] at cF
          exact absurd cF (by decide)
        have hcl : FX7_readRowOrder fu 0 (-1) len nx ck cv pl bytes rows1 rl ro = some (0, 1, pl, nx, ck, cv, pl, rl, ro) := by
          unfold FX7_readRowOrder FX7_readRowOrder_J18
          rw [hS0, if_pos rfl, if_neg hck]
        rw [hcl, Option.bind_some]
        refine Or.inr ⟨1, pl, nx, ck, cv, pl, rl, ro, rowsR + 1, nx, pl, rs, rv, 0, -1, rm', ro', row_exit _ _ _ _ _ _ _ _ _ _ _ _, rfl, Or.inr ⟨rfl, rfl, rfl, rfl, b2⟩, hI.2.2.2.2.1, hI.2.2.2.2.2.2⟩
      · have cF1 : rowF rs rv = 1 := by
          unfold rowF at cF ⊢
          by_cases z1 : fX12_isSign_r 45 rs rv 0 = 0
          · rw [if_neg (show ¬ ¬ _ = (0 : Int32) from fun z => z z1)] at cF ⊢
            by_cases z2 : rs = 2
            · rw [if_neg (show ¬ ¬ rs = 2 from fun z => z z2)]
            · rw [if_pos z2] at cF
              exact absurd rfl cF
          · rw [if_pos z1]
        rw [cF1]
        rcases row_ord hfu hT hlen hL htk hR (by omega) rows1 p1 hrows hp1 hI rs' rowsR (f' + 1) with ⟨nx2, ck2, cv2, pl2, rs2, rv2, rl2, ro2, rm2, ro2', q2, e2, d1, d2, d3, d4, d5, d6⟩ | ⟨fa, fp, nx2, ck2, cv2, plc, rl2, ro2, nxR, plR, rsR, rvR, d1, d2, d3⟩
        · rw [d1, d2, Option.bind_some]
          obtain ⟨v3, hv3, hv4⟩ := dec_1 hv2 (by omega)
          rw [hv3]
          have g0 : 1 ≤ d := by omega
          rcases ih (d - 1) (Nat.sub_lt g0 Nat.one_pos) (f + 1) (f' + 1) (m + 1) v3 nx2 ck2 cv2 pl2 rs2 rv2 q2 e2 rl2 ro2 rm2 ro2' (by omega) (by omega) (by omega) (by omega) d3 d5 with ⟨a1, a2, a3, a4, a5, a6, a7, a8, a9, a10, a11, a12, a13, g1, g2, g3, g4, g5, g6, g7⟩ | h
          · exact Or.inl ⟨a1, a2, a3, a4, a5, a6, a7, a8, a9, a10, a11, a12, a13, g1, g2, g3, by omega, g5, by omega, g7⟩
          · exact Or.inr h
        · rw [d1, d2, Option.bind_some]
          exact Or.inr ⟨fa, fp, nx2, ck2, cv2, plc, rl2, ro2, rowsR, nxR, plR, rsR, rvR, fa, fp, rm', ro', row_exit _ _ _ _ _ _ _ _ _ _ _ _, rfl, Or.inl ⟨rfl, rfl, d3⟩, hI.2.2.2.2.1, hI.2.2.2.2.2.2⟩
    · have cF : rowF rs rv = 0 := by
        unfold rowF
        rcases hS with ⟨a1, a2, a3⟩ | ⟨a1, a2, a3, a4, a5⟩
        · rw [a2, if_neg (show ¬ ¬ (0 : Int32) = 0 by decide), if_pos (show ¬ rs = 2 by rw [b5]; decide)]
        · rw [b4] at a4
          exact absurd a4 (by decide)
      rw [cF, hf0, b1, if_pos (show ¬ (1 : Int32) = 0 by decide), if_pos (show (1 : Int32) = 0 ∨ (1 : Int32) = 1 from Or.inr rfl)]
      exact Or.inl ⟨nx, ck, cv, pl, rs, rv, rl, ro, rm', ro', q, e, m, rfl, rfl, htk, Nat.le_refl _, hI, Nat.le_refl _, by omega⟩
/-- a row LINE -/
theorem row_line (hfu : 10000 ≤ fu) (hT : tapeR bytes tape) (hlen : len.toInt = L) (hL : L ≤ 600) {nx ck cv pl rs rv : Int32} {q e : Nat} (htk : tkS L nx ck cv pl rs rv q e) (hck : ck = 1) {rows rowsR : Int32} {rsC rl ro rs' rm' ro' : Nat → Int32} {R : Nat} (hN : rowN rows rowsR rsC rl ro rs' rm' ro' R) (hR : R < 6) (p1 : Int32) (hp1 : p1.toInt = 6 + R) :
    ∃ (nx2 pl2 rs2 rv2 : Int32), FX12_next fu len nx pl rs rv tape = some (nx2, pl2, rs2, rv2) ∧
    ((∃ (nx' ck' cv' pl' rows' : Int32) (rsC' rl' ro2 : Nat → Int32) (rowsR' rsT rvT : Int32) (rs2' rm2' ro2' : Nat → Int32) (q' e' : Nat), FX7_readRowLine fu 0 (-1) len nx ck cv pl bytes rows rsC rl ro = some (1, 0, -1, nx', ck', cv', pl', rows', rsC', rl', ro2) ∧ FX12_rowLine fu p1 rowsR len nx2 pl2 rs2 rv2 0 (-1) tape rs' rm' ro' = some (rowsR', nx', pl', rsT, rvT, 0, -1, rs2', rm2', ro2') ∧ tkS L nx' ck' cv' pl' rsT rvT q' e' ∧ q < q' ∧ rowN rows' rowsR' rsC' rl' ro2 rs2' rm2' ro2' (R + 1) ∧ frmR rs' rm' ro' rs2' rm2' ro2') ∨
    (∃ (fa fp nx' ck' cv' plc rows' : Int32) (rsC' rl' ro2 : Nat → Int32) (rowsR' nxR plR rsR rvR faR fpR : Int32) (rs2' rm2' ro2' : Nat → Int32), FX7_readRowLine fu 0 (-1) len nx ck cv pl bytes rows rsC rl ro = some (0, fa, fp, nx', ck', cv', plc, rows', rsC', rl', ro2) ∧ FX12_rowLine fu p1 rowsR len nx2 pl2 rs2 rv2 0 (-1) tape rs' rm' ro' = some (rowsR', nxR, plR, rsR, rvR, faR, fpR, rs2', rm2', ro2') ∧ lateR fa fp plR rsR rvR faR fpR ∧ frmR rs' rm' ro' rs2' rm2' ro2')) := by
  have q0 := t_0
  have q1 := t_1
  have t6 : (6 : Int32).toInt = 6 := rfl
  have t9 : (9 : Int32).toInt = 9 := rfl
  obtain ⟨n1, n2, n3, n4⟩ := id hN
  subst n3
  have hi12 : pz_inb p1 12 = true := i_inb.mpr (by omega)
  have hp1n : p1.toNatClampNeg = 6 + R := by have := i_nat (a := p1) (by omega); omega
  have hri : pz_inb rowsR 6 = true := i_inb.mpr (by omega)
  have hrn : rowsR.toNatClampNeg = R := by have := i_nat (a := rowsR) (by omega); omega
  have hs1 := i_add rowsR 1 (by omega) (by omega)
  obtain ⟨nx2, ck2, cv2, pl2, rs2, rv2, q2, e2, c1, c2, c3, c4⟩ := tk_adv hfu hT hlen hL htk (by rw [hck]; decide)
  refine ⟨nx2, pl2, rs2, rv2, c2, ?_⟩
  have ht2 := c3.2.2.2.2.2
  obtain ⟨fu1, hfu1⟩ : ∃ g, fu = g + 1 := ⟨fu - 1, by omega⟩
  have fR : ∀ (x y : Int32), frmR rs' rm' ro' (upd rs' (6 + R) x) (upd rm' (6 + R) y) ro' := fun x y => ⟨fun i hi => ⟨up_ne rs' _ (by omega), up_ne rm' _ (by omega)⟩, fun i hi => rfl⟩
  have hbad : ∀ fa fp, ¬ fa = 0 → FX12_rowLine_L fu p1 len tape fu 1 rowsR nx2 pl2 rs2 rv2 fa fp (upd rs' (6 + R) 1) (upd rm' (6 + R) 0) ro' = some (rowsR + 1, nx2, pl2, rs2, rv2, fa, fp, upd rs' (6 + R) 1, upd rm' (6 + R) 0, ro') := by
    intro fa fp h
    rw [show FX12_rowLine_L fu p1 len tape fu = FX12_rowLine_L fu p1 len tape (fu1 + 1) from by rw [← hfu1], FX12_rowLine_L, if_neg (show ¬ (1 : Int32) = 0 by decide), if_pos h]
  unfold FX7_readRowLine FX12_rowLine
  rw [if_pos (show rowsR < 6 by rw [i_lt]; omega), c1, Option.bind_some]
  by_cases c3' : ck2 = 3
  case neg =>
    have hrs : ¬ rs2 = 2 := by
      rcases ht2 with ⟨h1, h2, h3⟩ | ⟨h1, h2, h3⟩ | ⟨h1, h2, h3⟩ | ⟨h1, h2, h3⟩ | ⟨h1, h2, h3⟩ | ⟨h1, h2⟩
      · rw [h3]; decide
      · rw [h2]; decide
      · rw [h2]; decide
      · exact absurd h1 c3'
      · rw [h2]; decide
      · rw [h2]; decide
    rw [num_none hrs, Option.bind_some, if_pos hi12, if_pos hi12, hp1n]
    refine Or.inr ⟨1, pl2, nx2, ck2, cv2, pl2, rowsR, rsC, rl, ro, _, _, _, _, _, _, _, _, _, _, ?_, hbad 1 pl2 (by decide), Or.inl ⟨rfl, rfl, by decide⟩, fR _ _⟩
    show (if ck2 = 3 then _ else _) = _
    rw [if_neg c3']
  have hrs : rs2 = 2 ∧ nuR cv2 rv2 := by
    rcases ht2 with ⟨h1, h2, h3⟩ | ⟨h1, h2, h3⟩ | ⟨h1, h2, h3⟩ | ⟨h1, h2, h3⟩ | ⟨h1, h2, h3⟩ | ⟨h1, h2⟩
    · rw [h1] at c3'; exact absurd c3' (by decide)
    · rw [h1] at c3'; exact absurd c3' (by decide)
    · rw [h1] at c3'; exact absurd c3' (by decide)
    · exact ⟨h2, h3⟩
    · rw [h1] at c3'; exact absurd c3' (by decide)
    · rw [h1] at c3'; exact absurd c3' (by decide)
  obtain ⟨r1, r2⟩ := hrs
  subst r1
  by_cases cr : ¬ cv2 < 1 ∧ cv2 ≤ 9
  case neg =>
    have hout : rv2 < 1 ∨ (9 : Int32) < rv2 := by
      rw [i_lt, i_le] at cr
      rw [i_lt, i_lt]
      rcases r2 with ⟨z1, z2, z3⟩ | ⟨z1, z2, z3⟩
      · rw [← z1]; omega
      · omega
    rw [num_out 1 9 nx2 pl2 rv2 hout, Option.bind_some, if_pos hi12, if_pos hi12, hp1n]
    refine Or.inr ⟨2, pl2, nx2, ck2, cv2, pl2, rowsR, rsC, rl, ro, _, _, _, _, _, _, _, _, _, _, ?_, hbad 2 pl2 (by decide), Or.inl ⟨rfl, rfl, by decide⟩, fR _ _⟩
    show (if ck2 = 3 then (if cv2 < 1 then _ else (if cv2 ≤ 9 then _ else _)) else _) = _
    rw [if_pos c3']
    by_cases g1 : cv2 < 1
    · rw [if_pos g1]
    · rw [if_neg g1, if_neg (fun z => cr ⟨g1, z⟩)]
  obtain ⟨cr1, cr2⟩ := cr
  have hcv : cv2 = rv2 := by
    rw [i_le] at cr2
    rcases r2 with ⟨z1, z2, z3⟩ | ⟨z1, z2, z3⟩
    · exact z1
    · rw [z1] at cr2; exact absurd cr2 (by decide)
  subst hcv
  rw [i_lt] at cr1
  have cr2' := cr2
  rw [i_le] at cr2'
  obtain ⟨nx3, ck3, cv3, pl3, rs3, rv3, q3, e3, g1, g2, g3, g4⟩ := tk_adv hfu hT hlen hL c3 (by rw [c3']; decide)
  rw [num_ok (by rw [i_lt]; exact cr1) cr2 g2, Option.bind_some, if_pos hi12, if_pos hi12, hp1n]
  have hadd : FX6_addRow fu cv2 rowsR rsC rl = some (rowsR + 1, upd rsC R cv2, upd rl R 0) := by
    unfold FX6_addRow
    rw [if_neg (show ¬ (6 : Int32) ≤ rowsR by rw [i_le]; omega), if_pos hri, if_pos hri, hrn]
  have hI : rowI R 0 rl ro rm' ro' (upd rl R 0) ro (upd rm' (6 + R) 0) ro' := ⟨by rw [up_eq]; rfl, by rw [up_eq, up_eq], fun k hk => absurd hk (by omega), fun i hi => up_ne rl _ (by omega), fun i hi => up_ne rm' _ (by omega), fun i hi => rfl, fun i hi => rfl⟩
  have hcl : (if ck2 = 3 then (if cv2 < 1 then (some ((0 : Int32), (2 : Int32), pl2, nx2, ck2, cv2, pl2, rowsR, rsC, rl, ro)) else (if cv2 ≤ 9 then ((FX6_addRow fu cv2 rowsR rsC rl).bind (fun y6z => (FX5_advance fu len nx2 ck2 cv2 pl2 bytes).bind (fun y7z => (FX7_readRowOrder fu 0 (-1) len y7z.1 y7z.2.1 y7z.2.2.1 y7z.2.2.2 bytes y6z.1 y6z.2.2 ro).bind (fun y8z => FX7_readRowLine_L fu len bytes fu y8z.1 (12 : Int32) y8z.2.1 y8z.2.2.1 y8z.2.2.2.1 y8z.2.2.2.2.1 y8z.2.2.2.2.2.1 y8z.2.2.2.2.2.2.1 y6z.1 y6z.2.1 y8z.2.2.2.2.2.2.2.1 y8z.2.2.2.2.2.2.2.2)))) else (some ((0 : Int32), (2 : Int32), pl2, nx2, ck2, cv2, pl2, rowsR, rsC, rl, ro)))) else (some ((0 : Int32), (1 : Int32), pl2, nx2, ck2, cv2, pl2, rowsR, rsC, rl, ro))) = ((FX7_readRowOrder fu 0 (-1) len nx3 ck3 cv3 pl3 bytes (rowsR + 1) (upd rl R 0) ro).bind (fun y8z => FX7_readRowLine_L fu len bytes fu y8z.1 (12 : Int32) y8z.2.1 y8z.2.2.1 y8z.2.2.2.1 y8z.2.2.2.2.1 y8z.2.2.2.2.2.1 y8z.2.2.2.2.2.2.1 (rowsR + 1) (upd rsC R cv2) y8z.2.2.2.2.2.2.2.1 y8z.2.2.2.2.2.2.2.2)) := by
    rw [if_pos c3', if_neg (by rw [i_lt]; exact cr1), if_pos cr2, hadd, Option.bind_some, g1, Option.bind_some]
  have hR1 : FX12_rowLine_L fu p1 len tape fu = FX12_rowLine_L fu p1 len tape (fu1 + 1) := by rw [← hfu1]
  rw [show FX12_rowLine_L fu p1 len tape fu 1 rowsR = FX12_rowLine_L fu p1 len tape (fu1 + 1) 1 rowsR from by rw [hR1]]
  rcases row_ord hfu hT hlen hL g3 hR (m := 0) (by omega) (rowsR + 1) p1 (by omega) hp1 hI (upd rs' (6 + R) cv2) rowsR fu1 with ⟨nx4, ck4, cv4, pl4, rs4, rv4, rl2, ro2, rm2, ro2', q4, e4, d1, d2, d3, d4, d5, d6⟩ | ⟨fa, fp, nx4, ck4, cv4, plc, rl2, ro2, nxR, plR, rsR, rvR, d1, d2, d3⟩
  · rw [d2]
    rcases row_loop hfu hT hlen hL hR (rowsR + 1) p1 (by omega) hp1 rl ro rm' ro' (upd rsC R cv2) (upd rs' (6 + R) cv2) rowsR 11 fu fu1 1 12 nx4 ck4 cv4 pl4 rs4 rv4 q4 e4 rl2 ro2 rm2 ro2' (by omega) rfl (by omega) (by omega) d3 d5 with ⟨nx5, ck5, cv5, pl5, rs5, rv5, rl5, ro5, rm5, ro5', q5, e5, m5, k1, k2, k3, k4, k5, k6, k7⟩ | ⟨fa, fp, nx5, ck5, cv5, plc, rl5, ro5, rowsR2, nxR, plR, rsR, rvR, faR, fpR, rm5, ro5', k1, k2, k3, k4, k5⟩
    · refine Or.inl ⟨nx5, ck5, cv5, pl5, rowsR + 1, upd rsC R cv2, rl5, ro5, rowsR + 1, rs5, rv5, upd rs' (6 + R) cv2, rm5, ro5', q5, e5, ?_, k2, k3, by omega, ?_, ?_⟩
      · refine hcl.trans ?_
        rw [d1, Option.bind_some]
        exact k1
      · obtain ⟨z1, z2, z3, z4, z5, z6, z7⟩ := k5
        refine ⟨by omega, by omega, rfl, ?_⟩
        intro r hr
        by_cases c : r = R
        · subst c
          rw [up_eq, up_eq]
          refine ⟨rfl, ⟨by omega, by omega⟩, z2, ⟨by omega, by omega⟩, ?_⟩
          intro k hk
          exact z3 k (by omega)
        · obtain ⟨y1, y2, y3, y4, y5⟩ := n4 r (by omega)
          rw [up_ne rsC _ c, up_ne rs' _ (by omega), z4 r (by omega), z5 (6 + r) (by omega)]
          refine ⟨y1, y2, y3, y4, ?_⟩
          intro k hk
          rw [z6 (12 * r + k) (by omega), z7 (12 * (6 + r) + k) (by omega)]
          exact y5 k hk
      · exact ⟨fun i hi => ⟨up_ne rs' _ (by omega), k5.2.2.2.2.1 i (by omega)⟩, fun i hi => k5.2.2.2.2.2.2 i (by omega)⟩
    · refine Or.inr ⟨fa, fp, nx5, ck5, cv5, plc, rowsR + 1, upd rsC R cv2, rl5, ro5, rowsR2, nxR, plR, rsR, rvR, faR, fpR, upd rs' (6 + R) cv2, rm5, ro5', ?_, k2, k3, ⟨fun i hi => ⟨up_ne rs' _ (by omega), k4 i (by omega)⟩, fun i hi => k5 i (by omega)⟩⟩
      refine hcl.trans ?_
      rw [d1, Option.bind_some]
      exact k1
  · rw [d2]
    refine Or.inr ⟨fa, fp, nx4, ck4, cv4, plc, rowsR + 1, upd rsC R cv2, rl2, ro2, rowsR, nxR, plR, rsR, rvR, fa, fp, upd rs' (6 + R) cv2, upd rm' (6 + R) 0, ro', ?_, rfl, Or.inl ⟨rfl, rfl, d3⟩, fR _ _⟩
    refine hcl.trans ?_
    rw [d1, Option.bind_some]
    rw [show FX7_readRowLine_L fu len bytes fu = FX7_readRowLine_L fu len bytes (fu1 + 1) from by rw [← hfu1]]
    exact row_exit _ _ _ _ _ _ _ _ _ _ _ _
end
