/-! ===== a gear LINE ===== -/
def segG (K : Nat → Int32) (a b : Int32) (w : Nat) : Prop := 0 ≤ a.toInt ∧ a.toInt ≤ b.toInt ∧ b.toInt ≤ w ∧ ∃ e, run_ok K (b.toNatClampNeg - a.toNatClampNeg) a.toNatClampNeg 0 = some e
def gearN (gears gearsR cnt wr bits hasSafe sf sto : Int32) (K pls names froms tos ks kv kp gname gfrom gto : Nat → Int32) (G w : Nat) : Prop := gears.toInt = G ∧ G ≤ 6 ∧ gearsR = gears ∧ wr.toInt = w ∧ cnt.toInt = w ∧ bits.toInt = w ∧ w ≤ 64 ∧ (∀ i, i < w → KnB ks kv kp i (K i) (pls i)) ∧ (∀ g, g < G → gname (6 + g) = names g ∧ gfrom (6 + g) = froms g ∧ gto (6 + g) = tos g ∧ segG K (froms g) (tos g) w) ∧ ((hasSafe = 0 ∧ sf = -1) ∨ (hasSafe = 1 ∧ sf = froms 6 ∧ sto = tos 6 ∧ segG K (froms 6) (tos 6) w))
theorem segG_ext {K K' : Nat → Int32} {a b : Int32} {w w' : Nat} (h : segG K a b w) (hw : w ≤ w') (hK : ∀ i, i < w → K' i = K i) : segG K' a b w' := by
  obtain ⟨h1, h2, h3, e, h4⟩ := h
  have n1 := i_nat (a := a) (by omega)
  have n2 := i_nat (a := b) (by omega)
  exact ⟨h1, h2, by omega, e, by rw [run_congr (K := K') (K' := K) _ _ 0 (fun i i1 i2 => hK i (by omega))]; exact h4⟩
def frmG (gname gfrom gto gname' gfrom' gto' : Nat → Int32) : Prop := ∀ q, q < 6 → gname' q = gname q ∧ gfrom' q = gfrom q ∧ gto' q = gto q
section
variable {fu : Nat} {len : Int32} {bytes tape : Nat → Int32} {L : Nat}
theorem found6_L {gears : Int32} {names gname : Nat → Int32} {G : Nat} (p : Int32) (hg : gears.toInt = G) (hG : G ≤ 6) (hn : ∀ k, k < G → gname (6 + k) = names k) : ∀ (n k f f' : Nat) (x : Int32), k + n = G → x.toInt = k → n < f → n < f' → ∃ v, FX6_gearOf_L fu p gears names f x = some v ∧ FX12_found_L fu 6 gears p 12 gname f' x = some v ∧ (v = -1 ∨ (0 ≤ v.toInt ∧ v.toInt < G)) := by
  have q1 := t_1
  have t6 : (6 : Int32).toInt = 6 := rfl
  intro n
  induction n with
  | zero =>
    intro k f f' x hk hx hf hf'
    obtain ⟨f, rfl⟩ : ∃ g, f = g + 1 := ⟨f - 1, by omega⟩
    obtain ⟨f', rfl⟩ : ∃ g, f' = g + 1 := ⟨f' - 1, by omega⟩
    rw [FX6_gearOf_L, FX12_found_L, if_pos (by rw [i_le]; omega), if_pos (by rw [i_le]; omega)]
    exact ⟨_, rfl, rfl, Or.inl rfl⟩
  | succ n ih =>
    intro k f f' x hk hx hf hf'
    obtain ⟨f, rfl⟩ : ∃ g, f = g + 1 := ⟨f - 1, by omega⟩
    obtain ⟨f', rfl⟩ : ∃ g, f' = g + 1 := ⟨f' - 1, by omega⟩
    have h0 := i_add 6 x (by omega) (by omega)
    have hs := i_add x 1 (by omega) (by omega)
    have hi : pz_inb x 6 = true := i_inb.mpr (by omega)
    have hi2 : pz_inb (6 + x) 12 = true := i_inb.mpr (by omega)
    have hnn : x.toNatClampNeg = k := by have := i_nat (a := x) (by omega); omega
    have hn6 : (6 + x).toNatClampNeg = 6 + k := by have := i_nat (a := 6 + x) (by omega); omega
    rw [FX6_gearOf_L, FX12_found_L, if_neg (show ¬ gears ≤ x by rw [i_le]; omega), if_neg (show ¬ gears ≤ x by rw [i_le]; omega), if_pos hi, if_pos hi2, hnn, hn6, hn k (by omega)]
    by_cases g : names k = p
    · rw [if_neg (show ¬ ¬ names k = p from fun z => z g), if_neg (show ¬ ¬ names k = p from fun z => z g)]
      exact ⟨x, rfl, rfl, Or.inr ⟨by omega, by omega⟩⟩
    · rw [if_pos g, if_pos g]
      exact ih (k + 1) f f' (x + 1) (by omega) (by omega) (by omega) (by omega)
theorem gear_found6 (hfu : 1000 ≤ fu) {gears : Int32} {names gname : Nat → Int32} {G : Nat} (p : Int32) (hg : gears.toInt = G) (hG : G ≤ 6) (hn : ∀ k, k < G → gname (6 + k) = names k) : ∃ v, FX6_gearOf fu p gears names = some v ∧ FX12_found fu 6 gears p 12 gname = some v ∧ (v = -1 ∨ (0 ≤ v.toInt ∧ v.toInt < G)) := by
  unfold FX6_gearOf FX12_found
  exact found6_L p hg hG hn G 0 fu fu 0 (by omega) rfl (by omega) (by omega)
theorem gear_line (hfu : 10000 ≤ fu) (hT : tapeR bytes tape) (hlen : len.toInt = L) (hL : L ≤ 600) {nx ck cv pl rs rv : Int32} {q e : Nat} (htk : tkS L nx ck cv pl rs rv q e) (hck : ck = 1) (l0 : Nat) (og wtg opn ph : Int32) (Wa : Nat → Int32) {gears gearsR cnt wr bits hasSafe sf sto : Int32} {K pls names froms tos ks kv kp gname gfrom gto : Nat → Int32} {mayT : Nat → Int64} {G w : Nat} (hN : gearN gears gearsR cnt wr bits hasSafe sf sto K pls names froms tos ks kv kp gname gfrom gto G w) (hG : G < 6) (p1 : Int32) (hp1 : p1.toInt = 6 + G) :
    ∃ (nx2 pl2 rs2 rv2 : Int32), FX12_next fu len nx pl rs rv tape = some (nx2, pl2, rs2, rv2) ∧
    ((∃ (l' : Nat) (og' wtg' opn' ph' nx' ck' cv' pl' : Int32) (Wa' froms' tos' : Nat → Int32) (gears' cnt' wr' : Int32) (K' pls' names' : Nat → Int32) (mayT' : Nat → Int64) (gearsR' bits' rs' rv' : Int32) (ks' kv' kp' gname' gfrom' gto' : Nat → Int32) (q' e' w' : Nat), FX7_readGearLine fu l0 og wtg opn ph 0 (-1) len nx ck cv pl bytes Wa froms tos gears cnt wr K pls names mayT = some (1, l', og', wtg', opn', ph', 0, -1, nx', ck', cv', pl', Wa', froms', tos', gears', cnt', wr', K', pls', names', mayT') ∧ FX12_gearLine fu p1 gearsR bits cnt len nx2 pl2 rs2 rv2 0 (-1) 0 tape ks kv kp gname gfrom gto = some (gearsR', bits', cnt', nx', pl', rs', rv', 0, -1, 0, ks', kv', kp', gname', gfrom', gto') ∧ tkS L nx' ck' cv' pl' rs' rv' q' e' ∧ q < q' ∧ gearN gears' gearsR' cnt' wr' bits' hasSafe sf sto K' pls' names' froms' tos' ks' kv' kp' gname' gfrom' gto' (G + 1) w' ∧ frmB w ks kv kp ks' kv' kp' ∧ frmG gname gfrom gto gname' gfrom' gto') ∨
    (∃ (l' : Nat) (og' wtg' opn' ph' fa fp nx' ck' cv' plc : Int32) (Wa' froms' tos' : Nat → Int32) (gears' cnt' wr' : Int32) (K' pls' names' : Nat → Int32) (mayT' : Nat → Int64) (gearsR' bits' cntR nxR pl' rs' rv' opR : Int32) (ks' kv' kp' gname' gfrom' gto' : Nat → Int32), FX7_readGearLine fu l0 og wtg opn ph 0 (-1) len nx ck cv pl bytes Wa froms tos gears cnt wr K pls names mayT = some (0, l', og', wtg', opn', ph', fa, fp, nx', ck', cv', plc, Wa', froms', tos', gears', cnt', wr', K', pls', names', mayT') ∧ FX12_gearLine fu p1 gearsR bits cnt len nx2 pl2 rs2 rv2 0 (-1) 0 tape ks kv kp gname gfrom gto = some (gearsR', bits', cntR, nxR, pl', rs', rv', fa, fp, opR, ks', kv', kp', gname', gfrom', gto') ∧ ¬ fa = 0 ∧ frmB w ks kv kp ks' kv' kp' ∧ frmG gname gfrom gto gname' gfrom' gto')) := by
  have t6 : (6 : Int32).toInt = 6 := rfl
  have q1 := t_1
  obtain ⟨n1, n2, n3, n4, n5, n6, n7, n8, n9, n10⟩ := id hN
  subst n3
  have hi12 : pz_inb p1 12 = true := i_inb.mpr (by omega)
  have hp1n : p1.toNatClampNeg = 6 + G := by have := i_nat (a := p1) (by omega); omega
  have hgi7 : pz_inb gearsR 7 = true := i_inb.mpr (by omega)
  have hgi6 : pz_inb gearsR 6 = true := i_inb.mpr (by omega)
  have hgn : gearsR.toNatClampNeg = G := by have := i_nat (a := gearsR) (by omega); omega
  have hs1 := i_add gearsR 1 (by omega) (by omega)
  have hck0 : ¬ ck = 0 := by rw [hck]; decide
  obtain ⟨nx2, ck2, cv2, pl2, rs2, rv2, q2, e2, c1, c2, c3, c4⟩ := tk_adv hfu hT hlen hL htk hck0
  refine ⟨nx2, pl2, rs2, rv2, c2, ?_⟩
  have ht2 := c3.2.2.2.2.2
  have J42f : ∀ fa fp, ¬ fa = 0 → FX12_gearLine_J42 fu p1 len tape gearsR bits cnt nx2 pl2 rs2 rv2 fa fp 0 ks kv kp gname gfrom gto = some (gearsR, bits, cnt, nx2, pl2, rs2, rv2, fa, fp, 0, ks, kv, kp, gname, gfrom, gto) := by
    intro fa fp h
    unfold FX12_gearLine_J42
    rw [if_neg h]
  unfold FX7_readGearLine FX12_gearLine
  rw [if_pos (show gearsR < 6 by rw [i_lt]; omega), c1, Option.bind_some]
  by_cases k2 : ck2 = 2
  case neg =>
    have hrs : ¬ rs2 = 1 := by
      rcases ht2 with ⟨h1, h2, h3⟩ | ⟨h1, h2, h3⟩ | ⟨h1, h2, h3⟩ | ⟨h1, h2, h3⟩ | ⟨h1, h2, h3⟩ | ⟨h1, h2⟩
      · rw [h3]; decide
      · rw [h2]; decide
      · exact absurd h1 k2
      · rw [h2]; decide
      · rw [h2]; decide
      · rw [h2]; decide
    rw [if_neg hrs]
    have e1 : fX12_wrong_f0_37 1 0 = 1 := rfl
    have e2 : fX12_wrong_f0_38 pl2 0 (-1) = pl2 := rfl
    rw [e1, e2, J42f 1 pl2 (by decide)]
    refine Or.inr ⟨l0, og, wtg, opn, ph, 1, pl2, nx2, ck2, cv2, pl2, Wa, froms, tos, gearsR, cnt, wr, K, pls, names, mayT, gearsR, bits, cnt, nx2, pl2, rs2, rv2, 0, ks, kv, kp, gname, gfrom, gto, ?_, rfl, by decide, frmB_refl _ _ _ _, fun i hi => ⟨rfl, rfl, rfl⟩⟩
    show (if ck2 = 2 then _ else _) = _
    rw [if_neg k2]
  have hrs : rs2 = 1 ∧ cv2 = rv2 ∧ 0 ≤ cv2.toInt := by
    rcases ht2 with ⟨h1, h2, h3⟩ | ⟨h1, h2, h3⟩ | ⟨h1, h2, h3, h4⟩ | ⟨h1, h2, h3⟩ | ⟨h1, h2, h3⟩ | ⟨h1, h2⟩
    · rw [h1] at k2; exact absurd k2 (by decide)
    · rw [h1] at k2; exact absurd k2 (by decide)
    · exact ⟨h2, h3, h4⟩
    · rw [h1] at k2; exact absurd k2 (by decide)
    · rw [h1] at k2; exact absurd k2 (by decide)
    · rw [h1] at k2; exact absurd k2 (by decide)
  obtain ⟨r1, r2, r3⟩ := hrs
  obtain ⟨v, f1, f2, f3⟩ := gear_found6 (fu := fu) (by omega) cv2 n1 (by omega) (gname := gname) (fun k hk => (n9 k hk).1)
  rw [if_pos r1, ← r2, f2, Option.bind_some]
  show (∃ (l' : Nat) (og' wtg' opn' ph' nx' ck' cv' pl' : Int32) (Wa' froms' tos' : Nat → Int32) (gears' cnt' wr' : Int32) (K' pls' names' : Nat → Int32) (mayT' : Nat → Int64) (gearsR' bits' rs' rv' : Int32) (ks' kv' kp' gname' gfrom' gto' : Nat → Int32) (q' e' w' : Nat), (if ck2 = 2 then ((FX6_gearOf fu cv2 gearsR names).bind _) else _) = _ ∧ _) ∨ (∃ (l' : Nat) (og' wtg' opn' ph' fa fp nx' ck' cv' plc : Int32) (Wa' froms' tos' : Nat → Int32) (gears' cnt' wr' : Int32) (K' pls' names' : Nat → Int32) (mayT' : Nat → Int64) (gearsR' bits' cntR nxR pl' rs' rv' opR : Int32) (ks' kv' kp' gname' gfrom' gto' : Nat → Int32), (if ck2 = 2 then ((FX6_gearOf fu cv2 gearsR names).bind _) else _) = _ ∧ _)
  rw [if_pos k2, f1, Option.bind_some]
  by_cases kv1 : v = -1
  case neg =>
    rw [if_neg kv1, if_neg kv1]
    have e1 : fX12_wrong_f0_37 3 0 = 3 := rfl
    have e2 : fX12_wrong_f0_38 pl2 0 (-1) = pl2 := rfl
    rw [r2] at *
    rw [e1, e2, J42f 3 pl2 (by decide)]
    exact Or.inr ⟨l0, og, wtg, opn, ph, 3, pl2, nx2, ck2, rv2, pl2, Wa, froms, tos, gearsR, cnt, wr, K, pls, names, mayT, gearsR, bits, cnt, nx2, pl2, rs2, rv2, 0, ks, kv, kp, gname, gfrom, gto, rfl, rfl, by decide, frmB_refl _ _ _ _, fun i hi => ⟨rfl, rfl, rfl⟩⟩
  rw [if_pos kv1, if_pos kv1]
  have hadd : FX6_addGear fu cv2 gearsR names mayT = some (gearsR + 1, upd names G cv2, vp_updL mayT G (-1)) := by
    unfold FX6_addGear
    rw [if_neg (show ¬ 6 ≤ gearsR by rw [i_le]; omega), if_pos hgi6, if_pos hgi6, hgn]
  obtain ⟨nx3, ck3, cv3, pl3, rs3, rv3, q3, e3, d1, d2, d3, d4⟩ := tk_adv hfu hT hlen hL c3 (by rw [k2]; decide)
  have ht3 := d3.2.2.2.2.2
  rw [hadd, Option.bind_some]
  show (∃ (l' : Nat) (og' wtg' opn' ph' nx' ck' cv' pl' : Int32) (Wa' froms' tos' : Nat → Int32) (gears' cnt' wr' : Int32) (K' pls' names' : Nat → Int32) (mayT' : Nat → Int64) (gearsR' bits' rs' rv' : Int32) (ks' kv' kp' gname' gfrom' gto' : Nat → Int32) (q' e' w' : Nat), (FX5_advance fu len nx2 ck2 cv2 pl2 bytes).bind _ = _ ∧ _) ∨ (∃ (l' : Nat) (og' wtg' opn' ph' fa fp nx' ck' cv' plc : Int32) (Wa' froms' tos' : Nat → Int32) (gears' cnt' wr' : Int32) (K' pls' names' : Nat → Int32) (mayT' : Nat → Int64) (gearsR' bits' cntR nxR pl' rs' rv' opR : Int32) (ks' kv' kp' gname' gfrom' gto' : Nat → Int32), (FX5_advance fu len nx2 ck2 cv2 pl2 bytes).bind _ = _ ∧ _)
  rw [d1, Option.bind_some, if_pos hgi7, if_pos hgi7, hgn]
  unfold FX12_gearLine_J42
  rw [← r2] at d2
  rw [if_pos rfl, if_pos hi12, d2, Option.bind_some, if_pos hi12, hp1n]
  have hfG : ∀ (x y z : Int32), frmG gname gfrom gto (upd gname (6 + G) x) (upd gfrom (6 + G) y) (upd gto (6 + G) z) := fun x y z i hi => ⟨up_ne gname _ (by omega), up_ne gfrom _ (by omega), up_ne gto _ (by omega)⟩
  have hbw : bits = wr := i_eq.mpr (by omega)
  -- the new GEAR
  have newN : ∀ {cnt' wr' bits' : Int32} {K' pls' ks' kv' kp' : Nat → Int32} {w' : Nat}, wr'.toInt = w' → cnt'.toInt = w' → bits'.toInt = w' → w ≤ w' → w' ≤ 64 → (∀ i, i < w' → KnB ks' kv' kp' i (K' i) (pls' i)) → (∀ i, i < w → K' i = K i) → segG K' wr wr' w' → ∀ tos', tos' = upd tos G wr' → gearN (gearsR + 1) (gearsR + 1) cnt' wr' bits' hasSafe sf sto K' pls' (upd names G cv2) (upd froms G wr) tos' ks' kv' kp' (upd gname (6 + G) cv2) (upd gfrom (6 + G) bits) (upd gto (6 + G) bits') (G + 1) w' := by
    intro cnt' wr' bits' K' pls' ks' kv' kp' w' a1 a2 a3 a4 a5 a6 a7 a8 tos' htos
    subst htos
    refine ⟨by omega, by omega, rfl, a1, a2, a3, a5, a6, fun g hg => ?_, ?_⟩
    · by_cases z : g = G
      · subst z
        rw [up_eq, up_eq, up_eq, up_eq, up_eq, up_eq]
        exact ⟨rfl, hbw, i_eq.mpr (by omega), a8⟩
      · rw [up_ne gname _ (by omega), up_ne gfrom _ (by omega), up_ne gto _ (by omega), up_ne names _ z, up_ne froms _ z, up_ne tos _ z]
        obtain ⟨z1, z2, z3, z4⟩ := n9 g (by omega)
        exact ⟨z1, z2, z3, segG_ext z4 a4 a7⟩
    · rw [up_ne froms _ (show ¬ 6 = G by omega), up_ne tos _ (show ¬ 6 = G by omega)]
      rcases n10 with ⟨z1, z2⟩ | ⟨z1, z2, z3, z4⟩
      · exact Or.inl ⟨z1, z2⟩
      · exact Or.inr ⟨z1, z2, z3, segG_ext z4 a4 a7⟩
  have h308 : (308281344 : Int32) = wcode 0 := rfl
  rw [h308]
  rcases atW ht3 (i := 0) (by omega) with ⟨b1, b2, b3⟩ | ⟨b1, b2, b3, b4, b5, b6⟩
  · have b2' : fX12_isWord_r 0 rs3 rv3 0 = 0 := b2
    refine Or.inl ⟨l0, og, wtg, opn, ph, nx3, ck3, cv3, pl3, Wa, upd froms G wr, upd tos G wr, gearsR + 1, cnt, wr, K, pls, upd names G cv2, vp_updL mayT G (-1), gearsR + 1, bits, rs3, rv3, ks, kv, kp, upd gname (6 + G) cv2, upd gfrom (6 + G) bits, upd gto (6 + G) bits, q3, e3, w, ?_, ?_, d3, by omega, newN n4 n5 n6 (Nat.le_refl _) n7 n8 (fun i hi => rfl) ⟨by omega, Int.le_refl _, by omega, 0, by rw [Nat.sub_self, run_zero]⟩ _ rfl, frmB_refl _ _ _ _, hfG _ _ _⟩
    · show (if ¬ fX7_atWord_r (wcode 0) ck3 cv3 = 0 then _ else _) = _
      rw [b1, if_neg (show ¬ ¬ (0 : Int32) = 0 by decide)]
    · show (if fX12_isWord_r 0 rs3 rv3 0 = 0 then _ else _) = _
      rw [if_pos b2']
      unfold FX12_gearLine_J90
      rw [if_pos hi12, hp1n]
  · have b2' : fX12_isWord_r 0 rs3 rv3 0 = 1 := b2
    obtain ⟨nx4, ck4, cv4, pl4, rs4, rv4, q4, e4, g1, g2, g3, g4⟩ := tk_adv hfu hT hlen hL d3 (by rw [b3]; decide)
    rcases either_eq hfu hT hlen hL g3 Wa n5 n4 n6 n7 K pls ks kv kp n8 with ⟨wt', nx', ck', cv', pl', W', cnt', wr', K', pls', sums', rs', rv', ks', kv', kp', q', e', w', i1, i2, i3, i4, i5, i6, i7, i8, i9, i10, i11, i12, i13⟩ | ⟨sums', cnt', nx', pl', rs', rv', fa, fp, op', ks', kv', kp', i1, i2, i3, i4⟩
    · have m1 := i_nat (a := wr) (by omega)
      have m2 := i_nat (a := wr') (by omega)
      refine Or.inl ⟨pz_rn [0, 1, 2, 3, 7, 8, 9] [4, 5, 6, 506, l0] 12 4, 1, wt', 0, 3, nx', ck', cv', pl', W', upd froms G wr, upd (upd tos G wr) G wr', gearsR + 1, cnt', wr', K', pls', upd names G cv2, vp_updL mayT G (-1), gearsR + 1, sums', rs', rv', ks', kv', kp', upd gname (6 + G) cv2, upd gfrom (6 + G) bits, upd gto (6 + G) sums', q', e', w', ?_, ?_, i3, by omega, newN i5 i6 i7 (by omega) i9 i10 i11 ⟨by omega, by omega, by omega, 1, by rw [show wr.toNatClampNeg = w by omega, show wr'.toNatClampNeg = w' by omega]; exact i13.2.2⟩ _ ?_, i12, hfG _ _ _⟩
      · show (if ¬ fX7_atWord_r (wcode 0) ck3 cv3 = 0 then (FX5_advance fu len nx3 ck3 cv3 pl3 bytes).bind _ else _) = _
        rw [b1, if_pos (show ¬ (1 : Int32) = 0 by decide), g1, Option.bind_some]
        show (FX7_readExpression fu 1 0 (-1) len nx4 ck4 cv4 pl4 bytes Wa cnt wr K pls).bind _ = _
        rw [i1, Option.bind_some]
        show (if ¬ (1 : Int32) = 0 then (if pz_inb gearsR 7 = true then _ else none) else _) = _
        rw [if_pos (show ¬ (1 : Int32) = 0 by decide), if_pos hgi7]
      · show (if fX12_isWord_r 0 rs3 rv3 0 = 0 then _ else (FX12_next fu len nx3 pl3 rs3 rv3 tape).bind _) = _
        rw [b2', if_neg (show ¬ (1 : Int32) = 0 by decide), g2, Option.bind_some]
        show (FX12_eitherW fu bits cnt len nx4 pl4 rs4 rv4 0 (-1) 0 tape ks kv kp).bind _ = _
        rw [i2, Option.bind_some]
        unfold FX12_gearLine_J90
        rw [if_pos hi12, hp1n]
      · funext i
        unfold upd
        by_cases z : i = G
        · rw [if_pos z, if_pos z]
        · rw [if_neg z, if_neg z, if_neg z]
    · obtain ⟨x1, x2, x3, x4, x5, x6, x7, x8, x9, x10, x11, x12, hcf⟩ := i3
      refine Or.inr ⟨pz_rn [0, 1, 2, 3, 7, 8, 9] [4, 5, 6, 506, l0] 12 4, 1, x1, x2, x3, fa, fp, x4, x5, x6, x7, x8, upd froms G wr, upd tos G wr, gearsR + 1, x9, x10, x11, x12, upd names G cv2, vp_updL mayT G (-1), gearsR + 1, sums', cnt', nx', pl', rs', rv', op', ks', kv', kp', upd gname (6 + G) cv2, upd gfrom (6 + G) bits, upd gto (6 + G) sums', ?_, ?_, i2, i4, hfG _ _ _⟩
      · show (if ¬ fX7_atWord_r (wcode 0) ck3 cv3 = 0 then (FX5_advance fu len nx3 ck3 cv3 pl3 bytes).bind _ else _) = _
        rw [b1, if_pos (show ¬ (1 : Int32) = 0 by decide), g1, Option.bind_some]
        show (FX7_readExpression fu 1 0 (-1) len nx4 ck4 cv4 pl4 bytes Wa cnt wr K pls).bind _ = _
        rw [hcf, Option.bind_some]
        rfl
      · show (if fX12_isWord_r 0 rs3 rv3 0 = 0 then _ else (FX12_next fu len nx3 pl3 rs3 rv3 tape).bind _) = _
        rw [b2', if_neg (show ¬ (1 : Int32) = 0 by decide), g2, Option.bind_some]
        show (FX12_eitherW fu bits cnt len nx4 pl4 rs4 rv4 0 (-1) 0 tape ks kv kp).bind _ = _
        rw [i1, Option.bind_some]
        unfold FX12_gearLine_J90
        rw [if_pos hi12, hp1n]
end
