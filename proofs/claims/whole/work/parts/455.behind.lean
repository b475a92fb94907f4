/-! ===== the class behind an operand ===== -/
section
variable {fu : Nat} {g : Int32} {wt op ck cv pl : Int32} {W : Nat → Int32} {cnt wr : Int32} {K pls : Nat → Int32} {Kn : Nat → Int32 → Int32 → Prop} {s P : List Int32} {w : Nat}
/-- the pile: P above s, what is written, what is counted -/
def pileOk (Kn : Nat → Int32 → Int32 → Prop) (W : Nat → Int32) (wt op cnt wr : Int32) (K pls : Nat → Int32) (s P : List Int32) (w : Nat) : Prop := pileR W (P ++ s) wt.toInt.toNat ∧ 0 ≤ wt.toInt ∧ wr.toInt = w ∧ cnt.toInt = w + P.length + nsg s ∧ cnt.toInt ≤ 64 ∧ op.toInt = nop s ∧ nop s ≤ 8 ∧ (∀ c, c ∈ P → 1 ≤ rk c) ∧ (∀ i, i < w → Kn i (K i) (pls i)) ∧ outR Kn w P
theorem pile_72 (h : pileOk Kn W wt op cnt wr K pls s P w) : (P ++ s).length ≤ 72 ∧ wt.toInt = ((P ++ s).length : Int) ∧ w + P.length ≤ 64 := by
  obtain ⟨h1, h2, h3, h4, h5, h6, h7, h8, h9, h10⟩ := h
  have e := pile_len _ _ h1
  have := nsg_nop s
  rw [List.length_append] at e ⊢
  omega
theorem pop_P (hfu : 1000 ≤ fu) (h : pileOk Kn W wt op cnt wr K pls s P w) (r : Int32) (hP : ∀ c, c ∈ P → r.toInt ≤ rk c) (hs : topLt r.toInt s) : ∃ (wt' wr' : Int32) (K' pls' : Nat → Int32), FX7_writeWaiting fu r wt pl W wr K pls = some (wt', wr', K', pls') ∧ pileOk Kn W wt' op cnt wr' K' pls' s [] (w + P.length) ∧ wt'.toInt = s.length ∧ (∀ i, i < w → K' i = K i) ∧ (∀ w0, net K w0 w P → net K' w0 (w + P.length) []) := by
  obtain ⟨l1, l2, l3⟩ := pile_72 h
  obtain ⟨h1, h2, h3, h4, h5, h6, h7, h8, h9, h10⟩ := h
  unfold FX7_writeWaiting
  obtain ⟨wt', wr', K', pls', e1, e2, e3, e4, e5, e6, e7⟩ := pop_L fu (Kn := Kn) r pl W s hs P fu w wt wr K pls h1 h2 l1 h3 l3 hP (by omega) h9 h10
  exact ⟨wt', wr', K', pls', e1, ⟨e3, by omega, e4, by rw [List.length_nil]; omega, h5, h6, h7, fun c hc => absurd hc (List.not_mem_nil), e5, trivial⟩, e2, e6, e7⟩
/-- a ')' that closes -/
theorem bo_close (hfu : 1000 ≤ fu) (ha : ¬ fX7_atSign_r (-20) ck cv = 0) (h : pileOk Kn W wt op cnt wr K pls (-19 :: s) P w) : ∃ (wt' wr' : Int32) (K' pls' : Nat → Int32), FX7_goOnBehindOperand fu g wt op 2 0 (-1) ck cv pl W cnt wr K pls = some (1, wt', op - 1, 2, 0, -1, W, cnt, wr', K', pls') ∧ pileOk Kn W wt' (op - 1) cnt wr' K' pls' s [] (w + P.length) ∧ (∀ i, i < w → K' i = K i) ∧ (∀ w0, net K w0 w P → net K' w0 (w + P.length) []) := by
  have q0 := t_0
  have q1 := t_1
  obtain ⟨wt', wr', K', pls', e1, e2, e3, e4, e5⟩ := pop_P (pl := pl) hfu h 1 (fun c hc => by rw [q1]; exact h.2.2.2.2.2.2.2.1 c hc) (by show rk (-19) < 1; decide)
  have hop : 1 ≤ op.toInt := by
    have h6 := h.2.2.2.2.2.1
    rw [nop, if_pos rfl] at h6
    omega
  obtain ⟨f1, f2, f3, f4, f5, f6, f7, f8, f9, f10⟩ := e2
  rw [List.nil_append] at f1
  obtain ⟨k, k1, k2, k3⟩ := f1
  have hl := pile_len _ _ k3
  have h72 := (pile_72 h).1
  rw [List.length_append, List.length_cons] at h72
  have hs1 := i_sub wt' 1 (by omega) (by omega)
  have hs2 := i_sub op 1 (by omega) (by
    rw [nop, if_pos rfl] at f6 f7
    omega)
  refine ⟨wt' - 1, wr', K', pls', ?_, ⟨?_, by omega, f3, ?_, f5, ?_, ?_, f8, f9, trivial⟩, e4, e5⟩
  · unfold FX7_goOnBehindOperand FX7_closeOne FX7_closeOne_J22
    rw [if_neg ha, if_neg (show ¬ op ≤ 0 by rw [i_le]; omega), e1, Option.bind_some, if_neg (show ¬ wt' ≤ 0 by rw [i_le]; omega), Option.bind_some]
    show (if (1 : Int32) = 0 ∨ (1 : Int32) = 1 then _ else _) = _
    rw [if_pos (Or.inr rfl)]
  · rw [List.nil_append, show (wt' - 1).toInt.toNat = k by omega]; exact k3
  · rw [List.length_nil, nsg, if_pos rfl] at f4
    rw [List.length_nil]
    omega
  · rw [nop, if_pos rfl] at f6
    omega
  · rw [nop, if_pos rfl] at f7
    omega
/-- behind the last operand -/
theorem bo_end (hfu : 1000 ≤ fu) (ha : fX7_atSign_r (-20) ck cv = 0 ∨ op.toInt = 0) (hr : rk (fX7_signHere_r g ck cv) = 0) (h : pileOk Kn W wt op cnt wr K pls s P w) : (op.toInt = 0 → topLt 1 s → ∃ (wt' wr' : Int32) (K' pls' : Nat → Int32), FX7_goOnBehindOperand fu g wt op 2 0 (-1) ck cv pl W cnt wr K pls = some (1, wt', op, 3, 0, -1, W, cnt, wr', K', pls') ∧ pileOk Kn W wt' op cnt wr' K' pls' s [] (w + P.length) ∧ (∀ i, i < w → K' i = K i) ∧ (∀ w0, net K w0 w P → net K' w0 (w + P.length) [])) ∧ (0 < op.toInt → FX7_goOnBehindOperand fu g wt op 2 0 (-1) ck cv pl W cnt wr K pls = some (0, wt, op, 2, 1, pl, W, cnt, wr, K, pls)) := by
  have q0 := t_0
  have q1 := t_1
  have hr0 : ¬ ¬ fX2_rank_r (fX7_signHere_r g ck cv) = 0 := fun z => z (i_eq.mpr hr)
  have e : FX7_goOnBehindOperand fu g wt op 2 0 (-1) ck cv pl W cnt wr K pls = FX7_goOnBehindOperand_J21 fu g ck cv pl wt op 2 0 (-1) W cnt wr K pls := by
    unfold FX7_goOnBehindOperand
    by_cases c : fX7_atSign_r (-20) ck cv = 0
    · rw [if_pos c]
    · rw [if_neg c]
      rcases ha with z | z
      · exact absurd z c
      · rw [if_pos (show op ≤ 0 by rw [i_le]; omega)]
  rw [e]
  unfold FX7_goOnBehindOperand_J21 FX7_endExpression
  rw [if_neg hr0]
  constructor
  · intro h0 hs
    obtain ⟨wt', wr', K', pls', e1, e2, e3, e4, e5⟩ := pop_P (pl := pl) hfu h 1 (fun c hc => by rw [q1]; exact h.2.2.2.2.2.2.2.1 c hc) (by rw [q1]; exact hs)
    refine ⟨wt', wr', K', pls', ?_, e2, e4, e5⟩
    rw [if_pos (show op ≤ 0 by rw [i_le]; omega), e1, Option.bind_some, Option.bind_some]
    show (if (1 : Int32) = 0 ∨ (1 : Int32) = 1 then _ else _) = _
    rw [if_pos (Or.inr rfl)]
  · intro h0
    rw [if_neg (show ¬ op ≤ 0 by rw [i_le]; omega), Option.bind_some]
    show (if (0 : Int32) = 0 ∨ (0 : Int32) = 1 then _ else _) = _
    rw [if_pos (Or.inl rfl)]
/-- the phase behind a sign -/
def phS (sg : Int32) : Int32 := if sg = -8 ∨ sg = -7 then 0 else 1
theorem j83 (hfu : 1000 ≤ fu) (sg r : Int32) (hsg : ¬ sg = -19) (h : pileOk Kn W wt op cnt wr K pls s P w) (hP : ∀ c, c ∈ P → r.toInt ≤ rk c) (hs : topLt r.toInt s) : (cnt.toInt < 64 → ∃ (wt' wr' : Int32) (W' K' pls' : Nat → Int32), FX7_goOnBehindOperand_J83 fu pl sg r wt op 2 0 (-1) W cnt wr K pls = some (1, wt', op, phS sg, 0, -1, W', cnt + 1, wr', K', pls') ∧ pileOk Kn W' wt' op (cnt + 1) wr' K' pls' (sg :: s) [] (w + P.length) ∧ (∀ i, i < w → K' i = K i) ∧ (∀ w0, net K w0 w P → net K' w0 (w + P.length) [])) ∧ (cnt.toInt = 64 → ∃ c', FX7_goOnBehindOperand_J83 fu pl sg r wt op 2 0 (-1) W cnt wr K pls = some (0, wt, op, 2, 2, pl, W, c', wr, K, pls)) := by
  have q1 := t_1
  obtain ⟨a1, a2⟩ := add_one (cnt := cnt)
  unfold FX7_goOnBehindOperand_J83
  constructor
  · intro h64
    obtain ⟨wt', wr', K', pls', e1, e2, e3, e4, e5⟩ := pop_P (pl := pl) hfu h r hP hs
    have h72 := (pile_72 e2).1
    rw [List.nil_append] at h72
    have hlen : s.length < 72 := by
      have h4 := h.2.2.2.1
      have h7 := h.2.2.2.2.2.2.1
      have := nsg_nop s
      omega
    have hs1 := i_add wt' 1 (by omega) (by omega)
    have h4' := h.2.2.2.1
    have hc1 := i_add cnt 1 (by omega) (by omega)
    have hpo : ∀ ph, FX7_putOff fu sg ph wt' W = some (1, wt' + 1, ph, upd W s.length sg) := fun ph => put_off fu sg ph wt' W e3 hlen
    refine ⟨wt' + 1, wr', upd W s.length sg, K', pls', ?_, ?_, e4, e5⟩
    · rw [(a1 h64).1, (a1 h64).2, if_pos (show ¬ (1 : Int32) = 0 by decide), e1, Option.bind_some]
      unfold phS
      show (if sg = -8 then (FX7_putOff fu sg 0 wt' W).bind _ else (if ¬ sg = -7 then (FX7_putOff fu sg 1 wt' W).bind _ else (FX7_putOff fu sg 0 wt' W).bind _)) = _
      rw [hpo 0, hpo 1, Option.bind_some, Option.bind_some]
      by_cases c1 : sg = -8
      · rw [if_pos c1, if_pos (Or.inl c1)]
        show (if (1 : Int32) = 0 ∨ (1 : Int32) = 1 then _ else _) = _
        rw [if_pos (Or.inr rfl)]
      · rw [if_neg c1]
        by_cases c2 : sg = -7
        · rw [if_neg (show ¬ ¬ sg = -7 from fun z => z c2), if_pos (Or.inr c2)]
          show (if (1 : Int32) = 0 ∨ (1 : Int32) = 1 then _ else _) = _
          rw [if_pos (Or.inr rfl)]
        · rw [if_pos c2, if_neg (show ¬ (sg = -8 ∨ sg = -7) from fun z => z.elim c1 c2)]
          show (if (1 : Int32) = 0 ∨ (1 : Int32) = 1 then _ else _) = _
          rw [if_pos (Or.inr rfl)]
    · obtain ⟨f1, f2, f3, f4, f5, f6, f7, f8, f9, f10⟩ := e2
      rw [List.nil_append] at f1
      rw [show wt'.toInt.toNat = s.length by omega] at f1
      refine ⟨?_, by omega, f3, ?_, by omega, ?_, ?_, f8, f9, trivial⟩
      · rw [List.nil_append, show (wt' + 1).toInt.toNat = s.length + 1 by omega]
        exact pile_push f1 sg
      · rw [nsg, if_neg hsg]
        rw [List.length_nil] at f4 ⊢
        omega
      · rw [nop, if_neg hsg]; omega
      · rw [nop, if_neg hsg]; omega
  · intro h64
    rw [a2 h64, if_neg (show ¬ ¬ (0 : Int32) = 0 by decide)]
    exact ⟨_, rfl⟩
/-- a sign behind an operand that goes on -/
theorem bo_sign (hfu : 1000 ≤ fu) (ha : fX7_atSign_r (-20) ck cv = 0) (hr : rk (fX7_signHere_r g ck cv) = 1 ∨ rk (fX7_signHere_r g ck cv) = 2 ∨ rk (fX7_signHere_r g ck cv) = 4 ∨ rk (fX7_signHere_r g ck cv) = 5 ∨ rk (fX7_signHere_r g ck cv) = 6) (h : pileOk Kn W wt op cnt wr K pls s P w) (hP : ∀ c, c ∈ P → rk (fX7_signHere_r g ck cv) ≤ rk c ∧ (rk (fX7_signHere_r g ck cv) = 4 → 5 ≤ rk c)) (hs : topLt (rk (fX7_signHere_r g ck cv)) s) : (cnt.toInt < 64 → ∃ (wt' wr' : Int32) (W' K' pls' : Nat → Int32), FX7_goOnBehindOperand fu g wt op 2 0 (-1) ck cv pl W cnt wr K pls = some (1, wt', op, phS (fX7_signHere_r g ck cv), 0, -1, W', cnt + 1, wr', K', pls') ∧ pileOk Kn W' wt' op (cnt + 1) wr' K' pls' (fX7_signHere_r g ck cv :: s) [] (w + P.length) ∧ (∀ i, i < w → K' i = K i) ∧ (∀ w0, net K w0 w P → net K' w0 (w + P.length) [])) ∧ (cnt.toInt = 64 → ∃ wt' op' c' wr' K' pls', FX7_goOnBehindOperand fu g wt op 2 0 (-1) ck cv pl W cnt wr K pls = some (0, wt', op', 2, 2, pl, W, c', wr', K', pls')) := by
  have q0 := t_0
  have q1 := t_1
  have t4 : (4 : Int32).toInt = 4 := rfl
  generalize hsg : fX7_signHere_r g ck cv = sg at *
  have hn19 : ¬ sg = -19 := by
    intro z
    rw [z] at hr
    have : rk (-19) = 0 := rfl
    omega
  have hn0 : ¬ fX2_rank_r sg = 0 := fun z => by
    have := i_eq.mp z
    have e : rk sg = (fX2_rank_r sg).toInt := rfl
    omega
  have e0 : FX7_goOnBehindOperand fu g wt op 2 0 (-1) ck cv pl W cnt wr K pls = FX7_goOnBehindOperand_J21 fu g ck cv pl wt op 2 0 (-1) W cnt wr K pls := by
    unfold FX7_goOnBehindOperand
    rw [if_pos ha]
  rw [e0]
  unfold FX7_goOnBehindOperand_J21
  rw [hsg, if_pos hn0]
  by_cases c4 : rk sg = 4
  · have hc4 : fX2_rank_r sg = 4 := i_eq.mpr c4
    rw [if_neg (show ¬ ¬ fX2_rank_r sg = 4 from fun z => z hc4), hc4]
    have e5 : ((4 : Int32) + 1).toInt = 5 := rfl
    obtain ⟨wt', wr', K', pls', e1, e2, e3, e4, e6⟩ := pop_P (pl := pl) hfu h (4 + 1) (fun c hc => by rw [e5]; exact (hP c hc).2 c4) (by
      rw [e5]
      cases s with
      | nil => trivial
      | cons c s =>
        have : rk c < rk sg := hs
        show rk c < 5
        omega)
    obtain ⟨j1, j2⟩ := j83 (pl := pl) hfu sg 4 hn19 e2 (fun c hc => absurd hc (List.not_mem_nil)) (by rw [t4, ← c4]; exact hs)
    have hstep : ((FX7_writeWaiting fu (4 + 1) wt pl W wr K pls).bind (fun y14z => if y14z.1 ≤ 0 then (FX7_goOnBehindOperand_J83 fu pl sg 4 y14z.1 op 2 0 (-1) W cnt y14z.2.1 y14z.2.2.1 y14z.2.2.2) else (if pz_inb (y14z.1 - 1) 72 = true then (if ¬ (fX2_rank_r (W (y14z.1 - 1).toNatClampNeg)) = 4 then (FX7_goOnBehindOperand_J83 fu pl sg 4 y14z.1 op 2 0 (-1) W cnt y14z.2.1 y14z.2.2.1 y14z.2.2.2) else (some ((0 : Int32), y14z.1, op, 2, (1 : Int32), pl, W, cnt, y14z.2.1, y14z.2.2.1, y14z.2.2.2))) else none))) = FX7_goOnBehindOperand_J83 fu pl sg 4 wt' op 2 0 (-1) W cnt wr' K' pls' := by
      rw [e1, Option.bind_some]
      show (if wt' ≤ 0 then _ else _) = _
      by_cases c : wt' ≤ 0
      · rw [if_pos c]
      · rw [if_neg c]
        rw [i_le] at c
        have hp := e2.1
        rw [List.nil_append] at hp
        cases s with
        | nil => rw [List.length_nil] at e3; omega
        | cons x s =>
          obtain ⟨k, k1, k2, k3⟩ := hp
          have h72 := (pile_72 e2).1
          rw [List.nil_append] at h72
          have hs1 := i_sub wt' 1 (by omega) (by omega)
          have hi : pz_inb (wt' - 1) 72 = true := i_inb.mpr (by omega)
          have hn : (wt' - 1).toNatClampNeg = k := by have := i_nat (a := wt' - 1) (by omega); omega
          have hx : rk x < rk sg := hs
          have hne : ¬ fX2_rank_r x = 4 := fun z => by
            have := i_eq.mp z
            have e : rk x = (fX2_rank_r x).toInt := rfl
            omega
          show (if pz_inb (wt' - 1) 72 = true then (if ¬ fX2_rank_r (W (wt' - 1).toNatClampNeg) = 4 then _ else _) else none) = _
          rw [if_pos hi, hn, k2, if_pos hne]
    rw [hstep]
    constructor
    · intro h64
      obtain ⟨a, b, c, d, e, k1, k2, k3, k4⟩ := j1 h64
      rw [List.length_nil, Nat.add_zero] at k2 k4
      exact ⟨a, b, c, d, e, k1, k2, fun i hi => by rw [k3 i (by omega), e4 i hi], fun w0 hw => k4 w0 (e6 w0 hw)⟩
    · intro h64
      obtain ⟨c', k⟩ := j2 h64
      exact ⟨_, _, _, _, _, _, k⟩
  · have hc4 : ¬ fX2_rank_r sg = 4 := fun z => c4 (i_eq.mp z)
    rw [if_pos hc4]
    obtain ⟨j1, j2⟩ := j83 (pl := pl) hfu sg (fX2_rank_r sg) hn19 h (fun c hc => (hP c hc).1) hs
    refine ⟨j1, fun h64 => ?_⟩
    obtain ⟨c', k⟩ := j2 h64
    exact ⟨_, _, _, _, _, _, k⟩
/-- a second comparison -/
theorem bo_stuck (hfu : 1000 ≤ fu) (ha : fX7_atSign_r (-20) ck cv = 0) (hr : rk (fX7_signHere_r g ck cv) = 4) {A B : List Int32} {c : Int32} (h : pileOk Kn W wt op cnt wr K pls (c :: (B ++ s)) A w) (hA : ∀ x, x ∈ A → 5 ≤ rk x) (hc : rk c = 4) : ∃ wt' wr' K' pls', FX7_goOnBehindOperand fu g wt op 2 0 (-1) ck cv pl W cnt wr K pls = some (0, wt', op, 2, 1, pl, W, cnt, wr', K', pls') := by
  have q0 := t_0
  have q1 := t_1
  generalize hsg : fX7_signHere_r g ck cv = sg at *
  have hc4 : fX2_rank_r sg = 4 := i_eq.mpr hr
  have e5 : ((4 : Int32) + 1).toInt = 5 := rfl
  obtain ⟨wt', wr', K', pls', e1, e2, e3, e4, e6⟩ := pop_P (pl := pl) hfu h (4 + 1) (fun x hx => by rw [e5]; exact hA x hx) (by rw [e5]; show rk c < 5; omega)
  have hp := e2.1
  rw [List.nil_append] at hp
  obtain ⟨k, k1, k2, k3⟩ := hp
  have h72 := (pile_72 e2).1
  rw [List.nil_append] at h72
  have hs1 := i_sub wt' 1 (by omega) (by omega)
  have hi : pz_inb (wt' - 1) 72 = true := i_inb.mpr (by omega)
  have hn : (wt' - 1).toNatClampNeg = k := by have := i_nat (a := wt' - 1) (by omega); omega
  have hce : fX2_rank_r c = 4 := i_eq.mpr hc
  refine ⟨wt', wr', K', pls', ?_⟩
  unfold FX7_goOnBehindOperand FX7_goOnBehindOperand_J21
  rw [if_pos ha, hsg, hc4, if_pos (show ¬ (4 : Int32) = 0 by decide), if_neg (show ¬ ¬ (4 : Int32) = 4 by decide), e1, Option.bind_some]
  show (if wt' ≤ 0 then _ else (if pz_inb (wt' - 1) 72 = true then (if ¬ fX2_rank_r (W (wt' - 1).toNatClampNeg) = 4 then _ else _) else none)) = _
  rw [if_neg (show ¬ wt' ≤ 0 by rw [i_le]; omega), if_pos hi, hn, k2, hce, if_neg (show ¬ ¬ (4 : Int32) = 4 by decide)]
end
