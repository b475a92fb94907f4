/-! ===== any LINE ===== -/
theorem oldF_trans {ks0 kv0 wf0 wt0 ot0 gn0 gf0 gt0 rs0 rm0 ro0 ks kv wf wt ot gn gf gt rsR rmR roR ks2 kv2 wf2 wt2 ot2 gn2 gf2 gt2 rs2 rm2 ro2 : Nat → Int32} (h : oldF ks0 kv0 wf0 wt0 ot0 gn0 gf0 gt0 rs0 rm0 ro0 ks kv wf wt ot gn gf gt rsR rmR roR) (h' : oldF ks kv wf wt ot gn gf gt rsR rmR roR ks2 kv2 wf2 wt2 ot2 gn2 gf2 gt2 rs2 rm2 ro2) : oldF ks0 kv0 wf0 wt0 ot0 gn0 gf0 gt0 rs0 rm0 ro0 ks2 kv2 wf2 wt2 ot2 gn2 gf2 gt2 rs2 rm2 ro2 := by
  obtain ⟨a1, a2, a3, a4, a5⟩ := h
  obtain ⟨b1, b2, b3, b4, b5⟩ := h'
  refine ⟨fun q hq => ⟨(b1 q hq).1.trans (a1 q hq).1, (b1 q hq).2.trans (a1 q hq).2⟩, fun q hq => ⟨(b2 q hq).1.trans (a2 q hq).1, (b2 q hq).2.1.trans (a2 q hq).2.1, (b2 q hq).2.2.trans (a2 q hq).2.2⟩, fun q hq => ⟨(b3 q hq).1.trans (a3 q hq).1, (b3 q hq).2.1.trans (a3 q hq).2.1, (b3 q hq).2.2.trans (a3 q hq).2.2⟩, fun q hq => ⟨(b4 q hq).1.trans (a4 q hq).1, (b4 q hq).2.trans (a4 q hq).2⟩, fun q hq => (b5 q hq).trans (a5 q hq)⟩
section
variable {fu : Nat} {len : Int32} {bytes tape : Nat → Int32} {L : Nat}
theorem line_eq (hfu : 10000 ≤ fu) (hT : tapeR bytes tape) (hlen : len.toInt = L) (hL : L ≤ 600) {q : Nat} {l : Nat} {og : Int32} {wtg : Int32} {opn : Int32} {ph : Int32} {hs : Int32} {nx : Int32} {ck : Int32} {cv : Int32} {pl : Int32} {Wa : (Nat → Int32)} {fr : (Nat → Int32)} {to : (Nat → Int32)} {ln : Int32} {wl : Int32} {gs : Int32} {rw : Int32} {c7 : Int32} {w7 : Int32} {k7 : (Nat → Int32)} {p7 : (Nat → Int32)} {c11 : Int32} {w11 : Int32} {k11 : (Nat → Int32)} {p11 : (Nat → Int32)} {st : (Nat → Int32)} {mi : (Nat → Int32)} {nm : (Nat → Int32)} {mt : (Nat → Int64)} {rs : (Nat → Int32)} {rl : (Nat → Int32)} {ro : (Nat → Int32)} {wN : Int32} {gN : Int32} {rN : Int32} {sN : Int32} {bN : Int32} {sf : Int32} {sto : Int32} {so : Int32} {va : Int32} {ks : (Nat → Int32)} {kv : (Nat → Int32)} {kp : (Nat → Int32)} {wf : (Nat → Int32)} {wt : (Nat → Int32)} {ot : (Nat → Int32)} {gn : (Nat → Int32)} {gf : (Nat → Int32)} {gt : (Nat → Int32)} {rsR : (Nat → Int32)} {rmR : (Nat → Int32)} {roR : (Nat → Int32)} {e : Nat} (htk : tkS L nx ck cv pl so va q e) (hN : lineN wl wN c7 w7 sN k7 st mi ks kv wf wt ot gs gN c11 w11 bN hs sf sto k11 p11 nm fr to kp gn gf gt rw rN rs rl ro rsR rmR roR)  : outL L q ks kv wf wt ot gn gf gt rsR rmR roR ln (FX7_readLine fu l og wtg opn ph hs 0 (-1) len nx ck cv pl bytes Wa fr to ln wl gs rw c7 w7 k7 p7 c11 w11 k11 p11 st mi nm mt rs rl ro) (FX12_line fu wN gN rN sN bN sf sto c7 c11 ln len nx pl so va 0 (-1) 0 tape ks kv kp wf wt ot gn gf gt rsR rmR roR) := by
  have z0 : ¬ (1 : Int32) = 0 := by decide
  have hz : ¬ ¬ (0 : Int32) = 0 := by decide
  have ht := htk.2.2.2.2.2
  by_cases hck : ck = 1
  case neg =>
    have hso : ¬ so = 0 := by
      rcases ht with ⟨h1, h2, h3⟩ | ⟨h1, h2, h3⟩ | ⟨h1, h2, h3⟩ | ⟨h1, h2, h3⟩ | ⟨h1, h2, h3⟩ | ⟨h1, h2⟩
      · rw [h3]; decide
      · exact absurd h1 hck
      · rw [h2]; decide
      · rw [h2]; decide
      · rw [h2]; decide
      · rw [h2]; decide
    have hw : ∀ k, fX12_isWord_r k so va 0 = 0 := by
      intro k
      unfold fX12_isWord_r
      rw [if_neg hz, if_pos hso]
    unfold FX7_readLine
    rw [if_pos hck]
    exact line_none 0 (by decide) (by decide) (by decide) (by decide) (by decide) (hw 0) (hw 9) (hw 1) (hw 2) (hw 3)
  obtain ⟨hso, i, hi, hcv, hva⟩ : so = 0 ∧ ∃ i : Nat, i < 12 ∧ cv = wcode i ∧ va = Int32.ofNat i := by
    rcases ht with ⟨h1, h2, h3⟩ | ⟨h1, h2, h3⟩ | ⟨h1, h2, h3⟩ | ⟨h1, h2, h3⟩ | ⟨h1, h2, h3⟩ | ⟨h1, h2⟩
    · rw [h1] at hck; exact absurd hck (by decide)
    · exact ⟨h2, h3⟩
    · rw [h1] at hck; exact absurd hck (by decide)
    · rw [h1] at hck; exact absurd hck (by decide)
    · rw [h1] at hck; exact absurd hck (by decide)
    · rw [h1] at hck; exact absurd hck (by decide)
  unfold FX7_readLine
  rw [if_neg (show ¬ ¬ ck = 1 from fun z => z hck)]
  have non : ∀ i, (i = 4 ∨ i = 5 ∨ i = 6 ∨ i = 7 ∨ i = 8 ∨ i = 10 ∨ i = 11) → (¬ wcode i = 240175104 ∧ ¬ wcode i = 308281344 ∧ ¬ wcode i = 620462080 ∧ ¬ wcode i = 638784512 ∧ ¬ wcode i = 780309888) ∧ fX12_isWord_r 0 0 (Int32.ofNat i) 0 = 0 ∧ fX12_isWord_r 9 0 (Int32.ofNat i) 0 = 0 ∧ fX12_isWord_r 1 0 (Int32.ofNat i) 0 = 0 ∧ fX12_isWord_r 2 0 (Int32.ofNat i) 0 = 0 ∧ fX12_isWord_r 3 0 (Int32.ofNat i) 0 = 0 := by
    intro i hi
    rcases hi with rfl | rfl | rfl | rfl | rfl | rfl | rfl <;> decide
  by_cases c0 : i = 0
  · subst c0
    have w0 : fX12_isWord_r 0 so va 0 = 1 := by rw [hso, hva]; decide
    have w1 : fX12_isWord_r 1 so va 0 = 0 := by rw [hso, hva]; decide
    have w2 : fX12_isWord_r 2 so va 0 = 0 := by rw [hso, hva]; decide
    have w3 : fX12_isWord_r 3 so va 0 = 0 := by rw [hso, hva]; decide
    apply outL_of
    · unfold FX7_readLine_J22
      rewrite [if_neg (show ¬ cv = 240175104 by rw [hcv]; decide), if_pos (show cv = 308281344 by rw [hcv]; decide)]
      exact rfl
    · unfold FX12_line FX12_line_J17 FX12_line_J22
      rewrite [w0, if_pos z0, if_pos z0]
      exact rfl
    · exact line_wheel hfu hT hlen hL htk hck hN w1 w2 w3
  by_cases c9 : i = 9
  · subst c9
    have w0 : fX12_isWord_r 0 so va 0 = 0 := by rw [hso, hva]; decide
    have w9 : fX12_isWord_r 9 so va 0 = 1 := by rw [hso, hva]; decide
    have w1 : fX12_isWord_r 1 so va 0 = 0 := by rw [hso, hva]; decide
    have w2 : fX12_isWord_r 2 so va 0 = 0 := by rw [hso, hva]; decide
    have w3 : fX12_isWord_r 3 so va 0 = 0 := by rw [hso, hva]; decide
    apply outL_of
    · unfold FX7_readLine_J22
      rewrite [if_neg (show ¬ cv = 240175104 by rw [hcv]; decide), if_neg (show ¬ cv = 308281344 by rw [hcv]; decide), if_neg (show ¬ cv = 620462080 by rw [hcv]; decide), if_neg (show ¬ cv = 638784512 by rw [hcv]; decide), if_pos (show cv = 780309888 by rw [hcv]; decide)]
      exact rfl
    · unfold FX12_line
      rewrite [w0, if_neg hz, w9, if_neg z0]
      unfold FX12_line_J17 FX12_line_J22
      rewrite [if_pos z0]
      exact rfl
    · exact line_wheel hfu hT hlen hL htk hck hN w1 w2 w3
  by_cases c1 : i = 1
  · subst c1
    have w0 : fX12_isWord_r 0 so va 0 = 0 := by rw [hso, hva]; decide
    have w9 : fX12_isWord_r 9 so va 0 = 0 := by rw [hso, hva]; decide
    have w1 : fX12_isWord_r 1 so va 0 = 1 := by rw [hso, hva]; decide
    have w2 : fX12_isWord_r 2 so va 0 = 0 := by rw [hso, hva]; decide
    have w3 : fX12_isWord_r 3 so va 0 = 0 := by rw [hso, hva]; decide
    apply outL_of
    · exact rfl
    · unfold FX12_line
      rewrite [w0, if_neg hz, w9, if_pos rfl]
      unfold FX12_line_J22
      rewrite [if_neg hz, w1, if_pos z0]
      exact rfl
    · exact line_gear hfu hT hlen hL htk hck hN (by rw [hcv]; decide) w1 w2 w3
  by_cases c2 : i = 2
  · subst c2
    have w0 : fX12_isWord_r 0 so va 0 = 0 := by rw [hso, hva]; decide
    have w9 : fX12_isWord_r 9 so va 0 = 0 := by rw [hso, hva]; decide
    have w1 : fX12_isWord_r 1 so va 0 = 0 := by rw [hso, hva]; decide
    have w2 : fX12_isWord_r 2 so va 0 = 1 := by rw [hso, hva]; decide
    have w3 : fX12_isWord_r 3 so va 0 = 0 := by rw [hso, hva]; decide
    apply outL_of
    · exact rfl
    · unfold FX12_line
      rewrite [w0, if_neg hz, w9, if_pos rfl]
      unfold FX12_line_J22
      rewrite [if_neg hz, w1, if_neg hz, w2, if_pos z0]
      exact rfl
    · exact line_safe hfu hT hlen hL htk hck hN (by rw [hcv]; decide) w1 w2 w3
  by_cases c3 : i = 3
  · subst c3
    have w0 : fX12_isWord_r 0 so va 0 = 0 := by rw [hso, hva]; decide
    have w9 : fX12_isWord_r 9 so va 0 = 0 := by rw [hso, hva]; decide
    have w1 : fX12_isWord_r 1 so va 0 = 0 := by rw [hso, hva]; decide
    have w2 : fX12_isWord_r 2 so va 0 = 0 := by rw [hso, hva]; decide
    have w3 : fX12_isWord_r 3 so va 0 = 1 := by rw [hso, hva]; decide
    apply outL_of
    · exact rfl
    · unfold FX12_line
      rewrite [w0, if_neg hz, w9, if_pos rfl]
      unfold FX12_line_J22
      rewrite [if_neg hz, w1, if_neg hz, w2, if_neg hz, w3, if_pos z0]
      exact rfl
    · exact line_row hfu hT hlen hL htk hck hN (by rw [hcv]; decide) w1 w2 w3
  obtain ⟨⟨v1, v2, v3, v4, v5⟩, u0, u9, u1, u2, u3⟩ := non i (by omega)
  rw [hso, hva]
  exact line_none cv (by rw [hcv]; exact v1) (by rw [hcv]; exact v2) (by rw [hcv]; exact v3) (by rw [hcv]; exact v4) (by rw [hcv]; exact v5) u0 u9 u1 u2 u3
end
