/-! ===== the helm that is kept ===== -/
theorem helm_use {fu : Nat} {wl w7 gs rw c7 c11 : Int32} {k7 st mi nm : Nat → Int32} {mt : Nat → Int64} {sT : Int64} {rs rl ro : Nat → Int32} {wheels gears rows sums bits sf0 sto0 : Int32} {ks kv wf wt ot gn gf gt rsR rmR roR : Nat → Int32} (hfu : 1000 ≤ fu) (h : helmR fu wl w7 gs rw c7 c11 k7 st mi nm mt sT rs rl ro wheels gears rows sums bits sf0 sto0 ks kv wf wt ot gn gf gt rsR rmR roR) : ∃ W G R, whAll wl w7 k7 st mi ks kv wf wt ot W ∧ rowRel rw rs rl ro rsR rmR roR R ∧ gearRel fu gs nm mt sT gn gf gt sf0 sto0 ks kv G ∧ wheels = wl ∧ gears = gs ∧ rows = rw ∧ sums = c7 ∧ bits = c11 := by
  obtain ⟨W, G, R, ⟨h1, _⟩, h2, ⟨g1, g2, g3, g4, g5⟩, h4⟩ := h
  refine ⟨W, G, R, h1, h2, ⟨g1, g2, g3, fun g hg => tabI_rel hfu (g4 g hg), ?_⟩, h4⟩
  rcases g5 with z | ⟨z1, z2⟩
  · exact Or.inl z
  · exact Or.inr ⟨z1, tabI_rel hfu z2⟩
theorem helm_old {fu : Nat} {wl w7 gs rw c7 c11 : Int32} {k7 st mi nm : Nat → Int32} {mt : Nat → Int64} {sT : Int64} {rs rl ro : Nat → Int32} {wheels gears rows sums bits sf0 sto0 : Int32} {ks kv wf wt ot gn gf gt rsR rmR roR : Nat → Int32} {ks2 kv2 wf2 wt2 ot2 gn2 gf2 gt2 rs2 rm2 ro2 : Nat → Int32} (h : helmR fu wl w7 gs rw c7 c11 k7 st mi nm mt sT rs rl ro wheels gears rows sums bits sf0 sto0 ks kv wf wt ot gn gf gt rsR rmR roR) (hF : oldF ks kv wf wt ot gn gf gt rsR rmR roR ks2 kv2 wf2 wt2 ot2 gn2 gf2 gt2 rs2 rm2 ro2) : helmR fu wl w7 gs rw c7 c11 k7 st mi nm mt sT rs rl ro wheels gears rows sums bits sf0 sto0 ks2 kv2 wf2 wt2 ot2 gn2 gf2 gt2 rs2 rm2 ro2 := by
  obtain ⟨W, G, R, ⟨⟨w1, w2, w3, w4, w5⟩, w6⟩, ⟨r1, r2, r3⟩, ⟨g1, g2, g3, g4, g5⟩, h4⟩ := h
  obtain ⟨f1, f2, f3, f4, f5⟩ := hF
  refine ⟨W, G, R, ⟨⟨w1, w2, w3, ?_, ?_⟩, w6⟩, ⟨r1, r2, ?_⟩, ⟨g1, g2, ?_, ?_, ?_⟩, h4⟩
  · intro k hk
    rw [(f1 k (by omega)).1, (f1 k (by omega)).2]
    exact w4 k hk
  · intro l hl
    have z := w5 l hl
    unfold whRel at z ⊢
    rw [(f2 l (by omega)).1, (f2 l (by omega)).2.1, (f2 l (by omega)).2.2]
    exact z
  · intro r hr
    obtain ⟨z1, z2, z3, z4, z5⟩ := r3 r hr
    rw [(f4 r (by omega)).1, (f4 r (by omega)).2]
    refine ⟨z1, z2, z3, z4, ?_⟩
    intro k hk
    rw [f5 (12 * r + k) (by omega)]
    exact z5 k hk
  · intro k hk
    rw [(f3 k (by omega)).1]
    exact g3 k hk
  · intro g hg
    rw [(f3 g (by omega)).2.1, (f3 g (by omega)).2.2]
    exact tabI_ext (g4 g hg) f1
  · rcases g5 with z | ⟨z1, z2⟩
    · exact Or.inl z
    · exact Or.inr ⟨z1, tabI_ext z2 f1⟩
