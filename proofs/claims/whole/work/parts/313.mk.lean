/-! ===== for use: methods that make cells ===== -/
section
variable {M M' : pz_M} {d mc ms n0 : Nat} {Post : Option Value → pz_H → Prop} {pc : Nat} {ls : pz_L} {st : List Value} {h : pz_H} {k n : Nat}
theorem pz_rv2 (hM : pz_okM M = true) (i : Nat) {inf : List Nat} {cv : Value} (hi : pz_at M.2.2.2.2 i = some (pc, .return_, 1, inf, cv)) (hr : M.2.2.2.1 = none) (hk : k ≤ mc) (hn : n ≤ ms) (hp : Post none h) : pz_W M d mc ms n0 Post pc ls [] h k n :=
  pz_vret (pz_dec hM i hi) hr hk hn hp
/-- a constructor, with one end -/
theorem pz_ci {d' mc' ms' np idx b0 : Nat} {host : String} {hs hs2 : pz_H} {rest0 asc : List Value} {inf : List Nat} {cv : Value} (hM : pz_okM M = true) (i : Nat) (hi : pz_at M.2.2.2.2 i = some (pc, .invokespecial idx, 3, inf, cv)) (hlk : Cond.methodLink M.1.cls idx M'.1 ∈ pz_gw ∨ Cond.methodLinkNest M.1.cls idx M'.1 host ∈ pz_nw) (hcv : pz_CI M' np) (σ : List Nat) (hT : pz_T M' d' mc' ms' (.ref b0 :: asc) hs (fun r h => r = none ∧ h = hs2)) (hdd : d' + 1 ≤ d) (hnp : asc.length = np)
    (hpk : pz_pick h σ = some (hs.map (pz_rc (pz_rn σ [] h.length)))) (hnd : va_nd σ = true) (hl1 : σ.length ≤ 500) (hfr : pz_fresh h.length ls rest0 h = true) (hrs : (rest0.map fun v => v.category).sum ≤ 8) (hst : ((.ref b0 :: asc).map (pz_v (pz_rn σ [] h.length))).reverse ++ rest0 = st)
    (hlen : hs2.length ≤ 500 ∧ h.length + (hs2.length - hs.length) ≤ 500) {k2 n2 : Nat} (hk : k + mc' = k2) (hn : n + ms' = n2) (hk2 : k2 ≤ mc) (hn2 : n2 ≤ ms) {h2 : pz_H} (hh : pz_back h σ (hs2.map (pz_rc (pz_rn σ [] h.length))) = h2) (hw : pz_W M d mc ms n0 Post (pc + 3) ls rest0 h2 k2 n2) : pz_W M d mc ms n0 Post pc ls st h k n := by
  subst hst hk hn hh
  refine pz_callI hlk hcv (pz_dec hM i hi) hT σ hdd hnp ⟨hpk, hnd, hl1, by decide⟩ hfr hrs ?_ hk2 hn2
  rintro r hs' ⟨rfl, rfl⟩
  exact ⟨hlen, hw⟩
end
