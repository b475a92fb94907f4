/-! ===== for use: methods that make cells ===== -/
section
variable {M M' : pz_M} {d mc ms n0 : Nat} {Post : Option Value → pz_H → Prop} {pc : Nat} {ls : pz_L} {st : List Value} {h : pz_H} {k n : Nat}
theorem pz_rv2 (hM : pz_okM M = true) (i : Nat) {inf : List Nat} {cv : Value} (hi : pz_at M.2.2.2.2 i = some (pc, .return_, 1, inf, cv)) (hr : M.2.2.2.1 = none) (hk : k ≤ mc) (hn : n ≤ ms) (hp : Post none h) : pz_W M d mc ms n0 Post pc ls [] h k n :=
  pz_vret (pz_dec hM i hi) hr hk hn hp
/-- a constructor, with one end -/
theorem pz_ci {d' mc' ms' np idx b0 : Nat} {host : String} {hs hs2 : pz_H} {rest0 asc : List Value} {inf : List Nat} {cv : Value} (hM : pz_okM M = true) (i : Nat) (hi : pz_at M.2.2.2.2 i = some (pc, .invokespecial idx, 3, inf, cv)) (hlk : Cond.methodLink M.1.cls idx M'.1 ∈ pz_gw ∨ Cond.methodLinkNest M.1.cls idx M'.1 host ∈ pz_nw) (hcv : pz_CI M' np) (σ : List Nat) (hT : pz_T M' d' mc' ms' (.ref b0 :: asc) hs (fun r h => r = none ∧ h = hs2)) (hdd : d' + 1 ≤ d) (hnp : asc.length = np)
    (hpk : pz_pick h σ = some (hs.map (pz_rc (pz_rn σ [] h.length)))) (hnd : va_nd σ = true) (hl1 : σ.length ≤ 500) (hfr : pz_fresh h.length ls rest0 h = true) (hrs : (rest0.map fun v => v.category).sum ≤ 8) (hst : ((.ref b0 :: asc).map (pz_v (pz_rn σ [] h.length))).reverse ++ rest0 = st)
    (hlen : hs2.length ≤ 500 ∧ h.length + (hs2.length - hs.length) ≤ 500) {k2 n2 : Nat} (hk : k + mc' = k2) (hn : n + ms' = n2) (hk2 : k2 ≤ mc) (hn2 : n2 ≤ ms) {h2 : pz_H} (hh : pz_back h σ (hs2.map (pz_rc (pz_rn σ [] h.length))) = h2) (hw : pz_W M d mc ms n0 Post (pc + 3) ls rest0 h2 k2 n2) : pz_W M d mc ms n0 Post pc ls st h k n := by
  subst hst hk hn hh
  refine pz_callI hlk hcv (pz_dec hM i hi) hT σ hdd hnp ⟨hpk, hnd, hl1, by decide⟩ hfr hrs ?_ hk2 hn2
  rintro r hs' ⟨rfl, rfl⟩
  exact ⟨hlen, hw⟩
end
/-- a call of an instance's method, with the number of cells told -/
theorem pz_cvn {M M' : pz_M} {d n0 : Nat} {Post Post' : Option Value → pz_H → Prop} {pc : Nat} {ls : pz_L} {st : List Value} {h : pz_H} {d' np idx : Nat} {hs : pz_H} {rest0 asc : List Value} {b0 ci : Nat} {fs : List Value} {q : vw_C} {inf : List Nat} {cv : Value} (hM : pz_okM M = true) (i : Nat) (hi : pz_at M.2.2.2.2 i = some (pc, .invokevirtual idx, 3, inf, cv)) (hlk : Cond.methodLink M.1.cls idx M'.1 ∈ pz_gw) (hcv : pz_CV M' np) (n : Nat) (hn : h.length = n) (σ δ : List Nat) (hT : pz_T M' d' 0 0 (.ref b0 :: asc) hs Post') (hdd : d' + 1 ≤ d) (hnp : asc.length = np) (hcl : vwCl[ci]? = some q) (hcq : q.1 = M'.1.cls) (hb : pz_at hs b0 = some (.inr (ci, fs)))
    (hpk : pz_pick h σ = some (hs.map (pz_rc (pz_rn σ δ n)))) (hnd : va_nd σ = true) (hl1 : σ.length ≤ 500) (hl2 : δ.length ≤ 500) (hrs : (rest0.map fun v => v.category).sum ≤ 8) (hst : ((.ref b0 :: asc).map (pz_v (pz_rn σ δ n))).reverse ++ rest0 = st)
    (hw : ∀ r hs', Post' r hs' → hs'.length = hs.length ∧ pz_W M d 0 0 n0 Post (pc + 3) ls ((r.map (pz_v (pz_rn σ δ n))).toList ++ rest0) (pz_back h σ (hs'.map (pz_rc (pz_rn σ δ n)))) 0 0) : pz_W M d 0 0 n0 Post pc ls st h 0 0 := by
  subst hn
  exact pz_cv hM i hi hlk hcv σ δ hT hdd hnp hcl hcq hb hpk hnd hl1 hl2 hrs hst hw
/-! ===== many cells at once ===== -/
def pz_lk (j : Nat) (d : pz_C) : List Nat → List pz_C → pz_C
  | i :: σ, c :: cs => match Nat.beq i j with
    | true => c
    | false => pz_lk j d σ cs
  | _, _ => d
def pz_bk (σ : List Nat) (cs : List pz_C) : Nat → pz_H → pz_H
  | _, [] => []
  | j, c :: t => pz_lk j c σ cs :: pz_bk σ cs (j + 1) t
theorem pz_lk_out {j : Nat} {d : pz_C} : ∀ {σ : List Nat} {cs : List pz_C}, j ∉ σ → pz_lk j d σ cs = d
  | [], cs, _ => by cases cs <;> rfl
  | _ :: _, [], _ => rfl
  | i :: σ, c :: cs, h => by
    have h1 : ¬ i = j := fun q => h (q ▸ List.mem_cons_self)
    have h2 : j ∉ σ := fun q => h (List.mem_cons_of_mem _ q)
    have h3 : Nat.beq i j = false := by
      cases hb : Nat.beq i j with
      | false => rfl
      | true => exact absurd (Nat.eq_of_beq_eq_true hb) h1
    simp only [pz_lk, h3]
    exact pz_lk_out h2
theorem pz_bk_get {σ : List Nat} {cs : List pz_C} : ∀ {h : pz_H} {j k : Nat}, (pz_bk σ cs j h)[k]? = h[k]?.map (fun c => pz_lk (j + k) c σ cs)
  | [], j, k => by simp [pz_bk]
  | c :: t, j, 0 => by simp [pz_bk]
  | c :: t, j, k + 1 => by
    simp only [pz_bk, List.getElem?_cons_succ]
    rw [pz_bk_get, show j + 1 + k = j + (k + 1) by omega]
theorem pz_bk_eq : ∀ {σ : List Nat} {cs : List pz_C} {h : pz_H}, va_nd σ = true → cs.length = σ.length → pz_back h σ cs = pz_bk σ cs 0 h
  | [], [], h, _, _ => by
    apply List.ext_getElem?
    intro k
    rw [pz_bk_get]
    have : (fun c => pz_lk (0 + k) c [] []) = fun c => c := by funext c; rfl
    rw [this]
    simp [pz_back]
  | [], c :: cs, h, _, hl => by simp at hl
  | _ :: _, [], h, _, hl => by simp at hl
  | i :: σ, c :: cs, h, hn, hl => by
    simp only [va_nd, Bool.and_eq_true, decide_eq_true_eq] at hn
    simp only [pz_back]
    rw [pz_bk_eq hn.2 (by simpa using hl)]
    apply List.ext_getElem?
    intro k
    rw [pz_bk_get, pz_bk_get, pz_put_eq, List.getElem?_set]
    by_cases hk : i = k
    · subst hk
      by_cases hi : i < h.length
      · have : h[i]? = some h[i] := List.getElem?_eq_getElem hi
        have hb : Nat.beq i (0 + i) = true := by rw [Nat.zero_add]; exact Nat.beq_refl i
        simp [hi, pz_lk, hb, pz_lk_out hn.1]
      · simp [hi]
    · have h3 : Nat.beq i (0 + k) = false := by
        cases hb : Nat.beq i (0 + k) with
        | false => rfl
        | true => exact absurd (Nat.eq_of_beq_eq_true hb) (by omega)
      simp only [if_neg hk, pz_lk, h3]
/-- behind a call whose end is one state, for many cells -/
theorem pz_onb {M : pz_M} {d n0 : Nat} {Post : Option Value → pz_H → Prop} {ls : pz_L} {h hs hs2 : pz_H} {rv : Option Value} {ρ : Nat → Nat} {σ : List Nat} {rest0 st2 : List Value} {h2 : pz_H} {pc2 : Nat} (hnd : va_nd σ = true) (hsl : hs2.length = σ.length) (hl : hs2.length = hs.length) (hst : (rv.map (pz_v ρ)).toList ++ rest0 = st2) (hh : pz_bk σ (hs2.map (pz_rc ρ)) 0 h = h2) (hw : pz_W M d 0 0 n0 Post pc2 ls st2 h2 0 0) : ∀ r hs', (r = rv ∧ hs' = hs2) → hs'.length = hs.length ∧ pz_W M d 0 0 n0 Post pc2 ls ((r.map (pz_v ρ)).toList ++ rest0) (pz_back h σ (hs'.map (pz_rc ρ))) 0 0 := by
  rintro r hs' ⟨rfl, rfl⟩
  refine ⟨hl, ?_⟩
  rw [hst, pz_bk_eq hnd (by rw [List.length_map]; exact hsl), hh]
  exact hw
