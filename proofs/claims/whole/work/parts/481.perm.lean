/-! ===== places may be numbered anew ===== -/
def pz_rnc (g : Nat → Nat) (c : pz_C) : pz_C := match c with
  | .inl a => .inl a
  | .inr o => .inr (o.1, o.2.map (pz_v g))
theorem pz_v_twice {ad g : Nat → Nat} (hg : ∀ i, g (g i) = i) (v : Value) : pz_v (fun i => ad (g i)) (pz_v g v) = pz_v ad v := by
  cases v with
  | ref k => show Value.ref (ad (g (g k))) = Value.ref (ad k); rw [hg]
  | _ => rfl
theorem pz_vs_twice {ad g : Nat → Nat} (hg : ∀ i, g (g i) = i) (vs : List Value) : (vs.map (pz_v g)).map (pz_v (fun i => ad (g i))) = vs.map (pz_v ad) := by
  rw [List.map_map]
  exact List.map_congr_left (fun v _ => pz_v_twice hg v)
theorem pz_e_twice {ad g : Nat → Nat} {kA : Nat → ClassId} (hg : ∀ i, g (g i) = i) (c : pz_C) : pz_e (fun i => ad (g i)) kA (pz_rnc g c) = pz_e ad kA c := by
  cases c with
  | inl a => rfl
  | inr o =>
    show Sum.inr (o.1, (o.2.map (pz_v g)).map (pz_v (fun i => ad (g i)))) = Sum.inr (o.1, o.2.map (pz_v ad))
    rw [pz_vs_twice hg]
theorem pz_l_twice {ad g : Nat → Nat} (hg : ∀ i, g (g i) = i) (ls : pz_L) : pz_l (fun i => ad (g i)) (pz_l g ls) = pz_l ad ls := by
  unfold pz_l
  rw [List.map_map]
  refine List.map_congr_left (fun q _ => ?_)
  show (q.1, pz_v (fun i => ad (g i)) (pz_v g q.2)) = (q.1, pz_v ad q.2)
  rw [pz_v_twice hg]
theorem pz_perm {M : pz_M} {d mc ms n0 : Nat} {Post : Option Value → pz_H → Prop} {pc : Nat} {ls : pz_L} {st : List Value} {h : pz_H} {k n : Nat} (g : Nat → Nat) (h' : pz_H) (hg : ∀ i, g (g i) = i) (hfix : ∀ i, (i < n0 ∨ h.length ≤ i) → g i = i) (h5 : h.length ≤ 500) (hlen : h'.length = h.length) (hh : ∀ i c, pz_at h i = some c → pz_at h' (g i) = some (pz_rnc g c)) (hW : pz_W M d mc ms n0 Post pc (pz_l g ls) (st.map (pz_v g)) h' k n) : pz_W M d mc ms n0 Post pc ls st h k n := by
  intro bs D kA ad ad0 p l e s m args below meth c A H locs lc hX hag hP hD hS hl
  have hlt : ∀ i, i < h.length → g i < h.length := by
    intro i hi
    refine Classical.byContradiction (fun z => ?_)
    have z2 := hfix (g i) (Or.inr (by omega))
    rw [hg] at z2
    omega
  have hw : ∀ i q, (pz_w (fun i => ad (g i)) kA h')[i]? = some q → (pz_w ad kA h)[g i]? = some q := by
    intro i q hq
    obtain ⟨c', hc', e1⟩ := pz_w_inv hq
    have hi : i < h.length := by
      rw [pz_at_eq] at hc'
      have := (List.getElem?_eq_some_iff.mp hc').1
      omega
    have hc2 : pz_at h (g i) = some (h[g i]'(hlt i hi)) := by
      rw [pz_at_eq]
      exact List.getElem?_eq_getElem _
    have hc3 := hh _ _ hc2
    rw [hg, hc'] at hc3
    have e2 := Option.some.inj hc3
    rw [pz_w_get hc2, e1, e2, pz_e_twice hg]
  have hag' : pz_ag n0 h' (fun i => ad (g i)) ad0 := by
    refine ⟨by rw [hlen]; exact hag.1, ?_⟩
    intro i hi
    rw [hlen] at hi
    show ad (g i) = ad0 i
    rw [hfix i hi]
    exact hag.2 i hi
  have hX' : pz_X M bs D kA (fun i => ad (g i)) p s m args meth c A := by
    refine pz_X_like (j := n0) ?_ hX
    intro i hi
    show ad (g i) = ad i
    rw [hfix i (by omega)]
  have hP' : va_P D vwCl (pz_w (fun i => ad (g i)) kA h') H := fun i q hq => hP (g i) q (hw i q hq)
  have hD' : va_D A (pz_w (fun i => ad (g i)) kA h') := by
    refine ⟨?_, fun i q hq => hD.2 (g i) q (hw i q hq)⟩
    intro i j q r hq hr e1
    have e2 := hD.1 (g i) (g j) q r (hw i q hq) (hw j r hr) e1
    rw [← hg i, e2, hg]
  have hl' : lv_has lc M.2.2.1 (pz_l (fun i => ad (g i)) (pz_l g ls)) := by
    rw [pz_l_twice hg]
    exact hl
  have z := hW bs D kA (fun i => ad (g i)) ad0 p l e s m args below meth c A H locs lc hX' hag' hP' hD' hS hl'
  rw [pz_vs_twice hg] at z
  exact z
