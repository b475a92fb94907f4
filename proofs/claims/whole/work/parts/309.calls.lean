/-! ===== calls ===== -/
section
variable {M : pz_M} {d mc ms n0 mc' ms' pc k n bs : Nat} {Post Post' : Option Value → pz_H → Prop} {ls : pz_L} {h hs : pz_H} {σ δ : List Nat} {rest0 : List Value}
variable {D : va_G} {kA : Nat → ClassId} {ad ad0 : Nat → Nat} {p : Program} {l : pz_Ln} {e : Env} {s : State} {m : MethodId} {args : Array Value} {below : List Frame} {meth : Method} {c : Code} {A : Nat → Prop} {H : Heap} {locs : List Loc} {lc : Array Slot} {st0 : List Value} {aa : Array Value}
theorem pz_free (X : pz_X M bs D kA ad p s m args meth c A) (hD : va_D A (pz_w ad kA h)) (hS : va_S A s.heap H locs) (hc : pz_Cut h hs σ δ) : ∀ q, va_A (pz_w (fun k => ad (pz_rn σ δ h.length k)) kA hs) H.size q → A q :=
  va_free hD hS X.2.2.2.2.2.2.2.2.2.1 σ hc.ws
/-- behind a call that makes no cells -/
theorem pz_after0 (X : pz_X M bs D kA ad p s m args meth c A) (hag : pz_ag n0 h ad ad0) (hP : va_P D vwCl (pz_w ad kA h) H) (hD : va_D A (pz_w ad kA h)) (hS : va_S A s.heap H locs) (hl : lv_has lc M.2.2.1 (pz_l ad ls)) (hc : pz_Cut h hs σ δ)
    (hr : va_Run p l e (pz_R d mc ms) s m args below meth c H locs k n mc' ms' (F0 m pc lc st0) (rest0.map (pz_v ad)) (pz_Q D kA (fun k => ad (pz_rn σ δ h.length k)) hs.length Post' (va_A (pz_w (fun k => ad (pz_rn σ δ h.length k)) kA hs) H.size) aa) (va_A (pz_w (fun k => ad (pz_rn σ δ h.length k)) kA hs) H.size))
    (hw : ∀ r hs', Post' r hs' → hs'.length = hs.length ∧ pz_W M d mc ms n0 Post (pc + 3) ls ((r.map (pz_v (pz_rn σ δ h.length))).toList ++ rest0) (pz_back h σ (hs'.map (pz_rc (pz_rn σ δ h.length)))) (k + mc') (n + ms')) :
    W p l.1 e (pz_R d mc ms) s m args below meth c H locs k n (vx_MQ below (pz_Q D kA ad0 n0 Post A) (pz_XC M D kA ad0 n0 Post A) args s mc ms A) (F0 m pc lc st0) := by
  have hFc := pz_free X hD hS hc
  intro T hT XX
  obtain ⟨v, st₀, t, T', L, h0, X', hL, e1, e2, ⟨⟨r, hs', adc', hp, hagc, hv, hP1, hK1, hD1⟩, hz, hk⟩, st⟩ := hr T hT XX
  cases hv
  rw [h0] at hz hk
  obtain ⟨hlen, hw⟩ := hw r hs' hp.1
  have hadc : adc' = fun k => ad (pz_rn σ δ h.length k) := by
    funext i
    exact hagc.2 i (by omega)
  subst hadc
  rw [← e1] at hP1 hz hk
  have hσ := hc.len
  have hbl : (pz_back h σ (hs'.map (pz_rc (pz_rn σ δ h.length)))).length = h.length := by
    rw [pz_back_len σ h _ (by rw [List.length_map]; omega), List.length_map]
    omega
  have hlt : ∀ i, i < h.length → ∃ c, pz_at h i = some c := fun i hi => ⟨h[i], by rw [pz_at_eq]; exact List.getElem?_eq_getElem hi⟩
  have hP2 : va_P D vwCl (pz_w ad kA (pz_back h σ (hs'.map (pz_rc (pz_rn σ δ h.length))))) T'.heap := by
    intro i q hq
    obtain ⟨c2, hc2, rfl⟩ := pz_w_inv hq
    rw [pz_at_eq] at hc2
    have hi : i < h.length := by rw [← hbl]; exact (List.getElem?_eq_some_iff.mp hc2).1
    by_cases hin : i ∈ σ
    · obtain ⟨j, hj⟩ := List.getElem?_of_mem hin
      have hjl : j < hs'.length := by rw [hlen, ← hσ]; exact (List.getElem?_eq_some_iff.mp hj).1
      have hcj : hs'[j]? = some hs'[j] := List.getElem?_eq_getElem hjl
      have hb := pz_back_in σ h (hs'.map (pz_rc (pz_rn σ δ h.length))) j i (pz_rc (pz_rn σ δ h.length) hs'[j]) hc.2.1 hj (by rw [List.getElem?_map, hcj]; rfl) hi
      rw [hb] at hc2
      cases hc2
      have := hP1 j _ (pz_w_get (by rw [pz_at_eq]; exact hcj))
      rw [pz_e_rc]
      rw [hc.rn hj] at this
      exact this
    · rw [pz_back_out σ h _ i hin hi] at hc2
      have h1 := hP i _ (pz_w_get (by rw [pz_at_eq]; exact hc2))
      refine h1.kept (hk _ h1.lt ?_)
      rintro (⟨j, x, hq⟩ | hq)
      · obtain ⟨c3, g1, g2⟩ := pz_w_inv hq
        have hjl : j < σ.length := by rw [hσ]; rw [pz_at_eq] at g1; exact (List.getElem?_eq_some_iff.mp g1).1
        have hj : σ[j]? = some σ[j] := List.getElem?_eq_getElem hjl
        obtain ⟨c4, -, g4⟩ := hc.at hj
        have e5 : ad i = ad σ[j] := by
          have := (Prod.ext_iff.mp g2).1
          simp only at this
          rw [hc.rn hj] at this
          exact this
        have := hD.1 i σ[j] _ _ (pz_w_get (by rw [pz_at_eq]; exact hc2)) (pz_w_get (by rw [pz_at_eq]; exact g4)) e5
        exact hin (this ▸ List.getElem_mem hjl)
      · have := h1.lt
        simp only at this
        omega
  have hD2 : va_D A (pz_w ad kA (pz_back h σ (hs'.map (pz_rc (pz_rn σ δ h.length))))) := by
    refine ⟨fun i j x y hx hy hxy => ?_, fun i x hx => ?_⟩
    · obtain ⟨c1, a1, rfl⟩ := pz_w_inv hx
      obtain ⟨c2, a2, rfl⟩ := pz_w_inv hy
      rw [pz_at_eq] at a1 a2
      obtain ⟨c3, a3⟩ := hlt i (by rw [← hbl]; exact (List.getElem?_eq_some_iff.mp a1).1)
      obtain ⟨c4, a4⟩ := hlt j (by rw [← hbl]; exact (List.getElem?_eq_some_iff.mp a2).1)
      exact hD.1 i j _ _ (pz_w_get a3) (pz_w_get a4) hxy
    · obtain ⟨c1, a1, rfl⟩ := pz_w_inv hx
      rw [pz_at_eq] at a1
      obtain ⟨c3, a3⟩ := hlt i (by rw [← hbl]; exact (List.getElem?_eq_some_iff.mp a1).1)
      have g9 := hD.2 i _ (pz_w_get a3)
      exact g9
  have hS2 : va_S A s.heap T'.heap (locs ++ L) := by
    refine ⟨Nat.le_trans hS.1 hz, fun q h1 h2 => ?_, fun q hq => ?_⟩
    · rw [hk q (Nat.lt_of_lt_of_le h1 hS.1) (fun z => h2 (hFc q z))]
      exact hS.2.1 q h1 h2
    · rcases List.mem_append.mp hq with hq | hq
      · exact hS.2.2 q hq
      · exact hFc _ (hL q hq)
  have hag2 : pz_ag n0 (pz_back h σ (hs'.map (pz_rc (pz_rn σ δ h.length)))) ad ad0 := by
    unfold pz_ag
    rw [hbl]
    exact hag
  have := hw bs D kA ad ad0 p l e s m args below meth c A T'.heap (locs ++ L) lc X hag2 hP2 hD2 hS2 hl T' rfl X'
  obtain ⟨t2, a1, b1⟩ := this
  refine ⟨t2, st t2 ?_, b1⟩
  have est : (((r.map (pz_v (pz_rn σ δ h.length))).toList ++ rest0).map (pz_v ad)) = (r.map (pz_v (fun k => ad (pz_rn σ δ h.length k)))).toList ++ rest0.map (pz_v ad) := by
    cases r with
    | none => rfl
    | some x => simp [pz_v_v]
  rw [est] at a1
  exact a1
/-- behind a call that may make cells -/
theorem pz_after1 (X : pz_X M bs D kA ad p s m args meth c A) (hag : pz_ag n0 h ad ad0) (hP : va_P D vwCl (pz_w ad kA h) H) (hD : va_D A (pz_w ad kA h)) (hS : va_S A s.heap H locs) (hl : lv_has lc M.2.2.1 (pz_l ad ls)) (hc : pz_Cut h hs σ []) (hfr : pz_fresh h.length ls rest0 h = true)
    (hr : va_Run p l e (pz_R d mc ms) s m args below meth c H locs k n mc' ms' (F0 m pc lc st0) (rest0.map (pz_v ad)) (pz_Q D kA (fun k => ad (pz_rn σ [] h.length k)) hs.length Post' (va_A (pz_w (fun k => ad (pz_rn σ [] h.length k)) kA hs) H.size) aa) (va_A (pz_w (fun k => ad (pz_rn σ [] h.length k)) kA hs) H.size))
    (hw : ∀ r hs', Post' r hs' → (hs'.length ≤ 500 ∧ h.length + (hs'.length - hs.length) ≤ 500) ∧ pz_W M d mc ms n0 Post (pc + 3) ls ((r.map (pz_v (pz_rn σ [] h.length))).toList ++ rest0) (pz_back h σ (hs'.map (pz_rc (pz_rn σ [] h.length)))) (k + mc') (n + ms')) :
    W p l.1 e (pz_R d mc ms) s m args below meth c H locs k n (vx_MQ below (pz_Q D kA ad0 n0 Post A) (pz_XC M D kA ad0 n0 Post A) args s mc ms A) (F0 m pc lc st0) := by
  have hFc := pz_free X hD hS hc
  intro T hT XX
  obtain ⟨v, st₀, t, T', L, h0, X', hL, e1, e2, ⟨⟨r, hs', adc', hp, hagc, hv, hP1, hK1, hD1⟩, hz, hk⟩, st⟩ := hr T hT XX
  cases hv
  rw [h0] at hz hk
  obtain ⟨⟨hb1, hb2⟩, hw⟩ := hw r hs' hp.1
  obtain ⟨hle, hagc⟩ := hagc
  rw [← e1] at hP1 hz hk
  have hσ := hc.len
  simp only [pz_fresh, Bool.and_eq_true] at hfr
  obtain ⟨f1, f2, f3, f4⟩ := hfr
  have f1 : h.length < 500 := Nat.blt_eq.mp f1
  obtain ⟨ad2, had2⟩ : ∃ ad2 : Nat → Nat, ad2 = fun i => if h.length ≤ i ∧ i < h.length + (hs'.length - hs.length) then adc' (hs.length + (i - h.length)) else ad i := ⟨_, rfl⟩
  have hold : ∀ i, (i < h.length ∨ h.length + (hs'.length - hs.length) ≤ i) → ad2 i = ad i := by
    intro i hi
    rw [had2]
    simp only
    rw [if_neg (by omega)]
  have hnew : ∀ i, h.length ≤ i → i < h.length + (hs'.length - hs.length) → ad2 i = adc' (hs.length + (i - h.length)) := by
    intro i h1 h2
    rw [had2]
    simp only
    rw [if_pos ⟨h1, h2⟩]
  have hlk : pz_like h.length ad ad2 := fun i hi => hold i (by omega)
  have hin0 : ∀ (j i : Nat), σ[j]? = some i → i < h.length := by
    intro j i hj
    obtain ⟨c4, -, g4⟩ := hc.at hj
    exact (List.getElem?_eq_some_iff.mp g4).1
  have hkey : ∀ i, ad2 (pz_rn σ [] h.length i) = adc' i := by
    intro i
    by_cases hi : i < σ.length
    · have hj : σ[i]? = some σ[i] := List.getElem?_eq_getElem hi
      rw [hc.rn hj, hold _ (Or.inl (hin0 i _ hj))]
      have := hagc i (Or.inl (by omega))
      simp only [hc.rn hj] at this
      exact this.symm
    · have en : pz_at σ i = none := by rw [pz_at_eq]; exact List.getElem?_eq_none_iff.mpr (by omega)
      by_cases h5 : i < 500
      · have er : pz_rn σ [] h.length i = h.length + (i - σ.length) := by
          unfold pz_rn
          rw [en]
          simp only
          rw [if_pos h5]
        rw [er]
        by_cases h6 : i < hs'.length
        · rw [hnew _ (by omega) (by omega)]
          congr 1
          omega
        · rw [hold _ (Or.inr (by omega))]
          have := hagc i (Or.inr (by omega))
          simp only [er] at this
          exact this.symm
      · have er : pz_rn σ [] h.length i = i := by
          unfold pz_rn
          rw [en]
          simp only
          rw [if_neg h5]
          rfl
        rw [er, hold _ (Or.inr (by omega))]
        have := hagc i (Or.inr (by omega))
        simp only [er] at this
        exact this.symm
  have hkey2 : (fun k => ad2 (pz_rn σ [] h.length k)) = adc' := funext hkey
  have hbl : (pz_back h σ (hs'.map (pz_rc (pz_rn σ [] h.length)))).length = h.length + (hs'.length - hs.length) := by
    rw [pz_back_len σ h _ (by rw [List.length_map]; omega), List.length_map]
    omega
  have hlt : ∀ i, i < h.length → ∃ c, pz_at h i = some c := fun i hi => ⟨h[i], by rw [pz_at_eq]; exact List.getElem?_eq_getElem hi⟩
  have hlt2 : ∀ i, i < hs'.length → ∃ c, pz_at hs' i = some c := fun i hi => ⟨hs'[i], by rw [pz_at_eq]; exact List.getElem?_eq_getElem hi⟩
  have hP2 : va_P D vwCl (pz_w ad2 kA (pz_back h σ (hs'.map (pz_rc (pz_rn σ [] h.length))))) T'.heap := by
    intro i q hq
    obtain ⟨c2, hc2, rfl⟩ := pz_w_inv hq
    rw [pz_at_eq] at hc2
    have hi2 : i < h.length + (hs'.length - hs.length) := by rw [← hbl]; exact (List.getElem?_eq_some_iff.mp hc2).1
    by_cases hi : i < h.length
    · by_cases hin : i ∈ σ
      · obtain ⟨j, hj⟩ := List.getElem?_of_mem hin
        have hjl : j < hs'.length := Nat.lt_of_lt_of_le (by rw [← hσ]; exact (List.getElem?_eq_some_iff.mp hj).1) hle
        have hcj : hs'[j]? = some hs'[j] := List.getElem?_eq_getElem hjl
        have hb := pz_back_in σ h (hs'.map (pz_rc (pz_rn σ [] h.length))) j i (pz_rc (pz_rn σ [] h.length) hs'[j]) hc.2.1 hj (by rw [List.getElem?_map, hcj]; rfl) hi
        rw [hb] at hc2
        cases hc2
        have := hP1 j _ (pz_w_get (by rw [pz_at_eq]; exact hcj))
        rw [pz_e_rc, hkey2]
        have e5 : ad2 i = adc' j := by rw [← hkey j, hc.rn hj]
        rw [e5]
        exact this
      · rw [pz_back_out σ h _ i hin hi] at hc2
        have h1 := hP i _ (pz_w_get (by rw [pz_at_eq]; exact hc2))
        rw [hold i (Or.inl hi), pz_fc_eq hlk (List.all_eq_true.mp f2 c2 (List.mem_of_getElem? hc2))]
        refine h1.kept (hk _ h1.lt ?_)
        rintro (⟨j, x, hq⟩ | hq)
        · obtain ⟨c3, g1, g2⟩ := pz_w_inv hq
          have hjl : j < σ.length := by rw [hσ]; rw [pz_at_eq] at g1; exact (List.getElem?_eq_some_iff.mp g1).1
          have hj : σ[j]? = some σ[j] := List.getElem?_eq_getElem hjl
          obtain ⟨c4, -, g4⟩ := hc.at hj
          have e5 : ad i = ad σ[j] := by
            have := (Prod.ext_iff.mp g2).1
            simp only at this
            rw [hc.rn hj] at this
            exact this
          have := hD.1 i σ[j] _ _ (pz_w_get (by rw [pz_at_eq]; exact hc2)) (pz_w_get (by rw [pz_at_eq]; exact g4)) e5
          exact hin (this ▸ List.getElem_mem hjl)
        · have := h1.lt
          simp only at this
          omega
    · obtain ⟨j, rfl⟩ : ∃ j, i = h.length + j := ⟨i - h.length, by omega⟩
      rw [pz_back_new σ h _ j (by rw [List.length_map]; omega), List.getElem?_map] at hc2
      have hjl : σ.length + j < hs'.length := by omega
      have hcj : hs'[σ.length + j]? = some hs'[σ.length + j] := List.getElem?_eq_getElem hjl
      rw [hcj] at hc2
      cases hc2
      have := hP1 _ _ (pz_w_get (by rw [pz_at_eq]; exact hcj))
      rw [pz_e_rc, hkey2, hnew _ (by omega) hi2]
      have e5 : hs.length + (h.length + j - h.length) = σ.length + j := by omega
      rw [e5]
      exact this
  have hfar : ∀ i, hs.length ≤ i → i < hs'.length → H.size ≤ adc' i := by
    intro i h1 h2
    obtain ⟨c3, a3⟩ := hlt2 i h2
    have hin := hD1.2 i _ (pz_w_get a3)
    rcases hin with ⟨j, x, hq⟩ | hq
    · obtain ⟨c4, g1, g2⟩ := pz_w_inv hq
      rw [pz_at_eq] at g1
      have hj : j < hs.length := (List.getElem?_eq_some_iff.mp g1).1
      obtain ⟨c5, a5⟩ := hlt2 j (by omega)
      have e5 : adc' i = adc' j := by
        have := (Prod.ext_iff.mp g2).1
        simp only at this
        rw [this]
        exact (hagc j (Or.inl hj)).symm
      have := hD1.1 i j _ _ (pz_w_get a3) (pz_w_get a5) e5
      omega
    · exact hq
  have hD2 : va_D A (pz_w ad2 kA (pz_back h σ (hs'.map (pz_rc (pz_rn σ [] h.length))))) := by
    have hnear : ∀ i, i < h.length → ad i < H.size := by
      intro i hi
      obtain ⟨c3, a3⟩ := hlt i hi
      exact (hP i _ (pz_w_get a3)).lt
    refine ⟨fun i j x y hx hy hxy => ?_, fun i x hx => ?_⟩
    · obtain ⟨c1, a1, rfl⟩ := pz_w_inv hx
      obtain ⟨c2, a2, rfl⟩ := pz_w_inv hy
      rw [pz_at_eq] at a1 a2
      have hi2 : i < h.length + (hs'.length - hs.length) := by rw [← hbl]; exact (List.getElem?_eq_some_iff.mp a1).1
      have hj2 : j < h.length + (hs'.length - hs.length) := by rw [← hbl]; exact (List.getElem?_eq_some_iff.mp a2).1
      simp only at hxy
      by_cases hi : i < h.length
      · by_cases hj : j < h.length
        · obtain ⟨c3, a3⟩ := hlt i hi
          obtain ⟨c4, a4⟩ := hlt j hj
          rw [hold i (Or.inl hi), hold j (Or.inl hj)] at hxy
          exact hD.1 i j _ _ (pz_w_get a3) (pz_w_get a4) hxy
        · rw [hold i (Or.inl hi), hnew j (by omega) hj2] at hxy
          have g1 := hnear i hi
          have g2 := hfar (hs.length + (j - h.length)) (by omega) (by omega)
          omega
      · by_cases hj : j < h.length
        · rw [hold j (Or.inl hj), hnew i (by omega) hi2] at hxy
          have g1 := hnear j hj
          have g2 := hfar (hs.length + (i - h.length)) (by omega) (by omega)
          omega
        · rw [hnew i (by omega) hi2, hnew j (by omega) hj2] at hxy
          obtain ⟨c3, a3⟩ := hlt2 (hs.length + (i - h.length)) (by omega)
          obtain ⟨c4, a4⟩ := hlt2 (hs.length + (j - h.length)) (by omega)
          have := hD1.1 _ _ _ _ (pz_w_get a3) (pz_w_get a4) hxy
          omega
    · obtain ⟨c1, a1, rfl⟩ := pz_w_inv hx
      rw [pz_at_eq] at a1
      have hi2 : i < h.length + (hs'.length - hs.length) := by rw [← hbl]; exact (List.getElem?_eq_some_iff.mp a1).1
      by_cases hi : i < h.length
      · obtain ⟨c3, a3⟩ := hlt i hi
        simp only
        rw [hold i (Or.inl hi)]
        have g9 := hD.2 i _ (pz_w_get a3)
        exact g9
      · simp only
        rw [hnew i (by omega) hi2]
        obtain ⟨c3, a3⟩ := hlt2 (hs.length + (i - h.length)) (by omega)
        have g9 := hFc _ (hD1.2 _ _ (pz_w_get a3))
        exact g9
  have hS2 : va_S A s.heap T'.heap (locs ++ L) := by
    refine ⟨Nat.le_trans hS.1 hz, fun q h1 h2 => ?_, fun q hq => ?_⟩
    · rw [hk q (Nat.lt_of_lt_of_le h1 hS.1) (fun z => h2 (hFc q z))]
      exact hS.2.1 q h1 h2
    · rcases List.mem_append.mp hq with hq | hq
      · exact hS.2.2 q hq
      · exact hFc _ (hL q hq)
  have hag2 : pz_ag n0 (pz_back h σ (hs'.map (pz_rc (pz_rn σ [] h.length)))) ad2 ad0 := by
    refine ⟨by rw [hbl]; have := hag.1; omega, fun i hi => ?_⟩
    rw [hbl] at hi
    have g := hag.1
    rw [hold i (by omega)]
    exact hag.2 i (by omega)
  have := hw bs D kA ad2 ad0 p l e s m args below meth c A T'.heap (locs ++ L) lc (pz_X_like hlk X) hag2 hP2 hD2 hS2 (by rw [pz_fls_eq hlk f3]; exact hl) T' rfl X'
  obtain ⟨t2, a1, b1⟩ := this
  refine ⟨t2, st t2 ?_, b1⟩
  have est : (((r.map (pz_v (pz_rn σ [] h.length))).toList ++ rest0).map (pz_v ad2)) = (r.map (pz_v adc')).toList ++ rest0.map (pz_v ad) := by
    rw [List.map_append, pz_fvs_eq hlk f4]
    congr 1
    cases r with
    | none => rfl
    | some x =>
      simp only [Option.map_some, Option.toList_some, List.map_cons, List.map_nil]
      rw [pz_v_v, hkey2]
  rw [est] at a1
  exact a1
theorem pz_pre (X : pz_X M bs D kA ad p s m args meth c A) (hP : va_P D vwCl (pz_w ad kA h) H) (hD : va_D A (pz_w ad kA h)) (hS : va_S A s.heap H locs) (hc : pz_Cut h hs σ δ) {U : State} (hU : U.heap = H) (hW : s.WarmedH U.vm) : pz_Pre bs D kA (fun k => ad (pz_rn σ δ h.length k)) H.size hs U := by
  refine ⟨by rw [hU], Nat.le_trans X.2.2.2.2.2.2.2.2.2.2.2.1 hS.1, ?_, va_K.moved hW.alike X.2.2.2.2.2.2.2.2.1, (hD.sub σ hc.2.1 hc.ws).weaken (fun _ _ _ q => X.2.2.2.2.2.2.2.2.2.2.1 _ q), ?_⟩
  · rw [hU]
    exact hP.sub σ (pz_filter_sub hc.ws)
  · rw [hU]
    refine pz_amb_rn hc.ro (pz_amb_warm hW (pz_amb_kept (fun a h1 h2 => hS.2.1 a h1 (fun z => h2 (X.2.2.2.2.2.2.2.2.2.2.1 a z))) X.2.2.2.2.2.2.2.2.2.2.2.2))
end
theorem pz_good (M' : pz_M) (hc : Cond.code M'.1 M'.2.1 M'.2.2.1 M'.2.2.2.1 ∈ pz_gw) : GoodIn pz_gw (pz_ws M') := by
  intro w hw
  have h1 : w ∈ pz_gw := by
    rcases List.mem_cons.mp hw with h | h
    · rw [h]; exact hc
    · exact h
  exact ⟨h1, good_of_word (List.all_eq_true.mp pz_gw_good w h1)⟩
/-- a callee: its words; np: how many parameters -/
def pz_CV (M' : pz_M) (np : Nat) : Prop := Cond.instanceMethod M'.1 ∈ pz_gw ∧ Cond.selects M'.1.cls M'.1 M'.1 ∈ pz_gw ∧ Cond.initialized M'.1.cls ∈ pz_gw ∧ Cond.code M'.1 M'.2.1 M'.2.2.1 M'.2.2.2.1 ∈ pz_gw ∧ (M'.1.cls ≠ "java/lang/invoke/MethodHandle" ∧ M'.1.cls ≠ "java/lang/invoke/VarHandle" ∧ (parseMethodDescriptor M'.1.desc).map (fun d => d.parameters.length) = some np) ∧ M'.2.2.1 ≤ 40
def pz_CS (M' : pz_M) (np : Nat) : Prop := Cond.static M'.1 ∈ pz_gw ∧ Cond.initialized M'.1.cls ∈ pz_gw ∧ Cond.code M'.1 M'.2.1 M'.2.2.1 M'.2.2.2.1 ∈ pz_gw ∧ (M'.1.cls ≠ "java/lang/invoke/MethodHandle" ∧ M'.1.cls ≠ "java/lang/invoke/VarHandle" ∧ (parseMethodDescriptor M'.1.desc).map (fun d => d.parameters.length) = some np) ∧ M'.2.2.1 ≤ 40
def pz_CI (M' : pz_M) (np : Nat) : Prop := Cond.instanceMethod M'.1 ∈ pz_gw ∧ Cond.initialized M'.1.cls ∈ pz_gw ∧ Cond.code M'.1 M'.2.1 M'.2.2.1 none ∈ pz_gw ∧ (M'.1.cls ≠ "java/lang/invoke/MethodHandle" ∧ M'.1.cls ≠ "java/lang/invoke/VarHandle" ∧ (parseMethodDescriptor M'.1.desc).map (fun d => d.parameters.length) = some np) ∧ M'.2.2.1 ≤ 40 ∧ M'.1.name = "<init>" ∧ M'.2.2.2.1 = none
section
variable {M M' : pz_M} {d d' mc ms n0 pc k n np idx : Nat} {Post Post' : Option Value → pz_H → Prop} {ls : pz_L} {h hs : pz_H} {rest0 : List Value} {asc : List Value}
theorem pz_room {d d' L : Nat} (hd : d' + 1 ≤ d) (hL : L ≤ 40) : 8 + (L + 11) + 64 * d' ≤ 64 * d := by omega
theorem pz_callV {b0 ci : Nat} {fs : List Value} {q : vw_C} (hlk : Cond.methodLink M.1.cls idx M'.1 ∈ pz_gw) (hcv : pz_CV M' np) (hd : decode M.2.1 pc = .ok (.invokevirtual idx, 3)) (hT : pz_T M' d' 0 0 (.ref b0 :: asc) hs Post') (σ δ : List Nat) (hdd : d' + 1 ≤ d) (hnp : asc.length = np) (hcl : vwCl[ci]? = some q) (hcq : q.1 = M'.1.cls) (hb : pz_at hs b0 = some (.inr (ci, fs)))
    (hc : pz_Cut h hs σ δ) (hrs : (rest0.map fun v => v.category).sum ≤ 8)
    (hw : ∀ r hs', Post' r hs' → hs'.length = hs.length ∧ pz_W M d mc ms n0 Post (pc + 3) ls ((r.map (pz_v (pz_rn σ δ h.length))).toList ++ rest0) (pz_back h σ (hs'.map (pz_rc (pz_rn σ δ h.length)))) k n) :
    k ≤ mc → n ≤ ms → pz_W M d mc ms n0 Post pc ls (((.ref b0 :: asc).map (pz_v (pz_rn σ δ h.length))).reverse ++ rest0) h k n := by
  intro hk hn bs D kA ad ad0 p l e s m args below meth c A H locs lc X hag hP hD hS hl
  obtain ⟨c1, c2, c3, c4, c5, c6⟩ := hcv
  have hts := X.2.2.2.2.2.1
  have hPc : va_P D vwCl (pz_w (fun k => ad (pz_rn σ δ h.length k)) kA hs) H := hP.sub σ (pz_filter_sub hc.ws)
  have hrec := va_recv X.2.2.2.2.2.2.2.2.1 hPc hcl (pz_w_get hb)
  rw [hcq] at hrec
  refine pz_after0 (mc' := 0) (ms' := 0) (aa := ((Value.ref b0 :: asc).map (pz_v (fun k => ad (pz_rn σ δ h.length k)))).toArray) (rest0 := rest0) X hag hP hD hS hl hc ?_ hw
  have hst : ((((Value.ref b0 :: asc).map (pz_v (pz_rn σ δ h.length))).reverse ++ rest0).map (pz_v ad)) = (asc.map (pz_v (fun k => ad (pz_rn σ δ h.length k)))).reverse ++ Value.ref (ad (pz_rn σ δ h.length b0)) :: rest0.map (pz_v ad) := by
    rw [List.map_append, List.map_reverse, pz_vs_vs]
    simp [pz_v]
  rw [hst]
  exact va_runV (b := ad (pz_rn σ δ h.length b0)) (As := asc.map (pz_v (fun k => ad (pz_rn σ δ h.length k)))) (rest := rest0.map (pz_v ad)) (ret := M'.2.2.2.1) (n := np) ⟨X.1, X.2.1, X.2.2.1, X.2.2.2.2.1, hts⟩ (hT l bs D kA (fun k => ad (pz_rn σ δ h.length k)) H.size)
    ⟨callB_of np hts (pz_good M' c4) rfl rfl rfl (hts _ c3) (hts _ hlk) c5 ⟨hdd, pz_room hdd c6⟩, hts _ c1, hts _ c2⟩ ⟨pz_blind, hrec, fun U hU hW => ⟨rfl, pz_pre X hP hD hS hc hU hW⟩⟩ rfl (by rw [List.length_map]; exact hnp) hl.1 rfl (by rw [pz_cats]; show 2 * 0 + _ ≤ 8; omega) hd ⟨hk, hn⟩
theorem pz_callS (hlk : Cond.methodLink M.1.cls idx M'.1 ∈ pz_gw) (hcv : pz_CS M' np) (hd : decode M.2.1 pc = .ok (.invokestatic idx, 3)) (hT : pz_T M' d' 0 0 asc hs Post') (σ δ : List Nat) (hdd : d' + 1 ≤ d) (hnp : asc.length = np)
    (hc : pz_Cut h hs σ δ) (hrs : (rest0.map fun v => v.category).sum ≤ 8)
    (hw : ∀ r hs', Post' r hs' → hs'.length = hs.length ∧ pz_W M d mc ms n0 Post (pc + 3) ls ((r.map (pz_v (pz_rn σ δ h.length))).toList ++ rest0) (pz_back h σ (hs'.map (pz_rc (pz_rn σ δ h.length)))) k n) :
    k ≤ mc → n ≤ ms → pz_W M d mc ms n0 Post pc ls ((asc.map (pz_v (pz_rn σ δ h.length))).reverse ++ rest0) h k n := by
  intro hk hn bs D kA ad ad0 p l e s m args below meth c A H locs lc X hag hP hD hS hl
  obtain ⟨c1, c3, c4, c5, c6⟩ := hcv
  have hts := X.2.2.2.2.2.1
  refine pz_after0 (mc' := 0) (ms' := 0) (aa := (asc.map (pz_v (fun k => ad (pz_rn σ δ h.length k)))).toArray) (rest0 := rest0) X hag hP hD hS hl hc ?_ hw
  have hst : (((asc.map (pz_v (pz_rn σ δ h.length))).reverse ++ rest0).map (pz_v ad)) = (asc.map (pz_v (fun k => ad (pz_rn σ δ h.length k)))).reverse ++ rest0.map (pz_v ad) := by
    rw [List.map_append, List.map_reverse, pz_vs_vs]
  rw [hst]
  exact va_runS (As := asc.map (pz_v (fun k => ad (pz_rn σ δ h.length k)))) (rest := rest0.map (pz_v ad)) (ret := M'.2.2.2.1) (n := np) ⟨X.1, X.2.1, X.2.2.1, X.2.2.2.2.1, hts⟩ (hT l bs D kA (fun k => ad (pz_rn σ δ h.length k)) H.size)
    ⟨callB_of np hts (pz_good M' c4) rfl rfl rfl (hts _ c3) (hts _ hlk) c5 ⟨hdd, pz_room hdd c6⟩, hts _ c1⟩ ⟨pz_blind, fun U hU hW => ⟨rfl, pz_pre X hP hD hS hc hU hW⟩⟩ rfl (by rw [List.length_map]; exact hnp) hl.1 rfl (by rw [pz_cats]; show 2 * 0 + _ ≤ 8; omega) hd ⟨hk, hn⟩
/-- a constructor: it may make cells -/
theorem pz_callI {b0 mc' ms' : Nat} {host : String} (hlk : Cond.methodLink M.1.cls idx M'.1 ∈ pz_gw ∨ Cond.methodLinkNest M.1.cls idx M'.1 host ∈ pz_nw) (hcv : pz_CI M' np) (hd : decode M.2.1 pc = .ok (.invokespecial idx, 3)) (hT : pz_T M' d' mc' ms' (.ref b0 :: asc) hs Post') (σ : List Nat) (hdd : d' + 1 ≤ d) (hnp : asc.length = np)
    (hc : pz_Cut h hs σ []) (hfr : pz_fresh h.length ls rest0 h = true) (hrs : (rest0.map fun v => v.category).sum ≤ 8)
    (hw : ∀ r hs', Post' r hs' → (hs'.length ≤ 500 ∧ h.length + (hs'.length - hs.length) ≤ 500) ∧ pz_W M d mc ms n0 Post (pc + 3) ls ((r.map (pz_v (pz_rn σ [] h.length))).toList ++ rest0) (pz_back h σ (hs'.map (pz_rc (pz_rn σ [] h.length)))) (k + mc') (n + ms')) :
    k + mc' ≤ mc → n + ms' ≤ ms → pz_W M d mc ms n0 Post pc ls (((.ref b0 :: asc).map (pz_v (pz_rn σ [] h.length))).reverse ++ rest0) h k n := by
  intro hk hn bs D kA ad ad0 p l e s m args below meth c A H locs lc X hag hP hD hS hl
  obtain ⟨c1, c3, c4, c5, c6, c7, c8⟩ := hcv
  have hts := X.2.2.2.2.2.1
  refine pz_after1 (aa := ((Value.ref b0 :: asc).map (pz_v (fun k => ad (pz_rn σ [] h.length k)))).toArray) (rest0 := rest0) X hag hP hD hS hl hc hfr ?_ hw
  have hst : ((((Value.ref b0 :: asc).map (pz_v (pz_rn σ [] h.length))).reverse ++ rest0).map (pz_v ad)) = (asc.map (pz_v (fun k => ad (pz_rn σ [] h.length k)))).reverse ++ Value.ref (ad (pz_rn σ [] h.length b0)) :: rest0.map (pz_v ad) := by
    rw [List.map_append, List.map_reverse, pz_vs_vs]
    simp [pz_v]
  rw [hst]
  have hT2 := hT l bs D kA (fun k => ad (pz_rn σ [] h.length k)) H.size
  have c4' : Cond.code M'.1 M'.2.1 M'.2.2.1 M'.2.2.2.1 ∈ pz_gw := by rw [c8]; exact c4
  have hws : pz_ws M' = Cond.code M'.1 M'.2.1 M'.2.2.1 none :: pz_gw := by unfold pz_ws; rw [c8]
  rcases hlk with hlk | hlk
  · exact va_runI (b := ad (pz_rn σ [] h.length b0)) (As := asc.map (pz_v (fun k => ad (pz_rn σ [] h.length k)))) (rest := rest0.map (pz_v ad)) (n := np) ⟨X.1, X.2.1, X.2.2.1, X.2.2.2.2.1, hts⟩ hT2
      ⟨callB_of np hts (pz_good M' c4') hws rfl rfl (hts _ c3) (hts _ hlk) c5 ⟨hdd, pz_room hdd c6⟩, c7, hts _ c1⟩ ⟨pz_blind, fun U hU hW => ⟨rfl, pz_pre X hP hD hS hc hU hW⟩⟩ rfl (by rw [List.length_map]; exact hnp) hl.1 rfl (by rw [pz_cats]; show 2 * 0 + _ ≤ 8; omega) hd ⟨hk, hn⟩
  · exact va_runIN (b := ad (pz_rn σ [] h.length b0)) (As := asc.map (pz_v (fun k => ad (pz_rn σ [] h.length k)))) (rest := rest0.map (pz_v ad)) (n := np) (host := host) ⟨X.1, X.2.1, X.2.2.1, X.2.2.2.2.1, hts⟩ hT2
      ⟨va_cnB np hts (pz_good M' c4') hws rfl rfl (X.2.2.2.2.2.2.2.2.2.2.2.2.1 _ hlk) (hts _ c3) c5 ⟨hdd, pz_room hdd c6⟩, c7, hts _ c1⟩ ⟨pz_blind, fun U hU hW => ⟨rfl, pz_pre X hP hD hS hc hU hW⟩⟩ rfl (by rw [List.length_map]; exact hnp) hl.1 rfl (by rw [pz_cats]; show 2 * 0 + _ ≤ 8; omega) hd ⟨hk, hn⟩
end
