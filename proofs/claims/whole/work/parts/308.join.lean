/-! ===== the cells of a call, and behind it ===== -/
def pz_rc (ρ : Nat → Nat) (c : pz_C) : pz_C := match c with
  | .inl a => .inl a
  | .inr o => .inr (o.1, o.2.map (pz_v ρ))
theorem pz_v_v (ad ρ : Nat → Nat) (v : Value) : pz_v ad (pz_v ρ v) = pz_v (fun k => ad (ρ k)) v := by cases v <;> rfl
theorem pz_vs_vs (ad ρ : Nat → Nat) (vs : List Value) : (vs.map (pz_v ρ)).map (pz_v ad) = vs.map (pz_v (fun k => ad (ρ k))) := by
  rw [List.map_map]
  exact List.map_congr_left (fun v _ => pz_v_v ad ρ v)
theorem pz_e_rc (ad ρ : Nat → Nat) (kA : Nat → ClassId) (c : pz_C) : pz_e ad kA (pz_rc ρ c) = pz_e (fun k => ad (ρ k)) kA c := by
  cases c with
  | inl a => rfl
  | inr o =>
    show Sum.inr (o.1, (o.2.map (pz_v ρ)).map (pz_v ad)) = _
    rw [pz_vs_vs]
    rfl
def pz_back : pz_H → List Nat → List pz_C → pz_H
  | h, [], cs => h ++ cs
  | h, _ :: _, [] => h
  | h, i :: σ, c :: cs => pz_back (pz_put h i c) σ cs
theorem pz_put_len {α : Type} (l : List α) (i : Nat) (y : α) : (pz_put l i y).length = l.length := by rw [pz_put_eq, List.length_set]
theorem pz_back_len : ∀ (σ : List Nat) (h : pz_H) (cs : List pz_C), σ.length ≤ cs.length → (pz_back h σ cs).length = h.length + (cs.length - σ.length)
  | [], h, cs, _ => by simp [pz_back]
  | i :: σ, h, [], hl => by simp at hl
  | i :: σ, h, c :: cs, hl => by
    have ih := pz_back_len σ (pz_put h i c) cs (by simpa using hl)
    simp only [pz_back, List.length_cons]
    rw [ih, pz_put_len]
    omega
theorem pz_back_out : ∀ (σ : List Nat) (h : pz_H) (cs : List pz_C) (i : Nat), i ∉ σ → i < h.length → (pz_back h σ cs)[i]? = h[i]?
  | [], h, cs, i, _, hi => by simp [pz_back, List.getElem?_append_left hi]
  | _ :: _, h, [], i, _, _ => by simp [pz_back]
  | j :: σ, h, c :: cs, i, hn, hi => by
    have h1 : ¬ i = j := fun q => hn (q ▸ List.mem_cons_self)
    have h2 : i ∉ σ := fun q => hn (List.mem_cons_of_mem _ q)
    simp only [pz_back]
    rw [pz_back_out σ (pz_put h j c) cs i h2 (by rw [pz_put_len]; exact hi), pz_put_eq, List.getElem?_set_ne (Ne.symm h1)]
theorem pz_back_in : ∀ (σ : List Nat) (h : pz_H) (cs : List pz_C) (j i : Nat) (c : pz_C), va_nd σ = true → σ[j]? = some i → cs[j]? = some c → i < h.length → (pz_back h σ cs)[i]? = some c
  | [], h, cs, j, i, c, _, h1, _, _ => by simp at h1
  | _ :: _, h, [], j, i, c, _, _, h2, _ => by simp at h2
  | a :: σ, h, b :: cs, 0, i, c, hn, h1, h2, hi => by
    simp only [va_nd, Bool.and_eq_true, decide_eq_true_eq] at hn
    simp only [List.getElem?_cons_zero, Option.some.injEq] at h1 h2
    subst h1; subst h2
    simp only [pz_back]
    rw [pz_back_out σ _ cs a hn.1 (by rw [pz_put_len]; exact hi), pz_put_eq, List.getElem?_set_self hi]
  | a :: σ, h, b :: cs, j + 1, i, c, hn, h1, h2, hi => by
    simp only [va_nd, Bool.and_eq_true, decide_eq_true_eq] at hn
    simp only [pz_back]
    exact pz_back_in σ (pz_put h a b) cs j i c hn.2 (by simpa using h1) (by simpa using h2) (by rw [pz_put_len]; exact hi)
theorem pz_back_new : ∀ (σ : List Nat) (h : pz_H) (cs : List pz_C) (j : Nat), σ.length ≤ cs.length → (pz_back h σ cs)[h.length + j]? = cs[σ.length + j]?
  | [], h, cs, j, _ => by simp [pz_back, List.getElem?_append_right]
  | _ :: _, h, [], j, hl => by simp at hl
  | a :: σ, h, b :: cs, j, hl => by
    have ih := pz_back_new σ (pz_put h a b) cs j (by simpa using hl)
    rw [pz_put_len] at ih
    simp only [pz_back]
    rw [ih, List.length_cons, show σ.length + 1 + j = (σ.length + j) + 1 by omega, List.getElem?_cons_succ]
def pz_pick (h : pz_H) : List Nat → Option (List pz_C)
  | [] => some []
  | i :: σ => match pz_at h i, pz_pick h σ with
    | some c, some r => some (c :: r)
    | _, _ => none
theorem pz_pick_eq {h : pz_H} : ∀ {σ : List Nat} {cs : List pz_C}, pz_pick h σ = some cs → σ.length = cs.length ∧ ∀ (j i : Nat), σ[j]? = some i → ∃ c, cs[j]? = some c ∧ h[i]? = some c
  | [], cs, hp => by cases hp; exact ⟨rfl, fun j i h1 => by simp at h1⟩
  | a :: σ, cs, hp => by
    unfold pz_pick at hp
    split at hp
    · rename_i c r h1 h2
      cases hp
      obtain ⟨g1, g2⟩ := pz_pick_eq h2
      refine ⟨by simp [g1], fun j i hj => ?_⟩
      cases j with
      | zero =>
        simp only [List.getElem?_cons_zero, Option.some.injEq] at hj
        subst hj
        exact ⟨c, by simp, by rw [← pz_at_eq]; exact h1⟩
      | succ j =>
        obtain ⟨c2, q1, q2⟩ := g2 j i (by simpa using hj)
        exact ⟨c2, by simpa using q1, q2⟩
    · cases hp
/-- what a call starts from: the callee's cells among the caller's -/
def pz_Cut (h hs : pz_H) (σ δ : List Nat) : Prop := pz_pick h σ = some (hs.map (pz_rc (pz_rn σ δ h.length))) ∧ va_nd σ = true ∧ σ.length ≤ 500 ∧ δ.length ≤ 500
section
variable {h hs : pz_H} {σ δ : List Nat} {ad : Nat → Nat} {kA : Nat → ClassId}
theorem pz_Cut.len (hc : pz_Cut h hs σ δ) : σ.length = hs.length := by
  have := (pz_pick_eq hc.1).1
  simpa using this
theorem pz_Cut.at (hc : pz_Cut h hs σ δ) {j i : Nat} (hj : σ[j]? = some i) : ∃ c, hs[j]? = some c ∧ h[i]? = some (pz_rc (pz_rn σ δ h.length) c) := by
  obtain ⟨c, q1, q2⟩ := (pz_pick_eq hc.1).2 j i hj
  rw [List.getElem?_map] at q1
  cases hq : hs[j]? with
  | none => rw [hq] at q1; cases q1
  | some c2 =>
    rw [hq] at q1
    cases q1
    exact ⟨c2, rfl, q2⟩
theorem pz_Cut.rn (hc : pz_Cut h hs σ δ) {j i : Nat} (hj : σ[j]? = some i) : pz_rn σ δ h.length j = i := by
  unfold pz_rn
  rw [pz_at_eq, hj]
theorem pz_Cut.ws (hc : pz_Cut h hs σ δ) : σ.map (fun i => (pz_w ad kA h)[i]?) = (pz_w (fun k => ad (pz_rn σ δ h.length k)) kA hs).map some := by
  apply List.ext_getElem?
  intro j
  rw [List.getElem?_map, List.getElem?_map]
  cases hj : σ[j]? with
  | none =>
    have : hs.length ≤ j := by rw [← hc.len]; exact List.getElem?_eq_none_iff.mp hj
    have e : (pz_w (fun k => ad (pz_rn σ δ h.length k)) kA hs)[j]? = none := List.getElem?_eq_none_iff.mpr (by rw [pz_w_len]; exact this)
    rw [e]
    rfl
  | some i =>
    obtain ⟨c, q1, q2⟩ := hc.at hj
    rw [pz_w_get (by rw [pz_at_eq]; exact q1)]
    simp only [Option.map_some]
    rw [pz_w_get (by rw [pz_at_eq]; exact q2), pz_e_rc, hc.rn hj]
theorem pz_Cut.ro (hc : pz_Cut h hs σ δ) (j : Nat) : pz_rn σ δ h.length (1000 + j) = 1000 + j := by
  have e1 : pz_at σ (1000 + j) = none := by rw [pz_at_eq]; exact List.getElem?_eq_none_iff.mpr (by have := hc.2.2.1; omega)
  have e2 : pz_at δ (1000 + j - 500) = none := by rw [pz_at_eq]; exact List.getElem?_eq_none_iff.mpr (by have := hc.2.2.2; omega)
  unfold pz_rn
  rw [e1]
  simp only [e2]
  rw [if_neg (by omega)]
end
theorem pz_filter_sub {ws ws' : va_W} : ∀ {is : List Nat}, is.map (fun i => ws[i]?) = ws'.map some → is.filterMap (fun i => ws[i]?) = ws' := by
  intro is
  induction is generalizing ws' with
  | nil => intro h; cases ws' with
    | nil => rfl
    | cons a t => simp at h
  | cons i is ih =>
    intro h
    cases ws' with
    | nil => simp at h
    | cons a t =>
      simp only [List.map_cons, List.cons.injEq] at h
      simp only [List.filterMap_cons, h.1]
      rw [ih h.2]
theorem pz_amb_warm {bs : Nat} {ad : Nat → Nat} {s U : State} {H : Heap} (hW : s.WarmedH U.vm) (h : pz_amb bs ad s H) : pz_amb bs ad U H := by
  obtain ⟨h1, h2, h3, h4, q1, q2, q3, q4, q5, q6, q7, q8⟩ := h
  refine ⟨fun w hw => ?_, fun j hj => (h2 j hj).moved hW.alike, fun j n f hf => (h3 j n f hf).moved hW.alike, fun j n f hf => (h4 j n f hf).moved hW.alike, q1.warm hW, q2.moved hW.alike, q3.moved hW.alike, q4.moved hW.alike, q5.moved hW.alike, q6.moved hW.alike, q7.imp (fun z => z.moved hW.alike) (fun z => z.moved hW.alike), q8.1.moved hW.alike, q8.2.1.moved hW.alike, q8.2.2.1.warm hW, q8.2.2.2.1.warm hW, fun w hw => pz_tok_warm (List.all_eq_true.mp pz_tw_ok w hw) hW (q8.2.2.2.2.1 w hw), q8.2.2.2.2.2.moved hW.alike⟩
  have hz := h1 w hw
  have hn := (List.mem_filter.mp hw).2
  cases w <;> first | exact absurd hn Bool.false_ne_true | exact va_Nw.warmF hW hz | exact va_Nw.warmM hW hz
theorem pz_amb_same {bs : Nat} {ad : Nat → Nat} {s U : State} {H : Heap} (hv : s.vm = U.vm) (h : pz_amb bs ad s H) : pz_amb bs ad U H := by
  obtain ⟨h1, h2, h3, h4, q1, q2, q3, q4, q5, q6, q7, q8⟩ := h
  have ha : s.vm.Alike U.vm := by rw [hv]; exact Vm.Alike.refl _
  refine ⟨fun w hw => ?_, fun j hj => (h2 j hj).moved ha, fun j n f hf => (h3 j n f hf).moved ha, fun j n f hf => (h4 j n f hf).moved ha, q1.same hv.symm, q2.moved ha, q3.moved ha, q4.moved ha, q5.moved ha, q6.moved ha, q7.imp (fun z => z.moved ha) (fun z => z.moved ha), q8.1.moved ha, q8.2.1.moved ha, q8.2.2.1.same hv.symm, q8.2.2.2.1.same hv.symm, fun w hw => pz_tok_same (List.all_eq_true.mp pz_tw_ok w hw) hv (q8.2.2.2.2.1 w hw), q8.2.2.2.2.2.moved ha⟩
  have hz := h1 w hw
  have hn := (List.mem_filter.mp hw).2
  cases w <;> first | exact absurd hn Bool.false_ne_true | exact va_Nw.same rfl hv hz
theorem pz_amb_kept {bs : Nat} {ad : Nat → Nat} {s : State} {H H1 : Heap} (hq : ∀ a : Nat, a < H.size → ¬ bs ≤ a → H1[a]? = H[a]?) (h : pz_amb bs ad s H) : pz_amb bs ad s H1 := by
  obtain ⟨h1, h2, h3, h4, q1, q2, q3, q4, q5, q6, q7, q8⟩ := h
  exact ⟨h1, fun j hj => (h2 j hj).kept hq, fun j n f hf => (h3 j n f hf).kept hq, fun j n f hf => (h4 j n f hf).kept hq, q1, q2.kept hq, q3.kept hq, q4.kept hq, q5.kept hq, q6.kept hq, q7.imp (fun z => z.kept hq) (fun z => z.kept hq), q8.1.kept hq, q8.2.1.kept hq, q8.2.2⟩
theorem pz_amb_rn {bs : Nat} {ad : Nat → Nat} {s : State} {H : Heap} {ρ : Nat → Nat} (hρ : ∀ j, ρ (1000 + j) = 1000 + j) (h : pz_amb bs ad s H) : pz_amb bs (fun k => ad (ρ k)) s H := by
  obtain ⟨h1, h2, h3, h4, h5⟩ := h
  refine ⟨h1, fun j hj => ?_, fun j n f hf => ?_, fun j n f hf => ?_, ?_⟩
  · show va_Z _ _ _ (.ref (ad (ρ (1000 + j)))) _ _ _
    rw [hρ]; exact h2 j hj
  · show va_T _ (ad (ρ (1000 + j))) _ _ _ _ _
    rw [hρ]; exact h3 j n f hf
  · show va_T _ (ad (ρ (1000 + j))) _ _ _ _ _
    rw [hρ]; exact h4 j n f hf
  · have e5 : ρ 1005 = 1005 := hρ 5
    have e6 : ρ 1006 = 1006 := hρ 6
    unfold pz_str pz_thr
    have e7 : ρ 1007 = 1007 := hρ 7
    have e8 : ρ 1008 = 1008 := hρ 8
    have e9 : ρ 1009 = 1009 := hρ 9
    simp only [e5, e6, e7, e8, e9]
    exact h5
theorem pz_blind {bs : Nat} {D : va_G} {kA : Nat → ClassId} {ad : Nat → Nat} {sz : Nat} {h : pz_H} {av : List Value} : FrameBlind (va_Pc av (pz_Pre bs D kA ad sz h)) := by
  intro a U g mk hp
  obtain ⟨e, h1, h2, h3, h4, h5, h6⟩ := hp
  exact ⟨e, h1, h2, h3, va_K.moved (u := U) (U := U.calling g mk a) (Vm.Alike.refl U.vm) h4, h5, pz_amb_same (s := U) (U := U.calling g mk a) rfl h6⟩
