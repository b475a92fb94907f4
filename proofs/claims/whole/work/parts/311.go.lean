/-! ===== stretches ===== -/
theorem pz_opi_grow {N : Nat} {ins : Instr} {inf : List Nat} {cv : Value} {ls : pz_L} {st : List Value} {h : pz_H} {k n : Nat} {cs : List Prop} {ls' : pz_L} {st' : List Value} {h' : pz_H} {k' n' : Nat} (hf : pz_opi N ins inf cv ls st h k n = some (cs, ls', st', h', k', n')) : k ≤ k' ∧ n ≤ n' := by
  have two : ∀ f : pz_O, (f = pz_o_oi ∨ f = pz_o_cpy ∨ f = pz_on ∨ (∃ a b c, f = pz_o_new a b c) ∨ ∃ a, f = pz_o_gets a) → f ls st h k n = some (cs, ls', st', h', k', n') → k ≤ k' ∧ n ≤ n' := by
    intro f hc hf
    rcases hc with rfl | rfl | rfl | ⟨a, b, c, rfl⟩ | ⟨a, rfl⟩
    · simp only [pz_o_oi] at hf
      (repeat' split at hf) <;> first | (simp only [Option.some.injEq, Prod.mk.injEq, reduceCtorEq] at hf; omega) | (cases hf; done)
    · simp only [pz_o_cpy] at hf
      (repeat' split at hf) <;> first | (simp only [Option.some.injEq, Prod.mk.injEq, reduceCtorEq] at hf; omega) | (cases hf; done)
    · cases hf
    · simp only [pz_o_new] at hf
      (repeat' split at hf) <;> first | (simp only [Option.some.injEq, Prod.mk.injEq, reduceCtorEq] at hf; omega) | (cases hf; done)
    · simp only [pz_o_gets, Option.some.injEq, Prod.mk.injEq] at hf
      omega
  by_cases hs : (∃ i, ins = .invokespecial i) ∨ (∃ i, ins = .invokestatic i) ∨ (∃ i, ins = .new i) ∨ (∃ i, ins = .getstatic i)
  · rcases hs with ⟨i, rfl⟩ | ⟨i, rfl⟩ | ⟨i, rfl⟩ | ⟨i, rfl⟩
    · refine two _ ?_ hf
      simp only [pz_opi]
      split <;> simp
    · refine two _ ?_ hf
      simp only [pz_opi]
      split <;> simp
    · refine two _ ?_ hf
      simp only [pz_opi]
      split
      · exact Or.inr (Or.inr (Or.inl rfl))
      · exact Or.inr (Or.inr (Or.inr (Or.inl ⟨_, _, _, rfl⟩)))
    · refine two _ ?_ hf
      simp only [pz_opi]
      split
      · exact Or.inr (Or.inr (Or.inl rfl))
      · exact Or.inr (Or.inr (Or.inr (Or.inr ⟨_, rfl⟩)))
  · cases ins <;> simp only [pz_opi, pz_on, pz_oc, pz_oild, pz_olld, pz_oald, pz_oist, pz_olst, pz_oast, pz_oinc, pz_o_iadd, pz_o_isub, pz_o_imul, pz_o_iand, pz_o_ior, pz_o_ixor, pz_o_ishl, pz_o_ishr, pz_o_iushr, pz_o_ladd, pz_o_lsub, pz_o_lmul, pz_o_land, pz_o_lor, pz_o_lxor, pz_o_idiv, pz_o_irem, pz_o_ldiv, pz_o_ineg, pz_o_lneg, pz_o_i2l, pz_o_l2i, pz_o_i2b, pz_o_i2c, pz_o_lshl, pz_o_lshr, pz_o_lushr, pz_o_lcmp, pz_o_dup, pz_o_pop, pz_o_dup2, pz_o_iald, pz_o_lald, pz_o_bald, pz_o_alen, pz_o_iast, pz_o_last, pz_o_bast, pz_o_get, pz_o_put, pz_o_gets, pz_o_new, pz_o_newa, pz_o_oi, pz_o_cpy, reduceCtorEq] at hf <;> first | (exact absurd (Or.inl ⟨_, rfl⟩) hs) | (exact absurd (Or.inr (Or.inl ⟨_, rfl⟩)) hs) | (exact absurd (Or.inr (Or.inr (Or.inl ⟨_, rfl⟩))) hs) | (exact absurd (Or.inr (Or.inr (Or.inr ⟨_, rfl⟩))) hs) | ((repeat' split at hf) <;> first | (simp only [Option.some.injEq, Prod.mk.injEq, reduceCtorEq] at hf; omega) | (cases hf; done))
theorem pz_run_grow {N : Nat} : ∀ {rs : List pz_I} {pc : Nat} {ls : pz_L} {st : List Value} {h : pz_H} {k n : Nat} {cs : List Prop} {pc' : Nat} {ls' : pz_L} {st' : List Value} {h' : pz_H} {k' n' : Nat}, pz_run N rs pc ls st h k n = some (cs, pc', ls', st', h', k', n') → k ≤ k' ∧ n ≤ n'
  | [], pc, ls, st, h, k, n, cs, pc', ls', st', h', k', n', hr => by
    cases hr
    exact ⟨Nat.le_refl _, Nat.le_refl _⟩
  | r :: rs, pc, ls, st, h, k, n, cs, pc', ls', st', h', k', n', hr => by
    unfold pz_run at hr
    split at hr
    · split at hr
      · rename_i ho
        split at hr
        · rename_i hr2
          cases hr
          have g1 := pz_opi_grow ho
          have g2 := pz_run_grow hr2
          omega
        · cases hr
      · cases hr
    · cases hr
theorem pz_go1 {M : pz_M} {d mc ms n0 : Nat} {Post : Option Value → pz_H → Prop} (hd1 : 1 ≤ d) : ∀ {rs : List pz_I}, (∀ r ∈ rs, pz_S M r.1 r.2.2.1 (pz_opi M.2.2.1 r.2.1 r.2.2.2.1 r.2.2.2.2)) → ∀ {pc : Nat} {ls : pz_L} {st : List Value} {h : pz_H} {k n : Nat} {cs : List Prop} {pc' : Nat} {ls' : pz_L} {st' : List Value} {h' : pz_H} {k' n' : Nat}, pz_run M.2.2.1 rs pc ls st h k n = some (cs, pc', ls', st', h', k', n') → pz_all cs → k' ≤ mc → n' ≤ ms → pz_W M d mc ms n0 Post pc' ls' st' h' k' n' → pz_W M d mc ms n0 Post pc ls st h k n
  | [], _, pc, ls, st, h, k, n, cs, pc', ls', st', h', k', n', hr, hcs, hk, hn, hw => by
    cases hr
    exact hw
  | r :: rs, hS, pc, ls, st, h, k, n, cs, pc', ls', st', h', k', n', hr, hcs, hk, hn, hw => by
    unfold pz_run at hr
    split at hr
    · rename_i hpc
      subst hpc
      split at hr
      · rename_i ho
        split at hr
        · rename_i hr2
          cases hr
          have g := pz_run_grow hr2
          have hcs := pz_all_app hcs
          exact hS r List.mem_cons_self d mc ms n0 Post _ _ _ _ _ _ _ _ _ _ _ hd1 ho hcs.1 (by omega) (by omega) (pz_go1 hd1 (fun r hr => hS r (List.mem_cons_of_mem _ hr)) hr2 hcs.2 hk hn hw)
        · cases hr
      · cases hr
    · cases hr
/-- j instructions from the i-th on -/
theorem pz_go {M : pz_M} (hM : pz_okM M = true) {d mc ms n0 : Nat} {Post : Option Value → pz_H → Prop} (i j : Nat) {pc : Nat} {ls : pz_L} {st : List Value} {h : pz_H} {k n : Nat} {cs : List Prop} {pc' : Nat} {ls' : pz_L} {st' : List Value} {h' : pz_H} {k' n' : Nat} (hd1 : 1 ≤ d) (hr : pz_run M.2.2.1 (pz_take j (pz_drop i M.2.2.2.2)) pc ls st h k n = some (cs, pc', ls', st', h', k', n')) (hcs : pz_all cs) (hk : k' ≤ mc) (hn : n' ≤ ms) (hw : pz_W M d mc ms n0 Post pc' ls' st' h' k' n') : pz_W M d mc ms n0 Post pc ls st h k n :=
  pz_go1 hd1 (fun _ hr => (pz_okM_at hM (pz_drop_mem _ _ (pz_take_mem _ _ hr))).2.1) hr hcs hk hn hw
/-- a choice at the i-th instruction -/
theorem pz_br {M : pz_M} (hM : pz_okM M = true) {d mc ms n0 : Nat} {Post : Option Value → pz_H → Prop} (i : Nat) {pc : Nat} {ins : Instr} {len : Nat} {inf : List Nat} {cv : Value} {ls : pz_L} {st : List Value} {h : pz_H} {k n : Nat} {r : List Value} {L : List (Prop × Nat)} (hi : pz_at M.2.2.2.2 i = some (pc, ins, len, inf, cv)) (hb : pz_bri pc ins inf st = some (r, L)) (hw : pz_sel (fun t => pz_W M d mc ms n0 Post t ls r h k n) L) : pz_W M d mc ms n0 Post pc ls st h k n := by
  rw [pz_at_eq] at hi
  exact (pz_okM_at hM (List.mem_of_getElem? hi)).2.2 d mc ms n0 Post ls st h k n r L hb hw
/-- the i-th instruction's bytes -/
theorem pz_dec {M : pz_M} (hM : pz_okM M = true) (i : Nat) {pc : Nat} {ins : Instr} {len : Nat} {inf : List Nat} {cv : Value} (hi : pz_at M.2.2.2.2 i = some (pc, ins, len, inf, cv)) : decode M.2.1 pc = .ok (ins, len) := by
  rw [pz_at_eq] at hi
  exact (pz_okM_at hM (List.mem_of_getElem? hi)).1
/-- fewer locals, in another order -/
theorem pz_loc {M : pz_M} {d mc ms n0 : Nat} {Post : Option Value → pz_H → Prop} {pc : Nat} {ls ls' : pz_L} {st : List Value} {h : pz_H} {k n : Nat} (hs : ∀ q ∈ ls', q ∈ ls) (hw : pz_W M d mc ms n0 Post pc ls' st h k n) : pz_W M d mc ms n0 Post pc ls st h k n := by
  intro bs D kA ad ad0 p l e s m args below meth c A H locs lc X hag hP hD hS hl
  refine hw bs D kA ad ad0 p l e s m args below meth c A H locs lc X hag hP hD hS (pz_has_sub hl (fun q hq => ?_))
  obtain ⟨r, hr, rfl⟩ := List.mem_map.mp hq
  exact pz_l_mem (hs r hr)
def pz_sub (ls : pz_L) : List Nat → pz_L
  | [] => []
  | i :: is => match pz_at ls i with
    | some q => q :: pz_sub ls is
    | none => pz_sub ls is
theorem pz_sub_mem {ls : pz_L} {q : Nat × Value} : ∀ {is : List Nat}, q ∈ pz_sub ls is → q ∈ ls
  | [], h => by cases h
  | i :: is, h => by
    unfold pz_sub at h
    split at h
    · rename_i q2 hq
      rcases List.mem_cons.mp h with h | h
      · rw [h]
        rw [pz_at_eq] at hq
        exact List.mem_of_getElem? hq
      · exact pz_sub_mem h
    · exact pz_sub_mem h
/-- the locals at these places of the list -/
theorem pz_keep {M : pz_M} {d mc ms n0 : Nat} {Post : Option Value → pz_H → Prop} {pc : Nat} {ls : pz_L} {st : List Value} {h : pz_H} {k n : Nat} (is : List Nat) {ls' : pz_L} (hs : pz_sub ls is = ls') (hw : pz_W M d mc ms n0 Post pc ls' st h k n) : pz_W M d mc ms n0 Post pc ls st h k n :=
  pz_loc (fun q hq => pz_sub_mem (is := is) (by rw [hs]; exact hq)) hw
/-- a contract with a weaker end -/
theorem pz_W_mono {M : pz_M} {d mc ms n0 : Nat} {Post Post2 : Option Value → pz_H → Prop} {pc : Nat} {ls : pz_L} {st : List Value} {h : pz_H} {k n : Nat} (hp : ∀ r h', Post r h' → Post2 r h') (hw : pz_W M d mc ms n0 Post pc ls st h k n) : pz_W M d mc ms n0 Post2 pc ls st h k n := by
  intro bs D kA ad ad0 p l e s m args below meth c A H locs lc X hag hP hD hS hl T hT XX
  obtain ⟨t, a1, o, b1, b2, b3⟩ := hw bs D kA ad ad0 p l e s m args below meth c A H locs lc X hag hP hD hS hl T hT XX
  rcases b3 with ⟨⟨⟨r, h', ad', q1, q2⟩, q3⟩, b4⟩ | ⟨q, b3, E, ce, L, ⟨x1, ⟨i, h', ad', x2, x3, x4⟩, x5⟩, b4⟩
  · exact ⟨t, a1, o, b1, b2, Or.inl ⟨⟨⟨r, h', ad', ⟨hp _ _ q1.1, q1.2⟩, q2⟩, q3⟩, b4⟩⟩
  · exact ⟨t, a1, o, b1, b2, Or.inr ⟨q, b3, E, ce, L, ⟨x1, ⟨i, h', ad', x2, hp _ _ x3, x4⟩, x5⟩, b4⟩⟩
