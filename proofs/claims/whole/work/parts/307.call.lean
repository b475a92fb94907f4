/-! ===== choices ===== -/
abbrev pz_B : Type := List Value → Option (List Value × List (Prop × Nat))
def pz_sel (P : Nat → Prop) : List (Prop × Nat) → Prop
  | [] => False
  | [(_, t)] => P t
  | (c, t) :: x :: r => (c → P t) ∧ (¬ c → pz_sel P (x :: r))
def pz_SB (M : pz_M) (pc : Nat) (f : pz_B) : Prop := ∀ (d mc ms n0 : Nat) (Post : Option Value → pz_H → Prop) (ls : pz_L) (st : List Value) (h : pz_H) (k n : Nat) (r : List Value) (L : List (Prop × Nat)),
  f st = some (r, L) → pz_sel (fun t => pz_W M d mc ms n0 Post t ls r h k n) L → pz_W M d mc ms n0 Post pc ls st h k n
def pz_bn : pz_B := fun _ => none
theorem sb_none {M : pz_M} {pc : Nat} : pz_SB M pc pz_bn := by
  intro d mc ms n0 Post ls st h k n r L hf hw
  cases hf
def pz_c0 (cd : Jvm.ClassFile.Cond) (x : Int32) : Prop := match cd with
  | .eq => x = 0
  | .ne => ¬ x = 0
  | .lt => x < 0
  | .ge => 0 ≤ x
  | .gt => 0 < x
  | .le => x ≤ 0
def pz_c1 (cd : Jvm.ClassFile.Cond) (x y : Int32) : Prop := match cd with
  | .eq => x = y
  | .ne => ¬ x = y
  | .lt => x < y
  | .ge => y ≤ x
  | .gt => y < x
  | .le => x ≤ y
def pz_b_if (cd : Jvm.ClassFile.Cond) (t f : Nat) : pz_B := fun st => match st with
  | .int x :: r => some (r, [(pz_c0 cd x, t), (True, f)])
  | _ => none
def pz_b_ic (cd : Jvm.ClassFile.Cond) (t f : Nat) : pz_B := fun st => match st with
  | .int y :: .int x :: r => some (r, [(pz_c1 cd x y, t), (True, f)])
  | _ => none
def pz_b_go (t : Nat) : pz_B := fun st => some (st, [(True, t)])
theorem sb_if {M : pz_M} {pc t : Nat} {cd : Jvm.ClassFile.Cond} {off : Int} (hd : decode M.2.1 pc = .ok (.ifCond cd off, 3)) (ht : (pc : Int) + off = (t : Int)) : pz_SB M pc (pz_b_if cd t (pc + 3)) := by
  intro d mc ms n0 Post ls st h k n r L hf hw
  unfold pz_b_if at hf
  split at hf
  · rename_i x r
    cases hf
    obtain ⟨hw1, hw2⟩ := hw
    have hw2 : ¬ pz_c0 cd x → pz_W M d mc ms n0 Post (pc + 3) ls r h k n := hw2
    intro bs D kA ad ad0 p l e s m args below meth c A H locs lc X hag hP hD hS hl
    cases cd with
    | eq => exact lv_if_eq X.1 X.2.1 hd ht (fun q => hw1 q bs D kA ad ad0 p l e s m args below meth c A H locs lc X hag hP hD hS hl) (fun q => hw2 q bs D kA ad ad0 p l e s m args below meth c A H locs lc X hag hP hD hS hl)
    | ne => exact lv_if_ne X.1 X.2.1 hd ht (fun q => hw1 q bs D kA ad ad0 p l e s m args below meth c A H locs lc X hag hP hD hS hl) (fun q => hw2 (fun z => z q) bs D kA ad ad0 p l e s m args below meth c A H locs lc X hag hP hD hS hl)
    | lt => exact lv_if_lt X.1 X.2.1 hd ht (fun q => hw1 q bs D kA ad ad0 p l e s m args below meth c A H locs lc X hag hP hD hS hl) (fun q => hw2 q bs D kA ad ad0 p l e s m args below meth c A H locs lc X hag hP hD hS hl)
    | ge => exact lv_if_ge X.1 X.2.1 hd ht (fun q => hw1 q bs D kA ad ad0 p l e s m args below meth c A H locs lc X hag hP hD hS hl) (fun q => hw2 q bs D kA ad ad0 p l e s m args below meth c A H locs lc X hag hP hD hS hl)
    | gt => exact lv_if_gt X.1 X.2.1 hd ht (fun q => hw1 q bs D kA ad ad0 p l e s m args below meth c A H locs lc X hag hP hD hS hl) (fun q => hw2 q bs D kA ad ad0 p l e s m args below meth c A H locs lc X hag hP hD hS hl)
    | le => exact lv_if_le X.1 X.2.1 hd ht (fun q => hw1 q bs D kA ad ad0 p l e s m args below meth c A H locs lc X hag hP hD hS hl) (fun q => hw2 q bs D kA ad ad0 p l e s m args below meth c A H locs lc X hag hP hD hS hl)
  · cases hf
theorem sb_ic {M : pz_M} {pc t : Nat} {cd : Jvm.ClassFile.Cond} {off : Int} (hd : decode M.2.1 pc = .ok (.if_icmp cd off, 3)) (ht : (pc : Int) + off = (t : Int)) : pz_SB M pc (pz_b_ic cd t (pc + 3)) := by
  intro d mc ms n0 Post ls st h k n r L hf hw
  unfold pz_b_ic at hf
  split at hf
  · rename_i y x r
    cases hf
    obtain ⟨hw1, hw2⟩ := hw
    have hw2 : ¬ pz_c1 cd x y → pz_W M d mc ms n0 Post (pc + 3) ls r h k n := hw2
    intro bs D kA ad ad0 p l e s m args below meth c A H locs lc X hag hP hD hS hl
    cases cd with
    | eq => exact lv_icmp_eq X.1 X.2.1 hd ht (fun q => hw1 q bs D kA ad ad0 p l e s m args below meth c A H locs lc X hag hP hD hS hl) (fun q => hw2 q bs D kA ad ad0 p l e s m args below meth c A H locs lc X hag hP hD hS hl)
    | ne => exact lv_icmp_ne X.1 X.2.1 hd ht (fun q => hw1 q bs D kA ad ad0 p l e s m args below meth c A H locs lc X hag hP hD hS hl) (fun q => hw2 (fun z => z q) bs D kA ad ad0 p l e s m args below meth c A H locs lc X hag hP hD hS hl)
    | lt => exact lv_icmp_lt X.1 X.2.1 hd ht (fun q => hw1 q bs D kA ad ad0 p l e s m args below meth c A H locs lc X hag hP hD hS hl) (fun q => hw2 q bs D kA ad ad0 p l e s m args below meth c A H locs lc X hag hP hD hS hl)
    | ge => exact lv_icmp_ge X.1 X.2.1 hd ht (fun q => hw1 q bs D kA ad ad0 p l e s m args below meth c A H locs lc X hag hP hD hS hl) (fun q => hw2 q bs D kA ad ad0 p l e s m args below meth c A H locs lc X hag hP hD hS hl)
    | gt => exact lv_icmp_gt X.1 X.2.1 hd ht (fun q => hw1 q bs D kA ad ad0 p l e s m args below meth c A H locs lc X hag hP hD hS hl) (fun q => hw2 q bs D kA ad ad0 p l e s m args below meth c A H locs lc X hag hP hD hS hl)
    | le => exact lv_icmp_le X.1 X.2.1 hd ht (fun q => hw1 q bs D kA ad ad0 p l e s m args below meth c A H locs lc X hag hP hD hS hl) (fun q => hw2 q bs D kA ad ad0 p l e s m args below meth c A H locs lc X hag hP hD hS hl)
  · cases hf
theorem sb_go {M : pz_M} {pc t : Nat} {off : Int} (hd : decode M.2.1 pc = .ok (.goto off, 3)) (ht : (pc : Int) + off = (t : Int)) : pz_SB M pc (pz_b_go t) := by
  intro d mc ms n0 Post ls st h k n r L hf hw
  cases hf
  intro bs D kA ad ad0 p l e s m args below meth c A H locs lc X hag hP hD hS hl
  exact lv_goto X.1 X.2.1 hd ht (hw bs D kA ad ad0 p l e s m args below meth c A H locs lc X hag hP hD hS hl)
/-- switches: keys with their places, the place of all others -/
def pz_ch (x : Int32) : List (Int32 × Nat) → Nat → List (Prop × Nat)
  | [], dft => [(True, dft)]
  | (k, t) :: r, dft => (x = k, t) :: pz_ch x r dft
theorem pz_sel_ch {P : Nat → Prop} {x k : Int32} {t dft : Nat} {r : List (Int32 × Nat)} (h : pz_sel P (pz_ch x ((k, t) :: r) dft)) : (x = k → P t) ∧ (¬ x = k → pz_sel P (pz_ch x r dft)) := by
  cases r with
  | nil => exact h
  | cons a r => obtain ⟨k2, t2⟩ := a; exact h
def pz_lck (pc : Nat) : List (Int32 × Nat) → List (Int × Int) → Bool
  | [], [] => true
  | (k, t) :: r, (a, o) :: ps => decide (k.toInt = a) && (decide ((pc : Int) + o = (t : Int)) && pz_lck pc r ps)
  | _, _ => false
theorem pz_lsw_aux {P : Nat → Prop} {x : Int32} {pc dft : Nat} {dd : Int} (hdd : (pc : Int) + dd = (dft : Int)) : ∀ (kts : List (Int32 × Nat)) (ps : List (Int × Int)), pz_lck pc kts ps = true → pz_sel P (pz_ch x kts dft) → ∃ (t : Nat) (off : Int), Op.lookupswitch.offset ps dd x.toInt = off ∧ (pc : Int) + off = (t : Int) ∧ P t
  | [], [], _, h => ⟨dft, dd, rfl, hdd, h⟩
  | [], (_, _) :: _, h, _ => by cases h
  | (_, _) :: _, [], h, _ => by cases h
  | (k, t) :: r, (a, o) :: ps, h, hw => by
    simp only [pz_lck, Bool.and_eq_true, decide_eq_true_eq] at h
    obtain ⟨h1, h2, h3⟩ := h
    obtain ⟨w1, w2⟩ := pz_sel_ch hw
    by_cases hx : x = k
    · subst hx
      refine ⟨t, o, ?_, h2, w1 rfl⟩
      rw [Op.lookupswitch.offset_cons, if_pos h1.symm]
    · obtain ⟨t2, off, g1, g2, g3⟩ := pz_lsw_aux hdd r ps h3 (w2 hx)
      refine ⟨t2, off, ?_, g2, g3⟩
      rw [lv_osw hx h1]
      exact g1
theorem pz_lsw {M : pz_M} {d mc ms n0 : Nat} {Post : Option Value → pz_H → Prop} {pc len : Nat} {ls : pz_L} {r : List Value} {h : pz_H} {k n : Nat} {x : Int32} {dd : Int} {ps : Array (Int × Int)} (hd : decode M.2.1 pc = .ok (.lookupswitch dd ps, len)) (kts : List (Int32 × Nat)) (dft : Nat) (hp : (ps.toList.zip (ps.toList.drop 1)).all (fun (a, next) => a.1 < next.1) = true) (hck : pz_lck pc kts ps.toList = true) (hdd : (pc : Int) + dd = (dft : Int))
    (hw : pz_sel (fun t => pz_W M d mc ms n0 Post t ls r h k n) (pz_ch x kts dft)) : pz_W M d mc ms n0 Post pc ls (.int x :: r) h k n := by
  obtain ⟨t, off, g1, g2, g3⟩ := pz_lsw_aux hdd kts ps.toList hck hw
  intro bs D kA ad ad0 p l e s m args below meth c A H locs lc X hag hP hD hS hl
  exact lv_lookup X.1 X.2.1 hd hp g1 g2 (g3 bs D kA ad ad0 p l e s m args below meth c A H locs lc X hag hP hD hS hl)
def pz_tck (pc : Nat) : Int → List (Int32 × Nat) → List Int → Bool
  | _, [], [] => true
  | lo, (k, t) :: r, o :: ps => decide (k.toInt = lo) && (decide ((pc : Int) + o = (t : Int)) && pz_tck pc (lo + 1) r ps)
  | _, _, _ => false
theorem pz_tsw_aux {P : Nat → Prop} {x : Int32} {pc dft : Nat} : ∀ (kts : List (Int32 × Nat)) (os : List Int) (lo : Int), pz_tck pc lo kts os = true → pz_sel P (pz_ch x kts dft) →
    (x.toInt < lo ∨ lo + os.length ≤ x.toInt → P dft) ∧ (∀ j : Nat, x.toInt = lo + j → j < os.length → ∃ (t : Nat) (off : Int), os[j]? = some off ∧ (pc : Int) + off = (t : Int) ∧ P t)
  | [], [], lo, _, h => ⟨fun _ => h, fun j _ h2 => absurd h2 (Nat.not_lt_zero j)⟩
  | [], _ :: _, _, h, _ => by cases h
  | (_, _) :: _, [], _, h, _ => by cases h
  | (k, t) :: r, o :: os, lo, h, hw => by
    simp only [pz_tck, Bool.and_eq_true, decide_eq_true_eq] at h
    obtain ⟨h1, h2, h3⟩ := h
    obtain ⟨w1, w2⟩ := pz_sel_ch hw
    by_cases hx : x = k
    · subst hx
      refine ⟨fun q => ?_, fun j hj hl => ?_⟩
      · simp only [List.length_cons] at q; omega
      · have : j = 0 := by omega
        subst this
        exact ⟨t, o, rfl, h2, w1 rfl⟩
    · have hne : ¬ x.toInt = lo := fun q => hx (Int32.toInt_inj.mp (q.trans h1.symm))
      obtain ⟨g1, g2⟩ := pz_tsw_aux r os (lo + 1) h3 (w2 hx)
      refine ⟨fun q => g1 ?_, fun j hj hl => ?_⟩
      · simp only [List.length_cons] at q; omega
      · cases j with
        | zero => exact absurd (by simpa using hj) hne
        | succ j =>
          obtain ⟨t2, off, q1, q2, q3⟩ := g2 j (by omega) (by simpa using hl)
          exact ⟨t2, off, by simpa using q1, q2, q3⟩
theorem pz_tsw {M : pz_M} {d mc ms n0 : Nat} {Post : Option Value → pz_H → Prop} {pc len : Nat} {ls : pz_L} {r : List Value} {h : pz_H} {k n : Nat} {x : Int32} {dd lo hi : Int} {os : Array Int} (hd : decode M.2.1 pc = .ok (.tableswitch dd lo hi os, len)) (kts : List (Int32 × Nat)) (dft : Nat) (hhi : hi = lo + os.toList.length - 1) (hck : pz_tck pc lo kts os.toList = true) (hdd : (pc : Int) + dd = (dft : Int))
    (hw : pz_sel (fun t => pz_W M d mc ms n0 Post t ls r h k n) (pz_ch x kts dft)) : pz_W M d mc ms n0 Post pc ls (.int x :: r) h k n := by
  obtain ⟨g1, g2⟩ := pz_tsw_aux kts os.toList lo hck hw
  intro bs D kA ad ad0 p l e s m args below meth c A H locs lc X hag hP hD hS hl
  by_cases hx : x.toInt < lo ∨ hi < x.toInt
  · exact lv_tableOut X.1 X.2.1 hd hx hdd (g1 (by omega) bs D kA ad ad0 p l e s m args below meth c A H locs lc X hag hP hD hS hl)
  · obtain ⟨t, off, q1, q2, q3⟩ := g2 (x.toInt - lo).toNat (by omega) (by omega)
    rw [Array.getElem?_toList] at q1
    exact lv_tableIn X.1 X.2.1 hd (fun z => hx (Or.inl z)) (fun z => hx (Or.inr z)) q1 q2 (q3 bs D kA ad ad0 p l e s m args below meth c A H locs lc X hag hP hD hS hl)
/-! ===== the end of a method ===== -/
section
variable {M : pz_M} {d mc ms n0 pc k n : Nat} {Post : Option Value → pz_H → Prop} {ls : pz_L} {h : pz_H}
theorem pz_iret {v : Int32} {ty : FieldType} (hd : decode M.2.1 pc = .ok (.ireturn, 1)) (hr : M.2.2.2.1 = some ty) (hv : narrow ty (.int v) = .int v) (hk : k ≤ mc) (hn : n ≤ ms) (hp : Post (some (.int v)) h) : pz_W M d mc ms n0 Post pc ls [.int v] h k n := by
  intro bs D kA ad ad0 p l e s m args below meth c A H locs lc X hag hP hD hS hl
  refine W.widen hk hn ?_
  have hlocks := X.2.2.2.2.2.2.1
  exact vx_ret (W.zret X.1 X.2.1 (X.2.2.2.1.trans hr) hv (fun t ht hW => ⟨⟨some (.int v), h, ad, ⟨hp, fun _ h9 => by cases h9⟩, hag, rfl, by rw [ht]; exact hP, va_K.moved hW.alike X.2.2.2.2.2.2.2.2.1, hD⟩, hS.F ht⟩) hS.2.2 hd)
theorem pz_lret {v : Int64} (hd : decode M.2.1 pc = .ok (.lreturn, 1)) (hr : M.2.2.2.1 = some .long) (hk : k ≤ mc) (hn : n ≤ ms) (hp : Post (some (.long v)) h) : pz_W M d mc ms n0 Post pc ls [.long v] h k n := by
  intro bs D kA ad ad0 p l e s m args below meth c A H locs lc X hag hP hD hS hl
  refine W.widen hk hn ?_
  have hlocks := X.2.2.2.2.2.2.1
  exact vx_ret (W.lret X.1 X.2.1 (X.2.2.2.1.trans hr) (fun t ht hW => ⟨⟨some (.long v), h, ad, ⟨hp, fun _ h9 => by cases h9⟩, hag, rfl, by rw [ht]; exact hP, va_K.moved hW.alike X.2.2.2.2.2.2.2.2.1, hD⟩, hS.F ht⟩) hS.2.2 hd)
theorem pz_vret (hd : decode M.2.1 pc = .ok (.return_, 1)) (hr : M.2.2.2.1 = none) (hk : k ≤ mc) (hn : n ≤ ms) (hp : Post none h) : pz_W M d mc ms n0 Post pc ls [] h k n := by
  intro bs D kA ad ad0 p l e s m args below meth c A H locs lc X hag hP hD hS hl
  refine W.widen hk hn ?_
  have hlocks := X.2.2.2.2.2.2.1
  exact vx_ret (W.vret X.1 X.2.1 (X.2.2.2.1.trans hr) (fun t ht hW => ⟨⟨none, h, ad, ⟨hp, fun _ h9 => by cases h9⟩, hag, rfl, by rw [ht]; exact hP, va_K.moved hW.alike X.2.2.2.2.2.2.2.2.1, hD⟩, hS.F ht⟩) hS.2.2 hd)
theorem pz_aret {a : Nat} {C : String} (hd : decode M.2.1 pc = .ok (.areturn, 1)) (hr : M.2.2.2.1 = some (.object C)) (hk : k ≤ mc) (hn : n ≤ ms) (hp : Post (some (.ref a)) h) : pz_W M d mc ms n0 Post pc ls [.ref a] h k n := by
  intro bs D kA ad ad0 p l e s m args below meth c A H locs lc X hag hP hD hS hl
  refine W.widen hk hn ?_
  have hlocks := X.2.2.2.2.2.2.1
  exact vx_ret (W.aret X.1 X.2.1 (X.2.2.2.1.trans hr) (Or.inl ⟨C, rfl⟩) (Or.inr ⟨ad a, rfl⟩) (fun t ht hW => ⟨⟨some (.ref a), h, ad, ⟨hp, fun _ h9 => by cases h9⟩, hag, rfl, by rw [ht]; exact hP, va_K.moved hW.alike X.2.2.2.2.2.2.2.2.1, hD⟩, hS.F ht⟩) hS.2.2 hd)
end
/-! ===== a method's contract ===== -/
def pz_ws (M : pz_M) : List Cond := Cond.code M.1 M.2.1 M.2.2.1 M.2.2.2.1 :: pz_gw
def pz_Pre (bs : Nat) (D : va_G) (kA : Nat → ClassId) (ad : Nat → Nat) (sz : Nat) (h : pz_H) (U : State) : Prop := U.heap.size = sz ∧ bs ≤ sz ∧ va_P D vwCl (pz_w ad kA h) U.heap ∧ va_K D vwCl (pz_tys kA) U ∧ va_D (fun q => bs ≤ q) (pz_w ad kA h) ∧ pz_amb bs ad U U.heap
/-- M, called with av over the cells h, comes back with Post: depth d, at most mc cells of ms slots are new -/
def pz_T (M : pz_M) (d mc ms : Nat) (av : List Value) (h : pz_H) (Post : Option Value → pz_H → Prop) : Prop := ∀ (l : pz_Ln) (bs : Nat) (D : va_G) (kA : Nat → ClassId) (ad : Nat → Nat) (sz : Nat),
  Met l.1 M.1 (pz_ws M) (pz_R d mc ms) (va_Pc (av.map (pz_v ad)) (pz_Pre bs D kA ad sz h)) (pz_Q D kA ad h.length Post (va_A (pz_w ad kA h) sz)) mc ms (va_A (pz_w ad kA h) sz)
theorem pz_lg_len (ad : Nat → Nat) : ∀ av : List Value, (lg_sl (av.map (pz_v ad))).length = (lg_sl av).length
  | [] => rfl
  | v :: t => by
    have ih := pz_lg_len ad t
    simp only [lg_sl, List.map_cons, List.flatMap_cons, List.length_append, pz_v_cat] at ih ⊢
    rw [ih]
    by_cases hc : v.category = 2 <;> simp [hc]
theorem pz_args_l (ad : Nat → Nat) : ∀ (i : Nat) (av : List Value), lv_args i (av.map (pz_v ad)) = pz_l ad (lv_args i av)
  | _, [] => rfl
  | i, v :: t => by
    simp only [List.map_cons, lv_args, pz_l, pz_v_cat]
    rw [pz_args_l ad _ t]
    rfl
