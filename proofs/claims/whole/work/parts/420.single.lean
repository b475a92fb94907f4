-- deps: 100 110 111 112 113 114 115 116 117 118 119 120 121 130 131 132 133 134 135 136 137 138 139 140 141 142 143 144 145 146 200 201 202 203 204 205 206 207 208 209 210 211 212 213 214 215 216 217 218 219
section
variable {fu : Nat} {wl wr : Int32} {pa sh K st mi ks kv wf wt ot : Nat → Int32} {W : Nat}
theorem upd_off {f g : Nat → Int32} {a : Nat} (h : ∀ i, ¬ i = a → f i = g i) (v : Int32) : upd f a v = upd g a v := by
  funext i
  unfold upd
  by_cases e : i = a
  · rw [if_pos e, if_pos e]
  · rw [if_neg e, if_neg e]; exact h i e
theorem upd_own {f g : Nat → Int32} {a : Nat} (h : ∀ i, ¬ i = a → f i = g i) : upd f a (g a) = g := by
  funext i
  unfold upd
  by_cases e : i = a
  · rw [if_pos e, e]
  · rw [if_neg e]; exact h i e
theorem restv_step {most own v : Int} (h : v ≤ most) (ho : own ≤ most) : restv most own v = restv most own (v + 1) + (if v = own then 0 else 1) := by
  unfold restv
  by_cases e : v = own
  · rw [if_pos e, if_pos (by omega), if_neg (by omega)]; omega
  · rw [if_neg e]
    by_cases g : v ≤ own
    · rw [if_pos g, if_pos (by omega)]; omega
    · rw [if_neg g, if_neg (by omega)]; omega
theorem single_L (hfu : 10000 ≤ fu) (hs : setOk pa sh) (h : whAll wl wr K st mi ks kv wf wt ot W) (d off mk : Int32) (ho : isOffP off) {sm om : Nat → Int32} {M : Nat} (hM : markOk mk sm om M) (p fw : Int32) (a : Nat) (hp : p.toInt = a) (ha : a < 5) (R : Nat) : ∀ (n fc fr : Nat) (v sus c0 c1 c2 c3 c4 c5 c6 c7 : Int32) (J : Nat) (pt tt found : Nat → Int32) (vals : Nat → Int64) (wm : Int32) (partR now : Nat → Int32) (w : Nat → Int64) (op ov tp tv : Nat → Int32), v.toInt + n = (ro1 a).toInt + 1 → (ro0 a).toInt ≤ v.toInt → n < fc → sus.toInt = J → J + restv (ro1 a).toInt (pa a).toInt v.toInt + R ≤ 318 → foundRel J found op ov tp tv → (∀ i, ¬ i = a → partR i = pa i) →
    ∃ (J' : Nat) (sus' c0' c1' c2' c3' c4' c5' c6' c7' : Int32) (pt' tt' found' : Nat → Int32) (vals' : Nat → Int64) (wm' : Int32) (now' : Nat → Int32) (w' : Nat → Int64) (op' ov' tp' tv' : Nat → Int32), sus'.toInt = J' ∧ J ≤ J' ∧ J' + R ≤ 318 ∧ foundRel J' found' op' ov' tp' tv' ∧
      FX10_tryPart_L fu p mk d off sm om wl wr K st mi pa sh fc v sus c0 c1 c2 c3 c4 c5 c6 c7 pt tt found vals = some (sus', c0', c1', c2', c3', c4', c5', c6', c7', pt', tt', found', vals') ∧
      FX12_seeks_L fu d off wl mk ks kv wf wt ot sh sm om (fr + n + 1) 1 p (pa a) v wm sus fw partR now w op ov tp tv = FX12_seeks_L fu d off wl mk ks kv wf wt ot sh sm om fr 0 (p + 1) 0 0 wm' sus' fw pa now' w' op' ov' tp' tv' := by
  have q1 := t_1
  obtain ⟨r1, r2, r3, r4, r5, r6, r7⟩ := rng_eq hp ha
  obtain ⟨w1, w2⟩ := own_in hs ha
  intro n
  induction n with
  | zero =>
    intro fc fr v sus c0 c1 c2 c3 c4 c5 c6 c7 J pt tt found vals wm partR now w op ov tp tv hv hv0 hfc hJ hcnt hf hR
    obtain ⟨fc, rfl⟩ : ∃ g, fc = g + 1 := ⟨fc - 1, by omega⟩
    have gx : ro1 a < v := by rw [i_lt]; omega
    refine ⟨J, sus, c0, c1, c2, c3, c4, c5, c6, c7, pt, tt, found, vals, wm, now, w, op, ov, tp, tv, hJ, Nat.le_refl _, by omega, hf, ?_, ?_⟩
    · rw [FX10_tryPart_L, if_pos r4, r3, if_pos gx]
    · rw [FX12_seeks_L, if_neg (show ¬ (1 : Nat) = 0 by omega), if_pos rfl, r2, if_pos gx, if_pos r4, r3, upd_own hR]
  | succ n ih =>
    intro fc fr v sus c0 c1 c2 c3 c4 c5 c6 c7 J pt tt found vals wm partR now w op ov tp tv hv hv0 hfc hJ hcnt hf hR
    obtain ⟨fc, rfl⟩ : ∃ g, fc = g + 1 := ⟨fc - 1, by omega⟩
    have gx : ¬ ro1 a < v := by rw [i_lt]; omega
    have hsv := i_add v 1 (by omega) (by omega)
    have hup : ∀ i, ¬ i = a → upd partR a v i = pa i := by
      intro i hi
      unfold upd
      rw [if_neg hi]
      exact hR i hi
    have hstep := restv_step (most := (ro1 a).toInt) (own := (pa a).toInt) (v := v.toInt) (by omega) w2
    have hv1 : (v + 1).toInt = v.toInt + 1 := by omega
    by_cases g : v = pa a
    · have gi : v.toInt = (pa a).toInt := by rw [g]
      rw [if_pos gi] at hstep
      obtain ⟨J', sus', c0', c1', c2', c3', c4', c5', c6', c7', pt', tt', found', vals', wm', now', w', op', ov', tp', tv', b1, b2, b3, b4, b5, b6⟩ := ih fc fr (v + 1) sus c0 c1 c2 c3 c4 c5 c6 c7 J pt tt found vals wm (upd partR a v) now w op ov tp tv (by rw [hv1]; omega) (by rw [hv1]; omega) (by omega) hJ (by rw [hv1]; omega) hf hup
      refine ⟨J', sus', c0', c1', c2', c3', c4', c5', c6', c7', pt', tt', found', vals', wm', now', w', op', ov', tp', tv', b1, b2, b3, b4, ?_, ?_⟩
      · rw [FX10_tryPart_L, if_pos r4, r3, if_neg gx, if_pos r4, if_pos g]
        exact b5
      · rw [show fr + (n + 1) + 1 = (fr + n + 1) + 1 by omega, FX12_seeks_L, if_neg (show ¬ (1 : Nat) = 0 by omega), if_pos rfl, r2, if_neg gx, if_pos r4, r3, if_pos g]
        exact b6
    · have gi : ¬ v.toInt = (pa a).toInt := fun z => g (i_eq.mpr z)
      rw [if_neg gi] at hstep
      have hsu := sus_one (p := p) (v := v) (by omega) (by omega) (by omega) (by omega)
      have hok : setOk (upd partR a v) sh := by rw [upd_off hR]; exact setOk_part hs ha hv0 (by omega)
      have hrel : setRel (fX10_fail_a1 (((p ||| (v <<< (4 &&& 31))) ||| 3840) ||| 61440) (va_cpy pa pt 0 0 5)) (va_cpy sh tt 0 0 3) (upd partR a v) sh := by
        rw [fail_one hsu hp ha hv0 (by omega)]
        refine ⟨fun i hi => ?_, cpy3 sh tt⟩
        unfold upd
        by_cases e : i = a
        · rw [if_pos e, if_pos e]
        · rw [if_neg e, if_neg e, cpy5 pa pt i hi, hR i e]
      obtain ⟨T, vals1, wm1, T1, w1', J1, sus1, found1, op1, ov1, tp1, tv1, d1, d2, d3, d4, d5, d6⟩ := try_both hfu hok h d off mk ho hM _ p v (-1) (-1) sus hsu J hJ (by omega) _ _ found hrel vals wm now w op ov tp tv hf
      obtain ⟨J', sus', c0', c1', c2', c3', c4', c5', c6', c7', pt', tt', found', vals', wm', now', w', op', ov', tp', tv', b1, b2, b3, b4, b5, b6⟩ := ih fc fr (v + 1) sus1 (T 0) (T 1) (T 2) (T 3) (T 4) (T 5) (T 6) (T 7) J1 (fX10_fail_a1 (((p ||| (v <<< (4 &&& 31))) ||| 3840) ||| 61440) (va_cpy pa pt 0 0 5)) (va_cpy sh tt 0 0 3) found1 vals1 wm1 (upd partR a v) T1 w1' op1 ov1 tp1 tv1 (by rw [hv1]; omega) (by rw [hv1]; omega) (by omega) d1 (by rw [hv1]; omega) d4 hup
      refine ⟨J', sus', c0', c1', c2', c3', c4', c5', c6', c7', pt', tt', found', vals', wm', now', w', op', ov', tp', tv', b1, by omega, b3, b4, ?_, ?_⟩
      · rw [FX10_tryPart_L, if_pos r4, r3, if_neg gx, if_pos r4, if_neg g, d5, Option.bind_some]
        exact b5
      · rw [show fr + (n + 1) + 1 = (fr + n + 1) + 1 by omega, FX12_seeks_L, if_neg (show ¬ (1 : Nat) = 0 by omega), if_pos rfl, r2, if_neg gx, if_pos r4, r3, if_neg g]
        rcases d6 with ⟨-, e1, e2⟩ | ⟨e0, e1, e2, e3, e4, e5⟩
        · rw [e1, Option.bind_some, if_neg (show ¬ (1 : Int32) = 0 by decide), e2, Option.bind_some]
          exact b6
        · rw [e5, Option.bind_some, if_pos rfl]
          subst e0 e1 e2 e3 e4
          exact b6
end
