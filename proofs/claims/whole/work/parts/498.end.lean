def R_law : String := "HuntingRudderLaw"
def lw_P (b : Addr) (xs : List Int32) (args : Array Value) (s : State) : Prop := args = #[.ref b] ∧ s.IntsAt b xs ∧ xs.length ≤ 3072 ∧ (Jvm.Cond.and given_1 narrow_1).before args s = true
def lw_Q (_ : Array Value) (s : State) (o : Outcome) (t : State) : Prop := o = .returned (some (.int 1)) ∧ Framed s o t [] 601024 7293034
def lw_Z (below : List Frame) (a : Array Value) (s : State) : State → Prop := fun t => ∃ o, t.status = .running ∧ Ended t below o ∧ lw_Q a s o t
/-- what holds at the law's entry: the machine, the code, the tables' words (any of lw_tbl by 'hts w (by decide +kernel)'), the script of L ints xs at the cell b, what the Statement gives of the start (any of its parts by flat_of_before) -/
def lw_At (p : Program) (s : State) (m : MethodId) (meth : Method) (c : Code) (b L : Nat) (xs : Nat → Int32) : Prop :=
  p.tables.exec = Jvm.exec ∧ c.code = code ∧ meth.sig.returnType = ret ∧ c.maxLocals = 7 ∧ s.vm.findClass R_law = some m.cls ∧ (∀ w ∈ lw_tbl, w.before #[Value.ref b] s = true) ∧ va_X b L xs s s.heap ∧ b < s.heap.size ∧ meth.locks = false ∧ meth.name = "law" ∧ (Jvm.Cond.and given_1 narrow_1).before #[Value.ref b] s = true
theorem z_room {s : State} {pl : Platform} (h : s.hasRoom pl room_1 = true) : s.hasRoom pl (pz_R 250 601024 7293034) = true := by
  simp only [State.hasRoom, Bool.and_eq_true, decide_eq_true_eq] at h ⊢
  obtain ⟨⟨⟨⟨h1, h2, h3, h4, h5, h6⟩, h7⟩, h8⟩, h9⟩ := h
  have r1 : room_1.frames = 2048 := rfl
  have r2 : room_1.cells = 601024 := rfl
  have r3 : room_1.slots = 7293034 := rfl
  have r4 : room_1.locals = 84000 := rfl
  have q1 : (pz_R 250 601024 7293034).frames = 250 := rfl
  have q2 : (pz_R 250 601024 7293034).cells = 601024 := rfl
  have q3 : (pz_R 250 601024 7293034).slots = 7293034 := rfl
  have q4 : (pz_R 250 601024 7293034).locals = 16000 := rfl
  simp only [r1, r2, r3, r4] at h1 h2 h3 h4 h5 h7 h8
  simp only [q1, q2, q3, q4]
  exact ⟨⟨⟨⟨by omega, by omega, by omega, by omega, by omega, h6⟩, by omega⟩, by omega⟩, h9⟩
theorem z_gw_sub : ∀ w ∈ pz_gw, w ∈ lw_tbl := fun w hw => (List.mem_filter.mp hw).1
theorem whole_start {p : Program} {e : Env} {s : State} {m : MethodId} {below : List Frame} {meth : Method} {c : Code} (l : Launch) (hst : l.stackTraces = false) {b L : Nat} {xs : Nat → Int32} (hL : L ≤ 3072) (C0 : lw_At p s m meth c b L xs) : W p l e room_1 s m #[Value.ref b] below meth c s.heap [] 0 0 (lw_Z below #[Value.ref b] s) (entryFrame m ([Value.ref b] : List Value).toArray 7) := by
  obtain ⟨hexec, hcode, hret, hml, hown, hts, hX, hbl, hlk, hnm, hgv⟩ := C0
  have hgw : ∀ w ∈ pz_gw, w.before #[Value.ref b] s = true := fun w hw => hts w (z_gw_sub w hw)
  obtain ⟨D, kA, hK⟩ := z_K hgw
  obtain ⟨ad, had, hamb⟩ := z_amb hts (flat_of_before _ hgv) b
  have X : pz_X mL_law s.heap.size D kA ad p s m #[Value.ref b] meth c (fun q => s.heap.size ≤ q) := ⟨hexec, hcode, hml, hret, hown, hgw, hlk, ⟨hnm, fun h9 => absurd h9 (by decide +kernel)⟩, hK, fun q hq => hq, fun q hq => hq, Nat.le_refl _, hamb⟩
  have X0 : v_pz_X L xs mL_law s.heap.size D kA ad p s m #[Value.ref b] meth c (fun q => s.heap.size ≤ q) := ⟨X, by rw [had]; exact Nat.not_le.mpr hbl, by rw [had]; exact hbl, by rw [had]; exact hX⟩
  have hl := lv_entry ([.ref 1010].map (pz_v ad)) (n := 7) (Nat.le_of_ble_eq_true rfl)
  rw [pz_args_l] at hl
  have e1 : ([Value.ref b] : List Value) = [.ref 1010].map (pz_v ad) := by
    show _ = [Value.ref (ad 1010)]
    rw [had]
  have e3 : entryFrame m ([Value.ref b] : List Value).toArray 7 = F0 m 0 ((lg_sl ([.ref 1010].map (pz_v ad)) ++ List.replicate (7 - (lg_sl ([.ref 1010].map (pz_v ad))).length) Slot.unset).toArray) [] := by
    rw [e1, lg_entry_eq]
  rw [e3]
  have hw := law_all (xs := xs) hL s.heap.size D kA ad ad p ⟨l, hst⟩ e s m #[Value.ref b] below meth c (fun q => s.heap.size ≤ q) s.heap [] _ X0 ⟨Nat.le_refl _, fun _ _ => rfl⟩ (fun k q hq => by cases hq) ⟨fun i j p q hi => by (cases hi), fun k q hq => by cases hq⟩ va_S.rf hl
  intro T hT XX
  obtain ⟨t, st, o, h1, h2, h3⟩ := hw T hT ⟨XX.admits, XX.cas, XX.clock, XX.frames, z_room XX.room, XX.hears, XX.method, XX.code, XX.here, XX.tail, XX.warmed, XX.limits, XX.bytes, XX.same⟩
  refine ⟨t, st, o, h1, h2, ?_⟩
  rcases h3 with ⟨⟨⟨r, h, ad', ⟨hr, -⟩, -, ho, -⟩, -⟩, Lc, ⟨g1, g2, g3⟩, g4⟩ | ⟨q, -, E, ce, Lc, ⟨hx, -⟩, -⟩
  · rw [hr] at ho
    exact ⟨ho, g1, g2, g3.weaken (fun y hy hlt => absurd (g4 y hy) (Nat.not_le.mpr hlt)) (Nat.le_refl _) (Nat.le_refl _)⟩
  · exact absurd hx (by decide +kernel)
set_option maxHeartbeats 4000000 in
theorem lw_walk (l : Launch) (hst : l.stackTraces = false) (b : Addr) (xs : List Int32) : MetFree l x (headSpec (Jvm.Cond.code x code maxLocals ret :: tables_1) room_1) (lw_P b xs) (fun _ _ _ _ _ => True) lw_Q := by
  refine MetFree.of_bodyS (code := code) (maxLocals := maxLocals) (ret := ret) (by decide) ?_ ?_
  · intro args s m h hn
    obtain ⟨meth, c, h1, h2, h3, h4, h5, h6, -, -⟩ := Cond.code_spec hn (atoms_spec (ws := Jvm.Cond.code x code maxLocals ret :: tables_1) h _ List.mem_cons_self)
    exact ⟨meth, c, h1, h2, h3, h4, h5, h6⟩
  · intro p e s m args below meth c s₁ B hml0 hP _
    obtain ⟨rfl, hx, hbd, hgv⟩ := hP
    obtain ⟨scr, harrAt, hlist, hof, hsmall⟩ := hx
    obtain ⟨hcb, hkn, -, -⟩ := State.arrayAt?_spec harrAt
    have hown : s.vm.findClass R_law = some m.cls := findClass_of_methodNamed B.named
    have hts0 : ∀ c ∈ (Jvm.Cond.code x code maxLocals ret :: tables_1), c.before #[Value.ref b] s = true := atoms_spec (ws := Jvm.Cond.code x code maxLocals ret :: tables_1) B.pre
    have hts : ∀ w ∈ lw_tbl, w.before #[Value.ref b] s = true := k2_hts_sels lw_privs (fun w hw => hts0 w (List.mem_cons_of_mem _ hw)) lw_privs_ok
    have hml : c.maxLocals = 7 := B.maxLocals_eq (hts0 _ List.mem_cons_self)
    have X₀ : Stand p l e room_1 s m #[Value.ref b] below meth c s₁ [] 0 0 := Stand.of_body B
    have hh0 : s₁.heap = s.heap := by rw [B.state]; rfl
    have hsz : scr.slots.size = xs.length := by rw [← Array.length_toList, hlist, List.length_map]
    have hval : ∀ j : Nat, j < xs.length → scr.slots[j]? = some (.int (xs.getD j 0)) := fun j hj => by
      rw [← Array.getElem?_toList, hlist]
      simp [hj]
    have hbl : b < s.heap.size := (Array.getElem?_eq_some_iff.mp hcb).1
    have hX : va_X b xs.length (fun j => xs.getD j 0) s s.heap := ⟨scr, hcb, hof, hkn, hsz, hval⟩
    have K : W p l e room_1 s m #[Value.ref b] below meth c s₁.heap [] 0 0 (lw_Z below #[Value.ref b] s) (entryFrame m ([Value.ref b] : List Value).toArray 7) := by
      rw [hh0]
      exact whole_start l hst hbd ⟨B.exec, B.bytes, B.returns, hml, hown, hts, hX, hbl, B.notSynchronized, (name_of_methodNamed B.named B.method).1, hgv⟩
    obtain ⟨t, a1, o, b1, b2, b3⟩ := K s₁ rfl X₀
    exact ⟨t, o, a1, b1, b2, b3⟩
theorem lw_pre_spec {args : Array Value} {s : State} (h : (Jvm.Cond.and given_1 narrow_1).before args s = true) (hr : rest_1_c.before args s = true) : ∃ (b : Addr) (xs : List Int32), lw_P b xs args s := by
  have hs := flat_of_before _ h
  have hq := flat_of_before _ hr
  have hc : (Cond.count 1).before args s = true := hs _ (by decide +kernel)
  have harr : (Cond.arrayOf (.arg 0) .int).before args s = true := hs _ (by decide +kernel)
  have hle : (Cond.le (.length (.arg 0)) (.int 3072)).before args s = true := hs _ (by decide +kernel)
  have hlen : (Cond.isInt (.length (.arg 0))).before args s = true := hq _ (by decide +kernel)
  have hall : (Cond.all (.arg 0) (.isInt (.elem (.arg 0) (.index 0)))).before args s = true := hq _ (by decide +kernel)
  obtain ⟨b, xs, hb, hx⟩ := State.ints_of_pre rfl harr hlen hall
  have hsm : xs.length < 2 ^ 31 := hx.choose_spec.2.2.2
  have hev : (Term.length (.arg 0)).eval args s none [] s = some (.int xs.length.toInt32) := hx.length_eval hb
  have hv := Cond.le_ints hev (show (Term.int 3072).eval args s none [] s = some (.int 3072) from rfl)
  have hd : xs.length.toInt32 ≤ 3072 := by
    simpa [Cond.before, Cond.holds, hv] using hle
  have hN : xs.length ≤ 3072 := (Int32.ofNat_le_ofNat hsm (by decide)).mp (show Int32.ofNat xs.length ≤ Int32.ofNat 3072 from hd)
  exact ⟨b, xs, Cond.one_arg hc (show args[0]? = some (.ref b) from hb), hx, hN, h⟩
theorem lw_comes (l : Launch) (hst : l.stackTraces = false) : Comes l x (Jvm.Cond.code x code maxLocals ret :: tables_1) room_1 (fun tb e args s => Calls_1 tb e args s ∧ rest_1 tb e args s ∧ Pre_1 tb e args s)
    (fun _ _ args s o t => lw_Q args s o t) := by
  intro p e ha hc hk s m args below hf hfit hheap happ hpre
  obtain ⟨b, xs, hP⟩ := lw_pre_spec hpre.2.2 hpre.2.1
  obtain ⟨k, o, h1, h2, h3, hQ⟩ := lw_walk l hst b xs p e ha hc hk s m args below hf ((Spec.applies_iff_loose hf).mp happ).1 hP trivial
  exact ⟨k, o, h1, h2, h3, hQ⟩
theorem lw_frame {s t : State} {o : Outcome} {args : Array Value} (h : Framed s o t [] 601024 7293034) :
    Framed s o t (fieldLocs frame_1_writes args s ++ arrayLocs frame_1_arrays args s ++ staticLocs frame_1_statics s) 601024 7293034 := h
theorem lw_limb (L : Cond) (hL : ∀ (args : Array Value) (s t : State), L.after args s (.returned (some (.int 1))) t = true) :
    ArmFor flags0 classFile x code maxLocals ret World_1 tables_1 room_1 Calls_1 rest_1 Pre_1
      (fun tb e a s o t => postC L tb e a s o t ∧ Framed s o t (fieldLocs frame_1_writes a s ++ arrayLocs frame_1_arrays a s ++ staticLocs frame_1_statics s) 601024 7293034) := by
  intro l hfl _ _ p e ha hc hk s m args below hf hfit hheap happ hpre
  have hst : l.stackTraces = false := by
    unfold Launch.stackTraces
    rw [hfl]
    decide +kernel
  obtain ⟨k, o, h1, h2, h3, rfl, hF⟩ := lw_comes l hst p e ha hc hk s m args below hf hfit hheap happ hpre
  exact ⟨k, _, h1, h2, h3, hL args s _, lw_frame hF⟩
theorem i_vc : Claimed_1_1 ∧ Claimed_1_2 := ⟨lw_limb limb_1_1 (fun args s t => by simp [limb_1_1, Cond.after, Cond.holds, Cond.value]), lw_limb limb_1_2 (fun args s t => Cond.after_iff.mpr (by
  first | (rw [show limb_1_2 = Cond.eq .result (.int 1) from rfl, Cond.eq_ints (x := 1) (y := 1) rfl rfl]; simp; done) | (simp [limb_1_2, Cond.value, Term.eval]; done)))⟩
