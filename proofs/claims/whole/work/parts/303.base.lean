/-! ===== a pure machine: cells, values, words ===== -/
def pz_need (w : Cond) : Bool := match w with
  | .code .. | .methodLink .. | .fieldLink .. | .classLink .. | .instanceMethod _ | .static _ | .initialized _ | .selects .. | .lays .. | .laysFinal .. | .instantiable .. | .constant .. | .constantLong .. | .arrayClass _ | .native _ => true
  | _ => false
def pz_nest (w : Cond) : Bool := match w with
  | .fieldLinkNest .. | .methodLinkNest .. => true
  | _ => false
/-- the words that every method of ours is given -/
def pz_gw : List Cond := lw_tbl.filter pz_need
def pz_nw : List Cond := lw_tbl.filter pz_nest
theorem pz_gw_good : pz_gw.all goodWord = true := by decide +kernel
/-- an array: kind (0 int, 1 long, 2 byte, 3 boolean), length, what it holds; an object: its class among vwCl, its fields -/
abbrev pz_C : Type := (Nat × vp_A) ⊕ (Nat × List Value)
abbrev pz_H : Type := List pz_C
abbrev pz_L : Type := List (Nat × Value)
/-- an instruction: its place, itself, its length, numbers about it, a constant -/
abbrev pz_I : Type := Nat × Instr × Nat × List Nat × Value
/-- a method: name, bytes, locals, return type, instructions -/
abbrev pz_M : Type := MethodName × ByteArray × Nat × Option FieldType × List pz_I
def pz_v (ad : Nat → Nat) (v : Value) : Value := match v with
  | .ref k => .ref (ad k)
  | .int x => .int x
  | .long x => .long x
  | .float x => .float x
  | .double x => .double x
  | .null => .null
  | .retAddr x => .retAddr x
theorem pz_v_cat (ad : Nat → Nat) (v : Value) : (pz_v ad v).category = v.category := by cases v <;> rfl
def pz_e (ad : Nat → Nat) (kA : Nat → ClassId) (c : pz_C) : va_E := match c with
  | .inl a => .inl (kA a.1, a.2)
  | .inr o => .inr (o.1, o.2.map (pz_v ad))
def pz_w (ad : Nat → Nat) (kA : Nat → ClassId) (h : pz_H) : va_W := h.mapIdx (fun i c => (ad i, pz_e ad kA c))
def pz_l (ad : Nat → Nat) (l : pz_L) : pz_L := l.map (fun q => (q.1, pz_v ad q.2))
def pz_tys (kA : Nat → ClassId) : List (ClassId × FieldType) := [(kA 0, .int), (kA 1, .long), (kA 2, .byte), (kA 3, .boolean)]
def pz_put {α : Type} : List α → Nat → α → List α
  | [], _, _ => []
  | _ :: t, 0, y => y :: t
  | x :: t, n + 1, y => x :: pz_put t n y
theorem pz_at_eq {α : Type} : ∀ (l : List α) (i : Nat), pz_at l i = l[i]?
  | [], i => by simp [pz_at]
  | x :: t, 0 => by simp [pz_at]
  | x :: t, n + 1 => by simp [pz_at, pz_at_eq t n]
theorem pz_put_eq {α : Type} : ∀ (l : List α) (i : Nat) (y : α), pz_put l i y = l.set i y
  | [], i, y => by simp [pz_put]
  | x :: t, 0, y => by simp [pz_put]
  | x :: t, n + 1, y => by simp [pz_put, pz_put_eq t n y]
theorem pz_w_get {ad : Nat → Nat} {kA : Nat → ClassId} {h : pz_H} {i : Nat} {c : pz_C} (hc : pz_at h i = some c) : (pz_w ad kA h)[i]? = some (ad i, pz_e ad kA c) := by
  rw [pz_at_eq] at hc
  simp [pz_w, hc]
theorem pz_w_set {ad : Nat → Nat} {kA : Nat → ClassId} {h : pz_H} {i : Nat} {c : pz_C} : (pz_w ad kA h).set i (ad i, pz_e ad kA c) = pz_w ad kA (pz_put h i c) := by
  rw [pz_put_eq]
  apply List.ext_getElem?
  intro j
  simp only [pz_w, List.getElem?_set, List.getElem?_mapIdx, List.length_mapIdx]
  by_cases hj : i = j
  · subst hj
    by_cases hl : i < h.length <;> simp [hl]
  · simp [hj]
theorem pz_w_push {ad : Nat → Nat} {kA : Nat → ClassId} {h : pz_H} {c : pz_C} : pz_w ad kA h ++ [(ad h.length, pz_e ad kA c)] = pz_w ad kA (h ++ [c]) := by
  simp [pz_w, List.mapIdx_append]
theorem pz_w_len {ad : Nat → Nat} {kA : Nat → ClassId} {h : pz_H} : (pz_w ad kA h).length = h.length := by simp [pz_w]
theorem pz_w_inv {ad : Nat → Nat} {kA : Nat → ClassId} {h : pz_H} {i : Nat} {q : Nat × va_E} (hq : (pz_w ad kA h)[i]? = some q) : ∃ c, pz_at h i = some c ∧ q = (ad i, pz_e ad kA c) := by
  simp only [pz_w, List.getElem?_mapIdx] at hq
  cases hc : h[i]? with
  | none => rw [hc] at hq; cases hq
  | some c => rw [hc] at hq; exact ⟨c, by rw [pz_at_eq, hc], (Option.some.inj hq).symm⟩
/-- locals: read, write -/
def pz_get (i : Nat) : pz_L → Option Value
  | [] => none
  | (j, v) :: t => if j = i then some v else pz_get i t
theorem pz_get_mem {i : Nat} {v : Value} : ∀ {l : pz_L}, pz_get i l = some v → (i, v) ∈ l
  | [], h => by cases h
  | (j, w) :: t, h => by
    unfold pz_get at h
    by_cases hj : j = i
    · rw [if_pos hj] at h
      cases h
      rw [hj]
      exact List.mem_cons_self
    · rw [if_neg hj] at h
      exact List.mem_cons_of_mem _ (pz_get_mem h)
def pz_ins (i : Nat) (v : Value) : pz_L → pz_L
  | [] => [(i, v)]
  | (j, w) :: t => if i < j then (i, v) :: (j, w) :: t else (j, w) :: pz_ins i v t
theorem pz_ins_mem {i : Nat} {v : Value} {q : Nat × Value} : ∀ {l : pz_L}, q ∈ pz_ins i v l → q ∈ (i, v) :: l
  | [], h => h
  | (j, w) :: t, h => by
    unfold pz_ins at h
    by_cases hj : i < j
    · rw [if_pos hj] at h
      exact h
    · rw [if_neg hj] at h
      rcases List.mem_cons.mp h with h | h
      · rw [h]; exact List.mem_cons_of_mem _ List.mem_cons_self
      · rcases List.mem_cons.mp (pz_ins_mem h) with h | h
        · rw [h]; exact List.mem_cons_self
        · exact List.mem_cons_of_mem _ (List.mem_cons_of_mem _ h)
def pz_k1 (i : Nat) (q : Nat × Value) : Bool := !(q.1 == i) && !(q.1 + 1 == i && q.2.category == 2)
def pz_k2 (i : Nat) (q : Nat × Value) : Bool := !(q.1 == i) && (!(q.1 == i + 1) && !(q.1 + 1 == i && q.2.category == 2))
def pz_set1 (i : Nat) (v : Value) (l : pz_L) : pz_L := pz_ins i v (l.filter (pz_k1 i))
def pz_set2 (i : Nat) (v : Value) (l : pz_L) : pz_L := pz_ins i v (l.filter (pz_k2 i))
theorem pz_has_sub {ls : Array Slot} {nL : Nat} {l l' : pz_L} (h : lv_has ls nL l) (hs : ∀ q ∈ l', q ∈ l) : lv_has ls nL l' := ⟨h.1, h.2.1, fun q hq => h.2.2 q (hs q hq)⟩
theorem pz_l_mem {ad : Nat → Nat} {l : pz_L} {q : Nat × Value} (h : q ∈ l) : (q.1, pz_v ad q.2) ∈ pz_l ad l := List.mem_map.mpr ⟨q, h, rfl⟩
theorem pz_l_set1 {ad : Nat → Nat} {i : Nat} {v : Value} {l : pz_L} {q : Nat × Value} (h : q ∈ pz_l ad (pz_set1 i v l)) : q ∈ (i, pz_v ad v) :: (pz_l ad l).filter (fun q => !(q.1 == i) && !(q.1 + 1 == i && q.2.category == 2)) := by
  obtain ⟨r, hr, rfl⟩ := List.mem_map.mp h
  rcases List.mem_cons.mp (pz_ins_mem hr) with hr | hr
  · rw [hr]; exact List.mem_cons_self
  · obtain ⟨h1, h2⟩ := List.mem_filter.mp hr
    refine List.mem_cons_of_mem _ (List.mem_filter.mpr ⟨pz_l_mem h1, ?_⟩)
    rw [pz_v_cat]
    exact h2
theorem pz_l_set2 {ad : Nat → Nat} {i : Nat} {v : Value} {l : pz_L} {q : Nat × Value} (h : q ∈ pz_l ad (pz_set2 i v l)) : q ∈ (i, pz_v ad v) :: (pz_l ad l).filter (fun q => !(q.1 == i) && (!(q.1 == i + 1) && !(q.1 + 1 == i && q.2.category == 2))) := by
  obtain ⟨r, hr, rfl⟩ := List.mem_map.mp h
  rcases List.mem_cons.mp (pz_ins_mem hr) with hr | hr
  · rw [hr]; exact List.mem_cons_self
  · obtain ⟨h1, h2⟩ := List.mem_filter.mp hr
    refine List.mem_cons_of_mem _ (List.mem_filter.mpr ⟨pz_l_mem h1, ?_⟩)
    rw [pz_v_cat]
    exact h2
theorem pz_l_at {ad : Nat → Nat} {ls : Array Slot} {nL i : Nat} {l : pz_L} {v : Value} (h : lv_has ls nL (pz_l ad l)) (hg : pz_get i l = some v) : ls[i]? = some (.val (pz_v ad v)) := h.2.2 (i, pz_v ad v) (pz_l_mem (pz_get_mem hg))
/-- conditions of a stretch -/
def pz_all : List Prop → Prop
  | [] => True
  | [c] => c
  | c :: d :: r => c ∧ pz_all (d :: r)
theorem pz_all_cons {c : Prop} {r : List Prop} (h : pz_all (c :: r)) : c ∧ pz_all r := by
  cases r with
  | nil => exact ⟨h, trivial⟩
  | cons d r => exact h
theorem pz_all_app : ∀ {a b : List Prop}, pz_all (a ++ b) → pz_all a ∧ pz_all b
  | [], b, h => ⟨trivial, h⟩
  | [c], b, h => by
    have h := pz_all_cons h
    exact h
  | c :: d :: r, b, h => by
    have h := pz_all_cons h
    have h2 := pz_all_app (a := d :: r) h.2
    exact ⟨⟨h.1, h2.1⟩, h2.2⟩
/-! ===== statics that nobody writes ===== -/
def pz_ri (j : Nat) : Option (Nat × (Nat → Int32)) := match j with
  | 0 => some (5, fun i => ([0, 0, 1, 0, 0] : List Int32).getD i 0)
  | 1 => some (5, fun i => ([8, 8, 9, 3, 2] : List Int32).getD i 0)
  | 2 => some (3, fun i => ([1, 1, -9] : List Int32).getD i 0)
  | 3 => some (3, fun i => ([20, 9, 9] : List Int32).getD i 0)
  | _ => none
def pz_rl (j : Nat) : Option (Nat × (Nat → Int64)) := match j with
  | 4 => some (6, fun i => ([-6148914691236517206, -3689348814741910324, -1085102592571150096, -71777214294589696, -281470681808896, -4294967296] : List Int64).getD i 0)
  | _ => none
def pz_sn (j : Nat) : String × String × String := match j with
  | 0 => ("HuntingRudder$Settings", "PART_LEAST", "[I")
  | 1 => ("HuntingRudder$Settings", "PART_MOST", "[I")
  | 2 => ("HuntingRudder$Settings", "SHIP_LEAST", "[I")
  | 3 => ("HuntingRudder$Settings", "SHIP_MOST", "[I")
  | _ => ("HuntingRudder$Knots", "GEAR_TABLES", "[J")
def pz_wt : String := "if gear safe row or and not off turn wheel ram rudder "
/-- a launch without stack traces -/
abbrev pz_Ln : Type := {l : Launch // l.stackTraces = false}
/-- the words that a throw of the class takes, and its catching by the law -/
def pz_IO : String := "java/lang/IndexOutOfBoundsException"
def pz_NS : String := "java/util/NoSuchElementException"
def pz_nm : List String := ["java/lang/RuntimeException", "java/lang/Exception"]
def pz_c13 : ByteArray := ⟨#[0x2a, 0x2b, 0xb7, 0x00, 0x0d, 0xb1]⟩
def vx_atX (own : String) (ic : Nat) (X : String) (ix : Nat) (rx : ByteArray) (names : List String) : List Cond := (Bundle.ownAtomsX own ic X ix rx names).filter vx_no
/-- the exception table of the law's own row -/
def pz_hh : List (Nat × Nat × Nat × Nat) := [(0, 10, 13, 13), (0, 10, 17, 15)]
def pz_tw : List Cond := vx_atX "HuntingRudder" 138 pz_IO 7 Bundle.six pz_nm ++ (vx_atX "HuntingRudder" 152 pz_NS 13 pz_c13 pz_nm ++ [.classLink "HuntingRudder" 134 pz_IO, .classLink "HuntingRudder" 148 pz_NS, .initialized pz_IO, .initialized pz_NS, .classLink "HuntingRudderLaw" 13 pz_IO, .classLink "HuntingRudderLaw" 15 pz_NS, .codeWith yL_row cL_row 5 (some .int) pz_hh])
/-- a word that stays: a good one, 'castable', 'declares' -/
def pz_tok (w : Cond) : Bool := match w with
  | .castable .. => true
  | .declares _ => true
  | w => w.onTables && w.keeps
theorem pz_tw_ok : pz_tw.all pz_tok = true := by decide +kernel
theorem pz_tok_tab {w : Cond} (h : pz_tok w = true) : w.onTables = true := by
  unfold pz_tok at h
  split at h
  · rfl
  · rfl
  · exact (Bool.and_eq_true_iff.mp h).1
theorem pz_tok_same {w : Cond} (h : pz_tok w = true) {u U : State} (hv : u.vm = U.vm) (hz : va_Nw w u) : va_Nw w U := va_Nw.same (pz_tok_tab h) hv hz
theorem pz_tok_warm {w : Cond} (h : pz_tok w = true) {s U : State} (hW : s.WarmedH U.vm) (hz : va_Nw w s) : va_Nw w U := by
  unfold pz_tok at h
  split at h
  · exact va_Nw.warmC hW hz
  · exact va_Nw.warmD hW hz
  · exact word_at hW (Or.inl h) hz
/-- what a throw of the class takes: Throwable's two statics, the two texts, the words -/
def pz_thr (bs : Nat) (ad : Nat → Nat) (U : State) (H : Heap) : Prop := vx_Zq Bundle.tN "UNASSIGNED_STACK" Bundle.steD (fun q => bs ≤ q) U H ∧ vx_Zq Bundle.tN "SUPPRESSED_SENTINEL" Bundle.listD (fun q => bs ≤ q) U H ∧ vk_R "HuntingRudder" 136 "no such ROW" (ad 1008) U ∧ vk_R "HuntingRudder" 150 "no such what" (ad 1009) U ∧ (∀ w ∈ pz_tw, va_Nw w U) ∧ va_Nc pz_NS pz_IO U
/-- the reference's text of words: a String at ad 1005, its bytes at ad 1006 -/
def pz_str (bs : Nat) (ad : Nat → Nat) (U : State) (H : Heap) : Prop :=
  vk_R "HuntingRudderModel" 151 pz_wt (ad 1005) U ∧ va_O "java/lang/String" (ad 1005) (fun q => bs ≤ q) U H ∧ va_OF "java/lang/String" "value" "[B" (.ref (ad 1006)) (ad 1005) (fun q => bs ≤ q) U H ∧
  va_OF "java/lang/String" "coder" "B" (.int 0) (ad 1005) (fun q => bs ≤ q) U H ∧ va_T .byte (ad 1006) 54 (fun i => .int (pz_wb.getD i 0)) (fun q => bs ≤ q) U H ∧ va_Z "java/lang/String" "COMPACT_STRINGS" "Z" (.int 1) (fun q => bs ≤ q) U H ∧
  (va_Z "jdk/internal/util/Preconditions" "SIOOBE_FORMATTER" "Ljava/util/function/BiFunction;" .null (fun q => bs ≤ q) U H ∨ va_Z "jdk/internal/util/Preconditions" "SIOOBE_FORMATTER" "Ljava/util/function/BiFunction;" (.ref (ad 1007)) (fun q => bs ≤ q) U H) ∧ pz_thr bs ad U H
/-- what holds around all that runs: links to members of nest mates; the static arrays, below bs, at ad 1000 .. -/
def pz_amb (bs : Nat) (ad : Nat → Nat) (U : State) (H : Heap) : Prop :=
  (∀ w ∈ pz_nw, va_Nw w U) ∧ (∀ j, j < 5 → va_Z (pz_sn j).1 (pz_sn j).2.1 (pz_sn j).2.2 (.ref (ad (1000 + j))) (fun q => bs ≤ q) U H) ∧
  (∀ j n f, pz_ri j = some (n, f) → va_T .int (ad (1000 + j)) n (fun i => .int (f i)) (fun q => bs ≤ q) U H) ∧
  (∀ j n f, pz_rl j = some (n, f) → va_T .long (ad (1000 + j)) n (fun i => .long (f i)) (fun q => bs ≤ q) U H) ∧ pz_str bs ad U H
def pz_R (d mc ms : Nat) : Room := { frames := d, cells := mc, slots := ms, locals := 64 * d }
/-- but for new cells nothing has another place -/
def pz_ag (n0 : Nat) (h : pz_H) (ad ad0 : Nat → Nat) : Prop := n0 ≤ h.length ∧ ∀ i, (i < n0 ∨ h.length ≤ i) → ad i = ad0 i
theorem pz_ag_put {n0 a : Nat} {h : pz_H} {c : pz_C} {ad ad0 : Nat → Nat} (hg : pz_ag n0 h ad ad0) : pz_ag n0 (pz_put h a c) ad ad0 := by
  have e : (pz_put h a c).length = h.length := by rw [pz_put_eq, List.length_set]
  unfold pz_ag
  rw [e]
  exact hg
/-- the one method that throws: row; the end 'retAddr 0' stands for the first exception, 'retAddr 1' for the second -/
def pz_xr (M : pz_M) : Bool := M.1.name == "row" && M.1.cls == "HuntingRudder"
/-- what is known at every place of a method -/
def pz_X (M : pz_M) (bs : Nat) (D : va_G) (kA : Nat → ClassId) (ad : Nat → Nat) (p : Program) (s : State) (m : MethodId) (args : Array Value) (meth : Method) (c : Code) (A : Nat → Prop) : Prop :=
  p.tables.exec = Jvm.exec ∧ c.code = M.2.1 ∧ c.maxLocals = M.2.2.1 ∧ meth.sig.returnType = M.2.2.2.1 ∧ s.vm.findClass M.1.cls = some m.cls ∧ (∀ w ∈ pz_gw, w.before args s = true) ∧ meth.locks = false ∧ (meth.name = M.1.name ∧ (pz_xr M = true → ∀ x ∈ c.exceptionTable.toList, False)) ∧
  va_K D vwCl (pz_tys kA) s ∧ (∀ q, s.heap.size ≤ q → A q) ∧ (∀ q, A q → bs ≤ q) ∧ bs ≤ s.heap.size ∧ pz_amb bs ad s s.heap
/-- a value that a method returns (no 'retAddr': these stand for throws) -/
def pz_rt (Post : Option Value → pz_H → Prop) (r : Option Value) (h : pz_H) : Prop := Post r h ∧ ∀ i, r ≠ some (.retAddr i)
def pz_Q (D : va_G) (kA : Nat → ClassId) (ad0 : Nat → Nat) (n0 : Nat) (Post : Option Value → pz_H → Prop) (A : Nat → Prop) : Array Value → State → Outcome → State → Prop := fun _ st oc t =>
  (∃ (r : Option Value) (h : pz_H) (ad : Nat → Nat), pz_rt Post r h ∧ pz_ag n0 h ad ad0 ∧ oc = .returned (r.map (pz_v ad)) ∧ va_P D vwCl (pz_w ad kA h) t.heap ∧ va_K D vwCl (pz_tys kA) t ∧ va_D A (pz_w ad kA h)) ∧ va_F A st t
def pz_xn (E : String) : Option Nat := if E = pz_IO then some 0 else if E = pz_NS then some 1 else none
def pz_XC (M : pz_M) (D : va_G) (kA : Nat → ClassId) (ad0 : Nat → Nat) (n0 : Nat) (Post : Option Value → pz_H → Prop) (A : Nat → Prop) : String → State → State → Prop := fun E st t =>
  pz_xr M = true ∧ (∃ (i : Nat) (h : pz_H) (ad : Nat → Nat), pz_xn E = some i ∧ Post (some (.retAddr i)) h ∧ pz_ag n0 h ad ad0 ∧ va_P D vwCl (pz_w ad kA h) t.heap ∧ va_K D vwCl (pz_tys kA) t ∧ va_D A (pz_w ad kA h)) ∧ va_F A st t
/-- from here the method M (depth d, mc cells and ms slots) comes to an end with Post -/
def pz_W (M : pz_M) (d mc ms n0 : Nat) (Post : Option Value → pz_H → Prop) (pc : Nat) (ls : pz_L) (st : List Value) (h : pz_H) (k n : Nat) : Prop :=
  ∀ (bs : Nat) (D : va_G) (kA : Nat → ClassId) (ad ad0 : Nat → Nat) (p : Program) (l : pz_Ln) (e : Env) (s : State) (m : MethodId) (args : Array Value) (below : List Frame) (meth : Method) (c : Code) (A : Nat → Prop) (H : Heap) (locs : List Loc) (lc : Array Slot),
    pz_X M bs D kA ad p s m args meth c A → pz_ag n0 h ad ad0 → va_P D vwCl (pz_w ad kA h) H → va_D A (pz_w ad kA h) → va_S A s.heap H locs → lv_has lc M.2.2.1 (pz_l ad ls) →
    W p l.1 e (pz_R d mc ms) s m args below meth c H locs k n (vx_MQ below (pz_Q D kA ad0 n0 Post A) (pz_XC M D kA ad0 n0 Post A) args s mc ms A) (F0 m pc lc (st.map (pz_v ad)))
abbrev pz_O : Type := pz_L → List Value → pz_H → Nat → Nat → Option (List Prop × pz_L × List Value × pz_H × Nat × Nat)
/-- an instruction without a choice, over the pure machine -/
def pz_S (M : pz_M) (pc len : Nat) (f : pz_O) : Prop := ∀ (d mc ms n0 : Nat) (Post : Option Value → pz_H → Prop) (ls : pz_L) (st : List Value) (h : pz_H) (k n : Nat) (cs : List Prop) (ls' : pz_L) (st' : List Value) (h' : pz_H) (k' n' : Nat),
  1 ≤ d → f ls st h k n = some (cs, ls', st', h', k', n') → pz_all cs → k' ≤ mc → n' ≤ ms → pz_W M d mc ms n0 Post (pc + len) ls' st' h' k' n' → pz_W M d mc ms n0 Post pc ls st h k n
