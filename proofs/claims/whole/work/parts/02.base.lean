-- a pure picture of the machine's cells: a shape (classes, references, lengths: known), the ints M, the longs J
abbrev qG : Type := Launch × va_G × (Nat × Nat × Nat) × (Nat → Int32) × (ClassId × ClassId)
abbrev gl (G : qG) : Launch := G.1
abbrev gD (G : qG) : va_G := G.2.1
abbrev gb (G : qG) : Nat := G.2.2.1.1
abbrev gs (G : qG) : Nat := G.2.2.1.2.1
abbrev gL (G : qG) : Nat := G.2.2.1.2.2
abbrev gx (G : qG) : Nat → Int32 := G.2.2.2.1
abbrev gI (G : qG) : ClassId := G.2.2.2.2.1
abbrev gZ (G : qG) : ClassId := G.2.2.2.2.2
abbrev qC : Type := (Bool × Nat) ⊕ (Nat × List (Option Nat))
abbrev qSh : Type := List qC
abbrev qM : Type := Nat → Nat → Int32
abbrev qJ : Type := Nat → Nat → Int64
abbrev qR : Type := Option Value × qSh × qM × qJ
def qN (ci : Nat) : Nat := match ci with
  | 0 => 3
  | 1 => 1
  | 2 => 1
  | 3 => 3
  | 4 => 2
  | 5 => 1
  | 6 => 3
  | 7 => 6
  | 8 => 1
  | 9 => 2
  | 10 => 10
  | _ => 24
def qty (ci k : Nat) : FieldType := match ci with
  | 0 => tyX0 k
  | 1 => tyX1 k
  | 2 => tyX2 k
  | 3 => tyX3 k
  | 4 => tyX4 k
  | 5 => tyX5 k
  | 6 => tyX6 k
  | 7 => tyX7 k
  | 8 => tyX8 k
  | 9 => tyX9 k
  | 10 => tyX11 k
  | _ => tyX12 k
def qcv (G : qG) (v : Value) : Value := match v with
  | .ref k => .ref (if k < 4096 then gb G + k else gs G)
  | v => v
def qfa (ty : FieldType) (r : Option Nat) (i : Int32) (j : Int64) : Value := match ty with
  | .int => .int i
  | .long => .long j
  | _ => match r with
    | none => .null
    | some k => .ref k
def qfs (G : qG) (M : qM) (J : qJ) (q ci : Nat) (rs : List (Option Nat)) : List Value := (List.range (qN ci)).map fun k => qcv G (qfa (qty ci k) (rs.getD k none) (M q k) (J q k))
def qce (G : qG) (M : qM) (J : qJ) (q : Nat) (c : qC) : Nat × va_E := match c with
  | .inl (z, n) => (gb G + q, .inl (if z then gZ G else gI G, n, .inl (M q)))
  | .inr (ci, rs) => (gb G + q, .inr (ci, qfs G M J q ci rs))
def qw (G : qG) (sh : qSh) (M : qM) (J : qJ) : va_W := sh.mapIdx (qce G M J)
abbrev qA (G : qG) : Nat → Prop := fun q => gb G ≤ q
def qu (M : qM) (q i : Nat) (x : Int32) : qM := fun a b => if a = q then (if b = i then x else M a b) else M a b
def qv (J : qJ) (q i : Nat) (x : Int64) : qJ := fun a b => if a = q then (if b = i then x else J a b) else J a b
def qcp (M : qM) (q0 q1 sp dp n : Nat) : qM := fun a => if a = q1 then va_cpy (M q0) (M q1) sp dp n else M a
theorem qce_1 (G : qG) (M : qM) (J : qJ) (q : Nat) (c : qC) : (qce G M J q c).1 = gb G + q := by
  obtain ⟨z, n⟩ | ⟨ci, rs⟩ := c <;> rfl
theorem qw_at (G : qG) (sh : qSh) (M : qM) (J : qJ) (q : Nat) : (qw G sh M J)[q]? = (sh[q]?).map (qce G M J q) := by simp [qw]
theorem qw_get {G : qG} {sh : qSh} {M : qM} {J : qJ} {q : Nat} {c : qC} (h : sh[q]? = some c) : (qw G sh M J)[q]? = some (qce G M J q c) := by rw [qw_at, h]; rfl
theorem qw_len (G : qG) (sh : qSh) (M : qM) (J : qJ) : (qw G sh M J).length = sh.length := by simp [qw]
theorem qw_D {G : qG} {sh : qSh} {M : qM} {J : qJ} : va_D (qA G) (qw G sh M J) := by
  have key : ∀ (k : Nat) (x : Nat × va_E), (qw G sh M J)[k]? = some x → x.1 = gb G + k := by
    intro k x hx
    rw [qw_at] at hx
    obtain ⟨c, -, rfl⟩ := Option.map_eq_some_iff.mp hx
    exact qce_1 G M J k c
  refine ⟨fun i j p q h1 h2 h3 => ?_, fun k x hx => ?_⟩
  · have e1 := key i p h1
    have e2 := key j q h2
    omega
  · have e1 := key k x hx
    show gb G ≤ x.1
    omega
theorem qw_upd {G : qG} {sh sh' : qSh} {M M' : qM} {J J' : qJ} (q : Nat) (hq : q < sh.length) {e : Nat × va_E} (he : (qw G sh' M' J')[q]? = some e) (ho : ∀ k, k ≠ q → (qw G sh' M' J')[k]? = (qw G sh M J)[k]?) : (qw G sh M J).set q e = qw G sh' M' J' := by
  apply List.ext_getElem?
  intro i
  by_cases h : i = q
  · subst h
    rw [he, List.getElem?_set_self (by rw [qw_len]; exact hq)]
  · rw [ho i h, List.getElem?_set_ne (Ne.symm h)]
theorem qsh_lt {sh : qSh} {q : Nat} {c : qC} (h : sh[q]? = some c) : q < sh.length := (List.getElem?_eq_some_iff.mp h).1
theorem qce_M {G : qG} {M M' : qM} {J J' : qJ} {q : Nat} (h1 : M' q = M q) (h2 : J' q = J q) (c : qC) : qce G M' J' q c = qce G M J q c := by
  obtain ⟨z, n⟩ | ⟨ci, rs⟩ := c
  · simp only [qce, h1]
  · simp only [qce, qfs, h1, h2]
theorem qw_arr {G : qG} {sh : qSh} {M : qM} {J : qJ} {q n : Nat} {z : Bool} (h : sh[q]? = some (.inl (z, n))) (f : Nat → Int32) (M' : qM) (h1 : M' q = f) (h2 : ∀ a, a ≠ q → M' a = M a) : (qw G sh M J).set q (gb G + q, .inl (if z then gZ G else gI G, n, .inl f)) = qw G sh M' J := by
  refine qw_upd q (qsh_lt h) ?_ ?_
  · rw [qw_get h]; simp only [qce, h1]
  · intro k hk
    rw [qw_at, qw_at]
    cases sh[k]? with
    | none => rfl
    | some c => exact congrArg some (qce_M (h2 k hk) rfl c)
theorem qu_row (M : qM) (q i : Nat) (x : Int32) : qu M q i x q = upd (M q) i x := by
  funext b; simp [qu, upd]
theorem qu_ne (M : qM) (q i : Nat) (x : Int32) {a : Nat} (h : a ≠ q) : qu M q i x a = M a := by
  funext b; simp [qu, h]
theorem qv_ne (J : qJ) (q i : Nat) (x : Int64) {a : Nat} (h : a ≠ q) : qv J q i x a = J a := by
  funext b; simp [qv, h]
theorem qfs_get {G : qG} {M : qM} {J : qJ} {q ci : Nat} {rs : List (Option Nat)} {k : Nat} (hk : k < qN ci) : (qfs G M J q ci rs)[k]? = some (qcv G (qfa (qty ci k) (rs.getD k none) (M q k) (J q k))) := by
  simp [qfs, hk]
theorem qw_fld {G : qG} {sh sh' : qSh} {M M' : qM} {J J' : qJ} {q ci k : Nat} {rs rs' : List (Option Nat)} (h : sh[q]? = some (.inr (ci, rs))) (h' : sh'[q]? = some (.inr (ci, rs'))) (hs : ∀ a, a ≠ q → sh'[a]? = sh[a]?) (hk : k < qN ci) (v : Value) (hv : qcv G (qfa (qty ci k) (rs'.getD k none) (M' q k) (J' q k)) = v)
    (ho : ∀ j, j ≠ k → rs'.getD j none = rs.getD j none ∧ M' q j = M q j ∧ J' q j = J q j) (h2 : ∀ a, a ≠ q → M' a = M a ∧ J' a = J a) : (qw G sh M J).set q (gb G + q, .inr (ci, (qfs G M J q ci rs).set k v)) = qw G sh' M' J' := by
  refine qw_upd q (qsh_lt h) ?_ ?_
  · rw [qw_get h']
    simp only [qce]
    congr 4
    apply List.ext_getElem?
    intro j
    by_cases hj : j = k
    · subst hj
      rw [List.getElem?_set_self (by simp [qfs, hk]), qfs_get hk, hv]
    · rw [List.getElem?_set_ne (Ne.symm hj)]
      by_cases hn : j < qN ci
      · rw [qfs_get hn, qfs_get hn, (ho j hj).1, (ho j hj).2.1, (ho j hj).2.2]
      · simp [qfs, hn]
  · intro a ha
    rw [qw_at, qw_at, hs a ha]
    cases sh[a]? with
    | none => rfl
    | some c => exact congrArg some (qce_M (h2 a ha).1 (h2 a ha).2 c)
theorem va_lt {b L : Nat} {xs : Nat → Int32} {U : State} {H : Heap} (h : va_X b L xs U H) : b < H.size := by
  obtain ⟨c, h1, -⟩ := h
  exact (Array.getElem?_eq_some_iff.mp h1).1
-- what is so of a state
def qRl (G : qG) (sh : qSh) (M : qM) (J : qJ) (U : State) (H : Heap) : Prop :=
  (sh.length ≤ 4096 ∧ gs G < gb G) ∧ va_P (gD G) vwCl (qw G sh M J) H ∧ va_K (gD G) vwCl [(gI G, .int), (gZ G, .boolean)] U ∧ (∀ w ∈ qnest, va_Nw (qnc w) U) ∧ va_X (gs G) (gL G) (gx G) U H
def qCx (Y : qY) (p : Program) (s : State) (m : MethodId) (args : Array Value) (meth : Method) (c : Code) : Prop :=
  p.tables.exec = Jvm.exec ∧ c.code = Y.2.1 ∧ c.maxLocals = Y.2.2.1 ∧ meth.sig.returnType = Y.2.2.2 ∧ meth.locks = false ∧ s.vm.findClass Y.1.cls = some m.cls ∧ (∀ w ∈ qT, w.before args s = true) ∧ (Y.1.name = "<init>" → meth.name = "<init>")
def qLs (G : qG) (arr : Array Slot) (nL : Nat) (ls : List (Option Value)) : Prop := arr.size = nL ∧ lv_wf arr ∧ ∀ (i : Nat) (v : Value), ls[i]? = some (some v) → arr[i]? = some (.val (qcv G v))
def qri (r : Option Value) : Instr := match r with
  | none => .return_
  | some _ => .ireturn
/-- from the frame at pc, with locals ls and stack st, in the picture (sh, M, J), the method comes to its return with just ρ -/
def QW (G : qG) (R : Room) (Y : qY) (nc ns pc : Nat) (ls : List (Option Value)) (st : List Value) (sh : qSh) (M : qM) (J : qJ) (ρ : qR) : Prop :=
  ∀ (p : Program) (e : Env) (s : State) (m : MethodId) (args : Array Value) (below : List Frame) (meth : Method) (c : Code) (H : Heap) (locs : List Loc) (arr : Array Slot) (Z : State → Prop),
    qCx Y p s m args meth c → (s.heap.size + nc = gb G + sh.length ∧ gb G ≤ s.heap.size) → qRl G sh M J s H → va_S (qA G) s.heap H locs → qLs G arr Y.2.2.1 ls →
    (∀ (H1 : Heap) (locs1 : List Loc) (pc1 : Nat) (arr1 : Array Slot), (s.heap.size + R.cells = gb G + ρ.2.1.length) → qRl G ρ.2.1 ρ.2.2.1 ρ.2.2.2 s H1 → va_S (qA G) s.heap H1 locs1 → decode Y.2.1 pc1 = .ok (qri ρ.1, 1) → W p (gl G) e R s m args below meth c H1 locs1 R.cells R.slots Z (F0 m pc1 arr1 (ρ.1.toList.map (qcv G)))) →
    W p (gl G) e R s m args below meth c H locs nc ns Z (F0 m pc arr (st.map (qcv G)))
theorem qRl.keep {G : qG} {sh sh' : qSh} {M M' : qM} {J J' : qJ} {s : State} {H H1 H0 : Heap} {locs locs1 : List Loc} (h : qRl G sh M J s H) (hs : va_S (qA G) H0 H locs) (hs1 : va_S (qA G) H0 H1 locs1) (hb : gb G ≤ H0.size) (hl : sh'.length ≤ 4096) (hP : va_P (gD G) vwCl (qw G sh' M' J') H1) : qRl G sh' M' J' s H1 := by
  refine ⟨⟨hl, h.1.2⟩, hP, h.2.2.1, h.2.2.2.1, h.2.2.2.2.kept ?_⟩
  have hlt : gs G < H0.size := Nat.lt_of_lt_of_le h.1.2 hb
  have hn : ¬ qA G (gs G) := Nat.not_le.mpr h.1.2
  rw [hs1.2.1 _ hlt hn, hs.2.1 _ hlt hn]
theorem qRl.kn {G : qG} {sh : qSh} {M : qM} {J : qJ} {s : State} {H : Heap} (h : qRl G sh M J s H) {q : Nat} {c : qC} (hq : sh[q]? = some c) : qcv G (.ref q) = .ref (gb G + q) := by
  have h1 := qsh_lt hq
  have h2 := h.1.1
  show Value.ref (if q < 4096 then gb G + q else gs G) = _
  rw [if_pos (by omega)]
-- locals
def qlv (G : qG) (ls : List (Option Value)) : List (Nat × Value) := (List.range ls.length).filterMap fun i => match ls[i]? with
  | some (some v) => some (i, qcv G v)
  | _ => none
theorem qlv_mem {G : qG} {ls : List (Option Value)} {i : Nat} {v : Value} (h : ls[i]? = some (some v)) : (i, qcv G v) ∈ qlv G ls := by
  refine List.mem_filterMap.mpr ⟨i, List.mem_range.mpr (List.getElem?_eq_some_iff.mp h).1, ?_⟩
  rw [h]
theorem qlv_of {G : qG} {ls : List (Option Value)} {q : Nat × Value} (h : q ∈ qlv G ls) : ∃ v, ls[q.1]? = some (some v) ∧ q.2 = qcv G v := by
  obtain ⟨i, -, h2⟩ := List.mem_filterMap.mp h
  split at h2
  · rename_i v hv
    cases h2
    exact ⟨v, hv, rfl⟩
  · cases h2
theorem qLs.has {G : qG} {arr : Array Slot} {nL : Nat} {ls : List (Option Value)} (h : qLs G arr nL ls) : lv_has arr nL (qlv G ls) := by
  refine ⟨h.1, h.2.1, fun q hq => ?_⟩
  obtain ⟨v, h1, h2⟩ := qlv_of hq
  rw [h2]
  exact h.2.2 _ v h1
theorem qcv_cat (G : qG) (v : Value) : (qcv G v).category = v.category := by cases v <;> rfl
def qk (ls : List (Option Value)) (i : Nat) : Bool := match i with
  | 0 => true
  | j + 1 => match ls[j]? with
    | some (some v) => !(v.category == 2)
    | _ => true
theorem qk_no {ls : List (Option Value)} {i j : Nat} {v : Value} (hk : qk ls i = true) (hj : j + 1 = i) (h : ls[j]? = some (some v)) : (v.category == 2) = false := by
  subst hj
  simp only [qk, h] at hk
  simpa using hk
theorem qLs.set1 {G : qG} {arr : Array Slot} {nL i : Nat} {ls ls' : List (Option Value)} {v : Value} (h : lv_has arr nL ((i, qcv G v) :: (qlv G ls).filter (fun q => !(q.1 == i) && !(q.1 + 1 == i && q.2.category == 2)))) (hk : qk ls i = true) (e : ls.set i (some v) = ls') : qLs G arr nL ls' := by
  subst e
  refine ⟨h.1, h.2.1, fun j w hj => ?_⟩
  by_cases hi : j = i
  · subst hi
    have hl : j < ls.length := by
      have := (List.getElem?_eq_some_iff.mp hj).1
      simpa using this
    rw [List.getElem?_set_self hl] at hj
    cases hj
    exact h.2.2 _ List.mem_cons_self
  · rw [List.getElem?_set_ne (Ne.symm hi)] at hj
    refine h.2.2 (j, qcv G w) (List.mem_cons_of_mem _ (List.mem_filter.mpr ⟨qlv_mem hj, ?_⟩))
    by_cases h1 : j + 1 = i
    · simp [hi, h1, qcv_cat, qk_no hk h1 hj]
    · simp [hi, h1]
theorem qLs.set2 {G : qG} {arr : Array Slot} {nL i : Nat} {ls ls' : List (Option Value)} {v : Value} (h : lv_has arr nL ((i, qcv G v) :: (qlv G ls).filter (fun q => !(q.1 == i) && (!(q.1 == i + 1) && !(q.1 + 1 == i && q.2.category == 2))))) (hk : qk ls i = true) (e : (ls.set i (some v)).set (i + 1) none = ls') : qLs G arr nL ls' := by
  subst e
  refine ⟨h.1, h.2.1, fun j w hj => ?_⟩
  by_cases hi1 : j = i + 1
  · subst hi1
    have hl : i + 1 < ((ls.set i (some v))).length := by
      have := (List.getElem?_eq_some_iff.mp hj).1
      simpa using this
    rw [List.getElem?_set_self hl] at hj
    cases hj
  · rw [List.getElem?_set_ne (Ne.symm hi1)] at hj
    by_cases hi : j = i
    · subst hi
      have hl : j < ls.length := by
        have := (List.getElem?_eq_some_iff.mp hj).1
        simpa using this
      rw [List.getElem?_set_self hl] at hj
      cases hj
      exact h.2.2 _ List.mem_cons_self
    · rw [List.getElem?_set_ne (Ne.symm hi)] at hj
      refine h.2.2 (j, qcv G w) (List.mem_cons_of_mem _ (List.mem_filter.mpr ⟨qlv_mem hj, ?_⟩))
      by_cases h1 : j + 1 = i
      · simp [hi, hi1, h1, qcv_cat, qk_no hk h1 hj]
      · simp [hi, hi1, h1]
section QRULES
variable {G : qG} {R : Room} {Y : qY} {nc ns pc : Nat} {ls ls' : List (Option Value)} {st : List Value} {sh : qSh} {M : qM} {J : qJ} {ρ : qR}
theorem q_iconst {n : Int} {v : Int32} (hd : decode Y.2.1 pc = .ok (.iconst n, 1)) (hv : Int32.ofInt n = v) (k : QW G R Y nc ns (pc + 1) ls (.int v :: st) sh M J ρ) : QW G R Y nc ns pc ls st sh M J ρ := by
  intro p e s m args below meth c H locs arr Z hc hz hR hS hL hZ
  exact lv_iconst hc.1 hc.2.1 hd hv (k p e s m args below meth c H locs arr Z hc hz hR hS hL hZ)
theorem q_bipush {n : Int} {v : Int32} (hd : decode Y.2.1 pc = .ok (.bipush n, 2)) (hv : (Int8.ofInt n).toInt32 = v) (k : QW G R Y nc ns (pc + 2) ls (.int v :: st) sh M J ρ) : QW G R Y nc ns pc ls st sh M J ρ := by
  intro p e s m args below meth c H locs arr Z hc hz hR hS hL hZ
  exact lv_bipush hc.1 hc.2.1 hd hv (k p e s m args below meth c H locs arr Z hc hz hR hS hL hZ)
theorem q_sipush {n : Int} {v : Int32} (hd : decode Y.2.1 pc = .ok (.sipush n, 3)) (hv : (Int16.ofInt n).toInt32 = v) (k : QW G R Y nc ns (pc + 3) ls (.int v :: st) sh M J ρ) : QW G R Y nc ns pc ls st sh M J ρ := by
  intro p e s m args below meth c H locs arr Z hc hz hR hS hL hZ
  exact lv_sipush hc.1 hc.2.1 hd hv (k p e s m args below meth c H locs arr Z hc hz hR hS hL hZ)
theorem q_lconst {n : Fin 2} {v : Int64} (hd : decode Y.2.1 pc = .ok (.lconst n, 1)) (hv : Int64.ofNat (n : Nat) = v) (k : QW G R Y nc ns (pc + 1) ls (.long v :: st) sh M J ρ) : QW G R Y nc ns pc ls st sh M J ρ := by
  intro p e s m args below meth c H locs arr Z hc hz hR hS hL hZ
  exact lv_lconst hc.1 hc.2.1 hd hv (k p e s m args below meth c H locs arr Z hc hz hR hS hL hZ)
theorem q_ldc {i : Nat} {v : Int32} (hd : decode Y.2.1 pc = .ok (.ldc i, 2)) (hw : Cond.constant Y.1.cls i v ∈ qT) (k : QW G R Y nc ns (pc + 2) ls (.int v :: st) sh M J ρ) : QW G R Y nc ns pc ls st sh M J ρ := by
  intro p e s m args below meth c H locs arr Z hc hz hR hS hL hZ
  exact lv_ldc hc.1 hc.2.1 hc.2.2.2.2.2.1 (hc.2.2.2.2.2.2.1 _ hw) hd (k p e s m args below meth c H locs arr Z hc hz hR hS hL hZ)
theorem q_ldcw {i : Nat} {v : Int32} (hd : decode Y.2.1 pc = .ok (.ldc_w i, 3)) (hw : Cond.constant Y.1.cls i v ∈ qT) (k : QW G R Y nc ns (pc + 3) ls (.int v :: st) sh M J ρ) : QW G R Y nc ns pc ls st sh M J ρ := by
  intro p e s m args below meth c H locs arr Z hc hz hR hS hL hZ
  exact lv_ldcw hc.1 hc.2.1 hc.2.2.2.2.2.1 (hc.2.2.2.2.2.2.1 _ hw) hd (k p e s m args below meth c H locs arr Z hc hz hR hS hL hZ)
theorem q_ldc2 {i : Nat} {v : Int64} (hd : decode Y.2.1 pc = .ok (.ldc2_w i, 3)) (hw : Cond.constantLong Y.1.cls i v ∈ qT) (k : QW G R Y nc ns (pc + 3) ls (.long v :: st) sh M J ρ) : QW G R Y nc ns pc ls st sh M J ρ := by
  intro p e s m args below meth c H locs arr Z hc hz hR hS hL hZ
  exact lv_ldc2 hc.1 hc.2.1 hc.2.2.2.2.2.1 (hc.2.2.2.2.2.2.1 _ hw) hd (k p e s m args below meth c H locs arr Z hc hz hR hS hL hZ)
theorem q_iload_n {n : Fin 4} {x : Int32} (hd : decode Y.2.1 pc = .ok (.iload_n n, 1)) (hl : ls[(n : Nat)]? = some (some (.int x))) (k : QW G R Y nc ns (pc + 1) ls (.int x :: st) sh M J ρ) : QW G R Y nc ns pc ls st sh M J ρ := by
  intro p e s m args below meth c H locs arr Z hc hz hR hS hL hZ
  exact lv_iload_n hc.1 hc.2.1 hd rfl (hL.2.2 _ _ hl) (k p e s m args below meth c H locs arr Z hc hz hR hS hL hZ)
theorem q_iload {i : Nat} {x : Int32} (hd : decode Y.2.1 pc = .ok (.iload i, 2)) (hl : ls[i]? = some (some (.int x))) (k : QW G R Y nc ns (pc + 2) ls (.int x :: st) sh M J ρ) : QW G R Y nc ns pc ls st sh M J ρ := by
  intro p e s m args below meth c H locs arr Z hc hz hR hS hL hZ
  exact lv_iload hc.1 hc.2.1 hd (hL.2.2 _ _ hl) (k p e s m args below meth c H locs arr Z hc hz hR hS hL hZ)
theorem q_lload_n {n : Fin 4} {x : Int64} (hd : decode Y.2.1 pc = .ok (.lload_n n, 1)) (hl : ls[(n : Nat)]? = some (some (.long x))) (k : QW G R Y nc ns (pc + 1) ls (.long x :: st) sh M J ρ) : QW G R Y nc ns pc ls st sh M J ρ := by
  intro p e s m args below meth c H locs arr Z hc hz hR hS hL hZ
  exact lv_lload_n hc.1 hc.2.1 hd rfl (hL.2.2 _ _ hl) (k p e s m args below meth c H locs arr Z hc hz hR hS hL hZ)
theorem q_lload {i : Nat} {x : Int64} (hd : decode Y.2.1 pc = .ok (.lload i, 2)) (hl : ls[i]? = some (some (.long x))) (k : QW G R Y nc ns (pc + 2) ls (.long x :: st) sh M J ρ) : QW G R Y nc ns pc ls st sh M J ρ := by
  intro p e s m args below meth c H locs arr Z hc hz hR hS hL hZ
  exact lv_lload hc.1 hc.2.1 hd (hL.2.2 _ _ hl) (k p e s m args below meth c H locs arr Z hc hz hR hS hL hZ)
theorem q_aload_n {n : Fin 4} {x : Nat} (hd : decode Y.2.1 pc = .ok (.aload_n n, 1)) (hl : ls[(n : Nat)]? = some (some (.ref x))) (k : QW G R Y nc ns (pc + 1) ls (.ref x :: st) sh M J ρ) : QW G R Y nc ns pc ls st sh M J ρ := by
  intro p e s m args below meth c H locs arr Z hc hz hR hS hL hZ
  exact lv_aload_n hc.1 hc.2.1 hd rfl (hL.2.2 _ _ hl) (k p e s m args below meth c H locs arr Z hc hz hR hS hL hZ)
theorem q_aload {i : Nat} {x : Nat} (hd : decode Y.2.1 pc = .ok (.aload i, 2)) (hl : ls[i]? = some (some (.ref x))) (k : QW G R Y nc ns (pc + 2) ls (.ref x :: st) sh M J ρ) : QW G R Y nc ns pc ls st sh M J ρ := by
  intro p e s m args below meth c H locs arr Z hc hz hR hS hL hZ
  exact lv_aload hc.1 hc.2.1 hd (hL.2.2 _ _ hl) (k p e s m args below meth c H locs arr Z hc hz hR hS hL hZ)
theorem q_istore_n {n : Fin 4} {x : Int32} (hd : decode Y.2.1 pc = .ok (.istore_n n, 1)) (hn : (n : Nat) < Y.2.2.1) (hk : qk ls (n : Nat) = true) (he : ls.set (n : Nat) (some (.int x)) = ls') (k : QW G R Y nc ns (pc + 1) ls' st sh M J ρ) : QW G R Y nc ns pc ls ((.int x) :: st) sh M J ρ := by
  intro p e s m args below meth c H locs arr Z hc hz hR hS hL hZ
  exact lv_istore_n hc.1 hc.2.1 hd rfl hL.has hn rfl (fun arr' h' => k p e s m args below meth c H locs arr' Z hc hz hR hS (qLs.set1 h' hk he) hZ)
theorem q_istore {i : Nat} {x : Int32} (hd : decode Y.2.1 pc = .ok (.istore i, 2)) (hn : i < Y.2.2.1) (hk : qk ls i = true) (he : ls.set i (some (.int x)) = ls') (k : QW G R Y nc ns (pc + 2) ls' st sh M J ρ) : QW G R Y nc ns pc ls ((.int x) :: st) sh M J ρ := by
  intro p e s m args below meth c H locs arr Z hc hz hR hS hL hZ
  exact lv_istore hc.1 hc.2.1 hd hL.has hn rfl (fun arr' h' => k p e s m args below meth c H locs arr' Z hc hz hR hS (qLs.set1 h' hk he) hZ)
theorem q_lstore_n {n : Fin 4} {x : Int64} (hd : decode Y.2.1 pc = .ok (.lstore_n n, 1)) (hn : (n : Nat) + 1 < Y.2.2.1) (hk : qk ls (n : Nat) = true) (he : (ls.set (n : Nat) (some (.long x))).set ((n : Nat) + 1) none = ls') (k : QW G R Y nc ns (pc + 1) ls' st sh M J ρ) : QW G R Y nc ns pc ls ((.long x) :: st) sh M J ρ := by
  intro p e s m args below meth c H locs arr Z hc hz hR hS hL hZ
  exact lv_lstore_n hc.1 hc.2.1 hd rfl hL.has hn rfl (fun arr' h' => k p e s m args below meth c H locs arr' Z hc hz hR hS (qLs.set2 h' hk he) hZ)
theorem q_lstore {i : Nat} {x : Int64} (hd : decode Y.2.1 pc = .ok (.lstore i, 2)) (hn : i + 1 < Y.2.2.1) (hk : qk ls i = true) (he : (ls.set i (some (.long x))).set (i + 1) none = ls') (k : QW G R Y nc ns (pc + 2) ls' st sh M J ρ) : QW G R Y nc ns pc ls ((.long x) :: st) sh M J ρ := by
  intro p e s m args below meth c H locs arr Z hc hz hR hS hL hZ
  exact lv_lstore hc.1 hc.2.1 hd hL.has hn rfl (fun arr' h' => k p e s m args below meth c H locs arr' Z hc hz hR hS (qLs.set2 h' hk he) hZ)
theorem q_astore_n {n : Fin 4} {x : Nat} (hd : decode Y.2.1 pc = .ok (.astore_n n, 1)) (hn : (n : Nat) < Y.2.2.1) (hk : qk ls (n : Nat) = true) (he : ls.set (n : Nat) (some (.ref x)) = ls') (k : QW G R Y nc ns (pc + 1) ls' st sh M J ρ) : QW G R Y nc ns pc ls ((.ref x) :: st) sh M J ρ := by
  intro p e s m args below meth c H locs arr Z hc hz hR hS hL hZ
  exact lv_astore_n hc.1 hc.2.1 hd rfl hL.has hn rfl (fun arr' h' => k p e s m args below meth c H locs arr' Z hc hz hR hS (qLs.set1 h' hk he) hZ)
theorem q_iinc {i : Nat} {n : Int} {x v : Int32} (hd : decode Y.2.1 pc = .ok (.iinc i n, 3)) (hl : ls[i]? = some (some (.int x))) (hv : x + Int32.ofInt n = v) (hn : i < Y.2.2.1) (hk : qk ls i = true) (he : ls.set i (some (.int v)) = ls') (k : QW G R Y nc ns (pc + 3) ls' st sh M J ρ) : QW G R Y nc ns pc ls st sh M J ρ := by
  intro p e s m args below meth c H locs arr Z hc hz hR hS hL hZ
  obtain ⟨j, hj⟩ := List.getElem?_of_mem (qlv_mem (G := G) hl)
  exact lv_iinc hc.1 hc.2.1 hd hL.has hj hv hn rfl (fun arr' h' => k p e s m args below meth c H locs arr' Z hc hz hR hS (qLs.set1 (v := .int v) h' hk he) hZ)
theorem q_iadd {x y : Int32} (hd : decode Y.2.1 pc = .ok (.iadd, 1)) (k : QW G R Y nc ns (pc + 1) ls (.int (x + y) :: st) sh M J ρ) : QW G R Y nc ns pc ls (.int y :: .int x :: st) sh M J ρ := by
  intro p e s m args below meth c H locs arr Z hc hz hR hS hL hZ
  exact lv_iadd hc.1 hc.2.1 hd (k p e s m args below meth c H locs arr Z hc hz hR hS hL hZ)
theorem q_isub {x y : Int32} (hd : decode Y.2.1 pc = .ok (.isub, 1)) (k : QW G R Y nc ns (pc + 1) ls (.int (x - y) :: st) sh M J ρ) : QW G R Y nc ns pc ls (.int y :: .int x :: st) sh M J ρ := by
  intro p e s m args below meth c H locs arr Z hc hz hR hS hL hZ
  exact lv_isub hc.1 hc.2.1 hd (k p e s m args below meth c H locs arr Z hc hz hR hS hL hZ)
theorem q_imul {x y : Int32} (hd : decode Y.2.1 pc = .ok (.imul, 1)) (k : QW G R Y nc ns (pc + 1) ls (.int (x * y) :: st) sh M J ρ) : QW G R Y nc ns pc ls (.int y :: .int x :: st) sh M J ρ := by
  intro p e s m args below meth c H locs arr Z hc hz hR hS hL hZ
  exact lv_imul hc.1 hc.2.1 hd (k p e s m args below meth c H locs arr Z hc hz hR hS hL hZ)
theorem q_iand {x y : Int32} (hd : decode Y.2.1 pc = .ok (.iand, 1)) (k : QW G R Y nc ns (pc + 1) ls (.int (x &&& y) :: st) sh M J ρ) : QW G R Y nc ns pc ls (.int y :: .int x :: st) sh M J ρ := by
  intro p e s m args below meth c H locs arr Z hc hz hR hS hL hZ
  exact lv_iand hc.1 hc.2.1 hd (k p e s m args below meth c H locs arr Z hc hz hR hS hL hZ)
theorem q_ior {x y : Int32} (hd : decode Y.2.1 pc = .ok (.ior, 1)) (k : QW G R Y nc ns (pc + 1) ls (.int (x ||| y) :: st) sh M J ρ) : QW G R Y nc ns pc ls (.int y :: .int x :: st) sh M J ρ := by
  intro p e s m args below meth c H locs arr Z hc hz hR hS hL hZ
  exact lv_ior hc.1 hc.2.1 hd (k p e s m args below meth c H locs arr Z hc hz hR hS hL hZ)
theorem q_ixor {x y : Int32} (hd : decode Y.2.1 pc = .ok (.ixor, 1)) (k : QW G R Y nc ns (pc + 1) ls (.int (x ^^^ y) :: st) sh M J ρ) : QW G R Y nc ns pc ls (.int y :: .int x :: st) sh M J ρ := by
  intro p e s m args below meth c H locs arr Z hc hz hR hS hL hZ
  exact lv_ixor hc.1 hc.2.1 hd (k p e s m args below meth c H locs arr Z hc hz hR hS hL hZ)
theorem q_ishl {x y : Int32} (hd : decode Y.2.1 pc = .ok (.ishl, 1)) (k : QW G R Y nc ns (pc + 1) ls (.int (x <<< (y &&& 31)) :: st) sh M J ρ) : QW G R Y nc ns pc ls (.int y :: .int x :: st) sh M J ρ := by
  intro p e s m args below meth c H locs arr Z hc hz hR hS hL hZ
  exact lv_ishl hc.1 hc.2.1 hd (k p e s m args below meth c H locs arr Z hc hz hR hS hL hZ)
theorem q_ishr {x y : Int32} (hd : decode Y.2.1 pc = .ok (.ishr, 1)) (k : QW G R Y nc ns (pc + 1) ls (.int (x >>> (y &&& 31)) :: st) sh M J ρ) : QW G R Y nc ns pc ls (.int y :: .int x :: st) sh M J ρ := by
  intro p e s m args below meth c H locs arr Z hc hz hR hS hL hZ
  exact lv_ishr hc.1 hc.2.1 hd (k p e s m args below meth c H locs arr Z hc hz hR hS hL hZ)
theorem q_iushr {x y : Int32} (hd : decode Y.2.1 pc = .ok (.iushr, 1)) (k : QW G R Y nc ns (pc + 1) ls (.int (x.toUInt32 >>> (y.toUInt32 &&& Int32.toUInt32 31)).toInt32 :: st) sh M J ρ) : QW G R Y nc ns pc ls (.int y :: .int x :: st) sh M J ρ := by
  intro p e s m args below meth c H locs arr Z hc hz hR hS hL hZ
  exact lv_iushr hc.1 hc.2.1 hd rfl (k p e s m args below meth c H locs arr Z hc hz hR hS hL hZ)
def qdiv (x y : Int32) : Option Int32 := if y = 0 then none else some (x / y)
def qrem (x y : Int32) : Option Int32 := if y = 0 then none else some (x - x / y * y)
def qldiv (x y : Int64) : Option Int64 := if y = 0 then none else some (x / y)
def qlrem (x y : Int64) : Option Int64 := if y = 0 then none else some (x - x / y * y)
def qrd (M : qM) (q n : Nat) (i : Int32) : Option Int32 := if i < 0 ∨ n ≤ i.toNatClampNeg then none else some (M q i.toNatClampNeg)
def qwr (M : qM) (q n : Nat) (i x : Int32) : Option qM := if i < 0 ∨ n ≤ i.toNatClampNeg then none else some (qu M q i.toNatClampNeg x)
def qwz (M : qM) (q n : Nat) (i x : Int32) : Option qM := if i < 0 ∨ n ≤ i.toNatClampNeg then none else some (qu M q i.toNatClampNeg (vp_nar .boolean x))
def qsc (f : Nat → Int32) (n : Nat) (i : Int32) : Option Int32 := if i < 0 ∨ n ≤ i.toNatClampNeg then none else some (f i.toNatClampNeg)
def qco (M : qM) (q0 q1 n0 n1 : Nat) (sp dp n : Int32) : Option qM := if sp < 0 ∨ dp < 0 ∨ n < 0 ∨ n0 < sp.toNatClampNeg + n.toNatClampNeg ∨ n1 < dp.toNatClampNeg + n.toNatClampNeg then none else some (qcp M q0 q1 sp.toNatClampNeg dp.toNatClampNeg n.toNatClampNeg)
theorem qif {α : Type} {c : Prop} [Decidable c] {a : α} {x : α} (h : (if c then none else some a) = some x) : ¬ c ∧ a = x := by
  split at h
  · cases h
  · exact ⟨‹_›, Option.some.inj h⟩
theorem q_idiv {x y v : Int32} (hd : decode Y.2.1 pc = .ok (.idiv, 1)) (hv : qdiv x y = some v) (k : QW G R Y nc ns (pc + 1) ls (.int v :: st) sh M J ρ) : QW G R Y nc ns pc ls (.int y :: .int x :: st) sh M J ρ := by
  intro p e s m args below meth c H locs arr Z hc hz hR hS hL hZ
  obtain ⟨h0, rfl⟩ := qif hv
  exact lv_idiv hc.1 hc.2.1 hd h0 (k p e s m args below meth c H locs arr Z hc hz hR hS hL hZ)
theorem q_irem {x y v : Int32} (hd : decode Y.2.1 pc = .ok (.irem, 1)) (hv : qrem x y = some v) (k : QW G R Y nc ns (pc + 1) ls (.int v :: st) sh M J ρ) : QW G R Y nc ns pc ls (.int y :: .int x :: st) sh M J ρ := by
  intro p e s m args below meth c H locs arr Z hc hz hR hS hL hZ
  obtain ⟨h0, rfl⟩ := qif hv
  exact lv_irem hc.1 hc.2.1 hd h0 (k p e s m args below meth c H locs arr Z hc hz hR hS hL hZ)
theorem q_ldiv {x y v : Int64} (hd : decode Y.2.1 pc = .ok (.ldiv, 1)) (hv : qldiv x y = some v) (k : QW G R Y nc ns (pc + 1) ls (.long v :: st) sh M J ρ) : QW G R Y nc ns pc ls (.long y :: .long x :: st) sh M J ρ := by
  intro p e s m args below meth c H locs arr Z hc hz hR hS hL hZ
  obtain ⟨h0, rfl⟩ := qif hv
  exact lv_ldiv hc.1 hc.2.1 hd h0 (k p e s m args below meth c H locs arr Z hc hz hR hS hL hZ)
theorem q_lrem {x y v : Int64} (hd : decode Y.2.1 pc = .ok (.lrem, 1)) (hv : qlrem x y = some v) (k : QW G R Y nc ns (pc + 1) ls (.long v :: st) sh M J ρ) : QW G R Y nc ns pc ls (.long y :: .long x :: st) sh M J ρ := by
  intro p e s m args below meth c H locs arr Z hc hz hR hS hL hZ
  obtain ⟨h0, rfl⟩ := qif hv
  exact lv_lrem hc.1 hc.2.1 hd h0 (k p e s m args below meth c H locs arr Z hc hz hR hS hL hZ)
theorem q_ladd {x y : Int64} (hd : decode Y.2.1 pc = .ok (.ladd, 1)) (k : QW G R Y nc ns (pc + 1) ls (.long (x + y) :: st) sh M J ρ) : QW G R Y nc ns pc ls (.long y :: .long x :: st) sh M J ρ := by
  intro p e s m args below meth c H locs arr Z hc hz hR hS hL hZ
  exact lv_ladd hc.1 hc.2.1 hd (k p e s m args below meth c H locs arr Z hc hz hR hS hL hZ)
theorem q_lmul {x y : Int64} (hd : decode Y.2.1 pc = .ok (.lmul, 1)) (k : QW G R Y nc ns (pc + 1) ls (.long (x * y) :: st) sh M J ρ) : QW G R Y nc ns pc ls (.long y :: .long x :: st) sh M J ρ := by
  intro p e s m args below meth c H locs arr Z hc hz hR hS hL hZ
  exact lv_lmul hc.1 hc.2.1 hd (k p e s m args below meth c H locs arr Z hc hz hR hS hL hZ)
theorem q_land {x y : Int64} (hd : decode Y.2.1 pc = .ok (.land, 1)) (k : QW G R Y nc ns (pc + 1) ls (.long (x &&& y) :: st) sh M J ρ) : QW G R Y nc ns pc ls (.long y :: .long x :: st) sh M J ρ := by
  intro p e s m args below meth c H locs arr Z hc hz hR hS hL hZ
  exact lv_land hc.1 hc.2.1 hd (k p e s m args below meth c H locs arr Z hc hz hR hS hL hZ)
theorem q_lsub {x y : Int64} (hd : decode Y.2.1 pc = .ok (.lsub, 1)) (k : QW G R Y nc ns (pc + 1) ls (.long (x - y) :: st) sh M J ρ) : QW G R Y nc ns pc ls (.long y :: .long x :: st) sh M J ρ := by
  intro p e s m args below meth c H locs arr Z hc hz hR hS hL hZ
  exact lv_lsub hc.1 hc.2.1 hd (k p e s m args below meth c H locs arr Z hc hz hR hS hL hZ)
theorem q_lcmp {x y : Int64} (hd : decode Y.2.1 pc = .ok (.lcmp, 1)) (k : QW G R Y nc ns (pc + 1) ls (.int (lg_cmp x y) :: st) sh M J ρ) : QW G R Y nc ns pc ls (.long y :: .long x :: st) sh M J ρ := by
  intro p e s m args below meth c H locs arr Z hc hz hR hS hL hZ
  exact W.lcmp hc.1 hc.2.1 hd (k p e s m args below meth c H locs arr Z hc hz hR hS hL hZ)
theorem q_i2l {x : Int32} (hd : decode Y.2.1 pc = .ok (.i2l, 1)) (k : QW G R Y nc ns (pc + 1) ls (.long x.toInt64 :: st) sh M J ρ) : QW G R Y nc ns pc ls (.int x :: st) sh M J ρ := by
  intro p e s m args below meth c H locs arr Z hc hz hR hS hL hZ
  exact lv_i2l hc.1 hc.2.1 hd rfl (k p e s m args below meth c H locs arr Z hc hz hR hS hL hZ)
theorem q_l2i {x : Int64} (hd : decode Y.2.1 pc = .ok (.l2i, 1)) (k : QW G R Y nc ns (pc + 1) ls (.int x.toInt32 :: st) sh M J ρ) : QW G R Y nc ns pc ls (.long x :: st) sh M J ρ := by
  intro p e s m args below meth c H locs arr Z hc hz hR hS hL hZ
  exact lv_l2i hc.1 hc.2.1 hd rfl (k p e s m args below meth c H locs arr Z hc hz hR hS hL hZ)
theorem q_dup {v : Value} (hd : decode Y.2.1 pc = .ok (.dup, 1)) (h1 : v.category = 1) (k : QW G R Y nc ns (pc + 1) ls (v :: v :: st) sh M J ρ) : QW G R Y nc ns pc ls (v :: st) sh M J ρ := by
  intro p e s m args below meth c H locs arr Z hc hz hR hS hL hZ
  exact lv_dup hc.1 hc.2.1 hd (by rw [qcv_cat]; exact h1) (k p e s m args below meth c H locs arr Z hc hz hR hS hL hZ)
theorem q_dup2 {v w : Value} (hd : decode Y.2.1 pc = .ok (.dup2, 1)) (h1 : v.category = 1) (h2 : w.category = 1) (k : QW G R Y nc ns (pc + 1) ls (v :: w :: v :: w :: st) sh M J ρ) : QW G R Y nc ns pc ls (v :: w :: st) sh M J ρ := by
  intro p e s m args below meth c H locs arr Z hc hz hR hS hL hZ
  exact lv_dup2_11 hc.1 hc.2.1 hd (by rw [qcv_cat]; exact h1) (by rw [qcv_cat]; exact h2) (k p e s m args below meth c H locs arr Z hc hz hR hS hL hZ)
theorem q_dup_x2 {v w u : Value} (hd : decode Y.2.1 pc = .ok (.dup_x2, 1)) (h1 : v.category = 1) (h2 : w.category = 1) (h3 : u.category = 1) (k : QW G R Y nc ns (pc + 1) ls (v :: w :: u :: v :: st) sh M J ρ) : QW G R Y nc ns pc ls (v :: w :: u :: st) sh M J ρ := by
  intro p e s m args below meth c H locs arr Z hc hz hR hS hL hZ
  exact lv_dup_x2 hc.1 hc.2.1 hd (by rw [qcv_cat]; exact h1) (by rw [qcv_cat]; exact h2) (by rw [qcv_cat]; exact h3) (k p e s m args below meth c H locs arr Z hc hz hR hS hL hZ)
theorem q_goto {off : Int} {tgt : Nat} (hd : decode Y.2.1 pc = .ok (.goto off, 3)) (ht : (pc : Int) + off = (tgt : Int)) (k : QW G R Y nc ns tgt ls st sh M J ρ) : QW G R Y nc ns pc ls st sh M J ρ := by
  intro p e s m args below meth c H locs arr Z hc hz hR hS hL hZ
  exact lv_goto hc.1 hc.2.1 hd ht (k p e s m args below meth c H locs arr Z hc hz hR hS hL hZ)
theorem q_if_eq_t {x : Int32} {off : Int} {tgt : Nat} (hd : decode Y.2.1 pc = .ok (.ifCond .eq off, 3)) (ht : (pc : Int) + off = (tgt : Int)) (hp : x = 0) (k : QW G R Y nc ns tgt ls st sh M J ρ) : QW G R Y nc ns pc ls (.int x :: st) sh M J ρ := by
  intro p e s m args below meth c H locs arr Z hc hz hR hS hL hZ
  exact lv_if_eq hc.1 hc.2.1 hd ht (fun _ => (k p e s m args below meth c H locs arr Z hc hz hR hS hL hZ)) (fun h => absurd hp h)
theorem q_if_eq_f {x : Int32} {off : Int} {tgt : Nat} (hd : decode Y.2.1 pc = .ok (.ifCond .eq off, 3)) (ht : (pc : Int) + off = (tgt : Int)) (hp : ¬ x = 0) (k : QW G R Y nc ns (pc + 3) ls st sh M J ρ) : QW G R Y nc ns pc ls (.int x :: st) sh M J ρ := by
  intro p e s m args below meth c H locs arr Z hc hz hR hS hL hZ
  exact lv_if_eq hc.1 hc.2.1 hd ht (fun h => absurd h hp) (fun _ => (k p e s m args below meth c H locs arr Z hc hz hR hS hL hZ))
theorem q_icmp_eq_t {x y : Int32} {off : Int} {tgt : Nat} (hd : decode Y.2.1 pc = .ok (.if_icmp .eq off, 3)) (ht : (pc : Int) + off = (tgt : Int)) (hp : x = y) (k : QW G R Y nc ns tgt ls st sh M J ρ) : QW G R Y nc ns pc ls (.int y :: .int x :: st) sh M J ρ := by
  intro p e s m args below meth c H locs arr Z hc hz hR hS hL hZ
  exact lv_icmp_eq hc.1 hc.2.1 hd ht (fun _ => (k p e s m args below meth c H locs arr Z hc hz hR hS hL hZ)) (fun h => absurd hp h)
theorem q_icmp_eq_f {x y : Int32} {off : Int} {tgt : Nat} (hd : decode Y.2.1 pc = .ok (.if_icmp .eq off, 3)) (ht : (pc : Int) + off = (tgt : Int)) (hp : ¬ x = y) (k : QW G R Y nc ns (pc + 3) ls st sh M J ρ) : QW G R Y nc ns pc ls (.int y :: .int x :: st) sh M J ρ := by
  intro p e s m args below meth c H locs arr Z hc hz hR hS hL hZ
  exact lv_icmp_eq hc.1 hc.2.1 hd ht (fun h => absurd h hp) (fun _ => (k p e s m args below meth c H locs arr Z hc hz hR hS hL hZ))
theorem q_if_ne_t {x : Int32} {off : Int} {tgt : Nat} (hd : decode Y.2.1 pc = .ok (.ifCond .ne off, 3)) (ht : (pc : Int) + off = (tgt : Int)) (hp : ¬ x = 0) (k : QW G R Y nc ns tgt ls st sh M J ρ) : QW G R Y nc ns pc ls (.int x :: st) sh M J ρ := by
  intro p e s m args below meth c H locs arr Z hc hz hR hS hL hZ
  exact lv_if_ne hc.1 hc.2.1 hd ht (fun _ => (k p e s m args below meth c H locs arr Z hc hz hR hS hL hZ)) (fun h => absurd h hp)
theorem q_if_ne_f {x : Int32} {off : Int} {tgt : Nat} (hd : decode Y.2.1 pc = .ok (.ifCond .ne off, 3)) (ht : (pc : Int) + off = (tgt : Int)) (hp : x = 0) (k : QW G R Y nc ns (pc + 3) ls st sh M J ρ) : QW G R Y nc ns pc ls (.int x :: st) sh M J ρ := by
  intro p e s m args below meth c H locs arr Z hc hz hR hS hL hZ
  exact lv_if_ne hc.1 hc.2.1 hd ht (fun h => absurd hp h) (fun _ => (k p e s m args below meth c H locs arr Z hc hz hR hS hL hZ))
theorem q_icmp_ne_t {x y : Int32} {off : Int} {tgt : Nat} (hd : decode Y.2.1 pc = .ok (.if_icmp .ne off, 3)) (ht : (pc : Int) + off = (tgt : Int)) (hp : ¬ x = y) (k : QW G R Y nc ns tgt ls st sh M J ρ) : QW G R Y nc ns pc ls (.int y :: .int x :: st) sh M J ρ := by
  intro p e s m args below meth c H locs arr Z hc hz hR hS hL hZ
  exact lv_icmp_ne hc.1 hc.2.1 hd ht (fun _ => (k p e s m args below meth c H locs arr Z hc hz hR hS hL hZ)) (fun h => absurd h hp)
theorem q_icmp_ne_f {x y : Int32} {off : Int} {tgt : Nat} (hd : decode Y.2.1 pc = .ok (.if_icmp .ne off, 3)) (ht : (pc : Int) + off = (tgt : Int)) (hp : x = y) (k : QW G R Y nc ns (pc + 3) ls st sh M J ρ) : QW G R Y nc ns pc ls (.int y :: .int x :: st) sh M J ρ := by
  intro p e s m args below meth c H locs arr Z hc hz hR hS hL hZ
  exact lv_icmp_ne hc.1 hc.2.1 hd ht (fun h => absurd hp h) (fun _ => (k p e s m args below meth c H locs arr Z hc hz hR hS hL hZ))
theorem q_if_lt_t {x : Int32} {off : Int} {tgt : Nat} (hd : decode Y.2.1 pc = .ok (.ifCond .lt off, 3)) (ht : (pc : Int) + off = (tgt : Int)) (hp : x < 0) (k : QW G R Y nc ns tgt ls st sh M J ρ) : QW G R Y nc ns pc ls (.int x :: st) sh M J ρ := by
  intro p e s m args below meth c H locs arr Z hc hz hR hS hL hZ
  exact lv_if_lt hc.1 hc.2.1 hd ht (fun _ => (k p e s m args below meth c H locs arr Z hc hz hR hS hL hZ)) (fun h => absurd hp h)
theorem q_if_lt_f {x : Int32} {off : Int} {tgt : Nat} (hd : decode Y.2.1 pc = .ok (.ifCond .lt off, 3)) (ht : (pc : Int) + off = (tgt : Int)) (hp : ¬ x < 0) (k : QW G R Y nc ns (pc + 3) ls st sh M J ρ) : QW G R Y nc ns pc ls (.int x :: st) sh M J ρ := by
  intro p e s m args below meth c H locs arr Z hc hz hR hS hL hZ
  exact lv_if_lt hc.1 hc.2.1 hd ht (fun h => absurd h hp) (fun _ => (k p e s m args below meth c H locs arr Z hc hz hR hS hL hZ))
theorem q_icmp_lt_t {x y : Int32} {off : Int} {tgt : Nat} (hd : decode Y.2.1 pc = .ok (.if_icmp .lt off, 3)) (ht : (pc : Int) + off = (tgt : Int)) (hp : x < y) (k : QW G R Y nc ns tgt ls st sh M J ρ) : QW G R Y nc ns pc ls (.int y :: .int x :: st) sh M J ρ := by
  intro p e s m args below meth c H locs arr Z hc hz hR hS hL hZ
  exact lv_icmp_lt hc.1 hc.2.1 hd ht (fun _ => (k p e s m args below meth c H locs arr Z hc hz hR hS hL hZ)) (fun h => absurd hp h)
theorem q_icmp_lt_f {x y : Int32} {off : Int} {tgt : Nat} (hd : decode Y.2.1 pc = .ok (.if_icmp .lt off, 3)) (ht : (pc : Int) + off = (tgt : Int)) (hp : ¬ x < y) (k : QW G R Y nc ns (pc + 3) ls st sh M J ρ) : QW G R Y nc ns pc ls (.int y :: .int x :: st) sh M J ρ := by
  intro p e s m args below meth c H locs arr Z hc hz hR hS hL hZ
  exact lv_icmp_lt hc.1 hc.2.1 hd ht (fun h => absurd h hp) (fun _ => (k p e s m args below meth c H locs arr Z hc hz hR hS hL hZ))
theorem q_if_ge_t {x : Int32} {off : Int} {tgt : Nat} (hd : decode Y.2.1 pc = .ok (.ifCond .ge off, 3)) (ht : (pc : Int) + off = (tgt : Int)) (hp : 0 ≤ x) (k : QW G R Y nc ns tgt ls st sh M J ρ) : QW G R Y nc ns pc ls (.int x :: st) sh M J ρ := by
  intro p e s m args below meth c H locs arr Z hc hz hR hS hL hZ
  exact lv_if_ge hc.1 hc.2.1 hd ht (fun _ => (k p e s m args below meth c H locs arr Z hc hz hR hS hL hZ)) (fun h => absurd hp h)
theorem q_if_ge_f {x : Int32} {off : Int} {tgt : Nat} (hd : decode Y.2.1 pc = .ok (.ifCond .ge off, 3)) (ht : (pc : Int) + off = (tgt : Int)) (hp : ¬ 0 ≤ x) (k : QW G R Y nc ns (pc + 3) ls st sh M J ρ) : QW G R Y nc ns pc ls (.int x :: st) sh M J ρ := by
  intro p e s m args below meth c H locs arr Z hc hz hR hS hL hZ
  exact lv_if_ge hc.1 hc.2.1 hd ht (fun h => absurd h hp) (fun _ => (k p e s m args below meth c H locs arr Z hc hz hR hS hL hZ))
theorem q_icmp_ge_t {x y : Int32} {off : Int} {tgt : Nat} (hd : decode Y.2.1 pc = .ok (.if_icmp .ge off, 3)) (ht : (pc : Int) + off = (tgt : Int)) (hp : y ≤ x) (k : QW G R Y nc ns tgt ls st sh M J ρ) : QW G R Y nc ns pc ls (.int y :: .int x :: st) sh M J ρ := by
  intro p e s m args below meth c H locs arr Z hc hz hR hS hL hZ
  exact lv_icmp_ge hc.1 hc.2.1 hd ht (fun _ => (k p e s m args below meth c H locs arr Z hc hz hR hS hL hZ)) (fun h => absurd hp h)
theorem q_icmp_ge_f {x y : Int32} {off : Int} {tgt : Nat} (hd : decode Y.2.1 pc = .ok (.if_icmp .ge off, 3)) (ht : (pc : Int) + off = (tgt : Int)) (hp : ¬ y ≤ x) (k : QW G R Y nc ns (pc + 3) ls st sh M J ρ) : QW G R Y nc ns pc ls (.int y :: .int x :: st) sh M J ρ := by
  intro p e s m args below meth c H locs arr Z hc hz hR hS hL hZ
  exact lv_icmp_ge hc.1 hc.2.1 hd ht (fun h => absurd h hp) (fun _ => (k p e s m args below meth c H locs arr Z hc hz hR hS hL hZ))
theorem q_if_gt_t {x : Int32} {off : Int} {tgt : Nat} (hd : decode Y.2.1 pc = .ok (.ifCond .gt off, 3)) (ht : (pc : Int) + off = (tgt : Int)) (hp : 0 < x) (k : QW G R Y nc ns tgt ls st sh M J ρ) : QW G R Y nc ns pc ls (.int x :: st) sh M J ρ := by
  intro p e s m args below meth c H locs arr Z hc hz hR hS hL hZ
  exact lv_if_gt hc.1 hc.2.1 hd ht (fun _ => (k p e s m args below meth c H locs arr Z hc hz hR hS hL hZ)) (fun h => absurd hp h)
theorem q_if_gt_f {x : Int32} {off : Int} {tgt : Nat} (hd : decode Y.2.1 pc = .ok (.ifCond .gt off, 3)) (ht : (pc : Int) + off = (tgt : Int)) (hp : ¬ 0 < x) (k : QW G R Y nc ns (pc + 3) ls st sh M J ρ) : QW G R Y nc ns pc ls (.int x :: st) sh M J ρ := by
  intro p e s m args below meth c H locs arr Z hc hz hR hS hL hZ
  exact lv_if_gt hc.1 hc.2.1 hd ht (fun h => absurd h hp) (fun _ => (k p e s m args below meth c H locs arr Z hc hz hR hS hL hZ))
theorem q_icmp_gt_t {x y : Int32} {off : Int} {tgt : Nat} (hd : decode Y.2.1 pc = .ok (.if_icmp .gt off, 3)) (ht : (pc : Int) + off = (tgt : Int)) (hp : y < x) (k : QW G R Y nc ns tgt ls st sh M J ρ) : QW G R Y nc ns pc ls (.int y :: .int x :: st) sh M J ρ := by
  intro p e s m args below meth c H locs arr Z hc hz hR hS hL hZ
  exact lv_icmp_gt hc.1 hc.2.1 hd ht (fun _ => (k p e s m args below meth c H locs arr Z hc hz hR hS hL hZ)) (fun h => absurd hp h)
theorem q_icmp_gt_f {x y : Int32} {off : Int} {tgt : Nat} (hd : decode Y.2.1 pc = .ok (.if_icmp .gt off, 3)) (ht : (pc : Int) + off = (tgt : Int)) (hp : ¬ y < x) (k : QW G R Y nc ns (pc + 3) ls st sh M J ρ) : QW G R Y nc ns pc ls (.int y :: .int x :: st) sh M J ρ := by
  intro p e s m args below meth c H locs arr Z hc hz hR hS hL hZ
  exact lv_icmp_gt hc.1 hc.2.1 hd ht (fun h => absurd h hp) (fun _ => (k p e s m args below meth c H locs arr Z hc hz hR hS hL hZ))
theorem q_if_le_t {x : Int32} {off : Int} {tgt : Nat} (hd : decode Y.2.1 pc = .ok (.ifCond .le off, 3)) (ht : (pc : Int) + off = (tgt : Int)) (hp : x ≤ 0) (k : QW G R Y nc ns tgt ls st sh M J ρ) : QW G R Y nc ns pc ls (.int x :: st) sh M J ρ := by
  intro p e s m args below meth c H locs arr Z hc hz hR hS hL hZ
  exact lv_if_le hc.1 hc.2.1 hd ht (fun _ => (k p e s m args below meth c H locs arr Z hc hz hR hS hL hZ)) (fun h => absurd hp h)
theorem q_if_le_f {x : Int32} {off : Int} {tgt : Nat} (hd : decode Y.2.1 pc = .ok (.ifCond .le off, 3)) (ht : (pc : Int) + off = (tgt : Int)) (hp : ¬ x ≤ 0) (k : QW G R Y nc ns (pc + 3) ls st sh M J ρ) : QW G R Y nc ns pc ls (.int x :: st) sh M J ρ := by
  intro p e s m args below meth c H locs arr Z hc hz hR hS hL hZ
  exact lv_if_le hc.1 hc.2.1 hd ht (fun h => absurd h hp) (fun _ => (k p e s m args below meth c H locs arr Z hc hz hR hS hL hZ))
theorem q_icmp_le_t {x y : Int32} {off : Int} {tgt : Nat} (hd : decode Y.2.1 pc = .ok (.if_icmp .le off, 3)) (ht : (pc : Int) + off = (tgt : Int)) (hp : x ≤ y) (k : QW G R Y nc ns tgt ls st sh M J ρ) : QW G R Y nc ns pc ls (.int y :: .int x :: st) sh M J ρ := by
  intro p e s m args below meth c H locs arr Z hc hz hR hS hL hZ
  exact lv_icmp_le hc.1 hc.2.1 hd ht (fun _ => (k p e s m args below meth c H locs arr Z hc hz hR hS hL hZ)) (fun h => absurd hp h)
theorem q_icmp_le_f {x y : Int32} {off : Int} {tgt : Nat} (hd : decode Y.2.1 pc = .ok (.if_icmp .le off, 3)) (ht : (pc : Int) + off = (tgt : Int)) (hp : ¬ x ≤ y) (k : QW G R Y nc ns (pc + 3) ls st sh M J ρ) : QW G R Y nc ns pc ls (.int y :: .int x :: st) sh M J ρ := by
  intro p e s m args below meth c H locs arr Z hc hz hR hS hL hZ
  exact lv_icmp_le hc.1 hc.2.1 hd ht (fun h => absurd h hp) (fun _ => (k p e s m args below meth c H locs arr Z hc hz hR hS hL hZ))
theorem q_tabOut {dflt lo hi : Int} {offs : Array Int} {len : Nat} {x : Int32} {tgt : Nat} (hd : decode Y.2.1 pc = .ok (.tableswitch dflt lo hi offs, len)) (h : x.toInt < lo ∨ hi < x.toInt) (ht : (pc : Int) + dflt = (tgt : Int)) (k : QW G R Y nc ns tgt ls st sh M J ρ) : QW G R Y nc ns pc ls (.int x :: st) sh M J ρ := by
  intro p e s m args below meth c H locs arr Z hc hz hR hS hL hZ
  exact lv_tableOut hc.1 hc.2.1 hd h ht (k p e s m args below meth c H locs arr Z hc hz hR hS hL hZ)
theorem q_tabIn {dflt lo hi : Int} {offs : Array Int} {len : Nat} {x : Int32} {off : Int} {tgt : Nat} (hd : decode Y.2.1 pc = .ok (.tableswitch dflt lo hi offs, len)) {j : Int} (hx : x.toInt = j) (h1 : ¬ j < lo) (h2 : ¬ hi < j) (ho : offs[(j - lo).toNat]? = some off) (ht : (pc : Int) + off = (tgt : Int)) (k : QW G R Y nc ns tgt ls st sh M J ρ) : QW G R Y nc ns pc ls (.int x :: st) sh M J ρ := by
  intro p e s m args below meth c H locs arr Z hc hz hR hS hL hZ
  subst hx
  exact lv_tableIn hc.1 hc.2.1 hd h1 h2 ho ht (k p e s m args below meth c H locs arr Z hc hz hR hS hL hZ)
theorem q_look {dflt : Int} {ps : Array (Int × Int)} {len : Nat} {x : Int32} {off : Int} {tgt : Nat} (hd : decode Y.2.1 pc = .ok (.lookupswitch dflt ps, len)) (hp : (ps.toList.zip (ps.toList.drop 1)).all (fun (a, next) => a.1 < next.1) = true) (ho : Op.lookupswitch.offset ps.toList dflt x.toInt = off) (ht : (pc : Int) + off = (tgt : Int)) (k : QW G R Y nc ns tgt ls st sh M J ρ) : QW G R Y nc ns pc ls (.int x :: st) sh M J ρ := by
  intro p e s m args below meth c H locs arr Z hc hz hR hS hL hZ
  exact lv_lookup hc.1 hc.2.1 hd hp ho ht (k p e s m args below meth c H locs arr Z hc hz hR hS hL hZ)
theorem q_iret {x : Int32} (hd : decode Y.2.1 pc = .ok (.ireturn, 1)) (hc1 : nc = R.cells) (hs1 : ns = R.slots) (he : (some (.int x), sh, M, J) = ρ) : QW G R Y nc ns pc ls [.int x] sh M J ρ := by
  intro p e s m args below meth c H locs arr Z hc hz hR hS hL hZ
  subst he; subst hc1; subst hs1
  exact hZ H locs pc arr hz.1 hR hS hd
theorem q_vret (hd : decode Y.2.1 pc = .ok (.return_, 1)) (hc1 : nc = R.cells) (hs1 : ns = R.slots) (he : (none, sh, M, J) = ρ) : QW G R Y nc ns pc ls [] sh M J ρ := by
  intro p e s m args below meth c H locs arr Z hc hz hR hS hL hZ
  subst he; subst hc1; subst hs1
  exact hZ H locs pc arr hz.1 hR hS hd
theorem q_iald {q n : Nat} {i v : Int32} (hd : decode Y.2.1 pc = .ok (.iaload, 1)) (hq : sh[q]? = some (.inl (false, n))) (hv : qrd M q n i = some v) (k : QW G R Y nc ns (pc + 1) ls (.int v :: st) sh M J ρ) : QW G R Y nc ns pc ls (.int i :: .ref q :: st) sh M J ρ := by
  intro p e s m args below meth c H locs arr Z hc hz hR hS hL hZ
  obtain ⟨h0, rfl⟩ := qif hv
  show W p (gl G) e R s m args below meth c H locs nc ns Z (F0 m pc arr (.int i :: qcv G (.ref q) :: st.map (qcv G)))
  rw [hR.kn hq]
  exact va_iald hc.1 hc.2.1 hR.2.2.1 hR.2.1 q 0 (qw_get hq) rfl h0 hd (k p e s m args below meth c H locs arr Z hc hz hR hS hL hZ)
theorem q_bald {q n : Nat} {i v : Int32} (hd : decode Y.2.1 pc = .ok (.baload, 1)) (hq : sh[q]? = some (.inl (true, n))) (hv : qrd M q n i = some v) (k : QW G R Y nc ns (pc + 1) ls (.int v :: st) sh M J ρ) : QW G R Y nc ns pc ls (.int i :: .ref q :: st) sh M J ρ := by
  intro p e s m args below meth c H locs arr Z hc hz hR hS hL hZ
  obtain ⟨h0, rfl⟩ := qif hv
  show W p (gl G) e R s m args below meth c H locs nc ns Z (F0 m pc arr (.int i :: qcv G (.ref q) :: st.map (qcv G)))
  rw [hR.kn hq]
  exact va_zald hc.1 hc.2.1 hR.2.2.1 hR.2.1 q 1 (qw_get hq) rfl h0 hd (k p e s m args below meth c H locs arr Z hc hz hR hS hL hZ)
theorem q_scld {i v : Int32} (hd : decode Y.2.1 pc = .ok (.iaload, 1)) (hv : qsc (gx G) (gL G) i = some v) (k : QW G R Y nc ns (pc + 1) ls (.int v :: st) sh M J ρ) : QW G R Y nc ns pc ls (.int i :: .ref 4096 :: st) sh M J ρ := by
  intro p e s m args below meth c H locs arr Z hc hz hR hS hL hZ
  obtain ⟨h0, rfl⟩ := qif hv
  exact va_sld hc.1 hc.2.1 (H0 := H) (A := qA G) (hR.2.2.2.2) (va_lt hR.2.2.2.2) (Nat.not_le.mpr hR.1.2) ⟨Nat.le_refl _, fun _ _ _ => rfl, hS.2.2⟩ h0 hd (k p e s m args below meth c H locs arr Z hc hz hR hS hL hZ)
theorem q_sclen (hd : decode Y.2.1 pc = .ok (.arraylength, 1)) (k : QW G R Y nc ns (pc + 1) ls (.int (Int32.ofNat (gL G)) :: st) sh M J ρ) : QW G R Y nc ns pc ls (.ref 4096 :: st) sh M J ρ := by
  intro p e s m args below meth c H locs arr Z hc hz hR hS hL hZ
  exact va_slen hc.1 hc.2.1 (H0 := H) (A := qA G) (hR.2.2.2.2) (va_lt hR.2.2.2.2) (Nat.not_le.mpr hR.1.2) ⟨Nat.le_refl _, fun _ _ _ => rfl, hS.2.2⟩ hd (k p e s m args below meth c H locs arr Z hc hz hR hS hL hZ)
theorem q_alen {q n : Nat} {v : Int32} (hd : decode Y.2.1 pc = .ok (.arraylength, 1)) (hq : sh[q]? = some (.inl (false, n))) (hv : Int32.ofNat n = v) (k : QW G R Y nc ns (pc + 1) ls (.int v :: st) sh M J ρ) : QW G R Y nc ns pc ls (.ref q :: st) sh M J ρ := by
  intro p e s m args below meth c H locs arr Z hc hz hR hS hL hZ
  show W p (gl G) e R s m args below meth c H locs nc ns Z (F0 m pc arr (qcv G (.ref q) :: st.map (qcv G)))
  rw [hR.kn hq]
  exact va_alen hc.1 hc.2.1 hR.2.2.1 hR.2.1 q 0 (qw_get hq) rfl hv hd (k p e s m args below meth c H locs arr Z hc hz hR hS hL hZ)
theorem q_iast {q n : Nat} {i x : Int32} {M' : qM} (hd : decode Y.2.1 pc = .ok (.iastore, 1)) (hq : sh[q]? = some (.inl (false, n))) (hv : qwr M q n i x = some M') (k : QW G R Y nc ns (pc + 1) ls st sh M' J ρ) : QW G R Y nc ns pc ls (.int x :: .int i :: .ref q :: st) sh M J ρ := by
  intro p e s m args below meth c H locs arr Z hc hz hR hS hL hZ
  obtain ⟨h0, rfl⟩ := qif hv
  show W p (gl G) e R s m args below meth c H locs nc ns Z (F0 m pc arr (.int x :: .int i :: qcv G (.ref q) :: st.map (qcv G)))
  rw [hR.kn hq]
  refine va_iast hc.1 hc.2.1 hR.2.2.1 hR.2.1 qw_D hS q 0 (qw_get hq) rfl h0 hd (fun H1 locs1 hP hD hS1 => ?_)
  rw [qw_arr hq _ (qu M q i.toNatClampNeg x) (qu_row _ _ _ _) (fun a h => qu_ne _ _ _ _ h)] at hP
  exact k p e s m args below meth c H1 locs1 arr Z hc hz (hR.keep hS hS1 hz.2 hR.1.1 hP) hS1 hL hZ
theorem q_bast {q n : Nat} {i x : Int32} {M' : qM} (hd : decode Y.2.1 pc = .ok (.bastore, 1)) (hq : sh[q]? = some (.inl (true, n))) (hv : qwz M q n i x = some M') (k : QW G R Y nc ns (pc + 1) ls st sh M' J ρ) : QW G R Y nc ns pc ls (.int x :: .int i :: .ref q :: st) sh M J ρ := by
  intro p e s m args below meth c H locs arr Z hc hz hR hS hL hZ
  obtain ⟨h0, rfl⟩ := qif hv
  show W p (gl G) e R s m args below meth c H locs nc ns Z (F0 m pc arr (.int x :: .int i :: qcv G (.ref q) :: st.map (qcv G)))
  rw [hR.kn hq]
  refine va_zast hc.1 hc.2.1 hR.2.2.1 hR.2.1 qw_D hS q 1 (qw_get hq) rfl h0 hd (fun H1 locs1 hP hD hS1 => ?_)
  rw [qw_arr hq _ (qu M q i.toNatClampNeg (vp_nar .boolean x)) (qu_row _ _ _ _) (fun a h => qu_ne _ _ _ _ h)] at hP
  exact k p e s m args below meth c H1 locs1 arr Z hc hz (hR.keep hS hS1 hz.2 hR.1.1 hP) hS1 hL hZ
end QRULES
