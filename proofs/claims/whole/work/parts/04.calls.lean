def qrm (d mc ms : Nat) : Room := { frames := d, cells := mc, slots := ms, locals := 39 * d }
def qen : List Value → List (Option Value)
  | [] => []
  | v :: r => if v.category = 2 then some v :: none :: qen r else some v :: qen r
abbrev qel (Y : qY) (as : List Value) : List (Option Value) := qen as ++ List.replicate (Y.2.2.1 - (qen as).length) none
def qrt (Y : qY) (r : Option Value) : Prop := match r with
  | none => Y.2.2.2 = none
  | some (.int v) => Y.2.2.2 = some .int ∨ (Y.2.2.2 = some .boolean ∧ ∃ b, v = qb b)
  | _ => False
/-- the method, called with as in the picture (sh, M, J), returns with just ρ -/
def QM (G : qG) (d mc ms : Nat) (Y : qY) (as : List Value) (sh : qSh) (M : qM) (J : qJ) (ρ : qR) : Prop := (qen as).length ≤ Y.2.2.1 ∧ qrt Y ρ.1 ∧ QW G (qrm d mc ms) Y 0 0 0 (qel Y as) [] sh M J ρ
abbrev qws (Y : qY) : List Cond := Cond.code Y.1 Y.2.1 Y.2.2.1 Y.2.2.2 :: qT
def qPc (G : qG) (as : List Value) (sh : qSh) (M : qM) (J : qJ) : Array Value → State → Prop := va_Pc (as.map (qcv G)) (fun U => qRl G sh M J U U.heap ∧ U.heap.size = gb G + sh.length)
def qQc (G : qG) (ρ : qR) : Array Value → State → Outcome → State → Prop := fun _ st o t => o = .returned (ρ.1.map (qcv G)) ∧ qRl G ρ.2.1 ρ.2.2.1 ρ.2.2.2 t t.heap ∧ va_F (qA G) st t
theorem qRl.moved {G : qG} {sh : qSh} {M : qM} {J : qJ} {s U : State} {H : Heap} (hW : s.WarmedH U.vm) (h : qRl G sh M J s H) : qRl G sh M J U H :=
  ⟨h.1, h.2.1, va_K.moved hW.alike h.2.2.1, fun w hw => va_Nw.warmM hW (h.2.2.2.1 w hw), va_X.moved hW.alike h.2.2.2.2⟩
theorem qPc.blind {G : qG} {as : List Value} {sh : qSh} {M : qM} {J : qJ} : FrameBlind (qPc G as sh M J) := by
  intro a U g mk h
  obtain ⟨h1, ⟨r1, r2, r3, r4, r5⟩, h3⟩ := h
  exact ⟨h1, ⟨r1, r2, va_K.moved (u := U) (U := U.calling g mk a) (Vm.Alike.refl U.vm) r3, fun w hw => va_Nw.same rfl rfl (r4 w hw), va_X.moved (u := U) (U := U.calling g mk a) (Vm.Alike.refl U.vm) r5⟩, h3⟩
theorem qen_in (G : qG) : ∀ (as : List Value) (k i : Nat) (v : Value), (qen as)[i]? = some (some v) → (k + i, qcv G v) ∈ lv_args k (as.map (qcv G))
  | [], k, i, v, h => by simp [qen] at h
  | w :: r, k, i, v, h => by
    show _ ∈ (k, qcv G w) :: lv_args (if (qcv G w).category = 2 then k + 2 else k + 1) (r.map (qcv G))
    rw [qcv_cat]
    unfold qen at h
    by_cases hc : w.category = 2
    · rw [if_pos hc] at h ⊢
      match i, h with
      | 0, h => simp at h; subst h; exact List.mem_cons_self
      | 1, h => simp at h
      | i + 2, h =>
        refine List.mem_cons_of_mem _ ?_
        have := qen_in G r (k + 2) i v (by simpa using h)
        rwa [show k + 2 + i = k + (i + 2) by omega] at this
    · rw [if_neg hc] at h ⊢
      match i, h with
      | 0, h => simp at h; subst h; exact List.mem_cons_self
      | i + 1, h =>
        refine List.mem_cons_of_mem _ ?_
        have := qen_in G r (k + 1) i v (by simpa using h)
        rwa [show k + 1 + i = k + (i + 1) by omega] at this
theorem qen_len (G : qG) : ∀ as : List Value, (lg_sl (as.map (qcv G))).length = (qen as).length
  | [] => rfl
  | v :: r => by
    have ih := qen_len G r
    unfold qen
    by_cases hc : v.category = 2
    · simp [lg_sl, qcv_cat, hc] at ih ⊢
      omega
    · simp [lg_sl, qcv_cat, hc] at ih ⊢
      omega
theorem qel_ok {G : qG} {Y : qY} {as : List Value} (h : (qen as).length ≤ Y.2.2.1) : qLs G ((lg_sl (as.map (qcv G)) ++ List.replicate (Y.2.2.1 - (lg_sl (as.map (qcv G))).length) Slot.unset).toArray) Y.2.2.1 (qel Y as) := by
  obtain ⟨h1, h2, h3⟩ := lv_entry (as.map (qcv G)) (n := Y.2.2.1) (by rw [qen_len]; exact h)
  refine ⟨h1, h2, fun i v hi => ?_⟩
  by_cases hl : i < (qen as).length
  · rw [List.getElem?_append_left hl] at hi
    have := h3 _ (qen_in G as 0 i v hi)
    rwa [Nat.zero_add] at this
  · rw [List.getElem?_append_right (by omega)] at hi
    have := List.mem_of_getElem? hi
    simp at this
theorem QM.met {G : qG} {d mc ms : Nat} {Y : qY} {as : List Value} {sh : qSh} {M : qM} {J : qJ} {ρ : qR} (h : QM G d mc ms Y as sh M J ρ) (hy : plainName Y.1.cls = true) : Met (gl G) Y.1 (qws Y) (qrm d mc ms) (qPc G as sh M J) (qQc G ρ) mc ms (qA G) := by
  obtain ⟨hlen, hrt, hq⟩ := h
  refine Met.ofW (cc := Y.2.1) (maxL := Y.2.2.1) (ret := Y.2.2.2) hy rfl ?_
  intro p e s m args below meth c s₁ B hml hv
  obtain ⟨rfl, hR, hsz⟩ := hv
  have hts0 := atoms_spec (ws := qws Y) B.pre
  have hlocks := B.notSynchronized
  rw [lg_entry_eq]
  refine hq p e s m _ below meth c s.heap [] _ _ ⟨B.exec, B.bytes, hml, B.returns, B.notSynchronized, findClass_of_methodNamed B.named, fun w hw => hts0 w (List.mem_cons_of_mem _ hw), fun h => (name_of_methodNamed B.named B.method).1.trans h⟩ ⟨by omega, by omega⟩ hR va_S.rf (qel_ok hlen) ?_
  intro H1 locs1 pc1 arr1 hz1 hR1 hS1 hd1
  obtain ⟨r, sh1, M1, J1⟩ := ρ
  match r, hrt, hd1 with
  | none, hrt, hd1 =>
    exact W.vret B.exec B.bytes (B.returns.trans hrt) (fun t ht hW => ⟨rfl, by rw [ht]; exact hR1.moved hW, hS1.F ht⟩) hS1.2.2 hd1
  | some (.int v), hrt, hd1 =>
    rcases hrt with hrt | ⟨hrt, b, rfl⟩
    · exact W.iret B.exec B.bytes (B.returns.trans hrt) (fun t ht hW => ⟨rfl, by rw [ht]; exact hR1.moved hW, hS1.F ht⟩) hS1.2.2 hd1
    · exact W.zret B.exec B.bytes (B.returns.trans hrt) (by cases b <;> rfl) (fun t ht hW => ⟨rfl, by rw [ht]; exact hR1.moved hW, hS1.F ht⟩) hS1.2.2 hd1
section QM
variable {G : qG} {R : Room} {Y : qY} {nc ns pc : Nat} {ls ls' : List (Option Value)} {st : List Value} {sh : qSh} {M : qM} {J : qJ} {ρ : qR}
theorem q_size {p : Program} {e : Env} {s : State} {m : MethodId} {args : Array Value} {below : List Frame} {meth : Method} {c : Code} {H : Heap} {locs : List Loc} {T : State} (hT : T.heap = H) (X : Stand p (gl G) e R s m args below meth c T locs nc ns) (hz : s.heap.size + nc = gb G + sh.length ∧ gb G ≤ s.heap.size) (hR : qRl G sh M J s H) (hS : va_S (qA G) s.heap H locs) : H.size = gb G + sh.length := by
  have h1 := X.heapSize
  have h2 := hR.low hz.2 hS
  rw [hT] at h1
  omega
/-- behind a call -/
theorem q_after {p : Program} {e : Env} {s : State} {m : MethodId} {args : Array Value} {below : List Frame} {meth : Method} {c : Code} {H : Heap} {locs : List Loc} {arr : Array Slot} {Z : State → Prop} {mc ms : Nat} {ρ' : qR} {av : Array Value} {st0 : List Value}
    (hr : va_Run p (gl G) e R s m args below meth c H locs nc ns mc ms (F0 m pc arr st0) (st.map (qcv G)) (qQc G ρ' av) (qA G)) (hc : qCx Y p s m args meth c) (hz : s.heap.size + nc = gb G + sh.length ∧ gb G ≤ s.heap.size) (hR : qRl G sh M J s H) (hS : va_S (qA G) s.heap H locs) (hL : qLs G arr Y.2.2.1 ls)
    (hZ : ∀ (H1 : Heap) (locs1 : List Loc) (pc1 : Nat) (arr1 : Array Slot), (s.heap.size + R.cells = gb G + ρ.2.1.length) → qRl G ρ.2.1 ρ.2.2.1 ρ.2.2.2 s H1 → va_S (qA G) s.heap H1 locs1 → decode Y.2.1 pc1 = .ok (qri ρ.1, 1) → W p (gl G) e R s m args below meth c H1 locs1 R.cells R.slots Z (F0 m pc1 arr1 (ρ.1.toList.map (qcv G))))
    (hsz : ρ'.2.1.length = sh.length + mc) (k : QW G R Y (nc + mc) (ns + ms) (pc + 3) ls (ρ'.1.toList ++ st) ρ'.2.1 ρ'.2.2.1 ρ'.2.2.2 ρ) : W p (gl G) e R s m args below meth c H locs nc ns Z (F0 m pc arr st0) := by
  intro T hT X
  obtain ⟨v, st₀, t, T', L, h0, X', hL', e1, e2, ⟨hv, hRt, hF⟩, hgo⟩ := hr T hT X
  cases hv
  have hS' : va_S (qA G) s.heap T'.heap (locs ++ L) := by
    refine ⟨?_, fun q h1 h2 => ?_, fun q hq => ?_⟩
    · rw [e1]
      have h3 := hF.1
      rw [h0] at h3
      exact Nat.le_trans hS.1 h3
    · rw [e1, hF.2 q (by rw [h0]; exact Nat.lt_of_lt_of_le h1 hS.1) h2, h0]
      exact hS.2.1 q h1 h2
    · rcases List.mem_append.mp hq with h | h
      · exact hS.2.2 q h
      · exact hL' q h
  have hR' : qRl G ρ'.2.1 ρ'.2.2.1 ρ'.2.2.2 s T'.heap := hR.keep hS hS' hz.2 hRt.1.1 (by rw [e1]; exact hRt.2.1)
  have hk := k p e s m args below meth c T'.heap (locs ++ L) arr Z hc ⟨by omega, hz.2⟩ hR' hS' hL hZ T' rfl X'
  obtain ⟨t2, a1, b1⟩ := hk
  refine ⟨t2, hgo t2 ?_, b1⟩
  have he : ((ρ'.1.toList ++ st).map (qcv G)) = (ρ'.1.map (qcv G)).toList ++ st.map (qcv G) := by cases ρ'.1 <;> rfl
  rw [he] at a1
  exact a1
theorem q_good {Y' : qY} {n : Nat} (h : qOKc Y' n) : GoodIn qT (qws Y') := by
  intro w hw
  have hm : w ∈ qT := by
    rcases List.mem_cons.mp hw with rfl | h1
    · exact h.1
    · exact h1
  exact ⟨hm, good_of_word (List.mem_filter.mp hm).2⟩
theorem q_cat (G : qG) (st : List Value) : ((st.map (qcv G)).map fun v => v.category).sum = (st.map fun v => v.category).sum := by rw [List.map_map]; exact congrArg List.sum (List.map_congr_left fun v _ => qcv_cat G v)
theorem q_pre {s : State} {H : Heap} {as : List Value} (hR : qRl G sh M J s H) (hsz : H.size = gb G + sh.length) : PreS s H (qPc G as sh M J) (as.map (qcv G)) :=
  ⟨qPc.blind, fun U hU hW => ⟨rfl, by rw [hU]; exact hR.moved hW, by rw [hU]; exact hsz⟩⟩
theorem q_callv {as : List Value} {Y' : qY} {i n d mc ms : Nat} {ρ' : qR} {st0 : List Value} {q ci N : Nat} {rs : List (Option Nat)} {T : u_T} (hM : QM G d mc ms Y' (.ref q :: as) sh M J ρ') (hok : qOKv Y' n) (hn : as.length = n) (hd : decode Y.2.1 pc = .ok (.invokevirtual i, 3)) (hlk : Cond.methodLink Y.1.cls i Y'.1 ∈ qT) (hq : sh[q]? = some (.inr (ci, rs))) (hcl : vwCl[ci]? = some (Y'.1.cls, T, N)) (he : st0 = as.reverse ++ .ref q :: st) (hfr : d + 1 ≤ R.frames) (hlo : 39 * d + 39 ≤ R.locals) (hst : (st.map fun v => v.category).sum ≤ 8) (hcc : nc + mc ≤ R.cells ∧ ns + ms ≤ R.slots) (hsz : ρ'.2.1.length = sh.length + mc)
    (k : QW G R Y (nc + mc) (ns + ms) (pc + 3) ls (ρ'.1.toList ++ st) ρ'.2.1 ρ'.2.2.1 ρ'.2.2.2 ρ) : QW G R Y nc ns pc ls st0 sh M J ρ := by
  intro p e s m args below meth c H locs arr Z hc hz hR hS hL hZ
  subst he
  intro T hT X
  have hH := q_size hT X hz hR hS
  have hc7 := hc.2.2.2.2.2.2.1
  have hroom : (qrm d mc ms).frames + 1 ≤ R.frames ∧ 8 + (Y'.2.2.1 + 11) + (qrm d mc ms).locals ≤ R.locals := ⟨hfr, by have := hok.1.2.2.2.2; show 8 + (Y'.2.2.1 + 11) + 39 * d ≤ R.locals; omega⟩
  have hpre := q_pre (as := .ref q :: as) hR hH
  have hrun := va_runV (p := p) (e := e) (below := below) (meth := meth) (locs := locs) (cells := nc) (slots := ns) (As := as.map (qcv G)) (rest := st.map (qcv G)) (b := gb G + q) (C := Y'.1.cls) (g := F0 m pc arr ((as.reverse ++ .ref q :: st).map (qcv G))) ⟨hc.1, hc.2.1, hc.2.2.1, hc.2.2.2.2.2.1, hc7⟩ (hM.met hok.1.2.2.2.1)
    ⟨callB_of n hc7 (q_good hok.1) rfl rfl rfl (hc7 _ hok.1.2.1) (hc7 _ hlk) hok.1.2.2.1 hroom, hc7 _ hok.2.1, hc7 _ hok.2.2⟩
    ⟨hpre.1, va_recv hR.2.2.1 hR.2.1 hcl (qw_get hq), fun U hU hW => by have := hpre.2 U hU hW; rwa [List.map_cons, hR.kn hq] at this⟩ rfl (by rw [List.length_map]; exact hn) hL.1 (by show List.map _ _ = _; rw [List.map_append, List.map_reverse, List.map_cons, hR.kn hq]) (by show 2 * 0 + _ ≤ 8; rw [q_cat]; omega) hd hcc
  exact q_after hrun hc hz hR hS hL hZ hsz k T hT X
theorem q_calls {as : List Value} {Y' : qY} {i n d mc ms : Nat} {ρ' : qR} {st0 : List Value} (hM : QM G d mc ms Y' as sh M J ρ') (hok : qOKs Y' n) (hn : as.length = n) (hd : decode Y.2.1 pc = .ok (.invokestatic i, 3)) (hlk : Cond.methodLink Y.1.cls i Y'.1 ∈ qT) (he : st0 = as.reverse ++ st) (hfr : d + 1 ≤ R.frames) (hlo : 39 * d + 39 ≤ R.locals) (hst : (st.map fun v => v.category).sum ≤ 8) (hcc : nc + mc ≤ R.cells ∧ ns + ms ≤ R.slots) (hsz : ρ'.2.1.length = sh.length + mc)
    (k : QW G R Y (nc + mc) (ns + ms) (pc + 3) ls (ρ'.1.toList ++ st) ρ'.2.1 ρ'.2.2.1 ρ'.2.2.2 ρ) : QW G R Y nc ns pc ls st0 sh M J ρ := by
  intro p e s m args below meth c H locs arr Z hc hz hR hS hL hZ
  subst he
  intro T hT X
  have hH := q_size hT X hz hR hS
  have hc7 := hc.2.2.2.2.2.2.1
  have hroom : (qrm d mc ms).frames + 1 ≤ R.frames ∧ 8 + (Y'.2.2.1 + 11) + (qrm d mc ms).locals ≤ R.locals := ⟨hfr, by have := hok.1.2.2.2.2; show 8 + (Y'.2.2.1 + 11) + 39 * d ≤ R.locals; omega⟩
  have hpre := q_pre (as := as) hR hH
  have hrun := va_runS (p := p) (e := e) (below := below) (meth := meth) (locs := locs) (cells := nc) (slots := ns) (As := as.map (qcv G)) (rest := st.map (qcv G)) (g := F0 m pc arr ((as.reverse ++ st).map (qcv G))) ⟨hc.1, hc.2.1, hc.2.2.1, hc.2.2.2.2.2.1, hc7⟩ (hM.met hok.1.2.2.2.1)
    ⟨callB_of n hc7 (q_good hok.1) rfl rfl rfl (hc7 _ hok.1.2.1) (hc7 _ hlk) hok.1.2.2.1 hroom, hc7 _ hok.2⟩
    hpre rfl (by rw [List.length_map]; exact hn) hL.1 (by show List.map _ _ = _; rw [List.map_append, List.map_reverse]) (by show 2 * 0 + _ ≤ 8; rw [q_cat]; omega) hd hcc
  exact q_after hrun hc hz hR hS hL hZ hsz k T hT X
theorem q_calli {as : List Value} {Y' : qY} {i n d mc ms : Nat} {ρ' : qR} {st0 : List Value} {q : Nat} (hM : QM G d mc ms Y' (.ref q :: as) sh M J ρ') (hok : qOKi Y' n) (hn : as.length = n) (hd : decode Y.2.1 pc = .ok (.invokespecial i, 3)) (hlk : Cond.methodLink Y.1.cls i Y'.1 ∈ qT) (hq : q < 4096) (he : st0 = as.reverse ++ .ref q :: st) (hfr : d + 1 ≤ R.frames) (hlo : 39 * d + 39 ≤ R.locals) (hst : (st.map fun v => v.category).sum ≤ 8) (hcc : nc + mc ≤ R.cells ∧ ns + ms ≤ R.slots) (hsz : ρ'.2.1.length = sh.length + mc)
    (k : QW G R Y (nc + mc) (ns + ms) (pc + 3) ls (ρ'.1.toList ++ st) ρ'.2.1 ρ'.2.2.1 ρ'.2.2.2 ρ) : QW G R Y nc ns pc ls st0 sh M J ρ := by
  intro p e s m args below meth c H locs arr Z hc hz hR hS hL hZ
  subst he
  intro T hT X
  have hH := q_size hT X hz hR hS
  have hc7 := hc.2.2.2.2.2.2.1
  have hroom : (qrm d mc ms).frames + 1 ≤ R.frames ∧ 8 + (Y'.2.2.1 + 11) + (qrm d mc ms).locals ≤ R.locals := ⟨hfr, by have := hok.1.2.2.2.2; show 8 + (Y'.2.2.1 + 11) + 39 * d ≤ R.locals; omega⟩
  have hpre := q_pre (as := .ref q :: as) hR hH
  have hkn : qcv G (.ref q) = .ref (gb G + q) := by show Value.ref (if q < 4096 then gb G + q else gs G) = _; rw [if_pos hq]
  have hrun := va_runI (p := p) (e := e) (below := below) (meth := meth) (locs := locs) (cells := nc) (slots := ns) (As := as.map (qcv G)) (rest := st.map (qcv G)) (b := gb G + q) (g := F0 m pc arr ((as.reverse ++ .ref q :: st).map (qcv G))) ⟨hc.1, hc.2.1, hc.2.2.1, hc.2.2.2.2.2.1, hc7⟩ (hM.met hok.1.2.2.2.1)
    ⟨callB_of n hc7 (q_good hok.1) (ret := none) (by rw [← hok.2.2.1]) rfl rfl (hc7 _ hok.1.2.1) (hc7 _ hlk) hok.1.2.2.1 hroom, hok.2.1, hc7 _ hok.2.2.2⟩
    ⟨hpre.1, fun U hU hW => by have := hpre.2 U hU hW; rwa [List.map_cons, hkn] at this⟩ rfl (by rw [List.length_map]; exact hn) hL.1 (by show List.map _ _ = _; rw [List.map_append, List.map_reverse, List.map_cons, hkn]) (by show 2 * 0 + _ ≤ 8; rw [q_cat]; omega) hd hcc
  exact q_after hrun hc hz hR hS hL hZ hsz k T hT X
theorem q_callsn {as : List Value} {Y' : qY} {i n d mc ms : Nat} {ρ' : qR} {st0 : List Value} {host : String} (hM : QM G d mc ms Y' as sh M J ρ') (hok : qOKs Y' n) (hn : as.length = n) (hd : decode Y.2.1 pc = .ok (.invokestatic i, 3)) (hlk : (Y.1.cls, i, Y'.1, host) ∈ qnest) (he : st0 = as.reverse ++ st) (hfr : d + 1 ≤ R.frames) (hlo : 39 * d + 39 ≤ R.locals) (hst : (st.map fun v => v.category).sum ≤ 8) (hcc : nc + mc ≤ R.cells ∧ ns + ms ≤ R.slots) (hsz : ρ'.2.1.length = sh.length + mc)
    (k : QW G R Y (nc + mc) (ns + ms) (pc + 3) ls (ρ'.1.toList ++ st) ρ'.2.1 ρ'.2.2.1 ρ'.2.2.2 ρ) : QW G R Y nc ns pc ls st0 sh M J ρ := by
  intro p e s m args below meth c H locs arr Z hc hz hR hS hL hZ
  subst he
  intro T hT X
  have hH := q_size hT X hz hR hS
  have hc7 := hc.2.2.2.2.2.2.1
  have hroom : (qrm d mc ms).frames + 1 ≤ R.frames ∧ 8 + (Y'.2.2.1 + 11) + (qrm d mc ms).locals ≤ R.locals := ⟨hfr, by have := hok.1.2.2.2.2; show 8 + (Y'.2.2.1 + 11) + 39 * d ≤ R.locals; omega⟩
  have hpre := q_pre (as := as) hR hH
  have hrun := va_runSN (p := p) (e := e) (below := below) (meth := meth) (locs := locs) (cells := nc) (slots := ns) (As := as.map (qcv G)) (rest := st.map (qcv G)) (g := F0 m pc arr ((as.reverse ++ st).map (qcv G))) ⟨hc.1, hc.2.1, hc.2.2.1, hc.2.2.2.2.2.1, hc7⟩ (hM.met hok.1.2.2.2.1)
    ⟨va_cnB n hc7 (q_good hok.1) rfl rfl rfl (hR.2.2.2.1 _ hlk) (hc7 _ hok.1.2.1) hok.1.2.2.1 hroom, hc7 _ hok.2, trivial⟩
    hpre rfl (by rw [List.length_map]; exact hn) hL.1 (by show List.map _ _ = _; rw [List.map_append, List.map_reverse]) (by show 2 * 0 + _ ≤ 8; rw [q_cat]; omega) hd hcc
  exact q_after hrun hc hz hR hS hL hZ hsz k T hT X
theorem q_callin {as : List Value} {Y' : qY} {i n d mc ms : Nat} {ρ' : qR} {st0 : List Value} {q : Nat} {host : String} (hM : QM G d mc ms Y' (.ref q :: as) sh M J ρ') (hok : qOKi Y' n) (hn : as.length = n) (hd : decode Y.2.1 pc = .ok (.invokespecial i, 3)) (hlk : (Y.1.cls, i, Y'.1, host) ∈ qnest) (hq : q < 4096) (he : st0 = as.reverse ++ .ref q :: st) (hfr : d + 1 ≤ R.frames) (hlo : 39 * d + 39 ≤ R.locals) (hst : (st.map fun v => v.category).sum ≤ 8) (hcc : nc + mc ≤ R.cells ∧ ns + ms ≤ R.slots) (hsz : ρ'.2.1.length = sh.length + mc)
    (k : QW G R Y (nc + mc) (ns + ms) (pc + 3) ls (ρ'.1.toList ++ st) ρ'.2.1 ρ'.2.2.1 ρ'.2.2.2 ρ) : QW G R Y nc ns pc ls st0 sh M J ρ := by
  intro p e s m args below meth c H locs arr Z hc hz hR hS hL hZ
  subst he
  intro T hT X
  have hH := q_size hT X hz hR hS
  have hc7 := hc.2.2.2.2.2.2.1
  have hroom : (qrm d mc ms).frames + 1 ≤ R.frames ∧ 8 + (Y'.2.2.1 + 11) + (qrm d mc ms).locals ≤ R.locals := ⟨hfr, by have := hok.1.2.2.2.2; show 8 + (Y'.2.2.1 + 11) + 39 * d ≤ R.locals; omega⟩
  have hpre := q_pre (as := .ref q :: as) hR hH
  have hkn : qcv G (.ref q) = .ref (gb G + q) := by show Value.ref (if q < 4096 then gb G + q else gs G) = _; rw [if_pos hq]
  have hrun := va_runIN (p := p) (e := e) (below := below) (meth := meth) (locs := locs) (cells := nc) (slots := ns) (As := as.map (qcv G)) (rest := st.map (qcv G)) (b := gb G + q) (g := F0 m pc arr ((as.reverse ++ .ref q :: st).map (qcv G))) ⟨hc.1, hc.2.1, hc.2.2.1, hc.2.2.2.2.2.1, hc7⟩ (hM.met hok.1.2.2.2.1)
    ⟨va_cnB n hc7 (q_good hok.1) (ret := none) (by rw [← hok.2.2.1]) rfl rfl (hR.2.2.2.1 _ hlk) (hc7 _ hok.1.2.1) hok.1.2.2.1 hroom, hok.2.1, hc7 _ hok.2.2.2⟩
    ⟨hpre.1, fun U hU hW => by have := hpre.2 U hU hW; rwa [List.map_cons, hkn] at this⟩ rfl (by rw [List.length_map]; exact hn) hL.1 (by show List.map _ _ = _; rw [List.map_append, List.map_reverse, List.map_cons, hkn]) (by show 2 * 0 + _ ≤ 8; rw [q_cat]; omega) hd hcc
  exact q_after hrun hc hz hR hS hL hZ hsz k T hT X
theorem qw_push (G : qG) (sh : qSh) (c : qC) (M : qM) (J : qJ) : qw G (sh ++ [c]) M J = qw G sh M J ++ [qce G M J sh.length c] := by
  simp [qw, List.mapIdx_append]
theorem qfa_nul (G : qG) (ty : FieldType) (i : Int32) (j : Int64) : qcv G (qfa ty none i j) = qfa ty none i j := by
  cases ty <;> rfl
theorem q_new {i ci N : Nat} {C : String} {T : u_T} {sh' : qSh} (ty0 : Nat → FieldType) (hd : decode Y.2.1 pc = .ok (.new i, 3)) (hcl : vwCl[ci]? = some (C, T, N)) (hin : ∀ w ∈ u_ws C T N, w ∈ qT) (hty : ∀ k, k < N → parseFieldDescriptor (T k).2.2.1 = some (ty0 k)) (hN : qN ci = N) (hqt : ∀ k, k < N → qty ci k = ty0 k ∧ defaultValue (ty0 k) = qfa (ty0 k) none 0 0) (hlk : Cond.classLink Y.1.cls i C ∈ qT) (hins : Cond.instantiable C N ∈ qT) (hini : Cond.initialized C ∈ qT)
    (hM : ∀ k, M sh.length k = 0) (hJ : ∀ k, J sh.length k = 0) (hl : sh.length < 4096) (h1 : nc + 1 ≤ R.cells) (h2 : ns + N ≤ R.slots) {q : Nat} (hq : sh.length = q) (he : sh ++ [.inr (ci, List.replicate N none)] = sh') (k : QW G R Y (nc + 1) (ns + N) (pc + 3) ls (.ref q :: st) sh' M J ρ) : QW G R Y nc ns pc ls st sh M J ρ := by
  intro p e s m args below meth c H locs arr Z hc hz hR hS hL hZ
  subst he; subst hq
  intro T0 hT X
  have hH := q_size hT X hz hR hS
  have hc7 := hc.2.2.2.2.2.2.1
  have hKn := hR.2.2.1.1 ci _ hcl
  refine (W.newcK (p := p) (l := gl G) (e := e) (R := R) (s := s) (m := m) (args := args) (below := below) (meth := meth) (c := c) (H := H) (locs := locs) (cells := nc) (slots := ns) (Q := Z) hc.1 hc.2.1 hc.2.2.2.2.2.1 (hc7 _ hlk) (hc7 _ hins) (hc7 _ hini) rfl hd h1 h2 hKn.2.1 hH (g := F0 m pc arr (st.map (qcv G))) fun H1 kC hkC e1 z1 o1 => ?_) T0 hT X
  have hkp : ∀ (j : Nat) (x : Nat × va_E), (qw G sh M J)[j]? = some x → H1[x.1]? = H[x.1]? := fun j x hx => o1 x.1 (by rw [← hH]; exact (hR.2.1 j x hx).lt)
  have hS1 : va_S (qA G) s.heap H1 locs := ⟨Nat.le_trans hS.1 (by omega), fun x a1 a2 => (o1 x (by have := hS.1; omega)).trans (hS.2.1 x a1 a2), hS.2.2⟩
  have hP1 : va_P (gD G) vwCl (qw G (sh ++ [.inr (ci, List.replicate N none)]) M J) H1 := by
    rw [qw_push]
    refine (hR.2.1.kept hkp).app (fun j x hx => ?_)
    have hz1 : j < 1 := (List.getElem?_eq_some_iff.mp hx).1
    rw [show j = 0 by omega] at hx
    cases hx
    refine ⟨_, hcl, (u_born ty0 hc7 hin hKn hkC e1 hty).to (fun f hf => ?_)⟩
    show defaultValue (ty0 f) = (qfs G M J sh.length ci (List.replicate N none)).getD f .null
    rw [List.getD, qfs_get (by rw [hN]; exact hf)]
    show _ = qcv G _
    rw [hM, hJ, show (List.replicate N (none : Option Nat)).getD f none = none by simp [List.getD, List.getElem?_replicate, hf], qfa_nul, (hqt f hf).1]
    exact (hqt f hf).2
  have hk := k p e s m args below meth c H1 locs arr Z hc ⟨by rw [List.length_append]; have := hz.1; simp; omega, hz.2⟩ (hR.keep hS hS1 hz.2 (by simp; omega) hP1) hS1 hL hZ
  have hr : qcv G (.ref sh.length) = .ref (gb G + sh.length) := by show Value.ref (if sh.length < 4096 then gb G + sh.length else gs G) = _; rw [if_pos hl]
  rw [List.map_cons, hr] at hk
  exact hk
theorem q_newa_int {x : Int32} {N : Nat} {sh' : qSh} (hd : decode Y.2.1 pc = .ok (.newarray .int, 2)) (hx0 : ¬ x < 0) (hxN : x.toNatClampNeg = N) (hbig : N ≤ 100000)
    (hM : ∀ k, M sh.length k = 0) (hl : sh.length < 4096) (h1 : nc + 1 ≤ R.cells) (h2 : ns + N ≤ R.slots) {q : Nat} (hq : sh.length = q) (he : sh ++ [.inl (false, N)] = sh') (k : QW G R Y (nc + 1) (ns + N) (pc + 2) ls (.ref q :: st) sh' M J ρ) : QW G R Y nc ns pc ls (.int x :: st) sh M J ρ := by
  intro p e s m args below meth c H locs arr Z hc hz hR hS hL hZ
  subst he; subst hq
  intro T0 hT X
  have hH := q_size hT X hz hR hS
  have hc7 := hc.2.2.2.2.2.2.1
  refine (va_newaK (p := p) (l := gl G) (e := e) (R := R) (s := s) (m := m) (args := args) (below := below) (meth := meth) (c := c) (H := H) (locs := locs) (cells := nc) (slots := ns) (Q := Z) hc.1 hc.2.1 (atype := .int) (hc7 _ acl_int) rfl hd (rest := st.map (qcv G)) rfl hx0 hxN (by show N * 4 ≤ _; omega) h1 h2 hH (g := F0 m pc arr (.int x :: st.map (qcv G))) fun H1 cA e1 z1 o1 hAr hNm => ?_) T0 hT X
  have hcA : cA = gI G := Option.some.inj (hNm.symm.trans (hR.2.2.1.2 0 _ rfl).2)
  subst hcA
  have hkp : ∀ (j : Nat) (x : Nat × va_E), (qw G sh M J)[j]? = some x → H1[x.1]? = H[x.1]? := fun j x hx => o1 x.1 (by rw [← hH]; exact (hR.2.1 j x hx).lt)
  have hS1 : va_S (qA G) s.heap H1 locs := ⟨Nat.le_trans hS.1 (by omega), fun x a1 a2 => (o1 x (by have := hS.1; omega)).trans (hS.2.1 x a1 a2), hS.2.2⟩
  have hP1 : va_P (gD G) vwCl (qw G (sh ++ [.inl (false, N)]) M J) H1 := by
    rw [qw_push]
    refine (hR.2.1.kept hkp).app (fun j x hx => ?_)
    have hz1 : j < 1 := (List.getElem?_eq_some_iff.mp hx).1
    rw [show j = 0 by omega] at hx
    cases hx
    show H1[gb G + sh.length]? = some (vp_cell _ _)
    rw [e1]
    show _ = some (vp_cell (gI G) (N, .inl (M sh.length)))
    rw [vp_cell_i, show M sh.length = fun _ => (0 : Int32) from funext hM]
    rfl
  have hk := k p e s m args below meth c H1 locs arr Z hc ⟨by rw [List.length_append]; have := hz.1; simp; omega, hz.2⟩ (hR.keep hS hS1 hz.2 (by simp; omega) hP1) hS1 hL hZ
  have hr : qcv G (.ref sh.length) = .ref (gb G + sh.length) := by show Value.ref (if sh.length < 4096 then gb G + sh.length else gs G) = _; rw [if_pos hl]
  rw [List.map_cons, hr] at hk
  exact hk
theorem q_newa_boolean {x : Int32} {N : Nat} {sh' : qSh} (hd : decode Y.2.1 pc = .ok (.newarray .boolean, 2)) (hx0 : ¬ x < 0) (hxN : x.toNatClampNeg = N) (hbig : N ≤ 100000)
    (hM : ∀ k, M sh.length k = 0) (hl : sh.length < 4096) (h1 : nc + 1 ≤ R.cells) (h2 : ns + N ≤ R.slots) {q : Nat} (hq : sh.length = q) (he : sh ++ [.inl (true, N)] = sh') (k : QW G R Y (nc + 1) (ns + N) (pc + 2) ls (.ref q :: st) sh' M J ρ) : QW G R Y nc ns pc ls (.int x :: st) sh M J ρ := by
  intro p e s m args below meth c H locs arr Z hc hz hR hS hL hZ
  subst he; subst hq
  intro T0 hT X
  have hH := q_size hT X hz hR hS
  have hc7 := hc.2.2.2.2.2.2.1
  refine (va_newaK (p := p) (l := gl G) (e := e) (R := R) (s := s) (m := m) (args := args) (below := below) (meth := meth) (c := c) (H := H) (locs := locs) (cells := nc) (slots := ns) (Q := Z) hc.1 hc.2.1 (atype := .boolean) (hc7 _ acl_boolean) rfl hd (rest := st.map (qcv G)) rfl hx0 hxN (by show N * 1 ≤ _; omega) h1 h2 hH (g := F0 m pc arr (.int x :: st.map (qcv G))) fun H1 cA e1 z1 o1 hAr hNm => ?_) T0 hT X
  have hcA : cA = gZ G := Option.some.inj (hNm.symm.trans (hR.2.2.1.2 1 _ rfl).2)
  subst hcA
  have hkp : ∀ (j : Nat) (x : Nat × va_E), (qw G sh M J)[j]? = some x → H1[x.1]? = H[x.1]? := fun j x hx => o1 x.1 (by rw [← hH]; exact (hR.2.1 j x hx).lt)
  have hS1 : va_S (qA G) s.heap H1 locs := ⟨Nat.le_trans hS.1 (by omega), fun x a1 a2 => (o1 x (by have := hS.1; omega)).trans (hS.2.1 x a1 a2), hS.2.2⟩
  have hP1 : va_P (gD G) vwCl (qw G (sh ++ [.inl (true, N)]) M J) H1 := by
    rw [qw_push]
    refine (hR.2.1.kept hkp).app (fun j x hx => ?_)
    have hz1 : j < 1 := (List.getElem?_eq_some_iff.mp hx).1
    rw [show j = 0 by omega] at hx
    cases hx
    show H1[gb G + sh.length]? = some (vp_cell _ _)
    rw [e1]
    show _ = some (vp_cell (gZ G) (N, .inl (M sh.length)))
    rw [vp_cell_i, show M sh.length = fun _ => (0 : Int32) from funext hM]
    rfl
  have hk := k p e s m args below meth c H1 locs arr Z hc ⟨by rw [List.length_append]; have := hz.1; simp; omega, hz.2⟩ (hR.keep hS hS1 hz.2 (by simp; omega) hP1) hS1 hL hZ
  have hr : qcv G (.ref sh.length) = .ref (gb G + sh.length) := by show Value.ref (if sh.length < 4096 then gb G + sh.length else gs G) = _; rw [if_pos hl]
  rw [List.map_cons, hr] at hk
  exact hk
end QM
