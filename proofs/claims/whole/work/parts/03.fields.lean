theorem mm_min : Cond.code Lib.Math.min.name Lib.Math.min.code 2 (some .int) ∈ qT := qin 468 (by decide +kernel) rfl
theorem mm_max : Cond.code Lib.Math.max.name Lib.Math.max.code 2 (some .int) ∈ qT := qin 476 (by decide +kernel) rfl
theorem ms_min : Cond.static Lib.Math.min.name ∈ qT := qin 467 (by decide +kernel) rfl
theorem ms_max : Cond.static Lib.Math.max.name ∈ qT := qin 475 (by decide +kernel) rfl
theorem mi_ini : Cond.initialized "java/lang/Math" ∈ qT := ini_J9
theorem sy_ini : Cond.initialized "java/lang/System" ∈ qT := ini_J10
def qmin (x y : Int32) : Int32 := if y < x then y else x
def qmax (x y : Int32) : Int32 := if x < y then y else x
def qb (b : Bool) : Int32 := if b then 1 else 0
theorem qRl.low {G : qG} {sh : qSh} {M : qM} {J : qJ} {s : State} {H : Heap} {locs : List Loc} (h : qRl G sh M J s H) (hb : gb G ≤ s.heap.size) (hS : va_S (qA G) s.heap H locs) : gb G + sh.length ≤ H.size := by
  by_cases h0 : sh.length = 0
  · have := hS.1
    omega
  · have hl : sh.length - 1 < sh.length := by omega
    have hg : sh[sh.length - 1]? = some sh[sh.length - 1] := List.getElem?_eq_getElem hl
    have := (h.2.1 _ _ (qw_get hg)).lt
    rw [qce_1] at this
    omega
section QCALLS
variable {G : qG} {R : Room} {Y : qY} {nc ns pc : Nat} {ls ls' : List (Option Value)} {st : List Value} {sh : qSh} {M : qM} {J : qJ} {ρ : qR}
theorem q_min {i : Nat} {x y : Int32} (hd : decode Y.2.1 pc = .ok (.invokestatic i, 3)) (hlk : Cond.methodLink Y.1.cls i Lib.Math.min.name ∈ qT) (h1 : 1 ≤ R.frames) (h2 : (st.map fun v => v.category).sum + 13 ≤ R.locals) (h3 : nc ≤ R.cells) (h4 : ns ≤ R.slots) (k : QW G R Y nc ns (pc + 3) ls (.int (qmin x y) :: st) sh M J ρ) : QW G R Y nc ns pc ls (.int y :: .int x :: st) sh M J ρ := by
  intro p e s m args below meth c H locs arr Z hc hz hR hS hL hZ
  have hcat : ((st.map (qcv G)).map fun v => v.category).sum = (st.map fun v => v.category).sum := by rw [List.map_map]; exact congrArg List.sum (List.map_congr_left fun v _ => qcv_cat G v)
  exact va_mmin hc.1 hc.2.1 (hc.2.2.1.trans hL.1.symm) hc.2.2.2.2.2.1 (hc.2.2.2.2.2.2.1 _ hlk) (hc.2.2.2.2.2.2.1 _ ms_min) (hc.2.2.2.2.2.2.1 _ mi_ini) (hc.2.2.2.2.2.2.1 _ mm_min) h1 (by rw [hcat]; exact h2) h3 h4 hd (k p e s m args below meth c H locs arr Z hc hz hR hS hL hZ)
theorem q_max {i : Nat} {x y : Int32} (hd : decode Y.2.1 pc = .ok (.invokestatic i, 3)) (hlk : Cond.methodLink Y.1.cls i Lib.Math.max.name ∈ qT) (h1 : 1 ≤ R.frames) (h2 : (st.map fun v => v.category).sum + 13 ≤ R.locals) (h3 : nc ≤ R.cells) (h4 : ns ≤ R.slots) (k : QW G R Y nc ns (pc + 3) ls (.int (qmax x y) :: st) sh M J ρ) : QW G R Y nc ns pc ls (.int y :: .int x :: st) sh M J ρ := by
  intro p e s m args below meth c H locs arr Z hc hz hR hS hL hZ
  have hcat : ((st.map (qcv G)).map fun v => v.category).sum = (st.map fun v => v.category).sum := by rw [List.map_map]; exact congrArg List.sum (List.map_congr_left fun v _ => qcv_cat G v)
  exact va_mmax hc.1 hc.2.1 (hc.2.2.1.trans hL.1.symm) hc.2.2.2.2.2.1 (hc.2.2.2.2.2.2.1 _ hlk) (hc.2.2.2.2.2.2.1 _ ms_max) (hc.2.2.2.2.2.2.1 _ mi_ini) (hc.2.2.2.2.2.2.1 _ mm_max) h1 (by rw [hcat]; exact h2) h3 h4 hd (k p e s m args below meth c H locs arr Z hc hz hR hS hL hZ)
theorem q_objInit {i q : Nat} (hd : decode Y.2.1 pc = .ok (.invokespecial i, 3)) (hlk : Cond.methodLink Y.1.cls i Lib.objectInit ∈ qT) (h1 : 1 ≤ R.frames) (h2 : (st.map fun v => v.category).sum + 12 ≤ R.locals) (k : QW G R Y nc ns (pc + 3) ls st sh M J ρ) : QW G R Y nc ns pc ls (.ref q :: st) sh M J ρ := by
  intro p e s m args below meth c H locs arr Z hc hz hR hS hL hZ
  have hcat : ((st.map (qcv G)).map fun v => v.category).sum = (st.map fun v => v.category).sum := by rw [List.map_map]; exact congrArg List.sum (List.map_congr_left fun v _ => qcv_cat G v)
  exact W.objInit hc.1 hc.2.1 hc.2.2.2.2.2.1 (hc.2.2.2.2.2.2.1 _ hlk) (hc.2.2.2.2.2.2.1 _ obj_inst) (hc.2.2.2.2.2.2.1 _ obj_code) rfl (hL.1.trans hc.2.2.1.symm) (a := if q < 4096 then gb G + q else gs G) (rest := st.map (qcv G)) rfl hd h1 (by show 2 * 0 + _ + 12 ≤ _; rw [hcat]; omega) (k p e s m args below meth c H locs arr Z hc hz hR hS hL hZ)
theorem q_copy {i q0 q1 n0 n1 : Nat} {sp dp n : Int32} {M' : qM} (hd : decode Y.2.1 pc = .ok (.invokestatic i, 3)) (hlk : Cond.methodLink Y.1.cls i arraycopyName ∈ qT) (h0 : sh[q0]? = some (.inl (false, n0))) (h1 : sh[q1]? = some (.inl (false, n1))) (hv : qco M q0 q1 n0 n1 sp dp n = some M') (hf : 1 ≤ R.frames) (hl : (st.map fun v => v.category).sum + 18 ≤ R.locals) (k : QW G R Y nc ns (pc + 3) ls st sh M' J ρ) : QW G R Y nc ns pc ls (.int n :: .int dp :: .ref q1 :: .int sp :: .ref q0 :: st) sh M J ρ := by
  intro p e s m args below meth c H locs arr Z hc hz hR hS hL hZ
  obtain ⟨hn, rfl⟩ := qif hv
  have hcat : ((st.map (qcv G)).map fun v => v.category).sum = (st.map fun v => v.category).sum := by rw [List.map_map]; exact congrArg List.sum (List.map_congr_left fun v _ => qcv_cat G v)
  show W p (gl G) e R s m args below meth c H locs nc ns Z (F0 m pc arr (.int n :: .int dp :: qcv G (.ref q1) :: .int sp :: qcv G (.ref q0) :: st.map (qcv G)))
  rw [hR.kn h0, hR.kn h1]
  refine va_copyi hc.1 hc.2.1 (hc.2.2.1.trans hL.1.symm) hc.2.2.2.2.2.1 (hc.2.2.2.2.2.2.1 _ hlk) (hc.2.2.2.2.2.2.1 _ nat_copy) (hc.2.2.2.2.2.2.1 _ sta_copy) (hc.2.2.2.2.2.2.1 _ sy_ini) hR.2.2.1 hR.2.1 qw_D hS q0 q1 0 0 (qw_get h0) (qw_get h1) rfl rfl rfl (fun h => hn (Or.inl h)) (fun h => hn (Or.inr (Or.inl h))) (fun h => hn (Or.inr (Or.inr (Or.inl h)))) (Nat.not_lt.mp fun h => hn (Or.inr (Or.inr (Or.inr (Or.inl h))))) (Nat.not_lt.mp fun h => hn (Or.inr (Or.inr (Or.inr (Or.inr h))))) (fun _ _ => rfl) hf (by rw [hcat]; show _ + (7 + 11) ≤ _; omega) hd (fun H1 locs1 hP hD hS1 => ?_)
  rw [qw_arr h1 _ (qcp M q0 q1 sp.toNatClampNeg dp.toNatClampNeg n.toNatClampNeg) (by simp [qcp]) (fun b h => by simp [qcp, h])] at hP
  exact k p e s m args below meth c H1 locs1 arr Z hc hz (hR.keep hS hS1 hz.2 hR.1.1 hP) hS1 hL hZ
-- fields
theorem q_getf {i q ci f N : Nat} {C : String} {T : u_T} {rs : List (Option Nat)} {v : Value} (hd : decode Y.2.1 pc = .ok (.getfield i, 3)) (hq : sh[q]? = some (.inr (ci, rs))) (hcl : vwCl[ci]? = some (C, T, N)) (hin : ∀ w ∈ u_ws C T N, w ∈ qT) (hN : qN ci = N) (hf : f < N) (hlk : Cond.fieldLink Y.1.cls i (T f).1 (T f).2.1 (T f).2.2.1 ∈ qT) (hv : qfa (qty ci f) (rs.getD f none) (M q f) (J q f) = v) (k : QW G R Y nc ns (pc + 3) ls (v :: st) sh M J ρ) : QW G R Y nc ns pc ls (.ref q :: st) sh M J ρ := by
  intro p e s m args below meth c H locs arr Z hc hz hR hS hL hZ
  subst hv
  show W p (gl G) e R s m args below meth c H locs nc ns Z (F0 m pc arr (qcv G (.ref q) :: st.map (qcv G)))
  rw [hR.kn hq]
  exact va_get (ref := (T f).1) hc.1 hc.2.1 hc.2.2.2.2.2.2.1 hin hc.2.2.2.2.2.1 hR.2.2.1 hR.2.1 q (qw_get hq) hcl f hf (hc.2.2.2.2.2.2.1 _ hlk) (fun _ h => h) (qfs_get (by rw [hN]; exact hf)) hd (k p e s m args below meth c H locs arr Z hc hz hR hS hL hZ)
theorem q_puti {i q ci f N : Nat} {C : String} {T : u_T} {rs : List (Option Nat)} {x : Int32} (ty0 : Nat → FieldType) (hd : decode Y.2.1 pc = .ok (.putfield i, 3)) (hq : sh[q]? = some (.inr (ci, rs))) (hcl : vwCl[ci]? = some (C, T, N)) (hin : ∀ w ∈ u_ws C T N, w ∈ qT) (hty : ∀ k, k < N → parseFieldDescriptor (T k).2.2.1 = some (ty0 k)) (hnm : ∀ a, a < N → ∀ b, b < N → a ≠ b → (T a).2.1 ≠ (T b).2.1) (hN : qN ci = N) (hf : f < N) (hlk : Cond.fieldLink Y.1.cls i (T f).1 (T f).2.1 (T f).2.2.1 ∈ qT) (hfin : (T f).2.2.2 = false) (ht : ty0 f = .int) (hqt : qty ci f = .int) (k : QW G R Y nc ns (pc + 3) ls st sh (qu M q f x) J ρ) : QW G R Y nc ns pc ls (.int x :: .ref q :: st) sh M J ρ := by
  intro p e s m args below meth c H locs arr Z hc hz hR hS hL hZ
  show W p (gl G) e R s m args below meth c H locs nc ns Z (F0 m pc arr (.int x :: qcv G (.ref q) :: st.map (qcv G)))
  rw [hR.kn hq]
  refine va_put (ref := (T f).1) (ty := .int) hc.1 hc.2.1 hc.2.2.2.2.2.2.1 hin ty0 hty hnm hc.2.2.2.2.2.1 hR.2.2.1 hR.2.1 qw_D hS q (qw_get hq) hcl f hf (hc.2.2.2.2.2.2.1 _ hlk) (fun _ h => h) hfin (by rw [hty f hf, ht]) rfl rfl (by simp [qfs, hN, hf]) hd (fun H1 locs1 hP hD hS1 => ?_)
  rw [qw_fld (sh' := sh) (M' := qu M q f x) (J' := J) (rs' := rs) hq hq (fun _ _ => rfl) (by rw [hN]; exact hf) (.int x) (by rw [hqt, qu_row]; simp [qfa, qcv, upd]) (fun j hj => ⟨rfl, by rw [qu_row]; simp [upd, hj], rfl⟩) (fun b hb => ⟨qu_ne _ _ _ _ hb, rfl⟩)] at hP
  exact k p e s m args below meth c H1 locs1 arr Z hc hz (hR.keep hS hS1 hz.2 hR.1.1 hP) hS1 hL hZ
theorem q_putl {i q ci f N : Nat} {C : String} {T : u_T} {rs : List (Option Nat)} {x : Int64} (ty0 : Nat → FieldType) (hd : decode Y.2.1 pc = .ok (.putfield i, 3)) (hq : sh[q]? = some (.inr (ci, rs))) (hcl : vwCl[ci]? = some (C, T, N)) (hin : ∀ w ∈ u_ws C T N, w ∈ qT) (hty : ∀ k, k < N → parseFieldDescriptor (T k).2.2.1 = some (ty0 k)) (hnm : ∀ a, a < N → ∀ b, b < N → a ≠ b → (T a).2.1 ≠ (T b).2.1) (hN : qN ci = N) (hf : f < N) (hlk : Cond.fieldLink Y.1.cls i (T f).1 (T f).2.1 (T f).2.2.1 ∈ qT) (hfin : (T f).2.2.2 = false) (ht : ty0 f = .long) (hqt : qty ci f = .long) (k : QW G R Y nc ns (pc + 3) ls st sh M (qv J q f x) ρ) : QW G R Y nc ns pc ls (.long x :: .ref q :: st) sh M J ρ := by
  intro p e s m args below meth c H locs arr Z hc hz hR hS hL hZ
  show W p (gl G) e R s m args below meth c H locs nc ns Z (F0 m pc arr (.long x :: qcv G (.ref q) :: st.map (qcv G)))
  rw [hR.kn hq]
  refine va_put (ref := (T f).1) (ty := .long) hc.1 hc.2.1 hc.2.2.2.2.2.2.1 hin ty0 hty hnm hc.2.2.2.2.2.1 hR.2.2.1 hR.2.1 qw_D hS q (qw_get hq) hcl f hf (hc.2.2.2.2.2.2.1 _ hlk) (fun _ h => h) hfin (by rw [hty f hf, ht]) rfl rfl (by simp [qfs, hN, hf]) hd (fun H1 locs1 hP hD hS1 => ?_)
  rw [qw_fld (sh' := sh) (M' := M) (J' := qv J q f x) (rs' := rs) hq hq (fun _ _ => rfl) (by rw [hN]; exact hf) (.long x) (by rw [hqt]; simp [qfa, qcv, qv]) (fun j hj => ⟨rfl, rfl, by simp [qv, hj]⟩) (fun b hb => ⟨rfl, qv_ne _ _ _ _ hb⟩)] at hP
  exact k p e s m args below meth c H1 locs1 arr Z hc hz (hR.keep hS hS1 hz.2 hR.1.1 hP) hS1 hL hZ
theorem q_putr {i q ci f N r : Nat} {C : String} {T : u_T} {rs : List (Option Nat)} {sh' : qSh} (ty0 : Nat → FieldType) (hd : decode Y.2.1 pc = .ok (.putfield i, 3)) (hq : sh[q]? = some (.inr (ci, rs))) (hcl : vwCl[ci]? = some (C, T, N)) (hin : ∀ w ∈ u_ws C T N, w ∈ qT) (hty : ∀ k, k < N → parseFieldDescriptor (T k).2.2.1 = some (ty0 k)) (hnm : ∀ a, a < N → ∀ b, b < N → a ≠ b → (T a).2.1 ≠ (T b).2.1) (hN : qN ci = N) (hf : f < N) (hlk : Cond.fieldLink Y.1.cls i (T f).1 (T f).2.1 (T f).2.2.1 ∈ qT) (hfin : (T f).2.2.2 = true) (hini : Y.1.name = "<init>") (hdc : (T f).1 = Y.1.cls)
    (hna : ∀ b, narrow (ty0 f) (.ref b) = .ref b) (hft : ∀ b, fits (ty0 f) (.ref b) = true) (hqt : ∀ b i j, qfa (qty ci f) (some b) i j = .ref b) (hrl : f < rs.length) (he : sh.set q (.inr (ci, rs.set f (some r))) = sh') (k : QW G R Y nc ns (pc + 3) ls st sh' M J ρ) : QW G R Y nc ns pc ls (.ref r :: .ref q :: st) sh M J ρ := by
  intro p e s m args below meth c H locs arr Z hc hz hR hS hL hZ
  subst he
  show W p (gl G) e R s m args below meth c H locs nc ns Z (F0 m pc arr (qcv G (.ref r) :: qcv G (.ref q) :: st.map (qcv G)))
  rw [hR.kn hq]
  refine va_putF (ref := (T f).1) (ty := ty0 f) hc.1 hc.2.1 hc.2.2.2.2.2.2.1 hin ty0 hty hnm hc.2.2.2.2.2.1 hR.2.2.1 hR.2.1 qw_D hS q (qw_get hq) hcl f hf (hc.2.2.2.2.2.2.1 _ hlk) (fun _ h => h) hfin (hc.2.2.2.2.2.2.2 hini) hdc (hty f hf) (hna _) (hft _) (by simp [qfs, hN, hf]) hd (fun H1 locs1 hP hD hS1 => ?_)
  have hlt := qsh_lt hq
  rw [qw_fld (sh' := sh.set q (.inr (ci, rs.set f (some r)))) (M' := M) (J' := J) (rs' := rs.set f (some r)) hq (List.getElem?_set_self hlt) (fun b hb => List.getElem?_set_ne (Ne.symm hb)) (by rw [hN]; exact hf) (qcv G (.ref r)) (by rw [show (rs.set f (some r)).getD f none = some r by simp [List.getD, hrl], hqt]) (fun j hj => ⟨by simp [List.getD, List.getElem?_set_ne (Ne.symm hj)], rfl, rfl⟩) (fun b hb => ⟨rfl, rfl⟩)] at hP
  exact k p e s m args below meth c H1 locs1 arr Z hc ⟨by rw [List.length_set]; exact hz.1, hz.2⟩ (hR.keep hS hS1 hz.2 (by rw [List.length_set]; exact hR.1.1) hP) hS1 hL hZ
end QCALLS
