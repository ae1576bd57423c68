theorem IT_mx (p : Nat → Bool) (v : Nat → Nat) : ∀ (m i a : Nat), IT (fun c a => if p c then max a (v c) else a) m i a = max a (mxf v ((List.range' i m).filter p))
  | 0, i, a => by rw [IT_zero, List.range'_zero, List.filter_nil, mxf]; omega
  | m + 1, i, a => by
    rw [IT_succ, IT_mx p v m (i + 1), List.range'_succ, List.filter_cons]
    cases hp : p i with
    | true => rw [if_pos rfl, if_pos rfl, mxf]; omega
    | false => rw [if_neg (by decide), if_neg (by decide)]
theorem ms_comm (M : qM) {a b : Nat} (h : a ≠ b) (f g : Nat → Int32) : ms (ms M a f) b g = ms (ms M b g) a f := by
  funext q
  by_cases h1 : q = b
  · subst h1; rw [ms_q, ms_ne _ _ (fun e => h e.symm), ms_q]
  · rw [ms_ne _ _ h1]
    by_cases h2 : q = a
    · subst h2; rw [ms_q, ms_q]
    · rw [ms_ne _ _ h2, ms_ne _ _ h2, ms_ne _ _ h1]
def kI : Option Nat → Int32
  | none => -1
  | some k => nI k
theorem kS_ok {M : qM} {F : Nat → Int32} {f : Nat → Nat} {m : Nat} {x1 : Int32} (hm : m ≤ 6) (hF : ∀ i, i < m → F i = nI (f i) ∧ f i < 100) : ∀ (i n : Nat), i < m → i < n → f_X12_nextOrder_L4 x1 (ms M 37 F) n (nI i - nI 1) = some (kI (kS f i))
  | i, 0, _, hn => by omega
  | 0, n + 1, hi, hn => by
    rw [f_X12_nextOrder_L4, show nI 0 - nI 1 = (-1 : Int32) by decide, if_pos (by decide)]; rfl
  | i + 1, n + 1, hi, hn => by
    obtain ⟨e1, b1⟩ := hF i (by omega)
    obtain ⟨e2, b2⟩ := hF (i + 1) (by omega)
    rw [f_X12_nextOrder_L4, nI_dn i (by omega), if_neg (nI_pos (by omega)), nI_add, qrd_nI (by omega) (by decide), Option.bind_some, qrd_nI (by omega) (by decide), Option.bind_some, ms_q, e1, e2, kS]
    by_cases h : f i ≤ f (i + 1)
    · rw [if_pos (nI_le h (by omega)), if_pos h]; rfl
    · rw [if_neg (nI_ge (by omega) (by omega)), if_neg h, nI_dm i (by omega)]
      exact kS_ok hm hF i n (by omega) (by omega)
theorem jS_ok {M : qM} {F : Nat → Int32} {f : Nat → Nat} {m x : Nat} {x1 : Int32} (hm : m ≤ 6) (hF : ∀ i, i < m → F i = nI (f i) ∧ f i < 100) (hx : x < m) : ∀ (j n : Nat), x ≤ j → j < m → j < n → f_X12_nextOrder_L41 x1 (nI x) (ms M 37 F) n (nI j) = some (nI (jS f x j)) ∧ x ≤ jS f x j ∧ jS f x j ≤ j
  | j, 0, _, _, hn => by omega
  | 0, n + 1, hj, hjm, hn => by
    have e : x = 0 := by omega
    subst e
    refine ⟨?_, Nat.le_refl _, Nat.le_refl _⟩
    rw [f_X12_nextOrder_L41, qrd_nI (by omega) (by decide), Option.bind_some, Option.bind_some, if_pos (by rw [fa_le]; omega)]; rfl
  | j + 1, n + 1, hj, hjm, hn => by
    obtain ⟨e1, b1⟩ := hF x hx
    obtain ⟨e2, b2⟩ := hF (j + 1) hjm
    rw [f_X12_nextOrder_L41, qrd_nI (by omega) (by decide), Option.bind_some, qrd_nI (by omega) (by decide), Option.bind_some, ms_q, e1, e2, jS]
    by_cases h : f x ≤ f (j + 1)
    · rw [if_pos (nI_le h (by omega)), if_pos h]; exact ⟨rfl, hj, Nat.le_refl _⟩
    · rw [if_neg (nI_ge (by omega) (by omega)), if_neg h, nI_dm _ (by omega), nI_dn j (by omega)]
      have hxj : x ≠ j + 1 := fun e => h (by rw [e]; omega)
      obtain ⟨h1, h2, h3⟩ := jS_ok (x1 := x1) (M := M) hm hF hx j n (by omega) (by omega) (by omega)
      exact ⟨h1, h2, by omega⟩
theorem sw_ok {F : Nat → Int32} {f : Nat → Nat} {m x y : Nat} (hF : ∀ i, i < m → F i = nI (f i) ∧ f i < 100) (hx : x < m) (hy : y < m) : ∀ i, i < m → upd (upd F x (F y)) y (F x) i = nI (sw f x y i) ∧ sw f x y i < 100 := by
  intro i hi
  unfold sw
  by_cases h1 : i = y
  · subst h1; rw [pk_us, if_pos rfl]; exact hF x hx
  · rw [pk_un h1, if_neg h1]
    by_cases h2 : i = x
    · subst h2; rw [pk_us, if_pos rfl]; exact hF y hy
    · rw [pk_un h2, if_neg h2]; exact hF i hi
theorem rv_ok {m : Nat} (hm : m ≤ 6) : ∀ (k n x y : Nat) (F : Nat → Int32) (f : Nat → Nat), y < m → x ≤ m → y ≤ x + k → k < n → (∀ i, i < m → F i = nI (f i) ∧ f i < 100) → ∃ F' a b, (∀ M, f_X12_nextOrder_L100 n (nI x) (nI y) (ms M 37 F) = some (a, b, ms M 37 F')) ∧ ∀ i, i < m → F' i = nI (rvS k f x y i) ∧ rvS k f x y i < 100
  | k, 0, x, y, F, f, hy, hx, hk, hn, hF => by omega
  | 0, n + 1, x, y, F, f, hy, hx, hk, hn, hF => by
    refine ⟨F, nI x, nI y, fun M => ?_, hF⟩
    rw [f_X12_nextOrder_L100, if_pos (nI_le (by omega) (by omega))]
  | k + 1, n + 1, x, y, F, f, hy, hx, hk, hn, hF => by
    unfold rvS
    by_cases h : y ≤ x
    · rw [if_pos h]
      refine ⟨F, nI x, nI y, fun M => ?_, hF⟩
      rw [f_X12_nextOrder_L100, if_pos (nI_le (by omega) (by omega))]
    · rw [if_neg h]
      obtain ⟨F', a, b, h1, h2⟩ := rv_ok hm k n (x + 1) (y - 1) (upd (upd F x (F y)) y (F x)) (sw f x y) (by omega) (by omega) (by omega) (by omega) (sw_ok hF (by omega) hy)
      refine ⟨F', a, b, fun M => ?_, h2⟩
      rw [f_X12_nextOrder_L100, if_neg (nI_ge (by omega) (by omega)), qrd_nI (by omega) (by decide), Option.bind_some, qrd_nI (by omega) (by decide), Option.bind_some, qwr_nI (by omega) (by decide), Option.bind_some, qwr_nI (by omega) (by decide), Option.bind_some, ms_q, ms_qu, ms_qu, nI_add, nI_dm y (by omega), pk_sub (by omega)]
      exact h1 M
theorem getD_map {m i : Nat} (f : Nat → Nat) (h : i < m) : ((List.range' 0 m).map f).getD i 0 = f i := by
  rw [List.getD_eq_getElem?_getD, List.getElem?_map, List.getElem?_range' h]
  simp
theorem next_ok {l : List Nat} {F : Nat → Int32} (hm : l.length ≤ 6) (hF : ∀ i, i < l.length → F i = nI (l.getD i 0) ∧ l.getD i 0 < 100) : (nxL l = none → ∀ M, f_X12_nextOrder (nI l.length) (ms M 37 F) = some (false, ms M 37 F)) ∧ (∀ l', nxL l = some l' → ∃ F', (∀ M, f_X12_nextOrder (nI l.length) (ms M 37 F) = some (true, ms M 37 F')) ∧ ∀ i, i < l.length → F' i = nI (l'.getD i 0)) := by
  by_cases h0 : l.length = 0
  · have e : nxL l = none := by unfold nxL; rw [h0]; rfl
    rw [e]
    refine ⟨fun _ M => ?_, fun l' h => by cases h⟩
    unfold f_X12_nextOrder
    rw [h0, qF_val, f_X12_nextOrder_L4, if_pos (by decide), Option.bind_some, if_neg (by decide)]
  · have e2 : ∀ m, m ≤ 6 → 0 < m → nI m - nI 2 = nI (m - 1) - nI 1 := by decide +kernel
    have hk := fun M => kS_ok (M := M) (x1 := nI l.length) hm hF (l.length - 1) qF (by omega) (by rw [qF_val]; omega)
    unfold f_X12_nextOrder nxL
    rw [e2 _ hm (by omega)]
    simp only [hk, Option.bind_some]
    cases hkS : kS (fun i => l.getD i 0) (l.length - 1) with
    | none =>
      refine ⟨fun _ M => ?_, fun l' h => by cases h⟩
      rw [if_neg (show ¬ 0 ≤ kI none by decide)]
    | some k =>
      refine ⟨fun h => (by cases h), fun l' h => ?_⟩
      have hl' := Option.some.inj h
      have hkm : ∀ i, kS (fun i => l.getD i 0) i = some k → k < i := by
        intro i
        induction i with
        | zero => intro h; cases h
        | succ i ih =>
          intro h
          unfold kS at h
          split at h
          · have := Option.some.inj h; omega
          · have := ih h; omega
      have hk2 := hkm _ hkS
      have hj := fun M => jS_ok (M := M) (x1 := nI l.length) hm hF (show k < l.length by omega) (l.length - 1) qF (by omega) (by omega) (by rw [qF_val]; omega)
      obtain ⟨-, j1, j2⟩ := hj (fun _ _ => 0)
      generalize hje : jS (fun i => l.getD i 0) k (l.length - 1) = j at hj j1 j2 hl'
      obtain ⟨F', a, b, r1, r2⟩ := rv_ok hm 6 qF (k + 1) (l.length - 1) _ _ (by omega) (by omega) (by omega) (by rw [qF_val]; omega) (sw_ok hF (show k < l.length by omega) (show j < l.length by omega))
      refine ⟨F', fun M => ?_, fun i hi => ?_⟩
      · rw [show kI (some k) = nI k from rfl, if_pos (by rw [fa_le, nI_toInt (by omega)]; show (0 : Int) ≤ (k : Int); omega), pk_sub (by omega), (hj M).1, Option.bind_some, qrd_nI (by omega) (by decide), Option.bind_some, qrd_nI (by omega) (by decide), Option.bind_some, qwr_nI (by omega) (by decide), Option.bind_some, qwr_nI (by omega) (by decide), Option.bind_some, ms_q, ms_qu, ms_qu, nI_add, r1 M, Option.bind_some]
      · rw [← hl', getD_map _ hi]
        exact (r2 i hi).1
