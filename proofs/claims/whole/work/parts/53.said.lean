theorem a0 (x : Int32) : x + nI 0 = x := by
  show x + 0 = x
  simp
def FitF (t : Nat → Int32) (x : Int32) : Nat → Nat → Bool
  | 0, _ => true
  | m + 1, j => decide (Sv (t (3 * j)) (t (3 * j + 1)) x = t (3 * j + 2)) && FitF t x m (j + 1)
theorem fits_loop {M : qM} {n : Nat} (hn : n ≤ 6) (e : M 20 0 = nI n) (x : Int32) : ∀ (m j f : Nat), j + m = n → m < f → f_X9_fits_L2 x M f (nI (3 * j)) = some (if FitF (M 21) x m j then .inr (nI (3 * n)) else .inl false)
  | m, j, 0, hj, hf => by omega
  | 0, j, f + 1, hj, hf => by
    rw [f_X9_fits_L2, e, pk_mul, if_pos (nI_le (by omega) (by omega))]
    rw [show j = n by omega]; rfl
  | m + 1, j, f + 1, hj, hf => by
    rw [f_X9_fits_L2, e, pk_mul, if_neg (nI_ge (by omega) (by omega)), nI_add, nI_add, nI_add, qrd_nI (by omega) (by decide), qrd_nI (by omega) (by decide), qrd_nI (by omega) (by decide)]
    simp only [Option.bind_some, strengthBy_eq]
    rw [FitF]
    by_cases h : Sv (M 21 (3 * j)) (M 21 (3 * j + 1)) x = M 21 (3 * j + 2)
    · rw [if_pos h, show 3 * j + 3 = 3 * (j + 1) by omega, fits_loop hn e x m (j + 1) f (by omega) (by omega)]
      simp [h]
    · rw [if_neg h]; simp [h]
theorem isSo_f {M : qM} {n : Nat} (hn : n ≤ 6) (e : M 25 13 = nI n) (x : Int32) : ∀ (m j f : Nat), j + m = n → m < f → f_X12_isSo_L4 x M f false (nI (3 * j)) = some (false, nI (3 * n))
  | m, j, 0, hj, hf => by omega
  | 0, j, f + 1, hj, hf => by
    rw [f_X12_isSo_L4, e, pk_mul, if_pos (nI_le (by omega) (by omega))]
    rw [show j = n by omega]
  | m + 1, j, f + 1, hj, hf => by
    rw [f_X12_isSo_L4, e, pk_mul, if_neg (nI_ge (by omega) (by omega)), nI_add, nI_add, nI_add]
    simp only [Bool.false_eq_true, if_false]
    rw [show 3 * j + 3 = 3 * (j + 1) by omega, isSo_f hn e x m (j + 1) f (by omega) (by omega)]
theorem isSo_loop {M : qM} {t : Nat → Int32} {n : Nat} (hn : n ≤ 6) (e : M 25 13 = nI n) (ht : ∀ k, k < 3 * n → t k = M 34 k) (x : Int32) : ∀ (m j f : Nat), j + m = n → m < f → f_X12_isSo_L4 x M f true (nI (3 * j)) = some (FitF t x m j, nI (3 * n))
  | m, j, 0, hj, hf => by omega
  | 0, j, f + 1, hj, hf => by
    rw [f_X12_isSo_L4, e, pk_mul, if_pos (nI_le (by omega) (by omega))]
    rw [show j = n by omega]; rfl
  | m + 1, j, f + 1, hj, hf => by
    rw [f_X12_isSo_L4, e, pk_mul, if_neg (nI_ge (by omega) (by omega)), nI_add, nI_add, nI_add, qrd_nI (by omega) (by decide), qrd_nI (by omega) (by decide), qrd_nI (by omega) (by decide), ← ht _ (by omega), ← ht _ (by omega), ← ht _ (by omega)]
    simp only [Option.bind_some, strengthByM_eq, if_true]
    rw [FitF]
    by_cases h : Sv (t (3 * j)) (t (3 * j + 1)) x = t (3 * j + 2)
    · rw [if_pos h, show 3 * j + 3 = 3 * (j + 1) by omega, isSo_loop hn e ht x m (j + 1) f (by omega) (by omega)]
      simp [h]
    · rw [if_neg h, show 3 * j + 3 = 3 * (j + 1) by omega, isSo_f hn e x m (j + 1) f (by omega) (by omega)]
      simp [h]
/-- what is said, both sides -/
def Said (M : qM) (p : Nat → Bool) : Prop := (∀ w, f_X9_fits (nI w) M = some (p w)) ∧ (∀ w, f_X12_isSo (nI w) M = some (p w))
theorem said_of {M : qM} (h : SY (M 20 0) (M 25 13) (M 21) (M 34)) : ∃ p, Said M p := by
  obtain ⟨n, hn, e1, e2, ht⟩ := h
  refine ⟨fun w => FitF (M 21) (nI w) n 0, fun w => ?_, fun w => ?_⟩
  · unfold f_X9_fits
    rw [show nI 0 = nI (3 * 0) from rfl, fits_loop hn e1 (nI w) n 0 qF (by omega) (by rw [qF_val]; omega)]
    simp only [Option.bind_some]
    cases FitF (M 21) (nI w) n 0 <;> rfl
  · unfold f_X12_isSo
    rw [show nI 0 = nI (3 * 0) from rfl, isSo_loop hn e2 ht (nI w) n 0 qF (by omega) (by rw [qF_val]; omega)]
    rfl
theorem IT_snoc {α : Type} (s : Nat → α → α) : ∀ (m i : Nat) (a : α), IT s (m + 1) i a = s (i + m) (IT s m i a)
  | 0, i, a => rfl
  | m + 1, i, a => by
    show IT s (m + 1) (i + 1) (s i a) = _
    rw [IT_snoc s m (i + 1) (s i a), show i + 1 + m = i + (m + 1) by omega]
    rfl
def lI (b : Nat) : Int32 := if b = 21 then -1 else nI b
theorem lI_lt {b : Nat} (h : b < 21) : lI b = nI b := if_neg (by omega)
def fsN (p : Nat → Bool) : Nat → Nat → Nat
  | 0, _ => 21
  | m + 1, i => if p i then i else fsN p m (i + 1)
def gsN (p : Nat → Bool) : Nat → Nat
  | 0 => 21
  | i + 1 => if p i then i else gsN p i
def ctS (p : Nat → Bool) (w c : Nat) : Nat := if p w then c + 1 else c
theorem many_eq {M : qM} {p : Nat → Bool} (h : Said M p) : f_X9_howManyFit M = some (nI (IT (ctS p) 21 0 0)) := by
  unfold f_X9_howManyFit
  have key := (up1 (F := fun n (a : Nat) i => f_X9_howManyFit_L4 M n (nI a) i) (N := 21) (step := ctS p) (fin := fun a => (nI a, nI 21)) (fun _ _ => True) (fun n a _ => ?_) (fun n i a hi _ => ⟨?_, trivial⟩) 21 0 qF 0 (by omega) (by rw [qF_val]; omega) trivial).1
  · rw [key]; rfl
  · show f_X9_howManyFit_L4 _ _ _ _ = _
    rw [f_X9_howManyFit_L4, if_pos (nI_lt (by omega) (by omega))]
  · show f_X9_howManyFit_L4 _ _ _ _ = f_X9_howManyFit_L4 _ _ _ _
    rw [f_X9_howManyFit_L4, if_neg (nI_nlt (by omega) (by omega)), h.1 i, nI_add, nI_add]
    simp only [Option.bind_some, a0, ctS]
    split <;> rfl
theorem least_eq {M : qM} {p : Nat → Bool} (h : Said M p) : ∀ (m i f : Nat), i + m = 21 → m < f → (f_X9_leastThatFits_L2 M f (nI i)).bind (fun e6 => Sum.elim some (fun e6 => some ((-1 : Int32))) e6) = some (lI (fsN p m i))
  | m, i, 0, hi, hf => by omega
  | 0, i, f + 1, hi, hf => by
    rw [f_X9_leastThatFits_L2, if_pos (nI_lt (by omega) (by omega))]; rfl
  | m + 1, i, f + 1, hi, hf => by
    rw [f_X9_leastThatFits_L2, if_neg (nI_nlt (by omega) (by omega)), h.1 i, nI_add, fsN]
    simp only [Option.bind_some]
    by_cases hp : p i
    · rw [if_pos hp, if_pos hp, lI_lt (by omega)]; rfl
    · rw [if_neg hp, if_neg hp]
      exact least_eq h m (i + 1) f (by omega) (by omega)
theorem great_eq {M : qM} {p : Nat → Bool} (h : Said M p) : ∀ (i f : Nat), i ≤ 21 → i < f → (f_X9_greatestThatFits_L3 M f (nI i + (-1))).bind (fun e6 => Sum.elim some (fun e6 => some ((-1 : Int32))) e6) = some (lI (gsN p i))
  | i, 0, hi, hf => by omega
  | 0, f + 1, hi, hf => by
    rw [f_X9_greatestThatFits_L3, if_pos (by decide)]; rfl
  | i + 1, f + 1, hi, hf => by
    rw [f_X9_greatestThatFits_L3, pk_m1, if_neg (nI_pos (by omega)), h.1 i, gsN]
    simp only [Option.bind_some]
    by_cases hp : p i
    · rw [if_pos hp, if_pos hp, lI_lt (by omega)]; rfl
    · rw [if_neg hp, if_neg hp]
      exact great_eq h i f (by omega) (by omega)
def wtS (p : Nat → Bool) (w : Nat) (s : Nat × Nat × Nat) : Nat × Nat × Nat := if p w then (s.1 + 1, if s.2.1 = 21 then w else s.2.1, w) else s
theorem wtS_1 (p : Nat → Bool) : ∀ m i s, (IT (wtS p) m i s).1 = IT (ctS p) m i s.1
  | 0, _, _ => rfl
  | m + 1, i, s => by
    show (IT (wtS p) m (i + 1) (wtS p i s)).1 = IT (ctS p) m (i + 1) (ctS p i s.1)
    rw [wtS_1 p m (i + 1)]
    unfold wtS ctS
    split <;> rfl
theorem wtS_2 (p : Nat → Bool) : ∀ m i s, i + m ≤ 21 → (IT (wtS p) m i s).2.1 = if s.2.1 = 21 then fsN p m i else s.2.1
  | 0, i, s, h => by
    show s.2.1 = _
    split
    · rw [fsN]; assumption
    · rfl
  | m + 1, i, s, h => by
    show (IT (wtS p) m (i + 1) (wtS p i s)).2.1 = _
    rw [wtS_2 p m (i + 1) _ (by omega), fsN]
    unfold wtS
    by_cases hp : p i
    · rw [if_pos hp, if_pos hp]
      by_cases h1 : s.2.1 = 21
      · simp only [h1, if_true]
        rw [if_neg (by omega)]
      · simp only [if_neg h1]
    · rw [if_neg hp, if_neg hp]
theorem wtS_3 (p : Nat → Bool) : ∀ m, (IT (wtS p) m 0 (0, 21, 21)).2.2 = gsN p m
  | 0 => rfl
  | m + 1 => by
    rw [IT_snoc, gsN, ← wtS_3 p m, Nat.zero_add]
    generalize IT (wtS p) m 0 (0, 21, 21) = s
    unfold wtS
    split <;> rfl
theorem weightsL_eq {M : qM} {p : Nat → Bool} (h : Said M p) (x : Int32) : f_X12_weights_L25 x M qF (nI 0) (-1) (-1) (nI 0) = some (nI (IT (ctS p) 21 0 0), lI (fsN p 21 0), lI (gsN p 21), nI 21) := by
  have key := (up1 (F := fun n (s : Nat × Nat × Nat) i => f_X12_weights_L25 x M n (nI s.1) (lI s.2.1) (lI s.2.2) i) (N := 21) (step := wtS p) (fin := fun s => (nI s.1, lI s.2.1, lI s.2.2, nI 21)) (fun k s => s.2.1 = 21 ∨ s.2.1 < k) (fun n s _ => ?_) (fun n i s hi hs => ⟨?_, ?_⟩) 21 0 qF (0, 21, 21) (by omega) (by rw [qF_val]; omega) (Or.inl rfl)).1
  · have e1 := wtS_1 p 21 0 (0, 21, 21)
    have e2 := wtS_2 p 21 0 (0, 21, 21) (by omega)
    have e3 := wtS_3 p 21
    simp only [if_true] at e2
    rw [e1, e2, e3] at key
    exact key
  · show f_X12_weights_L25 _ _ _ _ _ _ _ = _
    rw [f_X12_weights_L25, if_pos (nI_le (Nat.le_refl _) (by omega))]
  · show f_X12_weights_L25 _ _ _ _ _ _ _ = f_X12_weights_L25 _ _ _ _ _ _ _
    rw [f_X12_weights_L25, if_neg (nI_ge hi (by omega)), h.2 i, nI_add, nI_add]
    simp only [Option.bind_some]
    unfold wtS
    by_cases hp : p i
    · rw [if_pos hp, if_pos hp]
      by_cases h1 : s.2.1 = 21
      · rw [if_pos h1, h1, if_pos (show lI 21 = -1 from rfl), lI_lt (by omega)]
      · have h2 : s.2.1 < 21 := by omega
        rw [if_neg h1, lI_lt h2, if_neg (nI_m1 (by omega)), lI_lt (by omega)]
    · rw [if_neg hp, if_neg hp]
  · unfold wtS
    split
    · split
      · right; show i < i + 1; omega
      · show s.2.1 = 21 ∨ s.2.1 < i + 1; omega
    · omega
theorem op_weights {M : qM} {J : qJ} (hI : Inv M J) (a1 : Int32) : ∃ r, f_X11_weights a1 M = some r ∧ f_X12_weights a1 M = some r ∧ Inv M J := by
  obtain ⟨l, C, O, hP, hB, hT, hF, hS, hY, -⟩ := id hI
  obtain ⟨p, h⟩ := said_of hY
  unfold f_X11_weights f_X12_weights f_X9_leastThatFits f_X9_greatestThatFits
  have e1 := least_eq h 21 0 qF (by omega) (by rw [qF_val]; omega)
  have e2 := great_eq h 21 qF (by omega) (by rw [qF_val]; omega)
  rw [show nI 21 + (-1) = nI 20 from pk_m1 20] at e2
  simp only [in_ll _ _ (show 0 < 2 ^ 31 by decide) (show 2 < 2 ^ 31 by decide), Option.bind_some, many_eq h, e1, e2, weightsL_eq h]
  cases h3 : inb a1 (nI 0) (nI 2) with
  | false =>
    have nn : ∀ k, k ≤ 2 → ¬ a1 = nI k := fun k hk e => by
      rw [e, inb_in (by omega) hk (by decide)] at h3; cases h3
    rw [if_neg (nn 0 (by omega)), if_neg (nn 1 (by omega)), if_neg (nn 2 (by omega))]
    exact ⟨_, rfl, rfl, hI⟩
  | true =>
    obtain ⟨k, -, hk, rfl⟩ := inb_nI h3 (by decide) (by decide)
    have hk2 : k = 0 ∨ k = 1 ∨ k = 2 := by omega
    rcases hk2 with rfl | rfl | rfl
    · exact ⟨_, rfl, rfl, hI⟩
    · exact ⟨_, rfl, rfl, hI⟩
    · exact ⟨_, rfl, rfl, hI⟩
-- ask
def ptS (p : Nat → Bool) (k s : Int32) (w c : Nat) : Nat := if p w then (if Sv k (nI 10) (nI w) = s then c + 1 else c) else c
theorem ptS_le (p : Nat → Bool) (k s : Int32) : ∀ m i c, IT (ptS p k s) m i c ≤ c + m
  | 0, _, _ => Nat.le_refl _
  | m + 1, i, c => by
    show IT (ptS p k s) m (i + 1) (ptS p k s i c) ≤ _
    have h1 := ptS_le p k s m (i + 1) (ptS p k s i c)
    have h2 : ptS p k s i c ≤ c + 1 := by
      unfold ptS
      split
      · split <;> omega
      · omega
    omega
def PT (p : Nat → Bool) (k : Int32) (w : Nat) : Nat := IT (ptS p k (Sv k (nI 10) (nI w))) 21 0 0
theorem part_eq {M : qM} {p : Nat → Bool} (h : Said M p) (k : Int32) (w : Nat) : f_X9_partOf k (nI w) M = some (nI (PT p k w)) := by
  unfold f_X9_partOf
  rw [strengthBy_eq]
  simp only [Option.bind_some]
  have key := (up1 (F := fun n (a : Nat) i => f_X9_partOf_L14 k (Sv k (nI 10) (nI w)) M n (nI a) i) (N := 21) (step := ptS p k (Sv k (nI 10) (nI w))) (fin := fun a => (nI a, nI 21)) (fun _ _ => True) (fun n a _ => ?_) (fun n i a hi _ => ⟨?_, trivial⟩) 21 0 qF 0 (by omega) (by rw [qF_val]; omega) trivial).1
  · rw [key]; rfl
  · show f_X9_partOf_L14 _ _ _ _ _ _ = _
    rw [f_X9_partOf_L14, if_pos (nI_lt (by omega) (by omega))]
  · show f_X9_partOf_L14 _ _ _ _ _ _ = f_X9_partOf_L14 _ _ _ _ _ _
    rw [f_X9_partOf_L14, if_neg (nI_nlt (by omega) (by omega)), h.1 i, nI_add, nI_add, strengthBy_eq]
    simp only [Option.bind_some, a0, ptS]
    split
    · split <;> rfl
    · rfl
theorem alike_eq {M : qM} {p : Nat → Bool} (h : Said M p) (x1 x2 k x4 : Int32) (w : Nat) : f_X12_ask_L34 x1 x2 k x4 (nI w) M qF (nI 0) (nI 0) = some (nI (if p w then PT p k w else 0), nI 21) := by
  have key := (up1 (F := fun n (a : Nat) i => f_X12_ask_L34 x1 x2 k x4 (nI w) M n (nI a) i) (N := 21) (step := fun v c => if p w then ptS p k (Sv k (nI 10) (nI w)) v c else c) (fin := fun a => (nI a, nI 21)) (fun _ _ => True) (fun n a _ => ?_) (fun n i a hi _ => ⟨?_, trivial⟩) 21 0 qF 0 (by omega) (by rw [qF_val]; omega) trivial).1
  · refine (show f_X12_ask_L34 x1 x2 k x4 (nI w) M qF (nI 0) (nI 0) = _ from key).trans ?_
    by_cases hp : p w
    · simp only [hp, if_true]; rfl
    · have : ∀ m i c, IT (fun v c => if p w then ptS p k (Sv k (nI 10) (nI w)) v c else c) m i c = c := by
        intro m
        induction m with
        | zero => intro i c; rfl
        | succ m ih => intro i c; show IT _ m (i + 1) _ = _; rw [ih]; exact if_neg hp
      rw [this, if_neg hp]
  · show f_X12_ask_L34 _ _ _ _ _ _ _ _ _ = _
    rw [f_X12_ask_L34, if_pos (nI_le (Nat.le_refl _) (by omega))]
  · show f_X12_ask_L34 _ _ _ _ _ _ _ _ _ = f_X12_ask_L34 _ _ _ _ _ _ _ _ _
    rw [f_X12_ask_L34, if_neg (nI_ge hi (by omega)), h.2 i, h.2 w, nI_add, nI_add, strengthByM_eq, strengthByM_eq]
    simp only [Option.bind_some, a0, ptS]
    by_cases hp : p w
    · rw [if_pos hp, if_pos hp]
      by_cases hq : p i
      · rw [if_pos hq, if_pos hq]
        by_cases he : Sv k (nI 10) (nI w) = Sv k (nI 10) (nI i)
        · rw [if_pos he, if_pos he.symm]
        · rw [if_neg he, if_neg (fun q => he q.symm)]
      · rw [if_neg hq, if_neg hq]
    · rw [if_neg hp, if_neg hp]
def gpS (p : Nat → Bool) (k : Int32) (w g : Nat) : Nat := if p w then max g (PT p k w) else g
def GP (p : Nat → Bool) (k : Int32) : Nat := IT (gpS p k) 21 0 0
theorem PT_le (p : Nat → Bool) (k : Int32) (w : Nat) : PT p k w ≤ 21 := by
  have := ptS_le p k (Sv k (nI 10) (nI w)) 21 0 0
  unfold PT; omega
theorem gpS_le (p : Nat → Bool) (k : Int32) (w g : Nat) (h : g ≤ 21) : gpS p k w g ≤ 21 := by
  have := PT_le p k w
  unfold gpS; split <;> omega
theorem gpart_eq {M : qM} {p : Nat → Bool} (h : Said M p) (k : Int32) : f_X9_greatestPart k M = some (nI (GP p k)) := by
  unfold f_X9_greatestPart
  have key := (up1 (F := fun n (a : Nat) i => f_X9_greatestPart_L4 k M n (nI a) i) (N := 21) (step := gpS p k) (fin := fun a => (nI a, nI 21)) (fun _ g => g ≤ 21) (fun n a _ => ?_) (fun n i a hi ha => ⟨?_, gpS_le _ _ _ _ ha⟩) 21 0 qF 0 (by omega) (by rw [qF_val]; omega) (by omega)).1
  · rw [key]; rfl
  · show f_X9_greatestPart_L4 _ _ _ _ _ = _
    rw [f_X9_greatestPart_L4, if_pos (nI_lt (by omega) (by omega))]
  · show f_X9_greatestPart_L4 _ _ _ _ _ = f_X9_greatestPart_L4 _ _ _ _ _
    have := PT_le p k i
    rw [f_X9_greatestPart_L4, if_neg (nI_nlt (by omega) (by omega)), h.1 i, nI_add, part_eq h]
    simp only [Option.bind_some, gpS]
    rw [qmax_nI (by omega) (by omega)]
    split <;> rfl
theorem gpartM_eq {M : qM} {p : Nat → Bool} (h : Said M p) (x1 x2 k : Int32) : f_X12_ask_L21 x1 x2 k M qF (nI 0) (nI 0) = some (nI (GP p k), nI 21) := by
  refine (up1 (F := fun n (a : Nat) i => f_X12_ask_L21 x1 x2 k M n (nI a) i) (N := 21) (step := gpS p k) (fin := fun a => (nI a, nI 21)) (fun _ g => g ≤ 21) (fun n a _ => ?_) (fun n i a hi ha => ⟨?_, gpS_le _ _ _ _ ha⟩) 21 0 qF 0 (by omega) (by rw [qF_val]; omega) (by omega)).1
  · show f_X12_ask_L21 _ _ _ _ _ _ _ = _
    rw [f_X12_ask_L21, if_pos (nI_le (Nat.le_refl _) (by omega))]
  · show f_X12_ask_L21 _ _ _ _ _ _ _ = f_X12_ask_L21 _ _ _ _ _ _ _
    have := PT_le p k i
    rw [f_X12_ask_L21, if_neg (nI_ge hi (by omega)), alike_eq h, nI_add]
    simp only [Option.bind_some, greater_eq, gpS]
    by_cases hp : p i
    · rw [if_pos hp, if_pos hp, qmax_nI (by omega) (by omega)]
    · rw [if_neg hp, if_neg hp, qmax_nI (by omega) (by omega), Nat.max_eq_left (by omega)]
def bkS (p : Nat → Bool) (k : Nat) (s : Int32 × Int32) : Int32 × Int32 := if s.2 ≤ nI (GP p (nI k)) then s else (nI k, nI (GP p (nI k)))
theorem op_ask {M : qM} {J : qJ} (hI : Inv M J)  : ∃ r, f_X11_ask  M = some r ∧ f_X12_ask  M = some r ∧ Inv M J := by
  obtain ⟨l, C, O, hP, hB, hT, hF, hS, hY, -⟩ := id hI
  obtain ⟨p, h⟩ := said_of hY
  have hw : f_X12_weights (nI 0) M = some (nI (IT (ctS p) 21 0 0)) := by
    unfold f_X12_weights
    rw [in_ll _ _ (by decide) (by decide), weightsL_eq h]
    rfl
  unfold f_X11_ask f_X12_ask f_X9_bestKind
  rw [many_eq h, hw]
  simp only [Option.bind_some]
  generalize nI (IT (ctS p) 21 0 0) = m0
  have k1 := (up1 (F := fun n (s : Int32 × Int32) i => f_X9_bestKind_L9 M n s.1 s.2 i) (N := 3) (step := bkS p) (fin := fun s => (s.1, s.2, nI 3)) (fun _ _ => True) (fun n s _ => ?_) (fun n i s hi _ => ⟨?_, trivial⟩) 3 0 qF (-1, m0) (by omega) (by rw [qF_val]; omega) trivial).1
  have k2 := (up1 (F := fun n (s : Int32 × Int32) i => f_X12_ask_L10 M n s.2 s.1 i) (N := 3) (step := bkS p) (fin := fun s => (s.2, s.1, nI 3)) (fun _ _ => True) (fun n s _ => ?_) (fun n i s hi _ => ⟨?_, trivial⟩) 3 0 qF (-1, m0) (by omega) (by rw [qF_val]; omega) trivial).1
  · refine ⟨(IT (bkS p) 3 0 (-1, m0)).1, ?_, ?_, hI⟩
    · rw [show f_X9_bestKind_L9 M qF (-1) m0 (nI 0) = _ from k1]; rfl
    · rw [show f_X12_ask_L10 M qF m0 (-1) (nI 0) = _ from k2]; rfl
  · show f_X12_ask_L10 _ _ _ _ _ = _
    rw [f_X12_ask_L10, if_pos (nI_le (Nat.le_refl _) (by omega))]
  · show f_X12_ask_L10 _ _ _ _ _ = f_X12_ask_L10 _ _ _ _ _
    rw [f_X12_ask_L10, if_neg (nI_ge hi (by omega)), gpartM_eq h, nI_add]
    simp only [Option.bind_some, bkS, f_X12_lesser]
    by_cases h1 : s.2 ≤ nI (GP p (nI i))
    · simp only [if_pos h1]; rfl
    · simp only [if_neg h1]; rfl
  · show f_X9_bestKind_L9 _ _ _ _ _ = _
    rw [f_X9_bestKind_L9, if_pos (nI_lt (by omega) (by omega))]
  · show f_X9_bestKind_L9 _ _ _ _ _ = f_X9_bestKind_L9 _ _ _ _ _
    rw [f_X9_bestKind_L9, if_neg (nI_nlt (by omega) (by omega)), gpart_eq h, nI_add]
    simp only [Option.bind_some, bkS]
    split <;> rfl
