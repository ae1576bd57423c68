-- plain
def anyC (r : Nat → Int32) (O c : Nat) : Bool := IT (fun o b => b || Cnt r o c) O 0 false
theorem full_bit : ∀ O, O ≤ 6 → ∀ o, o < O → (((nI (2 ^ O) - nI 1) >>> (nI o &&& 31)) &&& nI 1) = nI 1 := by decide +kernel
theorem qmax_toInt (a b : Int32) : (qmax a b).toInt = max a.toInt b.toInt := by
  unfold qmax
  by_cases h : a < b
  · rw [if_pos h]; rw [fa_lt] at h; omega
  · rw [if_neg h]; rw [fa_lt] at h; omega
theorem safe_0 {r : Nat → Int32} {l C O c : Nat} (hB : BD r l C O) (hl : 0 < l) : decide (IT (sfS r c (nI (2 ^ O) - nI 1)) O 0 (nI 0) = 0) = !anyC r O c := by
  have hO := hB.2.2.1.2
  have h0 : r 0 = nI l := hB.1.1
  have hl2 : l ≤ 20 := hB.1.2
  have key := IT_rel (s := sfS r c (nI (2 ^ O) - nI 1)) (t := fun o b => b || Cnt r o c) (fun (a : Int32) (b : Bool) => (b = false ∧ a = 0) ∨ (b = true ∧ 0 < a.toInt)) O 0 (nI 0) false (Or.inl ⟨rfl, rfl⟩) (fun k x y _ hk h => by
    unfold sfS
    rw [if_pos (full_bit O hO k (by omega))]
    cases hc : Cnt r k c with
    | false => rw [if_neg (by decide)]; simpa using h
    | true =>
      rw [if_pos rfl]
      refine Or.inr ⟨by simp, ?_⟩
      unfold Cnt at hc
      simp only [Bool.not_eq_true', decide_eq_false_iff_not, fa_lt, h0, nI_toInt (show l < 2 ^ 31 by omega)] at hc
      rw [qmax_toInt]
      omega)
  unfold anyC
  rcases key with ⟨h1, h2⟩ | ⟨h1, h2⟩
  · rw [h1, h2]; rfl
  · rw [h1]
    simp only [Bool.not_true, decide_eq_false_iff_not]
    intro q
    rw [q] at h2
    exact absurd h2 (by decide)
theorem plain_eq {M : qM} {l C O : Nat} (hB : BD (M 2) l C O) : f_X10_plain M = some (nI (bs (fun c => decide (M 2 (12 + c) = 0) && !anyC (M 2) O c) C)) := by
  have hC := hBc hB
  have hO := hBo hB
  unfold f_X10_plain f_X5_objectors
  rw [qrd_nI (by omega) (by decide), Option.bind_some, Option.bind_some, hO.1, one_shl (by omega)]
  have key := (up1 (F := fun n (a : Int32) i => f_X10_plain_L13 (nI (2 ^ O) - nI 1) M n a i) (N := C) (step := fun c acc => if (decide (M 2 (12 + c) = 0) && !anyC (M 2) O c) then acc ||| (nI 1 <<< (nI c &&& 31)) else acc) (fin := fun a => (a, nI C)) (fun _ _ => True) (fun n a _ => ?_) (fun n i a hi _ => ⟨?_, trivial⟩) C 0 qF (nI 0) (by omega) (by rw [qF_val]; omega) trivial).1
  · rw [key]
    have := orF (fun c => decide (M 2 (12 + c) = 0) && !anyC (M 2) O c) C 0 (by omega)
    rw [show nI (bs (fun c => decide (M 2 (12 + c) = 0) && !anyC (M 2) O c) 0) = nI 0 from rfl] at this
    rw [Option.bind_some, this, Nat.zero_add]
  · show f_X10_plain_L13 _ _ _ _ _ = _
    rw [f_X10_plain_L13]
    unfold f_X5_couples
    rw [qrd_nI (by omega) (by decide), hC.1]
    simp only [Option.bind_some]
    rw [if_pos (nI_le (Nat.le_refl _) (by omega))]
  · show f_X10_plain_L13 _ _ _ _ _ = f_X10_plain_L13 _ _ _ _ _
    rw [f_X10_plain_L13]
    unfold f_X5_couples f_X5_waits
    rw [qrd_nI (by omega) (by decide), hC.1]
    simp only [Option.bind_some]
    rw [if_neg (nI_ge hi (by omega)), nI_add, nI_add, qrd_nI (by omega) (by decide), safe_eq hB (by omega)]
    simp only [Option.bind_some]
    have hl : 0 < l := by
      have := hB.2.2.2.1
      omega
    have hs := safe_0 (c := i) hB hl
    by_cases h1 : M 2 (12 + i) = 0
    · rw [if_pos h1, Option.bind_some, if_pos rfl]
      cases ha : anyC (M 2) O i with
      | false =>
        rw [ha] at hs
        rw [if_pos (of_decide_eq_true hs), if_pos (by simp [h1])]
      | true =>
        rw [ha] at hs
        rw [if_neg (of_decide_eq_false hs), if_neg (by simp)]
    · rw [if_neg h1, Option.bind_some, if_neg (by decide), if_neg (by simp [h1])]
theorem clr_eq : ∀ n, n < 64 → ∀ c, c < 6 → nI n &&& ((nI 1 <<< (nI c &&& 31)) ^^^ (-1 : Int32)) = nI (n &&& (63 - 2 ^ c)) := by decide +kernel
theorem keep_eq : ∀ n, n < 64 → nI n &&& (-1 : Int32) = nI n := by decide +kernel
theorem clr_bit : ∀ c, c < 6 → ∀ k, k < 6 → (63 - 2 ^ c).testBit k = !decide (k = c) := by decide
def clS (r : Nat → Int32) (O c n : Nat) : Nat := if anyC r O c then n &&& (63 - 2 ^ c) else n
theorem clS_64 {r : Nat → Int32} {O c n : Nat} (h : n < 64) : clS r O c n < 64 := by
  unfold clS
  split
  · exact Nat.lt_of_le_of_lt Nat.and_le_left h
  · exact h
theorem clS_bit {r : Nat → Int32} {O c n k : Nat} (hc : c < 6) (hk : k < 6) : (clS r O c n).testBit k = (n.testBit k && !(decide (k = c) && anyC r O c)) := by
  unfold clS
  cases anyC r O c with
  | true => rw [if_pos rfl, Nat.testBit_and, clr_bit c hc k hk, Bool.and_true]
  | false => rw [if_neg (by decide), Bool.and_false, Bool.not_false, Bool.and_true]
theorem IT_clS {r : Nat → Int32} {O k : Nat} (hk : k < 6) : ∀ (m i n : Nat), i + m ≤ 6 → (IT (clS r O) m i n).testBit k = (n.testBit k && !(decide (i ≤ k ∧ k < i + m) && anyC r O k))
  | 0, i, n, h => by
    rw [show decide (i ≤ k ∧ k < i + 0) = false from decide_eq_false (by omega), Bool.false_and, Bool.not_false, Bool.and_true]; rfl
  | m + 1, i, n, h => by
    have e : IT (clS r O) (m + 1) i n = IT (clS r O) m (i + 1) (clS r O i n) := rfl
    rw [e, IT_clS hk m (i + 1) _ (by omega), clS_bit (by omega) hk]
    by_cases hi : k = i
    · subst hi
      rw [show decide (k + 1 ≤ k ∧ k < k + 1 + m) = false from decide_eq_false (by omega), show decide (k ≤ k ∧ k < k + (m + 1)) = true from decide_eq_true (by omega)]
      simp
    · have e2 : decide (i + 1 ≤ k ∧ k < i + 1 + m) = decide (i ≤ k ∧ k < i + (m + 1)) := by
        congr 1; apply propext; omega
      rw [e2, show decide (k = i) = false from decide_eq_false hi]
      simp
theorem and_and_self (a b : Nat) : (a &&& b) &&& b = a &&& b := by
  rw [Nat.and_assoc, Nat.and_self]
theorem plainM_eq {M : qM} {r : Nat → Int32} {l C O : Nat} (hP : RP r (M 26) (M 28)) (hB : BD r l C O) : f_X12_plain M = some (nI (bs (fun c => decide (r (12 + c) = 0) && !anyC r O c) C)) := by
  have hC : M 26 1 = nI C := hP.1.2.1.symm.trans hB.2.1.1
  have hO : M 26 2 = nI O := hP.1.2.2.1.symm.trans hB.2.2.1.1
  have hC6 := hB.2.1.2
  have hO6 := hB.2.2.1.2
  unfold f_X12_plain
  rw [those_eq hP hB, Option.bind_some]
  have inner : ∀ c n, c < 6 → n < 64 → (f_X12_plain_L20 (nI c) M qF (nI n) (nI 0)) = some (nI (clS r O c n), nI O) := by
    intro c n hc hn
    have key := (up1 (F := fun f (b : Bool) i => f_X12_plain_L20 (nI c) M f (nI (if b then n &&& (63 - 2 ^ c) else n)) i) (N := O) (step := fun o b => b || Cnt r o c) (fin := fun b => (nI (if b then n &&& (63 - 2 ^ c) else n), nI O)) (fun _ _ => True) (fun f b _ => ?_) (fun f i b hi _ => ⟨?_, trivial⟩) O 0 qF false (by omega) (by rw [qF_val]; omega) trivial).1
    · exact key
    · show f_X12_plain_L20 _ _ _ _ _ = _
      rw [f_X12_plain_L20, qrd_nI (by omega) (by decide), hO, Option.bind_some, if_pos (nI_le (Nat.le_refl _) (by omega))]
    · show f_X12_plain_L20 _ _ _ _ _ = f_X12_plain_L20 _ _ _ _ _
      have hm : (if b then n &&& (63 - 2 ^ c) else n) < 64 := by
        split
        · exact Nat.lt_of_le_of_lt Nat.and_le_left hn
        · exact hn
      rw [f_X12_plain_L20, qrd_nI (by omega) (by decide), hO, Option.bind_some, if_neg (nI_ge hi (by omega)), counts28_eq hP (by omega) hc, Option.bind_some, nI_add]
      cases hcn : Cnt r i c with
      | true =>
        rw [if_pos rfl, clr_eq _ hm c hc, Bool.or_true, if_pos rfl]
        cases b with
        | true => rw [if_pos rfl, and_and_self]
        | false => rw [if_neg (by decide)]
      | false => rw [if_neg (by decide), keep_eq _ hm, Bool.or_false]
  have key := (up1 (F := fun f (n : Nat) i => f_X12_plain_L8 M f (nI n) i) (N := C) (step := clS r O) (fin := fun n => (nI n, nI C)) (fun _ n => n < 64) (fun f n _ => ?_) (fun f i n hi hn => ⟨?_, clS_64 hn⟩) C 0 qF (bs (fun c => decide (r (12 + c) = nI 0)) C) (by omega) (by rw [qF_val]; omega) (bs_64 _ hC6)).1
  · rw [key, Option.bind_some]
    show some (nI _) = some (nI _)
    congr 2
    apply Nat.eq_of_testBit_eq
    intro k
    by_cases hk : k < 6
    · rw [IT_clS hk C 0 _ (by omega), bs_bit, bs_bit]
      by_cases hkC : k < C
      · rw [show decide (0 ≤ k ∧ k < 0 + C) = true from decide_eq_true (by omega), show decide (k < C) = true from decide_eq_true hkC, Bool.true_and, Bool.true_and, Bool.true_and]
        rfl
      · rw [show decide (k < C) = false from decide_eq_false hkC, Bool.false_and, Bool.false_and]; rfl
    · have b1 : IT (clS r O) C 0 (bs (fun c => decide (r (12 + c) = nI 0)) C) < 2 ^ 6 := IT_inv (fun n => n < 64) C 0 _ (bs_64 _ hC6) (fun k x _ _ h => clS_64 h)
      have b2 : bs (fun c => decide (r (12 + c) = 0) && !anyC r O c) C < 2 ^ 6 := bs_64 _ hC6
      have hp : 2 ^ 6 ≤ 2 ^ k := Nat.pow_le_pow_right (by omega) (by omega)
      rw [Nat.testBit_lt_two_pow (by omega), Nat.testBit_lt_two_pow (by omega)]
  · show f_X12_plain_L8 _ _ _ _ = _
    rw [f_X12_plain_L8, qrd_nI (by omega) (by decide), hC, Option.bind_some, if_pos (nI_le (Nat.le_refl _) (by omega))]
  · show f_X12_plain_L8 _ _ _ _ = f_X12_plain_L8 _ _ _ _
    rw [f_X12_plain_L8, qrd_nI (by omega) (by decide), hC, Option.bind_some, if_neg (nI_ge hi (by omega)), inner i n (by omega) hn, Option.bind_some, nI_add]
-- few
def pc (n : Nat) : Nat := n % 2 + n / 2 % 2 + n / 4 % 2 + n / 8 % 2 + n / 16 % 2 + n / 32 % 2
theorem bc0 : ∀ n, n < 64 → f_J6_bitCount (nI n) (fun _ _ => 0) = some (nI (pc n)) := by decide +kernel
theorem bc_eq {n : Nat} (h : n < 64) (M : qM) : f_J6_bitCount (nI n) M = some (nI (pc n)) := by
  rw [← bc0 n h]; rfl
theorem low_eq : ∀ n, n < 64 → 0 < n → nI n &&& (nI n - nI 1) = nI (n &&& (n - 1)) ∧ n &&& (n - 1) < 64 ∧ pc (n &&& (n - 1)) + 1 = pc n := by decide +kernel
theorem bits_ok (M : qM) : ∀ (f n c : Nat), n < 64 → pc n < f → f_X12_bits_L4 M f (nI c) (nI n) = some (nI (c + pc n), nI 0)
  | 0, n, c, hn, hf => by omega
  | f + 1, n, c, hn, hf => by
    rw [f_X12_bits_L4]
    by_cases h0 : n = 0
    · subst h0
      rw [if_pos (show nI 0 = 0 from rfl)]; rfl
    · obtain ⟨h1, h2, h3⟩ := low_eq n hn (by omega)
      rw [if_neg (nI_ne0 (by omega) (by omega)), h1, nI_add, bits_ok M f _ (c + 1) h2 (by omega)]
      congr 3; omega
theorem bits_eq {n : Nat} (h : n < 64) (M : qM) : f_X12_bits (nI n) M = some (nI (pc n)) := by
  unfold f_X12_bits
  rw [bits_ok M qF n 0 h (by rw [qF_val]; unfold pc; omega), Option.bind_some, Nat.zero_add]
def canN (r : Nat → Int32) (O c : Nat) : Nat := bs (fun o => Wed r o c 0) O
def wdS (r : Nat → Int32) (O s c : Nat) (b : Bool) : Bool := b && !(decide (r (12 + c) = 0) && decide (canN r O c &&& s = 0))
def wdb (r : Nat → Int32) (C O s : Nat) : Bool := IT (wdS r O s) C 0 true
theorem wdS_f (r : Nat → Int32) (O s : Nat) : ∀ (m i : Nat), IT (wdS r O s) m i false = false
  | 0, i => rfl
  | m + 1, i => by
    show IT (wdS r O s) m (i + 1) (wdS r O s i false) = false
    rw [show wdS r O s i false = false from rfl]; exact wdS_f r O s m (i + 1)
theorem and0 {a b : Nat} (ha : a < 64) : (nI a &&& nI b = 0) = (a &&& b = 0) := by
  rw [fa_and]
  have h : a &&& b < 64 := Nat.lt_of_le_of_lt Nat.and_le_left ha
  apply propext
  constructor
  · intro q
    exact (nI_eq (by omega) (by omega)).mp q
  · intro q; rw [q]; rfl
theorem weddable_ok {M : qM} {l C O s : Nat} (hB : BD (M 2) l C O) (h19 : ∀ c, c < C → M 19 c = nI (canN (M 2) O c)) : ∀ (m i f : Nat), i + m = C → m < f → ∃ w, f_X1_weddable_L2 (nI s) M f (nI i) = some w ∧ Sum.elim some (fun _ => some true) w = some (IT (wdS (M 2) O s) m i true)
  | _, i, 0, hi, hf => by omega
  | 0, i, f + 1, hi, hf => by
    have hC := hBc hB
    have e : i = C := by omega
    subst e
    refine ⟨.inr (nI i), ?_, rfl⟩
    rw [f_X1_weddable_L2]
    unfold f_X5_couples
    rw [qrd_nI (by omega) (by decide), hC.1, Option.bind_some, Option.bind_some, if_pos (nI_le (Nat.le_refl _) (by omega))]
  | m + 1, i, f + 1, hi, hf => by
    have hC := hBc hB
    have hO := hBo hB
    rw [f_X1_weddable_L2]
    unfold f_X5_couples f_X5_waits
    rw [qrd_nI (by omega) (by decide), hC.1, Option.bind_some, Option.bind_some, if_neg (nI_ge (by omega) (by omega)), nI_add, nI_add, qrd_nI (by omega) (by decide), Option.bind_some, qrd_nI (show i < 6 by omega) (by decide), Option.bind_some, h19 i (by omega)]
    have e : IT (wdS (M 2) O s) (m + 1) i true = IT (wdS (M 2) O s) m (i + 1) (wdS (M 2) O s i true) := rfl
    rw [e]
    have ih := weddable_ok (s := s) hB h19 m (i + 1) f (by omega) (by omega)
    by_cases h1 : M 2 (12 + i) = 0
    · rw [if_pos h1, Option.bind_some, if_pos rfl]
      by_cases h2 : canN (M 2) O i &&& s = 0
      · rw [if_pos (by rw [and0 (a := canN (M 2) O i) (bs_64 _ hO.2)]; exact h2)]
        refine ⟨_, rfl, ?_⟩
        rw [show wdS (M 2) O s i true = false by unfold wdS; simp [h1, h2], wdS_f]; rfl
      · rw [if_neg (by rw [and0 (a := canN (M 2) O i) (bs_64 _ hO.2)]; exact h2), show wdS (M 2) O s i true = true by unfold wdS; simp [h2]]
        exact ih
    · rw [if_neg h1, Option.bind_some, if_neg (by decide), show wdS (M 2) O s i true = true by unfold wdS; simp [h1]]
      exact ih
theorem weddable_eq {M : qM} {l C O s : Nat} (hB : BD (M 2) l C O) (h19 : ∀ c, c < C → M 19 c = nI (canN (M 2) O c)) : f_X1_weddable (nI s) M = some (wdb (M 2) C O s) := by
  have hC := hBc hB
  unfold f_X1_weddable
  obtain ⟨w, h1, h2⟩ := weddable_ok (s := s) hB h19 C 0 qF (by omega) (by rw [qF_val]; omega)
  rw [h1, Option.bind_some]
  exact h2
theorem weddableM_eq {M : qM} {r : Nat → Int32} {x : Int32} {l C O s : Nat} (hP : RP r (M 26) (M 28)) (hB : BD r l C O) : f_X12_few_L21 x (nI s) M qF true (nI 0) = some (wdb r C O s, nI C) := by
  have hC : M 26 1 = nI C := hP.1.2.1.symm.trans hB.2.1.1
  have hC6 := hB.2.1.2
  have hO6 := hB.2.2.1.2
  have key := (up1 (F := fun f (b : Bool) i => f_X12_few_L21 x (nI s) M f b i) (N := C) (step := wdS r O s) (fin := fun b => (b, nI C)) (fun _ _ => True) (fun f b _ => ?_) (fun f i b hi _ => ⟨?_, trivial⟩) C 0 qF true (by omega) (by rw [qF_val]; omega) trivial).1
  · exact key
  · show f_X12_few_L21 _ _ _ _ _ _ = _
    rw [f_X12_few_L21, qrd_nI (by omega) (by decide), hC, Option.bind_some, if_pos (nI_le (Nat.le_refl _) (by omega))]
  · show f_X12_few_L21 _ _ _ _ _ _ = f_X12_few_L21 _ _ _ _ _ _
    rw [f_X12_few_L21, qrd_nI (by omega) (by decide), hC, Option.bind_some, if_neg (nI_ge hi (by omega)), nI_add, nI_add, qrd_nI (by omega) (by decide), Option.bind_some, canM_eq hP hB (by omega), Option.bind_some, ← (hP.2.1 i (by omega)).2.1]
    cases b with
    | false => rw [if_neg (by decide)]; rfl
    | true =>
      rw [if_pos rfl]
      by_cases h1 : r (12 + i) = 0
      · rw [if_pos h1]
        by_cases h2 : canN r O i &&& s = 0
        · rw [if_pos (by rw [and0 (bs_64 _ hO6)]; exact h2), show wdS r O s i true = false by unfold wdS; simp [h1, h2]]
        · rw [if_neg (by rw [and0 (bs_64 _ hO6)]; exact h2), show wdS r O s i true = true by unfold wdS; simp [h2]]
      · rw [if_neg h1, show wdS r O s i true = true by unfold wdS; simp [h1]]
def bS (b : Nat) : Int32 := if b = 64 then -1 else nI b
theorem bS_64 : bS 64 = -1 := rfl
theorem bS_lt {b : Nat} (h : b < 64) : bS b = nI b := if_neg (by omega)
def fwS (r : Nat → Int32) (C O s b : Nat) : Nat := if wdb r C O s then (if b = 64 then s else if pc b ≤ pc s then b else s) else b
theorem fwS_le {r : Nat → Int32} {C O s b : Nat} (hs : s < 64) (hb : b ≤ 64) : fwS r C O s b ≤ 64 := by
  unfold fwS
  split
  · split
    · omega
    · split <;> omega
  · exact hb
theorem pc_le (n : Nat) : pc n ≤ 6 := by unfold pc; omega
theorem fewC_eq {M : qM} {l C O : Nat} (hB : BD (M 2) l C O) : ∃ M1, f_X1_few M = some (bS (IT (fwS (M 2) C O) (2 ^ O) 0 64), M1) ∧ ∀ a, a ≠ 19 → M1 a = M a := by
  have hC := hBc hB
  have hO := hBo hB
  have hp : 2 ^ O ≤ 64 := Nat.pow_le_pow_right (n := 2) (by omega) hO.2
  unfold f_X1_few
  have k1 := up1 (F := fun n (f : Nat → Int32) i => f_X1_few_L2 n i (ms M 19 f)) (N := C) (step := fun c f => upd f c (nI (canN (M 2) O c))) (fin := fun f => (nI C, ms M 19 f)) (fun i f => ∀ c, c < i → f c = nI (canN (M 2) O c)) (fun n f _ => ?_) (fun n i f hi hf => ⟨?_, ?_⟩) C 0 qF (M 19) (by omega) (by rw [qF_val]; omega) (fun c hc => by omega)
  · rw [ms_self] at k1
    obtain ⟨k1, k3⟩ := k1
    rw [k1, Option.bind_some]
    generalize IT (fun c f => upd f c (nI (canN (M 2) O c))) C 0 (M 19) = g at k3 ⊢
    have hB2 : BD (ms M 19 g 2) l C O := hB
    have h2 : ms M 19 g 2 = M 2 := rfl
    have h19 : ∀ c, c < C → ms M 19 g 19 c = nI (canN (ms M 19 g 2) O c) := k3
    refine ⟨ms M 19 g, ?_, fun a ha => ms_ne _ _ ha⟩
    have k2 := (up1 (F := fun n (b : Nat) i => f_X1_few_L31 (ms M 19 g) n (bS b) i) (N := 2 ^ O) (step := fwS (M 2) C O) (fin := fun b => (bS b, nI (2 ^ O))) (fun _ b => b ≤ 64) (fun n b _ => ?_) (fun n i b hi hb => ⟨?_, fwS_le (by omega) hb⟩) (2 ^ O) 0 qF 64 (by omega) (by rw [qF_val]; omega) (Nat.le_refl _)).1
    · rw [show (-1 : Int32) = bS 64 from rfl, k2, Option.bind_some]
    · show f_X1_few_L31 _ _ _ _ = _
      rw [f_X1_few_L31]
      unfold f_X5_objectors
      rw [qrd_nI (by omega) (by decide), h2, hO.1, Option.bind_some, Option.bind_some, one_shl (by omega), if_pos (nI_le (Nat.le_refl _) (by omega))]
    · show f_X1_few_L31 _ _ _ _ = f_X1_few_L31 _ _ _ _
      rw [f_X1_few_L31]
      unfold f_X5_objectors
      rw [qrd_nI (by omega) (by decide), h2, hO.1, Option.bind_some, Option.bind_some, one_shl (by omega), if_neg (nI_ge hi (by omega)), weddable_eq hB2 h19, h2, Option.bind_some, nI_add]
      unfold fwS
      by_cases hb64 : b = 64
      · subst hb64
        rw [if_pos bS_64, if_pos rfl]
        cases wdb (M 2) C O i with
        | true => rw [if_pos rfl, if_pos rfl, bS_lt (by omega)]
        | false => rw [if_neg (by decide), if_neg (by decide)]
      · rw [bS_lt (by omega), if_neg (nI_m1 (by omega)), bc_eq (by omega), bc_eq (by omega), Option.bind_some, Option.bind_some, if_neg hb64]
        have p1 := pc_le b
        have p2 := pc_le i
        by_cases hpc : pc b ≤ pc i
        · rw [if_pos (nI_le hpc (by omega)), if_pos hpc]
          cases wdb (M 2) C O i with
          | true => rw [if_pos rfl, bS_lt (by omega)]
          | false => rw [if_neg (by decide), bS_lt (by omega)]
        · rw [if_neg (nI_ge (by omega) (by omega)), if_neg hpc]
          cases wdb (M 2) C O i with
          | true => rw [if_pos rfl, if_pos rfl, bS_lt (by omega)]
          | false => rw [if_neg (by decide), if_neg (by decide), bS_lt (by omega)]
  · show f_X1_few_L2 _ _ _ = _
    rw [f_X1_few_L2]
    unfold f_X5_couples
    rw [qrd_nI (by omega) (by decide), show ms M 19 f 2 = M 2 from rfl, hC.1, Option.bind_some, Option.bind_some, if_pos (nI_le (Nat.le_refl _) (by omega))]
  · show f_X1_few_L2 _ _ _ = f_X1_few_L2 _ _ _
    have hB2 : BD (ms M 19 f 2) l C O := hB
    rw [f_X1_few_L2]
    unfold f_X5_couples
    rw [qrd_nI (by omega) (by decide), show ms M 19 f 2 = M 2 from rfl, hC.1, Option.bind_some, Option.bind_some, if_neg (nI_ge hi (by omega)), can_eq hB2 (by omega), Option.bind_some, qwr_nI (by omega) (by decide), Option.bind_some, ms_qu, nI_add]
    rfl
  · intro c hc
    by_cases hci : c = i
    · subst hci; rw [pk_us]
    · rw [pk_un hci]; exact hf c (by omega)
theorem fewM_eq {M : qM} {r : Nat → Int32} {l C O : Nat} (hP : RP r (M 26) (M 28)) (hB : BD r l C O) : f_X12_few M = some (bS (IT (fwS r C O) (2 ^ O) 0 64)) := by
  have hO : M 26 2 = nI O := hP.1.2.2.1.symm.trans hB.2.2.1.1
  have hO6 := hB.2.2.1.2
  have hp : 2 ^ O ≤ 64 := Nat.pow_le_pow_right (n := 2) (by omega) hO6
  unfold f_X12_few
  have k2 := (up1 (F := fun n (b : Nat) i => f_X12_few_L4 M n (bS b) i) (N := 2 ^ O) (step := fwS r C O) (fin := fun b => (bS b, nI (2 ^ O))) (fun _ b => b ≤ 64) (fun n b _ => ?_) (fun n i b hi hb => ⟨?_, fwS_le (by omega) hb⟩) (2 ^ O) 0 qF 64 (by omega) (by rw [qF_val]; omega) (Nat.le_refl _)).1
  · rw [show (-1 : Int32) = bS 64 from rfl, k2, Option.bind_some]
  · show f_X12_few_L4 _ _ _ _ = _
    rw [f_X12_few_L4, qrd_nI (by omega) (by decide), hO, Option.bind_some, one_shl (by omega), if_pos (nI_le (Nat.le_refl _) (by omega))]
  · show f_X12_few_L4 _ _ _ _ = f_X12_few_L4 _ _ _ _
    rw [f_X12_few_L4, qrd_nI (by omega) (by decide), hO, Option.bind_some, one_shl (by omega), if_neg (nI_ge hi (by omega)), weddableM_eq hP hB, Option.bind_some, nI_add]
    unfold fwS
    cases wdb r C O i with
    | false => rw [if_neg (show ¬ ((false, nI C) : Bool × Int32).1 = true from Bool.false_ne_true), if_neg (by decide)]
    | true =>
      rw [if_pos rfl, if_pos rfl]
      by_cases hb64 : b = 64
      · subst hb64
        rw [if_pos bS_64, if_pos rfl, bS_lt (by omega)]
      · have p1 := pc_le b
        have p2 := pc_le i
        rw [bS_lt (by omega), if_neg (nI_m1 (by omega)), bits_eq (by omega), bits_eq (by omega), Option.bind_some, Option.bind_some, if_neg hb64]
        by_cases hpc : pc b ≤ pc i
        · rw [if_pos (nI_le hpc (by omega)), if_pos hpc, bS_lt (by omega)]
        · rw [if_neg (nI_ge (by omega) (by omega)), if_neg hpc, bS_lt (by omega)]
theorem op_told {M : qM} {J : qJ} (hI : Inv M J) (a1 : Int32) : ∃ r M1, f_X11_told a1 M = some (r, M1) ∧ f_X12_told a1 M1 = some r ∧ Inv M1 J := by
  obtain ⟨l, C, O, hP, hB, hT, hF, hS, hY, hK, hU, hM, hR⟩ := id hI
  unfold f_X11_told f_X12_told
  by_cases h0 : a1 = nI 0
  · subst h0
    refine ⟨M 2 0, M, ?_, ?_, hI⟩
    · rw [if_pos rfl]; unfold f_X5_least; rw [qrd_nI (by omega) (by decide)]; rfl
    · rw [if_pos rfl, qrd_nI (by omega) (by decide), Option.bind_some, hP.1.1]
  simp only [if_neg h0]
  by_cases h1 : a1 = nI 1
  · subst h1
    refine ⟨M 2 1, M, ?_, ?_, hI⟩
    · rw [if_pos rfl]; unfold f_X5_couples; rw [qrd_nI (by omega) (by decide)]; rfl
    · rw [if_pos rfl, qrd_nI (by omega) (by decide), Option.bind_some, hP.1.2.1]
  simp only [if_neg h1]
  by_cases h2 : a1 = nI 2
  · subst h2
    refine ⟨M 2 2, M, ?_, ?_, hI⟩
    · rw [if_pos rfl]; unfold f_X5_objectors; rw [qrd_nI (by omega) (by decide)]; rfl
    · rw [if_pos rfl, qrd_nI (by omega) (by decide), Option.bind_some, hP.1.2.2.1]
  simp only [if_neg h2]
  by_cases h3 : a1 = nI 3
  · subst h3
    obtain ⟨n, -, t1, t2, -⟩ := hT
    refine ⟨M 3 1, M, ?_, ?_, hI⟩
    · rw [if_pos rfl]
    · rw [if_pos rfl, t1, t2]
  simp only [if_neg h3]
  by_cases h4 : a1 = nI 4
  · subst h4
    refine ⟨M 2 3, M, ?_, ?_, hI⟩
    · rw [if_pos rfl]; unfold f_X5_years; rw [qrd_nI (by omega) (by decide)]; rfl
    · rw [if_pos rfl, qrd_nI (by omega) (by decide), Option.bind_some, hP.1.2.2.2.1]
  simp only [if_neg h4]
  by_cases h5 : a1 = nI 5
  · subst h5
    refine ⟨nI (bs (fun c => decide (M 2 (12 + c) = nI 0)) C), M, ?_, ?_, hI⟩
    · rw [if_pos rfl, that_eq hB, Option.bind_some]
    · rw [if_pos rfl, show nI 5 - nI 5 = nI 0 by decide, those_eq hP hB, Option.bind_some]
  simp only [if_neg h5]
  by_cases h6 : a1 = nI 6
  · subst h6
    refine ⟨nI (bs (fun c => decide (M 2 (12 + c) = nI 1)) C), M, ?_, ?_, hI⟩
    · rw [if_pos rfl, that_eq hB, Option.bind_some]
    · rw [if_pos rfl, show nI 6 - nI 5 = nI 1 by decide, those_eq hP hB, Option.bind_some]
  simp only [if_neg h6]
  by_cases h7 : a1 = nI 7
  · subst h7
    refine ⟨nI (bs (fun c => decide (M 2 (12 + c) = nI 2)) C), M, ?_, ?_, hI⟩
    · rw [if_pos rfl, that_eq hB, Option.bind_some]
    · rw [if_pos rfl, show nI 7 - nI 5 = nI 2 by decide, those_eq hP hB, Option.bind_some]
  simp only [if_neg h7]
  by_cases h8 : a1 = nI 8
  · subst h8
    refine ⟨M 2 4, M, ?_, ?_, hI⟩
    · rw [if_pos rfl]; unfold f_X5_stood; rw [qrd_nI (by omega) (by decide)]; rfl
    · rw [if_pos rfl, qrd_nI (by omega) (by decide), Option.bind_some, hP.1.2.2.2.2.1]
  simp only [if_neg h8]
  by_cases h9 : a1 = nI 9
  · subst h9
    refine ⟨M 2 5, M, ?_, ?_, hI⟩
    · rw [if_pos rfl]; unfold f_X5_boxed; rw [qrd_nI (by omega) (by decide)]; rfl
    · rw [if_pos rfl, qrd_nI (by omega) (by decide), Option.bind_some, hP.1.2.2.2.2.2]
  simp only [if_neg h9]
  by_cases h10 : a1 = nI 10
  · subst h10
    refine ⟨nI (bs (fun c => decide (M 2 (12 + c) = 0) && !anyC (M 2) O c) C), M, ?_, ?_, hI⟩
    · rw [if_pos rfl, plain_eq hB, Option.bind_some]
    · rw [if_pos rfl, plainM_eq hP hB, Option.bind_some]
  simp only [if_neg h10]
  by_cases h11 : a1 = nI 11
  · subst h11
    refine ⟨cI6 (IT (fmS (M 2)) C 0 6), M, ?_, ?_, hI⟩
    · rw [if_pos rfl, firmest_eq hB, Option.bind_some]
    · rw [if_pos rfl, firmestM_eq hP hB, Option.bind_some]
  simp only [if_neg h11]
  by_cases h12 : a1 = nI 12
  · subst h12
    obtain ⟨M1, q1, q2⟩ := fewC_eq hB
    have e : ∀ a, a ≠ 19 → M1 a = M a := q2
    refine ⟨bS (IT (fwS (M 2) C O) (2 ^ O) 0 64), M1, ?_, ?_, l, C, O, ?_⟩
    · rw [if_pos rfl, q1, Option.bind_some]
    · rw [if_pos rfl, fewM_eq (r := M 2) (by rw [e 26 (by decide), e 28 (by decide)]; exact hP) hB, Option.bind_some]
    · rw [e 2 (by decide), e 26 (by decide), e 28 (by decide), e 3 (by decide), e 25 (by decide), e 6 (by decide), e 33 (by decide), e 12 (by decide), e 20 (by decide), e 21 (by decide), e 34 (by decide), e 22 (by decide), e 23 (by decide), e 24 (by decide), e 35 (by decide), e 7 (by decide), e 8 (by decide), e 30 (by decide), e 9 (by decide), e 10 (by decide), e 11 (by decide), e 31 (by decide), e 32 (by decide), e 17 (by decide)]
      exact ⟨hP, hB, hT, hF, hS, hY, hK, hU, hM, hR⟩
  simp only [if_neg h12]
  by_cases h13 : a1 = nI 13
  · subst h13
    obtain ⟨n, -, t1, t2, -⟩ := hY
    refine ⟨M 20 0, M, ?_, ?_, hI⟩
    · rw [if_pos rfl]
    · rw [if_pos rfl, t1, t2]
  simp only [if_neg h13]
  by_cases h14 : a1 = nI 14
  · subst h14
    obtain ⟨n, -, t1, t2, -⟩ := hK
    refine ⟨M 22 0, M, ?_, ?_, hI⟩
    · rw [if_pos rfl]
    · rw [if_pos rfl, t1, t2]
  simp only [if_neg h14]
  by_cases h15 : a1 = nI 15
  · subst h15
    obtain ⟨n, x, -, -, t1, -, t2, -⟩ := hU
    refine ⟨M 7 0, M, ?_, ?_, hI⟩
    · rw [if_pos rfl]
    · rw [if_pos rfl, t1, t2]
  simp only [if_neg h15]
  exact ⟨_, M, rfl, rfl, hI⟩
