theorem op_against {M : qM} {J : qJ} (hI : Inv M J) (a1 : Int32) (a2 : Int32) (a3 : Int32) : ∃ r, f_X11_against a1 a2 a3 M = some r ∧ f_X12_against a1 a2 a3 M = some r ∧ Inv M J := by
  obtain ⟨l, C, O, hP, hB, -⟩ := id hI
  have hc1 := hBc hB
  have ho1 := hBo hB
  unfold f_X11_against f_X12_against
  simp only [hasCouple_eq hc1.1 hc1.2, isCouple_eq (h26c hP hB), hasObjector_eq ho1.1 ho1.2, isObjector_eq (h26o hP hB), in_ll _ _ (show 0 < 2 ^ 31 by decide) (show 1 < 2 ^ 31 by decide), Option.bind_some]
  cases h1 : inb a1 (nI 0) (nI O - nI 1) with
  | false => exact ⟨_, rfl, rfl, hI⟩
  | true =>
  cases h2 : inb a2 (nI 0) (nI C - nI 1) with
  | false => exact ⟨_, rfl, rfl, hI⟩
  | true =>
  obtain ⟨o, ho, rfl⟩ := inb_sub h1 (by omega)
  obtain ⟨c, hc, rfl⟩ := inb_sub h2 (by omega)
  simp only [if_true, strengthIn_eq (M := M) (show o < 6 by omega) (show c < 6 by omega), reasonOf_eq (M := M) (show o < 6 by omega) (show c < 6 by omega), strengthOn28_eq hP (show o < 6 by omega) (show c < 6 by omega), reasonOn28_eq hP (show o < 6 by omega) (show c < 6 by omega), Option.bind_some, StrY_0 hB (show o < 6 by omega)]
  cases h3 : inb a3 (nI 0) (nI 1) with
  | false =>
    have n0 : ¬ a3 = nI 0 := fun e => by rw [e] at h3; exact absurd h3 (by decide)
    have n1 : ¬ a3 = nI 1 := fun e => by rw [e] at h3; exact absurd h3 (by decide)
    rw [if_neg n0, if_neg n1]
    exact ⟨_, rfl, rfl, hI⟩
  | true =>
    obtain ⟨k, -, hk, rfl⟩ := inb_nI h3 (by decide) (by decide)
    have hk2 : k = 0 ∨ k = 1 := by omega
    rcases hk2 with rfl | rfl
    · exact ⟨_, rfl, rfl, hI⟩
    · exact ⟨_, rfl, rfl, hI⟩
-- sets, as numbers
def bs (p : Nat → Bool) : Nat → Nat
  | 0 => 0
  | n + 1 => bs p n ||| (if p n then 2 ^ n else 0)
theorem bs_bit (p : Nat → Bool) : ∀ n k, (bs p n).testBit k = (decide (k < n) && p k)
  | 0, k => by simp [bs]
  | n + 1, k => by
    rw [bs, Nat.testBit_or, bs_bit p n k]
    by_cases hp : p n
    · rw [if_pos hp, Nat.testBit_two_pow]
      by_cases hk : n = k
      · subst hk; simp [hp]
      · have : decide (k < n + 1) = decide (k < n) := by simp; omega
        simp [hk, this]
    · rw [if_neg hp, Nat.zero_testBit]
      by_cases hk : n = k
      · subst hk; simp [hp]
      · have : decide (k < n + 1) = decide (k < n) := by simp; omega
        simp [this]
theorem bs_lt (p : Nat → Bool) : ∀ n, bs p n < 2 ^ n
  | 0 => by simp [bs]
  | n + 1 => by
    rw [bs]
    refine Nat.or_lt_two_pow (Nat.lt_of_lt_of_le (bs_lt p n) (Nat.pow_le_pow_right (by omega) (by omega))) ?_
    split
    · exact Nat.pow_lt_pow_right (by omega) (by omega)
    · exact Nat.two_pow_pos _
theorem bs_64 (p : Nat → Bool) {n : Nat} (h : n ≤ 6) : bs p n < 64 := Nat.lt_of_lt_of_le (bs_lt p n) (Nat.pow_le_pow_right (n := 2) (by omega) h)
theorem bs_cg {p q : Nat → Bool} : ∀ {n : Nat}, (∀ k, k < n → p k = q k) → bs p n = bs q n
  | 0, _ => rfl
  | n + 1, h => by rw [bs, bs, bs_cg (fun k hk => h k (by omega)), h n (by omega)]
theorem orF (p : Nat → Bool) : ∀ (m i : Nat), i + m ≤ 30 → IT (fun c acc => if p c then acc ||| (nI 1 <<< (nI c &&& 31)) else acc) m i (nI (bs p i)) = nI (bs p (i + m))
  | 0, i, h => rfl
  | m + 1, i, h => by
    show IT _ m (i + 1) (if p i then nI (bs p i) ||| (nI 1 <<< (nI i &&& 31)) else nI (bs p i)) = _
    have e : (if p i then nI (bs p i) ||| (nI 1 <<< (nI i &&& 31)) else nI (bs p i)) = nI (bs p (i + 1)) := by
      rw [bs, one_shl (by omega), fa_or]
      by_cases hp : p i
      · rw [if_pos hp, if_pos hp]
      · rw [if_neg hp, if_neg hp, Nat.or_zero]
    rw [e, orF p m (i + 1) (by omega)]
    congr 2; omega
theorem or0 (x : Int32) : x ||| nI 0 = x := by
  show x ||| 0 = x
  simp
theorem can_eq {M : qM} {c l C O : Nat} (hB : BD (M 2) l C O) (hc : c < 6) : f_X10_can (nI c) M = some (nI (bs (fun o => Wed (M 2) o c 0) O)) := by
  have hO := hBo hB
  unfold f_X10_can
  have key := (up1 (F := fun n (a : Int32) i => f_X10_can_L4 (nI c) M n a i) (N := O) (step := fun o acc => if Wed (M 2) o c 0 then acc ||| (nI 1 <<< (nI o &&& 31)) else acc) (fin := fun a => (a, nI O)) (fun _ _ => True) (fun n a _ => ?_) (fun n i a hi _ => ⟨?_, trivial⟩) O 0 qF (nI 0) (by omega) (by rw [qF_val]; omega) trivial).1
  · rw [key]
    have := orF (fun o => Wed (M 2) o c 0) O 0 (by omega)
    rw [show nI (bs (fun o => Wed (M 2) o c 0) 0) = nI 0 from rfl] at this
    simp only [Option.bind_some, this, Nat.zero_add]
  · show f_X10_can_L4 _ _ _ _ _ = _
    rw [f_X10_can_L4]
    unfold f_X5_objectors
    rw [qrd_nI (by omega) (by decide), hO.1]
    simp only [Option.bind_some]
    rw [if_pos (nI_le (Nat.le_refl _) (by omega))]
  · show f_X10_can_L4 _ _ _ _ _ = f_X10_can_L4 _ _ _ _ _
    rw [f_X10_can_L4]
    unfold f_X5_objectors
    rw [qrd_nI (by omega) (by decide), hO.1]
    simp only [Option.bind_some]
    rw [if_neg (nI_ge hi (by omega)), wedIn_eq (by omega) hc, nI_add]
    simp only [Option.bind_some]
    split <;> rfl
theorem canM_eq {M : qM} {r : Nat → Int32} {c l C O : Nat} (hP : RP r (M 26) (M 28)) (hB : BD r l C O) (hc : c < 6) : f_X12_can (nI c) M = some (nI (bs (fun o => Wed r o c 0) O)) := by
  have hO : M 26 2 = nI O := hP.1.2.2.1.symm.trans hB.2.2.1.1
  have hO2 := hB.2.2.1.2
  unfold f_X12_can
  have key := (up1 (F := fun n (a : Int32) i => f_X12_can_L4 (nI c) M n a i) (N := O) (step := fun o acc => if Wed r o c 0 then acc ||| (nI 1 <<< (nI o &&& 31)) else acc) (fin := fun a => (a, nI O)) (fun _ _ => True) (fun n a _ => ?_) (fun n i a hi _ => ⟨?_, trivial⟩) O 0 qF (nI 0) (by omega) (by rw [qF_val]; omega) trivial).1
  · rw [key]
    have := orF (fun o => Wed r o c 0) O 0 (by omega)
    rw [show nI (bs (fun o => Wed r o c 0) 0) = nI 0 from rfl] at this
    simp only [Option.bind_some, this, Nat.zero_add]
  · show f_X12_can_L4 _ _ _ _ _ = _
    rw [f_X12_can_L4, qrd_nI (by omega) (by decide), hO]
    simp only [Option.bind_some]
    rw [if_pos (nI_le (Nat.le_refl _) (by omega))]
  · show f_X12_can_L4 _ _ _ _ _ = f_X12_can_L4 _ _ _ _ _
    rw [f_X12_can_L4, qrd_nI (by omega) (by decide), hO]
    simp only [Option.bind_some]
    rw [if_neg (nI_ge hi (by omega)), nI_add, nI_add, qrd_nI (by omega) (by decide), weds28_eq hP (by omega) hc, ← (hP.2.1 c hc).2.1, Wed_0 hB (by omega) hc]
    simp only [Option.bind_some, or0]
    by_cases h1 : r (12 + c) = 0
    · rw [if_pos h1]
      simp only [h1, decide_true, Bool.true_and]
      split <;> rfl
    · rw [if_neg h1]
      simp [h1]
theorem that_eq {M : qM} {x : Int32} {l C O : Nat} (hB : BD (M 2) l C O) : f_X5_couplesThat x M = some (nI (bs (fun c => decide (M 2 (12 + c) = x)) C)) := by
  have hC := hBc hB
  unfold f_X5_couplesThat
  have key := (up1 (F := fun n (a : Int32) i => f_X5_couplesThat_L4 x M n a i) (N := C) (step := fun c acc => if decide (M 2 (12 + c) = x) then acc ||| (nI 1 <<< (nI c &&& 31)) else acc) (fin := fun a => (a, nI C)) (fun _ _ => True) (fun n a _ => ?_) (fun n i a hi _ => ⟨?_, trivial⟩) C 0 qF (nI 0) (by omega) (by rw [qF_val]; omega) trivial).1
  · rw [key]
    have := orF (fun c => decide (M 2 (12 + c) = x)) C 0 (by omega)
    rw [show nI (bs (fun c => decide (M 2 (12 + c) = x)) 0) = nI 0 from rfl] at this
    simp only [Option.bind_some, this, Nat.zero_add]
  · show f_X5_couplesThat_L4 _ _ _ _ _ = _
    rw [f_X5_couplesThat_L4]
    unfold f_X5_couples
    rw [qrd_nI (by omega) (by decide), hC.1]
    simp only [Option.bind_some]
    rw [if_pos (nI_le (Nat.le_refl _) (by omega))]
  · show f_X5_couplesThat_L4 _ _ _ _ _ = f_X5_couplesThat_L4 _ _ _ _ _
    rw [f_X5_couplesThat_L4]
    unfold f_X5_couples f_X5_fate
    rw [qrd_nI (by omega) (by decide), hC.1]
    simp only [Option.bind_some]
    rw [if_neg (nI_ge hi (by omega)), nI_add, nI_add, qrd_nI (by omega) (by decide)]
    simp only [Option.bind_some, decide_eq_true_iff]
    split <;> rfl
theorem those_eq {M : qM} {r : Nat → Int32} {x : Int32} {l C O : Nat} (hP : RP r (M 26) (M 28)) (hB : BD r l C O) : f_X12_those x M = some (nI (bs (fun c => decide (r (12 + c) = x)) C)) := by
  have hC : M 26 1 = nI C := hP.1.2.1.symm.trans hB.2.1.1
  have hC2 := hB.2.1.2
  unfold f_X12_those
  have key := (up1 (F := fun n (a : Int32) i => f_X12_those_L4 x M n a i) (N := C) (step := fun c acc => if decide (r (12 + c) = x) then acc ||| (nI 1 <<< (nI c &&& 31)) else acc) (fin := fun a => (a, nI C)) (fun _ _ => True) (fun n a _ => ?_) (fun n i a hi _ => ⟨?_, trivial⟩) C 0 qF (nI 0) (by omega) (by rw [qF_val]; omega) trivial).1
  · rw [key]
    have := orF (fun c => decide (r (12 + c) = x)) C 0 (by omega)
    rw [show nI (bs (fun c => decide (r (12 + c) = x)) 0) = nI 0 from rfl] at this
    simp only [Option.bind_some, this, Nat.zero_add]
  · show f_X12_those_L4 _ _ _ _ _ = _
    rw [f_X12_those_L4, qrd_nI (by omega) (by decide), hC]
    simp only [Option.bind_some]
    rw [if_pos (nI_le (Nat.le_refl _) (by omega))]
  · show f_X12_those_L4 _ _ _ _ _ = f_X12_those_L4 _ _ _ _ _
    rw [f_X12_those_L4, qrd_nI (by omega) (by decide), hC]
    simp only [Option.bind_some]
    rw [if_neg (nI_ge hi (by omega)), nI_add, nI_add, qrd_nI (by omega) (by decide), ← (hP.2.1 i (by omega)).2.1]
    simp only [Option.bind_some, decide_eq_true_iff, or0]
    split <;> rfl
-- best of a row, 6 for none
def cI6 (b : Nat) : Int32 := if b = 6 then -1 else nI b
theorem cI6_lt {b : Nat} (h : b < 6) : cI6 b = nI b := if_neg (by omega)
def wkS (r : Nat → Int32) (c o b : Nat) : Nat := if b = 6 then o else if Str0 r b c ≤ Str0 r o c then b else o
theorem wkS_le (r : Nat → Int32) (c o b : Nat) (h : b = 6 ∨ b < o) : wkS r c o b = 6 ∨ wkS r c o b < o + 1 := by
  unfold wkS
  split
  · omega
  · split <;> omega
theorem weakest_eq {M : qM} {c l C O : Nat} (hB : BD (M 2) l C O) (hc : c < 6) : f_X10_weakest (nI c) M = some (cI6 (IT (wkS (M 2) c) O 0 6)) := by
  have hO := hBo hB
  unfold f_X10_weakest
  have key := (up1 (F := fun n (b : Nat) i => f_X10_weakest_L4 (nI c) M n (cI6 b) i) (N := O) (step := wkS (M 2) c) (fin := fun b => (cI6 b, nI O)) (fun k b => b = 6 ∨ b < k) (fun n b _ => ?_) (fun n i b hi hb => ⟨?_, wkS_le _ _ _ _ hb⟩) O 0 qF 6 (by omega) (by rw [qF_val]; omega) (Or.inl rfl)).1
  · rw [show (-1 : Int32) = cI6 6 from rfl, key]; rfl
  · show f_X10_weakest_L4 _ _ _ _ _ = _
    rw [f_X10_weakest_L4]
    unfold f_X5_objectors
    rw [qrd_nI (by omega) (by decide), hO.1]
    simp only [Option.bind_some]
    rw [if_pos (nI_le (Nat.le_refl _) (by omega))]
  · show f_X10_weakest_L4 _ _ _ _ _ = f_X10_weakest_L4 _ _ _ _ _
    rw [f_X10_weakest_L4]
    unfold f_X5_objectors wkS
    rw [qrd_nI (by omega) (by decide), hO.1]
    simp only [Option.bind_some]
    rw [if_neg (nI_ge hi (by omega)), nI_add]
    by_cases h6 : b = 6
    · rw [if_pos h6, h6, if_pos (show cI6 6 = -1 from rfl), cI6_lt (by omega)]
    · have hb6 : b < 6 := by omega
      rw [if_neg h6, cI6_lt hb6, if_neg (nI_m1 (by omega)), strengthIn_eq (by omega) hc, strengthIn_eq hb6 hc, StrY_0 hB (by omega), StrY_0 hB hb6]
      simp only [Option.bind_some]
      split
      · rw [cI6_lt hb6]
      · rw [cI6_lt (by omega)]
theorem weakestM_eq {M : qM} {r : Nat → Int32} {c l C O : Nat} (hP : RP r (M 26) (M 28)) (hB : BD r l C O) (hc : c < 6) : f_X12_weakest (nI c) M = some (cI6 (IT (wkS r c) O 0 6)) := by
  have hO : M 26 2 = nI O := hP.1.2.2.1.symm.trans hB.2.2.1.1
  have hO2 := hB.2.2.1.2
  unfold f_X12_weakest
  have key := (up1 (F := fun n (b : Nat) i => f_X12_weakest_L4 (nI c) M n (cI6 b) i) (N := O) (step := wkS r c) (fin := fun b => (cI6 b, nI O)) (fun k b => b = 6 ∨ b < k) (fun n b _ => ?_) (fun n i b hi hb => ⟨?_, wkS_le _ _ _ _ hb⟩) O 0 qF 6 (by omega) (by rw [qF_val]; omega) (Or.inl rfl)).1
  · rw [show (-1 : Int32) = cI6 6 from rfl, key]; rfl
  · show f_X12_weakest_L4 _ _ _ _ _ = _
    rw [f_X12_weakest_L4, qrd_nI (by omega) (by decide), hO]
    simp only [Option.bind_some]
    rw [if_pos (nI_le (Nat.le_refl _) (by omega))]
  · show f_X12_weakest_L4 _ _ _ _ _ = f_X12_weakest_L4 _ _ _ _ _
    rw [f_X12_weakest_L4, qrd_nI (by omega) (by decide), hO]
    unfold wkS
    simp only [Option.bind_some]
    rw [if_neg (nI_ge hi (by omega)), nI_add]
    by_cases h6 : b = 6
    · rw [if_pos h6, h6, if_pos (show cI6 6 = -1 from rfl), cI6_lt (by omega)]
    · have hb6 : b < 6 := by omega
      rw [if_neg h6, cI6_lt hb6, if_neg (nI_m1 (by omega)), strengthOn28_eq hP (by omega) hc, strengthOn28_eq hP hb6 hc]
      simp only [Option.bind_some]
      split
      · rw [cI6_lt hb6]
      · rw [cI6_lt (by omega)]
def fmS (r : Nat → Int32) (c b : Nat) : Nat := if r (12 + c) = nI 1 then (if b = 6 then c else if r (18 + c) ≤ r (18 + b) then b else c) else b
theorem fmS_le (r : Nat → Int32) (c b : Nat) (h : b = 6 ∨ (b < c ∧ r (12 + b) = nI 1)) : fmS r c b = 6 ∨ (fmS r c b < c + 1 ∧ r (12 + fmS r c b) = nI 1) := by
  unfold fmS
  by_cases h1 : r (12 + c) = nI 1
  · rw [if_pos h1]
    split
    · exact Or.inr ⟨by omega, h1⟩
    · split
      · rcases h with h | h
        · exact Or.inl h
        · exact Or.inr ⟨by omega, h.2⟩
      · exact Or.inr ⟨by omega, h1⟩
  · rw [if_neg h1]
    rcases h with h | h
    · exact Or.inl h
    · exact Or.inr ⟨by omega, h.2⟩
theorem firmest_eq {M : qM} {l C O : Nat} (hB : BD (M 2) l C O) : f_X10_firmest M = some (cI6 (IT (fmS (M 2)) C 0 6)) := by
  have hC := hBc hB
  unfold f_X10_firmest
  have key := (up1 (F := fun n (b : Nat) i => f_X10_firmest_L4 M n (cI6 b) i) (N := C) (step := fmS (M 2)) (fin := fun b => (cI6 b, nI C)) (fun k b => b = 6 ∨ (b < k ∧ M 2 (12 + b) = nI 1)) (fun n b _ => ?_) (fun n i b hi hb => ⟨?_, fmS_le _ _ _ hb⟩) C 0 qF 6 (by omega) (by rw [qF_val]; omega) (Or.inl rfl)).1
  · rw [show (-1 : Int32) = cI6 6 from rfl, key]; rfl
  · show f_X10_firmest_L4 _ _ _ _ = _
    rw [f_X10_firmest_L4]
    unfold f_X5_couples
    rw [qrd_nI (by omega) (by decide), hC.1]
    simp only [Option.bind_some]
    rw [if_pos (nI_le (Nat.le_refl _) (by omega))]
  · show f_X10_firmest_L4 _ _ _ _ = f_X10_firmest_L4 _ _ _ _
    rw [f_X10_firmest_L4]
    unfold f_X5_couples f_X5_fate f_X5_strong fmS
    rw [qrd_nI (by omega) (by decide), hC.1]
    simp only [Option.bind_some]
    rw [if_neg (nI_ge hi (by omega)), nI_add, nI_add, nI_add, qrd_nI (by omega) (by decide), qrd_nI (by omega) (by decide)]
    simp only [Option.bind_some]
    by_cases h1 : M 2 (12 + i) = nI 1
    · rw [if_pos h1, if_pos h1]
      by_cases h6 : b = 6
      · rw [if_pos h6, h6, if_pos (show cI6 6 = -1 from rfl), cI6_lt (by omega)]
      · have hb6 : b < 6 := by omega
        rw [if_neg h6, cI6_lt hb6, if_neg (nI_m1 (by omega)), nI_add, qrd_nI (by omega) (by decide)]
        simp only [Option.bind_some]
        split
        · rw [cI6_lt hb6]
        · rw [cI6_lt (by omega)]
    · rw [if_neg h1, if_neg h1]
theorem firmestM_eq {M : qM} {r : Nat → Int32} {l C O : Nat} (hP : RP r (M 26) (M 28)) (hB : BD r l C O) : f_X12_firmest M = some (cI6 (IT (fmS r) C 0 6)) := by
  have hC : M 26 1 = nI C := hP.1.2.1.symm.trans hB.2.1.1
  have hC2 := hB.2.1.2
  unfold f_X12_firmest
  have key := (up1 (F := fun n (b : Nat) i => f_X12_firmest_L4 M n (cI6 b) i) (N := C) (step := fmS r) (fin := fun b => (cI6 b, nI C)) (fun k b => b = 6 ∨ (b < k ∧ r (12 + b) = nI 1)) (fun n b _ => ?_) (fun n i b hi hb => ⟨?_, fmS_le _ _ _ hb⟩) C 0 qF 6 (by omega) (by rw [qF_val]; omega) (Or.inl rfl)).1
  · rw [show (-1 : Int32) = cI6 6 from rfl, key]; rfl
  · show f_X12_firmest_L4 _ _ _ _ = _
    rw [f_X12_firmest_L4, qrd_nI (by omega) (by decide), hC]
    simp only [Option.bind_some]
    rw [if_pos (nI_le (Nat.le_refl _) (by omega))]
  · show f_X12_firmest_L4 _ _ _ _ = f_X12_firmest_L4 _ _ _ _
    rw [f_X12_firmest_L4, qrd_nI (by omega) (by decide), hC]
    unfold fmS
    simp only [Option.bind_some]
    obtain ⟨-, s1, s2⟩ := hP.2.1 i (by omega)
    rw [if_neg (nI_ge hi (by omega)), nI_add, nI_add, nI_add, qrd_nI (by omega) (by decide), qrd_nI (by omega) (by decide), ← s1, s2]
    simp only [Option.bind_some]
    by_cases h1 : r (12 + i) = nI 1
    · rw [if_pos h1, if_pos h1, if_pos h1]
      by_cases h6 : b = 6
      · rw [if_pos h6, h6, if_pos (show cI6 6 = -1 from rfl), cI6_lt (by omega)]
      · have hb6 : b < 6 := by omega
        have hb1 : r (12 + b) = nI 1 := hb.elim (fun e => absurd e h6) (fun e => e.2)
        rw [if_neg h6, cI6_lt hb6, if_neg (nI_m1 (by omega)), nI_add, qrd_nI (by omega) (by decide), (hP.2.1 b hb6).2.2, if_pos hb1]
        simp only [Option.bind_some]
        split
        · rw [cI6_lt hb6]
        · rw [cI6_lt (by omega)]
    · rw [if_neg h1, if_neg h1]
