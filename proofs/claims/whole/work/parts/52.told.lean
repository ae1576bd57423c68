def sfS (r : Nat → Int32) (c : Nat) (set : Int32) (o : Nat) (acc : Int32) : Int32 := if ((set >>> (nI o &&& 31)) &&& nI 1) = nI 1 then (if Cnt r o c then qmax acc (Str0 r o c) else acc) else acc
theorem greater_eq (a b : Int32) (M : qM) : f_X12_greater a b M = some (qmax a b) := by
  unfold f_X12_greater qmax
  by_cases h : a < b
  · rw [if_pos h]
    rw [if_pos (by rw [fa_le]; rw [fa_lt] at h; omega)]
  · rw [if_neg h]
    by_cases h2 : a ≤ b
    · rw [if_pos h2]
      congr 1
      rw [fa_eq]; rw [fa_le] at h2; rw [fa_lt] at h; omega
    · rw [if_neg h2]
theorem safe_eq {M : qM} {c l C O : Nat} {set : Int32} (hB : BD (M 2) l C O) (hc : c < 6) : f_X10_safeAnswer (nI c) set M = some (IT (sfS (M 2) c set) O 0 (nI 0)) := by
  have hO := hBo hB
  unfold f_X10_safeAnswer
  have key := (up1 (F := fun n (a : Int32) i => f_X10_safeAnswer_L5 (nI c) set M n a i) (N := O) (step := sfS (M 2) c set) (fin := fun a => (a, nI O)) (fun _ _ => True) (fun n a _ => ?_) (fun n i a hi _ => ⟨?_, trivial⟩) O 0 qF (nI 0) (by omega) (by rw [qF_val]; omega) trivial).1
  · rw [key]; rfl
  · show f_X10_safeAnswer_L5 _ _ _ _ _ _ = _
    rw [f_X10_safeAnswer_L5]
    unfold f_X5_objectors
    rw [qrd_nI (by omega) (by decide), hO.1]
    simp only [Option.bind_some]
    rw [if_pos (nI_le (Nat.le_refl _) (by omega))]
  · show f_X10_safeAnswer_L5 _ _ _ _ _ _ = f_X10_safeAnswer_L5 _ _ _ _ _ _
    rw [f_X10_safeAnswer_L5]
    unfold f_X5_objectors sfS
    rw [qrd_nI (by omega) (by decide), hO.1]
    simp only [Option.bind_some]
    rw [if_neg (nI_ge hi (by omega)), objects_eq hB (by omega) hc, strengthIn_eq (by omega) hc, StrY_0 hB (by omega), nI_add]
    simp only [Option.bind_some]
    by_cases h1 : ((set >>> (nI i &&& 31)) &&& nI 1) = nI 1
    · rw [if_pos h1, if_pos h1]
      split <;> rfl
    · rw [if_neg h1, if_neg h1]
theorem safeM_eq {M : qM} {r : Nat → Int32} {c l C O : Nat} {set : Int32} (hP : RP r (M 26) (M 28)) (hB : BD r l C O) (hc : c < 6) : (f_X12_holds_L36 (nI c) set M qF (nI 0) (nI 0)).bind (fun e28 => some (e28.1)) = some (IT (sfS r c set) O 0 (nI 0)) := by
  have hO : M 26 2 = nI O := hP.1.2.2.1.symm.trans hB.2.2.1.1
  have hO2 := hB.2.2.1.2
  have key := (up1 (F := fun n (a : Int32) i => f_X12_holds_L36 (nI c) set M n a i) (N := O) (step := sfS r c set) (fin := fun a => (a, nI O)) (fun _ _ => True) (fun n a _ => ?_) (fun n i a hi _ => ⟨?_, trivial⟩) O 0 qF (nI 0) (by omega) (by rw [qF_val]; omega) trivial).1
  · rw [key]; rfl
  · show f_X12_holds_L36 _ _ _ _ _ _ = _
    rw [f_X12_holds_L36, qrd_nI (by omega) (by decide), hO]
    simp only [Option.bind_some]
    rw [if_pos (nI_le (Nat.le_refl _) (by omega))]
  · show f_X12_holds_L36 _ _ _ _ _ _ = f_X12_holds_L36 _ _ _ _ _ _
    rw [f_X12_holds_L36, qrd_nI (by omega) (by decide), hO]
    unfold sfS
    simp only [Option.bind_some]
    rw [if_neg (nI_ge hi (by omega)), counts28_eq hP (by omega) hc, strengthOn28_eq hP (by omega) hc, nI_add]
    simp only [Option.bind_some, has_eq, greater_eq, decide_eq_true_iff]
    by_cases h1 : ((set >>> (nI i &&& 31)) &&& nI 1) = nI 1
    · rw [if_pos h1, if_pos h1]
      split <;> rfl
    · rw [if_neg h1, if_neg h1]
theorem isSetOf_eq {O : Nat} (hO : O ≤ 6) (v : Int32) (M : qM) : f_X11_isSetOf v (nI O) M = some (inb v (nI 0) (nI (2 ^ O) - nI 1)) := by
  have hp : 2 ^ O ≤ 64 := Nat.pow_le_pow_right (n := 2) (by omega) hO
  unfold f_X11_isSetOf
  rw [one_shl (by omega)]
  have e : inb v (nI 0) (nI (2 ^ O) - nI 1) = true ↔ 0 ≤ v.toInt ∧ v.toInt < (2 ^ O : Nat) := by
    rw [inb_iff, pk_sub_toInt (by omega) (by omega), nI_toInt (by omega)]
    omega
  by_cases h1 : v < 0
  · rw [if_pos h1]
    have h2 : v.toInt < 0 := (fa_lt _ _).mp h1
    cases hb : inb v (nI 0) (nI (2 ^ O) - nI 1) with
    | false => rfl
    | true => have := e.mp hb; omega
  · rw [if_neg h1]
    have h2 : ¬ v.toInt < 0 := fun q => h1 ((fa_lt _ _).mpr q)
    by_cases h3 : nI (2 ^ O) ≤ v
    · rw [if_pos h3]
      rw [fa_le, nI_toInt (by omega)] at h3
      cases hb : inb v (nI 0) (nI (2 ^ O) - nI 1) with
      | false => rfl
      | true => have := e.mp hb; omega
    · rw [if_neg h3]
      rw [fa_le, nI_toInt (by omega)] at h3
      rw [e.mpr (by omega)]
theorem op_holds {M : qM} {J : qJ} (hI : Inv M J) (a1 : Int32) (a2 : Int32) : ∃ r, f_X11_holds a1 a2 M = some r ∧ f_X12_holds a1 a2 M = some r ∧ Inv M J := by
  obtain ⟨l, C, O, hP, hB, -⟩ := id hI
  have hc1 := hBc hB
  have ho1 := hBo hB
  unfold f_X11_holds f_X12_holds f_X5_objectors
  rw [qrd_nI (show 2 < 172 by omega) (by decide), qrd_nI (show 2 < 57 by omega) (by decide), ho1.1, h26o hP hB]
  simp only [hasCouple_eq hc1.1 hc1.2, isCouple_eq (h26c hP hB), Option.bind_some, isSetOf_eq ho1.2, one_shl (show O < 31 by omega), in_lv _ _ _ (show 0 < 2 ^ 31 by decide)]
  cases h1 : inb a1 (nI 0) (nI C - nI 1) with
  | false => exact ⟨_, rfl, rfl, hI⟩
  | true =>
  cases h2 : inb a2 (nI 0) (nI (2 ^ O) - nI 1) with
  | false => exact ⟨_, rfl, rfl, hI⟩
  | true =>
  obtain ⟨c, hc, rfl⟩ := inb_sub h1 (by omega)
  simp only [if_true, safe_eq hB (show c < 6 by omega), safeM_eq hP hB (show c < 6 by omega)]
  exact ⟨_, rfl, rfl, hI⟩
theorem op_couple {M : qM} {J : qJ} (hI : Inv M J) (a1 : Int32) (a2 : Int32) : ∃ r, f_X11_couple a1 a2 M = some r ∧ f_X12_couple a1 a2 M = some r ∧ Inv M J := by
  obtain ⟨l, C, O, hP, hB, -⟩ := id hI
  have hc1 := hBc hB
  unfold f_X11_couple f_X12_couple
  simp only [hasCouple_eq hc1.1 hc1.2, isCouple_eq (h26c hP hB), isOutside_eq, Option.bind_some]
  cases h1 : inb a1 (nI 0) (nI C - nI 1) with
  | false => exact ⟨_, rfl, rfl, hI⟩
  | true =>
  obtain ⟨c, hc, rfl⟩ := inb_sub h1 (by omega)
  simp only [if_true]
  obtain ⟨s0, s1, s2⟩ := hP.2.1 c (by omega)
  cases h2 : inb a2 (nI 0) (nI 4) with
  | true =>
    obtain ⟨k, -, hk, rfl⟩ := inb_nI h2 (by decide) (by decide)
    simp only [Bool.not_true, Bool.false_eq_true, if_false, if_true, f_X5_weight, pk_mul, nI_add, qrd_nI (show 24 + c * 5 + k < 172 by omega) (show 172 < 2 ^ 31 by decide), qrd_nI (show 19 + 5 * c + k < 163 by omega) (show 163 < 2 ^ 31 by decide), Option.bind_some]
    have hw := hP.2.2.1 (c * 5 + k) (by omega)
    rw [show 24 + (c * 5 + k) = 24 + c * 5 + k by omega, show 19 + (c * 5 + k) = 19 + 5 * c + k by omega] at hw
    refine ⟨M 2 (24 + c * 5 + k), rfl, ?_, hI⟩
    rw [hw]
    have hk5 : k = 0 ∨ k = 1 ∨ k = 2 ∨ k = 3 ∨ k = 4 := by omega
    rcases hk5 with rfl | rfl | rfl | rfl | rfl <;> rfl
  | false =>
    have nn : ∀ k, k ≤ 4 → ¬ a2 = nI k := fun k hk e => by
      rw [e, inb_in (by omega) hk (by decide)] at h2; cases h2
    simp only [Bool.not_false, if_true, if_neg (nn 0 (by omega)), if_neg (nn 1 (by omega)), if_neg (nn 2 (by omega)), if_neg (nn 3 (by omega)), if_neg (nn 4 (by omega)), f_X5_answer, f_X5_fate, f_X5_strong, nI_add, qrd_nI (show 6 + c < 172 by omega) (show 172 < 2 ^ 31 by decide), qrd_nI (show 12 + c < 172 by omega) (show 172 < 2 ^ 31 by decide), qrd_nI (show 18 + c < 172 by omega) (show 172 < 2 ^ 31 by decide), qrd_nI (show 1 + c < 163 by omega) (show 163 < 2 ^ 31 by decide), qrd_nI (show 7 + c < 163 by omega) (show 163 < 2 ^ 31 by decide), qrd_nI (show 13 + c < 163 by omega) (show 163 < 2 ^ 31 by decide), can_eq hB (show c < 6 by omega), canM_eq hP hB (show c < 6 by omega), weakest_eq hB (show c < 6 by omega), weakestM_eq hP hB (show c < 6 by omega), Option.bind_some, ← s0, ← s1, s2]
    by_cases h5 : a2 = nI 5
    · simp only [if_pos h5]; exact ⟨_, rfl, rfl, hI⟩
    by_cases h6 : a2 = nI 6
    · simp only [if_neg h5, if_pos h6]; exact ⟨_, rfl, rfl, hI⟩
    by_cases h7 : a2 = nI 7
    · simp only [if_neg h5, if_neg h6, if_pos h7]
      by_cases hw : M 2 (12 + c) = nI 1
      · simp only [if_pos hw]; exact ⟨_, rfl, rfl, hI⟩
      · simp only [if_neg hw]; exact ⟨_, rfl, rfl, hI⟩
    by_cases h8 : a2 = nI 8
    · simp only [if_neg h5, if_neg h6, if_neg h7, if_pos h8]; exact ⟨_, rfl, rfl, hI⟩
    by_cases h9 : a2 = nI 9
    · simp only [if_neg h5, if_neg h6, if_neg h7, if_neg h8, if_pos h9]; exact ⟨_, rfl, rfl, hI⟩
    simp only [if_neg h5, if_neg h6, if_neg h7, if_neg h8, if_neg h9]
    exact ⟨_, rfl, rfl, hI⟩
