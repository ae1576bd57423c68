theorem sh_l : ∀ n, n < 32 → ((nI n &&& 31).toBitVec.smod 32).toNat = n := by decide +kernel
theorem bit_nI {t o : Nat} (ht : t < 2 ^ 31) (ho : o < 32) : (nI t >>> (nI o &&& 31)) &&& nI 1 = nI (t / 2 ^ o % 2) := by
  rw [pk_shrN ht _ o (sh_l o ho), pk_andN (Nat.lt_of_le_of_lt (Nat.div_le_self _ _) (by omega)) 1 (by decide)]
theorem one_shl {o : Nat} (ho : o < 31) : nI 1 <<< (nI o &&& 31) = nI (2 ^ o) := by
  rw [pk_shlN _ o (sh_l o (by omega)) (by rw [Nat.one_mul]; exact Nat.pow_lt_pow_right (by omega) (by omega)), Nat.one_mul]
-- dry
theorem dry_same (a b : Int32) (M : qM) : ∀ (n : Nat) (c : Int64) (d : Int32), f_X2_oddsOfDry_L7 a b M n c d = f_X12_dry_L34 a b M n c d
  | 0, _, _ => rfl
  | n + 1, c, d => by
    rw [f_X2_oddsOfDry_L7, f_X12_dry_L34]
    congr 1
    congr 1
    funext v
    exact dry_same a b M n v (d + nI 1)
theorem dry_some {k : Nat} (hk : k ≤ 60) (b : Int32) (M : qM) : ∀ (j n : Nat) (c : Int64), j ≤ k → k - j < n → ∃ v, f_X12_dry_L34 (nI k) b M n c (nI j) = some v
  | j, 0, c, hj, hn => by omega
  | j, n + 1, c, hj, hn => by
    rw [f_X12_dry_L34]
    by_cases h : k ≤ j
    · rw [if_pos (nI_le h (by omega))]; exact ⟨_, rfl⟩
    · rw [if_neg (nI_ge (by omega) (by omega)), show qldiv (c * b.toInt64) (lN 100) = some (c * b.toInt64 / lN 100) from if_neg (by decide), nI_add]
      exact dry_some hk b M (j + 1) n _ (by omega) (by omega)
theorem op_dry {M : qM} {J : qJ} (hI : Inv M J) (a1 : Int32) (a2 : Int32) : ∃ r, f_X11_dry a1 a2 M = some r ∧ f_X12_dry a1 a2 M = some r ∧ Inv M J := by
  unfold f_X11_dry f_X12_dry
  simp only [isOutside_eq, in_ll _ _ (show 0 < 2 ^ 31 by decide) (show 60 < 2 ^ 31 by decide), in_ll _ _ (show 0 < 2 ^ 31 by decide) (show 100 < 2 ^ 31 by decide), Option.bind_some]
  cases h1 : inb a1 (nI 0) (nI 60) with
  | false => exact ⟨_, rfl, rfl, hI⟩
  | true =>
  cases inb a2 (nI 0) (nI 100) with
  | false => exact ⟨_, rfl, rfl, hI⟩
  | true =>
  obtain ⟨k, -, hk, rfl⟩ := inb_nI h1 (by decide) (by decide)
  simp only [Bool.not_true, Bool.false_eq_true, if_false, if_true, f_X2_oddsOfDry, dry_same]
  obtain ⟨v, hv⟩ := dry_some hk a2 M 0 qF (lN 1000000000) (by omega) (by rw [qF_val]; omega)
  rw [hv]
  exact ⟨_, rfl, rfl, hI⟩
theorem op_box {M : qM} {J : qJ} (hI : Inv M J) (a1 : Int32) (a2 : Int32) : ∃ r, f_X11_box a1 a2 M = some r ∧ f_X12_box a1 a2 M = some r ∧ Inv M J := by
  obtain ⟨l, C, O, hP, hB, -⟩ := id hI
  obtain ⟨b, hb, e5⟩ := hB.2.2.2.2.1
  have e62 : M 28 62 = nI b := hP.1.2.2.2.2.2.symm.trans e5
  unfold f_X11_box f_X12_box f_X5_boxed
  simp only [isOutside_eq, in_ll _ _ (show 0 < 2 ^ 31 by decide) (show 4 < 2 ^ 31 by decide), Option.bind_some, qrd_nI (show 62 < 163 by decide) (show 163 < 2 ^ 31 by decide), qrd_nI (show 5 < 172 by decide) (show 172 < 2 ^ 31 by decide), e62, e5, in_lv _ _ _ (show 0 < 2 ^ 31 by decide)]
  cases h2 : inb a2 (nI 0) (nI 4) with
  | false => exact ⟨_, rfl, rfl, hI⟩
  | true =>
  cases h1 : inb a1 (nI 0) (nI b - nI 1) with
  | false => exact ⟨_, rfl, rfl, hI⟩
  | true =>
  obtain ⟨i, hi, rfl⟩ := inb_sub h1 (by omega)
  obtain ⟨j, -, hj, rfl⟩ := inb_nI h2 (by decide) (by decide)
  simp only [Bool.not_true, Bool.false_eq_true, if_false, if_true, f_X5_fromBox, pk_mul, nI_add]
  rw [pk_sub (by omega), pk_sub (by omega)]
  simp only [pk_mul, nI_add]
  rw [qrd_nI (show 72 + i * 5 + j < 172 by omega) (by decide), qrd_nI (show 63 + 5 * (b - 1 - i) + j < 163 by omega) (by decide), ← hP.2.2.2.2 b hb e5 i hi j (by omega)]
  exact ⟨_, rfl, rfl, hI⟩
theorem op_objector {M : qM} {J : qJ} (hI : Inv M J) (a1 : Int32) (a2 : Int32) : ∃ r, f_X11_objector a1 a2 M = some r ∧ f_X12_objector a1 a2 M = some r ∧ Inv M J := by
  obtain ⟨l, C, O, hP, hB, -⟩ := id hI
  have hc1 := hBo hB
  unfold f_X11_objector f_X12_objector
  simp only [hasObjector_eq hc1.1 hc1.2, isObjector_eq (h26o hP hB), Option.bind_some]
  cases hb : inb a1 (nI 0) (nI O - nI 1) with
  | false => exact ⟨_, rfl, rfl, hI⟩
  | true =>
  obtain ⟨z, hz, rfl⟩ := inb_sub hb (by omega)
  obtain ⟨d1, d2, d3⟩ := hP.2.2.2.1 z (by omega)
  obtain ⟨t, ht, e4⟩ := hB.2.2.2.2.2.1
  have e61 : M 28 61 = nI t := hP.1.2.2.2.2.1.symm.trans e4
  simp only [if_true, f_X5_kind, f_X5_skill, f_X5_known, f_X5_hasStood, nI_add, qrd_nI (show 54 + z < 172 by omega) (show 172 < 2 ^ 31 by decide), qrd_nI (show 60 + z < 172 by omega) (show 172 < 2 ^ 31 by decide), qrd_nI (show 66 + z < 172 by omega) (show 172 < 2 ^ 31 by decide), qrd_nI (show 4 < 172 by omega) (show 172 < 2 ^ 31 by decide), qrd_nI (show 39 + z < 57 by omega) (show 57 < 2 ^ 31 by decide), qrd_nI (show 49 + z < 163 by omega) (show 163 < 2 ^ 31 by decide), qrd_nI (show 55 + z < 163 by omega) (show 163 < 2 ^ 31 by decide), qrd_nI (show 61 < 163 by omega) (show 163 < 2 ^ 31 by decide), Option.bind_some, d1, d2, d3, e4, e61, bit_nI (show t < 2 ^ 31 by omega) (show z < 32 by omega)]
  by_cases h0 : a2 = nI 0
  · simp only [if_pos h0]; exact ⟨_, rfl, rfl, hI⟩
  by_cases h1 : a2 = nI 1
  · simp only [if_neg h0, if_pos h1]; exact ⟨_, rfl, rfl, hI⟩
  by_cases h2 : a2 = nI 2
  · simp only [if_neg h0, if_neg h1, if_pos h2]; exact ⟨_, rfl, rfl, hI⟩
  by_cases h3 : a2 = nI 3
  · simp only [if_neg h0, if_neg h1, if_neg h2, if_pos h3]
    have hm : t / 2 ^ z % 2 = 0 ∨ t / 2 ^ z % 2 = 1 := by omega
    rcases hm with hm | hm
    · rw [hm]; exact ⟨nI 0, rfl, rfl, hI⟩
    · rw [hm]; exact ⟨nI 1, rfl, rfl, hI⟩
  simp only [if_neg h0, if_neg h1, if_neg h2, if_neg h3]
  exact ⟨_, rfl, rfl, hI⟩
theorem op_write {M : qM} {J : qJ} (hI : Inv M J) (a1 : Int32) (a2 : Int32) : ∃ r M1 M2, f_X11_write a1 a2 M = some (r, M1) ∧ f_X12_write a1 a2 M1 = some (r, M2) ∧ Inv M2 J := by
  obtain ⟨l, C, O, hP, hB, hT, hF, hS, hY, ⟨n, hn, e1, e2, ht⟩, hU, hM, hR⟩ := id hI
  have hc1 := hBc hB
  have hc2 := h26c hP hB
  unfold f_X11_write f_X12_write
  simp only [hasCouple_eq hc1.1 hc1.2, isOutside_eq, Option.bind_some]
  cases hb : inb a1 (nI 0) (nI C - nI 1) with
  | false =>
    refine ⟨(-1000000001 : Int32), M, M, rfl, ?_, hI⟩
    simp only [isCouple_eq hc2, hb, Option.bind_some, Bool.false_eq_true, if_false]
  | true =>
  cases hw : inb a2 (nI 0) (nI 99) with
  | false =>
    refine ⟨(-1000000002 : Int32), M, M, rfl, ?_, hI⟩
    simp only [isCouple_eq hc2, hb, hw, in_ll _ _ (show 0 < 2 ^ 31 by decide) (show 99 < 2 ^ 31 by decide), Option.bind_some, Bool.false_eq_true, if_false, if_true]
  | true =>
  obtain ⟨z, hz, rfl⟩ := inb_sub hb (by omega)
  simp only [Bool.not_true, Bool.false_eq_true, if_false, if_true, f_X0_isFull, e1]
  by_cases h : n = 15
  · subst h
    refine ⟨(-1000000004 : Int32), M, M, ?_, ?_, hI⟩
    · rw [if_neg (nI_nlt (Nat.le_refl _) (by omega))]; rfl
    · simp only [isCouple_eq hc2, hb, hw, in_ll _ _ (show 0 < 2 ^ 31 by decide) (show 99 < 2 ^ 31 by decide), Option.bind_some, if_true]
      rw [if_pos e2]
  · have hlt : n < 15 := by omega
    refine ⟨nI (n + 1), qu (qu (qu M 23 n (nI z)) 24 n a2) 22 0 (nI (n + 1)), qu (qu (qu (qu (qu (qu M 23 n (nI z)) 24 n a2) 22 0 (nI (n + 1))) 35 (2 * n) (nI z)) 35 (2 * n + 1) a2) 25 15 (nI (n + 1)), ?_, ?_, l, C, O, hP, hB, hT, hF, hS, hY, ⟨n + 1, by omega, rfl, rfl, ?_⟩, hU, hM, hR⟩
    · rw [if_pos (nI_lt hlt (by omega))]
      have g1 : (qu M 23 n (nI z)) 22 0 = nI n := e1
      simp only [Option.bind_some, Bool.false_eq_true, if_false, f_X0_add, e1, g1, qwr_nI hlt (show 15 < 2 ^ 31 by decide), qpu]
      show some (M 22 0 + nI 1, qu _ 22 0 (M 22 0 + nI 1)) = _
      rw [e1, nI_add]
    · have e3 : (qu (qu (qu M 23 n (nI z)) 24 n a2) 22 0 (nI (n + 1))) 25 15 = nI n := e2
      have e4 : (qu (qu (qu M 23 n (nI z)) 24 n a2) 22 0 (nI (n + 1))) 26 1 = nI C := hc2
      generalize (qu (qu (qu M 23 n (nI z)) 24 n a2) 22 0 (nI (n + 1))) = M1 at e3 e4 ⊢
      simp only [isCouple_eq e4, hb, hw, in_ll _ _ (show 0 < 2 ^ 31 by decide) (show 99 < 2 ^ 31 by decide), Option.bind_some, if_true]
      have g1 : ∀ x, (qu M1 35 (2 * n) x) 25 15 = nI n := fun x => e3
      rw [e3, if_neg (fun q => h ((nI_eq (by omega) (by omega)).mp q))]
      simp only [Option.bind_some, pk_mul, nI_add, qwr_nI (show 2 * n < 30 by omega) (show 30 < 2 ^ 31 by decide), qwr_nI (show 2 * n + 1 < 30 by omega) (show 30 < 2 ^ 31 by decide), qpu, g1]
      show some (M1 25 15 + nI 1, qu _ 25 15 (M1 25 15 + nI 1)) = _
      rw [e3, nI_add]
    · intro i hi
      show (∃ c, c < 6 ∧ (if i = n then nI z else M 23 i) = nI c) ∧ (if i = n then nI z else M 23 i) = (if 2 * i = 2 * n + 1 then a2 else if 2 * i = 2 * n then nI z else M 35 (2 * i)) ∧ (if i = n then a2 else M 24 i) = (if 2 * i + 1 = 2 * n + 1 then a2 else if 2 * i + 1 = 2 * n then nI z else M 35 (2 * i + 1))
      by_cases q : i = n
      · subst q
        rw [if_pos rfl, if_neg (by omega), if_pos rfl, if_pos rfl, if_pos rfl]
        exact ⟨⟨z, by omega, rfl⟩, rfl, rfl⟩
      · rw [if_neg q, if_neg (by omega), if_neg (by omega), if_neg q, if_neg (by omega), if_neg (by omega)]
        exact ht i (by omega)
theorem judge_same {M : qM} {n : Nat} (hP : RP (M 2) (M 26) (M 28)) (hn : n ≤ 15) (e1 : M 22 0 = nI n) (e2 : M 25 15 = nI n) (ht : ∀ i, i < n → (∃ c, c < 6 ∧ M 23 i = nI c) ∧ M 23 i = M 35 (2 * i) ∧ M 24 i = M 35 (2 * i + 1)) : ∀ (i f : Nat), i ≤ n → n - i < f → ∃ v, f_X0_firstWrong_L2 M f (nI i) = some v ∧ f_X12_judge_L2 M f (nI i) = some v
  | i, 0, hi, hf => by omega
  | i, f + 1, hi, hf => by
    rw [f_X0_firstWrong_L2, f_X12_judge_L2, e1, e2]
    by_cases h : n ≤ i
    · rw [if_pos (nI_le h (by omega)), if_pos (nI_le h (by omega))]; exact ⟨_, rfl, rfl⟩
    · obtain ⟨⟨c, hc, g1⟩, g2, g3⟩ := ht i (by omega)
      rw [if_neg (nI_ge (by omega) (by omega)), if_neg (nI_ge (by omega) (by omega)), qrd_nI (show i < 15 by omega) (by decide), qrd_nI (show i < 15 by omega) (by decide)]
      simp only [pk_mul, nI_add]
      rw [qrd_nI (show 2 * i < 30 by omega) (by decide), qrd_nI (show 2 * i + 1 < 30 by omega) (by decide), ← g2, ← g3, g1]
      simp only [Option.bind_some, f_X5_answer, nI_add]
      rw [qrd_nI (show 6 + c < 172 by omega) (by decide), qrd_nI (show 1 + c < 163 by omega) (by decide), ← (hP.2.1 c hc).1]
      simp only [Option.bind_some]
      by_cases hq : M 2 (6 + c) = M 24 i
      · rw [if_pos hq, if_pos hq]
        exact judge_same hP hn e1 e2 ht (i + 1) f (by omega) (by omega)
      · rw [if_neg hq, if_neg hq]; exact ⟨_, rfl, rfl⟩
theorem op_judge {M : qM} {J : qJ} (hI : Inv M J)  : ∃ r, f_X11_judge  M = some r ∧ f_X12_judge  M = some r ∧ Inv M J := by
  obtain ⟨l, C, O, hP, hB, hT, hF, hS, hY, ⟨n, hn, e1, e2, ht⟩, hU, hM, hR⟩ := id hI
  obtain ⟨v, h1, h2⟩ := judge_same hP hn e1 e2 ht 0 qF (by omega) (by rw [qF_val]; omega)
  unfold f_X11_judge f_X12_judge f_X0_firstWrong
  rw [h1, h2]
  rcases v with v | v
  · exact ⟨_, rfl, rfl, hI⟩
  · exact ⟨_, rfl, rfl, hI⟩
