theorem op_fault {M : qM} {J : qJ} (hI : Inv M J)  : ∃ r, f_X11_fault  M = some r ∧ f_X12_fault  M = some r ∧ Inv M J := by
  refine ⟨M 3 2, rfl, ?_, hI⟩
  obtain ⟨l, C, O, -, -, -, hF, -⟩ := hI
  rw [hF]; rfl
theorem lN_toI {z : Nat} : (lN z).toInt32 = nI z := lN_i z
theorem op_seed {M : qM} {J : qJ} (hI : Inv M J) (a1 : Int32) : ∃ r M1 J2, f_X11_seed a1 M = some (r, M1) ∧ f_X12_seed a1 M1 J = some (r, J2) ∧ Inv M1 J2 := by
  obtain ⟨l, C, O, hP, hB, hT, hF, hS, hY, hK, hU, hM, hR⟩ := id hI
  obtain ⟨z, hz, h1, h2⟩ := id hS
  unfold f_X11_seed f_X12_seed
  by_cases h : 0 ≤ a1
  · have h0 : ¬ a1 < 0 := by rw [fa_lt]; rw [fa_le] at h; show ¬ a1.toInt < 0; exact Int.not_lt.mpr h
    obtain ⟨y, hy, rfl⟩ := nI_of h0
    refine ⟨M 12 0, qu M 12 0 (nI y), qv J 25 8 (nI y).toInt64, by rw [if_pos h]; rfl, ?_, l, C, O, hP, hB, hT, hF, ⟨y, hy, rfl, nI_l hy⟩, hY, hK, hU, hM, hR⟩
    rw [if_pos h]
    show some _ = some _
    rw [h1, h2, lN_i]
  · refine ⟨_, M, J, if_neg h, if_neg h, hI⟩
theorem op_tear {M : qM} {J : qJ} (hI : Inv M J)  : ∃ r M1 M2, f_X11_tear  M = some (r, M1) ∧ f_X12_tear  M1 = some (r, M2) ∧ Inv M2 J := by
  obtain ⟨l, C, O, hP, hB, hT, hF, hS, ⟨n, hn, e1, e2, -⟩, ⟨m, hm, e3, e4, -⟩, hU, hM, hR⟩ := hI
  refine ⟨_, _, qu (qu (qu (qu M 20 0 (nI 0)) 22 0 (nI 0)) 25 13 (nI 0)) 25 15 (nI 0), rfl, ?_, l, C, O, hP, hB, hT, hF, hS, ⟨0, by omega, rfl, rfl, fun k hk => by omega⟩, ⟨0, by omega, rfl, rfl, fun k hk => by omega⟩, hU, hM, hR⟩
  show some _ = some _
  rw [e1, e3]
  show some (M 25 13 + M 25 15, _) = _
  rw [e2, e4]
theorem b_not {b : Bool} (h : ¬ b = true) : b = false := by cases b with
  | true => exact absurd rfl h
  | false => rfl
theorem op_feed {M : qM} {J : qJ} (hI : Inv M J) (a1 : Int32) : ∃ r M1 M2, f_X11_feed a1 M = some (r, M1) ∧ f_X12_feed a1 M1 = some (r, M2) ∧ Inv M2 J := by
  obtain ⟨l, C, O, hP, hB, ⟨n, hn, e1, e2, ht⟩, hF, hS, hY, hK, hU, hM, hR⟩ := id hI
  unfold f_X11_feed f_X12_feed
  simp only [isOutside_eq, in_ll a1 _ (show 0 < 2 ^ 31 by decide) (show 255 < 2 ^ 31 by decide), Option.bind_some]
  by_cases hv : inb a1 (nI 0) (nI 255) = true
  · obtain ⟨k, -, hk, rfl⟩ := inb_nI hv (by omega) (by omega)
    simp only [hv, Bool.not_true, Bool.false_eq_true, if_false, if_true, f_X7_isFull, e1]
    by_cases h : n = 240
    · subst h
      refine ⟨(-1000000004 : Int32), M, M, ?_, ?_, hI⟩
      · rw [if_neg (nI_nlt (Nat.le_refl _) (by omega))]; rfl
      · rw [if_pos e2]
    · have hlt : n < 240 := by omega
      refine ⟨nI (n + 1), qu (qu M 6 n (nI k)) 3 1 (nI (n + 1)), qu (qu (qu (qu M 6 n (nI k)) 3 1 (nI (n + 1))) 33 n (nI k)) 25 10 (nI (n + 1)), ?_, ?_, l, C, O, hP, hB, ⟨n + 1, by omega, rfl, rfl, ?_⟩, hF, hS, hY, hK, hU, hM, hR⟩
      · rw [if_pos (nI_lt hlt (by omega))]
        simp only [Option.bind_some, Bool.false_eq_true, if_false, f_X7_put, e1, qwr_nI hlt (show 240 < 2 ^ 31 by decide), qpu]
        show some (M 3 1 + nI 1, qu _ 3 1 (M 3 1 + nI 1)) = _
        rw [e1, nI_add]
      · have e3 : (qu (qu M 6 n (nI k)) 3 1 (nI (n + 1))) 25 10 = nI n := e2
        rw [e3, if_neg (fun q => h ((nI_eq (by omega) (by omega)).mp q)), qwr_nI hlt (by decide)]
        simp only [Option.bind_some, qpu]
        show some (M 25 10 + nI 1, qu _ 25 10 (M 25 10 + nI 1)) = _
        rw [e2, nI_add]
      · intro i hi
        show (if i = n then nI k else M 6 i) = (if i = n then nI k else M 33 i) ∧ ∃ x, x < 256 ∧ (if i = n then nI k else M 6 i) = nI x
        by_cases hin : i = n
        · rw [if_pos hin, if_pos hin]; exact ⟨rfl, k, by omega, rfl⟩
        · rw [if_neg hin, if_neg hin]; exact ht i (by omega)
  · have hv := b_not hv
    simp only [hv, Bool.not_false, Bool.false_eq_true, if_false, if_true]
    exact ⟨_, M, M, rfl, rfl, hI⟩
theorem op_say {M : qM} {J : qJ} (hI : Inv M J) (a1 : Int32) (a2 : Int32) (a3 : Int32) : ∃ r M1 M2, f_X11_say a1 a2 a3 M = some (r, M1) ∧ f_X12_say a1 a2 a3 M1 = some (r, M2) ∧ Inv M2 J := by
  obtain ⟨l, C, O, hP, hB, hT, hF, hS, ⟨n, hn, e1, e2, ht⟩, hK, hU, hM, hR⟩ := id hI
  unfold f_X11_say f_X12_say
  simp only [isOutside_eq, in_ll _ _ (show 0 < 2 ^ 31 by decide) (show 2 < 2 ^ 31 by decide), in_ll _ _ (show 0 < 2 ^ 31 by decide) (show 40 < 2 ^ 31 by decide), in_ll _ _ (show 0 < 2 ^ 31 by decide) (show 99 < 2 ^ 31 by decide), Option.bind_some]
  cases inb a1 (nI 0) (nI 2) with
  | false =>
    simp only [Bool.not_false, Bool.false_eq_true, if_false, if_true]
    exact ⟨_, M, M, rfl, rfl, hI⟩
  | true =>
  cases inb a2 (nI 0) (nI 40) with
  | false =>
    simp only [Bool.not_false, Bool.not_true, Bool.false_eq_true, if_false, if_true]
    exact ⟨_, M, M, rfl, rfl, hI⟩
  | true =>
  cases inb a3 (nI 0) (nI 99) with
  | false =>
    simp only [Bool.not_false, Bool.not_true, Bool.false_eq_true, if_false, if_true]
    exact ⟨_, M, M, rfl, rfl, hI⟩
  | true =>
  simp only [Bool.not_true, Bool.false_eq_true, if_false, if_true, f_X9_isFull, e1]
  by_cases h : n = 6
  · subst h
    refine ⟨(-1000000004 : Int32), M, M, ?_, ?_, hI⟩
    · rw [if_neg (nI_nlt (Nat.le_refl _) (by omega))]; rfl
    · rw [if_pos e2]
  · have hlt : n < 6 := by omega
    refine ⟨nI (n + 1), qu (qu (qu (qu M 21 (n * 3) a1) 21 (n * 3 + 1) a2) 21 (n * 3 + 2) a3) 20 0 (nI (n + 1)), qu (qu (qu (qu (qu (qu (qu (qu M 21 (n * 3) a1) 21 (n * 3 + 1) a2) 21 (n * 3 + 2) a3) 20 0 (nI (n + 1))) 34 (3 * n) a1) 34 (3 * n + 1) a2) 34 (3 * n + 2) a3) 25 13 (nI (n + 1)), ?_, ?_, l, C, O, hP, hB, hT, hF, hS, ⟨n + 1, by omega, rfl, rfl, ?_⟩, hK, hU, hM, hR⟩
    · rw [if_pos (nI_lt hlt (by omega))]
      have g1 : ∀ x, (qu M 21 (n * 3) x) 20 0 = nI n := fun x => e1
      have g2 : ∀ x y, (qu (qu M 21 (n * 3) x) 21 (n * 3 + 1) y) 20 0 = nI n := fun x y => e1
      simp only [Option.bind_some, Bool.false_eq_true, if_false, f_X9_add, e1, pk_mul, nI_add, qwr_nI (show n * 3 < 18 by omega) (show 18 < 2 ^ 31 by decide), qwr_nI (show n * 3 + 1 < 18 by omega) (show 18 < 2 ^ 31 by decide), qwr_nI (show n * 3 + 2 < 18 by omega) (show 18 < 2 ^ 31 by decide), qpu, g1, g2]
      show some (M 20 0 + nI 1, qu _ 20 0 (M 20 0 + nI 1)) = _
      rw [e1, nI_add]
    · have e3 : (qu (qu (qu (qu M 21 (n * 3) a1) 21 (n * 3 + 1) a2) 21 (n * 3 + 2) a3) 20 0 (nI (n + 1))) 25 13 = nI n := e2
      generalize (qu (qu (qu (qu M 21 (n * 3) a1) 21 (n * 3 + 1) a2) 21 (n * 3 + 2) a3) 20 0 (nI (n + 1))) = M1 at e3 ⊢
      have g1 : ∀ x, (qu M1 34 (3 * n) x) 25 13 = nI n := fun x => e3
      have g2 : ∀ x y, (qu (qu M1 34 (3 * n) x) 34 (3 * n + 1) y) 25 13 = nI n := fun x y => e3
      rw [e3, if_neg (fun q => h ((nI_eq (by omega) (by omega)).mp q))]
      simp only [Option.bind_some, pk_mul, nI_add, qwr_nI (show 3 * n < 18 by omega) (show 18 < 2 ^ 31 by decide), qwr_nI (show 3 * n + 1 < 18 by omega) (show 18 < 2 ^ 31 by decide), qwr_nI (show 3 * n + 2 < 18 by omega) (show 18 < 2 ^ 31 by decide), qpu, g1, g2]
      show some (M1 25 13 + nI 1, qu _ 25 13 (M1 25 13 + nI 1)) = _
      rw [e3, nI_add]
    · intro k hk
      rw [show 3 * n = n * 3 by omega]
      show (if k = n * 3 + 2 then a3 else if k = n * 3 + 1 then a2 else if k = n * 3 then a1 else M 21 k) = (if k = n * 3 + 2 then a3 else if k = n * 3 + 1 then a2 else if k = n * 3 then a1 else M 34 k)
      by_cases q2 : k = n * 3 + 2
      · rw [if_pos q2, if_pos q2]
      by_cases q1 : k = n * 3 + 1
      · rw [if_neg q2, if_neg q2, if_pos q1, if_pos q1]
      by_cases q0 : k = n * 3
      · rw [if_neg q2, if_neg q2, if_neg q1, if_neg q1, if_pos q0, if_pos q0]
      rw [if_neg q2, if_neg q2, if_neg q1, if_neg q1, if_neg q0, if_neg q0]
      exact ht k (by omega)
