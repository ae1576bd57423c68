theorem nI_lit1 : (1 : Int32) = nI 1 := rfl
theorem nI_d4 {a b : Nat} (ha : a < 2 ^ 30) (hb : b < 2 ^ 30) : nI a - nI 4 < nI b ↔ a < b + 4 := by
  rw [fa_lt, pk_sub_toInt ha (by omega), nI_toInt (by omega)]
  omega
set_option maxRecDepth 20000 in
set_option maxHeartbeats 16000000 in
theorem law_ok {xs : Nat → Int32} {L : Nat} (hL : L ≤ 2048) : ∀ (n i : Nat) (M : qM) (J : qJ), Inv M J → L < 4 * i + 4 * n → 4 * i ≤ L → ∃ c M2 J2, f_L_law_L18 xs L n (nI (4 * i)) M J = some (.inr (c, M2, J2))
  | 0, i, M, J, hI, hn, hi => by
    omega
  | n + 1, i, M, J, hI, hn, hi => by
    rw [f_L_law_L18]
    by_cases h0 : L < 4 * i + 4
    · exact ⟨_, _, _, if_pos ((nI_d4 (by omega) (by omega)).mpr h0)⟩
    rw [if_neg (fun h => h0 ((nI_d4 (by omega) (by omega)).mp h))]
    have ih := fun (M : qM) (J : qJ) (hI : Inv M J) => law_ok (xs := xs) hL n (i + 1) M J hI (by omega) (by omega)
    rw [show 4 * (i + 1) = 4 * i + 4 by omega] at ih
    rw [nI_add (4 * i) 1, nI_add (4 * i) 2, nI_add (4 * i) 3, nI_add (4 * i) 4, qsc_nI (show 4 * i < L by omega) (by omega), qsc_nI (show 4 * i + 1 < L by omega) (by omega), qsc_nI (show 4 * i + 2 < L by omega) (by omega), qsc_nI (show 4 * i + 3 < L by omega) (by omega)]
    simp only [Option.bind_some]
    generalize xs (4 * i) &&& nI 31 = w
    generalize xs (4 * i + 1) = a1
    generalize xs (4 * i + 2) = a2
    generalize xs (4 * i + 3) = a3
    by_cases k0 : w = nI 0
    · rw [if_pos k0]
      obtain ⟨r, M1, M2, e1, e2, hI2⟩ := op_feed hI a1
      simp only [e1, e2, Option.bind_some, if_true]
      exact ih M2 J hI2
    rw [if_neg k0]
    by_cases k1 : w = nI 1
    · rw [if_pos k1]
      obtain ⟨r, M1, M2, e1, e2, hI2⟩ := op_deanery hI 
      simp only [e1, e2, Option.bind_some, if_true]
      exact ih M2 J hI2
    rw [if_neg k1]
    by_cases k2 : w = nI 2
    · rw [if_pos k2]
      obtain ⟨r, e1, e2, hI2⟩ := op_fault hI 
      simp only [e1, e2, Option.bind_some, if_true]
      exact ih M J hI2
    rw [if_neg k2]
    by_cases k3 : w = nI 3
    · rw [if_pos k3]
      obtain ⟨r, M1, e1, e2, hI2⟩ := op_told hI a1
      simp only [e1, e2, Option.bind_some, if_true]
      exact ih M1 J hI2
    rw [if_neg k3]
    by_cases k4 : w = nI 4
    · rw [if_pos k4]
      obtain ⟨r, e1, e2, hI2⟩ := op_couple hI a1 a2
      simp only [e1, e2, Option.bind_some, if_true]
      exact ih M J hI2
    rw [if_neg k4]
    by_cases k5 : w = nI 5
    · rw [if_pos k5]
      obtain ⟨r, e1, e2, hI2⟩ := op_objector hI a1 a2
      simp only [e1, e2, Option.bind_some, if_true]
      exact ih M J hI2
    rw [if_neg k5]
    by_cases k6 : w = nI 6
    · rw [if_pos k6]
      obtain ⟨r, e1, e2, hI2⟩ := op_box hI a1 a2
      simp only [e1, e2, Option.bind_some, if_true]
      exact ih M J hI2
    rw [if_neg k6]
    by_cases k7 : w = nI 7
    · rw [if_pos k7]
      obtain ⟨r, e1, e2, hI2⟩ := op_against hI a1 a2 a3
      simp only [e1, e2, Option.bind_some, if_true]
      exact ih M J hI2
    rw [if_neg k7]
    by_cases k8 : w = nI 8
    · rw [if_pos k8]
      obtain ⟨r, M1, M2, e1, e2, hI2⟩ := op_stand hI a1 a2
      simp only [e1, e2, Option.bind_some, if_true]
      exact ih M2 J hI2
    rw [if_neg k8]
    by_cases k9 : w = nI 9
    · rw [if_pos k9]
      obtain ⟨r, M1, M2, e1, e2, hI2⟩ := op_year hI a1
      simp only [e1, e2, Option.bind_some, if_true]
      exact ih M2 J hI2
    rw [if_neg k9]
    by_cases k10 : w = nI 10
    · rw [if_pos k10]
      by_cases h3 : a3 = 0
      · obtain ⟨r, M1, M2, e1, e2, hI2⟩ := op_teach hI a1 a2 (nI 0) (Or.inl rfl)
        simp only [if_pos h3, e1, e2, Option.bind_some, if_true]
        exact ih M2 J hI2
      · obtain ⟨r, M1, M2, e1, e2, hI2⟩ := op_teach hI a1 a2 (nI 1) (Or.inr rfl)
        simp only [if_neg h3, e1, e2, Option.bind_some, if_true]
        exact ih M2 J hI2
    rw [if_neg k10]
    by_cases k11 : w = nI 11
    · rw [if_pos k11]
      obtain ⟨r, M1, M2, e1, e2, hI2⟩ := op_hear hI a1 a2 a3
      simp only [e1, e2, Option.bind_some, if_true]
      exact ih M2 J hI2
    rw [if_neg k11]
    by_cases k12 : w = nI 12
    · rw [if_pos k12]
      obtain ⟨r, M1, M2, e1, e2, hI2⟩ := op_practise hI a1 a2
      simp only [e1, e2, Option.bind_some, if_true]
      exact ih M2 J hI2
    rw [if_neg k12]
    by_cases k13 : w = nI 13
    · rw [if_pos k13]
      obtain ⟨r, M1, M2, e1, e2, hI2⟩ := op_sour hI a1 a2
      simp only [e1, e2, Option.bind_some, if_true]
      exact ih M2 J hI2
    rw [if_neg k13]
    by_cases k14 : w = nI 14
    · rw [if_pos k14]
      obtain ⟨r, M1, M2, J2, e1, e2, hI2⟩ := op_drift hI a1
      simp only [e1, e2, Option.bind_some, if_true]
      exact ih M2 J2 hI2
    rw [if_neg k14]
    by_cases k15 : w = nI 15
    · rw [if_pos k15]
      obtain ⟨r, M1, M2, e1, e2, hI2⟩ := op_undo hI 
      simp only [e1, e2, Option.bind_some, if_true]
      exact ih M2 J hI2
    rw [if_neg k15]
    by_cases k16 : w = nI 16
    · rw [if_pos k16]
      obtain ⟨r, M2, e1, e2, hI2⟩ := op_soonest hI a1 a2
      simp only [e1, e2, Option.bind_some, if_true]
      exact ih M2 J hI2
    rw [if_neg k16]
    by_cases k17 : w = nI 17
    · rw [if_pos k17]
      obtain ⟨r, M1, M2, e1, e2, hI2⟩ := op_match hI a1
      simp only [e1, e2, Option.bind_some, if_true]
      exact ih M2 J hI2
    rw [if_neg k17]
    by_cases k18 : w = nI 18
    · rw [if_pos k18]
      obtain ⟨r, M1, M2, e1, e2, hI2⟩ := op_rounds hI a1 a2 a3
      simp only [e1, e2, Option.bind_some, if_true]
      exact ih M2 J hI2
    rw [if_neg k18]
    by_cases k19 : w = nI 19
    · rw [if_pos k19]
      obtain ⟨r, e1, e2, hI2⟩ := op_holds hI a1 a2
      simp only [e1, e2, Option.bind_some, if_true]
      exact ih M J hI2
    rw [if_neg k19]
    by_cases k20 : w = nI 20
    · rw [if_pos k20]
      obtain ⟨r, e1, e2, hI2⟩ := op_dry hI a1 a2
      simp only [e1, e2, Option.bind_some, if_true]
      exact ih M J hI2
    rw [if_neg k20]
    by_cases k21 : w = nI 21
    · rw [if_pos k21]
      obtain ⟨r, M1, M2, e1, e2, hI2⟩ := op_say hI a1 a2 a3
      simp only [e1, e2, Option.bind_some, if_true]
      exact ih M2 J hI2
    rw [if_neg k21]
    by_cases k22 : w = nI 22
    · rw [if_pos k22]
      obtain ⟨r, e1, e2, hI2⟩ := op_weights hI a1
      simp only [e1, e2, Option.bind_some, if_true]
      exact ih M J hI2
    rw [if_neg k22]
    by_cases k23 : w = nI 23
    · rw [if_pos k23]
      obtain ⟨r, e1, e2, hI2⟩ := op_ask hI 
      simp only [e1, e2, Option.bind_some, if_true]
      exact ih M J hI2
    rw [if_neg k23]
    by_cases k24 : w = nI 24
    · rw [if_pos k24]
      obtain ⟨r, M1, M2, e1, e2, hI2⟩ := op_write hI a1 a2
      simp only [e1, e2, Option.bind_some, if_true]
      exact ih M2 J hI2
    rw [if_neg k24]
    by_cases k25 : w = nI 25
    · rw [if_pos k25]
      obtain ⟨r, M1, M2, e1, e2, hI2⟩ := op_tear hI 
      simp only [e1, e2, Option.bind_some, if_true]
      exact ih M2 J hI2
    rw [if_neg k25]
    by_cases k26 : w = nI 26
    · rw [if_pos k26]
      obtain ⟨r, e1, e2, hI2⟩ := op_judge hI 
      simp only [e1, e2, Option.bind_some, if_true]
      exact ih M J hI2
    rw [if_neg k26]
    by_cases k27 : w = nI 27
    · rw [if_pos k27]
      obtain ⟨r, M1, J2, e1, e2, hI2⟩ := op_seed hI a1
      simp only [e1, e2, Option.bind_some, if_true]
      exact ih M1 J2 hI2
    rw [if_neg k27]
    by_cases k28 : w = nI 28
    · rw [if_pos k28]
      obtain ⟨r, M1, M2, e1, e2, hI2⟩ := op_keep hI a1
      simp only [e1, e2, Option.bind_some, if_true]
      exact ih M2 J hI2
    rw [if_neg k28]
    by_cases k29 : w = nI 29
    · rw [if_pos k29]
      obtain ⟨r, M1, M2, J2, e1, e2, hI2⟩ := op_goBack hI a1
      simp only [e1, e2, Option.bind_some, if_true]
      exact ih M2 J2 hI2
    rw [if_neg k29]
    exact ih M J hI
