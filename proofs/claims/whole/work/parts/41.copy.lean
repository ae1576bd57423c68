theorem hasCouple_eq {M : qM} {C : Nat} (h : M 2 1 = nI C) (hC : C ≤ 6) (v : Int32) : f_X5_hasCouple v M = some (inb v (nI 0) (nI C - nI 1)) := by
  unfold f_X5_hasCouple
  rw [qrd_nI (by omega) (by decide), h]
  simp only [Option.bind_some]
  have e : inb v (nI 0) (nI C - nI 1) = true ↔ 0 ≤ v.toInt ∧ v.toInt < C := by
    rw [inb_iff, pk_sub_toInt (by omega) (by omega), nI_toInt (by omega)]
    omega
  by_cases h1 : v < 0
  · rw [if_pos h1]
    have h2 : v.toInt < 0 := (fa_lt _ _).mp h1
    cases hb : inb v (nI 0) (nI C - nI 1) with
    | false => rfl
    | true => have := e.mp hb; omega
  · rw [if_neg h1]
    have h2 : ¬ v.toInt < 0 := fun q => h1 ((fa_lt _ _).mpr q)
    by_cases h3 : nI C ≤ v
    · rw [if_pos h3]
      rw [fa_le, nI_toInt (by omega)] at h3
      cases hb : inb v (nI 0) (nI C - nI 1) with
      | false => rfl
      | true => have := e.mp hb; omega
    · rw [if_neg h3]
      rw [fa_le, nI_toInt (by omega)] at h3
      rw [e.mpr (by omega)]
theorem hasObjector_eq {M : qM} {C : Nat} (h : M 2 2 = nI C) (hC : C ≤ 6) (v : Int32) : f_X5_hasObjector v M = some (inb v (nI 0) (nI C - nI 1)) := by
  unfold f_X5_hasObjector
  rw [qrd_nI (by omega) (by decide), h]
  simp only [Option.bind_some]
  have e : inb v (nI 0) (nI C - nI 1) = true ↔ 0 ≤ v.toInt ∧ v.toInt < C := by
    rw [inb_iff, pk_sub_toInt (by omega) (by omega), nI_toInt (by omega)]
    omega
  by_cases h1 : v < 0
  · rw [if_pos h1]
    have h2 : v.toInt < 0 := (fa_lt _ _).mp h1
    cases hb : inb v (nI 0) (nI C - nI 1) with
    | false => rfl
    | true => have := e.mp hb; omega
  · rw [if_neg h1]
    have h2 : ¬ v.toInt < 0 := fun q => h1 ((fa_lt _ _).mpr q)
    by_cases h3 : nI C ≤ v
    · rw [if_pos h3]
      rw [fa_le, nI_toInt (by omega)] at h3
      cases hb : inb v (nI 0) (nI C - nI 1) with
      | false => rfl
      | true => have := e.mp hb; omega
    · rw [if_neg h3]
      rw [fa_le, nI_toInt (by omega)] at h3
      rw [e.mpr (by omega)]
theorem isCouple_eq {M : qM} {C : Nat} (h : M 26 1 = nI C) (v : Int32) : f_X12_isCouple v M = some (inb v (nI 0) (nI C - nI 1)) := by
  unfold f_X12_isCouple
  rw [qrd_nI (by omega) (by decide), h]
  simp only [Option.bind_some, in_lv _ _ _ (show 0 < 2 ^ 31 by decide)]
theorem isObjector_eq {M : qM} {C : Nat} (h : M 26 2 = nI C) (v : Int32) : f_X12_isObjector v M = some (inb v (nI 0) (nI C - nI 1)) := by
  unfold f_X12_isObjector
  rw [qrd_nI (by omega) (by decide), h]
  simp only [Option.bind_some, in_lv _ _ _ (show 0 < 2 ^ 31 by decide)]
/-- a loop that copies -/
theorem copy_loop {F : Nat → Int32 → qM → Option (Int32 × qM)} {qa qb na nb i j m : Nat} (hab : qa ≠ qb) (ha : na < 2 ^ 31) (hb : nb < 2 ^ 31) (h1 : i + m ≤ na) (h2 : j + m ≤ nb)
    (hF : ∀ n c M, F (n + 1) c M = if nI m ≤ c then some (c, M) else (qrd M qa na (nI i + c)).bind fun v => (qwr M qb nb (nI j + c) v).bind fun M4 => F n (c + nI 1) M4) :
    ∀ (k n : Nat) (M : qM), k ≤ m → m - k < n → F n (nI k) M = some (nI m, qcp M qa qb (i + k) (j + k) (m - k))
  | k, 0, M, hk, hn => by omega
  | k, n + 1, M, hk, hn => by
    rw [hF]
    by_cases h : m ≤ k
    · have hkm : k = m := by omega
      subst hkm
      rw [if_pos (nI_le (Nat.le_refl _) (by omega))]
      congr 2
      funext a b
      unfold qcp va_cpy
      by_cases hq : a = qb
      · subst hq
        rw [if_pos rfl, if_neg (by omega)]
      · rw [if_neg hq]
    · rw [if_neg (nI_ge (by omega) (by omega)), nI_add, nI_add, nI_add, qrd_nI (by omega) ha]
      simp only [Option.bind_some]
      rw [qwr_nI (by omega) hb]
      simp only [Option.bind_some]
      rw [copy_loop hab ha hb h1 h2 hF (k + 1) n _ (by omega) (by omega)]
      congr 2
      funext a b
      unfold qcp va_cpy qu
      by_cases hq : a = qb
      · subst hq
        simp only [if_true, if_neg hab]
        by_cases hr : j + (k + 1) ≤ b ∧ b < j + (k + 1) + (m - (k + 1))
        · rw [if_pos hr, if_pos (by omega)]
          congr 1; omega
        · rw [if_neg hr]
          by_cases he : b = j + k
          · rw [if_pos he, if_pos (by omega)]
            congr 1; omega
          · rw [if_neg he, if_neg (by omega)]
      · rw [if_neg hq, if_neg hq, if_neg hq]
theorem qF_val : qF = 5000 := rfl
theorem cp_28_30 {M : qM} {i j m : Nat} (h1 : i + m ≤ 163) (h2 : j + m ≤ 2608) : f_X12_copies_at28_30 (nI i) (nI j) (nI m) M = some (qcp M 28 30 i j m) := by
  unfold f_X12_copies_at28_30
  rw [copy_loop (F := fun n c M => f_X12_copies_at28_30_L3 (nI i) (nI j) (nI m) n c M) (qa := 28) (qb := 30) (na := 163) (nb := 2608) (i := i) (j := j) (m := m) (by decide) (by decide) (by decide) h1 h2 (fun n c M => rfl) 0 qF M (by omega) (by rw [qF_val]; omega)]
  rfl
theorem cp_30_28 {M : qM} {i j m : Nat} (h1 : i + m ≤ 2608) (h2 : j + m ≤ 163) : f_X12_copies_at30_28 (nI i) (nI j) (nI m) M = some (qcp M 30 28 i j m) := by
  unfold f_X12_copies_at30_28
  rw [copy_loop (F := fun n c M => f_X12_copies_at30_28_L3 (nI i) (nI j) (nI m) n c M) (qa := 30) (qb := 28) (na := 2608) (nb := 163) (i := i) (j := j) (m := m) (by decide) (by decide) (by decide) h1 h2 (fun n c M => rfl) 0 qF M (by omega) (by rw [qF_val]; omega)]
  rfl
theorem cp_28_29 {M : qM} {i j m : Nat} (h1 : i + m ≤ 163) (h2 : j + m ≤ 163) : f_X12_copies_at28_29 (nI i) (nI j) (nI m) M = some (qcp M 28 29 i j m) := by
  unfold f_X12_copies_at28_29
  rw [copy_loop (F := fun n c M => f_X12_copies_at28_29_L3 (nI i) (nI j) (nI m) n c M) (qa := 28) (qb := 29) (na := 163) (nb := 163) (i := i) (j := j) (m := m) (by decide) (by decide) (by decide) h1 h2 (fun n c M => rfl) 0 qF M (by omega) (by rw [qF_val]; omega)]
  rfl
theorem cp_28_31 {M : qM} {i j m : Nat} (h1 : i + m ≤ 163) (h2 : j + m ≤ 328) : f_X12_copies_at28_31 (nI i) (nI j) (nI m) M = some (qcp M 28 31 i j m) := by
  unfold f_X12_copies_at28_31
  rw [copy_loop (F := fun n c M => f_X12_copies_at28_31_L3 (nI i) (nI j) (nI m) n c M) (qa := 28) (qb := 31) (na := 163) (nb := 328) (i := i) (j := j) (m := m) (by decide) (by decide) (by decide) h1 h2 (fun n c M => rfl) 0 qF M (by omega) (by rw [qF_val]; omega)]
  rfl
theorem cp_31_28 {M : qM} {i j m : Nat} (h1 : i + m ≤ 328) (h2 : j + m ≤ 163) : f_X12_copies_at31_28 (nI i) (nI j) (nI m) M = some (qcp M 31 28 i j m) := by
  unfold f_X12_copies_at31_28
  rw [copy_loop (F := fun n c M => f_X12_copies_at31_28_L3 (nI i) (nI j) (nI m) n c M) (qa := 31) (qb := 28) (na := 328) (nb := 163) (i := i) (j := j) (m := m) (by decide) (by decide) (by decide) h1 h2 (fun n c M => rfl) 0 qF M (by omega) (by rw [qF_val]; omega)]
  rfl
theorem cp_26_28 {M : qM} {i j m : Nat} (h1 : i + m ≤ 57) (h2 : j + m ≤ 163) : f_X12_copies_at26_28 (nI i) (nI j) (nI m) M = some (qcp M 26 28 i j m) := by
  unfold f_X12_copies_at26_28
  rw [copy_loop (F := fun n c M => f_X12_copies_at26_28_L3 (nI i) (nI j) (nI m) n c M) (qa := 26) (qb := 28) (na := 57) (nb := 163) (i := i) (j := j) (m := m) (by decide) (by decide) (by decide) h1 h2 (fun n c M => rfl) 0 qF M (by omega) (by rw [qF_val]; omega)]
  rfl
theorem cp_27_26 {M : qM} {i j m : Nat} (h1 : i + m ≤ 57) (h2 : j + m ≤ 57) : f_X12_copies_at27_26 (nI i) (nI j) (nI m) M = some (qcp M 27 26 i j m) := by
  unfold f_X12_copies_at27_26
  rw [copy_loop (F := fun n c M => f_X12_copies_at27_26_L3 (nI i) (nI j) (nI m) n c M) (qa := 27) (qb := 26) (na := 57) (nb := 57) (i := i) (j := j) (m := m) (by decide) (by decide) (by decide) h1 h2 (fun n c M => rfl) 0 qF M (by omega) (by rw [qF_val]; omega)]
  rfl
/-- the reference's past, moved by one -/
def shf (p : Nat → Int32) (k : Nat) : Nat → Int32 := fun b => if k ≤ b ∧ b < 2445 then p (b + 163) else p b
theorem shift_loop : ∀ (k n : Nat) (M : qM), k ≤ 2445 → 2445 - k < n → f_X12_remember_L11 n (nI k) M = some (nI 2445, fun a => if a = 30 then shf (M 30) k else M a)
  | k, 0, M, hk, hn => by omega
  | k, n + 1, M, hk, hn => by
    rw [f_X12_remember_L11]
    by_cases h : 2445 ≤ k
    · have hkm : k = 2445 := by omega
      subst hkm
      rw [if_pos (nI_le (Nat.le_refl _) (by omega))]
      congr 2
      funext a
      by_cases hq : a = 30
      · subst hq
        rw [if_pos rfl]
        funext b
        unfold shf
        rw [if_neg (by omega)]
      · rw [if_neg hq]
    · rw [if_neg (nI_ge (by omega) (by omega)), nI_add, nI_add, qrd_nI (by omega) (by decide)]
      simp only [Option.bind_some]
      rw [qwr_nI (by omega) (by decide)]
      simp only [Option.bind_some]
      rw [shift_loop (k + 1) n _ (by omega) (by omega)]
      congr 2
      funext a
      by_cases hq : a = 30
      · subst hq
        rw [if_pos rfl, if_pos rfl]
        funext b
        unfold shf qu
        simp only [if_true]
        by_cases hr : k + 1 ≤ b ∧ b < 2445
        · rw [if_pos hr, if_pos (show k ≤ b ∧ b < 2445 by omega), if_neg (show ¬ b + 163 = k by omega)]
        · rw [if_neg hr]
          by_cases he : b = k
          · rw [if_pos he, if_pos (show k ≤ b ∧ b < 2445 by omega), he]
          · rw [if_neg he, if_neg (show ¬ (k ≤ b ∧ b < 2445) by omega)]
      · rw [if_neg hq, if_neg hq]
        exact qu_ne _ _ _ _ hq
