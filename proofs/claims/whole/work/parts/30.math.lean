-- plain laws of the pure functions' words
theorem qrd_nI {M : qM} {q n k : Nat} (h : k < n) (hn : n < 2 ^ 31) : qrd M q n (nI k) = some (M q k) := by
  unfold qrd
  rw [if_neg (nI_in h hn), nI_clamp (by omega)]
theorem qwr_nI {M : qM} {q n k : Nat} {x : Int32} (h : k < n) (hn : n < 2 ^ 31) : qwr M q n (nI k) x = some (qu M q k x) := by
  unfold qwr
  rw [if_neg (nI_in h hn), nI_clamp (by omega)]
theorem qwz_nI {M : qM} {q n k : Nat} {x : Int32} (h : k < n) (hn : n < 2 ^ 31) : qwz M q n (nI k) x = some (qu M q k (vp_nar .boolean x)) := by
  unfold qwz
  rw [if_neg (nI_in h hn), nI_clamp (by omega)]
theorem qsc_nI {f : Nat → Int32} {n k : Nat} (h : k < n) (hn : n < 2 ^ 31) : qsc f n (nI k) = some (f k) := by
  unfold qsc
  rw [if_neg (nI_in h hn), nI_clamp (by omega)]
theorem qco_nI {M : qM} {q0 q1 n0 n1 a b c : Nat} (h1 : a + c ≤ n0) (h2 : b + c ≤ n1) (h3 : n0 < 2 ^ 31) (h4 : n1 < 2 ^ 31) : qco M q0 q1 n0 n1 (nI a) (nI b) (nI c) = some (qcp M q0 q1 a b c) := by
  unfold qco
  rw [nI_clamp (by omega), nI_clamp (by omega), nI_clamp (by omega), if_neg]
  rintro (h | h | h | h | h)
  · exact nI_pos (by omega) h
  · exact nI_pos (by omega) h
  · exact nI_pos (by omega) h
  · omega
  · omega
def inb (a b c : Int32) : Bool := decide (b ≤ a ∧ a ≤ c)
theorem inb_iff {a b c : Int32} : inb a b c = true ↔ b.toInt ≤ a.toInt ∧ a.toInt ≤ c.toInt := by
  unfold inb
  rw [decide_eq_true_iff, fa_le, fa_le]
theorem isOutside_eq (a b c : Int32) (M : qM) : f_X11_isOutside a b c M = some (!inb a b c) := by
  unfold f_X11_isOutside inb
  by_cases h1 : a < b
  · rw [if_pos h1]
    rw [fa_lt] at h1
    simp [fa_le]
    omega
  · rw [if_neg h1]
    rw [fa_lt] at h1
    by_cases h2 : a ≤ c
    · rw [if_pos h2]
      rw [fa_le] at h2
      simp [fa_le]
      omega
    · rw [if_neg h2]
      rw [fa_le] at h2
      simp [fa_le]
      omega
theorem my_cmp_lt (a b : Int64) : lg_cmp a b < 0 ↔ a < b := by
  unfold lg_cmp
  by_cases h1 : a > b
  · rw [if_pos h1]
    have h2 : b < a := h1
    rw [fa_lt64] at h2 ⊢
    constructor
    · intro h; exact absurd h (by decide)
    · intro h; omega
  · rw [if_neg h1]
    have h2 : ¬ b < a := h1
    by_cases h3 : a = b
    · rw [if_pos h3, h3, fa_lt64]
      constructor
      · intro h; exact absurd h (by decide)
      · intro h; omega
    · rw [if_neg h3]
      rw [fa_lt64] at h2 ⊢
      rw [fa_eq64] at h3
      constructor
      · intro _; omega
      · intro _; decide
theorem my_cmp_gt (a b : Int64) : 0 < lg_cmp a b ↔ b < a := by
  unfold lg_cmp
  by_cases h1 : a > b
  · rw [if_pos h1]
    constructor
    · intro _; exact h1
    · intro _; decide
  · rw [if_neg h1]
    have h2 : ¬ b < a := h1
    by_cases h3 : a = b
    · rw [if_pos h3]
      constructor
      · intro h; exact absurd h (by decide)
      · intro h; exact absurd h h2
    · rw [if_neg h3]
      constructor
      · intro h; exact absurd h (by decide)
      · intro h; exact absurd h h2
theorem in_eq (a b c : Int32) (M : qM) : f_X12_in a.toInt64 b.toInt64 c.toInt64 M = some (inb a b c) := by
  unfold f_X12_in inb
  by_cases h1 : lg_cmp a.toInt64 b.toInt64 < 0
  · rw [if_pos h1]
    rw [my_cmp_lt, fa_wide_lt, fa_lt] at h1
    simp [fa_le]
    omega
  · rw [if_neg h1]
    rw [my_cmp_lt, fa_wide_lt, fa_lt] at h1
    by_cases h2 : 0 < lg_cmp a.toInt64 c.toInt64
    · rw [if_pos h2]
      rw [my_cmp_gt, fa_wide_lt, fa_lt] at h2
      simp [fa_le]
      omega
    · rw [if_neg h2]
      rw [my_cmp_gt, fa_wide_lt, fa_lt] at h2
      simp [fa_le]
      omega
theorem in_ll {k m : Nat} (a : Int32) (M : qM) (hk : k < 2 ^ 31) (hm : m < 2 ^ 31) : f_X12_in a.toInt64 (lN k) (lN m) M = some (inb a (nI k) (nI m)) := by
  rw [← nI_l hk, ← nI_l hm, in_eq]
theorem in_lv {k : Nat} (a v : Int32) (M : qM) (hk : k < 2 ^ 31) : f_X12_in a.toInt64 (lN k) v.toInt64 M = some (inb a (nI k) v) := by
  rw [← nI_l hk, in_eq]
theorem inb_nI {v : Int32} {a m : Nat} (h : inb v (nI a) (nI m) = true) (ha : a < 2 ^ 31) (hm : m < 2 ^ 31) : ∃ k, a ≤ k ∧ k ≤ m ∧ v = nI k := by
  rw [inb_iff, nI_toInt ha, nI_toInt hm] at h
  have h0 : ¬ v < 0 := by rw [fa_lt]; show ¬ v.toInt < 0; omega
  obtain ⟨k, hk, rfl⟩ := nI_of h0
  rw [nI_toInt hk] at h
  exact ⟨k, by omega, by omega, rfl⟩
theorem inb_sub {v : Int32} {C : Nat} (h : inb v (nI 0) (nI C - nI 1) = true) (hC : C < 2 ^ 30) : ∃ k, k < C ∧ v = nI k := by
  rw [inb_iff, pk_sub_toInt hC (by omega), nI_toInt (by omega)] at h
  have h0 : ¬ v < 0 := by rw [fa_lt]; show ¬ v.toInt < 0; omega
  obtain ⟨k, hk, rfl⟩ := nI_of h0
  rw [nI_toInt hk] at h
  exact ⟨k, by omega, rfl⟩
theorem inb_in {a k m : Nat} (h1 : a ≤ k) (h2 : k ≤ m) (hm : m < 2 ^ 31) : inb (nI k) (nI a) (nI m) = true := by
  rw [inb_iff, nI_toInt (by omega), nI_toInt (by omega), nI_toInt (by omega)]
  omega
theorem inb_inS {k C : Nat} (h1 : k < C) (hm : C < 2 ^ 30) : inb (nI k) (nI 0) (nI C - nI 1) = true := by
  rw [inb_iff, nI_toInt (by omega), nI_toInt (by omega), pk_sub_toInt hm (by omega)]
  omega
