theorem RP.congr {r r' dn dn' nw nw' : Nat → Int32} (h : RP r dn nw) (h1 : ∀ k, k < 172 → r' k = r k) (h2 : ∀ k, k < 57 → dn' k = dn k) (h3 : ∀ k, k < 163 → nw' k = nw k) : RP r' dn' nw' := by
  obtain ⟨⟨a0, a1, a2, a3, a4, a5⟩, b, c, d, e⟩ := h
  refine ⟨⟨?_, ?_, ?_, ?_, ?_, ?_⟩, fun i hi => ?_, fun i hi => ?_, fun i hi => ?_, fun m hm hb i hi j hj => ?_⟩
  · rw [h1 _ (by omega), h2 _ (by omega)]; exact a0
  · rw [h1 _ (by omega), h2 _ (by omega)]; exact a1
  · rw [h1 _ (by omega), h2 _ (by omega)]; exact a2
  · rw [h1 _ (by omega), h3 _ (by omega)]; exact a3
  · rw [h1 _ (by omega), h3 _ (by omega)]; exact a4
  · rw [h1 _ (by omega), h3 _ (by omega)]; exact a5
  · rw [h1 _ (by omega), h1 (12 + i) (by omega), h1 (18 + i) (by omega), h3 _ (by omega), h3 (7 + i) (by omega), h3 (13 + i) (by omega)]; exact b i hi
  · rw [h1 _ (by omega), h3 _ (by omega)]; exact c i hi
  · rw [h1 _ (by omega), h1 (60 + i) (by omega), h1 (66 + i) (by omega), h2 _ (by omega), h3 (49 + i) (by omega), h3 (55 + i) (by omega)]; exact d i hi
  · rw [h1 _ (by omega)] at hb
    rw [h1 _ (by omega), h3 _ (by omega)]
    exact e m hm hb i hi j hj
theorem BD.congr {r r' : Nat → Int32} {l C O : Nat} (h : BD r l C O) (h1 : ∀ k, k < 172 → r' k = r k) : BD r' l C O := by
  obtain ⟨a, b, c, d, e, f, g, i, j⟩ := h
  refine ⟨?_, ?_, ?_, d, ?_, ?_, fun k hk => ?_, fun k hk => ?_, fun k hk => ?_⟩
  · rw [h1 _ (by omega)]; exact a
  · rw [h1 _ (by omega)]; exact b
  · rw [h1 _ (by omega)]; exact c
  · rw [h1 _ (by omega)]; exact e
  · rw [h1 _ (by omega)]; exact f
  · rw [h1 _ (by omega), h1 (12 + k) (by omega)]; exact g k hk
  · rw [h1 _ (by omega)]; exact i k hk
  · rw [h1 _ (by omega), h1 (60 + k) (by omega), h1 (66 + k) (by omega)]; exact j k hk
theorem qmin_nI {a b : Nat} (ha : a < 2 ^ 31) (hb : b < 2 ^ 31) : qmin (nI a) (nI b) = nI (min a b) := by
  unfold qmin
  by_cases h : b < a
  · rw [if_pos (nI_lt h ha), Nat.min_eq_right (by omega)]
  · rw [if_neg (nI_nlt (by omega) hb), Nat.min_eq_left (by omega)]
theorem qmax_nI {a b : Nat} (ha : a < 2 ^ 31) (hb : b < 2 ^ 31) : qmax (nI a) (nI b) = nI (max a b) := by
  unfold qmax
  by_cases h : a < b
  · rw [if_pos (nI_lt h hb), Nat.max_eq_right (by omega)]
  · rw [if_neg (nI_nlt (by omega) ha), Nat.max_eq_left (by omega)]
theorem qrem_nI {a d : Nat} (ha : a < 2 ^ 31) (h0 : 0 < d) (hd : d < 2 ^ 31) : qrem (nI a) (nI d) = some (nI (a % d)) := by
  unfold qrem
  rw [if_neg (nI_ne0 h0 hd), pk_rem ha h0 hd]
theorem qdiv_nI {a d : Nat} (ha : a < 2 ^ 31) (h0 : 0 < d) (hd : d < 2 ^ 31) : qdiv (nI a) (nI d) = some (nI (a / d)) := by
  unfold qdiv
  rw [if_neg (nI_ne0 h0 hd), pk_div ha h0 hd]
theorem remC {M : qM} {n x : Nat} (hx : x < 16) (hn : n ≤ 16) (e0 : M 7 0 = nI n) (e1 : M 7 1 = nI x) : f_X6_remember M = some (qu (qu (qcp M 2 8 0 (x * 172) 172) 7 1 (nI ((x + 1) % 16))) 7 0 (nI (min 16 (n + 1)))) := by
  unfold f_X6_remember f_X5_copyTo_at1_8
  rw [e1, pk_mul, qco_nI (by omega) (by omega) (by decide) (by decide)]
  simp only [Option.bind_some]
  have g1 : qcp M 2 8 0 (x * 172) 172 7 1 = nI x := e1
  rw [g1, nI_add, qrem_nI (by omega) (by omega) (by omega)]
  simp only [Option.bind_some, qpu]
  have g2 : qu (qcp M 2 8 0 (x * 172) 172) 7 1 (nI ((x + 1) % 16)) 7 0 = nI n := e0
  rw [g2, nI_add, qmin_nI (by omega) (by omega)]
theorem remM_lt {M : qM} {n : Nat} (hn : n < 16) (e : M 25 5 = nI n) : f_X12_remember M = some (qu (qcp M 28 30 0 (163 * n) 163) 25 5 (nI (n + 1))) := by
  unfold f_X12_remember
  rw [e, if_neg (fun q => by have := (nI_eq (by omega) (by omega)).mp q; omega), pk_mul, cp_28_30 (by omega) (by omega)]
  simp only [Option.bind_some, qpu]
  have g : qcp M 28 30 0 (163 * n) 163 25 5 = nI n := e
  rw [g, nI_add]
theorem remM_16 {M : qM} (e : M 25 5 = nI 16) : f_X12_remember M = some (qu (qcp (qu (fun a => if a = 30 then shf (M 30) 0 else M a) 25 5 (nI 15)) 28 30 0 2445 163) 25 5 (nI 16)) := by
  unfold f_X12_remember
  rw [if_pos e, shift_loop 0 qF M (by omega) (by rw [qF_val]; omega)]
  simp only [Option.bind_some, qpu]
  have g : (fun a => if a = 30 then shf (M 30) 0 else M a) 25 5 = nI 16 := e
  rw [show (if (25 : Nat) = 30 then shf (M 30) 0 else M 25) 5 = nI 16 from e, pk_sub (by omega)]
  have g2 : (qu (fun a => if a = 30 then shf (M 30) 0 else M a) 25 5 (nI (16 - 1))) 25 5 = nI 15 := rfl
  rw [g2, pk_mul, cp_28_30 (by omega) (by omega)]
  simp only [Option.bind_some]
  have g3 : qcp (qu (fun a => if a = 30 then shf (M 30) 0 else M a) 25 5 (nI (16 - 1))) 28 30 0 (163 * 15) 163 25 5 = nI 15 := rfl
  rw [g3, nI_add]
theorem PS_push {r nw rows past past' dn : Nat → Int32} {n x l C O : Nat} (hx : x < 16) (hn : n ≤ 16)
    (h : ∀ i, i < n → RP (fun k => rows ((x + 15 - i) % 16 * 172 + k)) dn (fun k => past (163 * (n - 1 - i) + k)) ∧ BD (fun k => rows ((x + 15 - i) % 16 * 172 + k)) l C O)
    (hP : RP r dn nw) (hB : BD r l C O) (h0 : ∀ k, k < 163 → past' (163 * (min 16 (n + 1) - 1) + k) = nw k)
    (h1 : ∀ i, i < n → i < 15 → ∀ k, k < 163 → past' (163 * (min 16 (n + 1) - 1 - (i + 1)) + k) = past (163 * (n - 1 - i) + k)) :
    PS (nI (min 16 (n + 1))) (nI ((x + 1) % 16)) (nI (min 16 (n + 1))) (va_cpy r rows 0 (x * 172) 172) past' dn l C O := by
  refine ⟨min 16 (n + 1), (x + 1) % 16, by omega, by omega, rfl, rfl, rfl, fun i hi => ?_⟩
  cases i with
  | zero =>
    have e : ((x + 1) % 16 + 15 - 0) % 16 = x := by omega
    rw [e]
    refine ⟨hP.congr (fun k hk => ?_) (fun _ _ => rfl) (fun k hk => h0 k hk), hB.congr (fun k hk => ?_)⟩
    · show va_cpy r rows 0 (x * 172) 172 (x * 172 + k) = r k
      rw [pk_cpy_in (by omega) (by omega)]; congr 1; omega
    · show va_cpy r rows 0 (x * 172) 172 (x * 172 + k) = r k
      rw [pk_cpy_in (by omega) (by omega)]; congr 1; omega
  | succ i =>
    have e : ((x + 1) % 16 + 15 - (i + 1)) % 16 = (x + 15 - i) % 16 := by omega
    rw [e]
    have hne : (x + 15 - i) % 16 ≠ x := by omega
    have hi2 : i < n := by omega
    refine ⟨(h i hi2).1.congr (fun k hk => ?_) (fun _ _ => rfl) (fun k hk => h1 i hi2 (by omega) k hk), (h i hi2).2.congr (fun k hk => ?_)⟩
    · show va_cpy r rows 0 (x * 172) 172 ((x + 15 - i) % 16 * 172 + k) = _
      rw [pk_cpy_out (by omega)]
    · show va_cpy r rows 0 (x * 172) 172 ((x + 15 - i) % 16 * 172 + k) = _
      rw [pk_cpy_out (by omega)]
/-- remember, both sides: the cells behind it -/
theorem rem_ok {M : qM} {l C O : Nat} (hP : RP (M 2) (M 26) (M 28)) (hB : BD (M 2) l C O) (hU : PS (M 7 0) (M 7 1) (M 25 5) (M 8) (M 30) (M 26) l C O) :
    ∃ n x : Nat, f_X6_remember M = some (qu (qu (qcp M 2 8 0 (x * 172) 172) 7 1 (nI ((x + 1) % 16))) 7 0 (nI (min 16 (n + 1)))) ∧ M 25 5 = nI n ∧
      ∀ M1 : qM, M1 25 = M 25 → M1 28 = M 28 → M1 30 = M 30 → ∃ p', f_X12_remember M1 = some (fun a => if a = 25 then upd (M1 25) 5 (nI (min 16 (n + 1))) else if a = 30 then p' else M1 a) ∧
        PS (nI (min 16 (n + 1))) (nI ((x + 1) % 16)) (nI (min 16 (n + 1))) (va_cpy (M 2) (M 8) 0 (x * 172) 172) p' (M 26) l C O := by
  obtain ⟨n, x, hn, hx, e0, e1, e2, h⟩ := hU
  refine ⟨n, x, remC hx hn e0 e1, e2, fun M1 g1 g2 g3 => ?_⟩
  have e5 : M1 25 5 = nI n := by rw [g1]; exact e2
  by_cases hlt : n < 16
  · refine ⟨va_cpy (M 28) (M 30) 0 (163 * n) 163, ?_, PS_push hx hn h hP hB (fun k hk => ?_) (fun i hi hi2 k hk => ?_)⟩
    · rw [remM_lt hlt e5]
      congr 1
      funext a b
      unfold qu qcp
      rw [g2, g3, show min 16 (n + 1) = n + 1 by omega]
      by_cases ha : a = 25
      · subst ha; simp [upd]
      · by_cases hb : a = 30
        · subst hb; simp
        · simp [ha, hb]
    · rw [show min 16 (n + 1) - 1 = n by omega, pk_cpy_in (by omega) (by omega)]; congr 1; omega
    · rw [pk_cpy_out (by omega)]; congr 1; omega
  · have hn16 : n = 16 := by omega
    subst hn16
    refine ⟨va_cpy (M 28) (shf (M 30) 0) 0 2445 163, ?_, PS_push hx hn h hP hB (fun k hk => ?_) (fun i hi hi2 k hk => ?_)⟩
    · rw [remM_16 e5]
      congr 1
      funext a b
      unfold qu qcp
      simp only [g2, g3]
      by_cases ha : a = 25
      · subst ha; simp [upd]; by_cases hb : b = 5 <;> simp [hb]
      · by_cases hb : a = 30
        · subst hb; simp
        · simp [ha, hb]
    · rw [show 163 * (min 16 (16 + 1) - 1) + k = 2445 + k by omega, pk_cpy_in (by omega) (by omega), show 0 + (2445 + k - 2445) = k by omega]
    · rw [pk_cpy_out (by omega)]
      unfold shf
      rw [if_pos (by omega)]; congr 1; omega
