theorem kn_or : ∀ a, a < 32 → ∀ y, y < 5 → nI a ||| (nI 1 <<< (nI y &&& 31)) = nI (a ||| 2 ^ y) ∧ a ||| 2 ^ y < 32 := by decide +kernel
theorem kn_and : ∀ a, a < 32 → ∀ y, y < 5 → nI a &&& ((nI 1 <<< (nI y &&& 31)) ^^^ (-1 : Int32)) = nI (a &&& (31 - 2 ^ y)) ∧ a &&& (31 - 2 ^ y) < 32 := by decide +kernel
theorem op_teach {M : qM} {J : qJ} (hI : Inv M J) (a1 : Int32) (a2 : Int32) (a3 : Int32) (h3 : a3 = nI 0 ∨ a3 = nI 1) : ∃ r M1 M2, f_X11_teach a1 a2 a3 M = some (r, M1) ∧ f_X12_teach a1 a2 a3 M1 = some (r, M2) ∧ Inv M2 J := by
  obtain ⟨l, C, O, hP, hB, hT, hF, hS, hY, hK, hU, hM, hR⟩ := id hI
  have hc1 := hBo hB
  have hc2 := h26o hP hB
  unfold f_X11_teach f_X12_teach
  simp only [hasObjector_eq hc1.1 hc1.2, isOutside_eq, Option.bind_some]
  cases hb : inb a1 (nI 0) (nI O - nI 1) with
  | false =>
    refine ⟨(-1000000001 : Int32), M, M, rfl, ?_, hI⟩
    simp only [isObjector_eq hc2, hb, Option.bind_some, Bool.false_eq_true, if_false]
  | true =>
  cases hw : inb a2 (nI 0) (nI 4) with
  | false =>
    refine ⟨(-1000000002 : Int32), M, M, rfl, ?_, hI⟩
    simp only [isObjector_eq hc2, in_ll _ _ (show 0 < 2 ^ 31 by decide) (show 4 < 2 ^ 31 by decide), hb, hw, Option.bind_some, Bool.false_eq_true, if_false, if_true]
  | true =>
  obtain ⟨z, hz, rfl⟩ := inb_sub hb (by omega)
  obtain ⟨y, -, hy, rfl⟩ := inb_nI hw (by decide) (by decide)
  obtain ⟨-, -, kn, hkn, ek⟩ := hB.2.2.2.2.2.2.2.2 z (by omega)
  have ek2 : M 28 (55 + z) = nI kn := (hP.2.2.2.1 z (by omega)).2.2.symm.trans ek
  simp only [Bool.not_true, Bool.false_eq_true, if_false, if_true]
  obtain ⟨n, x, e1, e2, hrem⟩ := rem_ok hP hB hU
  have main : ∀ u : Nat, u < 32 → (∀ p', PS (nI (min 16 (n + 1))) (nI ((x + 1) % 16)) (nI (min 16 (n + 1))) (va_cpy (M 2) (M 8) 0 (x * 172) 172) p' (M 26) l C O → Inv (qu (Frem (qu (Mrem M n x) 2 (66 + z) (nI u)) n p') 28 (55 + z) (nI u)) J) := by
    intro u hu p' hPS
    refine ⟨l, C, O, ?_, ?_, hT, hF, hS, hY, hK, hPS, hM, hR⟩
    · show RP (qu (Mrem M n x) 2 (66 + z) (nI u) 2) (M 26) (qu (Frem (qu (Mrem M n x) 2 (66 + z) (nI u)) n p') 28 (55 + z) (nI u) 28)
      rw [qu_row, qu_row]
      exact RP_k (by omega) hP
    · show BD (qu (Mrem M n x) 2 (66 + z) (nI u) 2) l C O
      rw [qu_row]
      exact BD_k (by omega) (by omega) hB
  have g1 : Mrem M n x 2 (66 + z) = nI kn := ek
  rcases h3 with rfl | rfl
  · obtain ⟨q1, q2⟩ := kn_and kn hkn y (by omega)
    obtain ⟨p', e3, hPS⟩ := hrem (qu (Mrem M n x) 2 (66 + z) (nI (kn &&& (31 - 2 ^ y)))) rfl rfl rfl
    refine ⟨nI (kn &&& (31 - 2 ^ y)), qu (Mrem M n x) 2 (66 + z) (nI (kn &&& (31 - 2 ^ y))), _, ?_, ?_, main _ q2 p' hPS⟩
    · rw [e1]
      simp only [Option.bind_some, if_pos (show nI 0 = 0 from rfl), f_X5_known, f_X5_setKnown, nI_add, qrd_nI (show 66 + z < 172 by omega) (show 172 < 2 ^ 31 by decide), qwr_nI (show 66 + z < 172 by omega) (show 172 < 2 ^ 31 by decide), g1, q1]
      rw [qu_row, pk_us]
    · have hq : (qu (Mrem M n x) 2 (66 + z) (nI (kn &&& (31 - 2 ^ y)))) 26 2 = nI O := hc2
      simp only [isObjector_eq hq, in_ll _ _ (show 0 < 2 ^ 31 by decide) (show 4 < 2 ^ 31 by decide), hb, hw, Option.bind_some, if_true]
      rw [e3]
      simp only [Option.bind_some, if_pos (show nI 0 = 0 from rfl), nI_add, qrd_nI (show 55 + z < 163 by omega) (show 163 < 2 ^ 31 by decide), qwr_nI (show 55 + z < 163 by omega) (show 163 < 2 ^ 31 by decide)]
      have g2 : (if (28 : Nat) = 25 then upd (qu (Mrem M n x) 2 (66 + z) (nI (kn &&& (31 - 2 ^ y))) 25) 5 (nI (min 16 (n + 1))) else if (28 : Nat) = 30 then p' else qu (Mrem M n x) 2 (66 + z) (nI (kn &&& (31 - 2 ^ y))) 28) (55 + z) = nI kn := ek2
      rw [g2, q1, qu_row, pk_us]
  · obtain ⟨q1, q2⟩ := kn_or kn hkn y (by omega)
    obtain ⟨p', e3, hPS⟩ := hrem (qu (Mrem M n x) 2 (66 + z) (nI (kn ||| 2 ^ y))) rfl rfl rfl
    refine ⟨nI (kn ||| 2 ^ y), qu (Mrem M n x) 2 (66 + z) (nI (kn ||| 2 ^ y)), _, ?_, ?_, main _ q2 p' hPS⟩
    · rw [e1]
      simp only [Option.bind_some, if_neg (show ¬ nI 1 = 0 by decide), f_X5_known, f_X5_setKnown, nI_add, qrd_nI (show 66 + z < 172 by omega) (show 172 < 2 ^ 31 by decide), qwr_nI (show 66 + z < 172 by omega) (show 172 < 2 ^ 31 by decide), g1, q1]
      rw [qu_row, pk_us]
    · have hq : (qu (Mrem M n x) 2 (66 + z) (nI (kn ||| 2 ^ y))) 26 2 = nI O := hc2
      simp only [isObjector_eq hq, in_ll _ _ (show 0 < 2 ^ 31 by decide) (show 4 < 2 ^ 31 by decide), hb, hw, Option.bind_some, if_true]
      rw [e3]
      simp only [Option.bind_some, if_neg (show ¬ nI 1 = 0 by decide), nI_add, qrd_nI (show 55 + z < 163 by omega) (show 163 < 2 ^ 31 by decide), qwr_nI (show 55 + z < 163 by omega) (show 163 < 2 ^ 31 by decide)]
      have g2 : (if (28 : Nat) = 25 then upd (qu (Mrem M n x) 2 (66 + z) (nI (kn ||| 2 ^ y)) 25) 5 (nI (min 16 (n + 1))) else if (28 : Nat) = 30 then p' else qu (Mrem M n x) 2 (66 + z) (nI (kn ||| 2 ^ y)) 28) (55 + z) = nI kn := ek2
      rw [g2, q1, qu_row, pk_us]
theorem op_undo {M : qM} {J : qJ} (hI : Inv M J)  : ∃ r M1 M2, f_X11_undo  M = some (r, M1) ∧ f_X12_undo  M1 = some (r, M2) ∧ Inv M2 J := by
  obtain ⟨l, C, O, hP, hB, hT, hF, hS, hY, hK, ⟨n, x, hn, hx, e0, e1, e2, h⟩, hM, hR⟩ := id hI
  unfold f_X11_undo f_X12_undo
  by_cases h0 : n = 0
  · subst h0
    exact ⟨_, M, M, if_pos e0, if_pos e2, hI⟩
  · have hx1 : (x + 16 - 1) % 16 = (x + 15 - 0) % 16 := by omega
    have hne : ∀ k : Nat, k = n → ¬ nI k = 0 := fun k hk => nI_ne0 (by omega) (by omega)
    have hr0 := h 0 (by omega)
    refine ⟨nI (n - 1), qcp (qu (qu M 7 1 (nI ((x + 15 - 0) % 16))) 7 0 (nI (n - 1))) 8 2 ((x + 15 - 0) % 16 * 172) 0 172, qcp (qu (qcp (qu (qu M 7 1 (nI ((x + 15 - 0) % 16))) 7 0 (nI (n - 1))) 8 2 ((x + 15 - 0) % 16 * 172) 0 172) 25 5 (nI (n - 1))) 30 28 (163 * (n - 1)) 0 163, ?_, ?_, l, C, O, ?_, ?_, hT, hF, hS, hY, hK, ⟨n - 1, (x + 15 - 0) % 16, by omega, by omega, rfl, rfl, rfl, ?_⟩, hM, hR⟩
    · rw [e0, if_neg (hne n rfl)]
      unfold f_X6_restore f_X5_copyFrom_at1_8
      rw [e1, nI_add, pk_sub (by omega), qrem_nI (by omega) (by omega) (by omega), hx1]
      simp only [Option.bind_some, qpu]
      have g1 : ∀ v, qu M 7 1 v 7 0 = nI n := fun v => e0
      rw [g1, pk_sub (by omega)]
      have g2 : ∀ v w, qu (qu M 7 1 v) 7 0 w 7 1 = v := fun v w => rfl
      rw [g2, pk_mul, qco_nI (by omega) (by omega) (by decide) (by decide)]
      rfl
    · have g3 : (qcp (qu (qu M 7 1 (nI ((x + 15 - 0) % 16))) 7 0 (nI (n - 1))) 8 2 ((x + 15 - 0) % 16 * 172) 0 172) 25 5 = nI n := e2
      rw [g3, if_neg (hne n rfl), pk_sub (by omega)]
      simp only [Option.bind_some, qpu]
      have g4 : ∀ (X : qM) v, qu X 25 5 v 25 5 = v := fun X v => rfl
      rw [g4, pk_mul, cp_30_28 (by omega) (by omega)]
      rfl
    · refine hr0.1.congr (fun k hk => ?_) (fun _ _ => rfl) (fun k hk => ?_)
      · show va_cpy (M 8) (M 2) ((x + 15 - 0) % 16 * 172) 0 172 k = _
        rw [pk_cpy_in (by omega) (by omega)]; congr 1
      · show va_cpy (M 30) (M 28) (163 * (n - 1)) 0 163 k = _
        rw [pk_cpy_in (by omega) (by omega)]; rfl
    · refine hr0.2.congr (fun k hk => ?_)
      show va_cpy (M 8) (M 2) ((x + 15 - 0) % 16 * 172) 0 172 k = _
      rw [pk_cpy_in (by omega) (by omega)]; congr 1
    · intro i hi
      have e : ((x + 15 - 0) % 16 + 15 - i) % 16 = (x + 15 - (i + 1)) % 16 := by omega
      have := h (i + 1) (by omega)
      rw [show n - 1 - (i + 1) = n - 1 - 1 - i by omega] at this
      rw [e]
      exact this
theorem kb_or : ∀ kb, kb < 4 → ∀ i, i < 2 → nI kb ||| (nI 1 <<< (nI i &&& 31)) = nI (kb ||| 2 ^ i) ∧ kb ||| 2 ^ i < 4 ∧ ∀ j, j < 2 → (kb ||| 2 ^ i) / 2 ^ j % 2 = if j = i then 1 else kb / 2 ^ j % 2 := by decide +kernel
theorem op_keep {M : qM} {J : qJ} (hI : Inv M J) (a1 : Int32) : ∃ r M1 M2, f_X11_keep a1 M = some (r, M1) ∧ f_X12_keep a1 M1 J = some (r, M2) ∧ Inv M2 J := by
  obtain ⟨l, C, O, hP, hB, hT, hF, ⟨s, hs, es, ej⟩, hY, hK, ⟨n, x, hn, hx, e0, e1, e2, h⟩, ⟨kb, hkb, ek, hk⟩, hR⟩ := id hI
  unfold f_X11_keep f_X12_keep
  simp only [isOutside_eq, in_ll _ _ (show 0 < 2 ^ 31 by decide) (show 1 < 2 ^ 31 by decide), Option.bind_some]
  cases hb : inb a1 (nI 0) (nI 1) with
  | false => exact ⟨_, M, M, rfl, rfl, hI⟩
  | true =>
  obtain ⟨i, -, hi, rfl⟩ := inb_nI hb (by decide) (by decide)
  obtain ⟨q1, q2, q3⟩ := kb_or kb hkb i (by omega)
  simp only [Bool.not_true, Bool.false_eq_true, if_false, if_true]
  refine ⟨nI 1, qu (qu (qu (qcp M 2 10 0 (i * 172) 172) 11 i (nI s)) 9 2 (nI (kb ||| 2 ^ i))) 7 0 (nI 0), qu (qu (qu (qcp (qu (qu (qu (qcp M 2 10 0 (i * 172) 172) 11 i (nI s)) 9 2 (nI (kb ||| 2 ^ i))) 7 0 (nI 0)) 28 31 0 (164 * i) 163) 31 (164 * i + 163) (nI s)) 32 i (nI 1)) 25 5 (nI 0), ?_, ?_, l, C, O, hP, hB, hT, hF, ⟨s, hs, es, ej⟩, hY, hK, ⟨0, x, by omega, hx, rfl, e1, rfl, fun i hi => by omega⟩, ⟨kb ||| 2 ^ i, q2, rfl, ?_⟩, hR⟩
  · unfold f_X3_store f_X5_copyTo_at1_10 f_X6_forget
    rw [pk_mul, qco_nI (by omega) (by omega) (by decide) (by decide), es]
    simp only [Option.bind_some]
    rw [qwr_nI (by omega) (by decide)]
    simp only [Option.bind_some, qpu]
    have g1 : (qu (qcp M 2 10 0 (i * 172) 172) 11 i (nI s)) 9 2 = nI kb := ek
    rw [g1, q1]
  · rw [pk_mul, cp_28_31 (by omega) (by omega), ej, lN_i]
    simp only [Option.bind_some, nI_add]
    rw [qwr_nI (by omega) (by decide)]
    simp only [Option.bind_some]
    rw [qwz_nI (by omega) (by decide)]
    rfl
  · intro j hj
    rw [q3 j hj]
    show (if j = i then nI 1 else M 32 j) = _ ∧ (_ → RP (fun k => va_cpy (M 2) (M 10) 0 (i * 172) 172 (j * 172 + k)) (M 26) (fun k => if 164 * j + k = 164 * i + 163 then nI s else va_cpy (M 28) (M 31) 0 (164 * i) 163 (164 * j + k)) ∧ BD (fun k => va_cpy (M 2) (M 10) 0 (i * 172) 172 (j * 172 + k)) l C O ∧ ∃ z, z < 2 ^ 31 ∧ (if j = i then nI s else M 11 j) = nI z ∧ (if 164 * j + 163 = 164 * i + 163 then nI s else va_cpy (M 28) (M 31) 0 (164 * i) 163 (164 * j + 163)) = nI z)
    by_cases hji : j = i
    · subst hji
      rw [if_pos rfl, if_pos rfl]
      refine ⟨rfl, fun _ => ⟨hP.congr (fun k hk => ?_) (fun _ _ => rfl) (fun k hk => ?_), hB.congr (fun k hk => ?_), s, hs, by rw [if_pos rfl], by rw [if_pos rfl]⟩⟩
      · show va_cpy (M 2) (M 10) 0 (j * 172) 172 (j * 172 + k) = _
        rw [pk_cpy_in (by omega) (by omega)]; congr 1; omega
      · show (if 164 * j + k = 164 * j + 163 then nI s else va_cpy (M 28) (M 31) 0 (164 * j) 163 (164 * j + k)) = _
        rw [if_neg (by omega), pk_cpy_in (by omega) (by omega)]; congr 1; omega
      · show va_cpy (M 2) (M 10) 0 (j * 172) 172 (j * 172 + k) = _
        rw [pk_cpy_in (by omega) (by omega)]; congr 1; omega
    · rw [if_neg hji, if_neg hji]
      obtain ⟨r1, r2⟩ := hk j hj
      refine ⟨r1, fun hb1 => ?_⟩
      obtain ⟨r3, r4, z, hz, r5, r6⟩ := r2 hb1
      refine ⟨r3.congr (fun k hk => ?_) (fun _ _ => rfl) (fun k hk => ?_), r4.congr (fun k hk => ?_), z, hz, ?_, ?_⟩
      · show va_cpy (M 2) (M 10) 0 (i * 172) 172 (j * 172 + k) = _
        rw [pk_cpy_out (by omega)]
      · show (if 164 * j + k = 164 * i + 163 then nI s else va_cpy (M 28) (M 31) 0 (164 * i) 163 (164 * j + k)) = _
        rw [if_neg (by omega), pk_cpy_out (by omega)]
      · show va_cpy (M 2) (M 10) 0 (i * 172) 172 (j * 172 + k) = _
        rw [pk_cpy_out (by omega)]
      · rw [if_neg hji]; exact r5
      · rw [if_neg (by omega), pk_cpy_out (by omega)]; exact r6
theorem op_goBack {M : qM} {J : qJ} (hI : Inv M J) (a1 : Int32) : ∃ r M1 M2 J2, f_X11_goBack a1 M = some (r, M1) ∧ f_X12_goBack a1 M1 J = some (r, M2, J2) ∧ Inv M2 J2 := by
  obtain ⟨l, C, O, hP, hB, hT, hF, hS, hY, hK, ⟨n, x, hn, hx, e0, e1, e2, h⟩, ⟨kb, hkb, ek, hk⟩, hR⟩ := id hI
  unfold f_X11_goBack f_X12_goBack
  simp only [isOutside_eq, in_ll _ _ (show 0 < 2 ^ 31 by decide) (show 1 < 2 ^ 31 by decide), Option.bind_some]
  cases hb : inb a1 (nI 0) (nI 1) with
  | false => exact ⟨_, M, M, J, rfl, rfl, hI⟩
  | true =>
  obtain ⟨i, -, hi, rfl⟩ := inb_nI hb (by decide) (by decide)
  obtain ⟨r1, r2⟩ := hk i (by omega)
  simp only [Bool.not_true, Bool.false_eq_true, if_false, if_true, f_X3_isKept, ek, bit_nI (show kb < 2 ^ 31 by omega) (show i < 32 by omega)]
  have hm : kb / 2 ^ i % 2 = 0 ∨ kb / 2 ^ i % 2 = 1 := by omega
  rcases hm with hm | hm
  · rw [hm]
    refine ⟨(-1000000003 : Int32), M, M, J, rfl, ?_, hI⟩
    rw [qrd_nI (by omega) (by decide), r1, hm]
    rfl
  · obtain ⟨r3, r4, z, hz, r5, r6⟩ := r2 hm
    rw [hm]
    refine ⟨nI 1, qu (qu (qcp M 10 2 (i * 172) 0 172) 12 0 (nI z)) 7 0 (nI 0), qu (qcp (qu (qu (qcp M 10 2 (i * 172) 0 172) 12 0 (nI z)) 7 0 (nI 0)) 31 28 (164 * i) 0 163) 25 5 (nI 0), qv J 25 8 (lN z), ?_, ?_, l, C, O, ?_, ?_, hT, hF, ⟨z, hz, rfl, rfl⟩, hY, hK, ⟨0, x, by omega, hx, rfl, e1, rfl, fun i hi => by omega⟩, ⟨kb, hkb, ek, hk⟩, hR⟩
    · simp only [if_pos, Option.bind_some, f_X3_fetch, f_X5_copyFrom_at1_10, f_X6_forget, pk_mul, qco_nI (show i * 172 + 172 ≤ 344 by omega) (show 0 + 172 ≤ 172 by omega) (show 344 < 2 ^ 31 by decide) (show 172 < 2 ^ 31 by decide), qrd_nI (show i < 2 by omega) (show 2 < 2 ^ 31 by decide), qpu]
      have g1 : (qcp M 10 2 (i * 172) 0 172) 11 i = nI z := r5
      rw [g1]
    · rw [qrd_nI (by omega) (by decide)]
      simp only [Option.bind_some]
      have g2 : (qu (qu (qcp M 10 2 (i * 172) 0 172) 12 0 (nI z)) 7 0 (nI 0)) 32 i = nI 1 := by rw [← hm]; exact r1
      rw [g2, if_neg (by decide), pk_mul, cp_31_28 (by omega) (by omega)]
      simp only [Option.bind_some, nI_add]
      rw [qrd_nI (by omega) (by decide)]
      have g3 : (qcp (qu (qu (qcp M 10 2 (i * 172) 0 172) 12 0 (nI z)) 7 0 (nI 0)) 31 28 (164 * i) 0 163) 31 (164 * i + 163) = nI z := r6
      rw [g3, ← nI_l hz]
      rfl
    · refine r3.congr (fun k hk => ?_) (fun _ _ => rfl) (fun k hk => ?_)
      · show va_cpy (M 10) (M 2) (i * 172) 0 172 k = _
        rw [pk_cpy_in (by omega) (by omega)]; congr 1
      · show va_cpy (M 31) (M 28) (164 * i) 0 163 k = _
        rw [pk_cpy_in (by omega) (by omega)]; rfl
    · refine r4.congr (fun k hk => ?_)
      show va_cpy (M 10) (M 2) (i * 172) 0 172 k = _
      rw [pk_cpy_in (by omega) (by omega)]; congr 1
