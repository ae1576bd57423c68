theorem RP_w {r dn nw : Nat → Int32} {k : Nat} {v : Int32} (hk : k < 30) (h : RP r dn nw) : RP (upd r (24 + k) v) dn (upd nw (19 + k) v) := by
  obtain ⟨⟨a0, a1, a2, a3, a4, a5⟩, b, c, d, e⟩ := h
  have R : ∀ j, j ≠ 24 + k → upd r (24 + k) v j = r j := fun j hj => pk_un hj
  have N : ∀ j, j ≠ 19 + k → upd nw (19 + k) v j = nw j := fun j hj => pk_un hj
  refine ⟨⟨?_, ?_, ?_, ?_, ?_, ?_⟩, fun i hi => ?_, fun i hi => ?_, fun i hi => ?_, fun m hm hb i hi j hj => ?_⟩
  · rw [R 0 (by omega)]; exact a0
  · rw [R 1 (by omega)]; exact a1
  · rw [R 2 (by omega)]; exact a2
  · rw [R 3 (by omega), N 0 (by omega)]; exact a3
  · rw [R 4 (by omega), N 61 (by omega)]; exact a4
  · rw [R 5 (by omega), N 62 (by omega)]; exact a5
  · rw [R (6 + i) (by omega), R (12 + i) (by omega), R (18 + i) (by omega), N (1 + i) (by omega), N (7 + i) (by omega), N (13 + i) (by omega)]; exact b i hi
  · by_cases hik : i = k
    · subst hik; rw [pk_us, pk_us]
    · rw [R (24 + i) (by omega), N (19 + i) (by omega)]; exact c i hi
  · rw [R (54 + i) (by omega), R (60 + i) (by omega), R (66 + i) (by omega), N (49 + i) (by omega), N (55 + i) (by omega)]; exact d i hi
  · rw [R 5 (by omega)] at hb
    rw [R (72 + i * 5 + j) (by omega), N (63 + 5 * (m - 1 - i) + j) (by omega)]
    exact e m hm hb i hi j hj
theorem RP_a {r dn nw : Nat → Int32} {k : Nat} {v : Int32} (hk : k < 6) (h : RP r dn nw) : RP (upd r (6 + k) v) dn (upd nw (1 + k) v) := by
  obtain ⟨⟨a0, a1, a2, a3, a4, a5⟩, b, c, d, e⟩ := h
  have R : ∀ j, j ≠ 6 + k → upd r (6 + k) v j = r j := fun j hj => pk_un hj
  have N : ∀ j, j ≠ 1 + k → upd nw (1 + k) v j = nw j := fun j hj => pk_un hj
  refine ⟨⟨?_, ?_, ?_, ?_, ?_, ?_⟩, fun i hi => ?_, fun i hi => ?_, fun i hi => ?_, fun m hm hb i hi j hj => ?_⟩
  · rw [R 0 (by omega)]; exact a0
  · rw [R 1 (by omega)]; exact a1
  · rw [R 2 (by omega)]; exact a2
  · rw [R 3 (by omega), N 0 (by omega)]; exact a3
  · rw [R 4 (by omega), N 61 (by omega)]; exact a4
  · rw [R 5 (by omega), N 62 (by omega)]; exact a5
  · by_cases hik : i = k
    · subst hik; rw [pk_us, pk_us, R (12 + i) (by omega), R (18 + i) (by omega), N (7 + i) (by omega), N (13 + i) (by omega)]; exact ⟨rfl, (b i hi).2⟩
    · rw [R (6 + i) (by omega), R (12 + i) (by omega), R (18 + i) (by omega), N (1 + i) (by omega), N (7 + i) (by omega), N (13 + i) (by omega)]; exact b i hi
  · rw [R (24 + i) (by omega), N (19 + i) (by omega)]; exact c i hi
  · rw [R (54 + i) (by omega), R (60 + i) (by omega), R (66 + i) (by omega), N (49 + i) (by omega), N (55 + i) (by omega)]; exact d i hi
  · rw [R 5 (by omega)] at hb
    rw [R (72 + i * 5 + j) (by omega), N (63 + 5 * (m - 1 - i) + j) (by omega)]
    exact e m hm hb i hi j hj
theorem RP_s {r dn nw : Nat → Int32} {k : Nat} {v : Int32} (hk : k < 6) (h : RP r dn nw) : RP (upd r (60 + k) v) dn (upd nw (49 + k) v) := by
  obtain ⟨⟨a0, a1, a2, a3, a4, a5⟩, b, c, d, e⟩ := h
  have R : ∀ j, j ≠ 60 + k → upd r (60 + k) v j = r j := fun j hj => pk_un hj
  have N : ∀ j, j ≠ 49 + k → upd nw (49 + k) v j = nw j := fun j hj => pk_un hj
  refine ⟨⟨?_, ?_, ?_, ?_, ?_, ?_⟩, fun i hi => ?_, fun i hi => ?_, fun i hi => ?_, fun m hm hb i hi j hj => ?_⟩
  · rw [R 0 (by omega)]; exact a0
  · rw [R 1 (by omega)]; exact a1
  · rw [R 2 (by omega)]; exact a2
  · rw [R 3 (by omega), N 0 (by omega)]; exact a3
  · rw [R 4 (by omega), N 61 (by omega)]; exact a4
  · rw [R 5 (by omega), N 62 (by omega)]; exact a5
  · rw [R (6 + i) (by omega), R (12 + i) (by omega), R (18 + i) (by omega), N (1 + i) (by omega), N (7 + i) (by omega), N (13 + i) (by omega)]; exact b i hi
  · rw [R (24 + i) (by omega), N (19 + i) (by omega)]; exact c i hi
  · by_cases hik : i = k
    · subst hik; rw [pk_us, pk_us, R (54 + i) (by omega), R (66 + i) (by omega), N (55 + i) (by omega)]; exact ⟨(d i hi).1, rfl, (d i hi).2.2⟩
    · rw [R (54 + i) (by omega), R (60 + i) (by omega), R (66 + i) (by omega), N (49 + i) (by omega), N (55 + i) (by omega)]; exact d i hi
  · rw [R 5 (by omega)] at hb
    rw [R (72 + i * 5 + j) (by omega), N (63 + 5 * (m - 1 - i) + j) (by omega)]
    exact e m hm hb i hi j hj
theorem RP_k {r dn nw : Nat → Int32} {k : Nat} {v : Int32} (hk : k < 6) (h : RP r dn nw) : RP (upd r (66 + k) v) dn (upd nw (55 + k) v) := by
  obtain ⟨⟨a0, a1, a2, a3, a4, a5⟩, b, c, d, e⟩ := h
  have R : ∀ j, j ≠ 66 + k → upd r (66 + k) v j = r j := fun j hj => pk_un hj
  have N : ∀ j, j ≠ 55 + k → upd nw (55 + k) v j = nw j := fun j hj => pk_un hj
  refine ⟨⟨?_, ?_, ?_, ?_, ?_, ?_⟩, fun i hi => ?_, fun i hi => ?_, fun i hi => ?_, fun m hm hb i hi j hj => ?_⟩
  · rw [R 0 (by omega)]; exact a0
  · rw [R 1 (by omega)]; exact a1
  · rw [R 2 (by omega)]; exact a2
  · rw [R 3 (by omega), N 0 (by omega)]; exact a3
  · rw [R 4 (by omega), N 61 (by omega)]; exact a4
  · rw [R 5 (by omega), N 62 (by omega)]; exact a5
  · rw [R (6 + i) (by omega), R (12 + i) (by omega), R (18 + i) (by omega), N (1 + i) (by omega), N (7 + i) (by omega), N (13 + i) (by omega)]; exact b i hi
  · rw [R (24 + i) (by omega), N (19 + i) (by omega)]; exact c i hi
  · by_cases hik : i = k
    · subst hik; rw [pk_us, pk_us, R (54 + i) (by omega), R (60 + i) (by omega), N (49 + i) (by omega)]; exact ⟨(d i hi).1, (d i hi).2.1, rfl⟩
    · rw [R (54 + i) (by omega), R (60 + i) (by omega), R (66 + i) (by omega), N (49 + i) (by omega), N (55 + i) (by omega)]; exact d i hi
  · rw [R 5 (by omega)] at hb
    rw [R (72 + i * 5 + j) (by omega), N (63 + 5 * (m - 1 - i) + j) (by omega)]
    exact e m hm hb i hi j hj
theorem BD_w {r : Nat → Int32} {k l C O u : Nat} (hk : k < 30) (hu : u ≤ 20) (h : BD r l C O) : BD (upd r (24 + k) (nI u)) l C O := by
  obtain ⟨a, b, c, d, e, f, g, i, j⟩ := h
  have R : ∀ j, j ≠ 24 + k → upd r (24 + k) (nI u) j = r j := fun j hj => pk_un hj
  refine ⟨?_, ?_, ?_, d, ?_, ?_, fun q hq => ?_, fun q hq => ?_, fun q hq => ?_⟩
  · rw [R 0 (by omega)]; exact a
  · rw [R 1 (by omega)]; exact b
  · rw [R 2 (by omega)]; exact c
  · rw [R 5 (by omega)]; exact e
  · rw [R 4 (by omega)]; exact f
  · rw [R (6 + q) (by omega), R (12 + q) (by omega)]; exact g q hq
  · by_cases hik : q = k
    · subst hik; rw [pk_us]; exact ⟨u, hu, rfl⟩
    · rw [R (24 + q) (by omega)]; exact i q hq
  · rw [R (54 + q) (by omega), R (60 + q) (by omega), R (66 + q) (by omega)]; exact j q hq
theorem BD_a {r : Nat → Int32} {k l C O u : Nat} (hk : k < 6) (hu : u ≤ 99) (h : BD r l C O) : BD (upd r (6 + k) (nI u)) l C O := by
  obtain ⟨a, b, c, d, e, f, g, i, j⟩ := h
  have R : ∀ j, j ≠ 6 + k → upd r (6 + k) (nI u) j = r j := fun j hj => pk_un hj
  refine ⟨?_, ?_, ?_, d, ?_, ?_, fun q hq => ?_, fun q hq => ?_, fun q hq => ?_⟩
  · rw [R 0 (by omega)]; exact a
  · rw [R 1 (by omega)]; exact b
  · rw [R 2 (by omega)]; exact c
  · rw [R 5 (by omega)]; exact e
  · rw [R 4 (by omega)]; exact f
  · by_cases hik : q = k
    · subst hik; rw [pk_us, R (12 + q) (by omega)]; exact ⟨⟨u, hu, rfl⟩, (g q hq).2⟩
    · rw [R (6 + q) (by omega), R (12 + q) (by omega)]; exact g q hq
  · rw [R (24 + q) (by omega)]; exact i q hq
  · rw [R (54 + q) (by omega), R (60 + q) (by omega), R (66 + q) (by omega)]; exact j q hq
theorem BD_s {r : Nat → Int32} {k l C O u : Nat} (hk : k < 6) (hu : u ≤ 40) (h : BD r l C O) : BD (upd r (60 + k) (nI u)) l C O := by
  obtain ⟨a, b, c, d, e, f, g, i, j⟩ := h
  have R : ∀ j, j ≠ 60 + k → upd r (60 + k) (nI u) j = r j := fun j hj => pk_un hj
  refine ⟨?_, ?_, ?_, d, ?_, ?_, fun q hq => ?_, fun q hq => ?_, fun q hq => ?_⟩
  · rw [R 0 (by omega)]; exact a
  · rw [R 1 (by omega)]; exact b
  · rw [R 2 (by omega)]; exact c
  · rw [R 5 (by omega)]; exact e
  · rw [R 4 (by omega)]; exact f
  · rw [R (6 + q) (by omega), R (12 + q) (by omega)]; exact g q hq
  · rw [R (24 + q) (by omega)]; exact i q hq
  · by_cases hik : q = k
    · subst hik; rw [pk_us, R (54 + q) (by omega), R (66 + q) (by omega)]; exact ⟨(j q hq).1, ⟨u, hu, rfl⟩, (j q hq).2.2⟩
    · rw [R (54 + q) (by omega), R (60 + q) (by omega), R (66 + q) (by omega)]; exact j q hq
theorem BD_k {r : Nat → Int32} {k l C O u : Nat} (hk : k < 6) (hu : u < 32) (h : BD r l C O) : BD (upd r (66 + k) (nI u)) l C O := by
  obtain ⟨a, b, c, d, e, f, g, i, j⟩ := h
  have R : ∀ j, j ≠ 66 + k → upd r (66 + k) (nI u) j = r j := fun j hj => pk_un hj
  refine ⟨?_, ?_, ?_, d, ?_, ?_, fun q hq => ?_, fun q hq => ?_, fun q hq => ?_⟩
  · rw [R 0 (by omega)]; exact a
  · rw [R 1 (by omega)]; exact b
  · rw [R 2 (by omega)]; exact c
  · rw [R 5 (by omega)]; exact e
  · rw [R 4 (by omega)]; exact f
  · rw [R (6 + q) (by omega), R (12 + q) (by omega)]; exact g q hq
  · rw [R (24 + q) (by omega)]; exact i q hq
  · by_cases hik : q = k
    · subst hik; rw [pk_us, R (54 + q) (by omega), R (60 + q) (by omega)]; exact ⟨(j q hq).1, (j q hq).2.1, ⟨u, hu, rfl⟩⟩
    · rw [R (54 + q) (by omega), R (60 + q) (by omega), R (66 + q) (by omega)]; exact j q hq
theorem hBc {M : qM} {l C O : Nat} (hB : BD (M 2) l C O) : M 2 1 = nI C ∧ C ≤ 6 := hB.2.1
theorem hBo {M : qM} {l C O : Nat} (hB : BD (M 2) l C O) : M 2 2 = nI O ∧ O ≤ 6 := hB.2.2.1
theorem h26c {M : qM} {l C O : Nat} (hP : RP (M 2) (M 26) (M 28)) (hB : BD (M 2) l C O) : M 26 1 = nI C := hP.1.2.1.symm.trans hB.2.1.1
theorem h26o {M : qM} {l C O : Nat} (hP : RP (M 2) (M 26) (M 28)) (hB : BD (M 2) l C O) : M 26 2 = nI O := hP.1.2.2.1.symm.trans hB.2.2.1.1
abbrev Mrem (M : qM) (n x : Nat) : qM := qu (qu (qcp M 2 8 0 (x * 172) 172) 7 1 (nI ((x + 1) % 16))) 7 0 (nI (min 16 (n + 1)))
abbrev Frem (M1 : qM) (n : Nat) (p' : Nat → Int32) : qM := fun a => if a = 25 then upd (M1 25) 5 (nI (min 16 (n + 1))) else if a = 30 then p' else M1 a
theorem op_hear {M : qM} {J : qJ} (hI : Inv M J) (a1 : Int32) (a2 : Int32) (a3 : Int32) : ∃ r M1 M2, f_X11_hear a1 a2 a3 M = some (r, M1) ∧ f_X12_hear a1 a2 a3 M1 = some (r, M2) ∧ Inv M2 J := by
  obtain ⟨l, C, O, hP, hB, hT, hF, hS, hY, hK, hU, hM, hR⟩ := id hI
  have hc1 := hBc hB
  have hc2 := h26c hP hB
  unfold f_X11_hear f_X12_hear
  simp only [hasCouple_eq hc1.1 hc1.2, isOutside_eq, Option.bind_some]
  cases hb : inb a1 (nI 0) (nI C - nI 1) with
  | false =>
    refine ⟨(-1000000001 : Int32), M, M, rfl, ?_, hI⟩
    simp only [isCouple_eq hc2, hb, Option.bind_some, Bool.false_eq_true, if_false]
  | true =>
  cases hy : inb a2 (nI 0) (nI 4) with
  | false =>
    simp only [Bool.not_false, Bool.not_true, Bool.false_eq_true, if_false, if_true]
    refine ⟨(-1000000002 : Int32), M, M, rfl, ?_, hI⟩
    simp only [isCouple_eq hc2, in_ll _ _ (show 0 < 2 ^ 31 by decide) (show 4 < 2 ^ 31 by decide), in_ll _ _ (show 0 < 2 ^ 31 by decide) (show 20 < 2 ^ 31 by decide), hb, hy, Option.bind_some, Bool.false_eq_true, if_false, if_true]
  | true =>
  cases hw : inb a3 (nI 0) (nI 20) with
  | false =>
    simp only [Bool.not_false, Bool.not_true, Bool.false_eq_true, if_false, if_true]
    refine ⟨(-1000000002 : Int32), M, M, rfl, ?_, hI⟩
    simp only [isCouple_eq hc2, in_ll _ _ (show 0 < 2 ^ 31 by decide) (show 4 < 2 ^ 31 by decide), in_ll _ _ (show 0 < 2 ^ 31 by decide) (show 20 < 2 ^ 31 by decide), hb, hy, hw, Option.bind_some, Bool.false_eq_true, if_false, if_true]
  | true =>
  obtain ⟨z, hz, rfl⟩ := inb_sub hb (by omega)
  obtain ⟨y, -, hy2, rfl⟩ := inb_nI hy (by decide) (by decide)
  obtain ⟨w, -, hw2, rfl⟩ := inb_nI hw (by decide) (by decide)
  simp only [Bool.not_true, Bool.false_eq_true, if_false, if_true]
  obtain ⟨n, x, e1, e2, hrem⟩ := rem_ok hP hB hU
  obtain ⟨p', e3, hPS⟩ := hrem (qu (Mrem M n x) 2 (24 + (z * 5 + y)) (nI w)) rfl rfl rfl
  refine ⟨M 2 (24 + (z * 5 + y)), qu (Mrem M n x) 2 (24 + (z * 5 + y)) (nI w), qu (Frem (qu (Mrem M n x) 2 (24 + (z * 5 + y)) (nI w)) n p') 28 (19 + (z * 5 + y)) (nI w), ?_, ?_, l, C, O, ?_, ?_, hT, hF, hS, hY, hK, hPS, hM, hR⟩
  · simp only [f_X5_weight, f_X5_setWeight, e1, pk_mul, nI_add, Option.bind_some, qrd_nI (show 24 + z * 5 + y < 172 by omega) (show 172 < 2 ^ 31 by decide), qwr_nI (show 24 + z * 5 + y < 172 by omega) (show 172 < 2 ^ 31 by decide)]
    rw [show 24 + z * 5 + y = 24 + (z * 5 + y) by omega]
  · have hq : (qu (Mrem M n x) 2 (24 + (z * 5 + y)) (nI w)) 26 1 = nI C := hc2
    simp only [isCouple_eq hq, in_ll _ _ (show 0 < 2 ^ 31 by decide) (show 4 < 2 ^ 31 by decide), in_ll _ _ (show 0 < 2 ^ 31 by decide) (show 20 < 2 ^ 31 by decide), hb, hy, hw, Option.bind_some, if_true, pk_mul, nI_add]
    rw [e3]
    simp only [Option.bind_some]
    rw [show 19 + 5 * z + y = 19 + (z * 5 + y) by omega, qrd_nI (show 19 + (z * 5 + y) < 163 by omega) (by decide), qwr_nI (show 19 + (z * 5 + y) < 163 by omega) (by decide)]
    simp only [Option.bind_some]
    show some (M 28 (19 + (z * 5 + y)), _) = _
    rw [← hP.2.2.1 (z * 5 + y) (by omega)]
  · show RP (qu (Mrem M n x) 2 (24 + (z * 5 + y)) (nI w) 2) (M 26) (qu (Frem (qu (Mrem M n x) 2 (24 + (z * 5 + y)) (nI w)) n p') 28 (19 + (z * 5 + y)) (nI w) 28)
    rw [qu_row, qu_row]
    exact RP_w (by omega) hP
  · show BD (qu (Mrem M n x) 2 (24 + (z * 5 + y)) (nI w) 2) l C O
    rw [qu_row]
    exact BD_w (by omega) (by omega) hB
theorem op_practise {M : qM} {J : qJ} (hI : Inv M J) (a1 : Int32) (a2 : Int32) : ∃ r M1 M2, f_X11_practise a1 a2 M = some (r, M1) ∧ f_X12_practise a1 a2 M1 = some (r, M2) ∧ Inv M2 J := by
  obtain ⟨l, C, O, hP, hB, hT, hF, hS, hY, hK, hU, hM, hR⟩ := id hI
  have hc1 := hBc hB
  have hc2 := h26c hP hB
  unfold f_X11_practise f_X12_practise
  simp only [hasCouple_eq hc1.1 hc1.2, isOutside_eq, Option.bind_some]
  cases hb : inb a1 (nI 0) (nI C - nI 1) with
  | false =>
    refine ⟨(-1000000001 : Int32), M, M, rfl, ?_, hI⟩
    simp only [isCouple_eq hc2, hb, Option.bind_some, Bool.false_eq_true, if_false]
  | true =>
  cases hw : inb a2 (nI 0) (nI 99) with
  | false =>
    simp only [Bool.not_false, Bool.not_true, Bool.false_eq_true, if_false, if_true]
    refine ⟨(-1000000002 : Int32), M, M, rfl, ?_, hI⟩
    simp only [isCouple_eq hc2, in_ll _ _ (show 0 < 2 ^ 31 by decide) (show 99 < 2 ^ 31 by decide), hb, hw, Option.bind_some, Bool.false_eq_true, if_false, if_true]
  | true =>
  obtain ⟨z, hz, rfl⟩ := inb_sub hb (by omega)
  obtain ⟨w, -, hw2, rfl⟩ := inb_nI hw (by decide) (by decide)
  simp only [Bool.not_true, Bool.false_eq_true, if_false, if_true]
  have hst := (hP.2.1 z (by omega)).2.1
  simp only [f_X5_waits, nI_add, qrd_nI (show 12 + z < 172 by omega) (show 172 < 2 ^ 31 by decide), Option.bind_some]
  by_cases hwt : M 2 (12 + z) = 0
  · simp only [if_pos hwt, Option.bind_some, if_true]
    obtain ⟨n, x, e1, e2, hrem⟩ := rem_ok hP hB hU
    obtain ⟨p', e3, hPS⟩ := hrem (qu (Mrem M n x) 2 (6 + z) (nI w)) rfl rfl rfl
    refine ⟨M 2 (6 + z), qu (Mrem M n x) 2 (6 + z) (nI w), qu (Frem (qu (Mrem M n x) 2 (6 + z) (nI w)) n p') 28 (1 + z) (nI w), ?_, ?_, l, C, O, ?_, ?_, hT, hF, hS, hY, hK, hPS, hM, hR⟩
    · simp only [f_X5_answer, f_X5_setAnswer, e1, pk_mul, nI_add, Option.bind_some, qrd_nI (show 6 + z < 172 by omega) (show 172 < 2 ^ 31 by decide), qwr_nI (show 6 + z < 172 by omega) (show 172 < 2 ^ 31 by decide)]
    · have hq : (qu (Mrem M n x) 2 (6 + z) (nI w)) 26 1 = nI C := hc2
      simp only [isCouple_eq hq, in_ll _ _ (show 0 < 2 ^ 31 by decide) (show 99 < 2 ^ 31 by decide), hb, hw, Option.bind_some, if_true, pk_mul, nI_add]
      rw [qrd_nI (show 7 + z < 163 by omega) (by decide)]
      simp only [Option.bind_some]
      rw [if_pos (show (qu (Mrem M n x) 2 (6 + z) (nI w)) 28 (7 + z) = 0 from hst.symm.trans hwt)]
      rw [e3]
      simp only [Option.bind_some]
      rw [show 1 + z = 1 + z by omega, qrd_nI (show 1 + z < 163 by omega) (by decide), qwr_nI (show 1 + z < 163 by omega) (by decide)]
      simp only [Option.bind_some]
      show some (M 28 (1 + z), _) = _
      rw [← (hP.2.1 z (by omega)).1]
    · show RP (qu (Mrem M n x) 2 (6 + z) (nI w) 2) (M 26) (qu (Frem (qu (Mrem M n x) 2 (6 + z) (nI w)) n p') 28 (1 + z) (nI w) 28)
      rw [qu_row, qu_row]
      exact RP_a (by omega) hP
    · show BD (qu (Mrem M n x) 2 (6 + z) (nI w) 2) l C O
      rw [qu_row]
      exact BD_a (by omega) (by omega) hB
  · simp only [if_neg hwt, Option.bind_some, Bool.false_eq_true, if_false]
    refine ⟨(-1000000003 : Int32), M, M, rfl, ?_, hI⟩
    simp only [isCouple_eq hc2, in_ll _ _ (show 0 < 2 ^ 31 by decide) (show 99 < 2 ^ 31 by decide), hb, hw, Option.bind_some, if_true, nI_add, qrd_nI (show 7 + z < 163 by omega) (show 163 < 2 ^ 31 by decide)]
    rw [if_neg (fun q => hwt (hst.trans q))]
theorem op_sour {M : qM} {J : qJ} (hI : Inv M J) (a1 : Int32) (a2 : Int32) : ∃ r M1 M2, f_X11_sour a1 a2 M = some (r, M1) ∧ f_X12_sour a1 a2 M1 = some (r, M2) ∧ Inv M2 J := by
  obtain ⟨l, C, O, hP, hB, hT, hF, hS, hY, hK, hU, hM, hR⟩ := id hI
  have hc1 := hBo hB
  have hc2 := h26o hP hB
  unfold f_X11_sour f_X12_sour
  simp only [hasObjector_eq hc1.1 hc1.2, isOutside_eq, Option.bind_some]
  cases hb : inb a1 (nI 0) (nI O - nI 1) with
  | false =>
    refine ⟨(-1000000001 : Int32), M, M, rfl, ?_, hI⟩
    simp only [isObjector_eq hc2, hb, Option.bind_some, Bool.false_eq_true, if_false]
  | true =>
  cases hw : inb a2 (nI 0) (nI 40) with
  | false =>
    simp only [Bool.not_false, Bool.not_true, Bool.false_eq_true, if_false, if_true]
    refine ⟨(-1000000002 : Int32), M, M, rfl, ?_, hI⟩
    simp only [isObjector_eq hc2, in_ll _ _ (show 0 < 2 ^ 31 by decide) (show 40 < 2 ^ 31 by decide), hb, hw, Option.bind_some, Bool.false_eq_true, if_false, if_true]
  | true =>
  obtain ⟨z, hz, rfl⟩ := inb_sub hb (by omega)
  obtain ⟨w, -, hw2, rfl⟩ := inb_nI hw (by decide) (by decide)
  simp only [Bool.not_true, Bool.false_eq_true, if_false, if_true]
  obtain ⟨n, x, e1, e2, hrem⟩ := rem_ok hP hB hU
  obtain ⟨p', e3, hPS⟩ := hrem (qu (Mrem M n x) 2 (60 + z) (nI w)) rfl rfl rfl
  refine ⟨M 2 (60 + z), qu (Mrem M n x) 2 (60 + z) (nI w), qu (Frem (qu (Mrem M n x) 2 (60 + z) (nI w)) n p') 28 (49 + z) (nI w), ?_, ?_, l, C, O, ?_, ?_, hT, hF, hS, hY, hK, hPS, hM, hR⟩
  · simp only [f_X5_skill, f_X5_setSkill, e1, pk_mul, nI_add, Option.bind_some, qrd_nI (show 60 + z < 172 by omega) (show 172 < 2 ^ 31 by decide), qwr_nI (show 60 + z < 172 by omega) (show 172 < 2 ^ 31 by decide)]
  · have hq : (qu (Mrem M n x) 2 (60 + z) (nI w)) 26 2 = nI O := hc2
    simp only [isObjector_eq hq, in_ll _ _ (show 0 < 2 ^ 31 by decide) (show 40 < 2 ^ 31 by decide), hb, hw, Option.bind_some, if_true, pk_mul, nI_add]
    rw [e3]
    simp only [Option.bind_some]
    rw [show 49 + z = 49 + z by omega, qrd_nI (show 49 + z < 163 by omega) (by decide), qwr_nI (show 49 + z < 163 by omega) (by decide)]
    simp only [Option.bind_some]
    show some (M 28 (49 + z), _) = _
    rw [← (hP.2.2.2.1 z (by omega)).2.1]
  · show RP (qu (Mrem M n x) 2 (60 + z) (nI w) 2) (M 26) (qu (Frem (qu (Mrem M n x) 2 (60 + z) (nI w)) n p') 28 (49 + z) (nI w) 28)
    rw [qu_row, qu_row]
    exact RP_s (by omega) hP
  · show BD (qu (Mrem M n x) 2 (60 + z) (nI w) 2) l C O
    rw [qu_row]
    exact BD_s (by omega) (by omega) hB
