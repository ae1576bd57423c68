theorem SUc_lo {f : Nat → Int32} {o c b j : Nat} {w t : Int32} (h : j < 72) (h1 : j ≠ 4) (h2 : j ≠ 5) (h3 : j ≠ 12 + c) (h4 : j ≠ 18 + c) : SUc f o c b w t j = f j := by
  unfold SUc bsh
  rw [pk_un (by omega), pk_un (by omega), pk_un (by omega), pk_un (by omega), pk_un (by omega), pk_un (by omega), if_neg (by omega), pk_un (by omega), pk_un (by omega), pk_un (by omega)]
theorem SUc_5 {f : Nat → Int32} {o c b : Nat} {w t : Int32} : SUc f o c b w t 5 = nI (min 20 (b + 1)) := by
  unfold SUc; rw [pk_us]
theorem SUc_4 {f : Nat → Int32} {o c b : Nat} {w t : Int32} : SUc f o c b w t 4 = t := by
  unfold SUc bsh
  rw [pk_un (by omega), pk_un (by omega), pk_un (by omega), pk_un (by omega), pk_un (by omega), pk_un (by omega), if_neg (by omega), pk_us]
theorem SUc_f {f : Nat → Int32} {o c b : Nat} {w t : Int32} (hc : c < 6) : SUc f o c b w t (12 + c) = w := by
  unfold SUc bsh
  rw [pk_un (by omega), pk_un (by omega), pk_un (by omega), pk_un (by omega), pk_un (by omega), pk_un (by omega), if_neg (by omega), pk_un (by omega), pk_us]
theorem SUc_s {f : Nat → Int32} {o c b : Nat} {w t : Int32} (hc : c < 6) : SUc f o c b w t (18 + c) = Str0 f o c := by
  unfold SUc bsh
  rw [pk_un (by omega), pk_un (by omega), pk_un (by omega), pk_un (by omega), pk_un (by omega), pk_un (by omega), if_neg (by omega), pk_un (by omega), pk_un (by omega), pk_us]
theorem SUc_hi {f : Nat → Int32} {o c b j : Nat} {w t : Int32} (hc : c < 6) (h : 77 ≤ j) (h2 : j < 172) : SUc f o c b w t j = f (j - 5) := by
  unfold SUc bsh
  rw [pk_un (by omega), pk_un (by omega), pk_un (by omega), pk_un (by omega), pk_un (by omega), pk_un (by omega), if_pos (by omega), pk_un (by omega), pk_un (by omega), pk_un (by omega)]
def nwv (f3 : Int32) (o c : Nat) (rr ss : Int32) (j : Nat) : Int32 := if j = 0 then f3 else if j = 1 then nI c else if j = 2 then nI o else if j = 3 then rr else ss
theorem SUc_n {f : Nat → Int32} {o c b j : Nat} {w t : Int32} (hj : j < 5) : SUc f o c b w t (72 + j) = nwv (f 3) o c (bI (Rsn f o c)) (Str0 f o c) j := by
  have hj5 : j = 0 ∨ j = 1 ∨ j = 2 ∨ j = 3 ∨ j = 4 := by omega
  unfold SUc nwv
  rcases hj5 with rfl | rfl | rfl | rfl | rfl
  · rw [pk_un (by omega), pk_un (by omega), pk_un (by omega), pk_un (by omega), pk_un (by omega), pk_us]; rfl
  · rw [pk_un (by omega), pk_un (by omega), pk_un (by omega), pk_un (by omega), pk_us]; rfl
  · rw [pk_un (by omega), pk_un (by omega), pk_un (by omega), pk_us]; rfl
  · rw [pk_un (by omega), pk_un (by omega), pk_us]; rfl
  · rw [pk_un (by omega), pk_us]; rfl
theorem SUm_lo {nw : Nat → Int32} {o c b j : Nat} {w s t rr ss : Int32} (h : j < 61) (h1 : j ≠ 7 + c) (h2 : j ≠ 13 + c) : SUm nw o c b w s t rr ss j = nw j := by
  unfold SUm
  rw [pk_un (by omega), pk_un (by omega), pk_un (by omega), bxM_lo (by omega), boxN_lo (by omega)]
theorem SUm_61 {nw : Nat → Int32} {o c b : Nat} {w s t rr ss : Int32} : SUm nw o c b w s t rr ss 61 = t := by unfold SUm; rw [pk_us]
theorem SUm_f {nw : Nat → Int32} {o c b : Nat} {w s t rr ss : Int32} (hc : c < 6) : SUm nw o c b w s t rr ss (7 + c) = w := by
  unfold SUm; rw [pk_un (by omega), pk_un (by omega), pk_us]
theorem SUm_s {nw : Nat → Int32} {o c b : Nat} {w s t rr ss : Int32} (hc : c < 6) : SUm nw o c b w s t rr ss (13 + c) = s := by
  unfold SUm; rw [pk_un (by omega), pk_us]
theorem SUm_62 {nw : Nat → Int32} {o c b : Nat} {w s t rr ss : Int32} (hc : c < 6) : SUm nw o c b w s t rr ss 62 = nI (boxB b + 1) := by
  unfold SUm bxM; rw [pk_un (by omega), pk_un (by omega), pk_un (by omega), pk_us]
theorem SUm_n {nw : Nat → Int32} {o c b j : Nat} {w s t rr ss : Int32} (hc : c < 6) (hj : j < 5) : SUm nw o c b w s t rr ss (63 + 5 * boxB b + j) = nwv (nw 0) o c rr ss j := by
  have h0 : boxN nw b 0 = nw 0 := boxN_lo (by omega)
  have hj5 : j = 0 ∨ j = 1 ∨ j = 2 ∨ j = 3 ∨ j = 4 := by omega
  unfold SUm bxM nwv
  rw [h0, pk_un (by omega), pk_un (by omega), pk_un (by omega), pk_un (by omega)]
  generalize 63 + 5 * boxB b = p
  rcases hj5 with rfl | rfl | rfl | rfl | rfl
  · rw [pk_un (by omega), pk_un (by omega), pk_un (by omega), pk_un (by omega), Nat.add_zero, pk_us]; rfl
  · rw [pk_un (by omega), pk_un (by omega), pk_un (by omega), pk_us]; rfl
  · rw [pk_un (by omega), pk_un (by omega), pk_us]; rfl
  · rw [pk_un (by omega), pk_us]; rfl
  · rw [pk_us]; rfl
theorem SUm_b {nw : Nat → Int32} {o c b k : Nat} {w s t rr ss : Int32} (hc : c < 6) (h1 : 63 ≤ k) (h2 : k < 63 + 5 * boxB b) : SUm nw o c b w s t rr ss k = boxN nw b k := by
  unfold SUm bxM
  rw [pk_un (by omega), pk_un (by omega), pk_un (by omega), pk_un (by omega), pk_un (by omega), pk_un (by omega), pk_un (by omega), pk_un (by omega), pk_un (by omega)]
theorem nI_inj {a b : Nat} (ha : a < 2 ^ 31) (hb : b < 2 ^ 31) (h : nI a = nI b) : a = b := (nI_eq ha hb).mp h
theorem stand_RP {r dn nw : Nat → Int32} {o c b t l C O : Nat} (hP : RP r dn nw) (hB : BD r l C O) (ho : o < 6) (hc : c < 6) (hb : b ≤ 20) (h5 : r 5 = nI b) (ht : t < 64) (W : Bool) :
    RP (SUc r o c b (if W then nI 1 else nI 2) (nI (t ||| 2 ^ o))) dn (SUm nw o c b (if W then nI 1 else nI 2) (if W then Str0 r o c else -1) (nI (t ||| 2 ^ o)) (bI (Rsn r o c)) (Str0 r o c)) ∧ BD (SUc r o c b (if W then nI 1 else nI 2) (nI (t ||| 2 ^ o))) l C O := by
  obtain ⟨⟨a0, a1, a2, a3, a4, a5⟩, pb, pc, pd, pe⟩ := hP
  have hbb : boxB b + 1 = min 20 (b + 1) := by unfold boxB; split <;> omega
  refine ⟨⟨⟨?_, ?_, ?_, ?_, ?_, ?_⟩, fun i hi => ?_, fun i hi => ?_, fun i hi => ?_, fun m hm hbm i hi j hj => ?_⟩, ?_⟩
  · rw [SUc_lo (by omega) (by omega) (by omega) (by omega) (by omega)]; exact a0
  · rw [SUc_lo (by omega) (by omega) (by omega) (by omega) (by omega)]; exact a1
  · rw [SUc_lo (by omega) (by omega) (by omega) (by omega) (by omega)]; exact a2
  · rw [SUc_lo (by omega) (by omega) (by omega) (by omega) (by omega), SUm_lo (by omega) (by omega) (by omega)]; exact a3
  · rw [SUc_4, SUm_61]
  · rw [SUc_5, SUm_62 hc, hbb]
  · rw [SUc_lo (show 6 + i < 72 by omega) (by omega) (by omega) (by omega) (by omega), SUm_lo (show 1 + i < 61 by omega) (by omega) (by omega)]
    refine ⟨(pb i hi).1, ?_⟩
    by_cases hic : i = c
    · subst hic
      rw [SUc_f hc, SUm_f hc, SUc_s hc, SUm_s hc]
      cases W with
      | true => exact ⟨rfl, rfl⟩
      | false => exact ⟨rfl, rfl⟩
    · rw [SUc_lo (show 12 + i < 72 by omega) (by omega) (by omega) (by omega) (by omega), SUc_lo (show 18 + i < 72 by omega) (by omega) (by omega) (by omega) (by omega), SUm_lo (show 7 + i < 61 by omega) (by omega) (by omega), SUm_lo (show 13 + i < 61 by omega) (by omega) (by omega)]
      exact (pb i hi).2
  · rw [SUc_lo (by omega) (by omega) (by omega) (by omega) (by omega), SUm_lo (by omega) (by omega) (by omega)]; exact pc i hi
  · rw [SUc_lo (show 54 + i < 72 by omega) (by omega) (by omega) (by omega) (by omega), SUc_lo (show 60 + i < 72 by omega) (by omega) (by omega) (by omega) (by omega), SUc_lo (show 66 + i < 72 by omega) (by omega) (by omega) (by omega) (by omega), SUm_lo (show 49 + i < 61 by omega) (by omega) (by omega), SUm_lo (show 55 + i < 61 by omega) (by omega) (by omega)]; exact pd i hi
  · rw [SUc_5] at hbm
    have hmm : m = min 20 (b + 1) := (nI_inj (by omega) (by omega) hbm).symm
    cases i with
    | zero =>
      rw [show 72 + 0 * 5 + j = 72 + j by omega, SUc_n hj, show 63 + 5 * (m - 1 - 0) + j = 63 + 5 * boxB b + j by omega, SUm_n hc hj, a3]
    | succ i =>
      rw [SUc_hi hc (by omega) (by omega), show 72 + (i + 1) * 5 + j - 5 = 72 + i * 5 + j by omega, pe b hb h5 i (by omega) j hj]
      rw [SUm_b hc (by omega) (by omega)]
      unfold boxN
      by_cases h20 : b = 20
      · subst h20
        rw [if_pos rfl, pk_un (by omega)]
        unfold nsh
        rw [if_pos (by omega)]
        congr 1; omega
      · rw [if_neg h20]; congr 1; omega
  · obtain ⟨d0, d1, d2, d3, d4, d5, d6, d7, d8⟩ := hB
    refine ⟨?_, ?_, ?_, d3, ⟨min 20 (b + 1), by omega, SUc_5⟩, ⟨t ||| 2 ^ o, (stood_or t ht o ho).2, SUc_4⟩, fun q hq => ⟨?_, ?_⟩, fun q hq => ?_, fun q hq => ?_⟩
    · rw [SUc_lo (by omega) (by omega) (by omega) (by omega) (by omega)]; exact d0
    · rw [SUc_lo (by omega) (by omega) (by omega) (by omega) (by omega)]; exact d1
    · rw [SUc_lo (by omega) (by omega) (by omega) (by omega) (by omega)]; exact d2
    · rw [SUc_lo (by omega) (by omega) (by omega) (by omega) (by omega)]; exact (d6 q hq).1
    · by_cases hqc : q = c
      · subst hqc
        rw [SUc_f hc]
        cases W with
        | true => exact ⟨1, by omega, rfl⟩
        | false => exact ⟨2, by omega, rfl⟩
      · rw [SUc_lo (by omega) (by omega) (by omega) (by omega) (by omega)]; exact (d6 q hq).2
    · rw [SUc_lo (by omega) (by omega) (by omega) (by omega) (by omega)]; exact d7 q hq
    · rw [SUc_lo (show 54 + q < 72 by omega) (by omega) (by omega) (by omega) (by omega), SUc_lo (show 60 + q < 72 by omega) (by omega) (by omega) (by omega) (by omega), SUc_lo (show 66 + q < 72 by omega) (by omega) (by omega) (by omega) (by omega)]; exact d8 q hq
def mayS (r : Nat → Int32) (o c : Nat) : Bool := decide (r (12 + c) = 0) && (!decide (((r 4 >>> (nI o &&& 31)) &&& nI 1) = nI 1) && Cnt r o c)
theorem mayC {M : qM} {o c l C O : Nat} (hB : BD (M 2) l C O) (ho : o < 6) (hc : c < 6) : f_X5_mayStand (nI o) (nI c) M = some (mayS (M 2) o c) := by
  unfold f_X5_mayStand f_X5_waits f_X5_hasStood mayS
  rw [objects_eq hB ho hc, nI_add, qrd_nI (by omega) (by decide), qrd_nI (by omega) (by decide)]
  simp only [Option.bind_some]
  by_cases h1 : M 2 (12 + c) = 0
  · rw [if_pos h1]
    by_cases h2 : ((M 2 4 >>> (nI o &&& 31)) &&& nI 1) = nI 1
    · rw [if_pos h2]; simp [h1, h2]
    · rw [if_neg h2]
      simp only [Option.bind_some, if_true, Bool.false_eq_true, if_false, h1, h2, decide_true, decide_false, Bool.not_false, Bool.true_and]
      cases Cnt (M 2) o c <;> rfl
  · rw [if_neg h1]; simp [h1]
theorem mayM {M : qM} {r : Nat → Int32} {o c : Nat} (hP : RP r (M 26) (M 28)) (ho : o < 6) (hc : c < 6) : f_X12_mayStand (nI o) (nI c) M = some (mayS r o c) := by
  unfold f_X12_mayStand mayS
  rw [counts28_eq hP ho hc, nI_add, qrd_nI (by omega) (by decide), qrd_nI (by omega) (by decide), ← (hP.2.1 c hc).2.1, ← hP.1.2.2.2.2.1]
  simp only [Option.bind_some, has_eq]
  by_cases h1 : r (12 + c) = 0
  · rw [if_pos h1]
    by_cases h2 : ((r 4 >>> (nI o &&& 31)) &&& nI 1) = nI 1
    · simp [h1, h2]
    · simp only [h1, h2, decide_true, decide_false, Bool.not_false, Bool.true_and, Bool.false_eq_true, if_false]
      cases Cnt r o c <;> rfl
  · rw [if_neg h1]; simp [h1]
theorem mayS_w {r : Nat → Int32} {o c l C O : Nat} (hB : BD r l C O) (ho : o < 6) (hc : c < 6) (h : mayS r o c = true) : Wed r o c 0 = Wds r o c := by
  unfold mayS at h
  rw [Wed_0 hB ho hc]
  simp only [Bool.and_eq_true] at h
  rw [h.1, Bool.true_and]
theorem op_stand {M : qM} {J : qJ} (hI : Inv M J) (a1 : Int32) (a2 : Int32) : ∃ r M1 M2, f_X11_stand a1 a2 M = some (r, M1) ∧ f_X12_stand a1 a2 M1 = some (r, M2) ∧ Inv M2 J := by
  obtain ⟨l, C, O, hP, hB, hT, hF, hS, hY, hK, hU, hM, hR⟩ := id hI
  have hc1 := hBc hB
  have ho1 := hBo hB
  have hc2 := h26c hP hB
  have ho2 := h26o hP hB
  unfold f_X11_stand f_X12_stand
  simp only [hasCouple_eq hc1.1 hc1.2, hasObjector_eq ho1.1 ho1.2, Option.bind_some]
  cases h1 : inb a1 (nI 0) (nI O - nI 1) with
  | false =>
    refine ⟨(-1000000001 : Int32), M, M, rfl, ?_, hI⟩
    simp only [isObjector_eq ho2, h1, Option.bind_some, Bool.false_eq_true, if_false]
  | true =>
  cases h2 : inb a2 (nI 0) (nI C - nI 1) with
  | false =>
    refine ⟨(-1000000001 : Int32), M, M, rfl, ?_, hI⟩
    simp only [isObjector_eq ho2, isCouple_eq hc2, h1, h2, Option.bind_some, Bool.false_eq_true, if_false, if_true]
  | true =>
  obtain ⟨o, ho, rfl⟩ := inb_sub h1 (by omega)
  obtain ⟨c, hc, rfl⟩ := inb_sub h2 (by omega)
  have ho6 : o < 6 := by omega
  have hc6 : c < 6 := by omega
  simp only [if_true, mayC hB ho6 hc6, Option.bind_some]
  cases hm : mayS (M 2) o c with
  | false =>
    refine ⟨(-1000000003 : Int32), M, M, rfl, ?_, hI⟩
    simp only [isObjector_eq ho2, isCouple_eq hc2, h1, h2, mayM hP ho6 hc6, hm, Option.bind_some, Bool.false_eq_true, if_false, if_true]
  | true =>
  obtain ⟨b, hb, e5⟩ := hB.2.2.2.2.1
  obtain ⟨t, ht, e4⟩ := hB.2.2.2.2.2.1
  have e62 : M 28 62 = nI b := hP.1.2.2.2.2.2.symm.trans e5
  have e61 : M 28 61 = nI t := hP.1.2.2.2.2.1.symm.trans e4
  have hW := mayS_w hB ho6 hc6 hm
  obtain ⟨n, x, g1, g2, hrem⟩ := rem_ok hP hB hU
  have hst := stand_RP hP hB ho6 hc6 hb e5 ht (Wds (M 2) o c)
  obtain ⟨p', e3, hPS⟩ := hrem (ms (Mrem M n x) 2 (SUc (M 2) o c b (if Wds (M 2) o c then nI 1 else nI 2) (nI (t ||| 2 ^ o)))) rfl rfl rfl
  refine ⟨if Wds (M 2) o c then nI 1 else nI 0, ms (Mrem M n x) 2 (SUc (M 2) o c b (if Wds (M 2) o c then nI 1 else nI 2) (nI (t ||| 2 ^ o))), ms (Frem (ms (Mrem M n x) 2 (SUc (M 2) o c b (if Wds (M 2) o c then nI 1 else nI 2) (nI (t ||| 2 ^ o)))) n p') 28 (SUm (M 28) o c b (if Wds (M 2) o c then nI 1 else nI 2) (if Wds (M 2) o c then Str0 (M 2) o c else -1) (nI (t ||| 2 ^ o)) (bI (Rsn (M 2) o c)) (Str0 (M 2) o c)), ?_, ?_, l, C, O, hst.1, hst.2, hT, hF, hS, hY, hK, hPS, hM, hR⟩
  · rw [if_pos rfl, g1]
    have hs := standUp_eq (M := Mrem M n x) hB ho6 hc6 hb e5 ht e4
    rw [show ms (Mrem M n x) 2 (M 2) = Mrem M n x from ms_self (Mrem M n x) 2, hW] at hs
    simp only [Option.bind_some]
    rw [hs]
    simp only [Option.bind_some, f_X5_fate, nI_add]
    rw [qrd_nI (by omega) (by decide), ms_q, SUc_f hc6]
    simp only [Option.bind_some]
    cases Wds (M 2) o c with
    | true => rfl
    | false => rfl
  · have q1 : (ms (Mrem M n x) 2 (SUc (M 2) o c b (if Wds (M 2) o c then nI 1 else nI 2) (nI (t ||| 2 ^ o)))) 26 2 = nI O := ho2
    have q2 : (ms (Mrem M n x) 2 (SUc (M 2) o c b (if Wds (M 2) o c then nI 1 else nI 2) (nI (t ||| 2 ^ o)))) 26 1 = nI C := hc2
    have q3 : RP (M 2) ((ms (Mrem M n x) 2 (SUc (M 2) o c b (if Wds (M 2) o c then nI 1 else nI 2) (nI (t ||| 2 ^ o)))) 26) ((ms (Mrem M n x) 2 (SUc (M 2) o c b (if Wds (M 2) o c then nI 1 else nI 2) (nI (t ||| 2 ^ o)))) 28) := hP
    simp only [isObjector_eq q1, isCouple_eq q2, h1, h2, mayM q3 ho6 hc6, hm, Option.bind_some, if_true]
    rw [e3, Option.bind_some]
    have hs := standsM (M := Frem (ms (Mrem M n x) 2 (SUc (M 2) o c b (if Wds (M 2) o c then nI 1 else nI 2) (nI (t ||| 2 ^ o)))) n p') (r := M 2) (nw := M 28) (o := o) (c := c) hP ho6 hc6 hb e62 ht e61
    rw [show ms (Frem (ms (Mrem M n x) 2 (SUc (M 2) o c b (if Wds (M 2) o c then nI 1 else nI 2) (nI (t ||| 2 ^ o)))) n p') 28 (M 28) = Frem (ms (Mrem M n x) 2 (SUc (M 2) o c b (if Wds (M 2) o c then nI 1 else nI 2) (nI (t ||| 2 ^ o)))) n p' from ms_self (Frem (ms (Mrem M n x) 2 (SUc (M 2) o c b (if Wds (M 2) o c then nI 1 else nI 2) (nI (t ||| 2 ^ o)))) n p') 28] at hs
    rw [hs, Option.bind_some]
    cases Wds (M 2) o c with
    | true => rfl
    | false => rfl
