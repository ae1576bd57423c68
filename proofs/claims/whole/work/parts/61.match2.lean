def FC (p : Nat → Bool) : Nat → Nat → Nat
  | 0, _ => 6
  | m + 1, i => if p i then i else FC p m (i + 1)
theorem FC_le (p : Nat → Bool) : ∀ (m i : Nat), FC p m i = 6 ∨ (i ≤ FC p m i ∧ FC p m i < i + m)
  | 0, i => Or.inl rfl
  | m + 1, i => by
    unfold FC
    split
    · right; omega
    · have := FC_le p m (i + 1); omega
def chs (r : Nat → Int32) (C O c t o : Nat) : Bool := fre r c t o && decide (vlu r c (V r C O (c + 1)) t o = V r C O c t)
def fc (r : Nat → Int32) (C O c t : Nat) : Nat := FC (chs r C O c t) O 0
def tkS (r : Nat → Int32) (C O c t : Nat) : Nat := if fc r C O c t = 6 then t else t ||| 2 ^ fc r C O c t
theorem fc_le {r : Nat → Int32} {C O c t : Nat} : fc r C O c t = 6 ∨ fc r C O c t < O := by
  have := FC_le (chs r C O c t) O 0
  unfold fc; omega
theorem tkS_lt {r : Nat → Int32} {C O c t : Nat} (ht : t < 2 ^ O) (hO : O ≤ 6) : tkS r C O c t < 2 ^ O := by
  unfold tkS
  by_cases h : fc r C O c t = 6
  · rw [if_pos h]; exact ht
  · rw [if_neg h]
    have := fc_le (r := r) (C := C) (O := O) (c := c) (t := t)
    exact or_lt ht (by omega)
theorem first_ok {M : qM} {l C O c t : Nat} (hB : BD (M 2) l C O) (h15 : ∀ c, c < C → ∀ o, o < O → M 15 (c * 6 + o) = Gn (M 2) o c) (hT : Tab (M 14) (M 2) C O 0) (hc : c < C) (ht : t < 2 ^ O) : ∀ (m i n : Nat), i + m = O → m < n → ∃ w, f_X4_firstChoice_L3 (nI c) (nI t) M n (nI i) = some w ∧ Sum.elim some (fun _ => some (-1 : Int32)) w = some (cI6 (FC (chs (M 2) C O c t) m i))
  | _, i, 0, hi, hn => by omega
  | 0, i, n + 1, hi, hn => by
    have hO := hBo hB
    have e : i = O := by omega
    subst e
    refine ⟨.inr (nI i), ?_, rfl⟩
    rw [f_X4_firstChoice_L3]
    unfold f_X5_objectors
    rw [qrd_nI (by omega) (by decide), hO.1, Option.bind_some, Option.bind_some, if_pos (nI_le (Nat.le_refl _) (by omega))]
  | m + 1, i, n + 1, hi, hn => by
    have hC := hBc hB
    have hO := hBo hB
    have hp : 2 ^ O ≤ 64 := Nat.pow_le_pow_right (n := 2) (by omega) hO.2
    have ih := first_ok hB h15 hT hc ht m (i + 1) n (by omega) (by omega)
    rw [f_X4_firstChoice_L3]
    unfold f_X5_objectors
    rw [qrd_nI (by omega) (by decide), hO.1, Option.bind_some, Option.bind_some, if_neg (nI_ge (by omega) (by omega)), free_eq hB h15 hc (by omega) (by omega), Option.bind_some, nI_add]
    unfold FC chs
    cases hf : fre (M 2) c t i with
    | false =>
      rw [if_neg (by decide), Bool.false_and, if_neg (by decide)]
      exact ih
    | true =>
      rw [if_pos rfl, value_eq hB h15 hc (by omega) ht (fun t ht => hT (c + 1) (by omega) (by omega) t ht) hf, Option.bind_some, pk_mul, nI_add, qrd_nI (by omega) (by decide), Option.bind_some, hT c (by omega) (by omega) t ht, Bool.true_and]
      by_cases hv : vlu (M 2) c (V (M 2) C O (c + 1)) t i = V (M 2) C O c t
      · rw [if_pos hv, if_pos (decide_eq_true hv)]
        refine ⟨_, rfl, ?_⟩
        rw [cI6_lt (by omega)]; rfl
      · rw [if_neg hv, if_neg (by rw [decide_eq_false hv]; decide)]
        exact ih
theorem first_eq {M : qM} {l C O c t : Nat} (hB : BD (M 2) l C O) (h15 : ∀ c, c < C → ∀ o, o < O → M 15 (c * 6 + o) = Gn (M 2) o c) (hT : Tab (M 14) (M 2) C O 0) (hc : c < C) (ht : t < 2 ^ O) : f_X4_firstChoice (nI c) (nI t) M = some (cI6 (fc (M 2) C O c t)) := by
  have hO := hBo hB
  obtain ⟨w, h1, h2⟩ := first_ok hB h15 hT hc ht O 0 qF (by omega) (by rw [qF_val]; omega)
  unfold f_X4_firstChoice
  rw [h1, Option.bind_some]
  exact h2
theorem forC_eq {M : qM} {l C O c : Nat} (hB : BD (M 2) l C O) (h15 : ∀ c, c < C → ∀ o, o < O → M 15 (c * 6 + o) = Gn (M 2) o c) (hT : Tab (M 14) (M 2) C O 0) (hc : c < C) : f_X4_objectorFor (nI c) M = some (cI6 (fc (M 2) C O c (IT (tkS (M 2) C O) c 0 0))) := by
  have hC := hBc hB
  have hO := hBo hB
  unfold f_X4_objectorFor
  have k := up1 (F := fun n (t : Nat) i => f_X4_objectorFor_L5 (nI c) M n (nI t) i) (N := c) (step := tkS (M 2) C O) (fin := fun t => (nI t, nI c)) (fun _ t => t < 2 ^ O) (fun n t _ => ?_) (fun n i t hi ht => ⟨?_, tkS_lt ht hO.2⟩) c 0 qF 0 (by omega) (by rw [qF_val]; omega) (Nat.two_pow_pos _)
  · rw [k.1, Option.bind_some, first_eq hB h15 hT hc k.2, Option.bind_some]
  · show f_X4_objectorFor_L5 _ _ _ _ _ = _
    rw [f_X4_objectorFor_L5, if_pos (nI_le (Nat.le_refl _) (by omega))]
  · show f_X4_objectorFor_L5 _ _ _ _ _ = f_X4_objectorFor_L5 _ _ _ _ _
    rw [f_X4_objectorFor_L5, if_neg (nI_ge hi (by omega)), first_eq hB h15 hT (by omega) ht, Option.bind_some, nI_add]
    unfold tkS
    have hf := fc_le (r := M 2) (C := C) (O := O) (c := i) (t := t)
    by_cases h6 : fc (M 2) C O i t = 6
    · rw [h6, if_pos (show cI6 6 = -1 from rfl), if_pos rfl, or0]
    · rw [cI6_lt (by omega), if_neg (nI_m1 (by omega)), if_neg h6, one_shl (by omega), fa_or]
theorem firstM_ok {M : qM} {r : Nat → Int32} {x : Int32} {l C O c t : Nat} (hP : RP r (M 26) (M 28)) (hB : BD r l C O) (hT : Tab (M 36) r C O 0) (hc : c < C) (ht : t < 2 ^ O) : ∀ (m i n : Nat), i + m = O → m + 1 < n → ∃ y, f_X12_matched_L18 x (nI t) (nI c) M n (-1 : Int32) (nI i) = some (cI6 (FC (chs r C O c t) m i), y)
  | _, i, 0, hi, hn => by omega
  | 0, i, n + 1, hi, hn => by
    have hO : M 26 2 = nI O := hP.1.2.2.1.symm.trans hB.2.2.1.1
    have hO6 := hB.2.2.1.2
    have e : i = O := by omega
    subst e
    refine ⟨nI i, ?_⟩
    rw [f_X12_matched_L18, qrd_nI (by omega) (by decide), hO, Option.bind_some, if_pos (nI_le (Nat.le_refl _) (by omega))]; rfl
  | m + 1, i, n + 1, hi, hn => by
    have hO : M 26 2 = nI O := hP.1.2.2.1.symm.trans hB.2.2.1.1
    have hC6 := hB.2.1.2
    have hO6 := hB.2.2.1.2
    have hp : 2 ^ O ≤ 64 := Nat.pow_le_pow_right (n := 2) (by omega) hO6
    have hor := or_lt ht (show i < O by omega)
    have ih := firstM_ok (x := x) hP hB hT hc ht m (i + 1) n (by omega) (by omega)
    rw [f_X12_matched_L18, qrd_nI (by omega) (by decide), hO, Option.bind_some, if_neg (nI_ge (by omega) (by omega)), if_pos rfl, canM_eq hP hB (by omega), Option.bind_some, hasM_eq hO6 (by omega) (by omega), Option.bind_some, nI_add]
    unfold FC chs
    cases hf : fre r c t i with
    | false =>
      rw [if_neg (by decide), Bool.false_and, if_neg (by decide), nI_add]
      exact ih
    | true =>
      rw [if_pos rfl, strengthOn28_eq hP (by omega) (by omega), Option.bind_some, nI_add, pk_mul, pk_mul, one_shl (by omega), fa_or, nI_add, nI_add, qrd_nI (by omega) (by decide), Option.bind_some, qrd_nI (by omega) (by decide), Option.bind_some, show 64 * (c + 1) + (t ||| 2 ^ i) = (c + 1) * 64 + (t ||| 2 ^ i) by omega, show 64 * c + t = c * 64 + t by omega, hT (c + 1) (by omega) (by omega) _ hor, hT c (by omega) (by omega) t ht, Bool.true_and]
      by_cases hv : vlu r c (V r C O (c + 1)) t i = V r C O c t
      · rw [if_pos (show nI 10000 + Str0 r i c + V r C O (c + 1) (t ||| 2 ^ i) = V r C O c t from hv), if_pos (decide_eq_true hv), cI6_lt (by omega)]
        obtain ⟨n', rfl⟩ : ∃ n', n = n' + 1 := ⟨n - 1, by omega⟩
        rw [f_X12_matched_L18, qrd_nI (by omega) (by decide), hO, Option.bind_some]
        by_cases hiO : O ≤ i + 1
        · rw [if_pos (nI_le hiO (by omega))]; exact ⟨_, rfl⟩
        · rw [if_neg (nI_ge (by omega) (by omega)), if_neg (nI_m1 (by omega))]; exact ⟨_, rfl⟩
      · rw [if_neg (show ¬ nI 10000 + Str0 r i c + V r C O (c + 1) (t ||| 2 ^ i) = V r C O c t from hv), if_neg (by rw [decide_eq_false hv]; decide)]
        exact ih
theorem forM_eq {M : qM} {r : Nat → Int32} {l C O c : Nat} (hP : RP r (M 26) (M 28)) (hB : BD r l C O) (hT : Tab (M 36) r C O 0) (hc : c < C) : f_X12_matched (nI c) M = some (cI6 (fc r C O c (IT (tkS r C O) c 0 0))) := by
  have hC6 := hB.2.1.2
  have hO6 := hB.2.2.1.2
  unfold f_X12_matched
  have k := up1 (F := fun n (a : Nat × Nat) i => f_X12_matched_L7 (nI c) M n (nI a.1) (cI6 a.2) i) (N := c + 1) (step := fun i a => (tkS r C O i a.1, fc r C O i a.1)) (fin := fun a => (nI a.1, cI6 a.2, nI (c + 1))) (fun _ a => a.1 < 2 ^ O) (fun n a _ => ?_) (fun n i a hi ha => ⟨?_, tkS_lt ha hO6⟩) (c + 1) 0 qF (0, 6) (by omega) (by rw [qF_val]; omega) (Nat.two_pow_pos _)
  · have e : ∀ m, (IT (fun i (a : Nat × Nat) => (tkS r C O i a.1, fc r C O i a.1)) m 0 (0, 6)).1 = IT (tkS r C O) m 0 0 := by
      intro m
      exact IT_rel (fun (a : Nat × Nat) (b : Nat) => a.1 = b) m 0 (0, 6) 0 rfl (fun k x y _ _ h => by show tkS r C O k x.1 = tkS r C O k y; rw [h])
    have k1 : f_X12_matched_L7 (nI c) M qF (nI 0) (-1 : Int32) (nI 0) = _ := k.1
    rw [k1, Option.bind_some, IT_snoc, Nat.zero_add]
    show some (cI6 (fc r C O c (IT (fun i (a : Nat × Nat) => (tkS r C O i a.1, fc r C O i a.1)) c 0 (0, 6)).1)) = _
    rw [e]
  · show f_X12_matched_L7 _ _ _ _ _ _ = _
    rw [f_X12_matched_L7, if_pos (nI_lt (by omega) (by omega))]
  · show f_X12_matched_L7 _ _ _ _ _ _ = f_X12_matched_L7 _ _ _ _ _ _
    obtain ⟨y, hy⟩ := firstM_ok (x := nI c) hP hB hT (show i < C by omega) ha O 0 qF (by omega) (by rw [qF_val]; omega)
    rw [f_X12_matched_L7, if_neg (nI_nlt (by omega) (by omega)), hy, Option.bind_some, nI_add]
    have hf := fc_le (r := r) (C := C) (O := O) (c := i) (t := a.1)
    show (if cI6 (fc r C O i a.1) = -1 then f_X12_matched_L7 (nI c) M n (nI a.1 ||| nI 0) (cI6 (fc r C O i a.1)) (nI (i + 1)) else f_X12_matched_L7 (nI c) M n (nI a.1 ||| nI 1 <<< (cI6 (fc r C O i a.1) &&& 31)) (cI6 (fc r C O i a.1)) (nI (i + 1))) = f_X12_matched_L7 (nI c) M n (nI (tkS r C O i a.1)) (cI6 (fc r C O i a.1)) (nI (i + 1))
    unfold tkS
    by_cases h6 : fc r C O i a.1 = 6
    · rw [h6, if_pos (show cI6 6 = -1 from rfl), if_pos rfl, or0]
    · rw [cI6_lt (by omega), if_neg (nI_m1 (by omega)), if_neg h6, one_shl (by omega), fa_or]
theorem op_match {M : qM} {J : qJ} (hI : Inv M J) (a1 : Int32) : ∃ r M1 M2, f_X11_match a1 M = some (r, M1) ∧ f_X12_match a1 M1 = some (r, M2) ∧ Inv M2 J := by
  obtain ⟨l, C, O, hP, hB, hT, hF, hS, hY, hK, hU, hM, hR⟩ := id hI
  have hc1 := hBc hB
  have hc2 := h26c hP hB
  obtain ⟨g, f, w1, w2, w3⟩ := weigh_eq hB
  obtain ⟨f', v1, v2⟩ := weighM_eq (M := ms (ms M 15 g) 14 f) (r := M 2) hP hB
  have hin : ∀ M1 : qM, f_X12_in a1.toInt64 (-2 : Int64) ((nI C - nI 1).toInt64) M1 = some (inb a1 (-2 : Int32) (nI C - nI 1)) := fun M1 => by
    rw [show (-2 : Int64) = (-2 : Int32).toInt64 by decide, in_eq]
  have hC1 : (nI C - nI 1).toInt = (C : Int) - 1 := pk_sub_toInt (by omega) (by omega)
  have h2i : ((-2 : Int32)).toInt = -2 := by decide
  have h1i : ((-1 : Int32)).toInt = -1 := by decide
  have h14 : f 0 = V (M 2) C O 0 0 := w3 0 (by omega) (by omega) 0 (Nat.two_pow_pos _)
  have h36 : f' 0 = V (M 2) C O 0 0 := v2 0 (by omega) (by omega) 0 (Nat.two_pow_pos _)
  have q1 : ∀ M1 : qM, M1 26 = M 26 → qrd M1 26 57 (nI 1) = some (nI C) := fun M1 h => by rw [qrd_nI (by omega) (by decide), h, hc2]
  have qd : ∀ x : Int32, qdiv x (nI 10000) = some (x / nI 10000) := fun x => if_neg (by decide)
  have qr : ∃ w, qrem (V (M 2) C O 0 0) (nI 10000) = some w := ⟨_, if_neg (show ¬ nI 10000 = 0 by decide)⟩
  obtain ⟨w, qr⟩ := qr
  unfold f_X11_match f_X12_match
  by_cases h1 : a1 = (-1 : Int32)
  · have hb : inb a1 (-2 : Int32) (nI C - nI 1) = true := by rw [inb_iff, h1, h1i, h2i, hC1]; omega
    refine ⟨V (M 2) C O 0 0 / nI 10000, ms (ms M 15 g) 14 f, ms (ms (ms M 15 g) 14 f) 36 f', ?_, ?_, l, C, O, hP, hB, hT, hF, hS, hY, hK, hU, hM, hR⟩
    · rw [if_pos h1, w1, Option.bind_some, if_pos h1]
      unfold f_X4_howMany
      rw [qrd_nI (by omega) (by decide), ms_q, h14, Option.bind_some, qd]
      rfl
    · rw [q1 (ms (ms M 15 g) 14 f) rfl, Option.bind_some, hin, hb, Option.bind_some, if_pos rfl, v1, Option.bind_some, if_pos h1, qrd_nI (by omega) (by decide), ms_q, h36, Option.bind_some, qd]
      rfl
  · by_cases h2 : a1 = (-2 : Int32)
    · have hb : inb a1 (-2 : Int32) (nI C - nI 1) = true := by rw [inb_iff, h2, h2i, hC1]; omega
      refine ⟨w, ms (ms M 15 g) 14 f, ms (ms (ms M 15 g) 14 f) 36 f', ?_, ?_, l, C, O, hP, hB, hT, hF, hS, hY, hK, hU, hM, hR⟩
      · rw [if_neg h1, if_pos h2, w1, Option.bind_some, if_neg h1, if_pos h2]
        unfold f_X4_together
        rw [qrd_nI (by omega) (by decide), ms_q, h14, Option.bind_some, qr]
        rfl
      · rw [q1 (ms (ms M 15 g) 14 f) rfl, Option.bind_some, hin, hb, Option.bind_some, if_pos rfl, v1, Option.bind_some, if_neg h1, if_pos h2, qrd_nI (by omega) (by decide), ms_q, h36, Option.bind_some, qr]
        rfl
    · have hb : inb a1 (-2 : Int32) (nI C - nI 1) = inb a1 (nI 0) (nI C - nI 1) := by
        rw [Bool.eq_iff_iff, inb_iff, inb_iff, h2i, hC1, nI_toInt (by omega)]
        rw [fa_eq, h1i] at h1
        rw [fa_eq, h2i] at h2
        omega
      rw [if_neg h1, if_neg h2, hasCouple_eq hc1.1 hc1.2, Option.bind_some]
      cases hq : inb a1 (nI 0) (nI C - nI 1) with
      | false =>
        refine ⟨(-1000000001 : Int32), M, M, rfl, ?_, hI⟩
        rw [q1 _ rfl, Option.bind_some, hin, hb, hq, Option.bind_some, if_neg (by decide)]
      | true =>
        obtain ⟨c, hc, rfl⟩ := inb_sub hq (by omega)
        refine ⟨cI6 (fc (M 2) C O c (IT (tkS (M 2) C O) c 0 0)), ms (ms M 15 g) 14 f, ms (ms (ms M 15 g) 14 f) 36 f', ?_, ?_, l, C, O, hP, hB, hT, hF, hS, hY, hK, hU, hM, hR⟩
        · have hq2 := forC_eq (M := ms (ms M 15 g) 14 f) (l := l) (C := C) (O := O) (c := c) hB w2 w3 hc
          rw [if_pos rfl, w1, Option.bind_some, if_neg h1, if_neg h2, hq2, Option.bind_some]
          rfl
        · have hq3 := forM_eq (M := ms (ms (ms M 15 g) 14 f) 36 f') (r := M 2) (l := l) (C := C) (O := O) (c := c) hP hB v2 hc
          rw [q1 (ms (ms M 15 g) 14 f) rfl, Option.bind_some, hin, hb, hq, Option.bind_some, if_pos rfl, v1, Option.bind_some, if_neg h1, if_neg h2, hq3, Option.bind_some]
