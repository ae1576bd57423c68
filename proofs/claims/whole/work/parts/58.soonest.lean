theorem IT_anC : ∀ (m i : Nat) (f : Nat → Int32), i + m ≤ 6 → (∀ j, (j < 6 + i ∨ 6 + (i + m) ≤ j) → IT anC m i f j = f j) ∧ (∀ c, i ≤ c → c < i + m → IT anC m i f (6 + c) = if f (12 + c) = 0 then qmin (nI 99) (f (6 + c) + nI 1) else f (6 + c))
  | 0, i, f, h => ⟨fun j _ => rfl, fun c h1 h2 => by omega⟩
  | m + 1, i, f, h => by
    obtain ⟨h1, h2⟩ := IT_anC m (i + 1) (anC i f) (by omega)
    have e : IT anC (m + 1) i f = IT anC m (i + 1) (anC i f) := rfl
    rw [e]
    refine ⟨fun j hj => ?_, fun c hc hc2 => ?_⟩
    · rw [h1 j (by omega), anC_1 _ _ (by omega)]
    · by_cases hci : c = i
      · subst hci
        rw [h1 (6 + c) (by omega)]
        unfold anC
        by_cases h0 : f (12 + c) = 0
        · rw [if_pos h0, if_pos h0, pk_us]
        · rw [if_neg h0, if_neg h0]
      · rw [h2 c (by omega) (by omega), anC_1 _ _ (by omega), anC_1 _ _ (by omega)]
theorem IT_skC : ∀ (m i : Nat) (f : Nat → Int32), i + m ≤ 6 → (∀ j, (j < 60 + i ∨ 60 + (i + m) ≤ j) → IT skC m i f j = f j) ∧ (∀ c, i ≤ c → c < i + m → IT skC m i f (60 + c) = if f (54 + c) = 0 then qmin (nI 40) (f (60 + c) + nI 1) else f (60 + c))
  | 0, i, f, h => ⟨fun j _ => rfl, fun c h1 h2 => by omega⟩
  | m + 1, i, f, h => by
    obtain ⟨h1, h2⟩ := IT_skC m (i + 1) (skC i f) (by omega)
    have e : IT skC (m + 1) i f = IT skC m (i + 1) (skC i f) := rfl
    rw [e]
    refine ⟨fun j hj => ?_, fun c hc hc2 => ?_⟩
    · rw [h1 j (by omega), skC_1 _ _ (by omega)]
    · by_cases hci : c = i
      · subst hci
        rw [h1 (60 + c) (by omega)]
        unfold skC
        by_cases h0 : f (54 + c) = 0
        · rw [if_pos h0, if_pos h0, pk_us]
        · rw [if_neg h0, if_neg h0]
      · rw [h2 c (by omega) (by omega), skC_1 _ _ (by omega), skC_1 _ _ (by omega)]
theorem YC_o {C O j : Nat} {r : Nat → Int32} (hC : C ≤ 6) (hO : O ≤ 6) (h3 : j ≠ 3) (h4 : j ≠ 4) (h5 : j < 6 ∨ 12 ≤ j) (h6 : j < 60 ∨ 66 ≤ j) : YC C O r j = r j := by
  unfold YC
  rw [pk_un h3, pk_un h4, (IT_skC O 0 _ (by omega)).1 j (by omega), (IT_anC C 0 _ (by omega)).1 j (by omega)]
theorem YC_a {C O c : Nat} {r : Nat → Int32} (hC : C ≤ 6) (hO : O ≤ 6) (hc : c < C) : YC C O r (6 + c) = if r (12 + c) = 0 then qmin (nI 99) (r (6 + c) + nI 1) else r (6 + c) := by
  unfold YC
  rw [pk_un (by omega), pk_un (by omega), (IT_skC O 0 _ (by omega)).1 _ (by omega), (IT_anC C 0 _ (by omega)).2 c (by omega) (by omega)]
theorem YC_s {C O o : Nat} {r : Nat → Int32} (hC : C ≤ 6) (hO : O ≤ 6) (ho : o < O) : YC C O r (60 + o) = if r (54 + o) = 0 then qmin (nI 40) (r (60 + o) + nI 1) else r (60 + o) := by
  unfold YC
  rw [pk_un (by omega), pk_un (by omega), (IT_skC O 0 _ (by omega)).2 o (by omega) (by omega), (IT_anC C 0 _ (by omega)).1 _ (by omega), (IT_anC C 0 _ (by omega)).1 _ (by omega)]
theorem Rsn_cg2 {r p : Nat → Int32} {o c : Nat} (h1 : p (54 + o) = r (54 + o)) (h2 : p (66 + o) = r (66 + o)) (h3 : ∀ k, k < 5 → p (24 + c * 5 + k) = r (24 + c * 5 + k)) : Rsn p o c = Rsn r o c := by
  unfold Rsn
  rw [h1]
  have hh := IT_rel (s := Rst p o c) (t := Rst r o c) (fun a b => a = b ∧ a ≤ 5) 5 0 5 5 ⟨rfl, by omega⟩ (fun k x y _ hk hxy => by
    obtain ⟨rfl, hx⟩ := hxy
    have e : Rst p o c k x = Rst r o c k x := by
      unfold Rst
      rw [h2, h3 k (by omega)]
      by_cases hx5 : x = 5
      · subst hx5; rw [if_pos rfl, if_pos rfl]
      · rw [h3 x (by omega)]
    refine ⟨e, ?_⟩
    unfold Rst
    split
    · split
      · omega
      · split <;> omega
    · exact hx)
  rw [hh.1]
/-- p is the row r, n years on, as far as couple c and objector o go -/
def Lat (r p : Nat → Int32) (o c n : Nat) : Prop := p 0 = r 0 ∧ p (12 + c) = r (12 + c) ∧ p (54 + o) = r (54 + o) ∧ p (66 + o) = r (66 + o) ∧ (∀ k, k < 5 → p (24 + c * 5 + k) = r (24 + c * 5 + k)) ∧ p (6 + c) = qmin (nI 99) (r (6 + c) + nI n) ∧ p (60 + o) = Gr r o n
theorem Lat_wed {r p : Nat → Int32} {o c n : Nat} (h0 : r (12 + c) = 0) (h : Lat r p o c n) : Wed r o c n = Wds p o c := by
  obtain ⟨a1, a2, a3, a4, a5, a6, a7⟩ := h
  have eR := Rsn_cg2 a3 a4 a5
  have e : Str0 p o c = StrY r o c n := by
    unfold Str0 StrY Str
    rw [eR, a3, a7]
    unfold Wt
    have hR := Rsn_le r o c
    by_cases h5 : Rsn r o c = 5
    · rw [if_pos h5, if_pos h5]
    · rw [if_neg h5, if_neg h5, a5 _ (by omega)]
  unfold Wed Wds Cnt
  rw [e, a1, a6, h0]
  simp
theorem Lat_0 {r : Nat → Int32} {l C O o c : Nat} (hB : BD r l C O) (ho : o < 6) (hc : c < 6) : Lat r r o c 0 := by
  obtain ⟨⟨a, ha, e⟩, -⟩ := hB.2.2.2.2.2.2.1 c hc
  obtain ⟨-, ⟨s, hs, e2⟩, -⟩ := hB.2.2.2.2.2.2.2.2 o ho
  refine ⟨rfl, rfl, rfl, rfl, fun _ _ => rfl, ?_, (Gr_0 hs e2).symm⟩
  rw [e, nI_add, qmin_nI (by omega) (by omega), show min 99 (a + 0) = a by omega]
theorem Lat_s {r p : Nat → Int32} {l C O o c n : Nat} (hB : BD r l C O) (ho : o < O) (hc : c < C) (hn : n < 1000) (h0 : r (12 + c) = 0) (h : Lat r p o c n) : Lat r (YC C O p) o c (n + 1) := by
  have hC6 := hB.2.1.2
  have hO6 := hB.2.2.1.2
  obtain ⟨⟨a, ha, e⟩, -⟩ := hB.2.2.2.2.2.2.1 c (by omega)
  obtain ⟨-, ⟨s, hs, e2⟩, -⟩ := hB.2.2.2.2.2.2.2.2 o (by omega)
  obtain ⟨a1, a2, a3, a4, a5, a6, a7⟩ := h
  refine ⟨?_, ?_, ?_, ?_, fun k hk => ?_, ?_, ?_⟩
  · rw [YC_o hC6 hO6 (by omega) (by omega) (by omega) (by omega)]; exact a1
  · rw [YC_o hC6 hO6 (by omega) (by omega) (by omega) (by omega)]; exact a2
  · rw [YC_o hC6 hO6 (by omega) (by omega) (by omega) (by omega)]; exact a3
  · rw [YC_o hC6 hO6 (by omega) (by omega) (by omega) (by omega)]; exact a4
  · rw [YC_o hC6 hO6 (by omega) (by omega) (by omega) (by omega)]; exact a5 k hk
  · rw [YC_a hC6 hO6 hc, a2, if_pos h0, a6, e, nI_add, qmin_nI (by omega) (by omega), nI_add, qmin_nI (by omega) (by omega), nI_add, qmin_nI (by omega) (by omega)]
    congr 1; omega
  · rw [YC_s hC6 hO6 ho, a3, a7]
    unfold Gr
    by_cases hk : r (54 + o) = 0
    · rw [if_pos hk, if_pos hk, if_pos hk, e2, nI_add, qmin_nI (by omega) (by omega), nI_add, qmin_nI (by omega) (by omega), nI_add, qmin_nI (by omega) (by omega)]
      congr 1; omega
    · rw [if_neg hk, if_neg hk, if_neg hk]
theorem soon_ok {r dn : Nat → Int32} {l C O o c : Nat} (hB0 : BD r l C O) (ho : o < O) (hc : c < C) (h0 : r (12 + c) = 0) {Mc : qM} (hMc : Mc 2 = r) : ∀ (k i n m : Nat) (p g : Nat → Int32), i + k = 201 → k < n → k < m → RP p dn g → BD p l C O → Lat r p o c i →
    ∃ (b : Bool) (v : Int32) (g' : Nat → Int32), f_X10_firstYear_L2 (nI c) (nI o) Mc n (nI i) = some (if b then .inl v else .inr v) ∧ ∀ M : qM, M 26 = dn → f_X12_soonest_L40 (nI c) (nI o) m (nI i) (ms M 29 g) = some (if b then .inl (v, ms M 29 g') else .inr (v, ms M 29 g'))
  | _, i, 0, m, p, g, hi, hn, hm, hP, hB, hL => by omega
  | _, i, _, 0, p, g, hi, hn, hm, hP, hB, hL => by omega
  | 0, i, n + 1, m + 1, p, g, hi, hn, hm, hP, hB, hL => by
    have e : i = 201 := by omega
    subst e
    refine ⟨false, nI 201, g, ?_, fun M hM => ?_⟩
    · rw [f_X10_firstYear_L2, if_pos (nI_lt (by omega) (by omega))]; rfl
    · rw [f_X12_soonest_L40, if_pos (nI_le (by omega) (by omega))]; rfl
  | k + 1, i, n + 1, m + 1, p, g, hi, hn, hm, hP, hB, hL => by
    have hC6 := hB.2.1.2
    have hO6 := hB.2.2.1.2
    have dC : dn 1 = nI C := hP.1.2.1.symm.trans hB.2.1.1
    have dO : dn 2 = nI O := hP.1.2.2.1.symm.trans hB.2.2.1.1
    have hw := wedIn_eq (M := Mc) (o := o) (c := c) (y := i) (by omega) (by omega)
    have hw2 : ∀ M : qM, M 26 = dn → f_X12_weds_at25_29 (nI o) (nI c) (ms M 29 g) = some (Wds p o c) := fun M hM => weds29_eq (M := ms M 29 g) (r := p) (by rw [ms_q, ms_ne (q := 29) (a := 26) _ _ (by decide), hM]; exact hP) (by omega) (by omega)
    rw [hMc, Lat_wed h0 hL] at hw
    cases hW : Wds p o c with
    | true =>
      refine ⟨true, nI i, g, ?_, fun M hM => ?_⟩
      · rw [f_X10_firstYear_L2, if_neg (nI_nlt (by omega) (by omega)), hw, Option.bind_some, hW, if_pos rfl]; rfl
      · rw [f_X12_soonest_L40, if_neg (nI_ge (by omega) (by omega)), hw2 M hM, Option.bind_some, hW, if_pos rfl]; rfl
    | false =>
      obtain ⟨y1, y2⟩ := year_RP hP hB
      obtain ⟨b, v, g', q1, q2⟩ := soon_ok hB0 ho hc h0 hMc k (i + 1) n m (YC C O p) (YM C O dn g) (by omega) (by omega) (by omega) y1 y2 (Lat_s hB0 ho hc (by omega) h0 hL)
      refine ⟨b, v, g', ?_, fun M hM => ?_⟩
      · rw [f_X10_firstYear_L2, if_neg (nI_nlt (by omega) (by omega)), hw, Option.bind_some, hW, if_neg (by decide), nI_add]
        exact q1
      · have e26 : ms M 29 g 26 = dn := (ms_ne (q := 29) (a := 26) _ _ (by decide)).trans hM
        rw [f_X12_soonest_L40, if_neg (nI_ge (by omega) (by omega)), hw2 M hM, Option.bind_some, hW, if_neg (by decide), yearGoes29_eq (C := C) (O := O) (by rw [e26]; exact dC) (by rw [e26]; exact dO) hC6 hO6, Option.bind_some, ms_ms, ms_q, e26, nI_add]
        exact q2 M hM
theorem op_soonest {M : qM} {J : qJ} (hI : Inv M J) (a1 : Int32) (a2 : Int32) : ∃ r M2, f_X11_soonest a1 a2 M = some r ∧ f_X12_soonest a1 a2 M = some (r, M2) ∧ Inv M2 J := by
  obtain ⟨l, C, O, hP, hB, hT, hF, hS, hY, hK, hU, hM, hR⟩ := id hI
  have hc1 := hBc hB
  have ho1 := hBo hB
  have hc2 := h26c hP hB
  have ho2 := h26o hP hB
  unfold f_X11_soonest f_X12_soonest
  rw [hasCouple_eq hc1.1 hc1.2, isCouple_eq hc2, Option.bind_some, Option.bind_some]
  cases h1 : inb a1 (nI 0) (nI C - nI 1) with
  | false => exact ⟨_, M, rfl, rfl, hI⟩
  | true =>
  rw [if_pos rfl, if_pos rfl, hasObjector_eq ho1.1 ho1.2, isObjector_eq ho2, Option.bind_some, Option.bind_some]
  cases h2 : inb a2 (nI 0) (nI O - nI 1) with
  | false => exact ⟨_, M, rfl, rfl, hI⟩
  | true =>
  obtain ⟨c, hc, rfl⟩ := inb_sub h1 (by omega)
  obtain ⟨o, ho, rfl⟩ := inb_sub h2 (by omega)
  rw [if_pos rfl, if_pos rfl]
  unfold f_X5_waits
  rw [nI_add, nI_add, qrd_nI (by omega) (by decide), qrd_nI (by omega) (by decide), Option.bind_some, Option.bind_some, ← (hP.2.1 c (by omega)).2.1]
  by_cases h0 : M 2 (12 + c) = 0
  · rw [if_pos h0, Option.bind_some, if_pos rfl, if_pos h0]
    unfold f_X12_layAside f_X10_firstYear
    rw [cp_28_29 (by omega) (by omega), Option.bind_some, Option.bind_some]
    have hg : RP (M 2) (M 26) (va_cpy (M 28) (M 29) 0 0 163) := hP.congr (fun _ _ => rfl) (fun _ _ => rfl) (fun k hk => by rw [pk_cpy_in (by omega) (by omega)]; congr 1; omega)
    obtain ⟨b, v, g', q1, q2⟩ := soon_ok hB ho hc h0 (Mc := M) rfl 201 0 qF qF (M 2) _ (by omega) (by rw [qF_val]; omega) (by rw [qF_val]; omega) hg hB (Lat_0 hB (by omega) (by omega))
    have q3 := q2 M rfl
    have em : ms M 29 (va_cpy (M 28) (M 29) 0 0 163) = qcp M 28 29 0 0 163 := by
      funext a
      unfold ms qcp
      by_cases ha : a = 29
      · rw [if_pos ha]
      · rw [if_neg ha]
    rw [em] at q3
    rw [q1, q3, Option.bind_some, Option.bind_some]
    cases b with
    | true => exact ⟨v, ms M 29 g', rfl, rfl, l, C, O, hP, hB, hT, hF, hS, hY, hK, hU, hM, hR⟩
    | false => exact ⟨-1, ms M 29 g', rfl, rfl, l, C, O, hP, hB, hT, hF, hS, hY, hK, hU, hM, hR⟩
  · rw [if_neg h0, Option.bind_some, if_neg (by decide), if_neg h0]
    exact ⟨_, M, rfl, rfl, hI⟩
