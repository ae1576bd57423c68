-- the class's rounds
def sub' (a b : Nat) : Bool := decide (a &&& (63 - b) = 0)
theorem sub_pc : ∀ a, a < 64 → ∀ b, b < 64 → sub' a b = true → pc a ≤ pc b ∧ a ≤ b := by decide +kernel
theorem sub_bit : ∀ a, a < 64 → ∀ b, b < 64 → sub' a b = true → ∀ c, c < 6 → bt a c = true → sub' (a - 2 ^ c) b = true := by decide +kernel
theorem sub_self : ∀ b, b < 64 → sub' b b = true := by decide +kernel
theorem pc_0 : ∀ s, s < 64 → pc s = 0 → s = 0 := by decide +kernel
def bvv (r : Nat → Int32) (o C set s : Nat) : Nat := BV C (Wn r o) (pc s) (pc set - pc s) s
def vv (r : Nat → Int32) (o C set s c : Nat) : Nat := Wn r o c (pc set - pc s) + BV C (Wn r o) (pc s - 1) (pc set - pc s + 1) (s - 2 ^ c)
theorem bvv_s {r : Nat → Int32} {o C set s : Nat} (h : 0 < pc s) : bvv r o C set s = mxf (vv r o C set s) (elC C s) := by
  unfold bvv
  obtain ⟨n, hn⟩ : ∃ n, pc s = n + 1 := ⟨pc s - 1, by omega⟩
  rw [hn, BV]
  unfold vv
  rw [hn]; rfl
def TB (r : Nat → Int32) (o C set : Nat) (f : Nat → Int32) (i : Nat) : Prop := ∀ s, s < i → sub' s set = true → f s = nI (bvv r o C set s)
theorem valC_eq {M : qM} {o C set s c i : Nat} (ho : o < 6) (hset : set < 64) (hT : TB (M 2) o C set (M 17) i) (hs : s < 64) (hsi : s ≤ i) (hsub : sub' s set = true) (hc : c < 6) (hb : bt s c = true) : f_X8_valueOf (nI o) (nI c) (nI set) (nI s) M = some (nI (vv (M 2) o C set s c)) := by
  obtain ⟨p1, p2⟩ := sub_pc s hs set hset hsub
  obtain ⟨b1, b2, b3⟩ := pc_bit s hs c hc hb
  have hs2 := sub_bit s hs set hset hsub c hc hb
  have e := hT (s - 2 ^ c) (by omega) hs2
  unfold f_X8_valueOf
  rw [bc_eq hset, bc_eq hs, Option.bind_some, Option.bind_some, b3, qrd_nI (by omega) (by decide), Option.bind_some, e, pk_sub (by omega), wedIn_eq ho hc, Option.bind_some]
  unfold vv bvv Wn
  rw [show pc (s - 2 ^ c) = pc s - 1 by omega, show pc set - (pc s - 1) = pc set - pc s + 1 by omega]
  cases Wed (M 2) o c (pc set - pc s) with
  | true => rw [if_pos rfl, if_pos rfl, nI_add, Nat.add_comm]
  | false => rw [if_neg (by decide), if_neg (by decide), nI_add, Nat.add_comm]
theorem vv_le {r : Nat → Int32} {o C set s c : Nat} (h : 0 < pc s) : vv r o C set s c ≤ pc s := by
  unfold vv
  have h1 := Wn_le r o c (pc set - pc s)
  have h2 := BV_le (C := C) (Wn_le r o) (pc s - 1) (pc set - pc s + 1) (s - 2 ^ c)
  omega
theorem bestC_eq {M : qM} {l C O o set s : Nat} (hB : BD (M 2) l C O) (ho : o < 6) (hset : set < 64) (hT : TB (M 2) o C set (M 17) s) (hs : s < 64) (h0 : 0 < s) (hsub : sub' s set = true) : f_X8_bestOf (nI o) (nI set) (nI s) M = some (nI (bvv (M 2) o C set s)) := by
  have hC := hBc hB
  have hp : 0 < pc s := by
    by_cases h : pc s = 0
    · have := pc_0 s hs h; omega
    · omega
  unfold f_X8_bestOf
  have k := (up1 (F := fun n (a : Nat) i => f_X8_bestOf_L6 (nI o) (nI set) (nI s) M n (nI a) i) (N := C) (step := fun c a => if bt s c then max a (vv (M 2) o C set s c) else a) (fin := fun a => (nI a, nI C)) (fun _ a => a ≤ 6) (fun n a _ => ?_) (fun n i a hi ha => ⟨?_, ?_⟩) C 0 qF 0 (by omega) (by rw [qF_val]; omega) (by omega)).1
  · rw [k, Option.bind_some, IT_mx, Nat.max_eq_right (Nat.zero_le _), bvv_s hp]; rfl
  · show f_X8_bestOf_L6 _ _ _ _ _ _ _ = _
    rw [f_X8_bestOf_L6]
    unfold f_X5_couples
    rw [qrd_nI (by omega) (by decide), hC.1, Option.bind_some, Option.bind_some, if_pos (nI_le (Nat.le_refl _) (by omega))]
  · show f_X8_bestOf_L6 _ _ _ _ _ _ _ = f_X8_bestOf_L6 _ _ _ _ _ _ _
    rw [f_X8_bestOf_L6]
    unfold f_X5_couples
    have hb := bt_1 (s := s) (i := i) hs (by omega)
    rw [qrd_nI (by omega) (by decide), hC.1, Option.bind_some, Option.bind_some, if_neg (nI_ge hi (by omega)), nI_add]
    cases hbt : bt s i with
    | true =>
      rw [hbt] at hb
      have hv := vv_le (r := M 2) (o := o) (C := C) (set := set) (c := i) hp
      have hp6 := pc_le s
      rw [if_pos (of_decide_eq_true hb), valC_eq ho hset hT hs (Nat.le_refl _) hsub (by omega) hbt, Option.bind_some, qmax_nI (by omega) (by omega), if_pos rfl]
    | false =>
      rw [hbt] at hb
      rw [if_neg (of_decide_eq_false hb), if_neg (by decide)]
  · have hv := vv_le (r := M 2) (o := o) (C := C) (set := set) (c := i) hp
    have hp6 := pc_le s
    split <;> omega
theorem weighC_eq {M : qM} {l C O o set : Nat} (hB : BD (M 2) l C O) (ho : o < 6) (hset : set < 64) (h17 : M 17 0 = 0) : ∃ f, f_X8_weigh (nI o) (nI set) M = some (ms M 17 f) ∧ TB (M 2) o C set f (set + 1) ∧ f 0 = 0 := by
  have hC := hBc hB
  unfold f_X8_weigh
  have k := up2 (F := fun n (f : Nat → Int32) i => f_X8_weigh_L3 (nI o) (nI set) n i (ms M 17 f)) (N := set + 1) (fin := fun f => (nI (set + 1), ms M 17 f)) (fun i f => 0 < i ∧ TB (M 2) o C set f i ∧ f 0 = 0) (fun n f _ => ?_) (fun n i f hi hf => ?_) set 1 qF (M 17) (by omega) (by rw [qF_val]; omega) ⟨by omega, fun s hs _ => by
    have e : s = 0 := by omega
    subst e
    rw [h17]; rfl, h17⟩
  · obtain ⟨f, k1, -, k2, k3⟩ := k
    have k1 : f_X8_weigh_L3 (nI o) (nI set) qF (nI 1) (ms M 17 (M 17)) = _ := k1
    rw [ms_self] at k1
    exact ⟨f, by rw [k1, Option.bind_some], k2, k3⟩
  · show f_X8_weigh_L3 _ _ _ _ _ = _
    rw [f_X8_weigh_L3, if_pos (nI_lt (by omega) (by omega))]
  · obtain ⟨h0, hT, hf0⟩ := hf
    have hne : (nI i &&& (nI set ^^^ (-1 : Int32)) = 0) = (sub' i set = true) := by
      rw [not_eq i (by omega) set hset]
      unfold sub'
      have hlt : i &&& (63 - set) < 64 := Nat.lt_of_le_of_lt Nat.and_le_left (show i < 64 by omega)
      apply propext
      rw [decide_eq_true_iff]
      constructor
      · intro q; exact (nI_eq (by omega) (by omega)).mp q
      · intro q; rw [q]; rfl
    cases hsub : sub' i set with
    | true =>
      refine ⟨upd f i (nI (bvv (M 2) o C set i)), ?_, by omega, fun s hs hss => ?_, ?_⟩
      · show f_X8_weigh_L3 _ _ _ _ _ = f_X8_weigh_L3 _ _ _ _ _
        have hb := bestC_eq (M := ms M 17 f) (l := l) (C := C) (O := O) (o := o) (set := set) (s := i) hB ho hset hT (by omega) h0 hsub
        rw [f_X8_weigh_L3, if_neg (nI_nlt (by omega) (by omega)), if_pos (by rw [hne]; exact hsub), hb, Option.bind_some, qwr_nI (by omega) (by decide), Option.bind_some, ms_qu, nI_add]
        rfl
      · by_cases hsi : s = i
        · subst hsi; rw [pk_us]
        · rw [pk_un hsi]; exact hT s (by omega) hss
      · rw [pk_un (by omega)]; exact hf0
    | false =>
      refine ⟨f, ?_, by omega, fun s hs hss => ?_, hf0⟩
      · show f_X8_weigh_L3 _ _ _ _ _ = f_X8_weigh_L3 _ _ _ _ _
        rw [f_X8_weigh_L3, if_neg (nI_nlt (by omega) (by omega)), if_neg (by rw [hne, hsub]; decide), nI_add]
      · have hsi : s ≠ i := fun e => by rw [e, hsub] at hss; cases hss
        exact hT s (by omega) hss
theorem firstR_ok {M : qM} {l C O o set s : Nat} (hB : BD (M 2) l C O) (ho : o < 6) (hset : set < 64) (hT : TB (M 2) o C set (M 17) (set + 1)) (hs : s < 64) (h0 : 0 < pc s) (hsub : sub' s set = true) : ∀ (m i n : Nat), i + m = C → m < n → ∃ w, f_X8_firstChoice_L3 (nI o) (nI set) (nI s) M n (nI i) = some w ∧ Sum.elim some (fun _ => some (nI 0)) w = some (nI (ff (vv (M 2) o C set s) (bvv (M 2) o C set s) ((List.range' i m).filter (bt s))))
  | _, i, 0, hi, hn => by omega
  | 0, i, n + 1, hi, hn => by
    have hC := hBc hB
    have e : i = C := by omega
    subst e
    refine ⟨.inr (nI i), ?_, rfl⟩
    rw [f_X8_firstChoice_L3]
    unfold f_X5_couples
    rw [qrd_nI (by omega) (by decide), hC.1, Option.bind_some, Option.bind_some, if_pos (nI_le (Nat.le_refl _) (by omega))]
  | m + 1, i, n + 1, hi, hn => by
    have hC := hBc hB
    have hp := (sub_pc s hs set hset hsub).2
    have ih := firstR_ok hB ho hset hT hs h0 hsub m (i + 1) n (by omega) (by omega)
    have hb := bt_1 (s := s) (i := i) hs (by omega)
    rw [f_X8_firstChoice_L3]
    unfold f_X5_couples
    rw [qrd_nI (by omega) (by decide), hC.1, Option.bind_some, Option.bind_some, if_neg (nI_ge (by omega) (by omega)), nI_add, List.range'_succ, List.filter_cons]
    cases hbt : bt s i with
    | false =>
      rw [hbt] at hb
      rw [if_neg (of_decide_eq_false hb), if_neg (by decide)]
      exact ih
    | true =>
      rw [hbt] at hb
      have hv := vv_le (r := M 2) (o := o) (C := C) (set := set) (c := i) h0
      have hv2 : bvv (M 2) o C set s ≤ pc s := BV_le (Wn_le _ _) _ _ _
      have hp6 := pc_le s
      rw [if_pos (of_decide_eq_true hb), valC_eq ho hset hT hs (by omega) hsub (by omega) hbt, Option.bind_some, qrd_nI (by omega) (by decide), Option.bind_some, hT s (by omega) hsub, if_pos rfl, ff]
      by_cases hvv : vv (M 2) o C set s i = bvv (M 2) o C set s
      · rw [if_pos (by rw [hvv]), if_pos hvv]
        exact ⟨_, rfl, rfl⟩
      · rw [if_neg (fun q => hvv ((nI_eq (by omega) (by omega)).mp q)), if_neg hvv]
        exact ih
theorem figC_ok {M : qM} {l C O o set : Nat} (hB : BD (M 2) l C O) (ho : o < 6) (hset : set < 64) (hC2 : set < 2 ^ C) (h5 : pc set ≤ 5) (hT : TB (M 2) o C set (M 17) (set + 1)) : ∀ (k n s b : Nat), pc s = k → k < n → s < 64 → sub' s set = true → ∃ x y, f_X8_figures_L9 (nI o) (nI set) M n (nI b) (nI s) (nI (pc set - pc s)) = some (nI (fg b (XL C (Wn (M 2) o) (pc s) (pc set - pc s) s)), x, y)
  | k, 0, s, b, hk, hn, hs, hsub => by omega
  | 0, n + 1, s, b, hk, hn, hs, hsub => by
    have e := pc_0 s hs hk
    rw [f_X8_figures_L9, hk, e]
    by_cases h : 5 ≤ pc set - 0
    · rw [if_pos (nI_le h (by omega))]; exact ⟨_, _, rfl⟩
    · rw [if_neg (nI_ge (by omega) (by omega)), if_pos (show nI 0 = 0 from rfl)]; exact ⟨_, _, rfl⟩
  | k + 1, n + 1, s, b, hk, hn, hs, hsub => by
    have hC := hBc hB
    obtain ⟨p1, p2⟩ := sub_pc s hs set hset hsub
    have hs0 : 0 < s := by
      by_cases h : s = 0
      · subst h; rw [show pc 0 = 0 from rfl] at hk; omega
      · omega
    obtain ⟨w, w1, w2⟩ := firstR_ok hB ho hset hT hs (by omega) hsub C 0 qF (by omega) (by rw [qF_val]; omega)
    have hne := el_ne C hC.2 s hs (by omega) (by omega)
    have hmem : ff (vv (M 2) o C set s) (bvv (M 2) o C set s) (elC C s) ∈ elC C s := by
      rw [bvv_s (by omega)]; exact ff_mem _ _ hne
    have hfc : f_X8_firstChoice (nI o) (nI set) (nI s) M = some (nI (ff (vv (M 2) o C set s) (bvv (M 2) o C set s) (elC C s))) := by
      unfold f_X8_firstChoice
      rw [w1, Option.bind_some]
      exact w2
    have eX : XL C (Wn (M 2) o) (pc s) (pc set - pc s) s = ff (vv (M 2) o C set s) (bvv (M 2) o C set s) (elC C s) :: XL C (Wn (M 2) o) (pc s - 1) (pc set - pc s + 1) (s - 2 ^ ff (vv (M 2) o C set s) (bvv (M 2) o C set s) (elC C s)) := by
      unfold vv bvv
      rw [hk, XL]; rfl
    rw [eX, fg]
    generalize ff (vv (M 2) o C set s) (bvv (M 2) o C set s) (elC C s) = c at hmem hfc
    obtain ⟨m1, m2⟩ := el_mem.mp hmem
    obtain ⟨b1, b2, b3⟩ := pc_bit s hs c (by omega) m2
    rw [f_X8_figures_L9, if_neg (nI_ge (by omega) (by omega)), if_neg (nI_ne0 hs0 (by omega)), hfc, Option.bind_some, b3, pk_mul, nI_add, nI_add, nI_add]
    have ih := figC_ok hB ho hset hC2 h5 hT k n (s - 2 ^ c) (b * 10 + c + 1) (by omega) (by omega) (by omega) (sub_bit s hs set hset hsub c (by omega) m2)
    rw [show pc (s - 2 ^ c) = pc s - 1 by omega, show pc set - (pc s - 1) = pc set - pc s + 1 by omega] at ih
    rw [show 10 * b + c + 1 = b * 10 + c + 1 by omega]
    exact ih
theorem op_rounds {M : qM} {J : qJ} (hI : Inv M J) (a1 : Int32) (a2 : Int32) (a3 : Int32) : ∃ r M1 M2, f_X11_rounds a1 a2 a3 M = some (r, M1) ∧ f_X12_rounds a1 a2 a3 M1 = some (r, M2) ∧ Inv M2 J := by
  obtain ⟨l, C, O, hP, hB, hT, hF, hS, hY, hK, hU, hM, hR⟩ := id hI
  have hc1 := hBc hB
  have ho1 := hBo hB
  have hc2 := h26c hP hB
  have ho2 := h26o hP hB
  have hp64 : 2 ^ C ≤ 64 := Nat.pow_le_pow_right (n := 2) (by omega) hc1.2
  have qc : f_X5_couples M = some (nI C) := by unfold f_X5_couples; rw [qrd_nI (by omega) (by decide), hc1.1]; rfl
  have q1 : ∀ M1 : qM, M1 26 = M 26 → qrd M1 26 57 (nI 1) = some (nI C) := fun M1 h => by rw [qrd_nI (by omega) (by decide), h, hc2]
  unfold f_X11_rounds f_X12_rounds
  rw [hasObjector_eq ho1.1 ho1.2, Option.bind_some]
  cases h1 : inb a1 (nI 0) (nI O - nI 1) with
  | false =>
    refine ⟨(-1000000001 : Int32), M, M, rfl, ?_, hI⟩
    rw [isObjector_eq ho2, h1, Option.bind_some, if_neg (by decide)]
  | true =>
  rw [if_pos rfl, qc, Option.bind_some, isSetOf_eq hc1.2, Option.bind_some]
  cases h2 : inb a2 (nI 0) (nI (2 ^ C) - nI 1) with
  | false =>
    refine ⟨(-1000000001 : Int32), M, M, rfl, ?_, hI⟩
    rw [isObjector_eq ho2, h1, Option.bind_some, if_pos rfl, q1 M rfl, Option.bind_some, one_shl (by omega), in_lv _ _ _ (by omega), h2, Option.bind_some, if_neg (by decide)]
  | true =>
  rw [if_pos rfl, isOutside_eq, Option.bind_some]
  cases h3 : inb a3 (nI 0) (nI 1) with
  | false =>
    refine ⟨(-1000000002 : Int32), M, M, rfl, ?_, hI⟩
    rw [isObjector_eq ho2, h1, Option.bind_some, if_pos rfl, q1 M rfl, Option.bind_some, one_shl (by omega), in_lv _ _ _ (by omega), h2, Option.bind_some, if_pos rfl, in_ll _ _ (by omega) (by omega), h3, Option.bind_some, if_neg (by decide)]
  | true =>
  obtain ⟨o, ho, rfl⟩ := inb_sub h1 (by omega)
  obtain ⟨set, hset, rfl⟩ := inb_sub h2 (by omega)
  have hset64 : set < 64 := by omega
  have hmod : ∀ M1 : qM, M1 26 = M 26 → M1 28 = M 28 → f_X12_rounds (nI o) (nI set) a3 M1 = (if (nI set &&& (nI (bs (fun c => decide (M 2 (12 + c) = nI 0)) C) ^^^ (-1 : Int32))) = 0 then (if nI (pc set) ≤ (nI 5) then (f_X12_rounds_L73 (nI o) (nI set) a3 qF (nI 0) (nI 0) M1).bind fun e32 => (f_X12_rounds_L120 (nI o) a3 e32.1 qF (-1 : Int32) (nI 0) true e32.2.2).bind fun e133 => if a3 = 0 then some (e133.1, e133.2.2.2)
    else some (e133.2.1, e133.2.2.2)
    else some ((-1000000003 : Int32), M1))
    else some ((-1000000003 : Int32), M1)) := by
    intro M1 e26 e28
    have hP1 : RP (M 2) (M1 26) (M1 28) := by rw [e26, e28]; exact hP
    unfold f_X12_rounds
    rw [isObjector_eq (show M1 26 2 = nI O by rw [e26]; exact ho2), h1, Option.bind_some, if_pos rfl, q1 M1 e26, Option.bind_some, one_shl (by omega), in_lv _ _ _ (by omega), h2, Option.bind_some, if_pos rfl, in_ll _ _ (by omega) (by omega), h3, Option.bind_some, if_pos rfl, those_eq hP1 hB, Option.bind_some, bits_eq hset64, Option.bind_some]
  show ∃ r M1 M2, _ ∧ f_X12_rounds (nI o) (nI set) a3 M1 = some (r, M2) ∧ Inv M2 J
  rw [if_neg (by decide), that_eq hB, Option.bind_some]
  by_cases h4 : (nI set &&& (nI (bs (fun c => decide (M 2 (12 + c) = nI 0)) C) ^^^ (-1 : Int32))) = 0
  · rw [if_pos h4, bc_eq hset64, Option.bind_some]
    have hpc6 := pc_le set
    by_cases h5 : pc set ≤ 5
    · rw [if_pos (nI_le h5 (by omega))]
      obtain ⟨f, w1, w2, w3⟩ := weighC_eq (o := o) (set := set) hB (by omega) hset64 hR
      have hwait : ∀ c, c < C → bt set c = true → M 2 (12 + c) = 0 := by
        intro c hc hbt
        have hb64 := bs_64 (fun c => decide (M 2 (12 + c) = nI 0)) hc1.2
        rw [not_eq set hset64 _ hb64] at h4
        have hlt : set &&& (63 - bs (fun c => decide (M 2 (12 + c) = nI 0)) C) < 64 := Nat.lt_of_le_of_lt Nat.and_le_left hset64
        have h4 := (nI_eq (by omega) (by omega)).mp (show nI _ = nI 0 from h4)
        have h6 : (set &&& (63 - bs (fun c => decide (M 2 (12 + c) = nI 0)) C)).testBit c = false := by rw [h4, Nat.zero_testBit]
        rw [Nat.testBit_and, not_bit _ hb64 c (by omega), bs_bit, show decide (c < C) = true from decide_eq_true hc, Bool.true_and] at h6
        have h7 : set.testBit c = true := by rw [Nat.testBit_eq_decide_div_mod_eq]; exact hbt
        rw [h7, Bool.true_and] at h6
        have h8 : decide (M 2 (12 + c) = nI 0) = true := by
          cases hd : decide (M 2 (12 + c) = nI 0) with
          | true => rfl
          | false => rw [hd] at h6; cases h6
        exact of_decide_eq_true h8
      obtain ⟨⟨o1, o2⟩, o3, o4⟩ := orders_ok hc1.2 hset64 hset h5
      obtain ⟨F, r1, r2⟩ := row_ok (M := ms M 17 f) (x1 := nI o) (x3 := a3) (C := C) (s := set) hc2 hc1.2 hset64
      have hsel := sel_ok (W := Wn (M 2) o) hc1.2 (pc set) 0 set hset64 hset rfl
      cases hL : LPs C (pc set) set with
      | nil => rw [hL] at o3; cases o3
      | cons x L =>
        rw [hL] at o1 o2 o3 o4 hsel
        have hx : x = elC C set := Option.some.inj o3
        have hxl : x.length = pc set := by
          rw [List.all_cons, Bool.and_eq_true] at o2
          exact (ndb_lt o2.1).1
        rw [← hx] at r1 r2
        rw [hxl] at r1 r2
        have hlen : L.length + 1 ≤ 120 := by simpa using o4
        obtain ⟨F', g', hlp⟩ := loop_ok (x3 := a3) hP hB ho h5 hwait L x qF none F (M 29) o1 o2 (by rw [qF_val]; omega) (fun y hy => by cases hy) r2
        have hlp2 := hlp (ms M 17 f) rfl rfl
        rw [show ms (ms (ms M 17 f) 37 F) 29 (M 29) = ms (ms M 17 f) 37 F from ms_self (ms (ms M 17 f) 37 F) 29, hsel] at hlp2
        have hlp2 : f_X12_rounds_L120 (nI o) a3 (nI (pc set)) qF (-1 : Int32) (nI 0) true (ms (ms M 17 f) 37 F) = some (nI (BV C (Wn (M 2) o) (pc set) 0 set), nI (fg 0 (XL C (Wn (M 2) o) (pc set) 0 set)), false, ms (ms (ms M 17 f) 37 F') 29 g') := hlp2
        have hInv : Inv (ms (ms (ms M 17 f) 37 F') 29 g') J := ⟨l, C, O, hP, hB, hT, hF, hS, hY, hK, hU, hM, w3⟩
        have hf : f set = nI (BV C (Wn (M 2) o) (pc set) 0 set) := by
          have := w2 set (by omega) (sub_self set hset64)
          unfold bvv at this
          rw [Nat.sub_self] at this
          exact this
        obtain ⟨y1, y2, hfig⟩ := figC_ok (M := ms M 17 f) (l := l) (C := C) (O := O) (o := o) (set := set) hB (by omega) hset64 hset h5 w2 (pc set) qF set 0 rfl (by rw [qF_val]; omega) hset64 (sub_self set hset64)
        rw [Nat.sub_self] at hfig
        have hm := hmod (ms M 17 f) rfl rfl
        rw [if_pos h4, if_pos (nI_le h5 (by omega)), r1, Option.bind_some] at hm
        have hm : f_X12_rounds (nI o) (nI set) a3 (ms M 17 f) = ((f_X12_rounds_L120 (nI o) a3 (nI (pc set)) qF (-1 : Int32) (nI 0) true (ms (ms M 17 f) 37 F)).bind fun e133 => if a3 = 0 then some (e133.1, e133.2.2.2) else some (e133.2.1, e133.2.2.2)) := hm
        rw [hlp2, Option.bind_some] at hm
        by_cases h0 : a3 = 0
        · refine ⟨nI (BV C (Wn (M 2) o) (pc set) 0 set), ms M 17 f, ms (ms (ms M 17 f) 37 F') 29 g', ?_, ?_, hInv⟩
          · rw [w1, Option.bind_some, if_pos h0]
            unfold f_X8_howMany
            rw [qrd_nI (by omega) (by decide), ms_q, hf]; rfl
          · rw [hm, if_pos h0]
        · refine ⟨nI (fg 0 (XL C (Wn (M 2) o) (pc set) 0 set)), ms M 17 f, ms (ms (ms M 17 f) 37 F') 29 g', ?_, ?_, hInv⟩
          · rw [w1, Option.bind_some, if_neg h0]
            unfold f_X8_figures
            rw [hfig]; rfl
          · rw [hm, if_neg h0]
    · refine ⟨(-1000000003 : Int32), M, M, ?_, ?_, hI⟩
      · rw [if_neg (nI_ge (by omega) (by omega))]
      · rw [hmod M rfl rfl, if_pos h4, if_neg (nI_ge (by omega) (by omega))]
  · refine ⟨(-1000000003 : Int32), M, M, ?_, ?_, hI⟩
    · rw [if_neg h4]
    · rw [hmod M rfl rfl, if_neg h4]
