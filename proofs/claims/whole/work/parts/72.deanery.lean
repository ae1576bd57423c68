-- the reference begins anew; deanery, both sides
theorem quM (M : qM) (q i : Nat) (x : Int32) : qu M q i x = ms M q (upd (M q) i x) := by rw [← ms_qu, ms_self]
theorem nar_0 : vp_nar .boolean (nI 0) = nI 0 := by decide
def BGP (dn nw : Nat → Int32) : Prop := (nw 0 = nI 0 ∧ nw 61 = nI 0 ∧ nw 62 = nI 0) ∧ (∀ c, c < 6 → nw (1 + c) = dn (3 + c) ∧ nw (7 + c) = nI 0 ∧ nw (13 + c) = -1) ∧ (∀ k, k < 30 → nw (19 + k) = dn (9 + k)) ∧ ∀ o, o < 6 → nw (49 + o) = dn (45 + o) ∧ nw (55 + o) = dn (51 + o)
def BG (M : qM) (nw : Nat → Int32) : qM := ms (ms (ms M 28 nw) 25 (upd (upd (upd (M 25) 5 (nI 0)) 13 (nI 0)) 15 (nI 0))) 32 (upd (upd (M 32) 0 (nI 0)) 1 (nI 0))
theorem begL (M : qM) : ∃ f, f_X12_begins_L2 qF (nI 0) M = some (nI 163, ms M 28 f) ∧ ∀ k, k < 163 → f k = if 13 ≤ k ∧ k ≤ 18 then -1 else nI 0 := by
  have k := up2 (F := fun n (f : Nat → Int32) i => f_X12_begins_L2 n i (ms M 28 f)) (N := 163) (fin := fun f => (nI 163, ms M 28 f)) (fun i f => ∀ k, k < i → f k = if 13 ≤ k ∧ k ≤ 18 then -1 else nI 0) (fun n f _ => ?_) (fun n i f hi hf => ⟨upd f i (if 13 ≤ i ∧ i ≤ 18 then -1 else nI 0), ?_, fun k hk => ?_⟩) 163 0 qF (M 28) (by omega) (by rw [qF_val]; omega) (fun c hc => by omega)
  · obtain ⟨g, k1, k2⟩ := k
    rw [ms_self] at k1
    exact ⟨g, k1, k2⟩
  · show f_X12_begins_L2 _ _ _ = _
    rw [f_X12_begins_L2, if_pos (nI_le (Nat.le_refl _) (by omega))]
  · show f_X12_begins_L2 _ _ _ = f_X12_begins_L2 _ _ _
    rw [f_X12_begins_L2, if_neg (nI_ge hi (by omega)), in_ll _ _ (by omega) (by omega), Option.bind_some, qwr_nI (by omega) (by decide), qwr_nI (by omega) (by decide), Option.bind_some, Option.bind_some, ms_qu, ms_qu, nI_add]
    by_cases h : 13 ≤ i ∧ i ≤ 18
    · rw [if_pos h, if_pos (inb_in h.1 h.2 (by omega))]
    · rw [if_neg h, if_neg (by rw [inb_iff, nI_toInt (by omega), nI_toInt (by omega), nI_toInt (by omega)]; omega)]
  · by_cases hki : k = i
    · subst hki; rw [pk_us]
    · rw [pk_un hki]; exact hf k (by omega)
theorem qcp_ms (M : qM) (f : Nat → Int32) (i j m : Nat) : qcp (ms M 28 f) 26 28 i j m = ms M 28 (va_cpy (M 26) f i j m) := ms_ms M 28 f (va_cpy (M 26) f i j m)
theorem vc_in {f g : Nat → Int32} {i j m b : Nat} (k : Nat) (h : b = j + k) (hk : k < m) : va_cpy f g i j m b = f (i + k) := by
  unfold va_cpy
  rw [if_pos (by omega)]
  congr 1; omega
theorem vc_out {f g : Nat → Int32} {i j m b : Nat} (h : b < j ∨ j + m ≤ b) : va_cpy f g i j m b = g b := if_neg (by omega)
theorem begins_ok (M : qM) : ∃ nw, f_X12_begins M = some (BG M nw) ∧ BGP (M 26) nw := by
  obtain ⟨f, f1, f2⟩ := begL M
  refine ⟨va_cpy (M 26) (va_cpy (M 26) (va_cpy (M 26) (va_cpy (M 26) f 3 1 6) 9 19 30) 45 49 6) 51 55 6, ?_, ⟨?_, ?_, ?_⟩, fun c hc => ⟨?_, ?_, ?_⟩, fun k hk => ?_, fun o ho => ⟨?_, ?_⟩⟩
  · unfold f_X12_begins
    rw [f1, Option.bind_some, show ((nI 163, ms M 28 f) : Int32 × qM).2 = ms M 28 f from rfl, cp_26_28 (by omega) (by omega), Option.bind_some, qcp_ms, cp_26_28 (by omega) (by omega), Option.bind_some, qcp_ms, cp_26_28 (by omega) (by omega), Option.bind_some, qcp_ms, cp_26_28 (by omega) (by omega), Option.bind_some, qcp_ms]
    generalize va_cpy (M 26) (va_cpy (M 26) (va_cpy (M 26) (va_cpy (M 26) f 3 1 6) 9 19 30) 45 49 6) 51 55 6 = nw
    unfold qpu
    rw [Option.bind_some, Option.bind_some, Option.bind_some, qwz_nI (by omega) (by decide), Option.bind_some, qwz_nI (by omega) (by decide), Option.bind_some, nar_0]
    unfold BG
    rw [show qu (ms M 28 nw) 25 5 (nI 0) = ms (ms M 28 nw) 25 (upd (M 25) 5 (nI 0)) from quM _ _ _ _, ms_qu, ms_qu]
    rw [show qu (ms (ms M 28 nw) 25 (upd (upd (upd (M 25) 5 (nI 0)) 13 (nI 0)) 15 (nI 0))) 32 0 (nI 0) = ms (ms (ms M 28 nw) 25 (upd (upd (upd (M 25) 5 (nI 0)) 13 (nI 0)) 15 (nI 0))) 32 (upd (M 32) 0 (nI 0)) from quM _ _ _ _, ms_qu]
  · rw [vc_out (by omega), vc_out (by omega), vc_out (by omega), vc_out (by omega), f2 _ (by omega), if_neg (by omega)]
  · rw [vc_out (by omega), vc_out (by omega), vc_out (by omega), vc_out (by omega), f2 _ (by omega), if_neg (by omega)]
  · rw [vc_out (by omega), vc_out (by omega), vc_out (by omega), vc_out (by omega), f2 _ (by omega), if_neg (by omega)]
  · rw [vc_out (by omega), vc_out (by omega), vc_out (by omega), vc_in c rfl hc]
  · rw [vc_out (by omega), vc_out (by omega), vc_out (by omega), vc_out (by omega), f2 _ (by omega), if_neg (by omega)]
  · rw [vc_out (by omega), vc_out (by omega), vc_out (by omega), vc_out (by omega), f2 _ (by omega), if_pos (by omega)]
  · rw [vc_out (by omega), vc_out (by omega), vc_in k rfl hk]
  · rw [vc_out (by omega), vc_in o rfl ho]
  · rw [vc_in o rfl ho]
theorem WX_cong {w rd r dn : Nat → Int32} (h1 : ∀ i, i < 72 → r i = w i) (h2 : ∀ j, j < 57 → dn j = rd j) (h : WX w rd) : WX r dn := by
  refine ⟨fun i hi => (h1 i (by omega)).trans (h.1 i hi), fun i j B hq => ?_⟩
  have hq' := hq
  unfold PR at hq'
  rw [h1 i (by omega), h2 j (by omega)]
  exact h.2 i j B hq
theorem WX_0 {w rd : Nat → Int32} (h1 : ∀ i, i < 72 → w i = nI 0) (h2 : ∀ j, j < 57 → rd j = nI 0) : WX w rd := by
  refine ⟨fun i hi => h1 i (by omega), fun i j B hq => ?_⟩
  unfold PR at hq
  rw [h1 i (by omega), h2 j (by omega)]
  exact ⟨rfl, 0, by omega, rfl⟩
theorem RP_new {r dn nw : Nat → Int32} {l C O : Nat} (hw : WX r dn) (hc : CN r dn l C O) (hb : BGP dn nw) : RP r dn nw := by
  obtain ⟨⟨c0, cl⟩, ⟨c1, c1', cC⟩, ⟨c2, c2', cO⟩, c3⟩ := hc
  obtain ⟨⟨b0, b61, b62⟩, b1, b2, b3⟩ := hb
  have z := hw.1
  have q := hw.2
  refine ⟨⟨(q 0 0 20 (Or.inl ⟨rfl, rfl, rfl⟩)).1, c1.trans c1'.symm, c2.trans c2'.symm, (z 3 (by omega)).trans b0.symm, (z 4 (by omega)).trans b61.symm, (z 5 (by omega)).trans b62.symm⟩, fun c hc => ⟨?_, ?_, ?_⟩, fun k hk => ?_, fun o ho => ⟨?_, ?_, ?_⟩, fun b hb h5 i hi => ?_⟩
  · exact ((q (6 + c) (3 + c) 60 (by unfold PR; omega)).1).trans (b1 c hc).1.symm
  · exact (z (12 + c) (by omega)).trans (b1 c hc).2.1.symm
  · rw [z (12 + c) (by omega), if_neg (by decide)]; exact (b1 c hc).2.2
  · exact ((q (24 + k) (9 + k) 20 (by unfold PR; omega)).1).trans (b2 k hk).symm
  · exact (q (54 + o) (39 + o) 3 (by unfold PR; omega)).1
  · exact ((q (60 + o) (45 + o) 20 (by unfold PR; omega)).1).trans (b3 o ho).1.symm
  · exact ((q (66 + o) (51 + o) 31 (by unfold PR; omega)).1).trans (b3 o ho).2.symm
  · rw [z 5 (by omega)] at h5
    have := (nI_eq (by omega) (by omega)).mp h5
    omega
theorem BD_new {r dn : Nat → Int32} {l C O : Nat} (hw : WX r dn) (hc : CN r dn l C O) : BD r l C O := by
  obtain ⟨c0, ⟨c1, c1', cC⟩, ⟨c2, c2', cO⟩, c3⟩ := hc
  have z := hw.1
  have q := hw.2
  refine ⟨c0, ⟨c1, cC⟩, ⟨c2, cO⟩, c3, ⟨0, by omega, z 5 (by omega)⟩, ⟨0, by omega, z 4 (by omega)⟩, fun c hc => ⟨?_, 0, by omega, z (12 + c) (by omega)⟩, fun k hk => ?_, fun o ho => ⟨?_, ?_, ?_⟩⟩
  · obtain ⟨-, a, h1, h2⟩ := q (6 + c) (3 + c) 60 (by unfold PR; omega)
    exact ⟨a, by omega, h2⟩
  · exact (q (24 + k) (9 + k) 20 (by unfold PR; omega)).2
  · exact (q (54 + o) (39 + o) 3 (by unfold PR; omega)).2
  · obtain ⟨-, a, h1, h2⟩ := q (60 + o) (45 + o) 20 (by unfold PR; omega)
    exact ⟨a, by omega, h2⟩
  · obtain ⟨-, a, h1, h2⟩ := q (66 + o) (51 + o) 31 (by unfold PR; omega)
    exact ⟨a, by omega, h2⟩
theorem fill5_eq (M : qM) : ∃ f, f_J7_fill_at5 (nI 0) M = some (ms M 5 f) ∧ ∀ k, k < 172 → f k = nI 0 := by
  unfold f_J7_fill_at5
  have k := up2 (F := fun n (f : Nat → Int32) i => f_J7_fill_at5_L5 (nI 0) (nI 172) n i (ms M 5 f)) (N := 172) (fin := fun f => (nI 172, ms M 5 f)) (fun i f => ∀ k, k < i → f k = nI 0) (fun n f _ => ?_) (fun n i f hi hf => ⟨upd f i (nI 0), ?_, fun k hk => ?_⟩) 172 0 qF (M 5) (by omega) (by rw [qF_val]; omega) (fun c hc => by omega)
  · obtain ⟨g, k1, k2⟩ := k
    rw [ms_self] at k1
    exact ⟨g, by rw [k1, Option.bind_some], k2⟩
  · show f_J7_fill_at5_L5 _ _ _ _ _ = _
    rw [f_J7_fill_at5_L5, if_pos (nI_le (Nat.le_refl _) (by omega))]
  · show f_J7_fill_at5_L5 _ _ _ _ _ = f_J7_fill_at5_L5 _ _ _ _ _
    rw [f_J7_fill_at5_L5, if_neg (nI_ge hi (by omega)), qwr_nI (by omega) (by decide), Option.bind_some, ms_qu, nI_add]
  · by_cases hki : k = i
    · subst hki; rw [pk_us]
    · rw [pk_un hki]; exact hf k (by omega)
theorem fill27 : ∀ (m i n : Nat) (M : qM), i + m = 57 → m < n → f_X12_deanery_L2 n (nI i) M = some (nI 57, ms M 27 (fun k => if i ≤ k ∧ k < 57 then nI 0 else M 27 k))
  | m, i, 0, M, hi, hn => by omega
  | 0, i, n + 1, M, hi, hn => by
    have e : i = 57 := by omega
    subst e
    rw [f_X12_deanery_L2, if_pos (nI_le (Nat.le_refl _) (by omega)), show (fun k => if 57 ≤ k ∧ k < 57 then nI 0 else M 27 k) = M 27 from funext fun k => if_neg (by omega), ms_self]
  | m + 1, i, n + 1, M, hi, hn => by
    rw [f_X12_deanery_L2, if_neg (nI_ge (by omega) (by omega)), qwr_nI (by omega) (by decide), Option.bind_some, nI_add, fill27 m (i + 1) n _ (by omega) (by omega)]
    congr 2
    funext a
    by_cases h : a = 27
    · subst h
      rw [ms_q, ms_q]
      funext k
      rw [qu_row]
      by_cases hk : k = i
      · subst hk
        rw [if_neg (by omega), if_pos (by omega), pk_us]
      · rw [pk_un hk]
        by_cases h2 : i + 1 ≤ k ∧ k < 57
        · rw [if_pos h2, if_pos (by omega)]
        · rw [if_neg h2, if_neg (by omega)]
    · rw [ms_ne _ _ h, ms_ne _ _ h, qu_ne _ _ _ _ h]
