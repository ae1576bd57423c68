-- the text, both readers
def sk (tx : Nat → Nat) (n : Nat) : Nat → Nat → Nat
  | 0, p => p
  | k + 1, p => if p < n ∧ tx p = 32 then sk tx n k (p + 1) else p
def SKP (tx : Nat → Nat) (n p : Nat) : Nat := sk tx n (n - p) p
theorem sk_le (tx : Nat → Nat) (n : Nat) : ∀ (k p : Nat), p + k ≤ n → p ≤ sk tx n k p ∧ sk tx n k p ≤ n
  | 0, p, h => ⟨Nat.le_refl _, h⟩
  | k + 1, p, h => by
    unfold sk
    split
    · have := sk_le tx n k (p + 1) (by omega); omega
    · omega
theorem SKP_le {tx : Nat → Nat} {n p : Nat} (h : p ≤ n) : p ≤ SKP tx n p ∧ SKP tx n p ≤ n := sk_le tx n (n - p) p (by omega)
abbrev isD (tx : Nat → Nat) (n q : Nat) : Prop := q < n ∧ 48 ≤ tx q ∧ tx q ≤ 57
def dg (tx : Nat → Nat) (n s : Nat) : Nat → Nat → Nat → Nat × Nat
  | 0, p, v => (p, v)
  | k + 1, p, v => if isD tx n p then dg tx n s k (p + 1) (if p - s < 3 then v * 10 + tx p - 48 else v) else (p, v)
theorem dg_le (tx : Nat → Nat) (n s : Nat) : ∀ (k p v : Nat), p + k ≤ n → p ≤ (dg tx n s k p v).1 ∧ (dg tx n s k p v).1 ≤ n
  | 0, p, v, h => ⟨Nat.le_refl _, h⟩
  | k + 1, p, v, h => by
    unfold dg
    split
    · have := dg_le tx n s k (p + 1) (if p - s < 3 then v * 10 + tx p - 48 else v) (by omega); omega
    · exact ⟨Nat.le_refl _, by show p ≤ n; omega⟩
def vok (s p v : Nat) : Prop := s ≤ p ∧ (p = s → v = 0) ∧ (p = s + 1 → v < 10) ∧ (p = s + 2 → v < 100) ∧ v < 1000
theorem vok_s {tx : Nat → Nat} {n s p v : Nat} (h : vok s p v) (hd : isD tx n p) : vok s (p + 1) (if p - s < 3 then v * 10 + tx p - 48 else v) := by
  obtain ⟨h1, h2, h3, h4, h5⟩ := h
  obtain ⟨d1, d2, d3⟩ := hd
  unfold vok
  split
  · refine ⟨by omega, by omega, by omega, by omega, ?_⟩
    have : p = s ∨ p = s + 1 ∨ p = s + 2 := by omega
    rcases this with q | q | q
    · have := h2 q; omega
    · have := h3 q; omega
    · have := h4 q; omega
  · exact ⟨by omega, by omega, by omega, by omega, h5⟩
theorem dg_v (tx : Nat → Nat) (n s : Nat) : ∀ (k p v : Nat), vok s p v → (dg tx n s k p v).2 < 1000
  | 0, p, v, h => h.2.2.2.2
  | k + 1, p, v, h => by
    unfold dg
    by_cases hd : isD tx n p
    · rw [if_pos hd]; exact dg_v tx n s k (p + 1) _ (vok_s h hd)
    · rw [if_neg hd]; exact h.2.2.2.2
def NV (tx : Nat → Nat) (n p : Nat) : Nat × Nat := dg tx n (SKP tx n p) (n - SKP tx n p) (SKP tx n p) 0
theorem NV_le {tx : Nat → Nat} {n p : Nat} (h : p ≤ n) : SKP tx n p ≤ (NV tx n p).1 ∧ (NV tx n p).1 ≤ n := by
  have := SKP_le (tx := tx) h
  exact dg_le tx n _ _ _ _ (by omega)
theorem NV_v {tx : Nat → Nat} {n p : Nat} : (NV tx n p).2 < 1000 := dg_v _ _ _ _ _ _ ⟨Nat.le_refl _, fun _ => rfl, fun _ => by omega, fun _ => by omega, by omega⟩
theorem NV_D {tx : Nat → Nat} {n p : Nat} (h : p ≤ n) (hd : isD tx n (SKP tx n p)) : SKP tx n p < (NV tx n p).1 := by
  have hq := hd.1
  unfold NV
  obtain ⟨k, hk⟩ : ∃ k, n - SKP tx n p = k + 1 := ⟨n - SKP tx n p - 1, by omega⟩
  rw [hk, dg, if_pos hd]
  have := dg_le tx n (SKP tx n p) k (SKP tx n p + 1) (if SKP tx n p - SKP tx n p < 3 then 0 * 10 + tx (SKP tx n p) - 48 else 0) (by omega)
  omega
theorem NV_N {tx : Nat → Nat} {n p : Nat} (hd : ¬ isD tx n (SKP tx n p)) : NV tx n p = (SKP tx n p, 0) := by
  unfold NV
  cases n - SKP tx n p with
  | zero => rfl
  | succ k => rw [dg, if_neg hd]
def nf (tx : Nat → Nat) (n lo hi p : Nat) : Nat := if isD tx n (SKP tx n p) then (if 3 < (NV tx n p).1 - SKP tx n p ∨ (NV tx n p).2 < lo ∨ hi < (NV tx n p).2 then 2 else 0) else 1
def TXT (T : Nat → Int32) (tx : Nat → Nat) (n : Nat) : Prop := n ≤ 240 ∧ ∀ i, i < n → T i = nI (tx i) ∧ tx i < 256
-- the class
def St (h : Nat → Int32) (n p fn : Nat) (fa : Int32) : Prop := h 1 = nI n ∧ h 4 = nI p ∧ h 5 = nI fn ∧ h 2 = fa
theorem St_at {h h' : Nat → Int32} {n p p' fn : Nat} {fa : Int32} (hs : St h n p fn fa) (h4 : h' 4 = nI p') (hj : ∀ j, j ≠ 4 → h' j = h j) : St h' n p' fn fa :=
  ⟨(hj 1 (by decide)).trans hs.1, h4, (hj 5 (by decide)).trans hs.2.2.1, (hj 2 (by decide)).trans hs.2.2.2⟩
theorem skip_ok {T : Nat → Int32} {tx : Nat → Nat} {n : Nat} (hT : TXT T tx n) : ∀ (k p f : Nat) (h : Nat → Int32), p + k = n → k < f → h 1 = nI n → h 4 = nI p → ∃ h', (∀ M : qM, M 6 = T → f_X7_skipBlanks_L0 f (ms M 3 h) = some (ms M 3 h')) ∧ h' 4 = nI (sk tx n k p) ∧ ∀ j, j ≠ 4 → h' j = h j
  | k, p, 0, h, hp, hf, h1, h4 => by omega
  | 0, p, f + 1, h, hp, hf, h1, h4 => by
    have hn := hT.1
    refine ⟨h, fun M hM => ?_, h4, fun _ _ => rfl⟩
    rw [f_X7_skipBlanks_L0, ms_q, h1, h4, if_pos (nI_le (by omega) (by omega))]
  | k + 1, p, f + 1, h, hp, hf, h1, h4 => by
    have hn := hT.1
    obtain ⟨t1, t2⟩ := hT.2 p (by omega)
    have rd : ∀ M : qM, M 6 = T → qrd (ms M 3 h) 6 240 (nI p) = some (nI (tx p)) := fun M hM => by rw [qrd_nI (by omega) (by decide), ms_ne (q := 3) (a := 6) _ _ (by decide), hM, t1]
    unfold sk
    by_cases h32 : tx p = 32
    · obtain ⟨h', a1, a2, a3⟩ := skip_ok hT k (p + 1) f (upd h 4 (nI (p + 1))) (by omega) (by omega) (by rw [pk_un (by decide)]; exact h1) pk_us
      refine ⟨h', fun M hM => ?_, ?_, fun j hj => ?_⟩
      · rw [f_X7_skipBlanks_L0, ms_q, h1, h4, if_neg (nI_ge (by omega) (by omega)), rd M hM, Option.bind_some, if_pos (by rw [h32]), nI_add]
        unfold qpu
        rw [Option.bind_some, ms_qu]
        exact a1 M hM
      · rw [if_pos ⟨by omega, h32⟩]; exact a2
      · rw [a3 j hj, pk_un hj]
    · refine ⟨h, fun M hM => ?_, ?_, fun _ _ => rfl⟩
      · rw [f_X7_skipBlanks_L0, ms_q, h1, h4, if_neg (nI_ge (by omega) (by omega)), rd M hM, Option.bind_some, if_neg (fun q => h32 ((nI_eq (by omega) (by omega)).mp q))]
      · rw [if_neg (fun q => h32 q.2)]; exact h4
theorem skip_c {T : Nat → Int32} {tx : Nat → Nat} {n p fn : Nat} {fa : Int32} {h : Nat → Int32} (hT : TXT T tx n) (hs : St h n p fn fa) (hp : p ≤ n) : ∃ h', (∀ M : qM, M 6 = T → f_X7_skipBlanks (ms M 3 h) = some (ms M 3 h')) ∧ St h' n (SKP tx n p) fn fa := by
  have hn := hT.1
  obtain ⟨h', a1, a2, a3⟩ := skip_ok hT (n - p) p qF h (by omega) (by rw [qF_val]; omega) hs.1 hs.2.1
  refine ⟨h', fun M hM => ?_, St_at hs a2 a3⟩
  unfold f_X7_skipBlanks
  rw [a1 M hM, Option.bind_some]
theorem isFig_eq {t : Nat} (ht : t < 256) (M : qM) : f_X7_isFigure (nI t) M = some (decide (48 ≤ t ∧ t ≤ 57)) := by
  unfold f_X7_isFigure
  by_cases h1 : t < 48
  · rw [if_pos (nI_lt h1 (by omega)), decide_eq_false (by omega)]
  · rw [if_neg (nI_nlt (by omega) (by omega))]
    by_cases h2 : 57 < t
    · rw [if_pos (nI_lt h2 (by omega)), decide_eq_false (by omega)]
    · rw [if_neg (nI_nlt (by omega) (by omega)), decide_eq_true (by omega)]
theorem dig_ok {T : Nat → Int32} {tx : Nat → Nat} {n s : Nat} {x1 x2 : Int32} (hT : TXT T tx n) : ∀ (k p f v : Nat) (h : Nat → Int32), p + k = n → k < f → h 1 = nI n → h 4 = nI p → vok s p v → ∃ h', (∀ M : qM, M 6 = T → f_X7_number_L12 x1 x2 (nI s) f (nI v) (ms M 3 h) = some (nI (dg tx n s k p v).2, ms M 3 h')) ∧ h' 4 = nI (dg tx n s k p v).1 ∧ ∀ j, j ≠ 4 → h' j = h j
  | k, p, 0, v, h, hp, hf, h1, h4, hv => by omega
  | 0, p, f + 1, v, h, hp, hf, h1, h4, hv => by
    have hn := hT.1
    refine ⟨h, fun M hM => ?_, h4, fun _ _ => rfl⟩
    rw [f_X7_number_L12, ms_q, h1, h4, if_pos (nI_le (by omega) (by omega))]; rfl
  | k + 1, p, f + 1, v, h, hp, hf, h1, h4, hv => by
    have hn := hT.1
    obtain ⟨t1, t2⟩ := hT.2 p (by omega)
    have rd : ∀ M : qM, M 6 = T → qrd (ms M 3 h) 6 240 (nI p) = some (nI (tx p)) := fun M hM => by rw [qrd_nI (by omega) (by decide), ms_ne (q := 3) (a := 6) _ _ (by decide), hM, t1]
    have hsp := hv.1
    have hv5 := hv.2.2.2.2
    unfold dg
    by_cases hd : isD tx n p
    · rw [if_pos hd]
      obtain ⟨h', a1, a2, a3⟩ := dig_ok (x1 := x1) (x2 := x2) hT k (p + 1) f (if p - s < 3 then v * 10 + tx p - 48 else v) (upd h 4 (nI (p + 1))) (by omega) (by omega) (by rw [pk_un (by decide)]; exact h1) pk_us (vok_s hv hd)
      refine ⟨h', fun M hM => ?_, a2, fun j hj => by rw [a3 j hj, pk_un hj]⟩
      have a1 := a1 M hM
      rw [f_X7_number_L12, ms_q, h1, h4, if_neg (nI_ge (by omega) (by omega)), rd M hM, Option.bind_some, isFig_eq t2, Option.bind_some, if_pos (decide_eq_true ⟨hd.2.1, hd.2.2⟩), pk_sub hsp, Option.bind_some]
      unfold qpu
      rw [Option.bind_some, nI_add, ms_qu]
      by_cases h3 : p - s < 3
      · rw [if_pos h3] at a1
        rw [if_neg (nI_ge h3 (by omega)), pk_mul, nI_add, pk_sub (by have := hd.2.1; omega), if_pos h3]
        exact a1
      · rw [if_neg h3] at a1
        rw [if_pos (nI_le (by omega) (by omega)), if_neg h3]
        exact a1
    · rw [if_neg hd]
      refine ⟨h, fun M hM => ?_, h4, fun _ _ => rfl⟩
      rw [f_X7_number_L12, ms_q, h1, h4, if_neg (nI_ge (by omega) (by omega)), rd M hM, Option.bind_some, isFig_eq t2, Option.bind_some, if_neg (by rw [decide_eq_true_iff]; exact fun q => hd ⟨by omega, q.1, q.2⟩)]
def fl1 (fn k : Nat) : Nat := if fn = 0 then k else fn
def fl2 (fn : Nat) (fa : Int32) (k q : Nat) : Int32 := if fn = 0 ∧ k ≠ 0 then nI q else fa
theorem fl1_0 (fn : Nat) : fl1 fn 0 = fn := by unfold fl1; split <;> omega
theorem fl2_0 (fn : Nat) (fa : Int32) (q : Nat) : fl2 fn fa 0 q = fa := if_neg (fun h => h.2 rfl)
theorem fail_c {n p fn k q : Nat} {fa : Int32} {h : Nat → Int32} (hs : St h n p fn fa) (hfn : fn < 10) (hk : k ≠ 0) : ∃ h', (∀ M : qM, f_X7_fail (nI k) (nI q) (ms M 3 h) = some (ms M 3 h')) ∧ St h' n p (fl1 fn k) (fl2 fn fa k q) := by
  unfold fl1 fl2
  by_cases h0 : fn = 0
  · refine ⟨upd (upd h 5 (nI k)) 2 (nI q), fun M => ?_, ?_⟩
    · unfold f_X7_fail qpu
      rw [ms_q, hs.2.2.1, h0, if_pos (show nI 0 = 0 from rfl), Option.bind_some, Option.bind_some, ms_qu, ms_qu]
    · rw [if_pos h0, if_pos ⟨h0, hk⟩]
      refine ⟨?_, ?_, ?_, pk_us⟩
      · rw [pk_un (by decide), pk_un (by decide)]; exact hs.1
      · rw [pk_un (by decide), pk_un (by decide)]; exact hs.2.1
      · rw [pk_un (by decide), pk_us]
  · refine ⟨h, fun M => ?_, ?_⟩
    · unfold f_X7_fail
      rw [ms_q, hs.2.2.1, if_neg (nI_ne0 (by omega) (by omega))]
    · rw [if_neg h0, if_neg (fun q => h0 q.1)]; exact hs
theorem number_c {T : Nat → Int32} {tx : Nat → Nat} {n p fn lo hi : Nat} {fa : Int32} {h : Nat → Int32} (hT : TXT T tx n) (hs : St h n p fn fa) (hp : p ≤ n) (hfn : fn < 10) (hlo : lo < 1000) (hhi : hi < 1000) : ∃ h', (∀ M : qM, M 6 = T → f_X7_number (nI lo) (nI hi) (ms M 3 h) = some (nI (NV tx n p).2, ms M 3 h')) ∧ St h' n (NV tx n p).1 (fl1 fn (nf tx n lo hi p)) (fl2 fn fa (nf tx n lo hi p) (SKP tx n p)) := by
  have hn := hT.1
  obtain ⟨h1, a1, s1⟩ := skip_c hT hs hp
  have hq := SKP_le (tx := tx) hp
  obtain ⟨h2, b1, b2, b3⟩ := dig_ok (s := SKP tx n p) (x1 := nI lo) (x2 := nI hi) hT (n - SKP tx n p) (SKP tx n p) qF 0 h1 (by omega) (by rw [qF_val]; omega) s1.1 s1.2.1 ⟨Nat.le_refl _, fun _ => rfl, fun _ => by omega, fun _ => by omega, by omega⟩
  rw [show dg tx n (SKP tx n p) (n - SKP tx n p) (SKP tx n p) 0 = NV tx n p from rfl] at b1 b2
  have s2 := St_at s1 b2 b3
  have hv := NV_v (tx := tx) (n := n) (p := p)
  have hl := NV_le (tx := tx) hp
  have hD := NV_D (tx := tx) hp
  have hN := NV_N (tx := tx) (n := n) (p := p)
  have e : ∀ M : qM, M 6 = T → f_X7_number (nI lo) (nI hi) (ms M 3 h) = (if nI (NV tx n p).1 = nI (SKP tx n p) then (f_X7_fail (nI 1) (nI (NV tx n p).1) (ms M 3 h2)).bind fun M23 => some (nI (NV tx n p).2, M23)
    else if (nI 3) < (nI (NV tx n p).1 - nI (SKP tx n p)) then (f_X7_fail (nI 2) (nI (SKP tx n p)) (ms M 3 h2)).bind fun M27 => some (nI (NV tx n p).2, M27)
    else if nI (NV tx n p).2 < nI lo then (f_X7_fail (nI 2) (nI (SKP tx n p)) (ms M 3 h2)).bind fun M31 => some (nI (NV tx n p).2, M31)
    else if nI (NV tx n p).2 ≤ nI hi then some (nI (NV tx n p).2, ms M 3 h2)
    else (f_X7_fail (nI 2) (nI (SKP tx n p)) (ms M 3 h2)).bind fun M35 => some (nI (NV tx n p).2, M35)) := by
    intro M hM
    unfold f_X7_number
    rw [a1 M hM, Option.bind_some, ms_q, s1.2.1, b1 M hM, Option.bind_some]
    show (if (ms M 3 h2) 3 4 = nI (SKP tx n p) then (f_X7_fail (nI 1) ((ms M 3 h2) 3 4) (ms M 3 h2)).bind fun M23 => some (nI (NV tx n p).2, M23)
    else if (nI 3) < ((ms M 3 h2) 3 4 - nI (SKP tx n p)) then (f_X7_fail (nI 2) (nI (SKP tx n p)) (ms M 3 h2)).bind fun M27 => some (nI (NV tx n p).2, M27)
    else if nI (NV tx n p).2 < nI lo then (f_X7_fail (nI 2) (nI (SKP tx n p)) (ms M 3 h2)).bind fun M31 => some (nI (NV tx n p).2, M31)
    else if nI (NV tx n p).2 ≤ nI hi then some (nI (NV tx n p).2, ms M 3 h2)
    else (f_X7_fail (nI 2) (nI (SKP tx n p)) (ms M 3 h2)).bind fun M35 => some (nI (NV tx n p).2, M35)) = _
    rw [ms_q, s2.2.1]
  by_cases hd : isD tx n (SKP tx n p)
  · have hD := hD hd
    by_cases hb : 3 < (NV tx n p).1 - SKP tx n p ∨ (NV tx n p).2 < lo ∨ hi < (NV tx n p).2
    · have e2 : nf tx n lo hi p = 2 := by unfold nf; rw [if_pos hd, if_pos hb]
      rw [e2]
      obtain ⟨h3, c1, c2⟩ := fail_c (k := 2) (q := SKP tx n p) s2 hfn (by omega)
      refine ⟨h3, fun M hM => ?_, c2⟩
      rw [e M hM, if_neg (fun q => by have := (nI_eq (by omega) (by omega)).mp q; omega), pk_sub (by omega), c1, Option.bind_some]
      by_cases g1 : 3 < (NV tx n p).1 - SKP tx n p
      · rw [if_pos (nI_lt g1 (by omega))]
      · rw [if_neg (nI_nlt (by omega) (by omega))]
        by_cases g2 : (NV tx n p).2 < lo
        · rw [if_pos (nI_lt g2 (by omega))]
        · rw [if_neg (nI_nlt (by omega) (by omega)), if_neg (nI_ge (by omega) (by omega))]
    · have e2 : nf tx n lo hi p = 0 := by unfold nf; rw [if_pos hd, if_neg hb]
      rw [e2]
      refine ⟨h2, fun M hM => ?_, ?_⟩
      · rw [e M hM, if_neg (fun q => by have := (nI_eq (by omega) (by omega)).mp q; omega), pk_sub (by omega), if_neg (nI_nlt (by omega) (by omega)), if_neg (nI_nlt (by omega) (by omega)), if_pos (nI_le (by omega) (by omega))]
      · rw [fl1_0, fl2_0]; exact s2
  · have e2 : nf tx n lo hi p = 1 := by unfold nf; rw [if_neg hd]
    rw [e2]
    obtain ⟨h3, c1, c2⟩ := fail_c (k := 1) (q := SKP tx n p) s2 hfn (by omega)
    refine ⟨h3, fun M hM => ?_, c2⟩
    rw [e M hM, hN hd]
    show (if nI (SKP tx n p) = nI (SKP tx n p) then _ else _) = _
    rw [if_pos rfl]
    show ((f_X7_fail (nI 1) (nI (SKP tx n p)) (ms M 3 h2)).bind _) = _
    rw [c1, Option.bind_some]
def ef (tx : Nat → Nat) (n ch p : Nat) : Nat := if SKP tx n p < n ∧ tx (SKP tx n p) = ch then 0 else 1
def ep (tx : Nat → Nat) (n ch p : Nat) : Nat := if SKP tx n p < n ∧ tx (SKP tx n p) = ch then SKP tx n p + 1 else SKP tx n p
theorem expect_c {T : Nat → Int32} {tx : Nat → Nat} {n p fn ch : Nat} {fa : Int32} {h : Nat → Int32} (hT : TXT T tx n) (hs : St h n p fn fa) (hp : p ≤ n) (hfn : fn < 10) (hch : ch < 256) : ∃ h', (∀ M : qM, M 6 = T → f_X7_expect (nI ch) (ms M 3 h) = some (ms M 3 h')) ∧ St h' n (ep tx n ch p) (fl1 fn (ef tx n ch p)) (fl2 fn fa (ef tx n ch p) (SKP tx n p)) := by
  have hn := hT.1
  obtain ⟨h1, a1, s1⟩ := skip_c hT hs hp
  have hq := SKP_le (tx := tx) hp
  have e : ∀ M : qM, M 6 = T → f_X7_expect (nI ch) (ms M 3 h) = (if nI n ≤ nI (SKP tx n p) then (f_X7_fail (nI 1) (nI (SKP tx n p)) (ms M 3 h1)).bind fun M7 => some (M7)
    else (qrd (ms M 3 h1) 6 240 (nI (SKP tx n p))).bind fun v8 => if v8 = nI ch then (qpu (ms M 3 h1) 3 4 (nI (SKP tx n p) + (nI 1))).bind fun M11 => some (M11)
    else (f_X7_fail (nI 1) (nI (SKP tx n p)) (ms M 3 h1)).bind fun M15 => some (M15)) := by
    intro M hM
    unfold f_X7_expect
    rw [a1 M hM, Option.bind_some, ms_q, s1.1, s1.2.1]
  by_cases hc : SKP tx n p < n ∧ tx (SKP tx n p) = ch
  · unfold ef ep
    rw [if_pos hc, if_pos hc]
    obtain ⟨t1, t2⟩ := hT.2 _ hc.1
    refine ⟨upd h1 4 (nI (SKP tx n p + 1)), fun M hM => ?_, ?_⟩
    · rw [e M hM, if_neg (nI_ge hc.1 (by omega)), qrd_nI (by omega) (by decide), ms_ne (q := 3) (a := 6) _ _ (by decide), hM, t1, Option.bind_some, if_pos (by rw [hc.2]), nI_add]
      unfold qpu
      rw [Option.bind_some, ms_qu]
    · rw [fl1_0, fl2_0]
      exact St_at (h' := upd h1 4 (nI (SKP tx n p + 1))) s1 pk_us (fun j hj => pk_un hj)
  · unfold ef ep
    rw [if_neg hc, if_neg hc]
    obtain ⟨h3, c1, c2⟩ := fail_c (k := 1) (q := SKP tx n p) s1 hfn (by omega)
    refine ⟨h3, fun M hM => ?_, c2⟩
    rw [e M hM, c1, Option.bind_some]
    by_cases g : n ≤ SKP tx n p
    · rw [if_pos (nI_le g (by omega))]
    · obtain ⟨t1, t2⟩ := hT.2 _ (show SKP tx n p < n by omega)
      rw [if_neg (nI_ge (by omega) (by omega)), qrd_nI (by omega) (by decide), ms_ne (q := 3) (a := 6) _ _ (by decide), hM, t1, Option.bind_some, if_neg (fun q => hc ⟨by omega, (nI_eq (by omega) (by omega)).mp q⟩)]
