/-- a loop that counts up -/
def IT {α : Type} (step : Nat → α → α) : Nat → Nat → α → α
  | 0, _, a => a
  | m + 1, i, a => IT step m (i + 1) (step i a)
theorem up1 {α β : Type} {F : Nat → α → Int32 → Option β} {N : Nat} {step : Nat → α → α} {fin : α → β} (I : Nat → α → Prop) (he : ∀ n a, I N a → F (n + 1) a (nI N) = some (fin a)) (hs : ∀ n i a, i < N → I i a → F (n + 1) a (nI i) = F n (step i a) (nI (i + 1)) ∧ I (i + 1) (step i a)) : ∀ (m i n : Nat) (a : α), i + m = N → m < n → I i a → F n a (nI i) = some (fin (IT step m i a)) ∧ I N (IT step m i a)
  | 0, i, 0, a, hi, hn, hI => by omega
  | m + 1, i, 0, a, hi, hn, hI => by omega
  | 0, i, n + 1, a, hi, hn, hI => by
    have e : i = N := by omega
    subst e
    exact ⟨he n a hI, hI⟩
  | m + 1, i, n + 1, a, hi, hn, hI => by
    obtain ⟨h1, h2⟩ := hs n i a (by omega) hI
    rw [h1]
    exact up1 I he hs m (i + 1) n (step i a) (by omega) (by omega) h2
theorem IT_congr {α : Type} {s t : Nat → α → α} : ∀ (m i : Nat) (a : α), (∀ k x, i ≤ k → k < i + m → s k x = t k x) → IT s m i a = IT t m i a
  | 0, _, _, _ => rfl
  | m + 1, i, a, h => by
    show IT s m (i + 1) (s i a) = IT t m (i + 1) (t i a)
    rw [h i a (by omega) (by omega)]
    exact IT_congr m (i + 1) _ (fun k x h1 h2 => h k x (by omega) (by omega))
-- reason, strength, weddings: of a row
def bI (b : Nat) : Int32 := if b = 5 then -1 else nI b
theorem bI_5 : bI 5 = -1 := rfl
theorem bI_lt {b : Nat} (h : b < 5) : bI b = nI b := if_neg (by omega)
theorem nI_m1 {b : Nat} (h : b < 2 ^ 31) : ¬ nI b = (-1 : Int32) := by
  intro e
  rw [fa_eq, nI_toInt h] at e
  have : ((-1 : Int32)).toInt = -1 := by decide
  omega
def Rst (r : Nat → Int32) (o c k b : Nat) : Nat := if ((r (66 + o) >>> (nI k &&& 31)) &&& nI 1) = nI 1 then (if b = 5 then k else if r (24 + c * 5 + k) ≤ r (24 + c * 5 + b) then b else k) else b
def Rsn (r : Nat → Int32) (o c : Nat) : Nat := if r (54 + o) = nI 3 then 5 else IT (Rst r o c) 5 0 5
def Sv (k s w : Int32) : Int32 := if k = nI 0 then w + s else if k = nI 1 then nI 2 * w + s / nI 2 else if k = nI 2 then w * s / nI 4 else s
def Wt (r : Nat → Int32) (c b : Nat) : Int32 := if b = 5 then nI 0 else r (24 + c * 5 + b)
def Gr (r : Nat → Int32) (o y : Nat) : Int32 := if r (54 + o) = 0 then qmin (nI 40) (r (60 + o) + nI y) else r (60 + o)
def Str (r : Nat → Int32) (o c : Nat) (s : Int32) : Int32 := Sv (r (54 + o)) s (Wt r c (Rsn r o c))
def Str0 (r : Nat → Int32) (o c : Nat) : Int32 := Str r o c (r (60 + o))
def StrY (r : Nat → Int32) (o c y : Nat) : Int32 := Str r o c (Gr r o y)
def Cnt (r : Nat → Int32) (o c : Nat) : Bool := !decide (Str0 r o c < r 0)
def Wds (r : Nat → Int32) (o c : Nat) : Bool := Cnt r o c && !decide (r (6 + c) < Str0 r o c)
def Wed (r : Nat → Int32) (o c y : Nat) : Bool := decide (r (12 + c) = 0) && (!decide (StrY r o c y < r 0) && !decide (qmin (nI 99) (r (6 + c) + nI y) < StrY r o c y))
theorem Rst_le (r : Nat → Int32) (o c k b : Nat) (hb : b = 5 ∨ b < k) : Rst r o c k b = 5 ∨ Rst r o c k b < k + 1 := by
  unfold Rst
  split
  · split
    · right; omega
    · split
      · omega
      · right; omega
  · omega
theorem IT_R (r : Nat → Int32) (o c : Nat) : ∀ (m k b : Nat), (b = 5 ∨ b < k) → IT (Rst r o c) m k b = 5 ∨ IT (Rst r o c) m k b < k + m
  | 0, k, b, h => by simpa [IT] using h
  | m + 1, k, b, h => by
    show IT (Rst r o c) m (k + 1) (Rst r o c k b) = 5 ∨ _
    have := IT_R r o c m (k + 1) _ (Rst_le r o c k b h)
    show _ ∨ IT (Rst r o c) m (k + 1) (Rst r o c k b) < k + (m + 1)
    omega
theorem Rsn_le (r : Nat → Int32) (o c : Nat) : Rsn r o c ≤ 5 := by
  unfold Rsn
  split
  · omega
  · have := IT_R r o c 5 0 5 (Or.inl rfl)
    omega
theorem reasonOf_eq {M : qM} {o c : Nat} (ho : o < 6) (hc : c < 6) : f_X5_reasonOf (nI o) (nI c) M = some (bI (Rsn (M 2) o c)) := by
  unfold f_X5_reasonOf f_X5_kind Rsn
  simp only [nI_add, qrd_nI (show 54 + o < 172 by omega) (show 172 < 2 ^ 31 by decide), Option.bind_some]
  by_cases h : M 2 (54 + o) = nI 3
  · rw [if_pos h, if_pos h]; rfl
  · rw [if_neg h, if_neg h]
    have key := (up1 (F := fun n (b : Nat) i => f_X5_reasonOf_L16 (nI o) (nI c) M n (bI b) i) (N := 5) (step := Rst (M 2) o c) (fin := fun b => (bI b, nI 5)) (fun k b => b = 5 ∨ b < k) (fun n b hb => ?_) (fun n k b hk hb => ⟨?_, Rst_le _ _ _ _ _ hb⟩) 5 0 qF 5 (by omega) (by rw [qF_val]; omega) (Or.inl rfl)).1
    · rw [show (-1 : Int32) = bI 5 from rfl, key]; rfl
    · show f_X5_reasonOf_L16 _ _ _ _ _ _ = _
      rw [f_X5_reasonOf_L16, if_pos (nI_le (Nat.le_refl _) (by omega))]
    · show f_X5_reasonOf_L16 _ _ _ _ _ _ = f_X5_reasonOf_L16 _ _ _ _ _ _
      rw [f_X5_reasonOf_L16, if_neg (nI_ge hk (by omega))]
      simp only [f_X5_known, f_X5_weight, pk_mul, nI_add, qrd_nI (show 66 + o < 172 by omega) (show 172 < 2 ^ 31 by decide), qrd_nI (show 24 + c * 5 + k < 172 by omega) (show 172 < 2 ^ 31 by decide), Option.bind_some, Rst]
      by_cases h1 : ((M 2 (66 + o) >>> (nI k &&& 31)) &&& nI 1) = nI 1
      · rw [if_pos h1, if_pos h1]
        by_cases h2 : b = 5
        · subst h2
          rw [if_pos bI_5, if_pos rfl, bI_lt hk]
        · have hb5 : b < 5 := by omega
          rw [bI_lt hb5, if_neg (nI_m1 (by omega)), if_neg h2]
          simp only [nI_add, qrd_nI (show 24 + c * 5 + b < 172 by omega) (show 172 < 2 ^ 31 by decide), Option.bind_some]
          by_cases h3 : M 2 (24 + c * 5 + k) ≤ M 2 (24 + c * 5 + b)
          · rw [if_pos h3, if_pos h3, bI_lt hb5]
          · rw [if_neg h3, if_neg h3, bI_lt hk]
      · rw [if_neg h1, if_neg h1]
theorem strengthBy_eq (k s w : Int32) (M : qM) : f_X11_strengthBy k s w M = some (Sv k s w) := by
  unfold f_X11_strengthBy Sv qdiv
  rw [if_neg (show ¬ nI 2 = 0 by decide), if_neg (show ¬ nI 4 = 0 by decide)]
  simp only [Option.bind_some]
  split
  · rfl
  · split
    · rfl
    · split <;> rfl
theorem strengthByM_eq (k s w : Int32) (M : qM) : f_X12_strengthBy k s w M = some (Sv k s w) := strengthBy_eq k s w M
theorem strengthIn_eq {M : qM} {o c y : Nat} (ho : o < 6) (hc : c < 6) : f_X5_strengthIn (nI o) (nI c) (nI y) M = some (StrY (M 2) o c y) := by
  unfold f_X5_strengthIn
  rw [reasonOf_eq ho hc]
  simp only [f_X5_kind, f_X5_skill, f_X5_weight, nI_add, pk_mul, qrd_nI (show 54 + o < 172 by omega) (show 172 < 2 ^ 31 by decide), qrd_nI (show 60 + o < 172 by omega) (show 172 < 2 ^ 31 by decide), Option.bind_some, strengthBy_eq, StrY, Str, Gr, Wt]
  have hR := Rsn_le (M 2) o c
  generalize Rsn (M 2) o c = b at hR ⊢
  by_cases h2 : b = 5
  · subst h2
    rw [if_pos bI_5, if_pos rfl]
    split <;> rfl
  · have hb5 : b < 5 := by omega
    rw [bI_lt hb5, if_neg (nI_m1 (by omega)), if_neg h2]
    simp only [nI_add, qrd_nI (show 24 + c * 5 + b < 172 by omega) (show 172 < 2 ^ 31 by decide), Option.bind_some]
    split <;> rfl
theorem Gr_0 {r : Nat → Int32} {o s : Nat} (hs : s ≤ 40) (h : r (60 + o) = nI s) : Gr r o 0 = r (60 + o) := by
  unfold Gr
  rw [h, nI_add, qmin_nI (by omega) (by omega), show min 40 (s + 0) = s by omega]
  split <;> rfl
theorem StrY_0 {r : Nat → Int32} {o c l C O : Nat} (hB : BD r l C O) (ho : o < 6) : StrY r o c 0 = Str0 r o c := by
  obtain ⟨-, ⟨s, hs, e⟩, -⟩ := hB.2.2.2.2.2.2.2.2 o ho
  unfold StrY Str0
  rw [Gr_0 hs e]
theorem objects_eq {M : qM} {o c l C O : Nat} (hB : BD (M 2) l C O) (ho : o < 6) (hc : c < 6) : f_X5_objects (nI o) (nI c) M = some (Cnt (M 2) o c) := by
  unfold f_X5_objects f_X5_least Cnt
  rw [show (nI 0) = nI 0 from rfl, strengthIn_eq ho hc, StrY_0 hB ho, qrd_nI (by omega) (by decide)]
  simp only [Option.bind_some]
  by_cases h : Str0 (M 2) o c < M 2 0
  · rw [if_pos h]; simp [h]
  · rw [if_neg h]; simp [h]
theorem wedIn_eq {M : qM} {o c y : Nat} (ho : o < 6) (hc : c < 6) : f_X5_wedIn (nI o) (nI c) (nI y) M = some (Wed (M 2) o c y) := by
  unfold f_X5_wedIn f_X5_least f_X5_answer f_X5_waits Wed
  rw [strengthIn_eq ho hc, qrd_nI (show 0 < 172 by omega) (by decide)]
  simp only [nI_add, qrd_nI (show 6 + c < 172 by omega) (show 172 < 2 ^ 31 by decide), qrd_nI (show 12 + c < 172 by omega) (show 172 < 2 ^ 31 by decide), Option.bind_some]
  by_cases h1 : M 2 (12 + c) = 0
  · rw [if_pos h1]
    simp only [Option.bind_some, if_true, h1, decide_true, Bool.true_and]
    by_cases h2 : StrY (M 2) o c y < M 2 0
    · rw [if_pos h2]; simp [h2]
    · rw [if_neg h2]
      by_cases h3 : qmin (nI 99) (M 2 (6 + c) + nI y) < StrY (M 2) o c y
      · rw [if_pos h3]; simp [h3]
      · rw [if_neg h3]; simp [h2, h3]
  · rw [if_neg h1]
    simp [h1]
theorem Wed_0 {r : Nat → Int32} {o c l C O : Nat} (hB : BD r l C O) (ho : o < 6) (hc : c < 6) : Wed r o c 0 = (decide (r (12 + c) = 0) && Wds r o c) := by
  obtain ⟨⟨a, ha, e⟩, -⟩ := hB.2.2.2.2.2.2.1 c hc
  unfold Wed Wds Cnt
  rw [StrY_0 hB ho, e, nI_add, qmin_nI (by omega) (by omega), show min 99 (a + 0) = a by omega]
theorem has_eq (v i : Int32) (M : qM) : f_X12_has v i M = some (decide (((v >>> (i &&& 31)) &&& nI 1) = nI 1)) := by
  unfold f_X12_has
  by_cases h : ((v >>> (i &&& 31)) &&& nI 1) = nI 1
  · rw [if_pos h]; simp [h]
  · rw [if_neg h]; simp [h]
def RW (r dn nw : Nat → Int32) : Prop := (∀ k, k < 30 → r (24 + k) = nw (19 + k)) ∧ ∀ o, o < 6 → r (54 + o) = dn (39 + o) ∧ r (60 + o) = nw (49 + o) ∧ r (66 + o) = nw (55 + o)
theorem RP.rw {r dn nw : Nat → Int32} (h : RP r dn nw) : RW r dn nw := ⟨h.2.2.1, h.2.2.2.1⟩
theorem reasonOn28_w {M : qM} {r : Nat → Int32} {o c : Nat} (hP : RW r (M 26) (M 28)) (ho : o < 6) (hc : c < 6) : f_X12_reasonOn_at25_28 (nI o) (nI c) M = some (bI (Rsn r o c)) := by
  have hk := (hP.2 o ho).1
  have hn := (hP.2 o ho).2.2
  have hw : ∀ k, k < 5 → r (24 + c * 5 + k) = M 28 (19 + 5 * c + k) := fun k hk => by
    have := hP.1 (c * 5 + k) (by omega)
    rw [show 24 + c * 5 + k = 24 + (c * 5 + k) by omega, this]; congr 1; omega
  unfold f_X12_reasonOn_at25_28 Rsn
  rw [hk]
  by_cases h : M 26 (39 + o) = nI 3
  · rw [if_pos h, qF_val, f_X12_reasonOn_at25_28_L6, if_neg (nI_ge (by omega) (by omega)), nI_add, qrd_nI (by omega) (by decide)]
    simp only [Option.bind_some]
    rw [if_pos h]; rfl
  · rw [if_neg h]
    have key := (up1 (F := fun n (b : Nat) i => f_X12_reasonOn_at25_28_L6 (nI o) (nI c) M n (bI b) i) (N := 5) (step := Rst r o c) (fin := fun b => (bI b, nI 5)) (fun k b => b = 5 ∨ b < k) (fun n b hb => ?_) (fun n k b hk hb => ⟨?_, Rst_le _ _ _ _ _ hb⟩) 5 0 qF 5 (by omega) (by rw [qF_val]; omega) (Or.inl rfl)).1
    · rw [show (-1 : Int32) = bI 5 from rfl, key]; rfl
    · show f_X12_reasonOn_at25_28_L6 _ _ _ _ _ _ = _
      rw [f_X12_reasonOn_at25_28_L6, if_pos (nI_le (Nat.le_refl _) (by omega))]
    · show f_X12_reasonOn_at25_28_L6 _ _ _ _ _ _ = f_X12_reasonOn_at25_28_L6 _ _ _ _ _ _
      rw [f_X12_reasonOn_at25_28_L6, if_neg (nI_ge hk (by omega))]
      simp only [has_eq, pk_mul, nI_add, qrd_nI (show 39 + o < 57 by omega) (show 57 < 2 ^ 31 by decide), qrd_nI (show 55 + o < 163 by omega) (show 163 < 2 ^ 31 by decide), qrd_nI (show 19 + 5 * c + k < 163 by omega) (show 163 < 2 ^ 31 by decide), Option.bind_some, Rst, if_neg h, decide_eq_true_iff, ← hn]
      by_cases h2 : b = 5
      · subst h2
        rw [if_pos bI_5, if_pos rfl]
        by_cases h1 : ((r (66 + o) >>> (nI k &&& 31)) &&& nI 1) = nI 1
        · rw [if_pos h1, if_pos h1]; rw [bI_lt hk]
        · rw [if_neg h1, if_neg h1]
      · have hb5 : b < 5 := by omega
        rw [bI_lt hb5, if_neg (nI_m1 (by omega)), if_neg h2]
        simp only [nI_add, qrd_nI (show 19 + 5 * c + b < 163 by omega) (show 163 < 2 ^ 31 by decide), Option.bind_some, ← hw k hk, ← hw b hb5]
        by_cases h1 : ((r (66 + o) >>> (nI k &&& 31)) &&& nI 1) = nI 1
        · simp only [if_pos h1]
          by_cases h3 : r (24 + c * 5 + k) ≤ r (24 + c * 5 + b)
          · rw [if_pos h3, if_pos h3, bI_lt hb5]
          · rw [if_neg h3, if_neg h3, bI_lt hk]
        · simp only [if_neg h1]
          by_cases h3 : r (24 + c * 5 + k) ≤ r (24 + c * 5 + b)
          · rw [if_pos h3, bI_lt hb5]
          · rw [if_neg h3, bI_lt hb5]
theorem strengthOn28_w {M : qM} {r : Nat → Int32} {o c : Nat} (hP : RW r (M 26) (M 28)) (ho : o < 6) (hc : c < 6) : f_X12_strengthOn_at25_28 (nI o) (nI c) M = some (Str0 r o c) := by
  have hk := (hP.2 o ho).1
  have hs := (hP.2 o ho).2.1
  unfold f_X12_strengthOn_at25_28
  rw [reasonOn28_w hP ho hc]
  simp only [nI_add, pk_mul, qrd_nI (show 39 + o < 57 by omega) (show 57 < 2 ^ 31 by decide), qrd_nI (show 49 + o < 163 by omega) (show 163 < 2 ^ 31 by decide), Option.bind_some, strengthByM_eq, Str0, Str, Wt, ← hk, ← hs]
  have hR := Rsn_le r o c
  generalize Rsn r o c = b at hR ⊢
  by_cases h2 : b = 5
  · subst h2
    rw [if_pos bI_5, if_pos rfl]
  · have hb5 : b < 5 := by omega
    rw [bI_lt hb5, if_neg (nI_m1 (by omega)), if_neg h2]
    have hw := hP.1 (c * 5 + b) (by omega)
    rw [show 24 + (c * 5 + b) = 24 + c * 5 + b by omega, show 19 + (c * 5 + b) = 19 + 5 * c + b by omega] at hw
    simp only [nI_add, qrd_nI (show 19 + 5 * c + b < 163 by omega) (show 163 < 2 ^ 31 by decide), Option.bind_some, ← hw]
theorem reasonOn28_eq {M : qM} {r : Nat → Int32} {o c : Nat} (hP : RP r (M 26) (M 28)) (ho : o < 6) (hc : c < 6) : f_X12_reasonOn_at25_28 (nI o) (nI c) M = some (bI (Rsn r o c)) := reasonOn28_w hP.rw ho hc
theorem strengthOn28_eq {M : qM} {r : Nat → Int32} {o c : Nat} (hP : RP r (M 26) (M 28)) (ho : o < 6) (hc : c < 6) : f_X12_strengthOn_at25_28 (nI o) (nI c) M = some (Str0 r o c) := strengthOn28_w hP.rw ho hc
theorem counts28_eq {M : qM} {r : Nat → Int32} {o c : Nat} (hP : RP r (M 26) (M 28)) (ho : o < 6) (hc : c < 6) : f_X12_counts_at25_28 (nI o) (nI c) M = some (Cnt r o c) := by
  unfold f_X12_counts_at25_28 Cnt
  rw [strengthOn28_eq hP ho hc, qrd_nI (by omega) (by decide), ← hP.1.1]
  simp only [Option.bind_some]
  by_cases h : Str0 r o c < r 0
  · rw [if_pos h]; simp [h]
  · rw [if_neg h]; simp [h]
theorem weds28_eq {M : qM} {r : Nat → Int32} {o c : Nat} (hP : RP r (M 26) (M 28)) (ho : o < 6) (hc : c < 6) : f_X12_weds_at25_28 (nI o) (nI c) M = some (Wds r o c) := by
  unfold f_X12_weds_at25_28 Wds
  rw [counts28_eq hP ho hc, strengthOn28_eq hP ho hc, nI_add, qrd_nI (by omega) (by decide), ← (hP.2.1 c hc).1]
  simp only [Option.bind_some]
  cases Cnt r o c with
  | false => rfl
  | true =>
    simp only [if_true, Bool.true_and]
    by_cases h : r (6 + c) < Str0 r o c
    · rw [if_pos h]; simp [h]
    · rw [if_neg h]; simp [h]
theorem reasonOn29_w {M : qM} {r : Nat → Int32} {o c : Nat} (hP : RW r (M 26) (M 29)) (ho : o < 6) (hc : c < 6) : f_X12_reasonOn_at25_29 (nI o) (nI c) M = some (bI (Rsn r o c)) := by
  have hk := (hP.2 o ho).1
  have hn := (hP.2 o ho).2.2
  have hw : ∀ k, k < 5 → r (24 + c * 5 + k) = M 29 (19 + 5 * c + k) := fun k hk => by
    have := hP.1 (c * 5 + k) (by omega)
    rw [show 24 + c * 5 + k = 24 + (c * 5 + k) by omega, this]; congr 1; omega
  unfold f_X12_reasonOn_at25_29 Rsn
  rw [hk]
  by_cases h : M 26 (39 + o) = nI 3
  · rw [if_pos h, qF_val, f_X12_reasonOn_at25_29_L6, if_neg (nI_ge (by omega) (by omega)), nI_add, qrd_nI (by omega) (by decide)]
    simp only [Option.bind_some]
    rw [if_pos h]; rfl
  · rw [if_neg h]
    have key := (up1 (F := fun n (b : Nat) i => f_X12_reasonOn_at25_29_L6 (nI o) (nI c) M n (bI b) i) (N := 5) (step := Rst r o c) (fin := fun b => (bI b, nI 5)) (fun k b => b = 5 ∨ b < k) (fun n b hb => ?_) (fun n k b hk hb => ⟨?_, Rst_le _ _ _ _ _ hb⟩) 5 0 qF 5 (by omega) (by rw [qF_val]; omega) (Or.inl rfl)).1
    · rw [show (-1 : Int32) = bI 5 from rfl, key]; rfl
    · show f_X12_reasonOn_at25_29_L6 _ _ _ _ _ _ = _
      rw [f_X12_reasonOn_at25_29_L6, if_pos (nI_le (Nat.le_refl _) (by omega))]
    · show f_X12_reasonOn_at25_29_L6 _ _ _ _ _ _ = f_X12_reasonOn_at25_29_L6 _ _ _ _ _ _
      rw [f_X12_reasonOn_at25_29_L6, if_neg (nI_ge hk (by omega))]
      simp only [has_eq, pk_mul, nI_add, qrd_nI (show 39 + o < 57 by omega) (show 57 < 2 ^ 31 by decide), qrd_nI (show 55 + o < 163 by omega) (show 163 < 2 ^ 31 by decide), qrd_nI (show 19 + 5 * c + k < 163 by omega) (show 163 < 2 ^ 31 by decide), Option.bind_some, Rst, if_neg h, decide_eq_true_iff, ← hn]
      by_cases h2 : b = 5
      · subst h2
        rw [if_pos bI_5, if_pos rfl]
        by_cases h1 : ((r (66 + o) >>> (nI k &&& 31)) &&& nI 1) = nI 1
        · rw [if_pos h1, if_pos h1]; rw [bI_lt hk]
        · rw [if_neg h1, if_neg h1]
      · have hb5 : b < 5 := by omega
        rw [bI_lt hb5, if_neg (nI_m1 (by omega)), if_neg h2]
        simp only [nI_add, qrd_nI (show 19 + 5 * c + b < 163 by omega) (show 163 < 2 ^ 31 by decide), Option.bind_some, ← hw k hk, ← hw b hb5]
        by_cases h1 : ((r (66 + o) >>> (nI k &&& 31)) &&& nI 1) = nI 1
        · simp only [if_pos h1]
          by_cases h3 : r (24 + c * 5 + k) ≤ r (24 + c * 5 + b)
          · rw [if_pos h3, if_pos h3, bI_lt hb5]
          · rw [if_neg h3, if_neg h3, bI_lt hk]
        · simp only [if_neg h1]
          by_cases h3 : r (24 + c * 5 + k) ≤ r (24 + c * 5 + b)
          · rw [if_pos h3, bI_lt hb5]
          · rw [if_neg h3, bI_lt hb5]
theorem strengthOn29_w {M : qM} {r : Nat → Int32} {o c : Nat} (hP : RW r (M 26) (M 29)) (ho : o < 6) (hc : c < 6) : f_X12_strengthOn_at25_29 (nI o) (nI c) M = some (Str0 r o c) := by
  have hk := (hP.2 o ho).1
  have hs := (hP.2 o ho).2.1
  unfold f_X12_strengthOn_at25_29
  rw [reasonOn29_w hP ho hc]
  simp only [nI_add, pk_mul, qrd_nI (show 39 + o < 57 by omega) (show 57 < 2 ^ 31 by decide), qrd_nI (show 49 + o < 163 by omega) (show 163 < 2 ^ 31 by decide), Option.bind_some, strengthByM_eq, Str0, Str, Wt, ← hk, ← hs]
  have hR := Rsn_le r o c
  generalize Rsn r o c = b at hR ⊢
  by_cases h2 : b = 5
  · subst h2
    rw [if_pos bI_5, if_pos rfl]
  · have hb5 : b < 5 := by omega
    rw [bI_lt hb5, if_neg (nI_m1 (by omega)), if_neg h2]
    have hw := hP.1 (c * 5 + b) (by omega)
    rw [show 24 + (c * 5 + b) = 24 + c * 5 + b by omega, show 19 + (c * 5 + b) = 19 + 5 * c + b by omega] at hw
    simp only [nI_add, qrd_nI (show 19 + 5 * c + b < 163 by omega) (show 163 < 2 ^ 31 by decide), Option.bind_some, ← hw]
theorem reasonOn29_eq {M : qM} {r : Nat → Int32} {o c : Nat} (hP : RP r (M 26) (M 29)) (ho : o < 6) (hc : c < 6) : f_X12_reasonOn_at25_29 (nI o) (nI c) M = some (bI (Rsn r o c)) := reasonOn29_w hP.rw ho hc
theorem strengthOn29_eq {M : qM} {r : Nat → Int32} {o c : Nat} (hP : RP r (M 26) (M 29)) (ho : o < 6) (hc : c < 6) : f_X12_strengthOn_at25_29 (nI o) (nI c) M = some (Str0 r o c) := strengthOn29_w hP.rw ho hc
theorem counts29_eq {M : qM} {r : Nat → Int32} {o c : Nat} (hP : RP r (M 26) (M 29)) (ho : o < 6) (hc : c < 6) : f_X12_counts_at25_29 (nI o) (nI c) M = some (Cnt r o c) := by
  unfold f_X12_counts_at25_29 Cnt
  rw [strengthOn29_eq hP ho hc, qrd_nI (by omega) (by decide), ← hP.1.1]
  simp only [Option.bind_some]
  by_cases h : Str0 r o c < r 0
  · rw [if_pos h]; simp [h]
  · rw [if_neg h]; simp [h]
theorem weds29_eq {M : qM} {r : Nat → Int32} {o c : Nat} (hP : RP r (M 26) (M 29)) (ho : o < 6) (hc : c < 6) : f_X12_weds_at25_29 (nI o) (nI c) M = some (Wds r o c) := by
  unfold f_X12_weds_at25_29 Wds
  rw [counts29_eq hP ho hc, strengthOn29_eq hP ho hc, nI_add, qrd_nI (by omega) (by decide), ← (hP.2.1 c hc).1]
  simp only [Option.bind_some]
  cases Cnt r o c with
  | false => rfl
  | true =>
    simp only [if_true, Bool.true_and]
    by_cases h : r (6 + c) < Str0 r o c
    · rw [if_pos h]; simp [h]
    · rw [if_neg h]; simp [h]
