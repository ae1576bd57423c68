/-- two rows that are alike where strength looks -/
def SA (r r' : Nat → Int32) : Prop := ∀ j, 24 ≤ j → j < 72 → r' j = r j

theorem IT_zero {α : Type} (s : Nat → α → α) (i : Nat) (a : α) : IT s 0 i a = a := rfl
theorem IT_succ {α : Type} (s : Nat → α → α) (m i : Nat) (a : α) : IT s (m + 1) i a = IT s m (i + 1) (s i a) := rfl
theorem ITR_cg {r r' : Nat → Int32} (h : SA r r') {o c : Nat} (ho : o < 6) (hc : c < 6) : ∀ (m k b : Nat), k + m = 5 → (b = 5 ∨ b < k) → IT (Rst r' o c) m k b = IT (Rst r o c) m k b
  | 0, k, b, _, _ => by rw [IT_zero, IT_zero]
  | m + 1, k, b, hk, hb => by
    have e : Rst r' o c k b = Rst r o c k b := by
      unfold Rst
      rw [h (66 + o) (by omega) (by omega), h (24 + c * 5 + k) (by omega) (by omega)]
      by_cases hb5 : b = 5
      · rw [if_pos hb5, if_pos hb5]
      · rw [if_neg hb5, if_neg hb5, h (24 + c * 5 + b) (by omega) (by omega)]
    rw [IT_succ, IT_succ, e]
    exact ITR_cg h ho hc m (k + 1) _ (by omega) (Rst_le r o c k b hb)
theorem Rsn_cg {r r' : Nat → Int32} (h : SA r r') {o c : Nat} (ho : o < 6) (hc : c < 6) : Rsn r' o c = Rsn r o c := by
  unfold Rsn
  rw [h (54 + o) (by omega) (by omega), ITR_cg h ho hc 5 0 5 (by omega) (Or.inl rfl)]
theorem Str_cg {r r' : Nat → Int32} (h : SA r r') {o c : Nat} (ho : o < 6) (hc : c < 6) (s : Int32) : Str r' o c s = Str r o c s := by
  unfold Str Wt
  rw [Rsn_cg h ho hc, h (54 + o) (by omega) (by omega)]
  have hR := Rsn_le r o c
  generalize Rsn r o c = b at hR ⊢
  by_cases hb : b = 5
  · rw [if_pos hb, if_pos hb]
  · rw [if_neg hb, if_neg hb, h (24 + c * 5 + b) (by omega) (by omega)]
theorem Str0_cg {r r' : Nat → Int32} (h : SA r r') {o c : Nat} (ho : o < 6) (hc : c < 6) : Str0 r' o c = Str0 r o c := by
  unfold Str0
  rw [Str_cg h ho hc, h (60 + o) (by omega) (by omega)]
theorem SA_upd {r r' : Nat → Int32} (h : SA r r') {k : Nat} {v : Int32} (hk : k < 24 ∨ 72 ≤ k) : SA r (upd r' k v) := fun j h1 h2 => by rw [pk_un (by omega)]; exact h j h1 h2
theorem SA_rf (r : Nat → Int32) : SA r r := fun _ _ _ => rfl
def bsh (k : Nat) (f : Nat → Int32) : Nat → Int32 := fun b => if 76 + k < b ∧ b < 172 then f (b - 5) else f b
theorem bshL (x1 x2 x3 : Int32) (M : qM) (f : Nat → Int32) : ∀ (k n : Nat), k ≤ 95 → k < n → f_X5_putIntoBox_L5 x1 x2 x3 n (nI (76 + k)) (ms M 2 (bsh k f)) = some (nI 76, ms M 2 (bsh 0 f))
  | k, 0, hk, hn => by omega
  | 0, n + 1, hk, hn => by
    rw [f_X5_putIntoBox_L5, if_pos (nI_lt (by omega) (by omega))]
  | k + 1, n + 1, hk, hn => by
    rw [f_X5_putIntoBox_L5, if_neg (nI_nlt (by omega) (by omega)), pk_sub (by omega), qrd_nI (by omega) (by decide), ms_q]
    simp only [Option.bind_some]
    rw [qwr_nI (by omega) (by decide), ms_qu]
    simp only [Option.bind_some]
    rw [show 76 + (k + 1) = (76 + k) + 1 by omega, pk_m1, ← bshL x1 x2 x3 M f k n (by omega) (by omega)]
    congr 2
    funext b
    unfold upd bsh
    by_cases h1 : b = 76 + k + 1
    · subst h1
      rw [if_pos rfl, if_neg (by omega), if_pos (by omega)]
    · rw [if_neg h1]
      by_cases h2 : 76 + (k + 1) < b ∧ b < 172
      · rw [if_pos h2, if_pos (by omega)]
      · rw [if_neg h2, if_neg (by omega)]
/-- the class's row behind a stand -/
def SUc (f : Nat → Int32) (o c b : Nat) (w t : Int32) : Nat → Int32 :=
  upd (upd (upd (upd (upd (upd (bsh 0 (upd (upd (upd f (18 + c) (Str0 f o c)) (12 + c) w) 4 t)) 72 (f 3)) 73 (nI c)) 74 (nI o)) 75 (bI (Rsn f o c))) 76 (Str0 f o c)) 5 (nI (min 20 (b + 1)))
theorem boxC {M : qM} {f g : Nat → Int32} {o c b : Nat} {s : Int32} (ho : o < 6) (hc : c < 6) (hb : b ≤ 20) (hA : SA f g) (h5 : g 5 = nI b) : f_X5_putIntoBox (nI o) (nI c) s (ms M 2 g) = some (ms M 2 (upd (upd (upd (upd (upd (upd (bsh 0 g) 72 (g 3)) 73 (nI c)) 74 (nI o)) 75 (bI (Rsn f o c))) 76 s) 5 (nI (min 20 (b + 1))))) := by
  have e95 : bsh 95 g = g := by
    funext j
    unfold bsh
    rw [if_neg (by omega)]
  have hl := bshL (nI o) (nI c) s M g 95 qF (by omega) (by rw [qF_val]; omega)
  rw [e95] at hl
  unfold f_X5_putIntoBox f_X5_years
  rw [show (171 : Nat) = 76 + 95 from rfl, hl]
  simp only [Option.bind_some]
  rw [qrd_nI (by omega) (by decide), ms_q]
  simp only [Option.bind_some]
  have g3 : bsh 0 g 3 = g 3 := by unfold bsh; rw [if_neg (by omega)]
  have hA2 : SA f (bsh 0 g) := fun j h1 h2 => by
    show (if 76 + 0 < j ∧ j < 172 then g (j - 5) else g j) = f j
    rw [if_neg (by omega)]; exact hA j h1 h2
  rw [g3, qwr_nI (by omega) (by decide), ms_qu]
  simp only [Option.bind_some]
  rw [qwr_nI (by omega) (by decide), ms_qu]
  simp only [Option.bind_some]
  rw [qwr_nI (by omega) (by decide), ms_qu]
  simp only [Option.bind_some]
  rw [reasonOf_eq ho hc, ms_q, Rsn_cg (SA_upd (SA_upd (SA_upd hA2 (Or.inr (by omega))) (Or.inr (by omega))) (Or.inr (by omega))) ho hc]
  simp only [Option.bind_some]
  rw [qwr_nI (by omega) (by decide), ms_qu]
  simp only [Option.bind_some]
  rw [qwr_nI (by omega) (by decide), ms_qu]
  simp only [Option.bind_some]
  rw [qrd_nI (by omega) (by decide), ms_q]
  simp only [Option.bind_some]
  rw [pk_un (by omega), pk_un (by omega), pk_un (by omega), pk_un (by omega), pk_un (by omega)]
  have g5 : bsh 0 g 5 = nI b := by unfold bsh; rw [if_neg (by omega)]; exact h5
  rw [g5, nI_add, qmin_nI (by omega) (by omega), qwr_nI (by omega) (by decide), ms_qu]
  rfl
theorem Wed_st {f : Nat → Int32} {o c : Nat} {v : Int32} (ho : o < 6) (hc : c < 6) : Wed (upd f (18 + c) v) o c 0 = Wed f o c 0 := by
  have hA : SA f (upd f (18 + c) v) := SA_upd (SA_rf f) (Or.inl (by omega))
  unfold Wed StrY Gr
  rw [Str_cg hA ho hc, pk_un (show 12 + c ≠ 18 + c by omega), pk_un (show 6 + c ≠ 18 + c by omega), pk_un (show 0 ≠ 18 + c by omega), pk_un (show 54 + o ≠ 18 + c by omega), pk_un (show 60 + o ≠ 18 + c by omega)]
theorem stood_or : ∀ t, t < 64 → ∀ o, o < 6 → nI t ||| (nI 1 <<< (nI o &&& 31)) = nI (t ||| 2 ^ o) ∧ t ||| 2 ^ o < 64 := by decide +kernel
theorem standUp_eq {M : qM} {f : Nat → Int32} {o c b t l C O : Nat} (hB : BD f l C O) (ho : o < 6) (hc : c < 6) (hb : b ≤ 20) (h5 : f 5 = nI b) (ht : t < 64) (h4 : f 4 = nI t) : f_X5_standUp (nI o) (nI c) (ms M 2 f) = some (ms M 2 (SUc f o c b (if Wed f o c 0 then nI 1 else nI 2) (nI (t ||| 2 ^ o)))) := by
  unfold f_X5_standUp
  rw [strengthIn_eq ho hc, ms_q, StrY_0 hB ho]
  simp only [Option.bind_some]
  rw [nI_add, nI_add, qwr_nI (by omega) (by decide), ms_qu]
  simp only [Option.bind_some]
  rw [wedIn_eq ho hc, ms_q, Wed_st ho hc]
  simp only [Option.bind_some]
  have main : ∀ w : Int32, ((qwr (ms M 2 (upd f (18 + c) (Str0 f o c))) 2 172 (nI (12 + c)) w).bind fun M10 => (qrd M10 2 172 (nI 4)).bind fun v12 => (qwr M10 2 172 (nI 4) (v12 ||| ((nI 1) <<< (nI o &&& 31)))).bind fun M14 => (f_X5_putIntoBox (nI o) (nI c) (Str0 f o c) M14).bind fun M18 => some (M18)) = some (ms M 2 (SUc f o c b w (nI (t ||| 2 ^ o)))) := by
    intro w
    rw [qwr_nI (by omega) (by decide), ms_qu]
    simp only [Option.bind_some]
    rw [qrd_nI (by omega) (by decide), ms_q, pk_un (by omega), pk_un (by omega), h4]
    simp only [Option.bind_some]
    rw [(stood_or t ht o ho).1]
    rw [qwr_nI (by omega) (by decide), ms_qu]
    simp only [Option.bind_some]
    rw [boxC (f := f) ho hc hb (SA_upd (SA_upd (SA_upd (SA_rf f) (Or.inl (by omega))) (Or.inl (by omega))) (Or.inl (by omega))) (by rw [pk_un (by omega), pk_un (by omega), pk_un (by omega)]; exact h5)]
    simp only [Option.bind_some]
    rw [pk_un (show 3 ≠ 4 by omega), pk_un (show 3 ≠ 12 + c by omega), pk_un (show 3 ≠ 18 + c by omega)]
    rfl
  by_cases hw : Wed f o c 0 = true
  · rw [if_pos hw, if_pos hw]; exact main (nI 1)
  · rw [if_neg hw, if_neg hw]; exact main (nI 2)
-- the reference
def nsh (k : Nat) (f : Nat → Int32) : Nat → Int32 := fun b => if 63 + k ≤ b ∧ b < 158 then f (b + 5) else f b
theorem nshL (x2 x3 : Int32) (M : qM) : ∀ (k n : Nat) (f : Nat → Int32), k ≤ 95 → 95 - k < n → f_X12_boxes_at25_28_L12 x2 x3 n (nI k) (ms M 28 f) = some (nI 95, ms M 28 (nsh k f))
  | k, 0, f, hk, hn => by omega
  | k, n + 1, f, hk, hn => by
    rw [f_X12_boxes_at25_28_L12]
    by_cases h : 95 ≤ k
    · have hkk : k = 95 := by omega
      subst hkk
      rw [if_pos (nI_le (Nat.le_refl _) (by omega))]
      congr 3
      funext b
      unfold nsh
      rw [if_neg (by omega)]
    · rw [if_neg (nI_ge (by omega) (by omega)), nI_add, nI_add, nI_add, qrd_nI (by omega) (by decide), ms_q]
      simp only [Option.bind_some]
      rw [qwr_nI (by omega) (by decide), ms_qu]
      simp only [Option.bind_some]
      rw [nshL x2 x3 M (k + 1) n _ (by omega) (by omega)]
      congr 3
      funext b
      unfold nsh upd
      by_cases h1 : b = 63 + k
      · subst h1
        rw [if_neg (by omega), if_pos rfl, if_pos (by omega)]
      · by_cases h2 : 63 + (k + 1) ≤ b ∧ b < 158
        · rw [if_pos h2, if_pos (show 63 + k ≤ b ∧ b < 158 by omega), if_neg (show ¬ b + 5 = 63 + k by omega)]
        · rw [if_neg h2, if_neg h1, if_neg (show ¬ (63 + k ≤ b ∧ b < 158) by omega)]
/-- what the reference writes into its box, at b places -/
def bxM (nw : Nat → Int32) (o c b : Nat) (r s : Int32) : Nat → Int32 := upd (upd (upd (upd (upd (upd nw (63 + 5 * b) (nw 0)) (63 + 5 * b + 1) (nI c)) (63 + 5 * b + 2) (nI o)) (63 + 5 * b + 3) r) (63 + 5 * b + 4) s) 62 (nI (b + 1))
theorem RW_upd {r dn nw : Nat → Int32} (h : RW r dn nw) {k : Nat} {v : Int32} (hk : k < 19 ∨ 61 ≤ k) : RW r dn (upd nw k v) :=
  ⟨fun i hi => by rw [pk_un (by omega)]; exact h.1 i hi, fun i hi => by rw [pk_un (by omega), pk_un (by omega)]; exact h.2 i hi⟩
theorem boxM_tail {M : qM} {r nw : Nat → Int32} {o c b : Nat} (hW : RW r (M 26) nw) (ho : o < 6) (hc : c < 6) (hb : b < 20) (h62 : nw 62 = nI b) :
    ((qrd (ms M 28 nw) 28 163 (nI 62)).bind fun v40 => (qrd (ms M 28 nw) 28 163 (nI 0)).bind fun v42 => (qwr (ms M 28 nw) 28 163 ((nI 63) + ((nI 5) * v40)) v42).bind fun M44 => (qwr M44 28 163 (((nI 63) + ((nI 5) * v40)) + (nI 1)) (nI c)).bind fun M46 => (qwr M46 28 163 (((nI 63) + ((nI 5) * v40)) + (nI 2)) (nI o)).bind fun M48 => (f_X12_reasonOn_at25_28 (nI o) (nI c) M48).bind fun r52 => (qwr M48 28 163 (((nI 63) + ((nI 5) * v40)) + (nI 3)) r52).bind fun M53 => (f_X12_strengthOn_at25_28 (nI o) (nI c) M53).bind fun r57 => (qwr M53 28 163 (((nI 63) + ((nI 5) * v40)) + (nI 4)) r57).bind fun M58 => (qrd M58 28 163 (nI 62)).bind fun v60 => (qwr M58 28 163 (nI 62) (v60 + (nI 1))).bind fun M62 => some (M62)) = some (ms M 28 (bxM nw o c b (bI (Rsn r o c)) (Str0 r o c))) := by
  rw [qrd_nI (by omega) (by decide), qrd_nI (by omega) (by decide), ms_q, h62]
  simp only [Option.bind_some, pk_mul, nI_add]
  rw [qwr_nI (by omega) (by decide), ms_qu]
  simp only [Option.bind_some]
  rw [qwr_nI (by omega) (by decide), ms_qu]
  simp only [Option.bind_some]
  rw [qwr_nI (by omega) (by decide), ms_qu]
  simp only [Option.bind_some]
  have w3 : RW r (M 26) (upd (upd (upd nw (63 + 5 * b) (nw 0)) (63 + 5 * b + 1) (nI c)) (63 + 5 * b + 2) (nI o)) := RW_upd (RW_upd (RW_upd hW (Or.inr (by omega))) (Or.inr (by omega))) (Or.inr (by omega))
  rw [reasonOn28_w (M := ms M 28 _) (r := r) (by rw [ms_q, ms_ne _ _ (by decide)]; exact w3) ho hc]
  simp only [Option.bind_some]
  rw [qwr_nI (by omega) (by decide), ms_qu]
  simp only [Option.bind_some]
  rw [strengthOn28_w (M := ms M 28 _) (r := r) (by rw [ms_q, ms_ne _ _ (by decide)]; exact RW_upd w3 (Or.inr (by omega))) ho hc]
  simp only [Option.bind_some]
  rw [qwr_nI (by omega) (by decide), ms_qu]
  simp only [Option.bind_some]
  rw [qrd_nI (by omega) (by decide), ms_q, pk_un (by omega), pk_un (by omega), pk_un (by omega), pk_un (by omega), pk_un (by omega), h62]
  simp only [Option.bind_some, nI_add]
  rw [qwr_nI (by omega) (by decide), ms_qu]
  rfl
def boxN (nw : Nat → Int32) (b : Nat) : Nat → Int32 := if b = 20 then upd (nsh 0 nw) 62 (nI 19) else nw
def boxB (b : Nat) : Nat := if b = 20 then 19 else b

theorem boxesM {M : qM} {r nw : Nat → Int32} {o c b : Nat} (hW : RW r (M 26) nw) (ho : o < 6) (hc : c < 6) (hb : b ≤ 20) (h62 : nw 62 = nI b) : f_X12_boxes_at25_28 (nI o) (nI c) (ms M 28 nw) = some (ms M 28 (bxM (boxN nw b) o c (boxB b) (bI (Rsn r o c)) (Str0 r o c))) := by
  unfold f_X12_boxes_at25_28
  rw [qrd_nI (show 62 < 163 by omega) (by decide), ms_q, h62, Option.bind_some]
  by_cases h : b = 20
  · subst h
    have n62 : nsh 0 nw 62 = nI 20 := by unfold nsh; rw [if_neg (by omega)]; exact h62
    rw [if_pos rfl, nshL _ _ M 0 qF nw (by omega) (by rw [qF_val]; omega), Option.bind_some, show ((nI 95, ms M 28 (nsh 0 nw)) : Int32 × qM).2 = ms M 28 (nsh 0 nw) from rfl, qrd_nI (show 62 < 163 by omega) (by decide), ms_q, n62, Option.bind_some, pk_sub (by omega), show (20 - 1 : Nat) = 19 from rfl, qwr_nI (show 62 < 163 by omega) (by decide), ms_qu, Option.bind_some]
    have hW2 : RW r (M 26) (upd (nsh 0 nw) 62 (nI 19)) := RW_upd ⟨fun i hi => by
      show r (24 + i) = (if 63 + 0 ≤ 19 + i ∧ 19 + i < 158 then nw (19 + i + 5) else nw (19 + i))
      rw [if_neg (by omega)]; exact hW.1 i hi, fun i hi => by
      show _ ∧ r (60 + i) = (if 63 + 0 ≤ 49 + i ∧ 49 + i < 158 then nw (49 + i + 5) else nw (49 + i)) ∧ r (66 + i) = (if 63 + 0 ≤ 55 + i ∧ 55 + i < 158 then nw (55 + i + 5) else nw (55 + i))
      rw [if_neg (by omega), if_neg (by omega)]; exact hW.2 i hi⟩ (Or.inr (by omega))
    unfold boxN boxB
    rw [if_pos rfl, if_pos rfl]
    exact boxM_tail (M := M) hW2 ho hc (show 19 < 20 by omega) pk_us
  · rw [if_neg (fun q => h ((nI_eq (by omega) (by omega)).mp q)), Option.bind_some]
    unfold boxN boxB
    rw [if_neg h, if_neg h]
    have := boxM_tail (M := M) hW ho hc (show b < 20 by omega) h62
    rw [qrd_nI (show 62 < 163 by omega) (by decide), ms_q, h62, Option.bind_some] at this
    exact this
def SUm (nw : Nat → Int32) (o c b : Nat) (w s t rr ss : Int32) : Nat → Int32 := upd (upd (upd (bxM (boxN nw b) o c (boxB b) rr ss) (7 + c) w) (13 + c) s) 61 t
theorem boxN_lo {nw : Nat → Int32} {b j : Nat} (h : j < 62) : boxN nw b j = nw j := by
  unfold boxN
  split
  · rw [pk_un (by omega)]; unfold nsh; rw [if_neg (by omega)]
  · rfl
theorem bxM_lo {nw : Nat → Int32} {o c b j : Nat} {rr ss : Int32} (h : j < 62) : bxM nw o c b rr ss j = nw j := by
  unfold bxM
  rw [pk_un (by omega), pk_un (by omega), pk_un (by omega), pk_un (by omega), pk_un (by omega), pk_un (by omega)]
theorem standsM {M : qM} {r nw : Nat → Int32} {o c b t : Nat} (hP : RP r (M 26) nw) (ho : o < 6) (hc : c < 6) (hb : b ≤ 20) (h62 : nw 62 = nI b) (ht : t < 64) (h61 : nw 61 = nI t) : f_X12_stands_at25_28 (nI o) (nI c) (ms M 28 nw) = some (Wds r o c, ms M 28 (SUm nw o c b (if Wds r o c then nI 1 else nI 2) (if Wds r o c then Str0 r o c else -1) (nI (t ||| 2 ^ o)) (bI (Rsn r o c)) (Str0 r o c))) := by
  unfold f_X12_stands_at25_28
  have e26 : ms M 28 nw 26 = M 26 := ms_ne _ _ (by decide)
  rw [weds28_eq (M := ms M 28 nw) (r := r) (by rw [ms_q, e26]; exact hP) ho hc, boxesM hP.rw ho hc hb h62]
  simp only [Option.bind_some]
  have hb61 : bxM (boxN nw b) o c (boxB b) (bI (Rsn r o c)) (Str0 r o c) 61 = nI t := by rw [bxM_lo (by omega), boxN_lo (by omega)]; exact h61
  have hRW : RW r (M 26) (bxM (boxN nw b) o c (boxB b) (bI (Rsn r o c)) (Str0 r o c)) := ⟨fun i hi => by rw [bxM_lo (by omega), boxN_lo (by omega)]; exact hP.rw.1 i hi, fun i hi => by rw [bxM_lo (by omega), boxN_lo (by omega), bxM_lo (by omega), boxN_lo (by omega)]; exact hP.rw.2 i hi⟩
  cases hw : Wds r o c with
  | true =>
    simp only [if_true]
    rw [nI_add, nI_add, qwr_nI (by omega) (by decide), ms_qu]
    simp only [Option.bind_some]
    rw [strengthOn28_w (M := ms M 28 _) (r := r) (by rw [ms_q, ms_ne _ _ (by decide)]; exact RW_upd hRW (Or.inl (by omega))) ho hc]
    simp only [Option.bind_some]
    rw [qwr_nI (by omega) (by decide), ms_qu]
    simp only [Option.bind_some]
    rw [qrd_nI (by omega) (by decide), ms_q, pk_un (by omega), pk_un (by omega), hb61]
    simp only [Option.bind_some]
    rw [(stood_or t ht o ho).1]
    rw [qwr_nI (by omega) (by decide), ms_qu]
    rfl
  | false =>
    simp only [Bool.false_eq_true, if_false]
    rw [nI_add, nI_add, qwr_nI (by omega) (by decide), ms_qu]
    simp only [Option.bind_some]
    rw [qwr_nI (by omega) (by decide), ms_qu]
    simp only [Option.bind_some]
    rw [qrd_nI (by omega) (by decide), ms_q, pk_un (by omega), pk_un (by omega), hb61]
    simp only [Option.bind_some]
    rw [(stood_or t ht o ho).1]
    rw [qwr_nI (by omega) (by decide), ms_qu]
    rfl
